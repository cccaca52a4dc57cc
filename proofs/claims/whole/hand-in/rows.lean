section
theorem pk_us {f : Nat → Int32} {k : Nat} {x : Int32} : upd f k x k = x := if_pos rfl
theorem pk_un {f : Nat → Int32} {k j : Nat} {x : Int32} (h : j ≠ k) : upd f k x j = f j := if_neg h
theorem pk_sub {a b : Nat} (h : b ≤ a) : nI a - nI b = nI (a - b) := by
  obtain ⟨c, rfl⟩ : ∃ c, a = c + b := ⟨a - b, by omega⟩
  rw [← nI_add, Int32.add_sub_cancel, Nat.add_sub_cancel]
theorem pk_m1 (n : Nat) : nI (n + 1) + (-1) = nI n := by
  rw [← nI_1, Int32.add_assoc, show (1 : Int32) + (-1) = 0 from rfl, Int32.add_zero]
theorem pk_mul (a b : Nat) : nI a * nI b = nI (a * b) := (Int32.ofNat_mul a b).symm
theorem pk_div {a d : Nat} (ha : a < 2 ^ 31) (h0 : 0 < d) (hd : d < 2 ^ 31) : nI a / nI d = nI (a / d) := by
  apply Int32.toInt_inj.mp
  rw [lg_idiv_nonneg (by rw [nI_toInt ha]; omega) (by rw [nI_toInt hd]; omega), nI_toInt ha, nI_toInt hd, nI_toInt (Nat.lt_of_le_of_lt (Nat.div_le_self a d) ha)]
  first | rfl | exact (Int.natCast_ediv _ _).symm
theorem pk_rem {a d : Nat} (ha : a < 2 ^ 31) (h0 : 0 < d) (hd : d < 2 ^ 31) : nI a - nI a / nI d * nI d = nI (a % d) := by
  rw [pk_div ha h0 hd, pk_mul, pk_sub (Nat.div_mul_le_self a d)]
  exact congrArg nI (by have := Nat.div_add_mod' a d; omega)
theorem pk_ix (x : Int32) {n : Nat} (hn : n < 2 ^ 31) : x < 0 ∨ nI n ≤ x ∨ ∃ j : Nat, j < n ∧ x = nI j := by
  by_cases h : x < 0
  · exact Or.inl h
  · obtain ⟨j, hj, rfl⟩ := nI_of h
    by_cases h2 : j < n
    · exact Or.inr (Or.inr ⟨j, h2, rfl⟩)
    · exact Or.inr (Or.inl (nI_le (by omega) hj))
theorem pk_in {x : Int32} (n N : Nat) (h : n < N) (hx : x = nI n := by rfl) (hN : N < 2 ^ 31 := by omega) : vp_in x N := by
  subst hx
  exact vp_in_nI h hN
theorem pk_cl {x : Int32} (n : Nat) (hx : x = nI n := by rfl) (h : n < 2 ^ 31 := by omega) : x.toNatClampNeg = n := by
  subst hx
  exact nI_clamp h
theorem pk_tn {n : Nat} (h : n < 2 ^ 32) : (nI n).toBitVec.toNat = n := Nat.mod_eq_of_lt h
theorem pk_and (x : Int32) {m : Int32} (k : Nat) (hm : m.toBitVec.toNat = 2 ^ k - 1) : x &&& m = nI (x.toBitVec.toNat % 2 ^ k) := by
  apply Int32.toBitVec_inj.mp
  apply BitVec.eq_of_toNat_eq
  rw [Int32.toBitVec_and, BitVec.toNat_and, hm, Nat.and_two_pow_sub_one_eq_mod]
  show _ = (BitVec.ofNat 32 _).toNat
  rw [BitVec.toNat_ofNat]
  exact (Nat.mod_eq_of_lt (Nat.lt_of_le_of_lt (Nat.mod_le _ _) x.toBitVec.isLt)).symm
theorem pk_andN {n : Nat} (h : n < 2 ^ 32) {m : Int32} (k : Nat) (hm : m.toBitVec.toNat = 2 ^ k - 1) : nI n &&& m = nI (n % 2 ^ k) := by
  rw [pk_and _ k hm, pk_tn h]
theorem pk_andE (x : Int32) {m : Int32} (k : Nat) (hm : m.toBitVec.toNat = 2 ^ k - 1) : ∃ j : Nat, j < 2 ^ k ∧ x &&& m = nI j := ⟨_, Nat.mod_lt _ (Nat.two_pow_pos k), pk_and x k hm⟩
theorem pk_shr (a s : Int32) (k : Nat) (hs : (s.toBitVec.smod 32).toNat = k) : (a >>> s).toInt = a.toInt >>> k := by
  show (a.toBitVec.sshiftRight (s.toBitVec.smod 32).toNat).toInt = _
  rw [hs, BitVec.toInt_sshiftRight]
  rfl
theorem pk_shrN {n : Nat} (h : n < 2 ^ 31) (s : Int32) (k : Nat) (hs : (s.toBitVec.smod 32).toNat = k) : nI n >>> s = nI (n / 2 ^ k) := by
  apply Int32.toInt_inj.mp
  have h2 : n / 2 ^ k ≤ n := Nat.div_le_self _ _
  rw [pk_shr _ _ k hs, nI_toInt h, nI_toInt (by omega), Int.shiftRight_eq_div_pow]
  rfl
end
section
theorem tk_ge {P : Nat → Prop} {lo m : Nat} (hp : ¬ P lo) (a : ∀ j, lo + 1 ≤ j → j < m → ¬ P j) : ∀ j, lo ≤ j → j < m → ¬ P j := by
  intro j x y
  rcases Nat.lt_or_ge lo j with z | z
  · exact a j z y
  · have e : j = lo := by omega
    rw [e]; exact hp
def tk_F (P : Nat → Prop) (lo hi : Nat) (r : Int32) : Prop := (r = -1 ∧ ∀ j, lo ≤ j → j < hi → ¬ P j) ∨ ∃ j, lo ≤ j ∧ j < hi ∧ r = nI j ∧ P j ∧ ∀ i, lo ≤ i → i < j → ¬ P i
theorem tk_Fd {P : Nat → Prop} {lo hi : Nat} (hp : P lo) (h : lo < hi) : tk_F P lo hi (nI lo) := Or.inr ⟨lo, Nat.le_refl _, h, rfl, hp, fun i a b => by omega⟩
theorem tk_Fk {P : Nat → Prop} {lo hi : Nat} {r : Int32} (hp : ¬ P lo) (h : tk_F P (lo + 1) hi r) : tk_F P lo hi r := by
  rcases h with ⟨e, a⟩ | ⟨j, a, b, e, c, f⟩
  · exact Or.inl ⟨e, tk_ge hp a⟩
  · exact Or.inr ⟨j, by omega, b, e, c, tk_ge hp f⟩
theorem tk_Fe {P : Nat → Prop} {lo hi : Nat} (h : hi ≤ lo) : tk_F P lo hi (-1) := Or.inl ⟨rfl, fun j a b => by omega⟩
theorem tk_Fex (P : Nat → Prop) (hi : Nat) : ∀ d lo, lo + d = hi → ∃ r, tk_F P lo hi r := by
  intro d
  induction d with
  | zero => intro lo h; exact ⟨-1, tk_Fe (by omega)⟩
  | succ d ih =>
    intro lo h
    by_cases hp : P lo
    · exact ⟨nI lo, tk_Fd hp (by omega)⟩
    · obtain ⟨r, hr⟩ := ih (lo + 1) (by omega)
      exact ⟨r, tk_Fk hp hr⟩
theorem tk_Ft {P : Nat → Prop} {lo hi : Nat} {r : Int32} (h : tk_F P lo hi r) (hl : lo < hi) (hp : P lo) : r = nI lo := by
  rcases h with ⟨e, a⟩ | ⟨j, a, b, e, c, f⟩
  · exact absurd hp (a lo (Nat.le_refl _) hl)
  · rcases Nat.lt_or_ge lo j with z | z
    · exact absurd hp (f lo (Nat.le_refl _) z)
    · have q : j = lo := by omega
      rw [e, q]
theorem tk_Fn {P : Nat → Prop} {lo hi : Nat} {r : Int32} (h : tk_F P lo hi r) (hp : ¬ P lo) : tk_F P (lo + 1) hi r := by
  rcases h with ⟨e, a⟩ | ⟨j, a, b, e, c, f⟩
  · exact Or.inl ⟨e, fun j x y => a j (by omega) y⟩
  · have q : j ≠ lo := fun z => hp (z ▸ c)
    exact Or.inr ⟨j, by omega, b, e, c, fun i x y => f i (by omega) y⟩
theorem tk_Fz {P : Nat → Prop} {lo hi : Nat} {r : Int32} (h : tk_F P lo hi r) (hl : hi ≤ lo) : r = -1 := by
  rcases h with ⟨e, a⟩ | ⟨j, a, b, e, c, f⟩
  · exact e
  · exact absurd b (by omega)
theorem tk_Fu {P : Nat → Prop} {hi : Nat} {r s : Int32} : ∀ d lo, lo + d = hi → tk_F P lo hi r → tk_F P lo hi s → r = s := by
  intro d
  induction d with
  | zero => intro lo h a b; rw [tk_Fz a (by omega), tk_Fz b (by omega)]
  | succ d ih =>
    intro lo h a b
    by_cases hp : P lo
    · rw [tk_Ft a (by omega) hp, tk_Ft b (by omega) hp]
    · exact ih (lo + 1) (by omega) (tk_Fn a hp) (tk_Fn b hp)
theorem tk_nm1 {j : Nat} (h : j < 2 ^ 31) : nI j ≠ -1 := by
  intro e
  have a : (nI j).toInt = (-1 : Int32).toInt := by rw [e]
  rw [nI_toInt h, show (-1 : Int32).toInt = -1 from by decide] at a
  omega
theorem tk_nm2 {j : Nat} (h : j < 2 ^ 31) : nI j ≠ -2 := by
  intro e
  have a : (nI j).toInt = (-2 : Int32).toInt := by rw [e]
  rw [nI_toInt h, show (-2 : Int32).toInt = -2 from by decide] at a
  omega
/-- what a search that answers -1 or the first place says, by cases -/
theorem tk_Fc {P : Nat → Prop} {lo hi : Nat} {r : Int32} (h : tk_F P lo hi r) : (r = -1 ∧ ∀ j, lo ≤ j → j < hi → ¬ P j) ∨ ∃ j, lo ≤ j ∧ j < hi ∧ r = nI j ∧ P j := by
  rcases h with ⟨e, a⟩ | ⟨j, a, b, e, c, f⟩
  · exact Or.inl ⟨e, a⟩
  · exact Or.inr ⟨j, a, b, e, c⟩
def tk_B (P : Nat → Prop) (lo hi : Nat) (r : Int32) : Prop := (r = 1 ∧ ∃ j, lo ≤ j ∧ j < hi ∧ P j) ∨ (r = 0 ∧ ∀ j, lo ≤ j → j < hi → ¬ P j)
theorem tk_Bex (P : Nat → Prop) (lo hi : Nat) : ∃ r, tk_B P lo hi r := by
  by_cases h : ∃ j, lo ≤ j ∧ j < hi ∧ P j
  · exact ⟨1, Or.inl ⟨rfl, h⟩⟩
  · exact ⟨0, Or.inr ⟨rfl, fun j a b c => h ⟨j, a, b, c⟩⟩⟩
theorem tk_Bt {P : Nat → Prop} {lo hi : Nat} {r : Int32} (h : tk_B P lo hi r) (hl : lo < hi) (hp : P lo) : r = 1 := by
  rcases h with ⟨e, _⟩ | ⟨_, a⟩
  · exact e
  · exact absurd hp (a lo (Nat.le_refl _) hl)
theorem tk_Bn {P : Nat → Prop} {lo hi : Nat} {r : Int32} (h : tk_B P lo hi r) (hp : ¬ P lo) : tk_B P (lo + 1) hi r := by
  rcases h with ⟨e, j, a, b, c⟩ | ⟨e, a⟩
  · have q : j ≠ lo := fun z => hp (z ▸ c)
    exact Or.inl ⟨e, j, by omega, b, c⟩
  · exact Or.inr ⟨e, fun j x y => a j (by omega) y⟩
theorem tk_Bz {P : Nat → Prop} {lo hi : Nat} {r : Int32} (h : tk_B P lo hi r) (hl : hi ≤ lo) : r = 0 := by
  rcases h with ⟨e, j, a, b, c⟩ | ⟨e, a⟩
  · exact absurd b (by omega)
  · exact e
theorem tk_B01 {P : Nat → Prop} {lo hi : Nat} {r : Int32} (h : tk_B P lo hi r) : r = 0 ∨ r = 1 := by
  rcases h with ⟨e, _⟩ | ⟨e, _⟩
  · exact Or.inr e
  · exact Or.inl e
theorem tk_pig : ∀ (n : Nat) (f : Nat → Nat) (m : Nat), (∀ i, i < m → f i < n) → (∀ i j, i < j → j < m → f i ≠ f j) → m ≤ n := by
  intro n
  induction n with
  | zero =>
    intro f m h _
    rcases Nat.eq_zero_or_pos m with z | z
    · omega
    · exact absurd (h 0 z) (by omega)
  | succ n ih =>
    intro f m h hd
    by_cases hx : ∃ i, i < m ∧ f i = n
    · obtain ⟨i, hi, e⟩ := hx
      have k := ih (fun j => if j < i then f j else f (j + 1)) (m - 1) (by
        intro j hj
        show (if j < i then f j else f (j + 1)) < n
        by_cases c : j < i
        · rw [if_pos c]
          have a := h j (by omega)
          have b := hd j i c hi
          omega
        · rw [if_neg c]
          have a := h (j + 1) (by omega)
          have b := hd i (j + 1) (by omega) (by omega)
          omega) (by
        intro a b hab hb
        show (if a < i then f a else f (a + 1)) ≠ (if b < i then f b else f (b + 1))
        by_cases c1 : a < i
        · by_cases c2 : b < i
          · rw [if_pos c1, if_pos c2]; exact hd a b hab (by omega)
          · rw [if_pos c1, if_neg c2]; exact hd a (b + 1) (by omega) (by omega)
        · by_cases c2 : b < i
          · exact absurd c2 (by omega)
          · rw [if_neg c1, if_neg c2]; exact hd (a + 1) (b + 1) (by omega) (by omega))
      omega
    · have k := ih f m (fun i hi => by
        have a := h i hi
        have b : f i ≠ n := fun z => hx ⟨i, hi, z⟩
        omega) hd
      omega
theorem tk_uc {f : Nat → Int32} {k j : Nat} {x : Int32} (P : Int32 → Prop) (h1 : j = k → P x) (h2 : j ≠ k → P (f j)) : P (upd f k x j) := by
  by_cases h : j = k
  · rw [h, pk_us]; exact h1 h
  · rw [pk_un h]; exact h2 h
theorem tk_uid (f : Nat → Int32) (k : Nat) : upd f k (f k) = f := by
  funext j
  exact tk_uc (P := fun y => y = f j) (fun e => by rw [e]) (fun _ => rfl)
theorem tk_ni {a b : Nat} (ha : a < 2 ^ 31) (hb : b < 2 ^ 31) (h : nI a = nI b) : a = b := (nI_eq ha hb).mp h
/-- the queue: its first n entries are processes that are ready, no two alike -/
def tk_Q (st qu : Nat → Int32) (n : Nat) : Prop := (∀ i, i < n → ∃ j, j < 6 ∧ qu i = nI j ∧ st j = 1) ∧ (∀ i j, i < j → j < n → qu i ≠ qu j)
def tk_out (qu : Nat → Int32) (n p : Nat) : Prop := ∀ i, i < n → qu i ≠ nI p
theorem tk_Qo {st qu : Nat → Int32} {n p : Nat} (h : tk_Q st qu n) (hp : p < 6) (h1 : st p ≠ 1) : tk_out qu n p := by
  intro i hi e
  obtain ⟨j, hj, ej, sj⟩ := h.1 i hi
  rw [ej] at e
  have q := tk_ni (by omega) (by omega) e
  rw [q] at sj
  exact h1 sj
theorem tk_Q5 {st qu : Nat → Int32} {n p : Nat} (h : tk_Q st qu n) (hp : p < 6) (ho : tk_out qu n p) : n ≤ 5 := by
  have k := tk_pig 6 (fun i => (if i < n then qu i else nI p).toNatClampNeg) (n + 1) (by
    intro i hi
    show (if i < n then qu i else nI p).toNatClampNeg < 6
    by_cases c : i < n
    · obtain ⟨j, hj, ej, _⟩ := h.1 i c
      rw [if_pos c, ej, nI_clamp (by omega)]; exact hj
    · rw [if_neg c, nI_clamp (by omega)]; exact hp) (by
    intro i j hij hj
    show (if i < n then qu i else nI p).toNatClampNeg ≠ (if j < n then qu j else nI p).toNatClampNeg
    obtain ⟨a, ha, ea, _⟩ := h.1 i (by omega)
    have oi := ho i (by omega)
    rw [if_pos (show i < n by omega)]
    by_cases c : j < n
    · obtain ⟨b, hb, eb, _⟩ := h.1 j c
      have d := h.2 i j hij c
      rw [if_pos c, ea, eb, nI_clamp (by omega), nI_clamp (by omega)]
      intro z
      rw [ea, eb, z] at d
      exact d rfl
    · rw [if_neg c, ea, nI_clamp (by omega), nI_clamp (by omega)]
      intro z
      rw [ea, z] at oi
      exact oi rfl)
  omega
theorem tk_Q6 {st qu : Nat → Int32} {n : Nat} (h : tk_Q st qu n) : n ≤ 6 := by
  refine tk_pig 6 (fun i => (qu i).toNatClampNeg) n (fun i hi => ?_) (fun i j hij hj => ?_)
  · obtain ⟨j, hj, ej, _⟩ := h.1 i hi
    show (qu i).toNatClampNeg < 6
    rw [ej, nI_clamp (by omega)]; exact hj
  · obtain ⟨a, ha, ea, _⟩ := h.1 i (by omega)
    obtain ⟨b, hb, eb, _⟩ := h.1 j hj
    have d := h.2 i j hij hj
    show (qu i).toNatClampNeg ≠ (qu j).toNatClampNeg
    rw [ea, eb, nI_clamp (by omega), nI_clamp (by omega)]
    intro z
    rw [ea, eb, z] at d
    exact d rfl
theorem tk_Qm {st st' qu : Nat → Int32} {n : Nat} (h : tk_Q st qu n) (hs : ∀ j, j < 6 → st j = 1 → tk_out qu n j ∨ st' j = 1) : tk_Q st' qu n := by
  refine ⟨fun i hi => ?_, h.2⟩
  obtain ⟨j, hj, ej, sj⟩ := h.1 i hi
  rcases hs j hj sj with o | o
  · exact absurd ej (o i hi)
  · exact ⟨j, hj, ej, o⟩
theorem tk_Qa {st qu : Nat → Int32} {n p : Nat} (h : tk_Q st qu n) (hp : p < 6) (ho : tk_out qu n p) : tk_Q (upd st p 1) (upd qu n (nI p)) (n + 1) := by
  constructor
  · intro i hi
    rcases Nat.lt_or_ge i n with c | c
    · obtain ⟨j, hj, ej, sj⟩ := h.1 i c
      refine ⟨j, hj, ?_, ?_⟩
      · rw [pk_un (by omega)]; exact ej
      · exact tk_uc (P := fun y => y = 1) (fun _ => rfl) (fun _ => sj)
    · have e : i = n := by omega
      exact ⟨p, hp, by rw [e, pk_us], pk_us⟩
  · intro i j hij hj
    rcases Nat.lt_or_ge j n with c | c
    · rw [pk_un (show i ≠ n by omega), pk_un (show j ≠ n by omega)]; exact h.2 i j hij c
    · have e : j = n := by omega
      rw [e, pk_us, pk_un (show i ≠ n by omega)]
      exact ho i (by omega)
theorem tk_oa {qu : Nat → Int32} {n p q : Nat} (h : tk_out qu n q) (hp : p < 6) (hq : q < 6) (hn : q ≠ p) : tk_out (upd qu n (nI p)) (n + 1) q := by
  intro i hi
  rcases Nat.lt_or_ge i n with c | c
  · rw [pk_un (by omega)]; exact h i c
  · have e : i = n := by omega
    rw [e, pk_us]
    intro z
    exact hn (tk_ni (by omega) (by omega) z).symm
def tk_lv (q : Nat → Int32) (p : Int32) : Nat → (Nat → Int32) × Nat
  | 0 => (q, 0)
  | i + 1 => if (tk_lv q p i).1 i = p then tk_lv q p i else (upd (tk_lv q p i).1 (tk_lv q p i).2 ((tk_lv q p i).1 i), (tk_lv q p i).2 + 1)
theorem tk_lvt {q : Nat → Int32} {p : Int32} {i : Nat} (h : (tk_lv q p i).1 i = p) : tk_lv q p (i + 1) = tk_lv q p i := if_pos h
theorem tk_lvf {q : Nat → Int32} {p : Int32} {i : Nat} (h : ¬ (tk_lv q p i).1 i = p) : tk_lv q p (i + 1) = (upd (tk_lv q p i).1 (tk_lv q p i).2 ((tk_lv q p i).1 i), (tk_lv q p i).2 + 1) := if_neg h
theorem tk_lvle {q : Nat → Int32} {p : Int32} : ∀ i, (tk_lv q p i).2 ≤ i := by
  intro i
  induction i with
  | zero => exact Nat.le_refl _
  | succ i ih =>
    by_cases c : (tk_lv q p i).1 i = p
    · rw [tk_lvt c]; omega
    · rw [tk_lvf c]; show (tk_lv q p i).2 + 1 ≤ i + 1; omega
theorem tk_lvk {q : Nat → Int32} {p : Int32} : ∀ i j, i ≤ j → (tk_lv q p i).1 j = q j := by
  intro i
  induction i with
  | zero => intro j _; rfl
  | succ i ih =>
    intro j hj
    by_cases c : (tk_lv q p i).1 i = p
    · rw [tk_lvt c]; exact ih j (by omega)
    · rw [tk_lvf c]
      have l := tk_lvle (q := q) (p := p) i
      show upd (tk_lv q p i).1 (tk_lv q p i).2 ((tk_lv q p i).1 i) j = q j
      rw [pk_un (by omega)]; exact ih j (by omega)
theorem tk_lvo {q : Nat → Int32} {p : Int32} {n : Nat} (hd : ∀ i j, i < j → j < n → q i ≠ q j) : ∀ i, i ≤ n → (∀ a, a < (tk_lv q p i).2 → ∃ c, c < i ∧ (tk_lv q p i).1 a = q c ∧ q c ≠ p) ∧ (∀ a b, a < b → b < (tk_lv q p i).2 → (tk_lv q p i).1 a ≠ (tk_lv q p i).1 b) := by
  intro i
  induction i with
  | zero => intro _; exact ⟨fun a h => absurd h (Nat.not_lt_zero a), fun a b _ h => absurd h (Nat.not_lt_zero b)⟩
  | succ i ih =>
    intro hi
    obtain ⟨h1, h2⟩ := ih (by omega)
    by_cases c : (tk_lv q p i).1 i = p
    · rw [tk_lvt c]
      refine ⟨fun a ha => ?_, h2⟩
      obtain ⟨d, e, f⟩ := h1 a ha
      exact ⟨d, by omega, f⟩
    · rw [tk_lvf c]
      have k := tk_lvk (q := q) (p := p) i i (Nat.le_refl _)
      rw [k] at c ⊢
      show (∀ a, a < (tk_lv q p i).2 + 1 → ∃ c, c < i + 1 ∧ upd (tk_lv q p i).1 (tk_lv q p i).2 (q i) a = q c ∧ q c ≠ p) ∧ (∀ a b, a < b → b < (tk_lv q p i).2 + 1 → upd (tk_lv q p i).1 (tk_lv q p i).2 (q i) a ≠ upd (tk_lv q p i).1 (tk_lv q p i).2 (q i) b)
      constructor
      · intro a ha
        rcases Nat.lt_or_ge a (tk_lv q p i).2 with z | z
        · obtain ⟨d, e, f⟩ := h1 a z
          refine ⟨d, by omega, ?_⟩
          rw [pk_un (by omega)]; exact f
        · have e : a = (tk_lv q p i).2 := by omega
          exact ⟨i, by omega, by rw [e, pk_us], c⟩
      · intro a b hab hb
        rcases Nat.lt_or_ge b (tk_lv q p i).2 with z | z
        · rw [pk_un (show a ≠ (tk_lv q p i).2 by omega), pk_un (show b ≠ (tk_lv q p i).2 by omega)]
          exact h2 a b hab z
        · have e : b = (tk_lv q p i).2 := by omega
          rw [pk_un (show a ≠ (tk_lv q p i).2 by omega), e, pk_us]
          obtain ⟨d, x, y, _⟩ := h1 a (by omega)
          rw [y]
          exact hd d i x (by omega)
theorem tk_Ql {st qu : Nat → Int32} {n : Nat} (p : Nat) (h : tk_Q st qu n) : tk_Q st (tk_lv qu (nI p) n).1 (tk_lv qu (nI p) n).2 := by
  obtain ⟨a, b⟩ := tk_lvo (p := nI p) h.2 n (Nat.le_refl _)
  refine ⟨fun i hi => ?_, b⟩
  obtain ⟨c, x, y, _⟩ := a i hi
  rw [y]
  exact h.1 c x
theorem tk_lo {st qu : Nat → Int32} {n : Nat} (p : Nat) (h : tk_Q st qu n) : tk_out (tk_lv qu (nI p) n).1 (tk_lv qu (nI p) n).2 p := by
  intro i hi
  obtain ⟨c, x, y, z⟩ := (tk_lvo (p := nI p) h.2 n (Nat.le_refl _)).1 i hi
  rw [y]; exact z
theorem tk_lo' {st qu : Nat → Int32} {n : Nat} (p : Nat) {q : Nat} (h : tk_Q st qu n) (ho : tk_out qu n q) : tk_out (tk_lv qu (nI p) n).1 (tk_lv qu (nI p) n).2 q := by
  intro i hi
  obtain ⟨c, x, y, z⟩ := (tk_lvo (p := nI p) h.2 n (Nat.le_refl _)).1 i hi
  rw [y]; exact ho c x
end
section
def tk_cp (st pa : Nat → Int32) (p i : Nat) : Nat → Int32 := fun c => if c < i ∧ st c ≠ 0 ∧ pa c = nI p then -1 else pa c
def tk_cs (st pa : Nat → Int32) (p i : Nat) : Nat → Int32 := fun c => if c < i ∧ st c = 3 ∧ pa c = nI p then 0 else st c
theorem tk_cs_or (st pa : Nat → Int32) (p i q : Nat) : tk_cs st pa p i q = st q ∨ (tk_cs st pa p i q = 0 ∧ st q = 3) := by
  by_cases h : q < i ∧ st q = 3 ∧ pa q = nI p
  · exact Or.inr ⟨if_pos h, h.2.1⟩
  · exact Or.inl (if_neg h)
theorem tk_cp_or (st pa : Nat → Int32) (p i q : Nat) : tk_cp st pa p i q = pa q ∨ tk_cp st pa p i q = -1 := by
  by_cases h : q < i ∧ st q ≠ 0 ∧ pa q = nI p
  · exact Or.inr (if_pos h)
  · exact Or.inl (if_neg h)
theorem tk_cs_k {st pa : Nat → Int32} {p i q : Nat} (h : i ≤ q) : tk_cs st pa p i q = st q := if_neg (fun z => by have := z.1; omega)
theorem tk_cp_k {st pa : Nat → Int32} {p i q : Nat} (h : i ≤ q) : tk_cp st pa p i q = pa q := if_neg (fun z => by have := z.1; omega)
theorem tk_cs_n {st pa : Nat → Int32} {p i q : Nat} (h : pa q ≠ nI p) : tk_cs st pa p i q = st q := if_neg (fun z => h z.2.2)
theorem tk_cp_n {st pa : Nat → Int32} {p i q : Nat} (h : pa q ≠ nI p) : tk_cp st pa p i q = pa q := if_neg (fun z => h z.2.2)
theorem tk_cp0 (st pa : Nat → Int32) (p : Nat) : tk_cp st pa p 0 = pa := by funext q; exact tk_cp_k (Nat.zero_le _)
theorem tk_cs0 (st pa : Nat → Int32) (p : Nat) : tk_cs st pa p 0 = st := by funext q; exact tk_cs_k (Nat.zero_le _)
theorem tk_cp_y {st pa : Nat → Int32} {p i : Nat} (h : st i ≠ 0) (h2 : pa i = nI p) : upd (tk_cp st pa p i) i (-1) = tk_cp st pa p (i + 1) := by
  funext q
  refine tk_uc (P := fun y => y = tk_cp st pa p (i + 1) q) (fun e => ?_) (fun e => ?_)
  · exact (if_pos (by rw [e]; exact ⟨by omega, h, h2⟩)).symm
  · by_cases c : q < i ∧ st q ≠ 0 ∧ pa q = nI p
    · exact (if_pos c).trans (if_pos (by obtain ⟨a, b⟩ := c; exact ⟨by omega, b⟩)).symm
    · exact (if_neg c).trans (if_neg (fun z => c (by obtain ⟨a, b⟩ := z; exact ⟨by omega, b⟩))).symm
theorem tk_cp_z {st pa : Nat → Int32} {p i : Nat} (h : ¬ (st i ≠ 0 ∧ pa i = nI p)) : tk_cp st pa p i = tk_cp st pa p (i + 1) := by
  funext q
  by_cases c : q < i ∧ st q ≠ 0 ∧ pa q = nI p
  · exact (if_pos c).trans (if_pos (by obtain ⟨a, b⟩ := c; exact ⟨by omega, b⟩)).symm
  · refine (if_neg c).trans (if_neg (fun z => ?_)).symm
    obtain ⟨a, b⟩ := z
    rcases Nat.lt_or_ge q i with k | k
    · exact c ⟨k, b⟩
    · have e : q = i := by omega
      rw [e] at b; exact h b
theorem tk_cs_y {st pa : Nat → Int32} {p i : Nat} (h : st i = 3) (h2 : pa i = nI p) : upd (tk_cs st pa p i) i 0 = tk_cs st pa p (i + 1) := by
  funext q
  refine tk_uc (P := fun y => y = tk_cs st pa p (i + 1) q) (fun e => ?_) (fun e => ?_)
  · exact (if_pos (by rw [e]; exact ⟨by omega, h, h2⟩)).symm
  · by_cases c : q < i ∧ st q = 3 ∧ pa q = nI p
    · exact (if_pos c).trans (if_pos (by obtain ⟨a, b⟩ := c; exact ⟨by omega, b⟩)).symm
    · exact (if_neg c).trans (if_neg (fun z => c (by obtain ⟨a, b⟩ := z; exact ⟨by omega, b⟩))).symm
theorem tk_cs_z {st pa : Nat → Int32} {p i : Nat} (h : ¬ (st i = 3 ∧ pa i = nI p)) : tk_cs st pa p i = tk_cs st pa p (i + 1) := by
  funext q
  by_cases c : q < i ∧ st q = 3 ∧ pa q = nI p
  · exact (if_pos c).trans (if_pos (by obtain ⟨a, b⟩ := c; exact ⟨by omega, b⟩)).symm
  · refine (if_neg c).trans (if_neg (fun z => ?_)).symm
    obtain ⟨a, b⟩ := z
    rcases Nat.lt_or_ge q i with k | k
    · exact c ⟨k, b⟩
    · have e : q = i := by omega
      rw [e] at b; exact h b
/-- zero from lo on, j cells -/
def tk_z (f : Nat → Int32) (lo j : Nat) : Nat → Int32 := fun i => if lo ≤ i ∧ i < lo + j then 0 else f i
theorem tk_z0 (f : Nat → Int32) (lo : Nat) : tk_z f lo 0 = f := by funext i; exact if_neg (by omega)
theorem tk_zs (f : Nat → Int32) (lo j : Nat) : upd (tk_z f lo j) (lo + j) 0 = tk_z f lo (j + 1) := by
  funext q
  refine tk_uc (P := fun y => y = tk_z f lo (j + 1) q) (fun e => ?_) (fun e => ?_)
  · exact (if_pos (by omega)).symm
  · by_cases c : lo ≤ q ∧ q < lo + j
    · exact (if_pos c).trans (if_pos (by omega)).symm
    · exact (if_neg c).trans (if_neg (by omega)).symm
theorem tk_zin {f : Nat → Int32} {lo j i : Nat} (h : lo ≤ i) (h2 : i < lo + j) : tk_z f lo j i = 0 := if_pos ⟨h, h2⟩
theorem tk_zout {f : Nat → Int32} {lo j i : Nat} (h : i < lo ∨ lo + j ≤ i) : tk_z f lo j i = f i := if_neg (by omega)
theorem tk_zid {f : Nat → Int32} {lo : Nat} {j : Nat} (h : ∀ i, lo ≤ i → i < lo + j → f i = 0) : tk_z f lo j = f := by
  funext i
  by_cases c : lo ≤ i ∧ i < lo + j
  · exact (if_pos c).trans (h i c.1 c.2).symm
  · exact if_neg c
/-- j cells from fr copied to to -/
def tk_y (f : Nat → Int32) (to fr j : Nat) : Nat → Int32 := fun i => if to ≤ i ∧ i < to + j then f (fr + (i - to)) else f i
theorem tk_y0 (f : Nat → Int32) (to fr : Nat) : tk_y f to fr 0 = f := by funext i; exact if_neg (by omega)
theorem tk_yin {f : Nat → Int32} {to fr j i : Nat} (h : to ≤ i) (h2 : i < to + j) : tk_y f to fr j i = f (fr + (i - to)) := if_pos ⟨h, h2⟩
theorem tk_yout {f : Nat → Int32} {to fr j i : Nat} (h : i < to ∨ to + j ≤ i) : tk_y f to fr j i = f i := if_neg (by omega)
theorem tk_ys {f : Nat → Int32} {to fr j L : Nat} (hj : j < L) (hd : fr + L ≤ to ∨ to + L ≤ fr) : upd (tk_y f to fr j) (to + j) (tk_y f to fr j (fr + j)) = tk_y f to fr (j + 1) := by
  funext q
  rw [tk_yout (i := fr + j) (by omega)]
  refine tk_uc (P := fun y => y = tk_y f to fr (j + 1) q) (fun e => ?_) (fun e => ?_)
  · rw [e, tk_yin (by omega) (by omega)]
    exact congrArg f (by omega)
  · by_cases c : to ≤ q ∧ q < to + j
    · exact (if_pos c).trans (if_pos (by omega)).symm
    · exact (if_neg c).trans (if_neg (by omega)).symm
/-- j cells from lo on taken from the next cell -/
def tk_sh (f : Nat → Int32) (lo j : Nat) : Nat → Int32 := fun i => if lo ≤ i ∧ i < lo + j then f (i + 1) else f i
theorem tk_sh0 (f : Nat → Int32) (lo : Nat) : tk_sh f lo 0 = f := by funext i; exact if_neg (by omega)
theorem tk_shs (f : Nat → Int32) (lo j : Nat) : upd (tk_sh f lo j) (lo + j) (tk_sh f lo j (lo + j + 1)) = tk_sh f lo (j + 1) := by
  funext q
  have e0 : tk_sh f lo j (lo + j + 1) = f (lo + j + 1) := if_neg (by omega)
  rw [e0]
  refine tk_uc (P := fun y => y = tk_sh f lo (j + 1) q) (fun e => ?_) (fun e => ?_)
  · rw [e]; exact (if_pos (by omega)).symm
  · by_cases c : lo ≤ q ∧ q < lo + j
    · exact (if_pos c).trans (if_pos (by omega)).symm
    · exact (if_neg c).trans (if_neg (by omega)).symm
def tk_VS (st : Nat → Int32) : Prop := ∀ p, p < 6 → st p = 0 ∨ st p = 1 ∨ st p = 2 ∨ st p = 3
def tk_VD (st ds : Nat → Int32) : Prop := ∀ p, p < 6 → (st p = 0 ∨ st p = 3) → ∀ d, d < 4 → ds (4 * p + d) = 0
def tk_VE (ds : Nat → Int32) : Prop := ∀ i, i < 24 → ∃ e, e ≤ 6 ∧ ds i = nI e
def tk_VL (pl : Nat → Int32) : Prop := ∀ k, k < 3 → ∃ l, l ≤ 4 ∧ pl k = nI l
def tk_VP (st pa : Nat → Int32) : Prop := ∀ p, p < 6 → st p ≠ 0 → pa p = -1 ∨ ∃ j, j < 6 ∧ j ≠ p ∧ pa p = nI j
def tk_V (st pa ds pl qu : Nat → Int32) (n : Nat) : Prop := tk_VS st ∧ tk_VD st ds ∧ tk_VE ds ∧ tk_VL pl ∧ tk_VP st pa ∧ tk_Q st qu n
theorem tk_VPn {st pa : Nat → Int32} {p : Nat} (h : tk_VP st pa) (hp : p < 6) (h0 : st p ≠ 0) : pa p ≠ nI p := by
  intro e
  rcases h p hp h0 with a | ⟨j, a, b, c⟩
  · rw [a] at e; exact tk_nm1 (by omega) e.symm
  · rw [c] at e; exact b (tk_ni (by omega) (by omega) e)
/-- the states after process p is finished -/
def tk_fs (st pa : Nat → Int32) (p : Nat) : Nat → Int32 := upd (tk_cs st pa p 6) p (if pa p = -1 then 0 else 3)
theorem tk_fs_p (st pa : Nat → Int32) (p : Nat) : tk_fs st pa p p = 0 ∨ tk_fs st pa p p = 3 := by
  unfold tk_fs
  rw [pk_us]
  by_cases h : pa p = -1
  · exact Or.inl (if_pos h)
  · exact Or.inr (if_neg h)
theorem tk_fs_q {st pa : Nat → Int32} {p q : Nat} (h : q ≠ p) : tk_fs st pa p q = st q ∨ (tk_fs st pa p q = 0 ∧ st q = 3) := by
  unfold tk_fs
  rw [pk_un h]
  exact tk_cs_or _ _ _ _ _
theorem tk_fs_1 {st pa : Nat → Int32} {p q : Nat} (h : q ≠ p) (h1 : st q = 1) : tk_fs st pa p q = 1 := by
  rcases tk_fs_q (st := st) (pa := pa) h with a | ⟨_, b⟩
  · rw [a]; exact h1
  · rw [h1] at b; exact absurd b (by decide)
theorem tk_V_fin {st pa ds pl qu : Nat → Int32} {n p : Nat} (V : tk_V st pa ds pl qu n) (hp : p < 6) (h0 : st p ≠ 0) : tk_V (tk_fs st pa p) (tk_cp st pa p 6) (tk_z ds (4 * p) 4) pl (tk_lv qu (nI p) n).1 (tk_lv qu (nI p) n).2 := by
  obtain ⟨vs, vd, ve, vl, vp, vq⟩ := V
  refine ⟨?_, ?_, ?_, vl, ?_, ?_⟩
  · intro q hq
    by_cases e : q = p
    · rw [e]
      rcases tk_fs_p st pa p with a | a
      · exact Or.inl a
      · exact Or.inr (Or.inr (Or.inr a))
    · rcases tk_fs_q (st := st) (pa := pa) e with a | ⟨a, _⟩
      · rw [a]; exact vs q hq
      · exact Or.inl a
  · intro q hq hs d hd
    by_cases e : q = p
    · rw [e]; exact tk_zin (by omega) (by omega)
    · rw [tk_zout (by omega)]
      refine vd q hq ?_ d hd
      rcases tk_fs_q (st := st) (pa := pa) e with a | ⟨_, b⟩
      · rw [a] at hs; exact hs
      · exact Or.inr b
  · intro i hi
    by_cases c : 4 * p ≤ i ∧ i < 4 * p + 4
    · exact ⟨0, by omega, by rw [tk_zin c.1 c.2, nI_0]⟩
    · rw [tk_zout (by omega)]; exact ve i hi
  · intro q hq hs
    have k : st q ≠ 0 := by
      by_cases e : q = p
      · rw [e]; exact h0
      · rcases tk_fs_q (st := st) (pa := pa) e with a | ⟨a, _⟩
        · rw [a] at hs; exact hs
        · exact absurd a hs
    rcases tk_cp_or st pa p 6 q with a | a
    · rw [a]; exact vp q hq k
    · exact Or.inl a
  · refine tk_Qm (tk_Ql p vq) (fun j hj sj => ?_)
    by_cases e : j = p
    · rw [e]; exact Or.inl (tk_lo p vq)
    · exact Or.inr (tk_fs_1 e sj)
theorem tk_V_join {st pa ds pl qu : Nat → Int32} {n p : Nat} (V : tk_V st pa ds pl qu n) (hp : p < 6) (h0 : st p ≠ 0) (ho : tk_out qu n p) : tk_V (upd st p 1) pa ds pl (upd qu n (nI p)) (n + 1) := by
  obtain ⟨vs, vd, ve, vl, vp, vq⟩ := V
  refine ⟨?_, ?_, ve, vl, ?_, tk_Qa vq hp ho⟩
  · intro q hq
    exact tk_uc (P := fun y => y = 0 ∨ y = 1 ∨ y = 2 ∨ y = 3) (fun _ => Or.inr (Or.inl rfl)) (fun _ => vs q hq)
  · intro q hq hs
    by_cases e : q = p
    · rw [e, pk_us] at hs; exact absurd hs (by decide)
    · rw [pk_un e] at hs; exact vd q hq hs
  · intro q hq hs
    by_cases e : q = p
    · rw [e]; exact vp p hp h0
    · rw [pk_un e] at hs; exact vp q hq hs
theorem tk_V_wait {st pa ds pl qu : Nat → Int32} {n p : Nat} (V : tk_V st pa ds pl qu n) (hp : p < 6) (h0 : st p ≠ 0) (ho : tk_out qu n p) : tk_V (upd st p 2) pa ds pl qu n := by
  obtain ⟨vs, vd, ve, vl, vp, vq⟩ := V
  refine ⟨?_, ?_, ve, vl, ?_, ?_⟩
  · intro q hq
    exact tk_uc (P := fun y => y = 0 ∨ y = 1 ∨ y = 2 ∨ y = 3) (fun _ => Or.inr (Or.inr (Or.inl rfl))) (fun _ => vs q hq)
  · intro q hq hs
    by_cases e : q = p
    · rw [e, pk_us] at hs; exact absurd hs (by decide)
    · rw [pk_un e] at hs; exact vd q hq hs
  · intro q hq hs
    by_cases e : q = p
    · rw [e]; exact vp p hp h0
    · rw [pk_un e] at hs; exact vp q hq hs
  · refine tk_Qm vq (fun j hj sj => ?_)
    by_cases e : j = p
    · rw [e]; exact Or.inl ho
    · exact Or.inr (by rw [pk_un e]; exact sj)
theorem tk_V_new {st pa ds ds' pl qu : Nat → Int32} {n c : Nat} {x : Int32} (V : tk_V st pa ds pl qu n) (hc : c < 6) (h0 : st c = 0) (hx : x = -1 ∨ ∃ j, j < 6 ∧ j ≠ c ∧ x = nI j) (hd : ∀ i, i < 24 → i < 4 * c ∨ 4 * c + 4 ≤ i → ds' i = ds i) (he : tk_VE ds') : tk_V (upd st c 1) (upd pa c x) ds' pl (upd qu n (nI c)) (n + 1) := by
  obtain ⟨vs, vd, ve, vl, vp, vq⟩ := V
  refine ⟨?_, ?_, he, vl, ?_, tk_Qa vq hc (tk_Qo vq hc (by rw [h0]; decide))⟩
  · intro q hq
    exact tk_uc (P := fun y => y = 0 ∨ y = 1 ∨ y = 2 ∨ y = 3) (fun _ => Or.inr (Or.inl rfl)) (fun _ => vs q hq)
  · intro q hq hs d hdd
    by_cases e : q = c
    · rw [e, pk_us] at hs; exact absurd hs (by decide)
    · rw [pk_un e] at hs
      rw [hd _ (by omega) (by omega)]; exact vd q hq hs d hdd
  · intro q hq hs
    by_cases e : q = c
    · rw [e, pk_us]; exact hx
    · rw [pk_un e] at hs ⊢; exact vp q hq hs
theorem tk_V_free {st pa ds pl qu : Nat → Int32} {n c : Nat} (V : tk_V st pa ds pl qu n) (hc : c < 6) (h3 : st c = 3) : tk_V (upd st c 0) pa ds pl qu n := by
  obtain ⟨vs, vd, ve, vl, vp, vq⟩ := V
  refine ⟨?_, ?_, ve, vl, ?_, ?_⟩
  · intro q hq
    exact tk_uc (P := fun y => y = 0 ∨ y = 1 ∨ y = 2 ∨ y = 3) (fun _ => Or.inl rfl) (fun _ => vs q hq)
  · intro q hq hs
    by_cases e : q = c
    · rw [e]; exact vd c hc (Or.inr h3)
    · rw [pk_un e] at hs; exact vd q hq hs
  · intro q hq hs
    by_cases e : q = c
    · rw [e, pk_us] at hs; exact absurd rfl hs
    · rw [pk_un e] at hs; exact vp q hq hs
  · refine tk_Qm vq (fun j hj sj => ?_)
    by_cases e : j = c
    · rw [e, h3] at sj; exact absurd sj (by decide)
    · exact Or.inr (by rw [pk_un e]; exact sj)
theorem tk_V_ds {st pa ds pl qu : Nat → Int32} {n p d e : Nat} (V : tk_V st pa ds pl qu n) (hp : p < 6) (h1 : st p = 1) (hd : d < 4) (he : e ≤ 6) : tk_V st pa (upd ds (4 * p + d) (nI e)) pl qu n := by
  obtain ⟨vs, vd, ve, vl, vp, vq⟩ := V
  refine ⟨vs, ?_, ?_, vl, vp, vq⟩
  · intro q hq hs d' hd'
    by_cases z : q = p
    · rw [z, h1] at hs; exact absurd hs (by decide)
    · rw [pk_un (by omega)]; exact vd q hq hs d' hd'
  · intro i hi
    exact tk_uc (P := fun y => ∃ e, e ≤ 6 ∧ y = nI e) (fun _ => ⟨e, he, rfl⟩) (fun _ => ve i hi)
theorem tk_V_pl {st pa ds pl qu : Nat → Int32} {n k l : Nat} (V : tk_V st pa ds pl qu n) (hl : l ≤ 4) : tk_V st pa ds (upd pl k (nI l)) qu n := by
  obtain ⟨vs, vd, ve, vl, vp, vq⟩ := V
  refine ⟨vs, vd, ve, ?_, vp, vq⟩
  intro i hi
  exact tk_uc (P := fun y => ∃ e, e ≤ 4 ∧ y = nI e) (fun _ => ⟨l, hl, rfl⟩) (fun _ => vl i hi)
theorem tk_V_leave {st pa ds pl qu : Nat → Int32} {n : Nat} (p : Nat) (V : tk_V st pa ds pl qu n) : tk_V st pa ds pl (tk_lv qu (nI p) n).1 (tk_lv qu (nI p) n).2 := by
  obtain ⟨vs, vd, ve, vl, vp, vq⟩ := V
  exact ⟨vs, vd, ve, vl, vp, tk_Ql p vq⟩
/-- the spots: X keeps a live process's spot and an ended one's result apart, Y in one array; x is left out (6: none) -/
def tk_SP (x : Nat) (st sx rs sy : Nat → Int32) : Prop := ∀ q, q < 6 → q ≠ x → ((st q = 1 ∨ st q = 2) → sy q = sx q) ∧ (st q = 3 → sy q = rs q)
theorem tk_SPm {x : Nat} {st st' sx rs sy : Nat → Int32} (h : tk_SP x st sx rs sy) (hs : ∀ q, q < 6 → q ≠ x → st' q = 0 ∨ st' q = st q) : tk_SP x st' sx rs sy := by
  intro q hq hn
  rcases hs q hq hn with a | a
  · rw [a]; exact ⟨fun z => absurd z (by decide), fun z => absurd z (by decide)⟩
  · rw [a]; exact h q hq hn
theorem tk_SPl {x : Nat} {st st' sx rs sy : Nat → Int32} (h : tk_SP x st sx rs sy) (hs : ∀ q, q < 6 → q ≠ x → st' q = st q ∨ ((st q = 1 ∨ st q = 2) ∧ (st' q = 1 ∨ st' q = 2))) : tk_SP x st' sx rs sy := by
  intro q hq hn
  rcases hs q hq hn with a | ⟨a, b⟩
  · rw [a]; exact h q hq hn
  · exact ⟨fun _ => (h q hq hn).1 a, fun z => by rw [z] at b; exact absurd b (by decide)⟩
theorem tk_SP_fin {x p : Nat} {st pa sx rs sy : Nat → Int32} {r : Int32} (h : tk_SP x st sx rs sy) : tk_SP x (tk_fs st pa p) sx (upd rs p r) (upd sy p r) := by
  intro q hq hn
  by_cases e : q = p
  · rw [e, pk_us, pk_us]
    refine ⟨fun z => ?_, fun _ => rfl⟩
    rcases tk_fs_p st pa p with a | a
    · rw [a] at z; exact absurd z (by decide)
    · rw [a] at z; exact absurd z (by decide)
  · rw [pk_un e, pk_un e]
    rcases tk_fs_q (st := st) (pa := pa) e with a | ⟨a, _⟩
    · rw [a]; exact h q hq hn
    · rw [a]; exact ⟨fun z => absurd z (by decide), fun z => absurd z (by decide)⟩
theorem tk_SP_fin6 {p : Nat} {st pa sx rs sy : Nat → Int32} {r : Int32} (h : tk_SP p st sx rs sy) : tk_SP 6 (tk_fs st pa p) sx (upd rs p r) (upd sy p r) := by
  intro q hq hn
  by_cases e : q = p
  · rw [e, pk_us, pk_us]
    refine ⟨fun z => ?_, fun _ => rfl⟩
    rcases tk_fs_p st pa p with a | a
    · rw [a] at z; exact absurd z (by decide)
    · rw [a] at z; exact absurd z (by decide)
  · exact tk_SP_fin h q hq e
/-- a new process c, live, with the same spot on both sides -/
theorem tk_SP_new {x c : Nat} {st sx rs sy : Nat → Int32} {s : Int32} (h : tk_SP x st sx rs sy) : tk_SP x (upd st c 1) (upd sx c s) rs (upd sy c s) := by
  intro q hq hn
  by_cases e : q = c
  · rw [e, pk_us, pk_us, pk_us]
    exact ⟨fun _ => rfl, fun z => absurd z (by decide)⟩
  · rw [pk_un e, pk_un e, pk_un e]; exact h q hq hn
/-- one process's spot set alike on both sides while it is left out -/
theorem tk_SP_set {p : Nat} {st sx rs sy : Nat → Int32} {s : Int32} (h : tk_SP p st sx rs sy) (h1 : st p = 1) (es : sx p = s) : tk_SP 6 st sx rs (upd sy p s) := by
  intro q hq hn
  by_cases e : q = p
  · rw [e, pk_us, es, h1]
    exact ⟨fun _ => rfl, fun z => absurd z (by decide)⟩
  · rw [pk_un e]; exact h q hq e
theorem tk_SP_x {p : Nat} {st sx rs sy : Nat → Int32} {s : Int32} (h : tk_SP 6 st sx rs sy) : tk_SP p st (upd sx p s) rs sy := by
  intro q hq hn
  rw [pk_un hn]
  exact h q hq (by omega)
theorem tk_SP_jump {p : Nat} {st sx rs sy : Nat → Int32} {s : Int32} (h : tk_SP p st sx rs sy) (h1 : st p = 1) : tk_SP 6 st (upd sx p s) rs (upd sy p s) := by
  intro q hq hn
  by_cases e : q = p
  · rw [e, pk_us, pk_us, h1]
    exact ⟨fun _ => rfl, fun z => absurd z (by decide)⟩
  · rw [pk_un e, pk_un e]; exact h q hq e
end
section
theorem tk_i4 (p r : Nat) : nI p * 4 + nI r = nI (4 * p + r) := by
  rw [show (4 : Int32) = nI 4 from rfl, pk_mul, nI_add]; exact congrArg nI (by omega)
theorem tk_i4' (p r : Nat) : 4 * nI p + nI r = nI (4 * p + r) := by
  rw [show (4 : Int32) = nI 4 from rfl, pk_mul, nI_add]
theorem tk_i40 (p : Nat) : nI p * 4 = nI (4 * p) := by
  rw [show (4 : Int32) = nI 4 from rfl, pk_mul]; exact congrArg nI (by omega)
theorem tk_i40' (p : Nat) : 4 * nI p = nI (4 * p) := by
  rw [show (4 : Int32) = nI 4 from rfl, pk_mul]
theorem tk_i5 (p r : Nat) : nI p * 32 + nI r = nI (32 * p + r) := by
  rw [show (32 : Int32) = nI 32 from rfl, pk_mul, nI_add]; exact congrArg nI (by omega)
theorem tk_i5' (p r : Nat) : 32 * nI p + nI r = nI (32 * p + r) := by
  rw [show (32 : Int32) = nI 32 from rfl, pk_mul, nI_add]
theorem tk_i50 (p : Nat) : nI p * 32 = nI (32 * p) := by
  rw [show (32 : Int32) = nI 32 from rfl, pk_mul]; exact congrArg nI (by omega)
theorem tk_i50' (p : Nat) : 32 * nI p = nI (32 * p) := by
  rw [show (32 : Int32) = nI 32 from rfl, pk_mul]
theorem tk_op {w : Nat} (h : w < 512) : nI w &&& 31 = nI (w % 32) := pk_andN (by omega) 5 (by decide)
theorem tk_wa {w : Nat} (h : w < 512) : nI w >>> ((5 : Int32) &&& 31) &&& 3 = nI (w / 32 % 4) := by
  rw [pk_shrN (by omega) _ 5 (by decide), pk_andN (by omega) 2 (by decide)]
theorem tk_wb {w : Nat} (h : w < 512) : nI w >>> ((7 : Int32) &&& 31) &&& 3 = nI (w / 128) := by
  rw [pk_shrN (by omega) _ 7 (by decide), pk_andN (by omega) 2 (by decide)]
  exact congrArg nI (by omega)
theorem tk_wb' {w : Nat} (h : w < 512) : nI w >>> ((7 : Int32) &&& 31) = nI (w / 128) := pk_shrN (by omega) _ 7 (by decide)
theorem tk_e1 : ∀ e, e < 7 → (nI e - 1) / 2 = nI ((e - 1) / 2) := by decide +kernel
theorem tk_e2 : ∀ e, e < 7 → nI e - nI e / 2 * 2 = nI (e % 2) := by decide +kernel
theorem tk_e3 : ∀ e, e < 7 → nI e &&& 1 = nI (e % 2) := by decide +kernel
theorem tk_ne {a b : Nat} (ha : a < 2 ^ 31) (hb : b < 2 ^ 31) (h : a ≠ b) : ¬ nI a = nI b := fun e => h (tk_ni ha hb e)
theorem tk_lt0 {x : Int32} (h : x < 0) : ¬ 0 ≤ x := Int32.not_le.mpr h
theorem tk_ge0 {x : Int32} (h : ¬ x < 0) : 0 ≤ x := Int32.not_lt.mp h
/-- an int is below 0, or at least n, or a place below n: with both forms of each comparison -/
theorem tk_ix (x : Int32) {n : Nat} (hn : n < 2 ^ 31) : x < 0 ∨ (¬ x < 0 ∧ nI n ≤ x) ∨ ∃ j : Nat, j < n ∧ x = nI j := by
  rcases pk_ix x hn with a | a | a
  · exact Or.inl a
  · by_cases h : x < 0
    · exact Or.inl h
    · exact Or.inr (Or.inl ⟨h, a⟩)
  · exact Or.inr (Or.inr a)
theorem tk_m1lt : (-1 : Int32) < 0 := by decide
theorem tk_m2lt : (-2 : Int32) < 0 := by decide
end
section
section
variable {ql pc lv : Int32} {xc : Int64} {cw cn st sx sy rs pa rg me ds pw pl qu ou : Nat → Int32}
theorem tk_xSpot1 {post : Int32 → Prop} {i : Nat} (hi : i < 64) (h : post 1) : wpX_isSpot post (ql, pc, xc, lv, cw, cn, st, sx, rs, pa, rg, me, ds, pw, pl, qu, ou) (nI i) := br_f (nI_pos (by omega)) (br_f (nI_ge (b := 64) hi (by decide)) h)
theorem tk_xSpot0 {post : Int32 → Prop} {s : Int32} (hs : s < 0 ∨ (¬ s < 0 ∧ nI 64 ≤ s)) (h : post 0) : wpX_isSpot post (ql, pc, xc, lv, cw, cn, st, sx, rs, pa, rg, me, ds, pw, pl, qu, ou) s := by
  rcases hs with a | ⟨a, b⟩
  · exact br_t a h
  · exact br_f a (br_t b h)
theorem tk_xWord1 {post : Int32 → Prop} {i : Nat} (hi : i < 32) (h : post 1) : wpX_isWord post (ql, pc, xc, lv, cw, cn, st, sx, rs, pa, rg, me, ds, pw, pl, qu, ou) (nI i) := br_f (nI_pos (by omega)) (br_f (nI_ge (b := 32) hi (by decide)) h)
theorem tk_xWord0 {post : Int32 → Prop} {s : Int32} (hs : s < 0 ∨ (¬ s < 0 ∧ nI 32 ≤ s)) (h : post 0) : wpX_isWord post (ql, pc, xc, lv, cw, cn, st, sx, rs, pa, rg, me, ds, pw, pl, qu, ou) s := by
  rcases hs with a | ⟨a, b⟩
  · exact br_t a h
  · exact br_f a (br_t b h)
theorem tk_xProc1 {post : Int32 → Prop} {i : Nat} (hi : i < 6) (h : post 1) : wpX_isProcess post (ql, pc, xc, lv, cw, cn, st, sx, rs, pa, rg, me, ds, pw, pl, qu, ou) (nI i) := br_f (nI_pos (by omega)) (br_f (nI_ge (b := 6) hi (by decide)) h)
theorem tk_xProc0 {post : Int32 → Prop} {s : Int32} (hs : s < 0 ∨ (¬ s < 0 ∧ nI 6 ≤ s)) (h : post 0) : wpX_isProcess post (ql, pc, xc, lv, cw, cn, st, sx, rs, pa, rg, me, ds, pw, pl, qu, ou) s := by
  rcases hs with a | ⟨a, b⟩
  · exact br_t a h
  · exact br_f a (br_t b h)
theorem tk_yIn1 {post : Int32 → Prop} {hi : Int32} {j : Nat} (b : Nat) (h : j ≤ b) (hp : post 1) (hb : b < 2 ^ 31 := by decide) (e : hi = nI b := by rfl) : wpY_in post (ql, xc, pc, cw, cn, st, pa, sy, rg, ds, me, pw, pl, qu, ou) (nI j) 0 hi := by
  subst e
  exact br_f (nI_pos (by omega)) (br_f (nI_nlt h hb) hp)
theorem tk_yIn0 {post : Int32 → Prop} {hi s : Int32} (b : Nat) (hs : s < 0 ∨ (¬ s < 0 ∧ nI (b + 1) ≤ s)) (hp : post 0) (hb : b + 1 < 2 ^ 31 := by decide) (e : hi = nI b := by rfl) : wpY_in post (ql, xc, pc, cw, cn, st, pa, sy, rg, ds, me, pw, pl, qu, ou) s 0 hi := by
  subst e
  rcases hs with a | ⟨a, c⟩
  · exact br_t a hp
  · exact br_f a (br_t (Int32.lt_of_lt_of_le (nI_lt (by omega) hb) c) hp)
theorem tk_xFreeL {post : Int32 → Prop} {r : Int32} (hp : post r) : ∀ d j, j + d = 6 → tk_F (fun j => st j = 0) j 6 r → wX_smallestFree_2 post ql pc xc lv cw cn st sx rs pa rg me ds pw pl qu ou (d + 1) (nI j) := by
  intro d
  induction d with
  | zero => intro j hj h; exact br_t (nI_le (a := 6) (by omega) (by omega)) (by rw [← tk_Fz h (by omega)]; exact hp)
  | succ d ih =>
    intro j hj h
    have hi : vp_in (nI j) 6 := vp_in_nI (by omega) (by decide)
    have hc : (nI j).toNatClampNeg = j := nI_clamp (by omega)
    refine br_f (nI_ge (b := 6) (by omega) (by decide)) ⟨hi, ?_⟩
    by_cases z : st j = 0
    · exact br_t (by rw [hc]; exact z) (by rw [← tk_Ft h (by omega) z]; exact hp)
    · exact br_f (by rw [hc]; exact z) (nm_r (nI_1 j) (ih (j + 1) (by omega) (tk_Fn h z)))
theorem tk_xFree {post : Int32 → Prop} {r : Int32} (h : tk_F (fun j => st j = 0) 0 6 r) (hp : post r) : wpX_smallestFree post (ql, pc, xc, lv, cw, cn, st, sx, rs, pa, rg, me, ds, pw, pl, qu, ou) := ⟨7, tk_xFreeL hp 6 0 rfl h⟩
theorem tk_yFreeL {post : Int32 → Prop} {r : Int32} (hp : post r) : ∀ d j, j + d = 6 → tk_F (fun j => st j = 0) j 6 r → wY_smallestFree_2 post ql xc pc cw cn st pa sy rg ds me pw pl qu ou (d + 1) (nI j) := by
  intro d
  induction d with
  | zero => intro j hj h; exact br_t (nI_le (a := 6) (by omega) (by omega)) (by rw [← tk_Fz h (by omega)]; exact hp)
  | succ d ih =>
    intro j hj h
    have hi : vp_in (nI j) 6 := vp_in_nI (by omega) (by decide)
    have hc : (nI j).toNatClampNeg = j := nI_clamp (by omega)
    refine br_f (nI_ge (b := 6) (by omega) (by decide)) ⟨hi, ?_⟩
    by_cases z : st j = 0
    · exact br_t (by rw [hc]; exact z) (by rw [← tk_Ft h (by omega) z]; exact hp)
    · exact br_f (by rw [hc]; exact z) (nm_r (nI_1 j) (ih (j + 1) (by omega) (tk_Fn h z)))
theorem tk_yFree {post : Int32 → Prop} {r : Int32} (h : tk_F (fun j => st j = 0) 0 6 r) (hp : post r) : wpY_smallestFree post (ql, xc, pc, cw, cn, st, pa, sy, rg, ds, me, pw, pl, qu, ou) := ⟨7, tk_yFreeL hp 6 0 rfl h⟩
theorem tk_xChild1 {post : Int32 → Prop} {c : Nat} {q : Int32} (hc : c < 6) (h0 : st c ≠ 0) (h : pa c = q) (hp : post 1) : wpX_isChild post (ql, pc, xc, lv, cw, cn, st, sx, rs, pa, rg, me, ds, pw, pl, qu, ou) (nI c) q := by
  have hi : vp_in (nI c) 6 := vp_in_nI hc (by decide)
  have e : (nI c).toNatClampNeg = c := nI_clamp (by omega)
  exact ⟨hi, br_f (by rw [e]; exact h0) ⟨hi, br_t (by rw [e]; exact h) hp⟩⟩
theorem tk_xChild0 {post : Int32 → Prop} {c : Nat} {q : Int32} (hc : c < 6) (h : ¬ (st c ≠ 0 ∧ pa c = q)) (hp : post 0) : wpX_isChild post (ql, pc, xc, lv, cw, cn, st, sx, rs, pa, rg, me, ds, pw, pl, qu, ou) (nI c) q := by
  have hi : vp_in (nI c) 6 := vp_in_nI hc (by decide)
  have e : (nI c).toNatClampNeg = c := nI_clamp (by omega)
  refine ⟨hi, ?_⟩
  by_cases z : st c = 0
  · exact br_t (by rw [e]; exact z) hp
  · exact br_f (by rw [e]; exact z) ⟨hi, br_f (by rw [e]; exact fun y => h ⟨z, y⟩) hp⟩
theorem tk_xHasL {post : Int32 → Prop} {r q : Int32} (hp : post r) : ∀ d j, j + d = 6 → tk_B (fun j => st j ≠ 0 ∧ pa j = q) j 6 r → wX_hasChild_2 post q ql pc xc lv cw cn st sx rs pa rg me ds pw pl qu ou (d + 1) (nI j) := by
  intro d
  induction d with
  | zero => intro j hj h; exact br_t (nI_le (a := 6) (by omega) (by omega)) (by rw [← tk_Bz h (by omega)]; exact hp)
  | succ d ih =>
    intro j hj h
    refine br_f (nI_ge (b := 6) (by omega) (by decide)) ?_
    by_cases z : st j ≠ 0 ∧ pa j = q
    · exact tk_xChild1 (by omega) z.1 z.2 (br_f (by decide) (by rw [← tk_Bt h (by omega) z]; exact hp))
    · exact tk_xChild0 (by omega) z (br_t rfl (nm_r (nI_1 j) (ih (j + 1) (by omega) (tk_Bn h z))))
theorem tk_xHas {post : Int32 → Prop} {r q : Int32} (h : tk_B (fun j => st j ≠ 0 ∧ pa j = q) 0 6 r) (hp : post r) : wpX_hasChild post (ql, pc, xc, lv, cw, cn, st, sx, rs, pa, rg, me, ds, pw, pl, qu, ou) q := ⟨7, tk_xHasL hp 6 0 rfl h⟩
theorem tk_xEndL {post : Int32 → Prop} {r q : Int32} (hp : post r) : ∀ d j, j + d = 6 → tk_F (fun j => st j = 3 ∧ pa j = q) j 6 r → wX_smallestEndedChild_2 post q ql pc xc lv cw cn st sx rs pa rg me ds pw pl qu ou (d + 1) (nI j) := by
  intro d
  induction d with
  | zero => intro j hj h; exact br_t (nI_le (a := 6) (by omega) (by omega)) (by rw [← tk_Fz h (by omega)]; exact hp)
  | succ d ih =>
    intro j hj h
    have hi : vp_in (nI j) 6 := vp_in_nI (by omega) (by decide)
    have hc : (nI j).toNatClampNeg = j := nI_clamp (by omega)
    refine br_f (nI_ge (b := 6) (by omega) (by decide)) ⟨hi, ?_⟩
    by_cases z : st j = 3
    · refine br_t (by rw [hc]; exact z) ?_
      have z0 : st j ≠ 0 := by rw [z]; decide
      by_cases y : pa j = q
      · exact tk_xChild1 (by omega) z0 y (br_f (by decide) (by rw [← tk_Ft h (by omega) ⟨z, y⟩]; exact hp))
      · exact tk_xChild0 (by omega) (fun k => y k.2) (br_t rfl (nm_r (nI_1 j) (ih (j + 1) (by omega) (tk_Fn h (fun k => y k.2)))))
    · exact br_f (by rw [hc]; exact z) (nm_r (nI_1 j) (ih (j + 1) (by omega) (tk_Fn h (fun k => z k.1))))
theorem tk_xEnd {post : Int32 → Prop} {r q : Int32} (h : tk_F (fun j => st j = 3 ∧ pa j = q) 0 6 r) (hp : post r) : wpX_smallestEndedChild post (ql, pc, xc, lv, cw, cn, st, sx, rs, pa, rg, me, ds, pw, pl, qu, ou) q := ⟨7, tk_xEndL hp 6 0 rfl h⟩
/-- what Y's downward search for an ended child holds when it has looked at lo .. 5 -/
def tk_E (st pa : Nat → Int32) (q : Int32) (lo : Nat) (r : Int32) : Prop := (tk_F (fun j => st j = 3 ∧ pa j = q) lo 6 r ∧ (r = -1 → ∃ j, lo ≤ j ∧ j < 6 ∧ st j ≠ 0 ∧ pa j = q)) ∨ (r = -2 ∧ ∀ j, lo ≤ j → j < 6 → ¬ (st j ≠ 0 ∧ pa j = q))
theorem tk_Ek {q r : Int32} {c : Nat} (hn : ¬ (st c ≠ 0 ∧ pa c = q)) (h : tk_E st pa q (c + 1) r) : tk_E st pa q c r := by
  rcases h with ⟨a, b⟩ | ⟨a, b⟩
  · refine Or.inl ⟨tk_Fk (fun z => hn ⟨by rw [z.1]; decide, z.2⟩) a, fun e => ?_⟩
    obtain ⟨j, x, y⟩ := b e
    exact ⟨j, by omega, y⟩
  · exact Or.inr ⟨a, tk_ge (P := fun j => st j ≠ 0 ∧ pa j = q) hn b⟩
theorem tk_yEndL {post : Int32 → Prop} {q : Int32} (hp : ∀ r, tk_E st pa q 0 r → post r) : ∀ c r, c ≤ 6 → tk_E st pa q c r → wY_endedChild_5 post q ql xc pc cw cn st pa sy rg ds me pw pl qu ou (c + 1) r (nI c + (-1)) := by
  intro c
  induction c with
  | zero => intro r _ h; exact br_t (by decide) (hp r h)
  | succ c ih =>
    intro r hc6 h
    rw [pk_m1]
    have hi : vp_in (nI c) 6 := vp_in_nI (by omega) (by decide)
    have hc : (nI c).toNatClampNeg = c := nI_clamp (by omega)
    refine br_f (nI_pos (by omega)) ⟨hi, ?_⟩
    by_cases z : st c = 0
    · exact br_t (by rw [hc]; exact z) (nm_e (ih r (by omega) (tk_Ek (fun k => k.1 z) h)))
    · refine br_f (by rw [hc]; exact z) ⟨hi, ?_⟩
      by_cases y : pa c = q
      · refine br_t (by rw [hc]; exact y) ⟨hi, ?_⟩
        by_cases x : st c = 3
        · exact br_t (by rw [hc]; exact x) (nm_e (ih (nI c) (by omega) (Or.inl ⟨tk_Fd ⟨x, y⟩ (by omega), fun e => absurd e (tk_nm1 (by omega))⟩)))
        · refine br_f (by rw [hc]; exact x) ?_
          by_cases w : r = -2
          · refine br_t w (nm_e (ih (-1) (by omega) (Or.inl ⟨Or.inl ⟨rfl, ?_⟩, fun _ => ⟨c, Nat.le_refl _, by omega, z, y⟩⟩)))
            rcases h with ⟨a, _⟩ | ⟨_, b⟩
            · exfalso
              rw [w] at a
              rcases tk_Fc a with ⟨e, _⟩ | ⟨j, _, l, e, _⟩
              · exact absurd e (by decide)
              · exact tk_nm2 (by omega) e.symm
            · exact tk_ge (P := fun j => st j = 3 ∧ pa j = q) (fun k => x k.1) (fun j e f k => b j e f ⟨by rw [k.1]; decide, k.2⟩)
          · refine br_f w (nm_e (ih r (by omega) ?_))
            rcases h with ⟨a, b⟩ | ⟨a, _⟩
            · refine Or.inl ⟨tk_Fk (fun k => x k.1) a, fun e => ?_⟩
              obtain ⟨j, m, o⟩ := b e
              exact ⟨j, by omega, o⟩
            · exact absurd a w
      · exact br_f (by rw [hc]; exact y) (nm_e (ih r (by omega) (tk_Ek (fun k => y k.2) h)))
theorem tk_yEnd {post : Int32 → Prop} {q : Int32} (hp : ∀ r, tk_E st pa q 0 r → post r) : wpY_endedChild post (ql, xc, pc, cw, cn, st, pa, sy, rg, ds, me, pw, pl, qu, ou) q := ⟨7, tk_yEndL hp 6 (-2) (Nat.le_refl _) (Or.inr ⟨rfl, fun j a b => by omega⟩)⟩
theorem tk_xHeldL {post : Int32 → Prop} {r q : Int32} (hp : post r) : ∀ d j, j + d = 24 → tk_B (fun j => ds j = q) j 24 r → wX_isHeld_2 post q ql pc xc lv cw cn st sx rs pa rg me ds pw pl qu ou (d + 1) (nI j) := by
  intro d
  induction d with
  | zero => intro j hj h; exact br_t (nI_le (a := 24) (by omega) (by omega)) (by rw [← tk_Bz h (by omega)]; exact hp)
  | succ d ih =>
    intro j hj h
    have hi : vp_in (nI j) 24 := vp_in_nI (by omega) (by decide)
    have hc : (nI j).toNatClampNeg = j := nI_clamp (by omega)
    refine br_f (nI_ge (b := 24) (by omega) (by decide)) ⟨hi, ?_⟩
    by_cases z : ds j = q
    · exact br_t (by rw [hc]; exact z) (by rw [← tk_Bt h (by omega) z]; exact hp)
    · exact br_f (by rw [hc]; exact z) (nm_r (nI_1 j) (ih (j + 1) (by omega) (tk_Bn h z)))
theorem tk_xHeld {post : Int32 → Prop} {r q : Int32} (h : tk_B (fun j => ds j = q) 0 24 r) (hp : post r) : wpX_isHeld post (ql, pc, xc, lv, cw, cn, st, sx, rs, pa, rg, me, ds, pw, pl, qu, ou) q := ⟨25, tk_xHeldL hp 24 0 rfl h⟩
theorem tk_yHasL {post : Int32 → Prop} {r q : Int32} (hp : post r) : ∀ d j, j + d = 24 → tk_B (fun j => ds j = q) j 24 r → wY_has_2 post q ql xc pc cw cn st pa sy rg ds me pw pl qu ou (d + 1) (nI j) := by
  intro d
  induction d with
  | zero => intro j hj h; exact br_t (nI_le (a := 24) (by omega) (by omega)) (by rw [← tk_Bz h (by omega)]; exact hp)
  | succ d ih =>
    intro j hj h
    have hi : vp_in (nI j) 24 := vp_in_nI (by omega) (by decide)
    have hc : (nI j).toNatClampNeg = j := nI_clamp (by omega)
    refine br_f (nI_ge (b := 24) (by omega) (by decide)) ⟨hi, ?_⟩
    by_cases z : ds j = q
    · exact br_t (by rw [hc]; exact z) (by rw [← tk_Bt h (by omega) z]; exact hp)
    · exact br_f (by rw [hc]; exact z) (nm_r (nI_1 j) (ih (j + 1) (by omega) (tk_Bn h z)))
theorem tk_yHas {post : Int32 → Prop} {r q : Int32} (h : tk_B (fun j => ds j = q) 0 24 r) (hp : post r) : wpY_has post (ql, xc, pc, cw, cn, st, pa, sy, rg, ds, me, pw, pl, qu, ou) q := ⟨25, tk_yHasL hp 24 0 rfl h⟩
theorem tk_xThereL {post : Int32 → Prop} {r q : Int32} (hp : post r) : ∀ d j, j + d = 24 → tk_B (fun j => ds j = 1 + 2 * q ∨ ds j = 2 + 2 * q) j 24 r → wX_isThere_2 post q ql pc xc lv cw cn st sx rs pa rg me ds pw pl qu ou (d + 1) (nI j) := by
  intro d
  induction d with
  | zero => intro j hj h; exact br_t (nI_le (a := 24) (by omega) (by omega)) (by rw [← tk_Bz h (by omega)]; exact hp)
  | succ d ih =>
    intro j hj h
    have hi : vp_in (nI j) 24 := vp_in_nI (by omega) (by decide)
    have hc : (nI j).toNatClampNeg = j := nI_clamp (by omega)
    refine br_f (nI_ge (b := 24) (by omega) (by decide)) ⟨hi, ?_⟩
    by_cases z : ds j = 1 + 2 * q
    · exact br_t (by rw [hc]; exact z) (by rw [← tk_Bt h (by omega) (Or.inl z)]; exact hp)
    · refine br_f (by rw [hc]; exact z) ⟨hi, ?_⟩
      by_cases y : ds j = 2 + 2 * q
      · exact br_t (by rw [hc]; exact y) (by rw [← tk_Bt h (by omega) (Or.inr y)]; exact hp)
      · exact br_f (by rw [hc]; exact y) (nm_r (nI_1 j) (ih (j + 1) (by omega) (tk_Bn h (fun k => k.elim z y))))
theorem tk_xThere {post : Int32 → Prop} {r q : Int32} (h : tk_B (fun j => ds j = 1 + 2 * q ∨ ds j = 2 + 2 * q) 0 24 r) (hp : post r) : wpX_isThere post (ql, pc, xc, lv, cw, cn, st, sx, rs, pa, rg, me, ds, pw, pl, qu, ou) q := ⟨25, tk_xThereL hp 24 0 rfl h⟩
theorem tk_yThere {post : Int32 → Prop} {r q : Int32} (h : tk_B (fun j => ds j = 1 + 2 * q ∨ ds j = 2 + 2 * q) 0 24 r) (hp : post r) : wpY_isThere post (ql, xc, pc, cw, cn, st, pa, sy, rg, ds, me, pw, pl, qu, ou) q := by
  obtain ⟨r1, h1⟩ := tk_Bex (fun j => ds j = 1 + 2 * q) 0 24
  refine tk_yHas h1 ?_
  rcases h1 with ⟨e1, j, a, b, c⟩ | ⟨e1, n1⟩
  · refine br_f (by rw [e1]; decide) ?_
    rcases h with ⟨e, _⟩ | ⟨e, n⟩
    · rw [← e]; exact hp
    · exact absurd (Or.inl c) (n j a b)
  · refine br_t e1 ?_
    obtain ⟨r2, h2⟩ := tk_Bex (fun j => ds j = 2 + 2 * q) 0 24
    refine tk_yHas h2 ?_
    rcases h2 with ⟨e2, j, a, b, c⟩ | ⟨e2, n2⟩
    · refine br_f (by rw [e2]; decide) ?_
      rcases h with ⟨e, _⟩ | ⟨e, n⟩
      · rw [← e]; exact hp
      · exact absurd (Or.inr c) (n j a b)
    · refine br_t e2 ?_
      rcases h with ⟨e, j, a, b, c⟩ | ⟨e, n⟩
      · rcases c with c | c
        · exact absurd c (n1 j a b)
        · exact absurd c (n2 j a b)
      · rw [← e]; exact hp
end
end
section
theorem tk_e31 : ∀ e, e < 7 → e % 2 = 1 → (nI e &&& 1) = 1 := by decide +kernel
theorem tk_e30 : ∀ e, e < 7 → e % 2 = 0 → (nI e &&& 1) = 0 := by decide +kernel
theorem tk_e21 : ∀ e, e < 7 → e % 2 = 1 → nI e - nI e / 2 * 2 = 1 := by decide +kernel
theorem tk_e20 : ∀ e, e < 7 → e % 2 = 0 → nI e - nI e / 2 * 2 = 0 := by decide +kernel
theorem tk_01 : ¬ (1 : Int32) = 0 := by decide
theorem tk_10 : ¬ (0 : Int32) = 1 := by decide
theorem tk_20 : ¬ (2 : Int32) = 0 := by decide
/-- the code holds operations alone -/
def tk_C (cw : Nat → Int32) : Prop := ∀ i, i < 64 → ∃ w, w < 512 ∧ w % 32 ≤ 24 ∧ cw i = nI w
/-- a WRITE that does not wait finds room -/
def tk_G (cw sx rg ds pl : Nat → Int32) (p : Nat) : Prop := ∀ i w d e, i < 64 → sx p = nI i → w < 512 → cw i = nI w → w % 32 = 17 → d < 4 → rg (4 * p + w / 128) = nI d → e ≤ 6 → e ≠ 0 → e % 2 = 0 → ds (4 * p + d) = nI e → (∃ j, 0 ≤ j ∧ j < 24 ∧ ds j = nI e - 1) → pl ((e - 1) / 2) ≠ 4
section
variable {ql pc lv : Int32} {xc : Int64} {cw cn st sx sy rs pa rg me ds pw pl qu ou : Nat → Int32}
theorem tk_xRd1 {post : Int32 → Prop} {e : Nat} (he : e ≤ 6) (h : e % 2 = 1) (hp : post 1) : wpX_isReadingEnd post (ql, pc, xc, lv, cw, cn, st, sx, rs, pa, rg, me, ds, pw, pl, qu, ou) (nI e) := br_f (nI_ne0 (by omega) (by omega)) (br_t (tk_e31 e (by omega) h) hp)
theorem tk_xRd0 {post : Int32 → Prop} {e : Nat} (he : e ≤ 6) (h : e % 2 = 0) (hp : post 0) : wpX_isReadingEnd post (ql, pc, xc, lv, cw, cn, st, sx, rs, pa, rg, me, ds, pw, pl, qu, ou) (nI e) := br_c (fun _ => hp) (fun _ => br_f (by rw [tk_e30 e (by omega) h]; exact tk_10) hp)
theorem tk_xWr1 {post : Int32 → Prop} {e : Nat} (he : e ≤ 6) (h0 : e ≠ 0) (h : e % 2 = 0) (hp : post 1) : wpX_isWritingEnd post (ql, pc, xc, lv, cw, cn, st, sx, rs, pa, rg, me, ds, pw, pl, qu, ou) (nI e) := br_f (nI_ne0 (by omega) (by omega)) (br_t (tk_e30 e (by omega) h) hp)
theorem tk_xWr0 {post : Int32 → Prop} {e : Nat} (he : e ≤ 6) (h : e = 0 ∨ e % 2 = 1) (hp : post 0) : wpX_isWritingEnd post (ql, pc, xc, lv, cw, cn, st, sx, rs, pa, rg, me, ds, pw, pl, qu, ou) (nI e) := by
  rcases h with h | h
  · exact br_t (by rw [h]; exact nI_0) hp
  · exact br_c (fun _ => hp) (fun _ => br_f (by rw [tk_e31 e (by omega) h]; exact tk_01) hp)
theorem tk_xPo {post : Int32 → Prop} {e : Nat} (he : e ≤ 6) (hp : post (nI ((e - 1) / 2))) : wpX_pipeOf post (ql, pc, xc, lv, cw, cn, st, sx, rs, pa, rg, me, ds, pw, pl, qu, ou) (nI e) := ⟨tk_20, by rw [tk_e1 e (by omega)]; exact hp⟩
theorem tk_xAlive1 {post : Int32 → Prop} {p : Nat} (hp6 : p < 6) (h : st p = 1 ∨ st p = 2) (hp : post 1) : wpX_isAlive post (ql, pc, xc, lv, cw, cn, st, sx, rs, pa, rg, me, ds, pw, pl, qu, ou) (nI p) := by
  have hi : vp_in (nI p) 6 := vp_in_nI hp6 (by decide)
  have e : (nI p).toNatClampNeg = p := nI_clamp (by omega)
  unfold wpX_isAlive
  refine tk_xProc1 hp6 (br_f tk_01 ⟨hi, ?_⟩)
  by_cases z : st p = 1
  · exact br_t (by rw [e]; exact z) hp
  · exact br_f (by rw [e]; exact z) ⟨hi, br_t (by rw [e]; exact h.resolve_left z) hp⟩
theorem tk_xAlive0 {post : Int32 → Prop} {p : Nat} (hp6 : p < 6) (h : ¬ (st p = 1 ∨ st p = 2)) (hp : post 0) : wpX_isAlive post (ql, pc, xc, lv, cw, cn, st, sx, rs, pa, rg, me, ds, pw, pl, qu, ou) (nI p) := by
  have hi : vp_in (nI p) 6 := vp_in_nI hp6 (by decide)
  have e : (nI p).toNatClampNeg = p := nI_clamp (by omega)
  unfold wpX_isAlive
  exact tk_xProc1 hp6 (br_f tk_01 ⟨hi, br_f (by rw [e]; exact fun z => h (Or.inl z)) ⟨hi, br_f (by rw [e]; exact fun z => h (Or.inr z)) hp⟩⟩)
theorem tk_xAliveO {post : Int32 → Prop} {s : Int32} (hs : s < 0 ∨ (¬ s < 0 ∧ nI 6 ≤ s)) (hp : post 0) : wpX_isAlive post (ql, pc, xc, lv, cw, cn, st, sx, rs, pa, rg, me, ds, pw, pl, qu, ou) s := by
  unfold wpX_isAlive
  exact tk_xProc0 hs (br_t rfl hp)
theorem tk_yLive1 {post : Int32 → Prop} {p : Nat} (hp6 : p < 6) (h : st p = 1 ∨ st p = 2) (hp : post 1) : wpY_isLive post (ql, xc, pc, cw, cn, st, pa, sy, rg, ds, me, pw, pl, qu, ou) (nI p) := by
  have hi : vp_in (nI p) 6 := vp_in_nI hp6 (by decide)
  have e : (nI p).toNatClampNeg = p := nI_clamp (by omega)
  unfold wpY_isLive
  refine tk_yIn1 5 (by omega) (br_f tk_01 ⟨hi, ?_⟩)
  by_cases z : st p = 1
  · exact br_t (by rw [e]; exact z) hp
  · exact br_f (by rw [e]; exact z) ⟨hi, br_t (by rw [e]; exact h.resolve_left z) hp⟩
theorem tk_yLive0 {post : Int32 → Prop} {p : Nat} (hp6 : p < 6) (h : ¬ (st p = 1 ∨ st p = 2)) (hp : post 0) : wpY_isLive post (ql, xc, pc, cw, cn, st, pa, sy, rg, ds, me, pw, pl, qu, ou) (nI p) := by
  have hi : vp_in (nI p) 6 := vp_in_nI hp6 (by decide)
  have e : (nI p).toNatClampNeg = p := nI_clamp (by omega)
  unfold wpY_isLive
  exact tk_yIn1 5 (by omega) (br_f tk_01 ⟨hi, br_f (by rw [e]; exact fun z => h (Or.inl z)) ⟨hi, br_f (by rw [e]; exact fun z => h (Or.inr z)) hp⟩⟩)
theorem tk_yLiveO {post : Int32 → Prop} {s : Int32} (hs : s < 0 ∨ (¬ s < 0 ∧ nI 6 ≤ s)) (hp : post 0) : wpY_isLive post (ql, xc, pc, cw, cn, st, pa, sy, rg, ds, me, pw, pl, qu, ou) s := by
  unfold wpY_isLive
  exact tk_yIn0 5 hs (br_t rfl hp)
theorem tk_xOp1 {post : Int32 → Prop} {p i w : Nat} (hp : p < 6) (hi : i < 64) (hs : sx p = nI i) (hw : w < 512) (hc : cw i = nI w) (h : post (nI (w % 32))) : wpX_opAt post (ql, pc, xc, lv, cw, cn, st, sx, rs, pa, rg, me, ds, pw, pl, qu, ou) (nI p) := by
  have e : (nI p).toNatClampNeg = p := nI_clamp (by omega)
  have e2 : (nI i).toNatClampNeg = i := nI_clamp (by omega)
  exact ⟨vp_in_nI hp (by decide), nm_r (e' := nI i) (by rw [e]; exact hs) (tk_xSpot1 hi (br_f tk_01 ⟨vp_in_nI hi (by decide), by rw [e2, hc, tk_op hw]; exact h⟩))⟩
theorem tk_xOp0 {post : Int32 → Prop} {p : Nat} (hp : p < 6) (hs : sx p < 0 ∨ (¬ sx p < 0 ∧ nI 64 ≤ sx p)) (h : post (-1)) : wpX_opAt post (ql, pc, xc, lv, cw, cn, st, sx, rs, pa, rg, me, ds, pw, pl, qu, ou) (nI p) := by
  have e : (nI p).toNatClampNeg = p := nI_clamp (by omega)
  exact ⟨vp_in_nI hp (by decide), nm_r (e' := sx p) (by rw [e]) (tk_xSpot0 hs (br_t rfl h))⟩
/-- the end that register b of p names, on both sides -/
theorem tk_end {p b : Nat} (hp : p < 6) (hb : b < 4) (ve : tk_VE ds) : ∃ e, e ≤ 6 ∧ (∀ post : Int32 → Prop, post (nI e) → wpX_pipeEnd post (ql, pc, xc, lv, cw, cn, st, sx, rs, pa, rg, me, ds, pw, pl, qu, ou) (nI p) (rg (4 * p + b))) ∧ (∀ post : Int32 → Prop, post (nI e) → wpY_endOf post (ql, xc, pc, cw, cn, st, pa, sy, rg, ds, me, pw, pl, qu, ou) (nI p) (nI b)) ∧ (∀ d, d < 4 → rg (4 * p + b) = nI d → ds (4 * p + d) = nI e) ∧ (e ≠ 0 → ∃ d, d < 4 ∧ rg (4 * p + b) = nI d) := by
  have e1 : (4 * nI p + nI b).toNatClampNeg = 4 * p + b := by rw [tk_i4', nI_clamp (by omega)]
  have v1 : vp_in (4 * nI p + nI b) 24 := by rw [tk_i4']; exact vp_in_nI (by omega) (by decide)
  have key : ∀ s : Int32, rg (4 * p + b) = s → ∃ e, e ≤ 6 ∧ (∀ post : Int32 → Prop, post (nI e) → wpX_pipeEnd post (ql, pc, xc, lv, cw, cn, st, sx, rs, pa, rg, me, ds, pw, pl, qu, ou) (nI p) s) ∧ (∀ post : Int32 → Prop, post (nI e) → wpY_endOf post (ql, xc, pc, cw, cn, st, pa, sy, rg, ds, me, pw, pl, qu, ou) (nI p) (nI b)) ∧ (∀ d, d < 4 → s = nI d → ds (4 * p + d) = nI e) ∧ (e ≠ 0 → ∃ d, d < 4 ∧ s = nI d) := by
    intro s es
    rcases tk_ix s (n := 4) (by decide) with a | a | ⟨d, hd, rfl⟩
    · refine ⟨0, by omega, fun post h => br_t a h, fun post h => ⟨v1, nm_r (e' := s) (by rw [e1]; exact es) (tk_yIn0 3 (Or.inl a) (br_t rfl h))⟩, fun d hd ed => ?_, fun z => absurd rfl z⟩
      rw [ed] at a; exact absurd a (nI_pos (by omega))
    · refine ⟨0, by omega, fun post h => br_f a.1 (br_t a.2 h), fun post h => ⟨v1, nm_r (e' := s) (by rw [e1]; exact es) (tk_yIn0 3 (Or.inr a) (br_t rfl h))⟩, fun d hd ed => ?_, fun z => absurd rfl z⟩
      have k := a.2
      rw [ed] at k; exact absurd k (nI_ge (b := 4) hd (by decide))
    · obtain ⟨e, he, ee⟩ := ve (4 * p + d) (by omega)
      have c1 : (nI p * 4 + nI d).toNatClampNeg = 4 * p + d := by rw [tk_i4, nI_clamp (by omega)]
      have c2 : (4 * nI p + nI d).toNatClampNeg = 4 * p + d := by rw [tk_i4', nI_clamp (by omega)]
      refine ⟨e, he, fun post h => br_f (nI_pos (by omega)) (br_f (nI_ge (b := 4) hd (by decide)) ⟨by rw [tk_i4]; exact vp_in_nI (by omega) (by decide), by rw [c1, ee]; exact h⟩), fun post h => ⟨v1, nm_r (e' := nI d) (by rw [e1]; exact es) (tk_yIn1 3 (by omega) (br_f tk_01 ⟨by rw [tk_i4']; exact vp_in_nI (by omega) (by decide), by rw [c2, ee]; exact h⟩))⟩, fun d' hd' ed => ?_, fun _ => ⟨d, hd, rfl⟩⟩
      have q := tk_ni (by omega) (by omega) ed
      rw [← q]; exact ee
  exact key _ rfl
theorem tk_x49 {post : Int32 → Prop} {p i w e : Nat} {o : Int32} (hp : p < 6) (hi : i < 64) (hs : sx p = nI i) (hw : w < 512) (hc : cw i = nI w) (hE : ∀ post : Int32 → Prop, post (nI e) → wpX_pipeEnd post (ql, pc, xc, lv, cw, cn, st, sx, rs, pa, rg, me, ds, pw, pl, qu, ou) (nI p) (rg (4 * p + w / 128))) (H : (o = 16 → wpX_isReadingEnd (fun r_102 => (((r_102 = 0 → (post 0)) ∧ (¬ r_102 = 0 → (wpX_pipeOf (fun r_121 => (vp_in r_121 3 ∧ ((((pl r_121.toNatClampNeg) = 0 → (wpX_isHeld (fun r_141 => (((r_141 = 0 → (post 0)) ∧ (¬ r_141 = 0 → (post 1))))) (ql, pc, xc, lv, cw, cn, st, sx, rs, pa, rg, me, ds, pw, pl, qu, ou) (nI e + 1))) ∧ (¬ (pl r_121.toNatClampNeg) = 0 → (post 0)))))) (ql, pc, xc, lv, cw, cn, st, sx, rs, pa, rg, me, ds, pw, pl, qu, ou) (nI e)))))) (ql, pc, xc, lv, cw, cn, st, sx, rs, pa, rg, me, ds, pw, pl, qu, ou) (nI e)) ∧ (¬ o = 16 → (wpX_isWritingEnd (fun r_44 => (((r_44 = 0 → (post 0)) ∧ (¬ r_44 = 0 → (wpX_pipeOf (fun r_63 => (vp_in r_63 3 ∧ ((((pl r_63.toNatClampNeg) = 4 → (wpX_isHeld (fun r_83 => (((r_83 = 0 → (post 0)) ∧ (¬ r_83 = 0 → (post 1))))) (ql, pc, xc, lv, cw, cn, st, sx, rs, pa, rg, me, ds, pw, pl, qu, ou) (nI e - 1))) ∧ (¬ (pl r_63.toNatClampNeg) = 4 → (post 0)))))) (ql, pc, xc, lv, cw, cn, st, sx, rs, pa, rg, me, ds, pw, pl, qu, ou) (nI e)))))) (ql, pc, xc, lv, cw, cn, st, sx, rs, pa, rg, me, ds, pw, pl, qu, ou) (nI e)))) : wX_mustWait_49 post (nI p) o ql pc xc lv cw cn st sx rs pa rg me ds pw pl qu ou := by
  have h1 : sx (nI p).toNatClampNeg = nI i := by rw [nI_clamp (by omega)]; exact hs
  have h2 : (nI i).toNatClampNeg = i := nI_clamp (by omega)
  have h3 : (nI (4 * p + w / 128)).toNatClampNeg = 4 * p + w / 128 := nI_clamp (by omega)
  refine ⟨vp_in_nI hp (by decide), by rw [h1]; exact vp_in_nI hi (by decide), nm_r (e' := nI (4 * p + w / 128)) (by rw [h1, h2, hc, tk_wb hw, tk_i4]) ⟨vp_in_nI (by omega) (by decide), ?_⟩⟩
  rw [h3]
  exact hE _ H
theorem tk_wait {p : Nat} (hp : p < 6) (hC : tk_C cw) (ve : tk_VE ds) (es : sy p = sx p) : ∃ r : Int32, (r = 0 ∨ r = 1) ∧ (∀ post : Int32 → Prop, post r → wpX_mustWait post (ql, pc, xc, lv, cw, cn, st, sx, rs, pa, rg, me, ds, pw, pl, qu, ou) (nI p)) ∧ (∀ post : Int32 → Prop, post r → wpY_waits post (ql, xc, pc, cw, cn, st, pa, sy, rg, ds, me, pw, pl, qu, ou) (nI p)) ∧ (r = 0 → tk_G cw sx rg ds pl p) := by
  have v6 : vp_in (nI p) 6 := vp_in_nI hp (by decide)
  have ep : (nI p).toNatClampNeg = p := nI_clamp (by omega)
  rcases tk_ix (sx p) (n := 64) (by decide) with a | a | ⟨i, hi, hs⟩
  · refine ⟨0, Or.inl rfl, fun post h => by unfold wpX_mustWait; exact tk_xOp0 hp (Or.inl a) (br_f (by decide) (br_f (by decide) (br_f (by decide) h))), fun post h => ⟨v6, ?_⟩, fun _ i w d e hi hs => ?_⟩
    · rw [ep, es]; exact tk_yIn0 63 (Or.inl a) (br_t rfl h)
    · rw [hs] at a; exact absurd a (nI_pos (by omega))
  · refine ⟨0, Or.inl rfl, fun post h => by unfold wpX_mustWait; exact tk_xOp0 hp (Or.inr a) (br_f (by decide) (br_f (by decide) (br_f (by decide) h))), fun post h => ⟨v6, ?_⟩, fun _ i w d e hi hs => ?_⟩
    · rw [ep, es]; exact tk_yIn0 63 (Or.inr a) (br_t rfl h)
    · have k := a.2
      rw [hs] at k; exact absurd k (nI_ge (b := 64) hi (by decide))
  · obtain ⟨w, hw, ho, hc⟩ := hC i hi
    obtain ⟨e, he, hX, hY, hd, hde⟩ := tk_end (ql := ql) (pc := pc) (lv := lv) (xc := xc) (cw := cw) (cn := cn) (st := st) (sx := sx) (sy := sy) (rs := rs) (pa := pa) (rg := rg) (me := me) (pw := pw) (pl := pl) (qu := qu) (ou := ou) hp (show w / 128 < 4 by omega) ve
    have h2 : (nI i).toNatClampNeg = i := nI_clamp (by omega)
    have v64 : vp_in (nI i) 64 := vp_in_nI hi (by decide)
    have hsy : sy p = nI i := es.trans hs
    have hk : (e - 1) / 2 < 3 := by omega
    have vk : vp_in (nI ((e - 1) / 2)) 3 := vp_in_nI hk (by decide)
    have ek : (nI ((e - 1) / 2)).toNatClampNeg = (e - 1) / 2 := nI_clamp (by omega)
    have G0 : w % 32 ≠ 17 → tk_G cw sx rg ds pl p := by
      intro hn i' w' d' e' a1 a2 a3 a4 a5
      have q := tk_ni (by omega) (by omega) (hs.symm.trans a2)
      rw [← q, hc] at a4
      have q2 := tk_ni (by omega) (by omega) a4
      rw [← q2] at a5
      exact absurd a5 hn
    have G1 : ¬ (e ≠ 0 ∧ e % 2 = 0 ∧ (∃ j, 0 ≤ j ∧ j < 24 ∧ ds j = nI e - 1) ∧ pl ((e - 1) / 2) = 4) → tk_G cw sx rg ds pl p := by
      intro hn i' w' d' e' a1 a2 a3 a4 a5 a6 a7 a8 a9 a10 a11 a12 a13
      have q := tk_ni (by omega) (by omega) (hs.symm.trans a2)
      rw [← q, hc] at a4
      have q2 := tk_ni (by omega) (by omega) a4
      rw [← q2] at a7
      have q3 := hd d' a6 a7
      rw [a11] at q3
      have q4 := tk_ni (by omega) (by omega) q3
      rw [q4] at a9 a10 a12 a13
      exact hn ⟨a9, a10, a12, a13⟩
    have YP : ∀ (post : Int32 → Prop) (o : Int32), nI (w % 32) = o → (((o = 14 → (wpY_endedChild (fun r_89 => (((r_89 = (-1) → (post 1)) ∧ (¬ r_89 = (-1) → (post 0))))) (ql, xc, pc, cw, cn, st, pa, sy, rg, ds, me, pw, pl, qu, ou) (nI p))) ∧ (¬ o = 14 → (((o = 16 → (¬ (2 : Int32) = 0 ∧ ((((nI e - nI e / 2 * 2) = 1 → (vp_in (nI ((e - 1) / 2)) 3 ∧ ((((pl (nI ((e - 1) / 2)).toNatClampNeg) = 0 → (wpY_has (fun r_72 => (((r_72 = 0 → (post 0)) ∧ (¬ r_72 = 0 → (post 1))))) (ql, xc, pc, cw, cn, st, pa, sy, rg, ds, me, pw, pl, qu, ou) (nI e + 1))) ∧ (¬ (pl (nI ((e - 1) / 2)).toNatClampNeg) = 0 → (post 0)))))) ∧ (¬ (nI e - nI e / 2 * 2) = 1 → (post 0)))))) ∧ (¬ o = 16 → (((o = 17 → (((nI e ≤ 0 → (post 0)) ∧ (¬ nI e ≤ 0 → (¬ (2 : Int32) = 0 ∧ ((((nI e - nI e / 2 * 2) = 0 → (vp_in (nI ((e - 1) / 2)) 3 ∧ ((((pl (nI ((e - 1) / 2)).toNatClampNeg) = 4 → (wpY_has (fun r_51 => (((r_51 = 0 → (post 0)) ∧ (¬ r_51 = 0 → (post 1))))) (ql, xc, pc, cw, cn, st, pa, sy, rg, ds, me, pw, pl, qu, ou) (nI e - 1))) ∧ (¬ (pl (nI ((e - 1) / 2)).toNatClampNeg) = 4 → (post 0)))))) ∧ (¬ (nI e - nI e / 2 * 2) = 0 → (post 0))))))))) ∧ (¬ o = 17 → (post 0)))))))))) → wpY_waits post (ql, xc, pc, cw, cn, st, pa, sy, rg, ds, me, pw, pl, qu, ou) (nI p) := by
      intro post o eo H
      refine ⟨v6, ?_⟩
      rw [ep, hsy]
      exact tk_yIn1 63 (by omega) (br_f tk_01 ⟨v6, v64, nm_r (e' := o) (by rw [h2, hc, tk_op hw]; exact eo) ⟨v6, v64, nm_r (e' := nI (w / 128)) (by rw [h2, hc, tk_wb hw]) (hY _ ⟨tk_20, nm_r (tk_e1 e (by omega)) H⟩)⟩⟩)
    by_cases o14 : w % 32 = 14
    · obtain ⟨rB, hB⟩ := tk_Bex (fun j => st j ≠ 0 ∧ pa j = nI p) 0 6
      obtain ⟨rF, hF⟩ := tk_Fex (fun j => st j = 3 ∧ pa j = nI p) 6 6 0 rfl
      have fx : ∀ post : Int32 → Prop, ((rB = 0 → post 0) ∧ (¬ rB = 0 → (rF = -1 → post 1) ∧ (¬ rF = -1 → post 0))) → wpX_mustWait post (ql, pc, xc, lv, cw, cn, st, sx, rs, pa, rg, me, ds, pw, pl, qu, ou) (nI p) := by
        intro post h
        unfold wpX_mustWait
        refine tk_xOp1 hp hi hs hw hc ?_
        rw [o14]
        exact br_t (by decide) (tk_xHas hB ⟨h.1, fun z => tk_xEnd hF (h.2 z)⟩)
      have fy : ∀ post : Int32 → Prop, ((rB = 0 → post 0) ∧ (¬ rB = 0 → (rF = -1 → post 1) ∧ (¬ rF = -1 → post 0))) → wpY_waits post (ql, xc, pc, cw, cn, st, pa, sy, rg, ds, me, pw, pl, qu, ou) (nI p) := by
        intro post h
        refine YP post 14 (by rw [o14]; rfl) (br_t rfl (tk_yEnd (fun r hr => ?_)))
        rcases hr with ⟨a, b⟩ | ⟨a, b⟩
        · have q := tk_Fu 6 0 rfl a hF
          have k : r = -1 → ¬ rB = 0 := by
            intro z
            obtain ⟨j, x, y, u⟩ := b z
            rcases hB with ⟨e1, _⟩ | ⟨_, n1⟩
            · rw [e1]; exact tk_01
            · exact absurd u (n1 j x y)
          refine ⟨fun z => (h.2 (k z)).1 (q ▸ z), fun z => ?_⟩
          by_cases y : rB = 0
          · exact h.1 y
          · exact (h.2 y).2 (q ▸ z)
        · refine br_f (by rw [a]; decide) (h.1 ?_)
          rcases hB with ⟨_, j, x, y, u⟩ | ⟨e1, _⟩
          · exact absurd u (b j x y)
          · exact e1
      by_cases y : rB = 0
      · exact ⟨0, Or.inl rfl, fun post h => fx post (br_t y h), fun post h => fy post (br_t y h), fun _ => G0 (by omega)⟩
      · by_cases z : rF = -1
        · exact ⟨1, Or.inr rfl, fun post h => fx post (br_f y (br_t z h)), fun post h => fy post (br_f y (br_t z h)), fun q => absurd q tk_01⟩
        · exact ⟨0, Or.inl rfl, fun post h => fx post (br_f y (br_f z h)), fun post h => fy post (br_f y (br_f z h)), fun _ => G0 (by omega)⟩
    · by_cases o16 : w % 32 = 16
      · have fx : ∀ post : Int32 → Prop, wpX_isReadingEnd (fun r_102 => (((r_102 = 0 → (post 0)) ∧ (¬ r_102 = 0 → (wpX_pipeOf (fun r_121 => (vp_in r_121 3 ∧ ((((pl r_121.toNatClampNeg) = 0 → (wpX_isHeld (fun r_141 => (((r_141 = 0 → (post 0)) ∧ (¬ r_141 = 0 → (post 1))))) (ql, pc, xc, lv, cw, cn, st, sx, rs, pa, rg, me, ds, pw, pl, qu, ou) (nI e + 1))) ∧ (¬ (pl r_121.toNatClampNeg) = 0 → (post 0)))))) (ql, pc, xc, lv, cw, cn, st, sx, rs, pa, rg, me, ds, pw, pl, qu, ou) (nI e)))))) (ql, pc, xc, lv, cw, cn, st, sx, rs, pa, rg, me, ds, pw, pl, qu, ou) (nI e) → wpX_mustWait post (ql, pc, xc, lv, cw, cn, st, sx, rs, pa, rg, me, ds, pw, pl, qu, ou) (nI p) := by
          intro post h
          unfold wpX_mustWait
          refine tk_xOp1 hp hi hs hw hc ?_
          rw [o16]
          exact br_f (by decide) (br_t (by decide) (tk_x49 hp hi hs hw hc hX (br_t (by decide) h)))
        by_cases odd : e % 2 = 1
        · by_cases z : pl ((e - 1) / 2) = 0
          · obtain ⟨rB, hB⟩ := tk_Bex (fun j => ds j = nI e + 1) 0 24
            refine ⟨rB, tk_B01 hB, fun post h => fx post (tk_xRd1 he odd (br_f tk_01 (tk_xPo he ⟨vk, br_t (by rw [ek]; exact z) (tk_xHeld hB ?_)⟩))), fun post h => YP post 16 (by rw [o16]; rfl) (br_f (by decide) (br_t rfl ⟨tk_20, br_t (tk_e21 e (by omega) odd) ⟨vk, br_t (by rw [ek]; exact z) (tk_yHas hB ?_)⟩⟩)), fun _ => G0 (by omega)⟩
            · rcases tk_B01 hB with q | q
              · exact br_t q (q ▸ h)
              · exact br_f (by rw [q]; exact tk_01) (q ▸ h)
            · rcases tk_B01 hB with q | q
              · exact br_t q (q ▸ h)
              · exact br_f (by rw [q]; exact tk_01) (q ▸ h)
          · exact ⟨0, Or.inl rfl, fun post h => fx post (tk_xRd1 he odd (br_f tk_01 (tk_xPo he ⟨vk, br_f (by rw [ek]; exact z) h⟩))), fun post h => YP post 16 (by rw [o16]; rfl) (br_f (by decide) (br_t rfl ⟨tk_20, br_t (tk_e21 e (by omega) odd) ⟨vk, br_f (by rw [ek]; exact z) h⟩⟩)), fun _ => G0 (by omega)⟩
        · exact ⟨0, Or.inl rfl, fun post h => fx post (tk_xRd0 he (by omega) (br_t rfl h)), fun post h => YP post 16 (by rw [o16]; rfl) (br_f (by decide) (br_t rfl ⟨tk_20, br_f (by rw [tk_e20 e (by omega) (by omega)]; exact tk_10) h⟩)), fun _ => G0 (by omega)⟩
      · by_cases o17 : w % 32 = 17
        · have fx : ∀ post : Int32 → Prop, wpX_isWritingEnd (fun r_44 => (((r_44 = 0 → (post 0)) ∧ (¬ r_44 = 0 → (wpX_pipeOf (fun r_63 => (vp_in r_63 3 ∧ ((((pl r_63.toNatClampNeg) = 4 → (wpX_isHeld (fun r_83 => (((r_83 = 0 → (post 0)) ∧ (¬ r_83 = 0 → (post 1))))) (ql, pc, xc, lv, cw, cn, st, sx, rs, pa, rg, me, ds, pw, pl, qu, ou) (nI e - 1))) ∧ (¬ (pl r_63.toNatClampNeg) = 4 → (post 0)))))) (ql, pc, xc, lv, cw, cn, st, sx, rs, pa, rg, me, ds, pw, pl, qu, ou) (nI e)))))) (ql, pc, xc, lv, cw, cn, st, sx, rs, pa, rg, me, ds, pw, pl, qu, ou) (nI e) → wpX_mustWait post (ql, pc, xc, lv, cw, cn, st, sx, rs, pa, rg, me, ds, pw, pl, qu, ou) (nI p) := by
            intro post h
            unfold wpX_mustWait
            refine tk_xOp1 hp hi hs hw hc ?_
            rw [o17]
            exact br_f (by decide) (br_f (by decide) (br_t (by decide) (tk_x49 hp hi hs hw hc hX (br_f (by decide) h))))
          by_cases e0 : e = 0
          · exact ⟨0, Or.inl rfl, fun post h => fx post (tk_xWr0 he (Or.inl e0) (br_t rfl h)), fun post h => YP post 17 (by rw [o17]; rfl) (br_f (by decide) (br_f (by decide) (br_t rfl (br_t (by rw [e0]; decide) h)))), fun _ => G1 (fun k => k.1 e0)⟩
          · by_cases odd : e % 2 = 1
            · exact ⟨0, Or.inl rfl, fun post h => fx post (tk_xWr0 he (Or.inr odd) (br_t rfl h)), fun post h => YP post 17 (by rw [o17]; rfl) (br_f (by decide) (br_f (by decide) (br_t rfl (br_f (nI_nle (by omega) (by omega)) ⟨tk_20, br_f (by rw [tk_e21 e (by omega) odd]; exact tk_01) h⟩)))), fun _ => G1 (fun k => by omega)⟩
            · by_cases z : pl ((e - 1) / 2) = 4
              · obtain ⟨rB, hB⟩ := tk_Bex (fun j => ds j = nI e - 1) 0 24
                refine ⟨rB, tk_B01 hB, fun post h => fx post (tk_xWr1 he e0 (by omega) (br_f tk_01 (tk_xPo he ⟨vk, br_t (by rw [ek]; exact z) (tk_xHeld hB ?_)⟩))), fun post h => YP post 17 (by rw [o17]; rfl) (br_f (by decide) (br_f (by decide) (br_t rfl (br_f (nI_nle (by omega) (by omega)) ⟨tk_20, br_t (tk_e20 e (by omega) (by omega)) ⟨vk, br_t (by rw [ek]; exact z) (tk_yHas hB ?_)⟩⟩)))), fun q => G1 (fun k => ?_)⟩
                · rcases tk_B01 hB with q | q
                  · exact br_t q (q ▸ h)
                  · exact br_f (by rw [q]; exact tk_01) (q ▸ h)
                · rcases tk_B01 hB with q | q
                  · exact br_t q (q ▸ h)
                  · exact br_f (by rw [q]; exact tk_01) (q ▸ h)
                · rcases hB with ⟨e1, _⟩ | ⟨_, n1⟩
                  · rw [q] at e1; exact tk_10 e1
                  · obtain ⟨_, _, ⟨j, x, y, u⟩, _⟩ := k
                    exact n1 j x y u
              · exact ⟨0, Or.inl rfl, fun post h => fx post (tk_xWr1 he e0 (by omega) (br_f tk_01 (tk_xPo he ⟨vk, br_f (by rw [ek]; exact z) h⟩))), fun post h => YP post 17 (by rw [o17]; rfl) (br_f (by decide) (br_f (by decide) (br_t rfl (br_f (nI_nle (by omega) (by omega)) ⟨tk_20, br_t (tk_e20 e (by omega) (by omega)) ⟨vk, br_f (by rw [ek]; exact z) h⟩⟩)))), fun _ => G1 (fun k => z k.2.2.2)⟩
        · refine ⟨0, Or.inl rfl, fun post h => by unfold wpX_mustWait; exact tk_xOp1 hp hi hs hw hc (br_f (tk_ne (b := 14) (by omega) (by decide) o14) (br_f (tk_ne (b := 16) (by omega) (by decide) o16) (br_f (tk_ne (b := 17) (by omega) (by decide) o17) h))), fun post h => YP post _ rfl (br_f (tk_ne (b := 14) (by omega) (by decide) o14) (br_f (tk_ne (b := 16) (by omega) (by decide) o16) (br_f (tk_ne (b := 17) (by omega) (by decide) o17) h))), fun _ => G0 o17⟩
end
end
section
section
variable {ql pc lv : Int32} {xc : Int64} {cw cn st sx sy rs pa rg me ds pw pl qu ou : Nat → Int32}
theorem tk_xJoin {post : SX → Prop} {p n : Nat} (hp : p < 6) (hn : n ≤ 5) (h : post (nI (n + 1), pc, xc, lv, cw, cn, upd st p 1, sx, rs, pa, rg, me, ds, pw, pl, upd qu n (nI p), ou)) : wpX_makeReady post (nI n, pc, xc, lv, cw, cn, st, sx, rs, pa, rg, me, ds, pw, pl, qu, ou) (nI p) := by
  have e : (nI p).toNatClampNeg = p := nI_clamp (by omega)
  have en : (nI n).toNatClampNeg = n := nI_clamp (by omega)
  exact ⟨vp_in_nI hp (by decide), nm_r (e' := upd st p 1) (by rw [e]) (br_f (nI_ge (b := 6) (by omega) (by decide)) ⟨vp_in_nI (by omega) (by decide), nm_r (e' := upd qu n (nI p)) (by rw [en]) (nm_r (nI_1 n) h)⟩)⟩
theorem tk_yJoin {post : SY → Prop} {p n : Nat} (hp : p < 6) (hn : n ≤ 5) (h : post (nI (n + 1), xc, pc, cw, cn, upd st p 1, pa, sy, rg, ds, me, pw, pl, upd qu n (nI p), ou)) : wpY_join post (nI n, xc, pc, cw, cn, st, pa, sy, rg, ds, me, pw, pl, qu, ou) (nI p) := by
  have e : (nI p).toNatClampNeg = p := nI_clamp (by omega)
  have en : (nI n).toNatClampNeg = n := nI_clamp (by omega)
  exact ⟨vp_in_nI hp (by decide), nm_r (e' := upd st p 1) (by rw [e]) ⟨vp_in_nI (by omega) (by decide), nm_r (e' := upd qu n (nI p)) (by rw [en]) (nm_r (nI_1 n) h)⟩⟩
theorem tk_xLvL {post : SX → Prop} {n : Nat} {q : Int32} (hn : n ≤ 6) (h : post (nI (tk_lv qu q n).2, pc, xc, lv, cw, cn, st, sx, rs, pa, rg, me, ds, pw, pl, (tk_lv qu q n).1, ou)) : ∀ d i, i + d = n → wX_leaveQueue_4 post q (nI n) pc xc lv (d + 1) (nI (tk_lv qu q i).2) (nI i) cw cn st sx rs pa rg me ds pw pl ((tk_lv qu q i).1) ou := by
  intro d
  induction d with
  | zero =>
    intro i hi
    have z : i = n := by omega
    rw [z]
    exact br_t (nI_le (Nat.le_refl _) (by omega)) h
  | succ d ih =>
    intro i hi
    have l := tk_lvle (q := qu) (p := q) i
    have e : (nI i).toNatClampNeg = i := nI_clamp (by omega)
    have e2 : (nI (tk_lv qu q i).2).toNatClampNeg = (tk_lv qu q i).2 := nI_clamp (by omega)
    have vi : vp_in (nI i) 6 := vp_in_nI (by omega) (by decide)
    have k := ih (i + 1) (by omega)
    refine br_f (nI_ge (by omega) (by omega)) ⟨vi, ?_⟩
    by_cases z : (tk_lv qu q i).1 i = q
    · rw [tk_lvt z] at k
      exact br_t (by rw [e]; exact z) (nm_r (nI_1 i) k)
    · rw [tk_lvf z] at k
      exact br_f (by rw [e]; exact z) ⟨vi, vp_in_nI (by omega) (by decide), nm_r (e' := upd (tk_lv qu q i).1 (tk_lv qu q i).2 ((tk_lv qu q i).1 i)) (by rw [e, e2]) (nm_r (nI_1 _) (nm_r (nI_1 i) k))⟩
theorem tk_xLv {post : SX → Prop} {n : Nat} {q : Int32} (hn : n ≤ 6) (h : post (nI (tk_lv qu q n).2, pc, xc, lv, cw, cn, st, sx, rs, pa, rg, me, ds, pw, pl, (tk_lv qu q n).1, ou)) : wpX_leaveQueue post (nI n, pc, xc, lv, cw, cn, st, sx, rs, pa, rg, me, ds, pw, pl, qu, ou) q := ⟨n + 1, tk_xLvL hn h n 0 (by omega)⟩
theorem tk_yLvL {post : SY → Prop} {n : Nat} {q : Int32} (hn : n ≤ 6) (h : post (nI (tk_lv qu q n).2, xc, pc, cw, cn, st, pa, sy, rg, ds, me, pw, pl, (tk_lv qu q n).1, ou)) : ∀ d i, i + d = n → wY_leave_4 post q (nI n) xc pc (d + 1) (nI (tk_lv qu q i).2) (nI i) cw cn st pa sy rg ds me pw pl ((tk_lv qu q i).1) ou := by
  intro d
  induction d with
  | zero =>
    intro i hi
    have z : i = n := by omega
    rw [z]
    exact br_t (nI_le (Nat.le_refl _) (by omega)) h
  | succ d ih =>
    intro i hi
    have l := tk_lvle (q := qu) (p := q) i
    have e : (nI i).toNatClampNeg = i := nI_clamp (by omega)
    have e2 : (nI (tk_lv qu q i).2).toNatClampNeg = (tk_lv qu q i).2 := nI_clamp (by omega)
    have vi : vp_in (nI i) 7 := vp_in_nI (by omega) (by decide)
    have k := ih (i + 1) (by omega)
    refine br_f (nI_ge (by omega) (by omega)) ⟨vi, ?_⟩
    by_cases z : (tk_lv qu q i).1 i = q
    · rw [tk_lvt z] at k
      exact br_t (by rw [e]; exact z) (nm_r (nI_1 i) k)
    · rw [tk_lvf z] at k
      exact br_f (by rw [e]; exact z) ⟨vi, vp_in_nI (by omega) (by decide), nm_r (e' := upd (tk_lv qu q i).1 (tk_lv qu q i).2 ((tk_lv qu q i).1 i)) (by rw [e, e2]) (nm_r (nI_1 _) (nm_r (nI_1 i) k))⟩
theorem tk_yLv {post : SY → Prop} {n : Nat} {q : Int32} (hn : n ≤ 6) (h : post (nI (tk_lv qu q n).2, xc, pc, cw, cn, st, pa, sy, rg, ds, me, pw, pl, (tk_lv qu q n).1, ou)) : wpY_leave post (nI n, xc, pc, cw, cn, st, pa, sy, rg, ds, me, pw, pl, qu, ou) q := ⟨n + 1, tk_yLvL hn h n 0 (by omega)⟩
theorem tk_xFin31 {post : SX → Prop} {p : Nat} {r : Int32} (hp : p < 6) (hn : pa p ≠ nI p) (h : post (ql, pc, xc, lv, cw, cn, tk_fs st pa p, sx, upd rs p r, tk_cp st pa p 6, rg, me, ds, pw, pl, qu, ou)) : ∀ d c, c + d = 6 → wX_finish_31 post (nI p) r ql pc xc lv (d + 1) (nI c) cw cn (tk_cs st pa p c) sx rs (tk_cp st pa p c) rg me ds pw pl qu ou := by
  have v6 : vp_in (nI p) 6 := vp_in_nI hp (by decide)
  have ep : (nI p).toNatClampNeg = p := nI_clamp (by omega)
  intro d
  induction d with
  | zero =>
    intro c hc
    have e6 : c = 6 := by omega
    rw [e6]
    refine br_t (nI_le (a := 6) (by omega) (by decide)) ⟨v6, nm_r (e' := upd rs p r) (by rw [ep]) ⟨v6, ?_⟩⟩
    have hpp : tk_cp st pa p 6 p = pa p := tk_cp_n hn
    by_cases z : pa p = -1
    · exact br_t (by rw [ep, hpp]; exact z) ⟨v6, nm_r (e' := tk_fs st pa p) (by rw [ep]; unfold tk_fs; rw [if_pos z]) h⟩
    · exact br_f (by rw [ep, hpp]; exact z) ⟨v6, nm_r (e' := tk_fs st pa p) (by rw [ep]; unfold tk_fs; rw [if_neg z]) h⟩
  | succ d ih =>
    intro c hc
    have vc : vp_in (nI c) 6 := vp_in_nI (by omega) (by decide)
    have ec : (nI c).toNatClampNeg = c := nI_clamp (by omega)
    have k1 : tk_cs st pa p c c = st c := tk_cs_k (Nat.le_refl _)
    have k2 : tk_cp st pa p c c = pa c := tk_cp_k (Nat.le_refl _)
    refine br_f (nI_ge (b := 6) (by omega) (by decide)) ?_
    by_cases z : st c ≠ 0 ∧ pa c = nI p
    · refine tk_xChild1 (by omega) (by rw [k1]; exact z.1) (by rw [k2]; exact z.2) (br_f tk_01 ⟨vc, nm_r (e' := tk_cp st pa p (c + 1)) (by rw [ec]; exact tk_cp_y z.1 z.2) ⟨vc, ?_⟩⟩)
      by_cases y : st c = 3
      · exact br_t (by rw [ec, k1]; exact y) ⟨vc, nm_r (e' := tk_cs st pa p (c + 1)) (by rw [ec]; exact tk_cs_y y z.2) (nm_r (nI_1 c) (ih (c + 1) (by omega)))⟩
      · exact br_f (by rw [ec, k1]; exact y) ⟨vc, vc, nm_r (e' := tk_cs st pa p (c + 1)) (by rw [ec, tk_uid]; exact tk_cs_z (fun q => y q.1)) (nm_r (nI_1 c) (ih (c + 1) (by omega)))⟩
    · have g1 : tk_cp st pa p c = tk_cp st pa p (c + 1) := tk_cp_z z
      have g2 : tk_cs st pa p c = tk_cs st pa p (c + 1) := tk_cs_z (fun q => z ⟨by rw [q.1]; decide, q.2⟩)
      refine tk_xChild0 (by omega) (by rw [k1, k2]; exact z) (br_t rfl (nm_r (nI_1 c) ?_))
      rw [g1, g2]
      exact ih (c + 1) (by omega)
theorem tk_xFin7 {post : SX → Prop} {p : Nat} {r : Int32} (hp : p < 6) (h : ∃ n31, wX_finish_31 post (nI p) r ql pc xc lv n31 0 cw cn st sx rs pa rg me (tk_z ds (4 * p) 4) pw pl qu ou) : ∀ d j, j + d = 4 → wX_finish_7 post (nI p) r ql pc xc lv (d + 1) (nI j) cw cn st sx rs pa rg me (tk_z ds (4 * p) j) pw pl qu ou := by
  intro d
  induction d with
  | zero =>
    intro j hj
    have e : j = 4 := by omega
    rw [e]
    exact br_t (nI_le (a := 4) (by omega) (by decide)) h
  | succ d ih =>
    intro j hj
    have e : (nI p * 4 + nI j).toNatClampNeg = 4 * p + j := by rw [tk_i4, nI_clamp (by omega)]
    exact br_f (nI_ge (b := 4) (by omega) (by decide)) ⟨by rw [tk_i4]; exact vp_in_nI (by omega) (by decide), nm_r (e' := tk_z ds (4 * p) (j + 1)) (by rw [e]; exact tk_zs _ _ _) (nm_r (nI_1 j) (ih (j + 1) (by omega)))⟩
theorem tk_xFin {post : SX → Prop} {p n : Nat} {r : Int32} (hp : p < 6) (hq : n ≤ 6) (hn : pa p ≠ nI p) (h : post (nI (tk_lv qu (nI p) n).2, pc, xc, lv, cw, cn, tk_fs st pa p, sx, upd rs p r, tk_cp st pa p 6, rg, me, tk_z ds (4 * p) 4, pw, pl, (tk_lv qu (nI p) n).1, ou)) : wpX_finish post (nI n, pc, xc, lv, cw, cn, st, sx, rs, pa, rg, me, ds, pw, pl, qu, ou) (nI p) r := by
  unfold wpX_finish
  refine tk_xLv hq ⟨5, ?_⟩
  have k := tk_xFin31 (ds := tk_z ds (4 * p) 4) hp hn h 6 0 rfl
  rw [tk_cs0, tk_cp0] at k
  have k2 := tk_xFin7 (ds := ds) hp ⟨7, k⟩ 4 0 rfl
  rw [tk_z0] at k2
  exact k2
theorem tk_yFin33 {post : SY → Prop} {p : Nat} {r : Int32} (hp : p < 6) (hv : pa p = -1 ∨ ∃ j, j < 6 ∧ j ≠ p ∧ pa p = nI j) (hn : pa p ≠ nI p) (h : post (ql, xc, pc, cw, cn, tk_fs st pa p, tk_cp st pa p 6, upd sy p r, rg, ds, me, pw, pl, qu, ou)) : ∀ d c, c + d = 6 → wY_end_33 post (nI p) r ql xc pc (d + 1) (nI c) cw cn (tk_cs st pa p c) (tk_cp st pa p c) sy rg ds me pw pl qu ou := by
  have v6 : vp_in (nI p) 6 := vp_in_nI hp (by decide)
  have ep : (nI p).toNatClampNeg = p := nI_clamp (by omega)
  intro d
  induction d with
  | zero =>
    intro c hc
    have e6 : c = 6 := by omega
    rw [e6]
    refine br_t (nI_le (a := 6) (by omega) (by decide)) ⟨v6, ?_⟩
    have hpp : tk_cp st pa p 6 p = pa p := tk_cp_n hn
    rcases hv with z | ⟨j, hj, _, z⟩
    · exact br_f (by rw [ep, hpp, z]; decide) ⟨v6, nm_r (e' := tk_fs st pa p) (by rw [ep]; unfold tk_fs; rw [if_pos z]) ⟨v6, nm_r (e' := upd sy p r) (by rw [ep]) h⟩⟩
    · have y : pa p ≠ -1 := by rw [z]; exact tk_nm1 (by omega)
      exact br_t (by rw [ep, hpp, z]; exact nI_pos' (by omega)) ⟨v6, nm_r (e' := tk_fs st pa p) (by rw [ep]; unfold tk_fs; rw [if_neg y]) ⟨v6, nm_r (e' := upd sy p r) (by rw [ep]) h⟩⟩
  | succ d ih =>
    intro c hc
    have vc : vp_in (nI c) 6 := vp_in_nI (by omega) (by decide)
    have ec : (nI c).toNatClampNeg = c := nI_clamp (by omega)
    have k1 : tk_cs st pa p c c = st c := tk_cs_k (Nat.le_refl _)
    have k2 : tk_cp st pa p c c = pa c := tk_cp_k (Nat.le_refl _)
    refine br_f (nI_ge (b := 6) (by omega) (by decide)) ?_
    by_cases z : st c ≠ 0 ∧ pa c = nI p
    · have q : c ≠ p := fun e => hn (by rw [← e]; rw [e]; rw [← e]; exact e ▸ z.2)
      refine br_f (tk_ne (by omega) (by omega) q) ⟨vc, br_f (by rw [ec, k1]; exact z.1) ⟨vc, br_t (by rw [ec, k2]; exact z.2) ⟨vc, nm_r (e' := tk_cp st pa p (c + 1)) (by rw [ec]; exact tk_cp_y z.1 z.2) ⟨vc, ?_⟩⟩⟩⟩
      by_cases y : st c = 3
      · exact br_t (by rw [ec, k1]; exact y) ⟨vc, nm_r (e' := tk_cs st pa p (c + 1)) (by rw [ec]; exact tk_cs_y y z.2) (nm_r (nI_1 c) (ih (c + 1) (by omega)))⟩
      · refine br_f (by rw [ec, k1]; exact y) (nm_r (nI_1 c) ?_)
        have g2 : tk_cs st pa p c = tk_cs st pa p (c + 1) := tk_cs_z (fun q => y q.1)
        rw [g2]
        exact ih (c + 1) (by omega)
    · have g1 : tk_cp st pa p c = tk_cp st pa p (c + 1) := tk_cp_z z
      have g2 : tk_cs st pa p c = tk_cs st pa p (c + 1) := tk_cs_z (fun q => z ⟨by rw [q.1]; decide, q.2⟩)
      have k := ih (c + 1) (by omega)
      rw [← g1, ← g2] at k
      refine br_c (fun _ => nm_r (nI_1 c) k) (fun _ => ⟨vc, ?_⟩)
      by_cases y : st c = 0
      · exact br_t (by rw [ec, k1]; exact y) (nm_r (nI_1 c) k)
      · exact br_f (by rw [ec, k1]; exact y) ⟨vc, br_f (by rw [ec, k2]; exact fun x => z ⟨y, x⟩) (nm_r (nI_1 c) k)⟩
theorem tk_yFin9 {post : SY → Prop} {p : Nat} {r : Int32} (hp : p < 6) (h : ∃ n33, wY_end_33 post (nI p) r ql xc pc n33 0 cw cn st pa sy rg (tk_z ds (4 * p) 4) me pw pl qu ou) : ∀ d j, j + d = 4 → wY_end_9 post (nI p) r ql xc pc (d + 1) (nI (4 * p + j)) cw cn st pa sy rg (tk_z ds (4 * p) j) me pw pl qu ou := by
  have k4 : 4 * nI p + 4 = nI (4 * p + 4) := tk_i4' p 4
  intro d
  induction d with
  | zero =>
    intro j hj
    have e : j = 4 := by omega
    rw [e]
    exact br_t (by rw [k4]; exact nI_le (by omega) (by omega)) h
  | succ d ih =>
    intro j hj
    have e : (nI (4 * p + j)).toNatClampNeg = 4 * p + j := nI_clamp (by omega)
    exact br_f (by rw [k4]; exact nI_ge (by omega) (by omega)) ⟨vp_in_nI (by omega) (by decide), nm_r (e' := tk_z ds (4 * p) (j + 1)) (by rw [e]; exact tk_zs _ _ _) (nm_r (nI_1 _) (ih (j + 1) (by omega)))⟩
theorem tk_yFin {post : SY → Prop} {p n : Nat} {r : Int32} (hp : p < 6) (hq : n ≤ 6) (hv : pa p = -1 ∨ ∃ j, j < 6 ∧ j ≠ p ∧ pa p = nI j) (hn : pa p ≠ nI p) (h : post (nI (tk_lv qu (nI p) n).2, xc, pc, cw, cn, tk_fs st pa p, tk_cp st pa p 6, upd sy p r, rg, tk_z ds (4 * p) 4, me, pw, pl, (tk_lv qu (nI p) n).1, ou)) : wpY_end post (nI n, xc, pc, cw, cn, st, pa, sy, rg, ds, me, pw, pl, qu, ou) (nI p) r := by
  unfold wpY_end
  refine tk_yLv hq (nm_r (tk_i40' p) ⟨5, ?_⟩)
  have k := tk_yFin33 (ds := tk_z ds (4 * p) 4) hp hv hn h 6 0 rfl
  rw [tk_cs0, tk_cp0] at k
  have k2 := tk_yFin9 (ds := ds) hp ⟨7, k⟩ 4 0 rfl
  rw [tk_z0] at k2
  exact k2
theorem tk_xNoL {post : Int32 → Prop} {r : Int32} {p : Nat} (hp6 : p < 6) (hp : post r) : ∀ d j, j + d = 4 → tk_F (fun j => ds (4 * p + j) = 0) j 4 r → wX_nextNothing_2 post (nI p) ql pc xc lv cw cn st sx rs pa rg me ds pw pl qu ou (d + 1) (nI j) := by
  intro d
  induction d with
  | zero => intro j hj h; exact br_t (nI_le (a := 4) (by omega) (by omega)) (by rw [← tk_Fz h (by omega)]; exact hp)
  | succ d ih =>
    intro j hj h
    have hc : (nI p * 4 + nI j).toNatClampNeg = 4 * p + j := by rw [tk_i4, nI_clamp (by omega)]
    refine br_f (nI_ge (b := 4) (by omega) (by decide)) ⟨by rw [tk_i4]; exact vp_in_nI (by omega) (by decide), ?_⟩
    by_cases z : ds (4 * p + j) = 0
    · exact br_t (by rw [hc]; exact z) (by rw [← tk_Ft h (by omega) z]; exact hp)
    · exact br_f (by rw [hc]; exact z) (nm_r (nI_1 j) (ih (j + 1) (by omega) (tk_Fn h z)))
theorem tk_xNo {post : Int32 → Prop} {r : Int32} {p : Nat} (f : Nat) (hf : f ≤ 4) (hp6 : p < 6) (h : tk_F (fun j => ds (4 * p + j) = 0) f 4 r) (hp : post r) : wpX_nextNothing post (ql, pc, xc, lv, cw, cn, st, sx, rs, pa, rg, me, ds, pw, pl, qu, ou) (nI p) (nI f) := ⟨4 - f + 1, tk_xNoL hp6 hp (4 - f) f (by omega) h⟩
theorem tk_yNoL {post : Int32 → Prop} {r : Int32} {p : Nat} (hp6 : p < 6) (hp : post r) : ∀ d j, j + d = 4 → tk_F (fun j => ds (4 * p + j) = 0) j 4 r → wY_nothing_2 post (nI p) ql xc pc cw cn st pa sy rg ds me pw pl qu ou (d + 1) (nI j) := by
  intro d
  induction d with
  | zero => intro j hj h; exact br_t (nI_le (a := 4) (by omega) (by omega)) (by rw [← tk_Fz h (by omega)]; exact hp)
  | succ d ih =>
    intro j hj h
    have hc : (4 * nI p + nI j).toNatClampNeg = 4 * p + j := by rw [tk_i4', nI_clamp (by omega)]
    refine br_f (nI_ge (b := 4) (by omega) (by decide)) ⟨by rw [tk_i4']; exact vp_in_nI (by omega) (by decide), ?_⟩
    by_cases z : ds (4 * p + j) = 0
    · exact br_t (by rw [hc]; exact z) (by rw [← tk_Ft h (by omega) z]; exact hp)
    · exact br_f (by rw [hc]; exact z) (nm_r (nI_1 j) (ih (j + 1) (by omega) (tk_Fn h z)))
theorem tk_yNo {post : Int32 → Prop} {r : Int32} {p : Nat} (f : Nat) (hf : f ≤ 4) (hp6 : p < 6) (h : tk_F (fun j => ds (4 * p + j) = 0) f 4 r) (hp : post r) : wpY_nothing post (ql, xc, pc, cw, cn, st, pa, sy, rg, ds, me, pw, pl, qu, ou) (nI p) (nI f) := ⟨4 - f + 1, tk_yNoL hp6 hp (4 - f) f (by omega) h⟩
/-- pipe k is not there -/
def tk_N (ds : Nat → Int32) (k : Nat) : Prop := ∀ j, 0 ≤ j → j < 24 → ¬ (ds j = 1 + 2 * nI k ∨ ds j = 2 + 2 * nI k)
theorem tk_xPnL {post : Int32 → Prop} {r : Int32} (hp : post r) : ∀ d j, j + d = 3 → tk_F (tk_N ds) j 3 r → wX_smallestPipeNotThere_2 post ql pc xc lv cw cn st sx rs pa rg me ds pw pl qu ou (d + 1) (nI j) := by
  intro d
  induction d with
  | zero => intro j hj h; exact br_t (nI_le (a := 3) (by omega) (by omega)) (by rw [← tk_Fz h (by omega)]; exact hp)
  | succ d ih =>
    intro j hj h
    refine br_f (nI_ge (b := 3) (by omega) (by decide)) ?_
    obtain ⟨rB, hB⟩ := tk_Bex (fun i => ds i = 1 + 2 * nI j ∨ ds i = 2 + 2 * nI j) 0 24
    refine tk_xThere hB ?_
    rcases hB with ⟨e, i, a, b, c⟩ | ⟨e, n⟩
    · exact br_f (by rw [e]; exact tk_01) (nm_r (nI_1 j) (ih (j + 1) (by omega) (tk_Fn h (fun z => z i a b c))))
    · exact br_t e (by rw [← tk_Ft h (by omega) n]; exact hp)
theorem tk_xPn {post : Int32 → Prop} {r : Int32} (h : tk_F (tk_N ds) 0 3 r) (hp : post r) : wpX_smallestPipeNotThere post (ql, pc, xc, lv, cw, cn, st, sx, rs, pa, rg, me, ds, pw, pl, qu, ou) := ⟨4, tk_xPnL hp 3 0 rfl h⟩
theorem tk_yPnL {post : SY → Prop} {x1 x2 x3 x4 x5 : Int32} (hx : ∀ r, tk_F (tk_N ds) 0 3 r → wY_makePipe_34 post x1 x2 x3 x4 x5 ql xc pc cw cn st pa sy rg ds me pw pl qu ou (0 + 1) r (nI 0 + (-1))) : ∀ c r, c ≤ 3 → tk_F (tk_N ds) c 3 r → wY_makePipe_34 post x1 x2 x3 x4 x5 ql xc pc cw cn st pa sy rg ds me pw pl qu ou (c + 1) r (nI c + (-1)) := by
  intro c
  induction c with
  | zero => intro r _ h; exact hx r h
  | succ c ih =>
    intro r hc h
    rw [pk_m1]
    refine br_f (nI_pos (by omega)) ?_
    obtain ⟨rB, hB⟩ := tk_Bex (fun i => ds i = 1 + 2 * nI c ∨ ds i = 2 + 2 * nI c) 0 24
    refine tk_yThere hB ?_
    rcases hB with ⟨e, i, a, b, d⟩ | ⟨e, n⟩
    · exact br_f (by rw [e]; exact tk_01) (nm_e (ih r (by omega) (tk_Fk (fun z => z i a b d) h)))
    · exact br_t e (nm_e (ih (nI c) (by omega) (tk_Fd n (by omega))))
end
end
section
/-- x at lo, zero behind it, j cells in all -/
def tk_w (f : Nat → Int32) (x : Int32) (lo j : Nat) : Nat → Int32 := fun i => if lo ≤ i ∧ i < lo + j then (if i = lo then x else 0) else f i
theorem tk_w0 (f : Nat → Int32) (x : Int32) (lo : Nat) : tk_w f x lo 0 = f := by funext i; exact if_neg (by omega)
theorem tk_ws {f : Nat → Int32} {x y : Int32} {lo j : Nat} (hy : y = if j = 0 then x else 0) : upd (tk_w f x lo j) (lo + j) y = tk_w f x lo (j + 1) := by
  funext q
  refine tk_uc (P := fun z => z = tk_w f x lo (j + 1) q) (fun e => ?_) (fun e => ?_)
  · refine Eq.trans ?_ (if_pos (by omega)).symm
    rw [hy, e]
    by_cases c : j = 0
    · rw [if_pos c, if_pos (by omega)]
    · rw [if_neg c, if_neg (by omega)]
  · by_cases c : lo ≤ q ∧ q < lo + j
    · exact (if_pos c).trans (if_pos (by omega)).symm
    · exact (if_neg c).trans (if_neg (by omega)).symm
theorem tk_w4 {f : Nat → Int32} {x : Int32} {lo : Nat} : tk_w f x lo 4 = upd (tk_z f lo 4) lo x := by
  funext q
  refine (tk_uc (P := fun z => z = tk_w f x lo 4 q) (fun e => ?_) (fun e => ?_)).symm
  · exact ((if_pos (by omega)).trans (if_pos e)).symm
  · by_cases c : lo ≤ q ∧ q < lo + 4
    · exact (if_pos c).trans ((if_pos c).trans (if_neg e)).symm
    · exact (if_neg c).trans (if_neg c).symm
section
variable {ql pc lv : Int32} {xc : Int64} {cw cn st sx sy rs pa rg me ds pw pl qu ou : Nat → Int32}
theorem tk_xFk106 {post : SX → Prop} {p c A n : Nat} (hp : p < 6) (hc : c < 6) (hpc : p ≠ c) (hA : A < 24) (hn : n ≤ 5) (h : post (nI (n + 1), pc, xc, lv, cw, cn, upd st c 1, upd sx c (sx p), rs, upd pa c (nI p), upd rg A (nI c), me, tk_y ds (4 * c) (4 * p) 4, pw, pl, upd qu n (nI c), ou)) : ∀ d j, j + d = 4 → wX_fork_106 post (nI p) (nI A) (nI c) (nI n) pc xc lv (d + 1) (nI j) cw cn st sx rs pa rg me (tk_y ds (4 * c) (4 * p) j) pw pl qu ou := by
  have ep : (nI p).toNatClampNeg = p := nI_clamp (by omega)
  have ec : (nI c).toNatClampNeg = c := nI_clamp (by omega)
  have eA : (nI A).toNatClampNeg = A := nI_clamp (by omega)
  intro d
  induction d with
  | zero =>
    intro j hj
    have e : j = 4 := by omega
    rw [e]
    exact br_t (nI_le (a := 4) (by omega) (by decide)) ⟨vp_in_nI hA (by decide), nm_r (e' := upd rg A (nI c)) (by rw [eA]) ⟨vp_in_nI hp (by decide), vp_in_nI hc (by decide), nm_r (e' := upd sx c (sx p)) (by rw [ep, ec]) ⟨vp_in_nI hc (by decide), nm_r (e' := upd pa c (nI p)) (by rw [ec]) (tk_xJoin hc hn h)⟩⟩⟩
  | succ d ih =>
    intro j hj
    have e1 : (nI p * 4 + nI j).toNatClampNeg = 4 * p + j := by rw [tk_i4, nI_clamp (by omega)]
    have e2 : (nI c * 4 + nI j).toNatClampNeg = 4 * c + j := by rw [tk_i4, nI_clamp (by omega)]
    exact br_f (nI_ge (b := 4) (by omega) (by decide)) ⟨by rw [tk_i4]; exact vp_in_nI (by omega) (by decide), by rw [tk_i4]; exact vp_in_nI (by omega) (by decide), nm_r (e' := tk_y ds (4 * c) (4 * p) (j + 1)) (by rw [e1, e2]; exact tk_ys (L := 4) (by omega) (by omega)) (nm_r (nI_1 j) (ih (j + 1) (by omega)))⟩
theorem tk_xFk66 {post : SX → Prop} {p c : Nat} {x2 : Int32} (hp : p < 6) (hc : c < 6) (hpc : p ≠ c) (h : ∃ n106, wX_fork_106 post (nI p) x2 (nI c) ql pc xc lv n106 0 cw cn st sx rs pa rg (tk_y me (32 * c) (32 * p) 32) ds pw pl qu ou) : ∀ d j, j + d = 32 → wX_fork_66 post (nI p) x2 (nI c) ql pc xc lv (d + 1) (nI j) cw cn st sx rs pa rg (tk_y me (32 * c) (32 * p) j) ds pw pl qu ou := by
  intro d
  induction d with
  | zero =>
    intro j hj
    have e : j = 32 := by omega
    rw [e]
    exact br_t (nI_le (a := 32) (by omega) (by decide)) h
  | succ d ih =>
    intro j hj
    have e1 : (nI p * 32 + nI j).toNatClampNeg = 32 * p + j := by rw [tk_i5, nI_clamp (by omega)]
    have e2 : (nI c * 32 + nI j).toNatClampNeg = 32 * c + j := by rw [tk_i5, nI_clamp (by omega)]
    exact br_f (nI_ge (b := 32) (by omega) (by decide)) ⟨by rw [tk_i5]; exact vp_in_nI (by omega) (by decide), by rw [tk_i5]; exact vp_in_nI (by omega) (by decide), nm_r (e' := tk_y me (32 * c) (32 * p) (j + 1)) (by rw [e1, e2]; exact tk_ys (L := 32) (by omega) (by omega)) (nm_r (nI_1 j) (ih (j + 1) (by omega)))⟩
theorem tk_xFk29 {post : SX → Prop} {p c : Nat} {x2 : Int32} (hp : p < 6) (hc : c < 6) (hpc : p ≠ c) (h : ∃ n66, wX_fork_66 post (nI p) x2 (nI c) ql pc xc lv n66 0 cw cn st sx rs pa (tk_y rg (4 * c) (4 * p) 4) me ds pw pl qu ou) : ∀ d j, j + d = 4 → wX_fork_29 post (nI p) x2 (nI c) ql pc xc lv (d + 1) (nI j) cw cn st sx rs pa (tk_y rg (4 * c) (4 * p) j) me ds pw pl qu ou := by
  intro d
  induction d with
  | zero =>
    intro j hj
    have e : j = 4 := by omega
    rw [e]
    exact br_t (nI_le (a := 4) (by omega) (by decide)) h
  | succ d ih =>
    intro j hj
    have e1 : (nI p * 4 + nI j).toNatClampNeg = 4 * p + j := by rw [tk_i4, nI_clamp (by omega)]
    have e2 : (nI c * 4 + nI j).toNatClampNeg = 4 * c + j := by rw [tk_i4, nI_clamp (by omega)]
    exact br_f (nI_ge (b := 4) (by omega) (by decide)) ⟨by rw [tk_i4]; exact vp_in_nI (by omega) (by decide), by rw [tk_i4]; exact vp_in_nI (by omega) (by decide), nm_r (e' := tk_y rg (4 * c) (4 * p) (j + 1)) (by rw [e1, e2]; exact tk_ys (L := 4) (by omega) (by omega)) (nm_r (nI_1 j) (ih (j + 1) (by omega)))⟩
theorem tk_xFk1 {post : SX → Prop} {p c A n : Nat} (hF : tk_F (fun j => st j = 0) 0 6 (nI c)) (hp : p < 6) (hc : c < 6) (hpc : p ≠ c) (hA : A < 24) (hn : n ≤ 5) (h : post (nI (n + 1), pc, xc, lv, cw, cn, upd st c 1, upd sx c (sx p), rs, upd pa c (nI p), upd (tk_y (upd rg A (-1)) (4 * c) (4 * p) 4) A (nI c), tk_y me (32 * c) (32 * p) 32, tk_y ds (4 * c) (4 * p) 4, pw, pl, upd qu n (nI c), ou)) : wpX_fork post (nI n, pc, xc, lv, cw, cn, st, sx, rs, pa, rg, me, ds, pw, pl, qu, ou) (nI p) (nI A) := by
  have eA : (nI A).toNatClampNeg = A := nI_clamp (by omega)
  unfold wpX_fork
  refine tk_xFree hF (br_f (tk_nm1 (by omega)) ⟨vp_in_nI hA (by decide), nm_r (e' := upd rg A (-1)) (by rw [eA]) ⟨5, ?_⟩⟩)
  have k1 := tk_xFk106 hp hc hpc hA hn h 4 0 rfl
  rw [tk_y0] at k1
  have k2 := tk_xFk66 (me := me) hp hc hpc ⟨5, k1⟩ 32 0 rfl
  rw [tk_y0] at k2
  have k3 := tk_xFk29 (rg := upd rg A (-1)) hp hc hpc ⟨33, k2⟩ 4 0 rfl
  rw [tk_y0] at k3
  exact k3
theorem tk_xFk0 {post : SX → Prop} {p A : Nat} (hF : tk_F (fun j => st j = 0) 0 6 (-1)) (hA : A < 24) (h : post (ql, pc, xc, lv, cw, cn, st, sx, rs, pa, upd rg A (-2), me, ds, pw, pl, qu, ou)) : wpX_fork post (ql, pc, xc, lv, cw, cn, st, sx, rs, pa, rg, me, ds, pw, pl, qu, ou) (nI p) (nI A) := by
  have eA : (nI A).toNatClampNeg = A := nI_clamp (by omega)
  unfold wpX_fork
  exact tk_xFree hF (br_t rfl ⟨vp_in_nI hA (by decide), nm_r (e' := upd rg A (-2)) (by rw [eA]) h⟩)
theorem tk_yFk88 {post : Int32 → SY → Prop} {p c n : Nat} (hp : p < 6) (hc : c < 6) (hpc : p ≠ c) (hn : n ≤ 5) (h : post (nI c) (nI (n + 1), xc, pc, cw, cn, upd st c 1, pa, sy, rg, ds, tk_y me (32 * c) (32 * p) 32, pw, pl, upd qu n (nI c), ou)) : ∀ d j, j + d = 32 → wY_fork_88 post (nI p) (nI c) (nI n) xc pc (d + 1) (nI j) cw cn st pa sy rg ds (tk_y me (32 * c) (32 * p) j) pw pl qu ou := by
  intro d
  induction d with
  | zero =>
    intro j hj
    have e : j = 32 := by omega
    rw [e]
    exact br_t (nI_le (a := 32) (by omega) (by decide)) (tk_yJoin hc hn h)
  | succ d ih =>
    intro j hj
    have e1 : (32 * nI p + nI j).toNatClampNeg = 32 * p + j := by rw [tk_i5', nI_clamp (by omega)]
    have e2 : (32 * nI c + nI j).toNatClampNeg = 32 * c + j := by rw [tk_i5', nI_clamp (by omega)]
    exact br_f (nI_ge (b := 32) (by omega) (by decide)) ⟨by rw [tk_i5']; exact vp_in_nI (by omega) (by decide), by rw [tk_i5']; exact vp_in_nI (by omega) (by decide), nm_r (e' := tk_y me (32 * c) (32 * p) (j + 1)) (by rw [e1, e2]; exact tk_ys (L := 32) (by omega) (by omega)) (nm_r (nI_1 j) (ih (j + 1) (by omega)))⟩
theorem tk_yFk35 {post : Int32 → SY → Prop} {p c : Nat} (hp : p < 6) (hc : c < 6) (hpc : p ≠ c) (h : ∃ n88, wY_fork_88 post (nI p) (nI c) ql xc pc n88 0 cw cn st pa sy (tk_y rg (4 * c) (4 * p) 4) (tk_y ds (4 * c) (4 * p) 4) me pw pl qu ou) : ∀ d j, j + d = 4 → wY_fork_35 post (nI p) (nI c) ql xc pc (d + 1) (nI j) cw cn st pa sy (tk_y rg (4 * c) (4 * p) j) (tk_y ds (4 * c) (4 * p) j) me pw pl qu ou := by
  intro d
  induction d with
  | zero =>
    intro j hj
    have e : j = 4 := by omega
    rw [e]
    exact br_t (nI_le (a := 4) (by omega) (by decide)) h
  | succ d ih =>
    intro j hj
    have e1 : (4 * nI p + nI j).toNatClampNeg = 4 * p + j := by rw [tk_i4', nI_clamp (by omega)]
    have e2 : (4 * nI c + nI j).toNatClampNeg = 4 * c + j := by rw [tk_i4', nI_clamp (by omega)]
    have v1 : vp_in (4 * nI p + nI j) 24 := by rw [tk_i4']; exact vp_in_nI (by omega) (by decide)
    have v2 : vp_in (4 * nI c + nI j) 24 := by rw [tk_i4']; exact vp_in_nI (by omega) (by decide)
    exact br_f (nI_ge (b := 4) (by omega) (by decide)) ⟨v1, v2, nm_r (e' := tk_y rg (4 * c) (4 * p) (j + 1)) (by rw [e1, e2]; exact tk_ys (L := 4) (by omega) (by omega)) ⟨v1, v2, nm_r (e' := tk_y ds (4 * c) (4 * p) (j + 1)) (by rw [e1, e2]; exact tk_ys (L := 4) (by omega) (by omega)) (nm_r (nI_1 j) (ih (j + 1) (by omega)))⟩⟩
theorem tk_yFk1 {post : Int32 → SY → Prop} {p c n : Nat} (hF : tk_F (fun j => st j = 0) 0 6 (nI c)) (hp : p < 6) (hc : c < 6) (hpc : p ≠ c) (hn : n ≤ 5) (h : post (nI c) (nI (n + 1), xc, pc, cw, cn, upd st c 1, upd pa c (nI p), upd sy c (sy p + 1), tk_y rg (4 * c) (4 * p) 4, tk_y ds (4 * c) (4 * p) 4, tk_y me (32 * c) (32 * p) 32, pw, pl, upd qu n (nI c), ou)) : wpY_fork post (nI n, xc, pc, cw, cn, st, pa, sy, rg, ds, me, pw, pl, qu, ou) (nI p) := by
  have ep : (nI p).toNatClampNeg = p := nI_clamp (by omega)
  have ec : (nI c).toNatClampNeg = c := nI_clamp (by omega)
  have v1 : vp_in (nI p) 6 := vp_in_nI hp (by decide)
  have v2 : vp_in (nI c) 6 := vp_in_nI hc (by decide)
  unfold wpY_fork
  refine tk_yFree hF (br_t (nI_pos' (by omega)) ⟨v2, nm_r (e' := upd pa c (nI p)) (by rw [ec]) ⟨v1, v2, nm_r (e' := upd sy c (sy p + 1)) (by rw [ep, ec]) ⟨5, ?_⟩⟩⟩)
  have k1 := tk_yFk88 hp hc hpc hn h 32 0 rfl
  rw [tk_y0] at k1
  have k2 := tk_yFk35 (rg := rg) (ds := ds) hp hc hpc ⟨33, k1⟩ 4 0 rfl
  rw [tk_y0, tk_y0] at k2
  exact k2
theorem tk_yFk0 {post : Int32 → SY → Prop} {p : Nat} (hF : tk_F (fun j => st j = 0) 0 6 (-1)) (h : post (-2) (ql, xc, pc, cw, cn, st, pa, sy, rg, ds, me, pw, pl, qu, ou)) : wpY_fork post (ql, xc, pc, cw, cn, st, pa, sy, rg, ds, me, pw, pl, qu, ou) (nI p) := by
  unfold wpY_fork
  exact tk_yFree hF (br_f (by decide) h)
theorem tk_xSp44 {post : Int32 → SX → Prop} {c n : Nat} {s x : Int32} (hc : c < 6) (hn : n ≤ 5) (h : post (nI c) (nI (n + 1), pc, xc, lv, cw, cn, upd st c 1, upd sx c s, rs, upd pa c (-1), upd rg (4 * c) x, tk_z me (32 * c) 32, ds, pw, pl, upd qu n (nI c), ou)) : ∀ d j, j + d = 32 → wX_spawn_44 post s x (nI c) (nI n) pc xc lv (d + 1) (nI j) cw cn st sx rs pa rg (tk_z me (32 * c) j) ds pw pl qu ou := by
  have ec : (nI c).toNatClampNeg = c := nI_clamp (by omega)
  have v2 : vp_in (nI c) 6 := vp_in_nI hc (by decide)
  have e4 : (nI c * 4).toNatClampNeg = 4 * c := by rw [tk_i40, nI_clamp (by omega)]
  intro d
  induction d with
  | zero =>
    intro j hj
    have e : j = 32 := by omega
    rw [e]
    exact br_t (nI_le (a := 32) (by omega) (by decide)) ⟨by rw [tk_i40]; exact vp_in_nI (by omega) (by decide), nm_r (e' := upd rg (4 * c) x) (by rw [e4]) ⟨v2, nm_r (e' := upd sx c s) (by rw [ec]) ⟨v2, nm_r (e' := upd pa c (-1)) (by rw [ec]) (tk_xJoin hc hn h)⟩⟩⟩
  | succ d ih =>
    intro j hj
    have e1 : (nI c * 32 + nI j).toNatClampNeg = 32 * c + j := by rw [tk_i5, nI_clamp (by omega)]
    exact br_f (nI_ge (b := 32) (by omega) (by decide)) ⟨by rw [tk_i5]; exact vp_in_nI (by omega) (by decide), nm_r (e' := tk_z me (32 * c) (j + 1)) (by rw [e1]; exact tk_zs _ _ _) (nm_r (nI_1 j) (ih (j + 1) (by omega)))⟩
theorem tk_xSp17 {post : Int32 → SX → Prop} {c : Nat} {s x : Int32} (hc : c < 6) (h : ∃ n44, wX_spawn_44 post s x (nI c) ql pc xc lv n44 0 cw cn st sx rs pa (tk_z rg (4 * c) 4) me ds pw pl qu ou) : ∀ d j, j + d = 4 → wX_spawn_17 post s x (nI c) ql pc xc lv (d + 1) (nI j) cw cn st sx rs pa (tk_z rg (4 * c) j) me ds pw pl qu ou := by
  intro d
  induction d with
  | zero =>
    intro j hj
    have e : j = 4 := by omega
    rw [e]
    exact br_t (nI_le (a := 4) (by omega) (by decide)) h
  | succ d ih =>
    intro j hj
    have e1 : (nI c * 4 + nI j).toNatClampNeg = 4 * c + j := by rw [tk_i4, nI_clamp (by omega)]
    exact br_f (nI_ge (b := 4) (by omega) (by decide)) ⟨by rw [tk_i4]; exact vp_in_nI (by omega) (by decide), nm_r (e' := tk_z rg (4 * c) (j + 1)) (by rw [e1]; exact tk_zs _ _ _) (nm_r (nI_1 j) (ih (j + 1) (by omega)))⟩
theorem tk_xSp1 {post : Int32 → SX → Prop} {c n : Nat} {s x : Int32} (hF : tk_F (fun j => st j = 0) 0 6 (nI c)) (hc : c < 6) (hn : n ≤ 5) (h : post (nI c) (nI (n + 1), pc, xc, lv, cw, cn, upd st c 1, upd sx c s, rs, upd pa c (-1), upd (tk_z rg (4 * c) 4) (4 * c) x, tk_z me (32 * c) 32, ds, pw, pl, upd qu n (nI c), ou)) : wpX_spawn post (nI n, pc, xc, lv, cw, cn, st, sx, rs, pa, rg, me, ds, pw, pl, qu, ou) s x := by
  unfold wpX_spawn
  refine tk_xFree hF (br_f (tk_nm1 (by omega)) ⟨5, ?_⟩)
  have k1 := tk_xSp44 (me := me) (rg := tk_z rg (4 * c) 4) hc hn h 32 0 rfl
  rw [tk_z0] at k1
  have k2 := tk_xSp17 (rg := rg) hc ⟨33, k1⟩ 4 0 rfl
  rw [tk_z0] at k2
  exact k2
theorem tk_ySp82 {post : Int32 → SY → Prop} {c n : Nat} (hc : c < 6) (hn : n ≤ 5) (h : post (nI c) (nI (n + 1), xc, pc, cw, cn, upd st c 1, pa, sy, rg, ds, tk_z me (32 * c) 32, pw, pl, upd qu n (nI c), ou)) : ∀ d j, j + d = 32 → wY_spawn_82 post (nI c) (nI n) xc pc (d + 1) (nI (32 * c + j)) cw cn st pa sy rg ds (tk_z me (32 * c) j) pw pl qu ou := by
  have k4 : 32 * nI c + 32 = nI (32 * c + 32) := tk_i5' c 32
  intro d
  induction d with
  | zero =>
    intro j hj
    have e : j = 32 := by omega
    rw [e]
    exact br_t (by rw [k4]; exact nI_le (by omega) (by omega)) (tk_yJoin hc hn h)
  | succ d ih =>
    intro j hj
    have e1 : (nI (32 * c + j)).toNatClampNeg = 32 * c + j := nI_clamp (by omega)
    exact br_f (by rw [k4]; exact nI_ge (by omega) (by omega)) ⟨vp_in_nI (by omega) (by decide), nm_r (e' := tk_z me (32 * c) (j + 1)) (by rw [e1]; exact tk_zs _ _ _) (nm_r (nI_1 _) (ih (j + 1) (by omega)))⟩
theorem tk_ySp32 {post : Int32 → SY → Prop} {c : Nat} {x : Int32} (hc : c < 6) (h : ∃ n82, wY_spawn_82 post (nI c) ql xc pc n82 (nI (32 * c)) cw cn st pa sy (tk_w rg x (4 * c) 4) (tk_z ds (4 * c) 4) me pw pl qu ou) : ∀ d j, j + d = 4 → wY_spawn_32 post x (nI c) ql xc pc (d + 1) (nI (4 * c + j)) cw cn st pa sy (tk_w rg x (4 * c) j) (tk_z ds (4 * c) j) me pw pl qu ou := by
  have k4 : 4 * nI c + 4 = nI (4 * c + 4) := tk_i4' c 4
  intro d
  induction d with
  | zero =>
    intro j hj
    have e : j = 4 := by omega
    rw [e]
    exact br_t (by rw [k4]; exact nI_le (by omega) (by omega)) (nm_r (tk_i50' c) h)
  | succ d ih =>
    intro j hj
    have e1 : (nI (4 * c + j)).toNatClampNeg = 4 * c + j := nI_clamp (by omega)
    have v1 : vp_in (nI (4 * c + j)) 24 := vp_in_nI (by omega) (by decide)
    refine br_f (by rw [k4]; exact nI_ge (by omega) (by omega)) ?_
    by_cases z : j = 0
    · exact br_t (by rw [tk_i40', z]; rfl) ⟨v1, nm_r (e' := tk_w rg x (4 * c) (j + 1)) (by rw [e1]; exact tk_ws (if_pos z).symm) ⟨v1, nm_r (e' := tk_z ds (4 * c) (j + 1)) (by rw [e1]; exact tk_zs _ _ _) (nm_r (nI_1 _) (ih (j + 1) (by omega)))⟩⟩
    · exact br_f (by rw [tk_i40']; exact tk_ne (by omega) (by omega) (by omega)) ⟨v1, nm_r (e' := tk_w rg x (4 * c) (j + 1)) (by rw [e1]; exact tk_ws (if_neg z).symm) ⟨v1, nm_r (e' := tk_z ds (4 * c) (j + 1)) (by rw [e1]; exact tk_zs _ _ _) (nm_r (nI_1 _) (ih (j + 1) (by omega)))⟩⟩
theorem tk_ySp1 {post : Int32 → SY → Prop} {c n : Nat} {s x : Int32} (hF : tk_F (fun j => st j = 0) 0 6 (nI c)) (hc : c < 6) (hn : n ≤ 5) (h : post (nI c) (nI (n + 1), xc, pc, cw, cn, upd st c 1, upd pa c (-1), upd sy c s, upd (tk_z rg (4 * c) 4) (4 * c) x, tk_z ds (4 * c) 4, tk_z me (32 * c) 32, pw, pl, upd qu n (nI c), ou)) : wpY_spawn post (nI n, xc, pc, cw, cn, st, pa, sy, rg, ds, me, pw, pl, qu, ou) s x := by
  have ec : (nI c).toNatClampNeg = c := nI_clamp (by omega)
  have v2 : vp_in (nI c) 6 := vp_in_nI hc (by decide)
  unfold wpY_spawn
  refine tk_yFree hF (br_t (nI_pos' (by omega)) ⟨v2, nm_r (e' := upd pa c (-1)) (by rw [ec]) ⟨v2, nm_r (e' := upd sy c s) (by rw [ec]) (nm_r (tk_i40' c) ⟨5, ?_⟩)⟩⟩)
  rw [← tk_w4] at h
  have k1 := tk_ySp82 (me := me) hc hn h 32 0 rfl
  rw [tk_z0] at k1
  have k2 := tk_ySp32 (rg := rg) (ds := ds) hc ⟨33, k1⟩ 4 0 rfl
  rw [tk_z0, tk_w0] at k2
  exact k2
end
end
section
section
variable {ql pc lv : Int32} {xc : Int64} {cw cn st sx sy rs pa rg me ds pw pl qu ou : Nat → Int32}
def tk_val (o : Nat) (x y n : Int32) : Int32 := if o = 1 then n else if o = 2 then y else if o = 3 then x + y else if o = 4 then x - y else if o = 5 then x * y else if o = 6 then x + n else if y ≤ x then 0 else 1
theorem tk_xCp1 {post : SX → Prop} {A B : Nat} {n : Int32} (hA : A < 24) (hB : B < 24) (h : post (ql, pc, xc, lv, cw, cn, st, sx, rs, pa, upd rg A (n), me, ds, pw, pl, qu, ou)) : wpX_compute post (ql, pc, xc, lv, cw, cn, st, sx, rs, pa, rg, me, ds, pw, pl, qu, ou) (nI 1) (nI A) (nI B) n := by
  have eA : (nI A).toNatClampNeg = A := nI_clamp (by omega)
  have eB : (nI B).toNatClampNeg = B := nI_clamp (by omega)
  have vA : vp_in (nI A) 24 := vp_in_nI hA (by decide)
  have vB : vp_in (nI B) 24 := vp_in_nI hB (by decide)
  exact br_f (by decide) (br_f (by decide) (br_t (by decide) ⟨vA, nm_r (e' := upd rg A (n)) (by rw [eA]) h⟩))
theorem tk_xCp2 {post : SX → Prop} {A B : Nat} {n : Int32} (hA : A < 24) (hB : B < 24) (h : post (ql, pc, xc, lv, cw, cn, st, sx, rs, pa, upd rg A (rg B), me, ds, pw, pl, qu, ou)) : wpX_compute post (ql, pc, xc, lv, cw, cn, st, sx, rs, pa, rg, me, ds, pw, pl, qu, ou) (nI 2) (nI A) (nI B) n := by
  have eA : (nI A).toNatClampNeg = A := nI_clamp (by omega)
  have eB : (nI B).toNatClampNeg = B := nI_clamp (by omega)
  have vA : vp_in (nI A) 24 := vp_in_nI hA (by decide)
  have vB : vp_in (nI B) 24 := vp_in_nI hB (by decide)
  exact br_f (by decide) (br_f (by decide) (br_f (by decide) (br_t (by decide) ⟨vB, vA, nm_r (e' := upd rg A (rg B)) (by rw [eA, eB]) h⟩)))
theorem tk_xCp3 {post : SX → Prop} {A B : Nat} {n : Int32} (hA : A < 24) (hB : B < 24) (h : post (ql, pc, xc, lv, cw, cn, st, sx, rs, pa, upd rg A (rg A + rg B), me, ds, pw, pl, qu, ou)) : wpX_compute post (ql, pc, xc, lv, cw, cn, st, sx, rs, pa, rg, me, ds, pw, pl, qu, ou) (nI 3) (nI A) (nI B) n := by
  have eA : (nI A).toNatClampNeg = A := nI_clamp (by omega)
  have eB : (nI B).toNatClampNeg = B := nI_clamp (by omega)
  have vA : vp_in (nI A) 24 := vp_in_nI hA (by decide)
  have vB : vp_in (nI B) 24 := vp_in_nI hB (by decide)
  exact br_f (by decide) (br_f (by decide) (br_f (by decide) (br_f (by decide) (br_t (by decide) ⟨vA, vB, vA, nm_r (e' := upd rg A (rg A + rg B)) (by rw [eA, eB]) h⟩))))
theorem tk_xCp4 {post : SX → Prop} {A B : Nat} {n : Int32} (hA : A < 24) (hB : B < 24) (h : post (ql, pc, xc, lv, cw, cn, st, sx, rs, pa, upd rg A (rg A - rg B), me, ds, pw, pl, qu, ou)) : wpX_compute post (ql, pc, xc, lv, cw, cn, st, sx, rs, pa, rg, me, ds, pw, pl, qu, ou) (nI 4) (nI A) (nI B) n := by
  have eA : (nI A).toNatClampNeg = A := nI_clamp (by omega)
  have eB : (nI B).toNatClampNeg = B := nI_clamp (by omega)
  have vA : vp_in (nI A) 24 := vp_in_nI hA (by decide)
  have vB : vp_in (nI B) 24 := vp_in_nI hB (by decide)
  exact br_f (by decide) (br_f (by decide) (br_f (by decide) (br_f (by decide) (br_f (by decide) (br_t (by decide) ⟨vA, vB, vA, nm_r (e' := upd rg A (rg A - rg B)) (by rw [eA, eB]) h⟩)))))
theorem tk_xCp5 {post : SX → Prop} {A B : Nat} {n : Int32} (hA : A < 24) (hB : B < 24) (h : post (ql, pc, xc, lv, cw, cn, st, sx, rs, pa, upd rg A (rg A * rg B), me, ds, pw, pl, qu, ou)) : wpX_compute post (ql, pc, xc, lv, cw, cn, st, sx, rs, pa, rg, me, ds, pw, pl, qu, ou) (nI 5) (nI A) (nI B) n := by
  have eA : (nI A).toNatClampNeg = A := nI_clamp (by omega)
  have eB : (nI B).toNatClampNeg = B := nI_clamp (by omega)
  have vA : vp_in (nI A) 24 := vp_in_nI hA (by decide)
  have vB : vp_in (nI B) 24 := vp_in_nI hB (by decide)
  exact br_f (by decide) (br_f (by decide) (br_f (by decide) (br_f (by decide) (br_f (by decide) (br_f (by decide) (br_t (by decide) ⟨vA, vB, vA, nm_r (e' := upd rg A (rg A * rg B)) (by rw [eA, eB]) h⟩))))))
theorem tk_xCp6 {post : SX → Prop} {A B : Nat} {n : Int32} (hA : A < 24) (hB : B < 24) (h : post (ql, pc, xc, lv, cw, cn, st, sx, rs, pa, upd rg A (rg A + n), me, ds, pw, pl, qu, ou)) : wpX_compute post (ql, pc, xc, lv, cw, cn, st, sx, rs, pa, rg, me, ds, pw, pl, qu, ou) (nI 6) (nI A) (nI B) n := by
  have eA : (nI A).toNatClampNeg = A := nI_clamp (by omega)
  have eB : (nI B).toNatClampNeg = B := nI_clamp (by omega)
  have vA : vp_in (nI A) 24 := vp_in_nI hA (by decide)
  have vB : vp_in (nI B) 24 := vp_in_nI hB (by decide)
  exact br_f (by decide) (br_f (by decide) (br_f (by decide) (br_f (by decide) (br_f (by decide) (br_f (by decide) (br_f (by decide) (br_t (by decide) ⟨vA, vA, nm_r (e' := upd rg A (rg A + n)) (by rw [eA]) h⟩)))))))
theorem tk_xCp7 {post : SX → Prop} {A B : Nat} {n : Int32} (hA : A < 24) (hB : B < 24) (h : post (ql, pc, xc, lv, cw, cn, st, sx, rs, pa, upd rg A (if rg B ≤ rg A then 0 else 1), me, ds, pw, pl, qu, ou)) : wpX_compute post (ql, pc, xc, lv, cw, cn, st, sx, rs, pa, rg, me, ds, pw, pl, qu, ou) (nI 7) (nI A) (nI B) n := by
  have eA : (nI A).toNatClampNeg = A := nI_clamp (by omega)
  have eB : (nI B).toNatClampNeg = B := nI_clamp (by omega)
  have vA : vp_in (nI A) 24 := vp_in_nI hA (by decide)
  have vB : vp_in (nI B) 24 := vp_in_nI hB (by decide)
  refine br_f (by decide) (br_f (by decide) (br_f (by decide) (br_f (by decide) (br_f (by decide) (br_f (by decide) (br_f (by decide) (br_f (by decide) (br_t (by decide) ⟨vA, vB, ?_⟩))))))))
  by_cases z : rg B ≤ rg A
  · rw [if_pos z] at h
    exact br_t (by rw [eA, eB]; exact z) ⟨vA, nm_r (e' := upd rg A 0) (by rw [eA]) h⟩
  · rw [if_neg z] at h
    exact br_f (by rw [eA, eB]; exact z) ⟨vA, nm_r (e' := upd rg A 1) (by rw [eA]) h⟩
theorem tk_xCp {post : SX → Prop} {A B o : Nat} {n : Int32} (ho : 1 ≤ o) (ho7 : o ≤ 7) (hA : A < 24) (hB : B < 24) (h : post (ql, pc, xc, lv, cw, cn, st, sx, rs, pa, upd rg A (tk_val o (rg A) (rg B) n), me, ds, pw, pl, qu, ou)) : wpX_compute post (ql, pc, xc, lv, cw, cn, st, sx, rs, pa, rg, me, ds, pw, pl, qu, ou) (nI o) (nI A) (nI B) n := by
  have k : o = 1 ∨ o = 2 ∨ o = 3 ∨ o = 4 ∨ o = 5 ∨ o = 6 ∨ o = 7 := by omega
  rcases k with rfl | rfl | rfl | rfl | rfl | rfl | rfl
  · exact tk_xCp1 hA hB h
  · exact tk_xCp2 hA hB h
  · exact tk_xCp3 hA hB h
  · exact tk_xCp4 hA hB h
  · exact tk_xCp5 hA hB h
  · exact tk_xCp6 hA hB h
  · exact tk_xCp7 hA hB h
theorem tk_ySi {post : Int32 → Prop} {o : Nat} {x y n : Int32} (ho : 1 ≤ o) (ho7 : o ≤ 7) (h : post (tk_val o x y n)) : wpY_simple post (ql, xc, pc, cw, cn, st, pa, sy, rg, ds, me, pw, pl, qu, ou) (nI o) x y n := by
  have k : o = 1 ∨ o = 2 ∨ o = 3 ∨ o = 4 ∨ o = 5 ∨ o = 6 ∨ o = 7 := by omega
  rcases k with rfl | rfl | rfl | rfl | rfl | rfl | rfl
  · exact br_t (by decide) h
  · exact br_f (by decide) (br_t (by decide) h)
  · exact br_f (by decide) (br_f (by decide) (br_t (by decide) h))
  · exact br_f (by decide) (br_f (by decide) (br_f (by decide) (br_t (by decide) h)))
  · exact br_f (by decide) (br_f (by decide) (br_f (by decide) (br_f (by decide) (br_t (by decide) h))))
  · exact br_f (by decide) (br_f (by decide) (br_f (by decide) (br_f (by decide) (br_f (by decide) (br_t (by decide) h)))))
  · refine br_f (by decide) (br_f (by decide) (br_f (by decide) (br_f (by decide) (br_f (by decide) (br_f (by decide) (?_))))))
    by_cases z : y ≤ x
    · have e : tk_val 7 x y n = 0 := if_pos z
      rw [e] at h
      exact br_t z h
    · have e : tk_val 7 x y n = 1 := if_neg z
      rw [e] at h
      exact br_f z h
theorem tk_xLd1 {post : SX → Prop} {p A j : Nat} (hp : p < 6) (hA : A < 24) (hj : j < 32) (h : post (ql, pc, xc, lv, cw, cn, st, sx, rs, pa, upd rg A (me (32 * p + j)), me, ds, pw, pl, qu, ou)) : wpX_load post (ql, pc, xc, lv, cw, cn, st, sx, rs, pa, rg, me, ds, pw, pl, qu, ou) (nI p) (nI A) (nI j) := by
  have eA : (nI A).toNatClampNeg = A := nI_clamp (by omega)
  have e1 : (nI p * 32 + nI j).toNatClampNeg = 32 * p + j := by rw [tk_i5, nI_clamp (by omega)]
  unfold wpX_load
  exact tk_xWord1 hj (br_f tk_01 ⟨by rw [tk_i5]; exact vp_in_nI (by omega) (by decide), vp_in_nI hA (by decide), nm_r (e' := upd rg A (me (32 * p + j))) (by rw [eA, e1]) h⟩)
theorem tk_xLd0 {post : SX → Prop} {p A n : Nat} {s : Int32} (hs : s < 0 ∨ (¬ s < 0 ∧ nI 32 ≤ s)) (hp : p < 6) (hq : n ≤ 6) (hn : pa p ≠ nI p) (h : post (nI (tk_lv qu (nI p) n).2, pc, xc, lv, cw, cn, tk_fs st pa p, sx, upd rs p (-1), tk_cp st pa p 6, rg, me, tk_z ds (4 * p) 4, pw, pl, (tk_lv qu (nI p) n).1, ou)) : wpX_load post (nI n, pc, xc, lv, cw, cn, st, sx, rs, pa, rg, me, ds, pw, pl, qu, ou) (nI p) (nI A) s := by
  unfold wpX_load
  exact tk_xWord0 hs (br_t rfl (tk_xFin hp hq hn h))
theorem tk_xSt1 {post : SX → Prop} {p A j : Nat} (hp : p < 6) (hA : A < 24) (hj : j < 32) (h : post (ql, pc, xc, lv, cw, cn, st, sx, rs, pa, rg, upd me (32 * p + j) (rg A), ds, pw, pl, qu, ou)) : wpX_store post (ql, pc, xc, lv, cw, cn, st, sx, rs, pa, rg, me, ds, pw, pl, qu, ou) (nI p) (nI A) (nI j) := by
  have eA : (nI A).toNatClampNeg = A := nI_clamp (by omega)
  have e1 : (nI p * 32 + nI j).toNatClampNeg = 32 * p + j := by rw [tk_i5, nI_clamp (by omega)]
  unfold wpX_store
  exact tk_xWord1 hj (br_f tk_01 ⟨vp_in_nI hA (by decide), by rw [tk_i5]; exact vp_in_nI (by omega) (by decide), nm_r (e' := upd me (32 * p + j) (rg A)) (by rw [eA, e1]) h⟩)
theorem tk_xSt0 {post : SX → Prop} {p A n : Nat} {s : Int32} (hs : s < 0 ∨ (¬ s < 0 ∧ nI 32 ≤ s)) (hp : p < 6) (hq : n ≤ 6) (hn : pa p ≠ nI p) (h : post (nI (tk_lv qu (nI p) n).2, pc, xc, lv, cw, cn, tk_fs st pa p, sx, upd rs p (-1), tk_cp st pa p 6, rg, me, tk_z ds (4 * p) 4, pw, pl, (tk_lv qu (nI p) n).1, ou)) : wpX_store post (nI n, pc, xc, lv, cw, cn, st, sx, rs, pa, rg, me, ds, pw, pl, qu, ou) (nI p) (nI A) s := by
  unfold wpX_store
  exact tk_xWord0 hs (br_t rfl (tk_xFin hp hq hn h))
theorem tk_xCo0 {post : SX → Prop} {p A B : Nat} (hF : tk_F (fun j => st j = 3 ∧ pa j = nI p) 0 6 (-1)) (hA : A < 24) (h : post (ql, pc, xc, lv, cw, cn, st, sx, rs, pa, upd rg A (-1), me, ds, pw, pl, qu, ou)) : wpX_collect post (ql, pc, xc, lv, cw, cn, st, sx, rs, pa, rg, me, ds, pw, pl, qu, ou) (nI p) (nI A) (nI B) := by
  have eA : (nI A).toNatClampNeg = A := nI_clamp (by omega)
  unfold wpX_collect
  exact tk_xEnd hF (br_t rfl ⟨vp_in_nI hA (by decide), nm_r (e' := upd rg A (-1)) (by rw [eA]) h⟩)
theorem tk_xCo1 {post : SX → Prop} {p A B c : Nat} (hF : tk_F (fun j => st j = 3 ∧ pa j = nI p) 0 6 (nI c)) (hc : c < 6) (hA : A < 24) (hB : B < 24) (h : post (ql, pc, xc, lv, cw, cn, upd st c 0, sx, rs, pa, upd (upd rg A (rs c)) B (nI c), me, ds, pw, pl, qu, ou)) : wpX_collect post (ql, pc, xc, lv, cw, cn, st, sx, rs, pa, rg, me, ds, pw, pl, qu, ou) (nI p) (nI A) (nI B) := by
  have eA : (nI A).toNatClampNeg = A := nI_clamp (by omega)
  have eB : (nI B).toNatClampNeg = B := nI_clamp (by omega)
  have ec : (nI c).toNatClampNeg = c := nI_clamp (by omega)
  have vc : vp_in (nI c) 6 := vp_in_nI hc (by decide)
  unfold wpX_collect
  exact tk_xEnd hF (br_f (tk_nm1 (by omega)) ⟨vc, vp_in_nI hA (by decide), nm_r (e' := upd rg A (rs c)) (by rw [eA, ec]) ⟨vp_in_nI hB (by decide), nm_r (e' := upd (upd rg A (rs c)) B (nI c)) (by rw [eB]) ⟨vc, nm_r (e' := upd st c 0) (by rw [ec]) h⟩⟩⟩)
theorem tk_yAw0 {post : SY → Prop} {p a b : Nat} (hF : tk_F (fun j => st j = 3 ∧ pa j = nI p) 0 6 (-1)) (hp : p < 6) (ha : a < 4) (h : post (ql, xc, pc, cw, cn, st, pa, sy, upd rg (4 * p + a) (-1), ds, me, pw, pl, qu, ou)) : wpY_await post (ql, xc, pc, cw, cn, st, pa, sy, rg, ds, me, pw, pl, qu, ou) (nI p) (nI a) (nI b) := by
  have eA : (4 * nI p + nI a).toNatClampNeg = 4 * p + a := by rw [tk_i4', nI_clamp (by omega)]
  have vA : vp_in (4 * nI p + nI a) 24 := by rw [tk_i4']; exact vp_in_nI (by omega) (by decide)
  unfold wpY_await
  refine tk_yEnd (fun r hr => ?_)
  have k : ¬ 0 ≤ r := by
    rcases hr with ⟨x, _⟩ | ⟨x, _⟩
    · rw [tk_Fu 6 0 rfl x hF]; decide
    · rw [x]; decide
  exact br_f k ⟨vA, nm_r (e' := upd rg (4 * p + a) (-1)) (by rw [eA]) h⟩
theorem tk_yAw1 {post : SY → Prop} {p a b c : Nat} (hF : tk_F (fun j => st j = 3 ∧ pa j = nI p) 0 6 (nI c)) (hc : c < 6) (h3 : st c = 3) (hpc : pa c = nI p) (hp : p < 6) (ha : a < 4) (hb : b < 4) (h : post (ql, xc, pc, cw, cn, upd st c 0, pa, sy, upd (upd rg (4 * p + a) (sy c)) (4 * p + b) (nI c), ds, me, pw, pl, qu, ou)) : wpY_await post (ql, xc, pc, cw, cn, st, pa, sy, rg, ds, me, pw, pl, qu, ou) (nI p) (nI a) (nI b) := by
  have eA : (4 * nI p + nI a).toNatClampNeg = 4 * p + a := by rw [tk_i4', nI_clamp (by omega)]
  have vA : vp_in (4 * nI p + nI a) 24 := by rw [tk_i4']; exact vp_in_nI (by omega) (by decide)
  have eB : (4 * nI p + nI b).toNatClampNeg = 4 * p + b := by rw [tk_i4', nI_clamp (by omega)]
  have vB : vp_in (4 * nI p + nI b) 24 := by rw [tk_i4']; exact vp_in_nI (by omega) (by decide)
  have ec : (nI c).toNatClampNeg = c := nI_clamp (by omega)
  have vc : vp_in (nI c) 6 := vp_in_nI hc (by decide)
  unfold wpY_await
  refine tk_yEnd (fun r hr => ?_)
  have k : r = nI c := by
    rcases hr with ⟨x, _⟩ | ⟨_, x⟩
    · exact tk_Fu 6 0 rfl x hF
    · exact absurd ⟨by rw [h3]; decide, hpc⟩ (x c (Nat.zero_le _) hc)
  rw [k]
  exact br_t (nI_pos' (by omega)) ⟨vc, vA, nm_r (e' := upd rg (4 * p + a) (sy c)) (by rw [eA, ec]) ⟨vB, nm_r (e' := upd (upd rg (4 * p + a) (sy c)) (4 * p + b) (nI c)) (by rw [eB]) ⟨vc, nm_r (e' := upd st c 0) (by rw [ec]) h⟩⟩⟩
theorem tk_xPr1 {post : SX → Prop} {m : Nat} {x : Int32} (hm : m < 32) (h : post (ql, nI (m + 1), xc, lv, cw, cn, st, sx, rs, pa, rg, me, ds, pw, pl, qu, upd ou m x)) : wpX_print post (ql, nI m, xc, lv, cw, cn, st, sx, rs, pa, rg, me, ds, pw, pl, qu, ou) x := by
  have e : (nI m).toNatClampNeg = m := nI_clamp (by omega)
  exact br_f (nI_pos (by omega)) (br_f (nI_ge (b := 32) hm (by decide)) ⟨vp_in_nI hm (by decide), nm_r (e' := upd ou m x) (by rw [e]) (nm_r (nI_1 m) h)⟩)
theorem tk_xPr0 {post : SX → Prop} {m : Nat} {x : Int32} (hm : 32 ≤ m) (hm2 : m < 2 ^ 31) (h : post (ql, nI (m + 1), xc, lv, cw, cn, st, sx, rs, pa, rg, me, ds, pw, pl, qu, ou)) : wpX_print post (ql, nI m, xc, lv, cw, cn, st, sx, rs, pa, rg, me, ds, pw, pl, qu, ou) x :=
  br_f (nI_pos hm2) (br_t (nI_le (a := 32) hm hm2) (nm_r (nI_1 m) h))
theorem tk_yPr1 {post : SY → Prop} {m : Nat} {x : Int32} (hm : m < 32) (h : post (ql, xc, nI (m + 1), cw, cn, st, pa, sy, rg, ds, me, pw, pl, qu, upd ou m x)) : wpY_show post (ql, xc, nI m, cw, cn, st, pa, sy, rg, ds, me, pw, pl, qu, ou) x := by
  have e : (nI m).toNatClampNeg = m := nI_clamp (by omega)
  exact br_f (nI_ge (b := 32) hm (by decide)) ⟨vp_in_nI hm (by decide), nm_r (e' := upd ou m x) (by rw [e]) (nm_r (nI_1 m) h)⟩
theorem tk_yPr0 {post : SY → Prop} {m : Nat} {x : Int32} (hm : 32 ≤ m) (hm2 : m < 2 ^ 31) (h : post (ql, xc, nI (m + 1), cw, cn, st, pa, sy, rg, ds, me, pw, pl, qu, ou)) : wpY_show post (ql, xc, nI m, cw, cn, st, pa, sy, rg, ds, me, pw, pl, qu, ou) x :=
  br_t (nI_le (a := 32) hm hm2) (nm_r (nI_1 m) h)
theorem tk_xKo0 {post : SX → Prop} {p A B : Nat} (hA : A < 24) (hB : B < 24) (hk : rg B = nI p ∨ rg B < 0 ∨ (¬ rg B < 0 ∧ nI 6 ≤ rg B) ∨ ∃ v, v < 6 ∧ rg B = nI v ∧ ¬ (st v = 1 ∨ st v = 2)) (h : post (ql, pc, xc, lv, cw, cn, st, sx, rs, pa, upd rg A (-1), me, ds, pw, pl, qu, ou)) : wpX_killOther post (ql, pc, xc, lv, cw, cn, st, sx, rs, pa, rg, me, ds, pw, pl, qu, ou) (nI p) (nI A) (nI B) := by
  have eA : (nI A).toNatClampNeg = A := nI_clamp (by omega)
  have eB : (nI B).toNatClampNeg = B := nI_clamp (by omega)
  have vA : vp_in (nI A) 24 := vp_in_nI hA (by decide)
  have F : vp_in (nI A) 24 ∧ ∀ y : Nat → Int32, y = upd rg (nI A).toNatClampNeg (-1) → post (ql, pc, xc, lv, cw, cn, st, sx, rs, pa, y, me, ds, pw, pl, qu, ou) := ⟨vA, nm_r (e' := upd rg A (-1)) (by rw [eA]) h⟩
  refine ⟨vp_in_nI hB (by decide), nm_r (e' := rg B) (by rw [eB]) ?_⟩
  refine br_c (fun _ => F) (fun hne => ?_)
  rcases hk with k | k | k | ⟨v, hv, ev, k⟩
  · exact absurd k hne
  · exact tk_xAliveO (Or.inl k) (br_t rfl F)
  · exact tk_xAliveO (Or.inr k) (br_t rfl F)
  · rw [ev]; exact tk_xAlive0 hv k (br_t rfl F)
theorem tk_xKo1 {post : SX → Prop} {p A B v n : Nat} (hp : p < 6) (hA : A < 24) (hB : B < 24) (ev : rg B = nI v) (hv : v < 6) (hvp : v ≠ p) (hl : st v = 1 ∨ st v = 2) (hq : n ≤ 6) (hn : pa v ≠ nI v) (h : post (nI (tk_lv qu (nI v) n).2, pc, xc, lv, cw, cn, tk_fs st pa v, sx, upd rs v (-3), tk_cp st pa v 6, upd rg A 0, me, tk_z ds (4 * v) 4, pw, pl, (tk_lv qu (nI v) n).1, ou)) : wpX_killOther post (nI n, pc, xc, lv, cw, cn, st, sx, rs, pa, rg, me, ds, pw, pl, qu, ou) (nI p) (nI A) (nI B) := by
  have eA : (nI A).toNatClampNeg = A := nI_clamp (by omega)
  have eB : (nI B).toNatClampNeg = B := nI_clamp (by omega)
  have vA : vp_in (nI A) 24 := vp_in_nI hA (by decide)
  refine ⟨vp_in_nI hB (by decide), nm_r (e' := nI v) (by rw [eB]; exact ev) ?_⟩
  exact br_f (tk_ne (by omega) (by omega) hvp) (tk_xAlive1 hv hl (br_f tk_01 (tk_xFin hv hq hn ⟨vA, nm_r (e' := upd rg A 0) (by rw [eA]) h⟩)))
theorem tk_yKo0 {post : Int32 → SY → Prop} {p : Nat} {x : Int32} (hk : x = nI p ∨ x < 0 ∨ (¬ x < 0 ∧ nI 6 ≤ x) ∨ ∃ v, v < 6 ∧ x = nI v ∧ ¬ (st v = 1 ∨ st v = 2)) (h : post (-1) (ql, xc, pc, cw, cn, st, pa, sy, rg, ds, me, pw, pl, qu, ou)) : wpY_killOther post (ql, xc, pc, cw, cn, st, pa, sy, rg, ds, me, pw, pl, qu, ou) (nI p) x := by
  refine br_c (fun _ => h) (fun hne => ?_)
  rcases hk with k | k | k | ⟨v, hv, ev, k⟩
  · exact absurd k hne
  · exact tk_yLiveO (Or.inl k) (br_t rfl h)
  · exact tk_yLiveO (Or.inr k) (br_t rfl h)
  · rw [ev]; exact tk_yLive0 hv k (br_t rfl h)
theorem tk_yKo1 {post : Int32 → SY → Prop} {p v n : Nat} (hp : p < 6) (hv : v < 6) (hvp : v ≠ p) (hl : st v = 1 ∨ st v = 2) (hq : n ≤ 6) (hw : pa v = -1 ∨ ∃ j, j < 6 ∧ j ≠ v ∧ pa v = nI j) (hn : pa v ≠ nI v) (h : post 0 (nI (tk_lv qu (nI v) n).2, xc, pc, cw, cn, tk_fs st pa v, tk_cp st pa v 6, upd sy v (-3), rg, tk_z ds (4 * v) 4, me, pw, pl, (tk_lv qu (nI v) n).1, ou)) : wpY_killOther post (nI n, xc, pc, cw, cn, st, pa, sy, rg, ds, me, pw, pl, qu, ou) (nI p) (nI v) :=
  br_f (tk_ne (by omega) (by omega) hvp) (tk_yLive1 hv hl (br_f tk_01 (tk_yFin hv hq hw hn h)))
end
end
section
section
variable {ql pc lv : Int32} {xc : Int64} {cw cn st sx sy rs pa rg me ds pw pl qu ou : Nat → Int32}
theorem tk_xNo' {post : Int32 → Prop} {r x : Int32} {p : Nat} (f : Nat) (e : x = nI f) (hf : f ≤ 4) (hp6 : p < 6) (h : tk_F (fun j => ds (4 * p + j) = 0) f 4 r) (hp : post r) : wpX_nextNothing post (ql, pc, xc, lv, cw, cn, st, sx, rs, pa, rg, me, ds, pw, pl, qu, ou) (nI p) x := by
  rw [e]; exact tk_xNo f hf hp6 h hp
theorem tk_yNo' {post : Int32 → Prop} {r x : Int32} {p : Nat} (f : Nat) (e : x = nI f) (hf : f ≤ 4) (hp6 : p < 6) (h : tk_F (fun j => ds (4 * p + j) = 0) f 4 r) (hp : post r) : wpY_nothing post (ql, xc, pc, cw, cn, st, pa, sy, rg, ds, me, pw, pl, qu, ou) (nI p) x := by
  rw [e]; exact tk_yNo f hf hp6 h hp
/-- what the two free places and the free pipe are, where PIPE does not answer -1 -/
def tk_PO (ds : Nat → Int32) (p d1 d2 k : Nat) : Prop := d1 < 4 ∧ d2 < 4 ∧ k < 3 ∧ tk_F (fun j => ds (4 * p + j) = 0) 0 4 (nI d1) ∧ tk_F (fun j => ds (4 * p + j) = 0) (d1 + 1) 4 (nI d2) ∧ tk_F (tk_N ds) 0 3 (nI k)
theorem tk_xOp {post : SX → Prop} {p A B d1 d2 k : Nat} (hp : p < 6) (hA : A < 24) (hB : B < 24) (H : tk_PO ds p d1 d2 k) (h : post (ql, pc, xc, lv, cw, cn, st, sx, rs, pa, upd (upd rg A (nI d1)) B (nI d2), me, upd (upd ds (4 * p + d1) (1 + 2 * nI k)) (4 * p + d2) (2 + 2 * nI k), pw, upd pl k 0, qu, ou)) : wpX_openPipe post (ql, pc, xc, lv, cw, cn, st, sx, rs, pa, rg, me, ds, pw, pl, qu, ou) (nI p) (nI A) (nI B) := by
  obtain ⟨h1, h2, h3, F1, F2, F3⟩ := H
  have eA : (nI A).toNatClampNeg = A := nI_clamp (by omega)
  have eB : (nI B).toNatClampNeg = B := nI_clamp (by omega)
  have ek : (nI k).toNatClampNeg = k := nI_clamp (by omega)
  have e1 : (nI p * 4 + nI d1).toNatClampNeg = 4 * p + d1 := by rw [tk_i4, nI_clamp (by omega)]
  have e2 : (nI p * 4 + nI d2).toNatClampNeg = 4 * p + d2 := by rw [tk_i4, nI_clamp (by omega)]
  unfold wpX_openPipe
  refine tk_xNo' 0 rfl (by omega) hp F1 ?_
  refine tk_xNo' (d1 + 1) (nI_1 d1) (by omega) hp F2 ?_
  refine tk_xPn F3 ?_
  exact br_f (tk_nm1 (by omega)) (br_f (tk_nm1 (by omega)) (br_f (tk_nm1 (by omega)) ⟨by rw [tk_i4]; exact vp_in_nI (by omega) (by decide), nm_r (e' := upd ds (4 * p + d1) (1 + 2 * nI k)) (by rw [e1]) ⟨by rw [tk_i4]; exact vp_in_nI (by omega) (by decide), nm_r (e' := upd (upd ds (4 * p + d1) (1 + 2 * nI k)) (4 * p + d2) (2 + 2 * nI k)) (by rw [e2]) ⟨vp_in_nI h3 (by decide), nm_r (e' := upd pl k 0) (by rw [ek]) ⟨vp_in_nI hA (by decide), nm_r (e' := upd rg A (nI d1)) (by rw [eA]) ⟨vp_in_nI hB (by decide), nm_r (e' := upd (upd rg A (nI d1)) B (nI d2)) (by rw [eB]) h⟩⟩⟩⟩⟩))
/-- PIPE answers -1 -/
def tk_PN (ds : Nat → Int32) (p : Nat) : Prop := tk_F (fun j => ds (4 * p + j) = 0) 0 4 (-1) ∨ (∃ d1, d1 < 4 ∧ tk_F (fun j => ds (4 * p + j) = 0) 0 4 (nI d1) ∧ tk_F (fun j => ds (4 * p + j) = 0) (d1 + 1) 4 (-1)) ∨ (∃ d1 d2, d1 < 4 ∧ d2 < 4 ∧ tk_F (fun j => ds (4 * p + j) = 0) 0 4 (nI d1) ∧ tk_F (fun j => ds (4 * p + j) = 0) (d1 + 1) 4 (nI d2) ∧ tk_F (tk_N ds) 0 3 (-1))
theorem tk_xOpN {post : SX → Prop} {p A B : Nat} (hp : p < 6) (hA : A < 24) (H : tk_PN ds p) (h : post (ql, pc, xc, lv, cw, cn, st, sx, rs, pa, upd rg A (-1), me, ds, pw, pl, qu, ou)) : wpX_openPipe post (ql, pc, xc, lv, cw, cn, st, sx, rs, pa, rg, me, ds, pw, pl, qu, ou) (nI p) (nI A) (nI B) := by
  have eA : (nI A).toNatClampNeg = A := nI_clamp (by omega)
  have vA : vp_in (nI A) 24 := vp_in_nI hA (by decide)
  have F : vp_in (nI A) 24 ∧ ∀ y : Nat → Int32, y = upd rg (nI A).toNatClampNeg (-1) → post (ql, pc, xc, lv, cw, cn, st, sx, rs, pa, y, me, ds, pw, pl, qu, ou) := ⟨vA, nm_r (e' := upd rg A (-1)) (by rw [eA]) h⟩
  obtain ⟨r3, F3⟩ := tk_Fex (tk_N ds) 3 3 0 rfl
  unfold wpX_openPipe
  rcases H with F1 | ⟨d1, h1, F1, F2⟩ | ⟨d1, d2, h1, h2, F1, F2, F4⟩
  · refine tk_xNo' 0 rfl (by omega) hp F1 ?_
    refine tk_xNo' 0 (by decide) (by omega) hp F1 ?_
    exact tk_xPn F3 (br_t rfl F)
  · refine tk_xNo' 0 rfl (by omega) hp F1 ?_
    refine tk_xNo' (d1 + 1) (nI_1 d1) (by omega) hp F2 ?_
    exact tk_xPn F3 (br_f (tk_nm1 (by omega)) (br_t rfl F))
  · refine tk_xNo' 0 rfl (by omega) hp F1 ?_
    refine tk_xNo' (d1 + 1) (nI_1 d1) (by omega) hp F2 ?_
    exact tk_xPn F4 (br_f (tk_nm1 (by omega)) (br_f (tk_nm1 (by omega)) (br_t rfl F)))
theorem tk_yMp {post : SY → Prop} {p a b d1 d2 k : Nat} (hp : p < 6) (ha : a < 4) (hb : b < 4) (H : tk_PO ds p d1 d2 k) (h : post (ql, xc, pc, cw, cn, st, pa, sy, upd (upd rg (4 * p + a) (nI d1)) (4 * p + b) (nI d2), upd (upd ds (4 * p + d1) (1 + 2 * nI k)) (4 * p + d2) (2 + 2 * nI k), me, pw, upd pl k 0, qu, ou)) : wpY_makePipe post (ql, xc, pc, cw, cn, st, pa, sy, rg, ds, me, pw, pl, qu, ou) (nI p) (nI a) (nI b) := by
  obtain ⟨h1, h2, h3, F1, F2, F3⟩ := H
  have eA : (4 * nI p + nI a).toNatClampNeg = 4 * p + a := by rw [tk_i4', nI_clamp (by omega)]
  have eB : (4 * nI p + nI b).toNatClampNeg = 4 * p + b := by rw [tk_i4', nI_clamp (by omega)]
  have ek : (nI k).toNatClampNeg = k := nI_clamp (by omega)
  have e1 : (4 * nI p + nI d1).toNatClampNeg = 4 * p + d1 := by rw [tk_i4', nI_clamp (by omega)]
  have e2 : (4 * nI p + nI d2).toNatClampNeg = 4 * p + d2 := by rw [tk_i4', nI_clamp (by omega)]
  have V : ∀ c, c < 4 → vp_in (4 * nI p + nI c) 24 := fun c hc => by rw [tk_i4']; exact vp_in_nI (by omega) (by decide)
  unfold wpY_makePipe
  refine tk_yNo' 0 rfl (by omega) hp F1 (br_t (nI_pos' (by omega)) ?_)
  refine tk_yNo' (d1 + 1) (nI_1 d1) (by omega) hp F2 ⟨4, tk_yPnL (fun r hr => ?_) 3 (-1) (Nat.le_refl _) (tk_Fe (Nat.le_refl _))⟩
  have q := tk_Fu 3 0 rfl hr F3
  rw [q]
  exact br_t (by decide) (br_f (nI_pos (by omega)) (br_t (nI_pos' (by omega)) ⟨vp_in_nI h3 (by decide), nm_r (e' := upd pl k 0) (by rw [ek]) ⟨V _ h1, nm_r (e' := upd ds (4 * p + d1) (1 + 2 * nI k)) (by rw [e1]) ⟨V _ h2, nm_r (e' := upd (upd ds (4 * p + d1) (1 + 2 * nI k)) (4 * p + d2) (2 + 2 * nI k)) (by rw [e2]) ⟨V _ ha, nm_r (e' := upd rg (4 * p + a) (nI d1)) (by rw [eA]) ⟨V _ hb, nm_r (e' := upd (upd rg (4 * p + a) (nI d1)) (4 * p + b) (nI d2)) (by rw [eB]) h⟩⟩⟩⟩⟩))
theorem tk_yMpN {post : SY → Prop} {p a b : Nat} (hp : p < 6) (ha : a < 4) (H : tk_PN ds p) (h : post (ql, xc, pc, cw, cn, st, pa, sy, upd rg (4 * p + a) (-1), ds, me, pw, pl, qu, ou)) : wpY_makePipe post (ql, xc, pc, cw, cn, st, pa, sy, rg, ds, me, pw, pl, qu, ou) (nI p) (nI a) (nI b) := by
  have eA : (4 * nI p + nI a).toNatClampNeg = 4 * p + a := by rw [tk_i4', nI_clamp (by omega)]
  have vA : vp_in (4 * nI p + nI a) 24 := by rw [tk_i4']; exact vp_in_nI (by omega) (by decide)
  have F : wY_makePipe_68 post (nI p) (nI a) ql xc pc cw cn st pa sy rg ds me pw pl qu ou := ⟨vA, nm_r (e' := upd rg (4 * p + a) (-1)) (by rw [eA]) h⟩
  unfold wpY_makePipe
  rcases H with F1 | ⟨d1, h1, F1, F2⟩ | ⟨d1, d2, h1, h2, F1, F2, F4⟩
  · refine tk_yNo' 0 rfl (by omega) hp F1 (br_f (by decide) ⟨4, tk_yPnL (fun r hr => ?_) 3 (-1) (Nat.le_refl _) (tk_Fe (Nat.le_refl _))⟩)
    exact br_t (by decide) (br_t (by decide) F)
  · refine tk_yNo' 0 rfl (by omega) hp F1 (br_t (nI_pos' (by omega)) ?_)
    refine tk_yNo' (d1 + 1) (nI_1 d1) (by omega) hp F2 ⟨4, tk_yPnL (fun r hr => ?_) 3 (-1) (Nat.le_refl _) (tk_Fe (Nat.le_refl _))⟩
    exact br_t (by decide) (br_t (by decide) F)
  · refine tk_yNo' 0 rfl (by omega) hp F1 (br_t (nI_pos' (by omega)) ?_)
    refine tk_yNo' (d1 + 1) (nI_1 d1) (by omega) hp F2 ⟨4, tk_yPnL (fun r hr => ?_) 3 (-1) (Nat.le_refl _) (tk_Fe (Nat.le_refl _))⟩
    have q := tk_Fu 3 0 rfl hr F4
    rw [q]
    exact br_t (by decide) (br_f (nI_pos (by omega)) (br_f (by decide) F))
theorem tk_POex (ds : Nat → Int32) (p : Nat) : (∃ d1 d2 k, tk_PO ds p d1 d2 k) ∨ tk_PN ds p := by
  obtain ⟨r1, F1⟩ := tk_Fex (fun j => ds (4 * p + j) = 0) 4 4 0 rfl
  rcases tk_Fc F1 with ⟨e1, _⟩ | ⟨d1, _, h1, e1, _⟩
  · rw [e1] at F1; exact Or.inr (Or.inl F1)
  · rw [e1] at F1
    obtain ⟨r2, F2⟩ := tk_Fex (fun j => ds (4 * p + j) = 0) 4 (4 - (d1 + 1)) (d1 + 1) (by omega)
    rcases tk_Fc F2 with ⟨e2, _⟩ | ⟨d2, _, h2, e2, _⟩
    · rw [e2] at F2; exact Or.inr (Or.inr (Or.inl ⟨d1, h1, F1, F2⟩))
    · rw [e2] at F2
      obtain ⟨r3, F3⟩ := tk_Fex (tk_N ds) 3 3 0 rfl
      rcases tk_Fc F3 with ⟨e3, _⟩ | ⟨k, _, h3, e3, _⟩
      · rw [e3] at F3; exact Or.inr (Or.inr (Or.inr ⟨d1, d2, h1, h2, F1, F2, F3⟩))
      · rw [e3] at F3; exact Or.inl ⟨d1, d2, k, h1, h2, h3, F1, F2, F3⟩
theorem tk_xRd79 {post : SX → Prop} {k : Nat} (hk : k < 3) (h : post (ql, pc, xc, lv, cw, cn, st, sx, rs, pa, rg, me, ds, tk_sh pw (4 * k) 3, upd pl k (pl k - 1), qu, ou)) : ∀ d j, j + d = 3 → wX_read_79 post (nI k) (nI (4 * k)) ql pc xc lv (d + 1) (nI (j + 1)) cw cn st sx rs pa rg me ds (tk_sh pw (4 * k) j) pl qu ou := by
  have ek : (nI k).toNatClampNeg = k := nI_clamp (by omega)
  have v3 : vp_in (nI k) 3 := vp_in_nI hk (by decide)
  intro d
  induction d with
  | zero =>
    intro j hj
    have e : j = 3 := by omega
    rw [e]
    exact br_t (nI_le (a := 4) (by omega) (by decide)) ⟨v3, v3, nm_r (e' := upd pl k (pl k - 1)) (by rw [ek]) h⟩
  | succ d ih =>
    intro j hj
    have e1 : nI (4 * k) + nI (j + 1) = nI (4 * k + j + 1) := nI_add _ _
    have e2 : nI (4 * k) + nI (j + 1) - 1 = nI (4 * k + j) := by rw [e1, nI_pred]
    have c1 : (nI (4 * k) + nI (j + 1)).toNatClampNeg = 4 * k + j + 1 := by rw [e1, nI_clamp (by omega)]
    have c2 : (nI (4 * k) + nI (j + 1) - 1).toNatClampNeg = 4 * k + j := by rw [e2, nI_clamp (by omega)]
    exact br_f (nI_ge (b := 4) (by omega) (by decide)) ⟨by rw [e1]; exact vp_in_nI (by omega) (by decide), by rw [e2]; exact vp_in_nI (by omega) (by decide), nm_r (e' := tk_sh pw (4 * k) (j + 1)) (by rw [c1, c2]; exact tk_shs _ _ _) (nm_r (nI_1 _) (ih (j + 1) (by omega)))⟩
theorem tk_xRe0 {post : SX → Prop} {p A B e : Nat} (hA : A < 24) (hB : B < 24) (he : e ≤ 6) (hE : ∀ post : Int32 → Prop, post (nI e) → wpX_pipeEnd post (ql, pc, xc, lv, cw, cn, st, sx, rs, pa, rg, me, ds, pw, pl, qu, ou) (nI p) (rg B)) (hv : e % 2 = 0) (h : post (ql, pc, xc, lv, cw, cn, st, sx, rs, pa, upd rg A (-1), me, ds, pw, pl, qu, ou)) : wpX_read post (ql, pc, xc, lv, cw, cn, st, sx, rs, pa, rg, me, ds, pw, pl, qu, ou) (nI p) (nI A) (nI B) := by
  have eA : (nI A).toNatClampNeg = A := nI_clamp (by omega)
  have eB : (nI B).toNatClampNeg = B := nI_clamp (by omega)
  refine ⟨vp_in_nI hB (by decide), ?_⟩
  rw [eB]
  exact hE _ (tk_xRd0 he hv (br_t rfl ⟨vp_in_nI hA (by decide), nm_r (e' := upd rg A (-1)) (by rw [eA]) h⟩))
theorem tk_xRe1 {post : SX → Prop} {p A B e : Nat} (hA : A < 24) (hB : B < 24) (he : e ≤ 6) (hE : ∀ post : Int32 → Prop, post (nI e) → wpX_pipeEnd post (ql, pc, xc, lv, cw, cn, st, sx, rs, pa, rg, me, ds, pw, pl, qu, ou) (nI p) (rg B)) (hv : e % 2 = 1) (hz : pl ((e - 1) / 2) = 0) (h : post (ql, pc, xc, lv, cw, cn, st, sx, rs, pa, upd rg A (-2), me, ds, pw, pl, qu, ou)) : wpX_read post (ql, pc, xc, lv, cw, cn, st, sx, rs, pa, rg, me, ds, pw, pl, qu, ou) (nI p) (nI A) (nI B) := by
  have eA : (nI A).toNatClampNeg = A := nI_clamp (by omega)
  have eB : (nI B).toNatClampNeg = B := nI_clamp (by omega)
  have ek : (nI ((e - 1) / 2)).toNatClampNeg = (e - 1) / 2 := nI_clamp (by omega)
  refine ⟨vp_in_nI hB (by decide), ?_⟩
  rw [eB]
  exact hE _ (tk_xRd1 he hv (br_f tk_01 (tk_xPo he ⟨vp_in_nI (by omega) (by decide), br_t (by rw [ek]; exact hz) ⟨vp_in_nI hA (by decide), nm_r (e' := upd rg A (-2)) (by rw [eA]) h⟩⟩)))
theorem tk_xRe2 {post : SX → Prop} {p A B e : Nat} (hA : A < 24) (hB : B < 24) (he : e ≤ 6) (hE : ∀ post : Int32 → Prop, post (nI e) → wpX_pipeEnd post (ql, pc, xc, lv, cw, cn, st, sx, rs, pa, rg, me, ds, pw, pl, qu, ou) (nI p) (rg B)) (hv : e % 2 = 1) (hz : ¬ pl ((e - 1) / 2) = 0) (h : post (ql, pc, xc, lv, cw, cn, st, sx, rs, pa, upd rg A (pw (4 * ((e - 1) / 2))), me, ds, tk_sh pw (4 * ((e - 1) / 2)) 3, upd pl ((e - 1) / 2) (pl ((e - 1) / 2) - 1), qu, ou)) : wpX_read post (ql, pc, xc, lv, cw, cn, st, sx, rs, pa, rg, me, ds, pw, pl, qu, ou) (nI p) (nI A) (nI B) := by
  have eA : (nI A).toNatClampNeg = A := nI_clamp (by omega)
  have eB : (nI B).toNatClampNeg = B := nI_clamp (by omega)
  have ek : (nI ((e - 1) / 2)).toNatClampNeg = (e - 1) / 2 := nI_clamp (by omega)
  have e4 : (nI (4 * ((e - 1) / 2))).toNatClampNeg = 4 * ((e - 1) / 2) := nI_clamp (by omega)
  refine ⟨vp_in_nI hB (by decide), ?_⟩
  rw [eB]
  refine hE _ (tk_xRd1 he hv (br_f tk_01 (tk_xPo he ⟨vp_in_nI (by omega) (by decide), br_f (by rw [ek]; exact hz) (nm_r (tk_i40 _) ⟨vp_in_nI (by omega) (by decide), vp_in_nI hA (by decide), nm_r (e' := upd rg A (pw (4 * ((e - 1) / 2)))) (by rw [eA, e4]) ⟨4, ?_⟩⟩)⟩)))
  have k := tk_xRd79 (pw := pw) (by omega) h 3 0 rfl
  rw [tk_sh0] at k
  exact k
theorem tk_yRd40 {post : Int32 → SY → Prop} {k : Nat} {x : Int32} (hk : k < 3) (h : post x (ql, xc, pc, cw, cn, st, pa, sy, rg, ds, me, tk_sh pw (4 * k) 3, upd pl k (pl k - 1), qu, ou)) : ∀ d j, j + d = 3 → wY_read_40 post (nI k) x ql xc pc (d + 1) (nI (4 * k + j)) cw cn st pa sy rg ds me (tk_sh pw (4 * k) j) pl qu ou := by
  have ek : (nI k).toNatClampNeg = k := nI_clamp (by omega)
  have v3 : vp_in (nI k) 3 := vp_in_nI hk (by decide)
  have k4 : 4 * nI k + 3 = nI (4 * k + 3) := tk_i4' k 3
  intro d
  induction d with
  | zero =>
    intro j hj
    have e : j = 3 := by omega
    rw [e]
    exact br_t (by rw [k4]; exact nI_le (by omega) (by omega)) ⟨v3, v3, nm_r (e' := upd pl k (pl k - 1)) (by rw [ek]) h⟩
  | succ d ih =>
    intro j hj
    have c1 : (nI (4 * k + j) + 1).toNatClampNeg = 4 * k + j + 1 := by rw [nI_1, nI_clamp (by omega)]
    have c2 : (nI (4 * k + j)).toNatClampNeg = 4 * k + j := nI_clamp (by omega)
    exact br_f (by rw [k4]; exact nI_ge (by omega) (by omega)) ⟨by rw [nI_1]; exact vp_in_nI (by omega) (by decide), vp_in_nI (by omega) (by decide), nm_r (e' := tk_sh pw (4 * k) (j + 1)) (by rw [c1, c2]; exact tk_shs _ _ _) (nm_r (nI_1 _) (ih (j + 1) (by omega)))⟩
theorem tk_yRe0 {post : Int32 → SY → Prop} {e : Nat} (he : e ≤ 6) (hv : e % 2 = 0) (h : post (-1) (ql, xc, pc, cw, cn, st, pa, sy, rg, ds, me, pw, pl, qu, ou)) : wpY_read post (ql, xc, pc, cw, cn, st, pa, sy, rg, ds, me, pw, pl, qu, ou) (nI e) := ⟨tk_20, br_t (tk_e20 e (by omega) hv) h⟩
theorem tk_yRe1 {post : Int32 → SY → Prop} {e : Nat} (he : e ≤ 6) (hv : e % 2 = 1) (hz : pl ((e - 1) / 2) = 0) (h : post (-2) (ql, xc, pc, cw, cn, st, pa, sy, rg, ds, me, pw, pl, qu, ou)) : wpY_read post (ql, xc, pc, cw, cn, st, pa, sy, rg, ds, me, pw, pl, qu, ou) (nI e) := by
  have ek : (nI ((e - 1) / 2)).toNatClampNeg = (e - 1) / 2 := nI_clamp (by omega)
  exact ⟨tk_20, br_f (by rw [tk_e21 e (by omega) hv]; exact tk_01) ⟨tk_20, nm_r (tk_e1 e (by omega)) ⟨vp_in_nI (by omega) (by decide), br_t (by rw [ek]; exact hz) h⟩⟩⟩
theorem tk_yRe2 {post : Int32 → SY → Prop} {e : Nat} (he : e ≤ 6) (hv : e % 2 = 1) (hz : ¬ pl ((e - 1) / 2) = 0) (h : post (pw (4 * ((e - 1) / 2))) (ql, xc, pc, cw, cn, st, pa, sy, rg, ds, me, tk_sh pw (4 * ((e - 1) / 2)) 3, upd pl ((e - 1) / 2) (pl ((e - 1) / 2) - 1), qu, ou)) : wpY_read post (ql, xc, pc, cw, cn, st, pa, sy, rg, ds, me, pw, pl, qu, ou) (nI e) := by
  have ek : (nI ((e - 1) / 2)).toNatClampNeg = (e - 1) / 2 := nI_clamp (by omega)
  have e4 : (4 * nI ((e - 1) / 2)).toNatClampNeg = 4 * ((e - 1) / 2) := by rw [tk_i40', nI_clamp (by omega)]
  refine ⟨tk_20, br_f (by rw [tk_e21 e (by omega) hv]; exact tk_01) ⟨tk_20, nm_r (tk_e1 e (by omega)) ⟨vp_in_nI (by omega) (by decide), br_f (by rw [ek]; exact hz) ⟨by rw [tk_i40']; exact vp_in_nI (by omega) (by decide), nm_r (e' := pw (4 * ((e - 1) / 2))) (by rw [e4]) (nm_r (tk_i40' _) ⟨4, ?_⟩)⟩⟩⟩⟩
  have k := tk_yRd40 (pw := pw) (by omega) h 3 0 rfl
  rw [tk_sh0] at k
  exact k
theorem tk_xWt0 {post : SX → Prop} {p A B e : Nat} (hA : A < 24) (hB : B < 24) (he : e ≤ 6) (hE : ∀ post : Int32 → Prop, post (nI e) → wpX_pipeEnd post (ql, pc, xc, lv, cw, cn, st, sx, rs, pa, rg, me, ds, pw, pl, qu, ou) (nI p) (rg B)) (hv : e = 0 ∨ e % 2 = 1) (h : post (ql, pc, xc, lv, cw, cn, st, sx, rs, pa, upd rg A (-1), me, ds, pw, pl, qu, ou)) : wpX_write post (ql, pc, xc, lv, cw, cn, st, sx, rs, pa, rg, me, ds, pw, pl, qu, ou) (nI p) (nI A) (nI B) := by
  have eA : (nI A).toNatClampNeg = A := nI_clamp (by omega)
  have eB : (nI B).toNatClampNeg = B := nI_clamp (by omega)
  refine ⟨vp_in_nI hB (by decide), ?_⟩
  rw [eB]
  exact hE _ (tk_xWr0 he hv (br_t rfl ⟨vp_in_nI hA (by decide), nm_r (e' := upd rg A (-1)) (by rw [eA]) h⟩))
theorem tk_xWt1 {post : SX → Prop} {p A B e n : Nat} (hB : B < 24) (he : e ≤ 6) (hE : ∀ post : Int32 → Prop, post (nI e) → wpX_pipeEnd post (nI n, pc, xc, lv, cw, cn, st, sx, rs, pa, rg, me, ds, pw, pl, qu, ou) (nI p) (rg B)) (h0 : e ≠ 0) (hv : e % 2 = 0) (hb : tk_B (fun j => ds j = nI e - 1) 0 24 0) (hp : p < 6) (hq : n ≤ 6) (hn : pa p ≠ nI p) (h : post (nI (tk_lv qu (nI p) n).2, pc, xc, lv, cw, cn, tk_fs st pa p, sx, upd rs p (-2), tk_cp st pa p 6, rg, me, tk_z ds (4 * p) 4, pw, pl, (tk_lv qu (nI p) n).1, ou)) : wpX_write post (nI n, pc, xc, lv, cw, cn, st, sx, rs, pa, rg, me, ds, pw, pl, qu, ou) (nI p) (nI A) (nI B) := by
  have eB : (nI B).toNatClampNeg = B := nI_clamp (by omega)
  refine ⟨vp_in_nI hB (by decide), ?_⟩
  rw [eB]
  exact hE _ (tk_xWr1 he h0 hv (br_f tk_01 (tk_xHeld hb (br_t rfl (tk_xFin hp hq hn h)))))
theorem tk_xWt2 {post : SX → Prop} {p A B e l : Nat} (hA : A < 24) (hB : B < 24) (he : e ≤ 6) (hE : ∀ post : Int32 → Prop, post (nI e) → wpX_pipeEnd post (ql, pc, xc, lv, cw, cn, st, sx, rs, pa, rg, me, ds, pw, pl, qu, ou) (nI p) (rg B)) (h0 : e ≠ 0) (hv : e % 2 = 0) (hb : tk_B (fun j => ds j = nI e - 1) 0 24 1) (hl : l < 4) (el : pl ((e - 1) / 2) = nI l) (h : post (ql, pc, xc, lv, cw, cn, st, sx, rs, pa, rg, me, ds, upd pw (4 * ((e - 1) / 2) + l) (rg A), upd pl ((e - 1) / 2) (nI (l + 1)), qu, ou)) : wpX_write post (ql, pc, xc, lv, cw, cn, st, sx, rs, pa, rg, me, ds, pw, pl, qu, ou) (nI p) (nI A) (nI B) := by
  have eA : (nI A).toNatClampNeg = A := nI_clamp (by omega)
  have eB : (nI B).toNatClampNeg = B := nI_clamp (by omega)
  have ek : (nI ((e - 1) / 2)).toNatClampNeg = (e - 1) / 2 := nI_clamp (by omega)
  have e4 : (nI ((e - 1) / 2) * 4 + nI l).toNatClampNeg = 4 * ((e - 1) / 2) + l := by rw [tk_i4, nI_clamp (by omega)]
  have v3 : vp_in (nI ((e - 1) / 2)) 3 := vp_in_nI (by omega) (by decide)
  refine ⟨vp_in_nI hB (by decide), ?_⟩
  rw [eB]
  refine hE _ (tk_xWr1 he h0 hv (br_f tk_01 (tk_xHeld hb (br_f tk_01 (tk_xPo he ⟨v3, ?_⟩)))))
  rw [ek, el]
  exact br_f (nI_ge (b := 4) hl (by decide)) ⟨v3, vp_in_nI hA (by decide), by rw [tk_i4]; exact vp_in_nI (by omega) (by decide), nm_r (e' := upd pw (4 * ((e - 1) / 2) + l) (rg A)) (by rw [e4, eA]) ⟨v3, v3, nm_r (e' := upd pl ((e - 1) / 2) (nI (l + 1))) (by rw [nI_1]) h⟩⟩
theorem tk_yWt0 {post : Int32 → SY → Prop} {p a e : Nat} (hp : p < 6) (ha : a < 4) (he : e ≤ 6) (hv : e = 0 ∨ e % 2 = 1) (h : post 1 (ql, xc, pc, cw, cn, st, pa, sy, upd rg (4 * p + a) (-1), ds, me, pw, pl, qu, ou)) : wpY_write post (ql, xc, pc, cw, cn, st, pa, sy, rg, ds, me, pw, pl, qu, ou) (nI p) (nI a) (nI e) := by
  have eA : (4 * nI p + nI a).toNatClampNeg = 4 * p + a := by rw [tk_i4', nI_clamp (by omega)]
  have vA : vp_in (4 * nI p + nI a) 24 := by rw [tk_i4']; exact vp_in_nI (by omega) (by decide)
  have F : wY_write_11 post (nI p) (nI a) ql xc pc cw cn st pa sy rg ds me pw pl qu ou := ⟨vA, nm_r (e' := upd rg (4 * p + a) (-1)) (by rw [eA]) h⟩
  rcases hv with hv | hv
  · exact br_t (by rw [hv]; exact nI_0) F
  · exact br_c (fun _ => F) (fun _ => ⟨tk_20, br_t (tk_e21 e (by omega) hv) F⟩)
theorem tk_yWt1 {post : Int32 → SY → Prop} {p a e n : Nat} (he : e ≤ 6) (h0 : e ≠ 0) (hv : e % 2 = 0) (hb : tk_B (fun j => ds j = nI e - 1) 0 24 0) (hp : p < 6) (hq : n ≤ 6) (hw : pa p = -1 ∨ ∃ j, j < 6 ∧ j ≠ p ∧ pa p = nI j) (hn : pa p ≠ nI p) (h : post 0 (nI (tk_lv qu (nI p) n).2, xc, pc, cw, cn, tk_fs st pa p, tk_cp st pa p 6, upd sy p (-2), rg, tk_z ds (4 * p) 4, me, pw, pl, (tk_lv qu (nI p) n).1, ou)) : wpY_write post (nI n, xc, pc, cw, cn, st, pa, sy, rg, ds, me, pw, pl, qu, ou) (nI p) (nI a) (nI e) :=
  br_f (nI_ne0 (by omega) (by omega)) ⟨tk_20, br_f (by rw [tk_e20 e (by omega) hv]; exact tk_10) ⟨tk_20, nm_r (tk_e1 e (by omega)) (tk_yHas hb (br_t rfl (tk_yFin hp hq hw hn h)))⟩⟩
theorem tk_yWt2 {post : Int32 → SY → Prop} {p a e l : Nat} (hp : p < 6) (ha : a < 4) (he : e ≤ 6) (h0 : e ≠ 0) (hv : e % 2 = 0) (hb : tk_B (fun j => ds j = nI e - 1) 0 24 1) (hl : l < 4) (el : pl ((e - 1) / 2) = nI l) (h : post 1 (ql, xc, pc, cw, cn, st, pa, sy, rg, ds, me, upd pw (4 * ((e - 1) / 2) + l) (rg (4 * p + a)), upd pl ((e - 1) / 2) (nI (l + 1)), qu, ou)) : wpY_write post (ql, xc, pc, cw, cn, st, pa, sy, rg, ds, me, pw, pl, qu, ou) (nI p) (nI a) (nI e) := by
  have eA : (4 * nI p + nI a).toNatClampNeg = 4 * p + a := by rw [tk_i4', nI_clamp (by omega)]
  have vA : vp_in (4 * nI p + nI a) 24 := by rw [tk_i4']; exact vp_in_nI (by omega) (by decide)
  have ek : (nI ((e - 1) / 2)).toNatClampNeg = (e - 1) / 2 := nI_clamp (by omega)
  have e4 : (4 * nI ((e - 1) / 2) + nI l).toNatClampNeg = 4 * ((e - 1) / 2) + l := by rw [tk_i4', nI_clamp (by omega)]
  have v3 : vp_in (nI ((e - 1) / 2)) 3 := vp_in_nI (by omega) (by decide)
  refine br_f (nI_ne0 (by omega) (by omega)) ⟨tk_20, br_f (by rw [tk_e20 e (by omega) hv]; exact tk_10) ⟨tk_20, nm_r (tk_e1 e (by omega)) (tk_yHas hb (br_f tk_01 ⟨v3, vA, ?_⟩))⟩⟩
  rw [ek, el]
  exact ⟨by rw [tk_i4']; exact vp_in_nI (by omega) (by decide), nm_r (e' := upd pw (4 * ((e - 1) / 2) + l) (rg (4 * p + a))) (by rw [e4, eA]) ⟨v3, v3, nm_r (e' := upd pl ((e - 1) / 2) (nI (l + 1))) (by rw [nI_1]) h⟩⟩
theorem tk_xCl0 {post : SX → Prop} {p A B : Nat} (hA : A < 24) (hB : B < 24) (hE : ∀ post : Int32 → Prop, post (nI 0) → wpX_pipeEnd post (ql, pc, xc, lv, cw, cn, st, sx, rs, pa, rg, me, ds, pw, pl, qu, ou) (nI p) (rg B)) (h : post (ql, pc, xc, lv, cw, cn, st, sx, rs, pa, upd rg A (-1), me, ds, pw, pl, qu, ou)) : wpX_close post (ql, pc, xc, lv, cw, cn, st, sx, rs, pa, rg, me, ds, pw, pl, qu, ou) (nI p) (nI A) (nI B) := by
  have eA : (nI A).toNatClampNeg = A := nI_clamp (by omega)
  have eB : (nI B).toNatClampNeg = B := nI_clamp (by omega)
  exact ⟨vp_in_nI hB (by decide), nm_r (e' := rg B) (by rw [eB]) (hE _ (br_t nI_0 ⟨vp_in_nI hA (by decide), nm_r (e' := upd rg A (-1)) (by rw [eA]) h⟩))⟩
theorem tk_xCl1 {post : SX → Prop} {p A B e d : Nat} (hp : p < 6) (hA : A < 24) (hB : B < 24) (he : e ≤ 6) (h0 : e ≠ 0) (hd : d < 4) (ed : rg B = nI d) (hE : ∀ post : Int32 → Prop, post (nI e) → wpX_pipeEnd post (ql, pc, xc, lv, cw, cn, st, sx, rs, pa, rg, me, ds, pw, pl, qu, ou) (nI p) (rg B)) (h : post (ql, pc, xc, lv, cw, cn, st, sx, rs, pa, upd rg A 0, me, upd ds (4 * p + d) 0, pw, pl, qu, ou)) : wpX_close post (ql, pc, xc, lv, cw, cn, st, sx, rs, pa, rg, me, ds, pw, pl, qu, ou) (nI p) (nI A) (nI B) := by
  have eA : (nI A).toNatClampNeg = A := nI_clamp (by omega)
  have eB : (nI B).toNatClampNeg = B := nI_clamp (by omega)
  have e4 : (nI p * 4 + nI d).toNatClampNeg = 4 * p + d := by rw [tk_i4, nI_clamp (by omega)]
  rw [ed] at hE
  exact ⟨vp_in_nI hB (by decide), nm_r (e' := nI d) (by rw [eB]; exact ed) (hE _ (br_f (nI_ne0 (by omega) (by omega)) ⟨by rw [tk_i4]; exact vp_in_nI (by omega) (by decide), nm_r (e' := upd ds (4 * p + d) 0) (by rw [e4]) ⟨vp_in_nI hA (by decide), nm_r (e' := upd rg A 0) (by rw [eA]) h⟩⟩))⟩
theorem tk_yCl0 {post : Int32 → SY → Prop} {p b : Nat} (hE : ∀ post : Int32 → Prop, post (nI 0) → wpY_endOf post (ql, xc, pc, cw, cn, st, pa, sy, rg, ds, me, pw, pl, qu, ou) (nI p) (nI b)) (h : post (-1) (ql, xc, pc, cw, cn, st, pa, sy, rg, ds, me, pw, pl, qu, ou)) : wpY_close post (ql, xc, pc, cw, cn, st, pa, sy, rg, ds, me, pw, pl, qu, ou) (nI p) (nI b) := by
  unfold wpY_close
  exact hE _ (br_t nI_0 h)
theorem tk_yCl1 {post : Int32 → SY → Prop} {p b e d : Nat} (hp : p < 6) (hb : b < 4) (he : e ≤ 6) (h0 : e ≠ 0) (hd : d < 4) (ed : rg (4 * p + b) = nI d) (hE : ∀ post : Int32 → Prop, post (nI e) → wpY_endOf post (ql, xc, pc, cw, cn, st, pa, sy, rg, ds, me, pw, pl, qu, ou) (nI p) (nI b)) (h : post 0 (ql, xc, pc, cw, cn, st, pa, sy, rg, upd ds (4 * p + d) 0, me, pw, pl, qu, ou)) : wpY_close post (ql, xc, pc, cw, cn, st, pa, sy, rg, ds, me, pw, pl, qu, ou) (nI p) (nI b) := by
  have eB : (4 * nI p + nI b).toNatClampNeg = 4 * p + b := by rw [tk_i4', nI_clamp (by omega)]
  have vB : vp_in (4 * nI p + nI b) 24 := by rw [tk_i4']; exact vp_in_nI (by omega) (by decide)
  have e4 : (4 * nI p + nI d).toNatClampNeg = 4 * p + d := by rw [tk_i4', nI_clamp (by omega)]
  unfold wpY_close
  refine hE _ (br_f (nI_ne0 (by omega) (by omega)) ⟨vB, ?_⟩)
  rw [eB, ed]
  exact ⟨by rw [tk_i4']; exact vp_in_nI (by omega) (by decide), nm_r (e' := upd ds (4 * p + d) 0) (by rw [e4]) h⟩
theorem tk_xCe0 {post : SX → Prop} {p A B e : Nat} (hp : p < 6) (hA : A < 24) (hB : B < 24) (hE : ∀ post : Int32 → Prop, post (nI e) → wpX_pipeEnd post (ql, pc, xc, lv, cw, cn, st, sx, rs, pa, rg, me, ds, pw, pl, qu, ou) (nI p) (rg B)) (hk : e = 0 ∨ tk_F (fun j => ds (4 * p + j) = 0) 0 4 (-1)) (h : post (ql, pc, xc, lv, cw, cn, st, sx, rs, pa, upd rg A (-1), me, ds, pw, pl, qu, ou)) : wpX_copyEnd post (ql, pc, xc, lv, cw, cn, st, sx, rs, pa, rg, me, ds, pw, pl, qu, ou) (nI p) (nI A) (nI B) := by
  have eA : (nI A).toNatClampNeg = A := nI_clamp (by omega)
  have eB : (nI B).toNatClampNeg = B := nI_clamp (by omega)
  have F : vp_in (nI A) 24 ∧ ∀ y : Nat → Int32, y = upd rg (nI A).toNatClampNeg (-1) → post (ql, pc, xc, lv, cw, cn, st, sx, rs, pa, y, me, ds, pw, pl, qu, ou) := ⟨vp_in_nI hA (by decide), nm_r (e' := upd rg A (-1)) (by rw [eA]) h⟩
  obtain ⟨r, hr⟩ := tk_Fex (fun j => ds (4 * p + j) = 0) 4 4 0 rfl
  refine ⟨vp_in_nI hB (by decide), ?_⟩
  rw [eB]
  refine hE _ (tk_xNo' 0 rfl (by omega) hp hr (br_c (fun _ => F) (fun z => ?_)))
  rcases hk with hk | hk
  · rw [hk] at z; exact absurd nI_0 z
  · exact br_t (tk_Fu 4 0 rfl hr hk) F
theorem tk_xCe1 {post : SX → Prop} {p A B e d : Nat} (hp : p < 6) (hA : A < 24) (hB : B < 24) (he : e ≤ 6) (h0 : e ≠ 0) (hd : d < 4) (hF : tk_F (fun j => ds (4 * p + j) = 0) 0 4 (nI d)) (hE : ∀ post : Int32 → Prop, post (nI e) → wpX_pipeEnd post (ql, pc, xc, lv, cw, cn, st, sx, rs, pa, rg, me, ds, pw, pl, qu, ou) (nI p) (rg B)) (h : post (ql, pc, xc, lv, cw, cn, st, sx, rs, pa, upd rg A (nI d), me, upd ds (4 * p + d) (nI e), pw, pl, qu, ou)) : wpX_copyEnd post (ql, pc, xc, lv, cw, cn, st, sx, rs, pa, rg, me, ds, pw, pl, qu, ou) (nI p) (nI A) (nI B) := by
  have eA : (nI A).toNatClampNeg = A := nI_clamp (by omega)
  have eB : (nI B).toNatClampNeg = B := nI_clamp (by omega)
  have e4 : (nI p * 4 + nI d).toNatClampNeg = 4 * p + d := by rw [tk_i4, nI_clamp (by omega)]
  refine ⟨vp_in_nI hB (by decide), ?_⟩
  rw [eB]
  exact hE _ (tk_xNo' 0 rfl (by omega) hp hF (br_f (nI_ne0 (by omega) (by omega)) (br_f (tk_nm1 (by omega)) ⟨by rw [tk_i4]; exact vp_in_nI (by omega) (by decide), nm_r (e' := upd ds (4 * p + d) (nI e)) (by rw [e4]) ⟨vp_in_nI hA (by decide), nm_r (e' := upd rg A (nI d)) (by rw [eA]) h⟩⟩)))
theorem tk_yCe0 {post : Int32 → SY → Prop} {p e : Nat} (hp : p < 6) (hk : e = 0 ∨ tk_F (fun j => ds (4 * p + j) = 0) 0 4 (-1)) (h : post (-1) (ql, xc, pc, cw, cn, st, pa, sy, rg, ds, me, pw, pl, qu, ou)) : wpY_copyEnd post (ql, xc, pc, cw, cn, st, pa, sy, rg, ds, me, pw, pl, qu, ou) (nI p) (nI e) := by
  obtain ⟨r, hr⟩ := tk_Fex (fun j => ds (4 * p + j) = 0) 4 4 0 rfl
  unfold wpY_copyEnd
  refine tk_yNo' 0 rfl (by omega) hp hr (br_c (fun _ => h) (fun z => ?_))
  rcases hk with hk | hk
  · rw [hk] at z; exact absurd nI_0 z
  · exact br_f (by rw [tk_Fu 4 0 rfl hr hk]; decide) h
theorem tk_yCe1 {post : Int32 → SY → Prop} {p e d : Nat} (hp : p < 6) (he : e ≤ 6) (h0 : e ≠ 0) (hd : d < 4) (hF : tk_F (fun j => ds (4 * p + j) = 0) 0 4 (nI d)) (h : post (nI d) (ql, xc, pc, cw, cn, st, pa, sy, rg, upd ds (4 * p + d) (nI e), me, pw, pl, qu, ou)) : wpY_copyEnd post (ql, xc, pc, cw, cn, st, pa, sy, rg, ds, me, pw, pl, qu, ou) (nI p) (nI e) := by
  have e4 : (4 * nI p + nI d).toNatClampNeg = 4 * p + d := by rw [tk_i4', nI_clamp (by omega)]
  unfold wpY_copyEnd
  exact tk_yNo' 0 rfl (by omega) hp hF (br_f (nI_ne0 (by omega) (by omega)) (br_t (nI_pos' (by omega)) ⟨by rw [tk_i4']; exact vp_in_nI (by omega) (by decide), nm_r (e' := upd ds (4 * p + d) (nI e)) (by rw [e4]) h⟩))
end
end
section
section
variable {ql pc lv : Int32} {xc : Int64} {cw cn st sx sy rs pa rg me ds pw pl qu ou : Nat → Int32}
variable {Uql Upc Ulv : Int32} {Uxc : Int64} {Ucw Ucn Ust Usx Urs Upa Urg Ume Uds Upw Upl Uqu Uou : Nat → Int32}
variable {Vql Vpc : Int32} {Vxc : Int64} {Vcw Vcn Vst Vpa Vsy Vrg Vds Vme Vpw Vpl Vqu Vou : Nat → Int32}
theorem tk_xex_0 {post : SX → Prop} {p i w a b : Nat} (hp : p < 6) (hi : i < 64) (hs : sx p = nI i) (hw : w < 512) (hc : cw i = nI w) (ha : w / 32 % 4 = a) (hb : w / 128 = b) (ho : w % 32 = 0) (H : ∀ Q : SX → Prop, Q (Uql, Upc, Uxc, Ulv, Ucw, Ucn, Ust, Usx, Urs, Upa, Urg, Ume, Uds, Upw, Upl, Uqu, Uou) → wpX_finish Q (ql, pc, xc + 1, lv, cw, cn, st, upd sx p (nI i + 1), rs, pa, rg, me, ds, pw, pl, qu, ou) (nI p) (rg (4 * p + a))) (h : post (Uql, Upc, Uxc, Ulv, Ucw, Ucn, Ust, Usx, Urs, Upa, Urg, Ume, Uds, Upw, Upl, Uqu, Uou)) : wpX_execute post (ql, pc, xc, lv, cw, cn, st, sx, rs, pa, rg, me, ds, pw, pl, qu, ou) (nI p) := by
  have ep : (nI p).toNatClampNeg = p := nI_clamp (by omega)
  have ei : (nI i).toNatClampNeg = i := nI_clamp (by omega)
  have ha4 : a < 4 := by omega
  have hb4 : b < 4 := by omega
  have eA : (nI (4 * p + a)).toNatClampNeg = 4 * p + a := nI_clamp (by omega)
  have eB : (nI (4 * p + b)).toNatClampNeg = 4 * p + b := nI_clamp (by omega)
  have vA : vp_in (nI (4 * p + a)) 24 := vp_in_nI (by omega) (by decide)
  have vB : vp_in (nI (4 * p + b)) 24 := vp_in_nI (by omega) (by decide)
  have v6 : vp_in (nI p) 6 := vp_in_nI hp (by decide)
  have v64 : vp_in (nI i) 64 := vp_in_nI hi (by decide)
  refine nm_e ⟨v6, nm_r (e' := nI i) (by rw [ep]; exact hs) (tk_xSpot1 hi (br_f tk_01 ⟨v64, nm_r (e' := nI w) (by rw [ei]; exact hc) (nm_r (e' := nI (4 * p + a)) (by rw [tk_wa hw, tk_i4, ha]) (nm_r (e' := nI (4 * p + b)) (by rw [tk_wb hw, tk_i4, hb]) ⟨v64, nm_r (e' := cn i) (by rw [ei]) ⟨v6, nm_r (e' := upd sx p (nI i + 1)) (by rw [ep]) (nm_r (e' := nI 0) (by rw [tk_op hw, ho]) ?_)⟩⟩))⟩))⟩
  exact br_f (by decide) (br_f (by decide) (br_t (by decide) ⟨vA, by rw [eA]; exact H _ h⟩))
theorem tk_xex_1 {post : SX → Prop} {p i w a b : Nat} (hp : p < 6) (hi : i < 64) (hs : sx p = nI i) (hw : w < 512) (hc : cw i = nI w) (ha : w / 32 % 4 = a) (hb : w / 128 = b) (ho : w % 32 = 1) (H : ∀ Q : SX → Prop, Q (Uql, Upc, Uxc, Ulv, Ucw, Ucn, Ust, Usx, Urs, Upa, Urg, Ume, Uds, Upw, Upl, Uqu, Uou) → wpX_compute Q (ql, pc, xc + 1, lv, cw, cn, st, upd sx p (nI i + 1), rs, pa, rg, me, ds, pw, pl, qu, ou) (nI 1) (nI (4 * p + a)) (nI (4 * p + b)) (cn i)) (h : post (Uql, Upc, Uxc, Ulv, Ucw, Ucn, Ust, Usx, Urs, Upa, Urg, Ume, Uds, Upw, Upl, Uqu, Uou)) : wpX_execute post (ql, pc, xc, lv, cw, cn, st, sx, rs, pa, rg, me, ds, pw, pl, qu, ou) (nI p) := by
  have ep : (nI p).toNatClampNeg = p := nI_clamp (by omega)
  have ei : (nI i).toNatClampNeg = i := nI_clamp (by omega)
  have ha4 : a < 4 := by omega
  have hb4 : b < 4 := by omega
  have eA : (nI (4 * p + a)).toNatClampNeg = 4 * p + a := nI_clamp (by omega)
  have eB : (nI (4 * p + b)).toNatClampNeg = 4 * p + b := nI_clamp (by omega)
  have vA : vp_in (nI (4 * p + a)) 24 := vp_in_nI (by omega) (by decide)
  have vB : vp_in (nI (4 * p + b)) 24 := vp_in_nI (by omega) (by decide)
  have v6 : vp_in (nI p) 6 := vp_in_nI hp (by decide)
  have v64 : vp_in (nI i) 64 := vp_in_nI hi (by decide)
  refine nm_e ⟨v6, nm_r (e' := nI i) (by rw [ep]; exact hs) (tk_xSpot1 hi (br_f tk_01 ⟨v64, nm_r (e' := nI w) (by rw [ei]; exact hc) (nm_r (e' := nI (4 * p + a)) (by rw [tk_wa hw, tk_i4, ha]) (nm_r (e' := nI (4 * p + b)) (by rw [tk_wb hw, tk_i4, hb]) ⟨v64, nm_r (e' := cn i) (by rw [ei]) ⟨v6, nm_r (e' := upd sx p (nI i + 1)) (by rw [ep]) (nm_r (e' := nI 1) (by rw [tk_op hw, ho]) ?_)⟩⟩))⟩))⟩
  exact br_f (by decide) (br_f (by decide) (br_f (by decide) (br_t (by decide) (H _ h))))
theorem tk_xex_2 {post : SX → Prop} {p i w a b : Nat} (hp : p < 6) (hi : i < 64) (hs : sx p = nI i) (hw : w < 512) (hc : cw i = nI w) (ha : w / 32 % 4 = a) (hb : w / 128 = b) (ho : w % 32 = 2) (H : ∀ Q : SX → Prop, Q (Uql, Upc, Uxc, Ulv, Ucw, Ucn, Ust, Usx, Urs, Upa, Urg, Ume, Uds, Upw, Upl, Uqu, Uou) → wpX_compute Q (ql, pc, xc + 1, lv, cw, cn, st, upd sx p (nI i + 1), rs, pa, rg, me, ds, pw, pl, qu, ou) (nI 2) (nI (4 * p + a)) (nI (4 * p + b)) (cn i)) (h : post (Uql, Upc, Uxc, Ulv, Ucw, Ucn, Ust, Usx, Urs, Upa, Urg, Ume, Uds, Upw, Upl, Uqu, Uou)) : wpX_execute post (ql, pc, xc, lv, cw, cn, st, sx, rs, pa, rg, me, ds, pw, pl, qu, ou) (nI p) := by
  have ep : (nI p).toNatClampNeg = p := nI_clamp (by omega)
  have ei : (nI i).toNatClampNeg = i := nI_clamp (by omega)
  have ha4 : a < 4 := by omega
  have hb4 : b < 4 := by omega
  have eA : (nI (4 * p + a)).toNatClampNeg = 4 * p + a := nI_clamp (by omega)
  have eB : (nI (4 * p + b)).toNatClampNeg = 4 * p + b := nI_clamp (by omega)
  have vA : vp_in (nI (4 * p + a)) 24 := vp_in_nI (by omega) (by decide)
  have vB : vp_in (nI (4 * p + b)) 24 := vp_in_nI (by omega) (by decide)
  have v6 : vp_in (nI p) 6 := vp_in_nI hp (by decide)
  have v64 : vp_in (nI i) 64 := vp_in_nI hi (by decide)
  refine nm_e ⟨v6, nm_r (e' := nI i) (by rw [ep]; exact hs) (tk_xSpot1 hi (br_f tk_01 ⟨v64, nm_r (e' := nI w) (by rw [ei]; exact hc) (nm_r (e' := nI (4 * p + a)) (by rw [tk_wa hw, tk_i4, ha]) (nm_r (e' := nI (4 * p + b)) (by rw [tk_wb hw, tk_i4, hb]) ⟨v64, nm_r (e' := cn i) (by rw [ei]) ⟨v6, nm_r (e' := upd sx p (nI i + 1)) (by rw [ep]) (nm_r (e' := nI 2) (by rw [tk_op hw, ho]) ?_)⟩⟩))⟩))⟩
  exact br_f (by decide) (br_f (by decide) (br_f (by decide) (br_f (by decide) (br_t (by decide) (H _ h)))))
theorem tk_xex_3 {post : SX → Prop} {p i w a b : Nat} (hp : p < 6) (hi : i < 64) (hs : sx p = nI i) (hw : w < 512) (hc : cw i = nI w) (ha : w / 32 % 4 = a) (hb : w / 128 = b) (ho : w % 32 = 3) (H : ∀ Q : SX → Prop, Q (Uql, Upc, Uxc, Ulv, Ucw, Ucn, Ust, Usx, Urs, Upa, Urg, Ume, Uds, Upw, Upl, Uqu, Uou) → wpX_compute Q (ql, pc, xc + 1, lv, cw, cn, st, upd sx p (nI i + 1), rs, pa, rg, me, ds, pw, pl, qu, ou) (nI 3) (nI (4 * p + a)) (nI (4 * p + b)) (cn i)) (h : post (Uql, Upc, Uxc, Ulv, Ucw, Ucn, Ust, Usx, Urs, Upa, Urg, Ume, Uds, Upw, Upl, Uqu, Uou)) : wpX_execute post (ql, pc, xc, lv, cw, cn, st, sx, rs, pa, rg, me, ds, pw, pl, qu, ou) (nI p) := by
  have ep : (nI p).toNatClampNeg = p := nI_clamp (by omega)
  have ei : (nI i).toNatClampNeg = i := nI_clamp (by omega)
  have ha4 : a < 4 := by omega
  have hb4 : b < 4 := by omega
  have eA : (nI (4 * p + a)).toNatClampNeg = 4 * p + a := nI_clamp (by omega)
  have eB : (nI (4 * p + b)).toNatClampNeg = 4 * p + b := nI_clamp (by omega)
  have vA : vp_in (nI (4 * p + a)) 24 := vp_in_nI (by omega) (by decide)
  have vB : vp_in (nI (4 * p + b)) 24 := vp_in_nI (by omega) (by decide)
  have v6 : vp_in (nI p) 6 := vp_in_nI hp (by decide)
  have v64 : vp_in (nI i) 64 := vp_in_nI hi (by decide)
  refine nm_e ⟨v6, nm_r (e' := nI i) (by rw [ep]; exact hs) (tk_xSpot1 hi (br_f tk_01 ⟨v64, nm_r (e' := nI w) (by rw [ei]; exact hc) (nm_r (e' := nI (4 * p + a)) (by rw [tk_wa hw, tk_i4, ha]) (nm_r (e' := nI (4 * p + b)) (by rw [tk_wb hw, tk_i4, hb]) ⟨v64, nm_r (e' := cn i) (by rw [ei]) ⟨v6, nm_r (e' := upd sx p (nI i + 1)) (by rw [ep]) (nm_r (e' := nI 3) (by rw [tk_op hw, ho]) ?_)⟩⟩))⟩))⟩
  exact br_f (by decide) (br_f (by decide) (br_f (by decide) (br_f (by decide) (br_f (by decide) (br_t (by decide) (H _ h))))))
theorem tk_xex_4 {post : SX → Prop} {p i w a b : Nat} (hp : p < 6) (hi : i < 64) (hs : sx p = nI i) (hw : w < 512) (hc : cw i = nI w) (ha : w / 32 % 4 = a) (hb : w / 128 = b) (ho : w % 32 = 4) (H : ∀ Q : SX → Prop, Q (Uql, Upc, Uxc, Ulv, Ucw, Ucn, Ust, Usx, Urs, Upa, Urg, Ume, Uds, Upw, Upl, Uqu, Uou) → wpX_compute Q (ql, pc, xc + 1, lv, cw, cn, st, upd sx p (nI i + 1), rs, pa, rg, me, ds, pw, pl, qu, ou) (nI 4) (nI (4 * p + a)) (nI (4 * p + b)) (cn i)) (h : post (Uql, Upc, Uxc, Ulv, Ucw, Ucn, Ust, Usx, Urs, Upa, Urg, Ume, Uds, Upw, Upl, Uqu, Uou)) : wpX_execute post (ql, pc, xc, lv, cw, cn, st, sx, rs, pa, rg, me, ds, pw, pl, qu, ou) (nI p) := by
  have ep : (nI p).toNatClampNeg = p := nI_clamp (by omega)
  have ei : (nI i).toNatClampNeg = i := nI_clamp (by omega)
  have ha4 : a < 4 := by omega
  have hb4 : b < 4 := by omega
  have eA : (nI (4 * p + a)).toNatClampNeg = 4 * p + a := nI_clamp (by omega)
  have eB : (nI (4 * p + b)).toNatClampNeg = 4 * p + b := nI_clamp (by omega)
  have vA : vp_in (nI (4 * p + a)) 24 := vp_in_nI (by omega) (by decide)
  have vB : vp_in (nI (4 * p + b)) 24 := vp_in_nI (by omega) (by decide)
  have v6 : vp_in (nI p) 6 := vp_in_nI hp (by decide)
  have v64 : vp_in (nI i) 64 := vp_in_nI hi (by decide)
  refine nm_e ⟨v6, nm_r (e' := nI i) (by rw [ep]; exact hs) (tk_xSpot1 hi (br_f tk_01 ⟨v64, nm_r (e' := nI w) (by rw [ei]; exact hc) (nm_r (e' := nI (4 * p + a)) (by rw [tk_wa hw, tk_i4, ha]) (nm_r (e' := nI (4 * p + b)) (by rw [tk_wb hw, tk_i4, hb]) ⟨v64, nm_r (e' := cn i) (by rw [ei]) ⟨v6, nm_r (e' := upd sx p (nI i + 1)) (by rw [ep]) (nm_r (e' := nI 4) (by rw [tk_op hw, ho]) ?_)⟩⟩))⟩))⟩
  exact br_f (by decide) (br_f (by decide) (br_f (by decide) (br_f (by decide) (br_f (by decide) (br_f (by decide) (br_t (by decide) (H _ h)))))))
theorem tk_xex_5 {post : SX → Prop} {p i w a b : Nat} (hp : p < 6) (hi : i < 64) (hs : sx p = nI i) (hw : w < 512) (hc : cw i = nI w) (ha : w / 32 % 4 = a) (hb : w / 128 = b) (ho : w % 32 = 5) (H : ∀ Q : SX → Prop, Q (Uql, Upc, Uxc, Ulv, Ucw, Ucn, Ust, Usx, Urs, Upa, Urg, Ume, Uds, Upw, Upl, Uqu, Uou) → wpX_compute Q (ql, pc, xc + 1, lv, cw, cn, st, upd sx p (nI i + 1), rs, pa, rg, me, ds, pw, pl, qu, ou) (nI 5) (nI (4 * p + a)) (nI (4 * p + b)) (cn i)) (h : post (Uql, Upc, Uxc, Ulv, Ucw, Ucn, Ust, Usx, Urs, Upa, Urg, Ume, Uds, Upw, Upl, Uqu, Uou)) : wpX_execute post (ql, pc, xc, lv, cw, cn, st, sx, rs, pa, rg, me, ds, pw, pl, qu, ou) (nI p) := by
  have ep : (nI p).toNatClampNeg = p := nI_clamp (by omega)
  have ei : (nI i).toNatClampNeg = i := nI_clamp (by omega)
  have ha4 : a < 4 := by omega
  have hb4 : b < 4 := by omega
  have eA : (nI (4 * p + a)).toNatClampNeg = 4 * p + a := nI_clamp (by omega)
  have eB : (nI (4 * p + b)).toNatClampNeg = 4 * p + b := nI_clamp (by omega)
  have vA : vp_in (nI (4 * p + a)) 24 := vp_in_nI (by omega) (by decide)
  have vB : vp_in (nI (4 * p + b)) 24 := vp_in_nI (by omega) (by decide)
  have v6 : vp_in (nI p) 6 := vp_in_nI hp (by decide)
  have v64 : vp_in (nI i) 64 := vp_in_nI hi (by decide)
  refine nm_e ⟨v6, nm_r (e' := nI i) (by rw [ep]; exact hs) (tk_xSpot1 hi (br_f tk_01 ⟨v64, nm_r (e' := nI w) (by rw [ei]; exact hc) (nm_r (e' := nI (4 * p + a)) (by rw [tk_wa hw, tk_i4, ha]) (nm_r (e' := nI (4 * p + b)) (by rw [tk_wb hw, tk_i4, hb]) ⟨v64, nm_r (e' := cn i) (by rw [ei]) ⟨v6, nm_r (e' := upd sx p (nI i + 1)) (by rw [ep]) (nm_r (e' := nI 5) (by rw [tk_op hw, ho]) ?_)⟩⟩))⟩))⟩
  exact br_f (by decide) (br_f (by decide) (br_f (by decide) (br_f (by decide) (br_f (by decide) (br_f (by decide) (br_f (by decide) (br_t (by decide) (H _ h))))))))
theorem tk_xex_6 {post : SX → Prop} {p i w a b : Nat} (hp : p < 6) (hi : i < 64) (hs : sx p = nI i) (hw : w < 512) (hc : cw i = nI w) (ha : w / 32 % 4 = a) (hb : w / 128 = b) (ho : w % 32 = 6) (H : ∀ Q : SX → Prop, Q (Uql, Upc, Uxc, Ulv, Ucw, Ucn, Ust, Usx, Urs, Upa, Urg, Ume, Uds, Upw, Upl, Uqu, Uou) → wpX_compute Q (ql, pc, xc + 1, lv, cw, cn, st, upd sx p (nI i + 1), rs, pa, rg, me, ds, pw, pl, qu, ou) (nI 6) (nI (4 * p + a)) (nI (4 * p + b)) (cn i)) (h : post (Uql, Upc, Uxc, Ulv, Ucw, Ucn, Ust, Usx, Urs, Upa, Urg, Ume, Uds, Upw, Upl, Uqu, Uou)) : wpX_execute post (ql, pc, xc, lv, cw, cn, st, sx, rs, pa, rg, me, ds, pw, pl, qu, ou) (nI p) := by
  have ep : (nI p).toNatClampNeg = p := nI_clamp (by omega)
  have ei : (nI i).toNatClampNeg = i := nI_clamp (by omega)
  have ha4 : a < 4 := by omega
  have hb4 : b < 4 := by omega
  have eA : (nI (4 * p + a)).toNatClampNeg = 4 * p + a := nI_clamp (by omega)
  have eB : (nI (4 * p + b)).toNatClampNeg = 4 * p + b := nI_clamp (by omega)
  have vA : vp_in (nI (4 * p + a)) 24 := vp_in_nI (by omega) (by decide)
  have vB : vp_in (nI (4 * p + b)) 24 := vp_in_nI (by omega) (by decide)
  have v6 : vp_in (nI p) 6 := vp_in_nI hp (by decide)
  have v64 : vp_in (nI i) 64 := vp_in_nI hi (by decide)
  refine nm_e ⟨v6, nm_r (e' := nI i) (by rw [ep]; exact hs) (tk_xSpot1 hi (br_f tk_01 ⟨v64, nm_r (e' := nI w) (by rw [ei]; exact hc) (nm_r (e' := nI (4 * p + a)) (by rw [tk_wa hw, tk_i4, ha]) (nm_r (e' := nI (4 * p + b)) (by rw [tk_wb hw, tk_i4, hb]) ⟨v64, nm_r (e' := cn i) (by rw [ei]) ⟨v6, nm_r (e' := upd sx p (nI i + 1)) (by rw [ep]) (nm_r (e' := nI 6) (by rw [tk_op hw, ho]) ?_)⟩⟩))⟩))⟩
  exact br_f (by decide) (br_f (by decide) (br_f (by decide) (br_f (by decide) (br_f (by decide) (br_f (by decide) (br_f (by decide) (br_f (by decide) (br_t (by decide) (H _ h)))))))))
theorem tk_xex_7 {post : SX → Prop} {p i w a b : Nat} (hp : p < 6) (hi : i < 64) (hs : sx p = nI i) (hw : w < 512) (hc : cw i = nI w) (ha : w / 32 % 4 = a) (hb : w / 128 = b) (ho : w % 32 = 7) (H : ∀ Q : SX → Prop, Q (Uql, Upc, Uxc, Ulv, Ucw, Ucn, Ust, Usx, Urs, Upa, Urg, Ume, Uds, Upw, Upl, Uqu, Uou) → wpX_compute Q (ql, pc, xc + 1, lv, cw, cn, st, upd sx p (nI i + 1), rs, pa, rg, me, ds, pw, pl, qu, ou) (nI 7) (nI (4 * p + a)) (nI (4 * p + b)) (cn i)) (h : post (Uql, Upc, Uxc, Ulv, Ucw, Ucn, Ust, Usx, Urs, Upa, Urg, Ume, Uds, Upw, Upl, Uqu, Uou)) : wpX_execute post (ql, pc, xc, lv, cw, cn, st, sx, rs, pa, rg, me, ds, pw, pl, qu, ou) (nI p) := by
  have ep : (nI p).toNatClampNeg = p := nI_clamp (by omega)
  have ei : (nI i).toNatClampNeg = i := nI_clamp (by omega)
  have ha4 : a < 4 := by omega
  have hb4 : b < 4 := by omega
  have eA : (nI (4 * p + a)).toNatClampNeg = 4 * p + a := nI_clamp (by omega)
  have eB : (nI (4 * p + b)).toNatClampNeg = 4 * p + b := nI_clamp (by omega)
  have vA : vp_in (nI (4 * p + a)) 24 := vp_in_nI (by omega) (by decide)
  have vB : vp_in (nI (4 * p + b)) 24 := vp_in_nI (by omega) (by decide)
  have v6 : vp_in (nI p) 6 := vp_in_nI hp (by decide)
  have v64 : vp_in (nI i) 64 := vp_in_nI hi (by decide)
  refine nm_e ⟨v6, nm_r (e' := nI i) (by rw [ep]; exact hs) (tk_xSpot1 hi (br_f tk_01 ⟨v64, nm_r (e' := nI w) (by rw [ei]; exact hc) (nm_r (e' := nI (4 * p + a)) (by rw [tk_wa hw, tk_i4, ha]) (nm_r (e' := nI (4 * p + b)) (by rw [tk_wb hw, tk_i4, hb]) ⟨v64, nm_r (e' := cn i) (by rw [ei]) ⟨v6, nm_r (e' := upd sx p (nI i + 1)) (by rw [ep]) (nm_r (e' := nI 7) (by rw [tk_op hw, ho]) ?_)⟩⟩))⟩))⟩
  exact br_f (by decide) (br_f (by decide) (br_f (by decide) (br_f (by decide) (br_f (by decide) (br_f (by decide) (br_f (by decide) (br_f (by decide) (br_f (by decide) (br_t (by decide) (H _ h))))))))))
theorem tk_xex_8 {post : SX → Prop} {p i w a b : Nat} (hp : p < 6) (hi : i < 64) (hs : sx p = nI i) (hw : w < 512) (hc : cw i = nI w) (ha : w / 32 % 4 = a) (hb : w / 128 = b) (ho : w % 32 = 8) (H : ∀ Q : SX → Prop, Q (Uql, Upc, Uxc, Ulv, Ucw, Ucn, Ust, Usx, Urs, Upa, Urg, Ume, Uds, Upw, Upl, Uqu, Uou) → wpX_load Q (ql, pc, xc + 1, lv, cw, cn, st, upd sx p (nI i + 1), rs, pa, rg, me, ds, pw, pl, qu, ou) (nI p) (nI (4 * p + a)) (rg (4 * p + b) + cn i)) (h : post (Uql, Upc, Uxc, Ulv, Ucw, Ucn, Ust, Usx, Urs, Upa, Urg, Ume, Uds, Upw, Upl, Uqu, Uou)) : wpX_execute post (ql, pc, xc, lv, cw, cn, st, sx, rs, pa, rg, me, ds, pw, pl, qu, ou) (nI p) := by
  have ep : (nI p).toNatClampNeg = p := nI_clamp (by omega)
  have ei : (nI i).toNatClampNeg = i := nI_clamp (by omega)
  have ha4 : a < 4 := by omega
  have hb4 : b < 4 := by omega
  have eA : (nI (4 * p + a)).toNatClampNeg = 4 * p + a := nI_clamp (by omega)
  have eB : (nI (4 * p + b)).toNatClampNeg = 4 * p + b := nI_clamp (by omega)
  have vA : vp_in (nI (4 * p + a)) 24 := vp_in_nI (by omega) (by decide)
  have vB : vp_in (nI (4 * p + b)) 24 := vp_in_nI (by omega) (by decide)
  have v6 : vp_in (nI p) 6 := vp_in_nI hp (by decide)
  have v64 : vp_in (nI i) 64 := vp_in_nI hi (by decide)
  refine nm_e ⟨v6, nm_r (e' := nI i) (by rw [ep]; exact hs) (tk_xSpot1 hi (br_f tk_01 ⟨v64, nm_r (e' := nI w) (by rw [ei]; exact hc) (nm_r (e' := nI (4 * p + a)) (by rw [tk_wa hw, tk_i4, ha]) (nm_r (e' := nI (4 * p + b)) (by rw [tk_wb hw, tk_i4, hb]) ⟨v64, nm_r (e' := cn i) (by rw [ei]) ⟨v6, nm_r (e' := upd sx p (nI i + 1)) (by rw [ep]) (nm_r (e' := nI 8) (by rw [tk_op hw, ho]) ?_)⟩⟩))⟩))⟩
  exact br_f (by decide) (br_f (by decide) (br_f (by decide) (br_f (by decide) (br_f (by decide) (br_f (by decide) (br_f (by decide) (br_f (by decide) (br_f (by decide) (br_f (by decide) (br_t (by decide) ⟨vB, by rw [eB]; exact H _ h⟩))))))))))
theorem tk_xex_9 {post : SX → Prop} {p i w a b : Nat} (hp : p < 6) (hi : i < 64) (hs : sx p = nI i) (hw : w < 512) (hc : cw i = nI w) (ha : w / 32 % 4 = a) (hb : w / 128 = b) (ho : w % 32 = 9) (H : ∀ Q : SX → Prop, Q (Uql, Upc, Uxc, Ulv, Ucw, Ucn, Ust, Usx, Urs, Upa, Urg, Ume, Uds, Upw, Upl, Uqu, Uou) → wpX_store Q (ql, pc, xc + 1, lv, cw, cn, st, upd sx p (nI i + 1), rs, pa, rg, me, ds, pw, pl, qu, ou) (nI p) (nI (4 * p + a)) (rg (4 * p + b) + cn i)) (h : post (Uql, Upc, Uxc, Ulv, Ucw, Ucn, Ust, Usx, Urs, Upa, Urg, Ume, Uds, Upw, Upl, Uqu, Uou)) : wpX_execute post (ql, pc, xc, lv, cw, cn, st, sx, rs, pa, rg, me, ds, pw, pl, qu, ou) (nI p) := by
  have ep : (nI p).toNatClampNeg = p := nI_clamp (by omega)
  have ei : (nI i).toNatClampNeg = i := nI_clamp (by omega)
  have ha4 : a < 4 := by omega
  have hb4 : b < 4 := by omega
  have eA : (nI (4 * p + a)).toNatClampNeg = 4 * p + a := nI_clamp (by omega)
  have eB : (nI (4 * p + b)).toNatClampNeg = 4 * p + b := nI_clamp (by omega)
  have vA : vp_in (nI (4 * p + a)) 24 := vp_in_nI (by omega) (by decide)
  have vB : vp_in (nI (4 * p + b)) 24 := vp_in_nI (by omega) (by decide)
  have v6 : vp_in (nI p) 6 := vp_in_nI hp (by decide)
  have v64 : vp_in (nI i) 64 := vp_in_nI hi (by decide)
  refine nm_e ⟨v6, nm_r (e' := nI i) (by rw [ep]; exact hs) (tk_xSpot1 hi (br_f tk_01 ⟨v64, nm_r (e' := nI w) (by rw [ei]; exact hc) (nm_r (e' := nI (4 * p + a)) (by rw [tk_wa hw, tk_i4, ha]) (nm_r (e' := nI (4 * p + b)) (by rw [tk_wb hw, tk_i4, hb]) ⟨v64, nm_r (e' := cn i) (by rw [ei]) ⟨v6, nm_r (e' := upd sx p (nI i + 1)) (by rw [ep]) (nm_r (e' := nI 9) (by rw [tk_op hw, ho]) ?_)⟩⟩))⟩))⟩
  exact br_f (by decide) (br_f (by decide) (br_f (by decide) (br_f (by decide) (br_f (by decide) (br_f (by decide) (br_f (by decide) (br_f (by decide) (br_f (by decide) (br_f (by decide) (br_f (by decide) (br_t (by decide) ⟨vB, by rw [eB]; exact H _ h⟩)))))))))))
theorem tk_xex_13 {post : SX → Prop} {p i w a b : Nat} (hp : p < 6) (hi : i < 64) (hs : sx p = nI i) (hw : w < 512) (hc : cw i = nI w) (ha : w / 32 % 4 = a) (hb : w / 128 = b) (ho : w % 32 = 13) (H : ∀ Q : SX → Prop, Q (Uql, Upc, Uxc, Ulv, Ucw, Ucn, Ust, Usx, Urs, Upa, Urg, Ume, Uds, Upw, Upl, Uqu, Uou) → wpX_fork Q (ql, pc, xc + 1, lv, cw, cn, st, upd sx p (nI i + 1), rs, pa, rg, me, ds, pw, pl, qu, ou) (nI p) (nI (4 * p + a))) (h : post (Uql, Upc, Uxc, Ulv, Ucw, Ucn, Ust, Usx, Urs, Upa, Urg, Ume, Uds, Upw, Upl, Uqu, Uou)) : wpX_execute post (ql, pc, xc, lv, cw, cn, st, sx, rs, pa, rg, me, ds, pw, pl, qu, ou) (nI p) := by
  have ep : (nI p).toNatClampNeg = p := nI_clamp (by omega)
  have ei : (nI i).toNatClampNeg = i := nI_clamp (by omega)
  have ha4 : a < 4 := by omega
  have hb4 : b < 4 := by omega
  have eA : (nI (4 * p + a)).toNatClampNeg = 4 * p + a := nI_clamp (by omega)
  have eB : (nI (4 * p + b)).toNatClampNeg = 4 * p + b := nI_clamp (by omega)
  have vA : vp_in (nI (4 * p + a)) 24 := vp_in_nI (by omega) (by decide)
  have vB : vp_in (nI (4 * p + b)) 24 := vp_in_nI (by omega) (by decide)
  have v6 : vp_in (nI p) 6 := vp_in_nI hp (by decide)
  have v64 : vp_in (nI i) 64 := vp_in_nI hi (by decide)
  refine nm_e ⟨v6, nm_r (e' := nI i) (by rw [ep]; exact hs) (tk_xSpot1 hi (br_f tk_01 ⟨v64, nm_r (e' := nI w) (by rw [ei]; exact hc) (nm_r (e' := nI (4 * p + a)) (by rw [tk_wa hw, tk_i4, ha]) (nm_r (e' := nI (4 * p + b)) (by rw [tk_wb hw, tk_i4, hb]) ⟨v64, nm_r (e' := cn i) (by rw [ei]) ⟨v6, nm_r (e' := upd sx p (nI i + 1)) (by rw [ep]) (nm_r (e' := nI 13) (by rw [tk_op hw, ho]) ?_)⟩⟩))⟩))⟩
  exact br_f (by decide) (br_f (by decide) (br_f (by decide) (br_f (by decide) (br_f (by decide) (br_f (by decide) (br_f (by decide) (br_f (by decide) (br_f (by decide) (br_f (by decide) (br_f (by decide) (br_f (by decide) (br_f (by decide) (br_f (by decide) (br_f (by decide) (br_t (by decide) (H _ h))))))))))))))))
theorem tk_xex_14 {post : SX → Prop} {p i w a b : Nat} (hp : p < 6) (hi : i < 64) (hs : sx p = nI i) (hw : w < 512) (hc : cw i = nI w) (ha : w / 32 % 4 = a) (hb : w / 128 = b) (ho : w % 32 = 14) (H : ∀ Q : SX → Prop, Q (Uql, Upc, Uxc, Ulv, Ucw, Ucn, Ust, Usx, Urs, Upa, Urg, Ume, Uds, Upw, Upl, Uqu, Uou) → wpX_collect Q (ql, pc, xc + 1, lv, cw, cn, st, upd sx p (nI i + 1), rs, pa, rg, me, ds, pw, pl, qu, ou) (nI p) (nI (4 * p + a)) (nI (4 * p + b))) (h : post (Uql, Upc, Uxc, Ulv, Ucw, Ucn, Ust, Usx, Urs, Upa, Urg, Ume, Uds, Upw, Upl, Uqu, Uou)) : wpX_execute post (ql, pc, xc, lv, cw, cn, st, sx, rs, pa, rg, me, ds, pw, pl, qu, ou) (nI p) := by
  have ep : (nI p).toNatClampNeg = p := nI_clamp (by omega)
  have ei : (nI i).toNatClampNeg = i := nI_clamp (by omega)
  have ha4 : a < 4 := by omega
  have hb4 : b < 4 := by omega
  have eA : (nI (4 * p + a)).toNatClampNeg = 4 * p + a := nI_clamp (by omega)
  have eB : (nI (4 * p + b)).toNatClampNeg = 4 * p + b := nI_clamp (by omega)
  have vA : vp_in (nI (4 * p + a)) 24 := vp_in_nI (by omega) (by decide)
  have vB : vp_in (nI (4 * p + b)) 24 := vp_in_nI (by omega) (by decide)
  have v6 : vp_in (nI p) 6 := vp_in_nI hp (by decide)
  have v64 : vp_in (nI i) 64 := vp_in_nI hi (by decide)
  refine nm_e ⟨v6, nm_r (e' := nI i) (by rw [ep]; exact hs) (tk_xSpot1 hi (br_f tk_01 ⟨v64, nm_r (e' := nI w) (by rw [ei]; exact hc) (nm_r (e' := nI (4 * p + a)) (by rw [tk_wa hw, tk_i4, ha]) (nm_r (e' := nI (4 * p + b)) (by rw [tk_wb hw, tk_i4, hb]) ⟨v64, nm_r (e' := cn i) (by rw [ei]) ⟨v6, nm_r (e' := upd sx p (nI i + 1)) (by rw [ep]) (nm_r (e' := nI 14) (by rw [tk_op hw, ho]) ?_)⟩⟩))⟩))⟩
  exact br_f (by decide) (br_f (by decide) (br_f (by decide) (br_f (by decide) (br_f (by decide) (br_f (by decide) (br_f (by decide) (br_f (by decide) (br_f (by decide) (br_f (by decide) (br_f (by decide) (br_f (by decide) (br_f (by decide) (br_f (by decide) (br_f (by decide) (br_f (by decide) (br_t (by decide) (H _ h)))))))))))))))))
theorem tk_xex_15 {post : SX → Prop} {p i w a b : Nat} (hp : p < 6) (hi : i < 64) (hs : sx p = nI i) (hw : w < 512) (hc : cw i = nI w) (ha : w / 32 % 4 = a) (hb : w / 128 = b) (ho : w % 32 = 15) (H : ∀ Q : SX → Prop, Q (Uql, Upc, Uxc, Ulv, Ucw, Ucn, Ust, Usx, Urs, Upa, Urg, Ume, Uds, Upw, Upl, Uqu, Uou) → wpX_openPipe Q (ql, pc, xc + 1, lv, cw, cn, st, upd sx p (nI i + 1), rs, pa, rg, me, ds, pw, pl, qu, ou) (nI p) (nI (4 * p + a)) (nI (4 * p + b))) (h : post (Uql, Upc, Uxc, Ulv, Ucw, Ucn, Ust, Usx, Urs, Upa, Urg, Ume, Uds, Upw, Upl, Uqu, Uou)) : wpX_execute post (ql, pc, xc, lv, cw, cn, st, sx, rs, pa, rg, me, ds, pw, pl, qu, ou) (nI p) := by
  have ep : (nI p).toNatClampNeg = p := nI_clamp (by omega)
  have ei : (nI i).toNatClampNeg = i := nI_clamp (by omega)
  have ha4 : a < 4 := by omega
  have hb4 : b < 4 := by omega
  have eA : (nI (4 * p + a)).toNatClampNeg = 4 * p + a := nI_clamp (by omega)
  have eB : (nI (4 * p + b)).toNatClampNeg = 4 * p + b := nI_clamp (by omega)
  have vA : vp_in (nI (4 * p + a)) 24 := vp_in_nI (by omega) (by decide)
  have vB : vp_in (nI (4 * p + b)) 24 := vp_in_nI (by omega) (by decide)
  have v6 : vp_in (nI p) 6 := vp_in_nI hp (by decide)
  have v64 : vp_in (nI i) 64 := vp_in_nI hi (by decide)
  refine nm_e ⟨v6, nm_r (e' := nI i) (by rw [ep]; exact hs) (tk_xSpot1 hi (br_f tk_01 ⟨v64, nm_r (e' := nI w) (by rw [ei]; exact hc) (nm_r (e' := nI (4 * p + a)) (by rw [tk_wa hw, tk_i4, ha]) (nm_r (e' := nI (4 * p + b)) (by rw [tk_wb hw, tk_i4, hb]) ⟨v64, nm_r (e' := cn i) (by rw [ei]) ⟨v6, nm_r (e' := upd sx p (nI i + 1)) (by rw [ep]) (nm_r (e' := nI 15) (by rw [tk_op hw, ho]) ?_)⟩⟩))⟩))⟩
  exact br_f (by decide) (br_f (by decide) (br_f (by decide) (br_f (by decide) (br_f (by decide) (br_f (by decide) (br_f (by decide) (br_f (by decide) (br_f (by decide) (br_f (by decide) (br_f (by decide) (br_f (by decide) (br_f (by decide) (br_f (by decide) (br_f (by decide) (br_f (by decide) (br_f (by decide) (br_t (by decide) (H _ h))))))))))))))))))
theorem tk_xex_16 {post : SX → Prop} {p i w a b : Nat} (hp : p < 6) (hi : i < 64) (hs : sx p = nI i) (hw : w < 512) (hc : cw i = nI w) (ha : w / 32 % 4 = a) (hb : w / 128 = b) (ho : w % 32 = 16) (H : ∀ Q : SX → Prop, Q (Uql, Upc, Uxc, Ulv, Ucw, Ucn, Ust, Usx, Urs, Upa, Urg, Ume, Uds, Upw, Upl, Uqu, Uou) → wpX_read Q (ql, pc, xc + 1, lv, cw, cn, st, upd sx p (nI i + 1), rs, pa, rg, me, ds, pw, pl, qu, ou) (nI p) (nI (4 * p + a)) (nI (4 * p + b))) (h : post (Uql, Upc, Uxc, Ulv, Ucw, Ucn, Ust, Usx, Urs, Upa, Urg, Ume, Uds, Upw, Upl, Uqu, Uou)) : wpX_execute post (ql, pc, xc, lv, cw, cn, st, sx, rs, pa, rg, me, ds, pw, pl, qu, ou) (nI p) := by
  have ep : (nI p).toNatClampNeg = p := nI_clamp (by omega)
  have ei : (nI i).toNatClampNeg = i := nI_clamp (by omega)
  have ha4 : a < 4 := by omega
  have hb4 : b < 4 := by omega
  have eA : (nI (4 * p + a)).toNatClampNeg = 4 * p + a := nI_clamp (by omega)
  have eB : (nI (4 * p + b)).toNatClampNeg = 4 * p + b := nI_clamp (by omega)
  have vA : vp_in (nI (4 * p + a)) 24 := vp_in_nI (by omega) (by decide)
  have vB : vp_in (nI (4 * p + b)) 24 := vp_in_nI (by omega) (by decide)
  have v6 : vp_in (nI p) 6 := vp_in_nI hp (by decide)
  have v64 : vp_in (nI i) 64 := vp_in_nI hi (by decide)
  refine nm_e ⟨v6, nm_r (e' := nI i) (by rw [ep]; exact hs) (tk_xSpot1 hi (br_f tk_01 ⟨v64, nm_r (e' := nI w) (by rw [ei]; exact hc) (nm_r (e' := nI (4 * p + a)) (by rw [tk_wa hw, tk_i4, ha]) (nm_r (e' := nI (4 * p + b)) (by rw [tk_wb hw, tk_i4, hb]) ⟨v64, nm_r (e' := cn i) (by rw [ei]) ⟨v6, nm_r (e' := upd sx p (nI i + 1)) (by rw [ep]) (nm_r (e' := nI 16) (by rw [tk_op hw, ho]) ?_)⟩⟩))⟩))⟩
  exact br_f (by decide) (br_f (by decide) (br_f (by decide) (br_f (by decide) (br_f (by decide) (br_f (by decide) (br_f (by decide) (br_f (by decide) (br_f (by decide) (br_f (by decide) (br_f (by decide) (br_f (by decide) (br_f (by decide) (br_f (by decide) (br_f (by decide) (br_f (by decide) (br_f (by decide) (br_f (by decide) (br_t (by decide) (H _ h)))))))))))))))))))
theorem tk_xex_17 {post : SX → Prop} {p i w a b : Nat} (hp : p < 6) (hi : i < 64) (hs : sx p = nI i) (hw : w < 512) (hc : cw i = nI w) (ha : w / 32 % 4 = a) (hb : w / 128 = b) (ho : w % 32 = 17) (H : ∀ Q : SX → Prop, Q (Uql, Upc, Uxc, Ulv, Ucw, Ucn, Ust, Usx, Urs, Upa, Urg, Ume, Uds, Upw, Upl, Uqu, Uou) → wpX_write Q (ql, pc, xc + 1, lv, cw, cn, st, upd sx p (nI i + 1), rs, pa, rg, me, ds, pw, pl, qu, ou) (nI p) (nI (4 * p + a)) (nI (4 * p + b))) (h : post (Uql, Upc, Uxc, Ulv, Ucw, Ucn, Ust, Usx, Urs, Upa, Urg, Ume, Uds, Upw, Upl, Uqu, Uou)) : wpX_execute post (ql, pc, xc, lv, cw, cn, st, sx, rs, pa, rg, me, ds, pw, pl, qu, ou) (nI p) := by
  have ep : (nI p).toNatClampNeg = p := nI_clamp (by omega)
  have ei : (nI i).toNatClampNeg = i := nI_clamp (by omega)
  have ha4 : a < 4 := by omega
  have hb4 : b < 4 := by omega
  have eA : (nI (4 * p + a)).toNatClampNeg = 4 * p + a := nI_clamp (by omega)
  have eB : (nI (4 * p + b)).toNatClampNeg = 4 * p + b := nI_clamp (by omega)
  have vA : vp_in (nI (4 * p + a)) 24 := vp_in_nI (by omega) (by decide)
  have vB : vp_in (nI (4 * p + b)) 24 := vp_in_nI (by omega) (by decide)
  have v6 : vp_in (nI p) 6 := vp_in_nI hp (by decide)
  have v64 : vp_in (nI i) 64 := vp_in_nI hi (by decide)
  refine nm_e ⟨v6, nm_r (e' := nI i) (by rw [ep]; exact hs) (tk_xSpot1 hi (br_f tk_01 ⟨v64, nm_r (e' := nI w) (by rw [ei]; exact hc) (nm_r (e' := nI (4 * p + a)) (by rw [tk_wa hw, tk_i4, ha]) (nm_r (e' := nI (4 * p + b)) (by rw [tk_wb hw, tk_i4, hb]) ⟨v64, nm_r (e' := cn i) (by rw [ei]) ⟨v6, nm_r (e' := upd sx p (nI i + 1)) (by rw [ep]) (nm_r (e' := nI 17) (by rw [tk_op hw, ho]) ?_)⟩⟩))⟩))⟩
  exact br_f (by decide) (br_f (by decide) (br_f (by decide) (br_f (by decide) (br_f (by decide) (br_f (by decide) (br_f (by decide) (br_f (by decide) (br_f (by decide) (br_f (by decide) (br_f (by decide) (br_f (by decide) (br_f (by decide) (br_f (by decide) (br_f (by decide) (br_f (by decide) (br_f (by decide) (br_f (by decide) (br_f (by decide) (br_t (by decide) (H _ h))))))))))))))))))))
theorem tk_xex_18 {post : SX → Prop} {p i w a b : Nat} (hp : p < 6) (hi : i < 64) (hs : sx p = nI i) (hw : w < 512) (hc : cw i = nI w) (ha : w / 32 % 4 = a) (hb : w / 128 = b) (ho : w % 32 = 18) (H : ∀ Q : SX → Prop, Q (Uql, Upc, Uxc, Ulv, Ucw, Ucn, Ust, Usx, Urs, Upa, Urg, Ume, Uds, Upw, Upl, Uqu, Uou) → wpX_close Q (ql, pc, xc + 1, lv, cw, cn, st, upd sx p (nI i + 1), rs, pa, rg, me, ds, pw, pl, qu, ou) (nI p) (nI (4 * p + a)) (nI (4 * p + b))) (h : post (Uql, Upc, Uxc, Ulv, Ucw, Ucn, Ust, Usx, Urs, Upa, Urg, Ume, Uds, Upw, Upl, Uqu, Uou)) : wpX_execute post (ql, pc, xc, lv, cw, cn, st, sx, rs, pa, rg, me, ds, pw, pl, qu, ou) (nI p) := by
  have ep : (nI p).toNatClampNeg = p := nI_clamp (by omega)
  have ei : (nI i).toNatClampNeg = i := nI_clamp (by omega)
  have ha4 : a < 4 := by omega
  have hb4 : b < 4 := by omega
  have eA : (nI (4 * p + a)).toNatClampNeg = 4 * p + a := nI_clamp (by omega)
  have eB : (nI (4 * p + b)).toNatClampNeg = 4 * p + b := nI_clamp (by omega)
  have vA : vp_in (nI (4 * p + a)) 24 := vp_in_nI (by omega) (by decide)
  have vB : vp_in (nI (4 * p + b)) 24 := vp_in_nI (by omega) (by decide)
  have v6 : vp_in (nI p) 6 := vp_in_nI hp (by decide)
  have v64 : vp_in (nI i) 64 := vp_in_nI hi (by decide)
  refine nm_e ⟨v6, nm_r (e' := nI i) (by rw [ep]; exact hs) (tk_xSpot1 hi (br_f tk_01 ⟨v64, nm_r (e' := nI w) (by rw [ei]; exact hc) (nm_r (e' := nI (4 * p + a)) (by rw [tk_wa hw, tk_i4, ha]) (nm_r (e' := nI (4 * p + b)) (by rw [tk_wb hw, tk_i4, hb]) ⟨v64, nm_r (e' := cn i) (by rw [ei]) ⟨v6, nm_r (e' := upd sx p (nI i + 1)) (by rw [ep]) (nm_r (e' := nI 18) (by rw [tk_op hw, ho]) ?_)⟩⟩))⟩))⟩
  exact br_f (by decide) (br_f (by decide) (br_f (by decide) (br_f (by decide) (br_f (by decide) (br_f (by decide) (br_f (by decide) (br_f (by decide) (br_f (by decide) (br_f (by decide) (br_f (by decide) (br_f (by decide) (br_f (by decide) (br_f (by decide) (br_f (by decide) (br_f (by decide) (br_f (by decide) (br_f (by decide) (br_f (by decide) (br_f (by decide) (br_t (by decide) (H _ h)))))))))))))))))))))
theorem tk_xex_19 {post : SX → Prop} {p i w a b : Nat} (hp : p < 6) (hi : i < 64) (hs : sx p = nI i) (hw : w < 512) (hc : cw i = nI w) (ha : w / 32 % 4 = a) (hb : w / 128 = b) (ho : w % 32 = 19) (H : ∀ Q : SX → Prop, Q (Uql, Upc, Uxc, Ulv, Ucw, Ucn, Ust, Usx, Urs, Upa, Urg, Ume, Uds, Upw, Upl, Uqu, Uou) → wpX_copyEnd Q (ql, pc, xc + 1, lv, cw, cn, st, upd sx p (nI i + 1), rs, pa, rg, me, ds, pw, pl, qu, ou) (nI p) (nI (4 * p + a)) (nI (4 * p + b))) (h : post (Uql, Upc, Uxc, Ulv, Ucw, Ucn, Ust, Usx, Urs, Upa, Urg, Ume, Uds, Upw, Upl, Uqu, Uou)) : wpX_execute post (ql, pc, xc, lv, cw, cn, st, sx, rs, pa, rg, me, ds, pw, pl, qu, ou) (nI p) := by
  have ep : (nI p).toNatClampNeg = p := nI_clamp (by omega)
  have ei : (nI i).toNatClampNeg = i := nI_clamp (by omega)
  have ha4 : a < 4 := by omega
  have hb4 : b < 4 := by omega
  have eA : (nI (4 * p + a)).toNatClampNeg = 4 * p + a := nI_clamp (by omega)
  have eB : (nI (4 * p + b)).toNatClampNeg = 4 * p + b := nI_clamp (by omega)
  have vA : vp_in (nI (4 * p + a)) 24 := vp_in_nI (by omega) (by decide)
  have vB : vp_in (nI (4 * p + b)) 24 := vp_in_nI (by omega) (by decide)
  have v6 : vp_in (nI p) 6 := vp_in_nI hp (by decide)
  have v64 : vp_in (nI i) 64 := vp_in_nI hi (by decide)
  refine nm_e ⟨v6, nm_r (e' := nI i) (by rw [ep]; exact hs) (tk_xSpot1 hi (br_f tk_01 ⟨v64, nm_r (e' := nI w) (by rw [ei]; exact hc) (nm_r (e' := nI (4 * p + a)) (by rw [tk_wa hw, tk_i4, ha]) (nm_r (e' := nI (4 * p + b)) (by rw [tk_wb hw, tk_i4, hb]) ⟨v64, nm_r (e' := cn i) (by rw [ei]) ⟨v6, nm_r (e' := upd sx p (nI i + 1)) (by rw [ep]) (nm_r (e' := nI 19) (by rw [tk_op hw, ho]) ?_)⟩⟩))⟩))⟩
  exact br_f (by decide) (br_f (by decide) (br_f (by decide) (br_f (by decide) (br_f (by decide) (br_f (by decide) (br_f (by decide) (br_f (by decide) (br_f (by decide) (br_f (by decide) (br_f (by decide) (br_f (by decide) (br_f (by decide) (br_f (by decide) (br_f (by decide) (br_f (by decide) (br_f (by decide) (br_f (by decide) (br_f (by decide) (br_f (by decide) (br_f (by decide) (br_t (by decide) (H _ h))))))))))))))))))))))
theorem tk_xex_21 {post : SX → Prop} {p i w a b : Nat} (hp : p < 6) (hi : i < 64) (hs : sx p = nI i) (hw : w < 512) (hc : cw i = nI w) (ha : w / 32 % 4 = a) (hb : w / 128 = b) (ho : w % 32 = 21) (H : ∀ Q : SX → Prop, Q (Uql, Upc, Uxc, Ulv, Ucw, Ucn, Ust, Usx, Urs, Upa, Urg, Ume, Uds, Upw, Upl, Uqu, Uou) → wpX_print Q (ql, pc, xc + 1, lv, cw, cn, st, upd sx p (nI i + 1), rs, pa, rg, me, ds, pw, pl, qu, ou) (rg (4 * p + a))) (h : post (Uql, Upc, Uxc, Ulv, Ucw, Ucn, Ust, Usx, Urs, Upa, Urg, Ume, Uds, Upw, Upl, Uqu, Uou)) : wpX_execute post (ql, pc, xc, lv, cw, cn, st, sx, rs, pa, rg, me, ds, pw, pl, qu, ou) (nI p) := by
  have ep : (nI p).toNatClampNeg = p := nI_clamp (by omega)
  have ei : (nI i).toNatClampNeg = i := nI_clamp (by omega)
  have ha4 : a < 4 := by omega
  have hb4 : b < 4 := by omega
  have eA : (nI (4 * p + a)).toNatClampNeg = 4 * p + a := nI_clamp (by omega)
  have eB : (nI (4 * p + b)).toNatClampNeg = 4 * p + b := nI_clamp (by omega)
  have vA : vp_in (nI (4 * p + a)) 24 := vp_in_nI (by omega) (by decide)
  have vB : vp_in (nI (4 * p + b)) 24 := vp_in_nI (by omega) (by decide)
  have v6 : vp_in (nI p) 6 := vp_in_nI hp (by decide)
  have v64 : vp_in (nI i) 64 := vp_in_nI hi (by decide)
  refine nm_e ⟨v6, nm_r (e' := nI i) (by rw [ep]; exact hs) (tk_xSpot1 hi (br_f tk_01 ⟨v64, nm_r (e' := nI w) (by rw [ei]; exact hc) (nm_r (e' := nI (4 * p + a)) (by rw [tk_wa hw, tk_i4, ha]) (nm_r (e' := nI (4 * p + b)) (by rw [tk_wb hw, tk_i4, hb]) ⟨v64, nm_r (e' := cn i) (by rw [ei]) ⟨v6, nm_r (e' := upd sx p (nI i + 1)) (by rw [ep]) (nm_r (e' := nI 21) (by rw [tk_op hw, ho]) ?_)⟩⟩))⟩))⟩
  exact br_f (by decide) (br_f (by decide) (br_f (by decide) (br_f (by decide) (br_f (by decide) (br_f (by decide) (br_f (by decide) (br_f (by decide) (br_f (by decide) (br_f (by decide) (br_f (by decide) (br_f (by decide) (br_f (by decide) (br_f (by decide) (br_f (by decide) (br_f (by decide) (br_f (by decide) (br_f (by decide) (br_f (by decide) (br_f (by decide) (br_f (by decide) (br_f (by decide) (br_f (by decide) (br_t (by decide) ⟨vA, by rw [eA]; exact H _ h⟩)))))))))))))))))))))))
theorem tk_xex_24 {post : SX → Prop} {p i w a b : Nat} (hp : p < 6) (hi : i < 64) (hs : sx p = nI i) (hw : w < 512) (hc : cw i = nI w) (ha : w / 32 % 4 = a) (hb : w / 128 = b) (ho : w % 32 = 24) (H : ∀ Q : SX → Prop, Q (Uql, Upc, Uxc, Ulv, Ucw, Ucn, Ust, Usx, Urs, Upa, Urg, Ume, Uds, Upw, Upl, Uqu, Uou) → wpX_killOther Q (ql, pc, xc + 1, lv, cw, cn, st, upd sx p (nI i + 1), rs, pa, rg, me, ds, pw, pl, qu, ou) (nI p) (nI (4 * p + a)) (nI (4 * p + b))) (h : post (Uql, Upc, Uxc, Ulv, Ucw, Ucn, Ust, Usx, Urs, Upa, Urg, Ume, Uds, Upw, Upl, Uqu, Uou)) : wpX_execute post (ql, pc, xc, lv, cw, cn, st, sx, rs, pa, rg, me, ds, pw, pl, qu, ou) (nI p) := by
  have ep : (nI p).toNatClampNeg = p := nI_clamp (by omega)
  have ei : (nI i).toNatClampNeg = i := nI_clamp (by omega)
  have ha4 : a < 4 := by omega
  have hb4 : b < 4 := by omega
  have eA : (nI (4 * p + a)).toNatClampNeg = 4 * p + a := nI_clamp (by omega)
  have eB : (nI (4 * p + b)).toNatClampNeg = 4 * p + b := nI_clamp (by omega)
  have vA : vp_in (nI (4 * p + a)) 24 := vp_in_nI (by omega) (by decide)
  have vB : vp_in (nI (4 * p + b)) 24 := vp_in_nI (by omega) (by decide)
  have v6 : vp_in (nI p) 6 := vp_in_nI hp (by decide)
  have v64 : vp_in (nI i) 64 := vp_in_nI hi (by decide)
  refine nm_e ⟨v6, nm_r (e' := nI i) (by rw [ep]; exact hs) (tk_xSpot1 hi (br_f tk_01 ⟨v64, nm_r (e' := nI w) (by rw [ei]; exact hc) (nm_r (e' := nI (4 * p + a)) (by rw [tk_wa hw, tk_i4, ha]) (nm_r (e' := nI (4 * p + b)) (by rw [tk_wb hw, tk_i4, hb]) ⟨v64, nm_r (e' := cn i) (by rw [ei]) ⟨v6, nm_r (e' := upd sx p (nI i + 1)) (by rw [ep]) (nm_r (e' := nI 24) (by rw [tk_op hw, ho]) ?_)⟩⟩))⟩))⟩
  exact br_f (by decide) (br_f (by decide) (br_f (by decide) (br_f (by decide) (br_f (by decide) (br_f (by decide) (br_f (by decide) (br_f (by decide) (br_f (by decide) (br_f (by decide) (br_f (by decide) (br_f (by decide) (br_f (by decide) (br_f (by decide) (br_f (by decide) (br_f (by decide) (br_f (by decide) (br_f (by decide) (br_f (by decide) (br_f (by decide) (br_f (by decide) (br_f (by decide) (br_f (by decide) (br_f (by decide) (br_f (by decide) (br_f (by decide) (br_t (by decide) (H _ h)))))))))))))))))))))))))))
theorem tk_xex_10t {post : SX → Prop} {p i w a b : Nat} (hp : p < 6) (hi : i < 64) (hs : sx p = nI i) (hw : w < 512) (hc : cw i = nI w) (ha : w / 32 % 4 = a) (hb : w / 128 = b) (ho : w % 32 = 10) (z : rg (4 * p + a) = 0) (h : post (ql, pc, xc + 1, lv, cw, cn, st, upd (upd sx p (nI i + 1)) p (cn i), rs, pa, rg, me, ds, pw, pl, qu, ou)) : wpX_execute post (ql, pc, xc, lv, cw, cn, st, sx, rs, pa, rg, me, ds, pw, pl, qu, ou) (nI p) := by
  have ep : (nI p).toNatClampNeg = p := nI_clamp (by omega)
  have ei : (nI i).toNatClampNeg = i := nI_clamp (by omega)
  have ha4 : a < 4 := by omega
  have hb4 : b < 4 := by omega
  have eA : (nI (4 * p + a)).toNatClampNeg = 4 * p + a := nI_clamp (by omega)
  have eB : (nI (4 * p + b)).toNatClampNeg = 4 * p + b := nI_clamp (by omega)
  have vA : vp_in (nI (4 * p + a)) 24 := vp_in_nI (by omega) (by decide)
  have vB : vp_in (nI (4 * p + b)) 24 := vp_in_nI (by omega) (by decide)
  have v6 : vp_in (nI p) 6 := vp_in_nI hp (by decide)
  have v64 : vp_in (nI i) 64 := vp_in_nI hi (by decide)
  refine nm_e ⟨v6, nm_r (e' := nI i) (by rw [ep]; exact hs) (tk_xSpot1 hi (br_f tk_01 ⟨v64, nm_r (e' := nI w) (by rw [ei]; exact hc) (nm_r (e' := nI (4 * p + a)) (by rw [tk_wa hw, tk_i4, ha]) (nm_r (e' := nI (4 * p + b)) (by rw [tk_wb hw, tk_i4, hb]) ⟨v64, nm_r (e' := cn i) (by rw [ei]) ⟨v6, nm_r (e' := upd sx p (nI i + 1)) (by rw [ep]) (nm_r (e' := nI 10) (by rw [tk_op hw, ho]) ?_)⟩⟩))⟩))⟩
  exact br_f (by decide) (br_f (by decide) (br_f (by decide) (br_f (by decide) (br_f (by decide) (br_f (by decide) (br_f (by decide) (br_f (by decide) (br_f (by decide) (br_f (by decide) (br_f (by decide) (br_f (by decide) (br_t (by decide) ⟨vA, br_t (by rw [eA]; exact z) (br_f tk_01 ⟨v6, nm_r (e' := upd (upd sx p (nI i + 1)) p (cn i)) (by rw [ep]) h⟩)⟩))))))))))))
theorem tk_xex_10f {post : SX → Prop} {p i w a b : Nat} (hp : p < 6) (hi : i < 64) (hs : sx p = nI i) (hw : w < 512) (hc : cw i = nI w) (ha : w / 32 % 4 = a) (hb : w / 128 = b) (ho : w % 32 = 10) (z : ¬ rg (4 * p + a) = 0) (h : post (ql, pc, xc + 1, lv, cw, cn, st, upd sx p (nI i + 1), rs, pa, rg, me, ds, pw, pl, qu, ou)) : wpX_execute post (ql, pc, xc, lv, cw, cn, st, sx, rs, pa, rg, me, ds, pw, pl, qu, ou) (nI p) := by
  have ep : (nI p).toNatClampNeg = p := nI_clamp (by omega)
  have ei : (nI i).toNatClampNeg = i := nI_clamp (by omega)
  have ha4 : a < 4 := by omega
  have hb4 : b < 4 := by omega
  have eA : (nI (4 * p + a)).toNatClampNeg = 4 * p + a := nI_clamp (by omega)
  have eB : (nI (4 * p + b)).toNatClampNeg = 4 * p + b := nI_clamp (by omega)
  have vA : vp_in (nI (4 * p + a)) 24 := vp_in_nI (by omega) (by decide)
  have vB : vp_in (nI (4 * p + b)) 24 := vp_in_nI (by omega) (by decide)
  have v6 : vp_in (nI p) 6 := vp_in_nI hp (by decide)
  have v64 : vp_in (nI i) 64 := vp_in_nI hi (by decide)
  refine nm_e ⟨v6, nm_r (e' := nI i) (by rw [ep]; exact hs) (tk_xSpot1 hi (br_f tk_01 ⟨v64, nm_r (e' := nI w) (by rw [ei]; exact hc) (nm_r (e' := nI (4 * p + a)) (by rw [tk_wa hw, tk_i4, ha]) (nm_r (e' := nI (4 * p + b)) (by rw [tk_wb hw, tk_i4, hb]) ⟨v64, nm_r (e' := cn i) (by rw [ei]) ⟨v6, nm_r (e' := upd sx p (nI i + 1)) (by rw [ep]) (nm_r (e' := nI 10) (by rw [tk_op hw, ho]) ?_)⟩⟩))⟩))⟩
  exact br_f (by decide) (br_f (by decide) (br_f (by decide) (br_f (by decide) (br_f (by decide) (br_f (by decide) (br_f (by decide) (br_f (by decide) (br_f (by decide) (br_f (by decide) (br_f (by decide) (br_f (by decide) (br_t (by decide) ⟨vA, br_f (by rw [eA]; exact z) (br_t rfl h)⟩))))))))))))
theorem tk_xex_11 {post : SX → Prop} {p i w a b : Nat} (hp : p < 6) (hi : i < 64) (hs : sx p = nI i) (hw : w < 512) (hc : cw i = nI w) (ha : w / 32 % 4 = a) (hb : w / 128 = b) (ho : w % 32 = 11) (h : post (ql, pc, xc + 1, lv, cw, cn, st, upd (upd sx p (nI i + 1)) p (cn i), rs, pa, rg, me, ds, pw, pl, qu, ou)) : wpX_execute post (ql, pc, xc, lv, cw, cn, st, sx, rs, pa, rg, me, ds, pw, pl, qu, ou) (nI p) := by
  have ep : (nI p).toNatClampNeg = p := nI_clamp (by omega)
  have ei : (nI i).toNatClampNeg = i := nI_clamp (by omega)
  have ha4 : a < 4 := by omega
  have hb4 : b < 4 := by omega
  have eA : (nI (4 * p + a)).toNatClampNeg = 4 * p + a := nI_clamp (by omega)
  have eB : (nI (4 * p + b)).toNatClampNeg = 4 * p + b := nI_clamp (by omega)
  have vA : vp_in (nI (4 * p + a)) 24 := vp_in_nI (by omega) (by decide)
  have vB : vp_in (nI (4 * p + b)) 24 := vp_in_nI (by omega) (by decide)
  have v6 : vp_in (nI p) 6 := vp_in_nI hp (by decide)
  have v64 : vp_in (nI i) 64 := vp_in_nI hi (by decide)
  refine nm_e ⟨v6, nm_r (e' := nI i) (by rw [ep]; exact hs) (tk_xSpot1 hi (br_f tk_01 ⟨v64, nm_r (e' := nI w) (by rw [ei]; exact hc) (nm_r (e' := nI (4 * p + a)) (by rw [tk_wa hw, tk_i4, ha]) (nm_r (e' := nI (4 * p + b)) (by rw [tk_wb hw, tk_i4, hb]) ⟨v64, nm_r (e' := cn i) (by rw [ei]) ⟨v6, nm_r (e' := upd sx p (nI i + 1)) (by rw [ep]) (nm_r (e' := nI 11) (by rw [tk_op hw, ho]) ?_)⟩⟩))⟩))⟩
  exact br_f (by decide) (br_f (by decide) (br_f (by decide) (br_f (by decide) (br_f (by decide) (br_f (by decide) (br_f (by decide) (br_f (by decide) (br_f (by decide) (br_f (by decide) (br_f (by decide) (br_f (by decide) (br_f (by decide) (br_t (by decide) (br_f tk_01 ⟨v6, nm_r (e' := upd (upd sx p (nI i + 1)) p (cn i)) (by rw [ep]) h⟩))))))))))))))
theorem tk_xex_12f {post : SX → Prop} {p i w a b : Nat} (hp : p < 6) (hi : i < 64) (hs : sx p = nI i) (hw : w < 512) (hc : cw i = nI w) (ha : w / 32 % 4 = a) (hb : w / 128 = b) (ho : w % 32 = 12) (z : rg (4 * p + a) = 0) (h : post (ql, pc, xc + 1, lv, cw, cn, st, upd sx p (nI i + 1), rs, pa, rg, me, ds, pw, pl, qu, ou)) : wpX_execute post (ql, pc, xc, lv, cw, cn, st, sx, rs, pa, rg, me, ds, pw, pl, qu, ou) (nI p) := by
  have ep : (nI p).toNatClampNeg = p := nI_clamp (by omega)
  have ei : (nI i).toNatClampNeg = i := nI_clamp (by omega)
  have ha4 : a < 4 := by omega
  have hb4 : b < 4 := by omega
  have eA : (nI (4 * p + a)).toNatClampNeg = 4 * p + a := nI_clamp (by omega)
  have eB : (nI (4 * p + b)).toNatClampNeg = 4 * p + b := nI_clamp (by omega)
  have vA : vp_in (nI (4 * p + a)) 24 := vp_in_nI (by omega) (by decide)
  have vB : vp_in (nI (4 * p + b)) 24 := vp_in_nI (by omega) (by decide)
  have v6 : vp_in (nI p) 6 := vp_in_nI hp (by decide)
  have v64 : vp_in (nI i) 64 := vp_in_nI hi (by decide)
  refine nm_e ⟨v6, nm_r (e' := nI i) (by rw [ep]; exact hs) (tk_xSpot1 hi (br_f tk_01 ⟨v64, nm_r (e' := nI w) (by rw [ei]; exact hc) (nm_r (e' := nI (4 * p + a)) (by rw [tk_wa hw, tk_i4, ha]) (nm_r (e' := nI (4 * p + b)) (by rw [tk_wb hw, tk_i4, hb]) ⟨v64, nm_r (e' := cn i) (by rw [ei]) ⟨v6, nm_r (e' := upd sx p (nI i + 1)) (by rw [ep]) (nm_r (e' := nI 12) (by rw [tk_op hw, ho]) ?_)⟩⟩))⟩))⟩
  exact br_f (by decide) (br_f (by decide) (br_f (by decide) (br_f (by decide) (br_f (by decide) (br_f (by decide) (br_f (by decide) (br_f (by decide) (br_f (by decide) (br_f (by decide) (br_f (by decide) (br_f (by decide) (br_f (by decide) (br_f (by decide) (br_t (by decide) ⟨vA, br_t (by rw [eA]; exact z) (br_t rfl h)⟩))))))))))))))
theorem tk_xex_12t {post : SX → Prop} {p i w a b : Nat} (hp : p < 6) (hi : i < 64) (hs : sx p = nI i) (hw : w < 512) (hc : cw i = nI w) (ha : w / 32 % 4 = a) (hb : w / 128 = b) (ho : w % 32 = 12) (z : ¬ rg (4 * p + a) = 0) (h : post (ql, pc, xc + 1, lv, cw, cn, st, upd (upd sx p (nI i + 1)) p (cn i), rs, pa, rg, me, ds, pw, pl, qu, ou)) : wpX_execute post (ql, pc, xc, lv, cw, cn, st, sx, rs, pa, rg, me, ds, pw, pl, qu, ou) (nI p) := by
  have ep : (nI p).toNatClampNeg = p := nI_clamp (by omega)
  have ei : (nI i).toNatClampNeg = i := nI_clamp (by omega)
  have ha4 : a < 4 := by omega
  have hb4 : b < 4 := by omega
  have eA : (nI (4 * p + a)).toNatClampNeg = 4 * p + a := nI_clamp (by omega)
  have eB : (nI (4 * p + b)).toNatClampNeg = 4 * p + b := nI_clamp (by omega)
  have vA : vp_in (nI (4 * p + a)) 24 := vp_in_nI (by omega) (by decide)
  have vB : vp_in (nI (4 * p + b)) 24 := vp_in_nI (by omega) (by decide)
  have v6 : vp_in (nI p) 6 := vp_in_nI hp (by decide)
  have v64 : vp_in (nI i) 64 := vp_in_nI hi (by decide)
  refine nm_e ⟨v6, nm_r (e' := nI i) (by rw [ep]; exact hs) (tk_xSpot1 hi (br_f tk_01 ⟨v64, nm_r (e' := nI w) (by rw [ei]; exact hc) (nm_r (e' := nI (4 * p + a)) (by rw [tk_wa hw, tk_i4, ha]) (nm_r (e' := nI (4 * p + b)) (by rw [tk_wb hw, tk_i4, hb]) ⟨v64, nm_r (e' := cn i) (by rw [ei]) ⟨v6, nm_r (e' := upd sx p (nI i + 1)) (by rw [ep]) (nm_r (e' := nI 12) (by rw [tk_op hw, ho]) ?_)⟩⟩))⟩))⟩
  exact br_f (by decide) (br_f (by decide) (br_f (by decide) (br_f (by decide) (br_f (by decide) (br_f (by decide) (br_f (by decide) (br_f (by decide) (br_f (by decide) (br_f (by decide) (br_f (by decide) (br_f (by decide) (br_f (by decide) (br_f (by decide) (br_t (by decide) ⟨vA, br_f (by rw [eA]; exact z) (br_f tk_01 ⟨v6, nm_r (e' := upd (upd sx p (nI i + 1)) p (cn i)) (by rw [ep]) h⟩)⟩))))))))))))))
theorem tk_xex_20 {post : SX → Prop} {p i w a b : Nat} (hp : p < 6) (hi : i < 64) (hs : sx p = nI i) (hw : w < 512) (hc : cw i = nI w) (ha : w / 32 % 4 = a) (hb : w / 128 = b) (ho : w % 32 = 20) (h : post (ql, pc, xc + 1, lv, cw, cn, st, upd sx p (nI i + 1), rs, pa, rg, me, ds, pw, pl, qu, ou)) : wpX_execute post (ql, pc, xc, lv, cw, cn, st, sx, rs, pa, rg, me, ds, pw, pl, qu, ou) (nI p) := by
  have ep : (nI p).toNatClampNeg = p := nI_clamp (by omega)
  have ei : (nI i).toNatClampNeg = i := nI_clamp (by omega)
  have ha4 : a < 4 := by omega
  have hb4 : b < 4 := by omega
  have eA : (nI (4 * p + a)).toNatClampNeg = 4 * p + a := nI_clamp (by omega)
  have eB : (nI (4 * p + b)).toNatClampNeg = 4 * p + b := nI_clamp (by omega)
  have vA : vp_in (nI (4 * p + a)) 24 := vp_in_nI (by omega) (by decide)
  have vB : vp_in (nI (4 * p + b)) 24 := vp_in_nI (by omega) (by decide)
  have v6 : vp_in (nI p) 6 := vp_in_nI hp (by decide)
  have v64 : vp_in (nI i) 64 := vp_in_nI hi (by decide)
  refine nm_e ⟨v6, nm_r (e' := nI i) (by rw [ep]; exact hs) (tk_xSpot1 hi (br_f tk_01 ⟨v64, nm_r (e' := nI w) (by rw [ei]; exact hc) (nm_r (e' := nI (4 * p + a)) (by rw [tk_wa hw, tk_i4, ha]) (nm_r (e' := nI (4 * p + b)) (by rw [tk_wb hw, tk_i4, hb]) ⟨v64, nm_r (e' := cn i) (by rw [ei]) ⟨v6, nm_r (e' := upd sx p (nI i + 1)) (by rw [ep]) (nm_r (e' := nI 20) (by rw [tk_op hw, ho]) ?_)⟩⟩))⟩))⟩
  exact br_f (by decide) (br_f (by decide) (br_f (by decide) (br_f (by decide) (br_f (by decide) (br_f (by decide) (br_f (by decide) (br_f (by decide) (br_f (by decide) (br_f (by decide) (br_f (by decide) (br_f (by decide) (br_f (by decide) (br_f (by decide) (br_f (by decide) (br_f (by decide) (br_f (by decide) (br_f (by decide) (br_f (by decide) (br_f (by decide) (br_f (by decide) (br_f (by decide) (br_t (by decide) h))))))))))))))))))))))
theorem tk_xex_22 {post : SX → Prop} {p i w a b : Nat} (hp : p < 6) (hi : i < 64) (hs : sx p = nI i) (hw : w < 512) (hc : cw i = nI w) (ha : w / 32 % 4 = a) (hb : w / 128 = b) (ho : w % 32 = 22) (h : post (ql, pc, xc + 1, lv, cw, cn, st, upd sx p (nI i + 1), rs, pa, upd rg (4 * p + a) (nI p), me, ds, pw, pl, qu, ou)) : wpX_execute post (ql, pc, xc, lv, cw, cn, st, sx, rs, pa, rg, me, ds, pw, pl, qu, ou) (nI p) := by
  have ep : (nI p).toNatClampNeg = p := nI_clamp (by omega)
  have ei : (nI i).toNatClampNeg = i := nI_clamp (by omega)
  have ha4 : a < 4 := by omega
  have hb4 : b < 4 := by omega
  have eA : (nI (4 * p + a)).toNatClampNeg = 4 * p + a := nI_clamp (by omega)
  have eB : (nI (4 * p + b)).toNatClampNeg = 4 * p + b := nI_clamp (by omega)
  have vA : vp_in (nI (4 * p + a)) 24 := vp_in_nI (by omega) (by decide)
  have vB : vp_in (nI (4 * p + b)) 24 := vp_in_nI (by omega) (by decide)
  have v6 : vp_in (nI p) 6 := vp_in_nI hp (by decide)
  have v64 : vp_in (nI i) 64 := vp_in_nI hi (by decide)
  refine nm_e ⟨v6, nm_r (e' := nI i) (by rw [ep]; exact hs) (tk_xSpot1 hi (br_f tk_01 ⟨v64, nm_r (e' := nI w) (by rw [ei]; exact hc) (nm_r (e' := nI (4 * p + a)) (by rw [tk_wa hw, tk_i4, ha]) (nm_r (e' := nI (4 * p + b)) (by rw [tk_wb hw, tk_i4, hb]) ⟨v64, nm_r (e' := cn i) (by rw [ei]) ⟨v6, nm_r (e' := upd sx p (nI i + 1)) (by rw [ep]) (nm_r (e' := nI 22) (by rw [tk_op hw, ho]) ?_)⟩⟩))⟩))⟩
  exact br_f (by decide) (br_f (by decide) (br_f (by decide) (br_f (by decide) (br_f (by decide) (br_f (by decide) (br_f (by decide) (br_f (by decide) (br_f (by decide) (br_f (by decide) (br_f (by decide) (br_f (by decide) (br_f (by decide) (br_f (by decide) (br_f (by decide) (br_f (by decide) (br_f (by decide) (br_f (by decide) (br_f (by decide) (br_f (by decide) (br_f (by decide) (br_f (by decide) (br_f (by decide) (br_f (by decide) (br_t (by decide) ⟨vA, nm_r (e' := upd rg (4 * p + a) (nI p)) (by rw [eA]) h⟩))))))))))))))))))))))))
theorem tk_xex_23 {post : SX → Prop} {p i w a b : Nat} (hp : p < 6) (hi : i < 64) (hs : sx p = nI i) (hw : w < 512) (hc : cw i = nI w) (ha : w / 32 % 4 = a) (hb : w / 128 = b) (ho : w % 32 = 23) (h : post (ql, pc, xc + 1, lv, cw, cn, st, upd sx p (nI i + 1), rs, pa, upd rg (4 * p + a) (pa p), me, ds, pw, pl, qu, ou)) : wpX_execute post (ql, pc, xc, lv, cw, cn, st, sx, rs, pa, rg, me, ds, pw, pl, qu, ou) (nI p) := by
  have ep : (nI p).toNatClampNeg = p := nI_clamp (by omega)
  have ei : (nI i).toNatClampNeg = i := nI_clamp (by omega)
  have ha4 : a < 4 := by omega
  have hb4 : b < 4 := by omega
  have eA : (nI (4 * p + a)).toNatClampNeg = 4 * p + a := nI_clamp (by omega)
  have eB : (nI (4 * p + b)).toNatClampNeg = 4 * p + b := nI_clamp (by omega)
  have vA : vp_in (nI (4 * p + a)) 24 := vp_in_nI (by omega) (by decide)
  have vB : vp_in (nI (4 * p + b)) 24 := vp_in_nI (by omega) (by decide)
  have v6 : vp_in (nI p) 6 := vp_in_nI hp (by decide)
  have v64 : vp_in (nI i) 64 := vp_in_nI hi (by decide)
  refine nm_e ⟨v6, nm_r (e' := nI i) (by rw [ep]; exact hs) (tk_xSpot1 hi (br_f tk_01 ⟨v64, nm_r (e' := nI w) (by rw [ei]; exact hc) (nm_r (e' := nI (4 * p + a)) (by rw [tk_wa hw, tk_i4, ha]) (nm_r (e' := nI (4 * p + b)) (by rw [tk_wb hw, tk_i4, hb]) ⟨v64, nm_r (e' := cn i) (by rw [ei]) ⟨v6, nm_r (e' := upd sx p (nI i + 1)) (by rw [ep]) (nm_r (e' := nI 23) (by rw [tk_op hw, ho]) ?_)⟩⟩))⟩))⟩
  exact br_f (by decide) (br_f (by decide) (br_f (by decide) (br_f (by decide) (br_f (by decide) (br_f (by decide) (br_f (by decide) (br_f (by decide) (br_f (by decide) (br_f (by decide) (br_f (by decide) (br_f (by decide) (br_f (by decide) (br_f (by decide) (br_f (by decide) (br_f (by decide) (br_f (by decide) (br_f (by decide) (br_f (by decide) (br_f (by decide) (br_f (by decide) (br_f (by decide) (br_f (by decide) (br_f (by decide) (br_f (by decide) (br_t (by decide) ⟨v6, vA, nm_r (e' := upd rg (4 * p + a) (pa p)) (by rw [eA, ep]) h⟩)))))))))))))))))))))))))
theorem tk_xex_out {post : SX → Prop} {p : Nat} (hp : p < 6) (hs : sx p < 0 ∨ (¬ sx p < 0 ∧ nI 64 ≤ sx p)) (H : ∀ Q : SX → Prop, Q (Uql, Upc, Uxc, Ulv, Ucw, Ucn, Ust, Usx, Urs, Upa, Urg, Ume, Uds, Upw, Upl, Uqu, Uou) → wpX_finish Q (ql, pc, xc + 1, lv, cw, cn, st, sx, rs, pa, rg, me, ds, pw, pl, qu, ou) (nI p) (-4)) (h : post (Uql, Upc, Uxc, Ulv, Ucw, Ucn, Ust, Usx, Urs, Upa, Urg, Ume, Uds, Upw, Upl, Uqu, Uou)) : wpX_execute post (ql, pc, xc, lv, cw, cn, st, sx, rs, pa, rg, me, ds, pw, pl, qu, ou) (nI p) := by
  have ep : (nI p).toNatClampNeg = p := nI_clamp (by omega)
  exact nm_e ⟨vp_in_nI hp (by decide), nm_r (e' := sx p) (by rw [ep]) (tk_xSpot0 hs (br_t rfl (H _ h)))⟩
end
end
section
section
variable {ql pc lv : Int32} {xc : Int64} {cw cn st sx sy rs pa rg me ds pw pl qu ou : Nat → Int32}
variable {Vql Vpc : Int32} {Vxc : Int64} {Vcw Vcn Vst Vpa Vsy Vrg Vds Vme Vpw Vpl Vqu Vou : Nat → Int32}
theorem tk_y330 {post : Int32 → SY → Prop} {p o : Nat} (hp : p < 6) (ho : o < 32) (h : post (if o = 20 then 0 else 1) (ql, xc, pc, cw, cn, st, pa, upd sy p (sy p + 1), rg, ds, me, pw, pl, qu, ou)) : wY_execute_330 post (nI p) (nI o) ql xc pc cw cn st pa sy rg ds me pw pl qu ou := by
  have ep : (nI p).toNatClampNeg = p := nI_clamp (by omega)
  have v6 : vp_in (nI p) 6 := vp_in_nI hp (by decide)
  refine ⟨v6, v6, nm_r (e' := upd sy p (sy p + 1)) (by rw [ep]) ?_⟩
  by_cases z : o = 20
  · rw [if_pos z] at h
    exact br_t (by rw [z]; rfl) h
  · rw [if_neg z] at h
    exact br_f (tk_ne (b := 20) (by omega) (by decide) z) h
theorem tk_yex_0 {post : Int32 → SY → Prop} {p i w a b : Nat} (hp : p < 6) (hi : i < 64) (hs : sy p = nI i) (hw : w < 512) (hc : cw i = nI w) (ha : w / 32 % 4 = a) (hb : w / 128 = b) (ho : w % 32 = 0) (H : ∀ Q : SY → Prop, Q (Vql, Vxc, Vpc, Vcw, Vcn, Vst, Vpa, Vsy, Vrg, Vds, Vme, Vpw, Vpl, Vqu, Vou) → wpY_end Q (ql, xc + 1, pc, cw, cn, st, pa, sy, rg, ds, me, pw, pl, qu, ou) (nI p) (rg (4 * p + a))) (h : post 0 (Vql, Vxc, Vpc, Vcw, Vcn, Vst, Vpa, Vsy, Vrg, Vds, Vme, Vpw, Vpl, Vqu, Vou)) : wpY_execute post (ql, xc, pc, cw, cn, st, pa, sy, rg, ds, me, pw, pl, qu, ou) (nI p) := by
  have ep : (nI p).toNatClampNeg = p := nI_clamp (by omega)
  have ei : (nI i).toNatClampNeg = i := nI_clamp (by omega)
  have ha4 : a < 4 := by omega
  have hb4 : b < 4 := by omega
  have eA : (nI (4 * p + a)).toNatClampNeg = 4 * p + a := nI_clamp (by omega)
  have eB : (4 * nI p + nI b).toNatClampNeg = 4 * p + b := by rw [tk_i4', nI_clamp (by omega)]
  have vA : vp_in (nI (4 * p + a)) 24 := vp_in_nI (by omega) (by decide)
  have vB : vp_in (4 * nI p + nI b) 24 := by rw [tk_i4']; exact vp_in_nI (by omega) (by decide)
  have v6 : vp_in (nI p) 6 := vp_in_nI hp (by decide)
  have v64 : vp_in (nI i) 64 := vp_in_nI hi (by decide)
  refine nm_e ⟨v6, ?_⟩
  rw [ep, hs]
  refine tk_yIn1 63 (by omega) (br_f tk_01 ⟨v6, v64, nm_r (e' := nI w) (by rw [ei]; exact hc) (nm_r (e' := nI 0) (by rw [tk_op hw, ho]) (nm_r (e' := nI a) (by rw [tk_wa hw, ha]) (nm_r (e' := nI b) (by rw [tk_wb' hw, hb]) ⟨v6, v64, nm_r (e' := cn i) (by rw [ei]) (nm_r (e' := nI (4 * p + a)) (tk_i4' _ _) ⟨vA, nm_r (e' := rg (4 * p + a)) (by rw [eA]) ⟨vB, nm_r (e' := rg (4 * p + b)) (by rw [eB]) ?_⟩⟩)⟩)))⟩)
  exact br_t (by decide) (H _ h)
theorem tk_yex_1 {post : Int32 → SY → Prop} {p i w a b : Nat} (hp : p < 6) (hi : i < 64) (hs : sy p = nI i) (hw : w < 512) (hc : cw i = nI w) (ha : w / 32 % 4 = a) (hb : w / 128 = b) (ho : w % 32 = 1) (h : post 1 (ql, xc + 1, pc, cw, cn, st, pa, upd sy p (sy p + 1), upd rg (4 * p + a) (tk_val 1 (rg (4 * p + a)) (rg (4 * p + b)) (cn i)), ds, me, pw, pl, qu, ou)) : wpY_execute post (ql, xc, pc, cw, cn, st, pa, sy, rg, ds, me, pw, pl, qu, ou) (nI p) := by
  have ep : (nI p).toNatClampNeg = p := nI_clamp (by omega)
  have ei : (nI i).toNatClampNeg = i := nI_clamp (by omega)
  have ha4 : a < 4 := by omega
  have hb4 : b < 4 := by omega
  have eA : (nI (4 * p + a)).toNatClampNeg = 4 * p + a := nI_clamp (by omega)
  have eB : (4 * nI p + nI b).toNatClampNeg = 4 * p + b := by rw [tk_i4', nI_clamp (by omega)]
  have vA : vp_in (nI (4 * p + a)) 24 := vp_in_nI (by omega) (by decide)
  have vB : vp_in (4 * nI p + nI b) 24 := by rw [tk_i4']; exact vp_in_nI (by omega) (by decide)
  have v6 : vp_in (nI p) 6 := vp_in_nI hp (by decide)
  have v64 : vp_in (nI i) 64 := vp_in_nI hi (by decide)
  refine nm_e ⟨v6, ?_⟩
  rw [ep, hs]
  refine tk_yIn1 63 (by omega) (br_f tk_01 ⟨v6, v64, nm_r (e' := nI w) (by rw [ei]; exact hc) (nm_r (e' := nI 1) (by rw [tk_op hw, ho]) (nm_r (e' := nI a) (by rw [tk_wa hw, ha]) (nm_r (e' := nI b) (by rw [tk_wb' hw, hb]) ⟨v6, v64, nm_r (e' := cn i) (by rw [ei]) (nm_r (e' := nI (4 * p + a)) (tk_i4' _ _) ⟨vA, nm_r (e' := rg (4 * p + a)) (by rw [eA]) ⟨vB, nm_r (e' := rg (4 * p + b)) (by rw [eB]) ?_⟩⟩)⟩)))⟩)
  exact br_f (by decide) (br_t (by decide) (br_f (by decide) (br_f (by decide) ((br_f (by decide) (br_f (by decide) (br_f (by decide) (tk_ySi (by decide) (by decide) ⟨vA, nm_r (e' := upd rg (4 * p + a) (tk_val 1 (rg (4 * p + a)) (rg (4 * p + b)) (cn i))) (by rw [eA]) (tk_y330 hp (by decide) h)⟩))))))))
theorem tk_yex_2 {post : Int32 → SY → Prop} {p i w a b : Nat} (hp : p < 6) (hi : i < 64) (hs : sy p = nI i) (hw : w < 512) (hc : cw i = nI w) (ha : w / 32 % 4 = a) (hb : w / 128 = b) (ho : w % 32 = 2) (h : post 1 (ql, xc + 1, pc, cw, cn, st, pa, upd sy p (sy p + 1), upd rg (4 * p + a) (tk_val 2 (rg (4 * p + a)) (rg (4 * p + b)) (cn i)), ds, me, pw, pl, qu, ou)) : wpY_execute post (ql, xc, pc, cw, cn, st, pa, sy, rg, ds, me, pw, pl, qu, ou) (nI p) := by
  have ep : (nI p).toNatClampNeg = p := nI_clamp (by omega)
  have ei : (nI i).toNatClampNeg = i := nI_clamp (by omega)
  have ha4 : a < 4 := by omega
  have hb4 : b < 4 := by omega
  have eA : (nI (4 * p + a)).toNatClampNeg = 4 * p + a := nI_clamp (by omega)
  have eB : (4 * nI p + nI b).toNatClampNeg = 4 * p + b := by rw [tk_i4', nI_clamp (by omega)]
  have vA : vp_in (nI (4 * p + a)) 24 := vp_in_nI (by omega) (by decide)
  have vB : vp_in (4 * nI p + nI b) 24 := by rw [tk_i4']; exact vp_in_nI (by omega) (by decide)
  have v6 : vp_in (nI p) 6 := vp_in_nI hp (by decide)
  have v64 : vp_in (nI i) 64 := vp_in_nI hi (by decide)
  refine nm_e ⟨v6, ?_⟩
  rw [ep, hs]
  refine tk_yIn1 63 (by omega) (br_f tk_01 ⟨v6, v64, nm_r (e' := nI w) (by rw [ei]; exact hc) (nm_r (e' := nI 2) (by rw [tk_op hw, ho]) (nm_r (e' := nI a) (by rw [tk_wa hw, ha]) (nm_r (e' := nI b) (by rw [tk_wb' hw, hb]) ⟨v6, v64, nm_r (e' := cn i) (by rw [ei]) (nm_r (e' := nI (4 * p + a)) (tk_i4' _ _) ⟨vA, nm_r (e' := rg (4 * p + a)) (by rw [eA]) ⟨vB, nm_r (e' := rg (4 * p + b)) (by rw [eB]) ?_⟩⟩)⟩)))⟩)
  exact br_f (by decide) (br_t (by decide) (br_f (by decide) (br_f (by decide) ((br_f (by decide) (br_f (by decide) (br_f (by decide) (tk_ySi (by decide) (by decide) ⟨vA, nm_r (e' := upd rg (4 * p + a) (tk_val 2 (rg (4 * p + a)) (rg (4 * p + b)) (cn i))) (by rw [eA]) (tk_y330 hp (by decide) h)⟩))))))))
theorem tk_yex_3 {post : Int32 → SY → Prop} {p i w a b : Nat} (hp : p < 6) (hi : i < 64) (hs : sy p = nI i) (hw : w < 512) (hc : cw i = nI w) (ha : w / 32 % 4 = a) (hb : w / 128 = b) (ho : w % 32 = 3) (h : post 1 (ql, xc + 1, pc, cw, cn, st, pa, upd sy p (sy p + 1), upd rg (4 * p + a) (tk_val 3 (rg (4 * p + a)) (rg (4 * p + b)) (cn i)), ds, me, pw, pl, qu, ou)) : wpY_execute post (ql, xc, pc, cw, cn, st, pa, sy, rg, ds, me, pw, pl, qu, ou) (nI p) := by
  have ep : (nI p).toNatClampNeg = p := nI_clamp (by omega)
  have ei : (nI i).toNatClampNeg = i := nI_clamp (by omega)
  have ha4 : a < 4 := by omega
  have hb4 : b < 4 := by omega
  have eA : (nI (4 * p + a)).toNatClampNeg = 4 * p + a := nI_clamp (by omega)
  have eB : (4 * nI p + nI b).toNatClampNeg = 4 * p + b := by rw [tk_i4', nI_clamp (by omega)]
  have vA : vp_in (nI (4 * p + a)) 24 := vp_in_nI (by omega) (by decide)
  have vB : vp_in (4 * nI p + nI b) 24 := by rw [tk_i4']; exact vp_in_nI (by omega) (by decide)
  have v6 : vp_in (nI p) 6 := vp_in_nI hp (by decide)
  have v64 : vp_in (nI i) 64 := vp_in_nI hi (by decide)
  refine nm_e ⟨v6, ?_⟩
  rw [ep, hs]
  refine tk_yIn1 63 (by omega) (br_f tk_01 ⟨v6, v64, nm_r (e' := nI w) (by rw [ei]; exact hc) (nm_r (e' := nI 3) (by rw [tk_op hw, ho]) (nm_r (e' := nI a) (by rw [tk_wa hw, ha]) (nm_r (e' := nI b) (by rw [tk_wb' hw, hb]) ⟨v6, v64, nm_r (e' := cn i) (by rw [ei]) (nm_r (e' := nI (4 * p + a)) (tk_i4' _ _) ⟨vA, nm_r (e' := rg (4 * p + a)) (by rw [eA]) ⟨vB, nm_r (e' := rg (4 * p + b)) (by rw [eB]) ?_⟩⟩)⟩)))⟩)
  exact br_f (by decide) (br_t (by decide) (br_f (by decide) (br_f (by decide) ((br_f (by decide) (br_f (by decide) (br_f (by decide) (tk_ySi (by decide) (by decide) ⟨vA, nm_r (e' := upd rg (4 * p + a) (tk_val 3 (rg (4 * p + a)) (rg (4 * p + b)) (cn i))) (by rw [eA]) (tk_y330 hp (by decide) h)⟩))))))))
theorem tk_yex_4 {post : Int32 → SY → Prop} {p i w a b : Nat} (hp : p < 6) (hi : i < 64) (hs : sy p = nI i) (hw : w < 512) (hc : cw i = nI w) (ha : w / 32 % 4 = a) (hb : w / 128 = b) (ho : w % 32 = 4) (h : post 1 (ql, xc + 1, pc, cw, cn, st, pa, upd sy p (sy p + 1), upd rg (4 * p + a) (tk_val 4 (rg (4 * p + a)) (rg (4 * p + b)) (cn i)), ds, me, pw, pl, qu, ou)) : wpY_execute post (ql, xc, pc, cw, cn, st, pa, sy, rg, ds, me, pw, pl, qu, ou) (nI p) := by
  have ep : (nI p).toNatClampNeg = p := nI_clamp (by omega)
  have ei : (nI i).toNatClampNeg = i := nI_clamp (by omega)
  have ha4 : a < 4 := by omega
  have hb4 : b < 4 := by omega
  have eA : (nI (4 * p + a)).toNatClampNeg = 4 * p + a := nI_clamp (by omega)
  have eB : (4 * nI p + nI b).toNatClampNeg = 4 * p + b := by rw [tk_i4', nI_clamp (by omega)]
  have vA : vp_in (nI (4 * p + a)) 24 := vp_in_nI (by omega) (by decide)
  have vB : vp_in (4 * nI p + nI b) 24 := by rw [tk_i4']; exact vp_in_nI (by omega) (by decide)
  have v6 : vp_in (nI p) 6 := vp_in_nI hp (by decide)
  have v64 : vp_in (nI i) 64 := vp_in_nI hi (by decide)
  refine nm_e ⟨v6, ?_⟩
  rw [ep, hs]
  refine tk_yIn1 63 (by omega) (br_f tk_01 ⟨v6, v64, nm_r (e' := nI w) (by rw [ei]; exact hc) (nm_r (e' := nI 4) (by rw [tk_op hw, ho]) (nm_r (e' := nI a) (by rw [tk_wa hw, ha]) (nm_r (e' := nI b) (by rw [tk_wb' hw, hb]) ⟨v6, v64, nm_r (e' := cn i) (by rw [ei]) (nm_r (e' := nI (4 * p + a)) (tk_i4' _ _) ⟨vA, nm_r (e' := rg (4 * p + a)) (by rw [eA]) ⟨vB, nm_r (e' := rg (4 * p + b)) (by rw [eB]) ?_⟩⟩)⟩)))⟩)
  exact br_f (by decide) (br_t (by decide) (br_f (by decide) (br_f (by decide) ((br_f (by decide) (br_f (by decide) (br_f (by decide) (tk_ySi (by decide) (by decide) ⟨vA, nm_r (e' := upd rg (4 * p + a) (tk_val 4 (rg (4 * p + a)) (rg (4 * p + b)) (cn i))) (by rw [eA]) (tk_y330 hp (by decide) h)⟩))))))))
theorem tk_yex_5 {post : Int32 → SY → Prop} {p i w a b : Nat} (hp : p < 6) (hi : i < 64) (hs : sy p = nI i) (hw : w < 512) (hc : cw i = nI w) (ha : w / 32 % 4 = a) (hb : w / 128 = b) (ho : w % 32 = 5) (h : post 1 (ql, xc + 1, pc, cw, cn, st, pa, upd sy p (sy p + 1), upd rg (4 * p + a) (tk_val 5 (rg (4 * p + a)) (rg (4 * p + b)) (cn i)), ds, me, pw, pl, qu, ou)) : wpY_execute post (ql, xc, pc, cw, cn, st, pa, sy, rg, ds, me, pw, pl, qu, ou) (nI p) := by
  have ep : (nI p).toNatClampNeg = p := nI_clamp (by omega)
  have ei : (nI i).toNatClampNeg = i := nI_clamp (by omega)
  have ha4 : a < 4 := by omega
  have hb4 : b < 4 := by omega
  have eA : (nI (4 * p + a)).toNatClampNeg = 4 * p + a := nI_clamp (by omega)
  have eB : (4 * nI p + nI b).toNatClampNeg = 4 * p + b := by rw [tk_i4', nI_clamp (by omega)]
  have vA : vp_in (nI (4 * p + a)) 24 := vp_in_nI (by omega) (by decide)
  have vB : vp_in (4 * nI p + nI b) 24 := by rw [tk_i4']; exact vp_in_nI (by omega) (by decide)
  have v6 : vp_in (nI p) 6 := vp_in_nI hp (by decide)
  have v64 : vp_in (nI i) 64 := vp_in_nI hi (by decide)
  refine nm_e ⟨v6, ?_⟩
  rw [ep, hs]
  refine tk_yIn1 63 (by omega) (br_f tk_01 ⟨v6, v64, nm_r (e' := nI w) (by rw [ei]; exact hc) (nm_r (e' := nI 5) (by rw [tk_op hw, ho]) (nm_r (e' := nI a) (by rw [tk_wa hw, ha]) (nm_r (e' := nI b) (by rw [tk_wb' hw, hb]) ⟨v6, v64, nm_r (e' := cn i) (by rw [ei]) (nm_r (e' := nI (4 * p + a)) (tk_i4' _ _) ⟨vA, nm_r (e' := rg (4 * p + a)) (by rw [eA]) ⟨vB, nm_r (e' := rg (4 * p + b)) (by rw [eB]) ?_⟩⟩)⟩)))⟩)
  exact br_f (by decide) (br_t (by decide) (br_f (by decide) (br_f (by decide) ((br_f (by decide) (br_f (by decide) (br_f (by decide) (tk_ySi (by decide) (by decide) ⟨vA, nm_r (e' := upd rg (4 * p + a) (tk_val 5 (rg (4 * p + a)) (rg (4 * p + b)) (cn i))) (by rw [eA]) (tk_y330 hp (by decide) h)⟩))))))))
theorem tk_yex_6 {post : Int32 → SY → Prop} {p i w a b : Nat} (hp : p < 6) (hi : i < 64) (hs : sy p = nI i) (hw : w < 512) (hc : cw i = nI w) (ha : w / 32 % 4 = a) (hb : w / 128 = b) (ho : w % 32 = 6) (h : post 1 (ql, xc + 1, pc, cw, cn, st, pa, upd sy p (sy p + 1), upd rg (4 * p + a) (tk_val 6 (rg (4 * p + a)) (rg (4 * p + b)) (cn i)), ds, me, pw, pl, qu, ou)) : wpY_execute post (ql, xc, pc, cw, cn, st, pa, sy, rg, ds, me, pw, pl, qu, ou) (nI p) := by
  have ep : (nI p).toNatClampNeg = p := nI_clamp (by omega)
  have ei : (nI i).toNatClampNeg = i := nI_clamp (by omega)
  have ha4 : a < 4 := by omega
  have hb4 : b < 4 := by omega
  have eA : (nI (4 * p + a)).toNatClampNeg = 4 * p + a := nI_clamp (by omega)
  have eB : (4 * nI p + nI b).toNatClampNeg = 4 * p + b := by rw [tk_i4', nI_clamp (by omega)]
  have vA : vp_in (nI (4 * p + a)) 24 := vp_in_nI (by omega) (by decide)
  have vB : vp_in (4 * nI p + nI b) 24 := by rw [tk_i4']; exact vp_in_nI (by omega) (by decide)
  have v6 : vp_in (nI p) 6 := vp_in_nI hp (by decide)
  have v64 : vp_in (nI i) 64 := vp_in_nI hi (by decide)
  refine nm_e ⟨v6, ?_⟩
  rw [ep, hs]
  refine tk_yIn1 63 (by omega) (br_f tk_01 ⟨v6, v64, nm_r (e' := nI w) (by rw [ei]; exact hc) (nm_r (e' := nI 6) (by rw [tk_op hw, ho]) (nm_r (e' := nI a) (by rw [tk_wa hw, ha]) (nm_r (e' := nI b) (by rw [tk_wb' hw, hb]) ⟨v6, v64, nm_r (e' := cn i) (by rw [ei]) (nm_r (e' := nI (4 * p + a)) (tk_i4' _ _) ⟨vA, nm_r (e' := rg (4 * p + a)) (by rw [eA]) ⟨vB, nm_r (e' := rg (4 * p + b)) (by rw [eB]) ?_⟩⟩)⟩)))⟩)
  exact br_f (by decide) (br_t (by decide) (br_f (by decide) (br_f (by decide) ((br_f (by decide) (br_f (by decide) (br_f (by decide) (tk_ySi (by decide) (by decide) ⟨vA, nm_r (e' := upd rg (4 * p + a) (tk_val 6 (rg (4 * p + a)) (rg (4 * p + b)) (cn i))) (by rw [eA]) (tk_y330 hp (by decide) h)⟩))))))))
theorem tk_yex_7 {post : Int32 → SY → Prop} {p i w a b : Nat} (hp : p < 6) (hi : i < 64) (hs : sy p = nI i) (hw : w < 512) (hc : cw i = nI w) (ha : w / 32 % 4 = a) (hb : w / 128 = b) (ho : w % 32 = 7) (h : post 1 (ql, xc + 1, pc, cw, cn, st, pa, upd sy p (sy p + 1), upd rg (4 * p + a) (tk_val 7 (rg (4 * p + a)) (rg (4 * p + b)) (cn i)), ds, me, pw, pl, qu, ou)) : wpY_execute post (ql, xc, pc, cw, cn, st, pa, sy, rg, ds, me, pw, pl, qu, ou) (nI p) := by
  have ep : (nI p).toNatClampNeg = p := nI_clamp (by omega)
  have ei : (nI i).toNatClampNeg = i := nI_clamp (by omega)
  have ha4 : a < 4 := by omega
  have hb4 : b < 4 := by omega
  have eA : (nI (4 * p + a)).toNatClampNeg = 4 * p + a := nI_clamp (by omega)
  have eB : (4 * nI p + nI b).toNatClampNeg = 4 * p + b := by rw [tk_i4', nI_clamp (by omega)]
  have vA : vp_in (nI (4 * p + a)) 24 := vp_in_nI (by omega) (by decide)
  have vB : vp_in (4 * nI p + nI b) 24 := by rw [tk_i4']; exact vp_in_nI (by omega) (by decide)
  have v6 : vp_in (nI p) 6 := vp_in_nI hp (by decide)
  have v64 : vp_in (nI i) 64 := vp_in_nI hi (by decide)
  refine nm_e ⟨v6, ?_⟩
  rw [ep, hs]
  refine tk_yIn1 63 (by omega) (br_f tk_01 ⟨v6, v64, nm_r (e' := nI w) (by rw [ei]; exact hc) (nm_r (e' := nI 7) (by rw [tk_op hw, ho]) (nm_r (e' := nI a) (by rw [tk_wa hw, ha]) (nm_r (e' := nI b) (by rw [tk_wb' hw, hb]) ⟨v6, v64, nm_r (e' := cn i) (by rw [ei]) (nm_r (e' := nI (4 * p + a)) (tk_i4' _ _) ⟨vA, nm_r (e' := rg (4 * p + a)) (by rw [eA]) ⟨vB, nm_r (e' := rg (4 * p + b)) (by rw [eB]) ?_⟩⟩)⟩)))⟩)
  exact br_f (by decide) (br_t (by decide) (br_f (by decide) (br_f (by decide) ((br_f (by decide) (br_f (by decide) (br_f (by decide) (tk_ySi (by decide) (by decide) ⟨vA, nm_r (e' := upd rg (4 * p + a) (tk_val 7 (rg (4 * p + a)) (rg (4 * p + b)) (cn i))) (by rw [eA]) (tk_y330 hp (by decide) h)⟩))))))))
theorem tk_yex_8 {post : Int32 → SY → Prop} {p i w a b : Nat} (hp : p < 6) (hi : i < 64) (hs : sy p = nI i) (hw : w < 512) (hc : cw i = nI w) (ha : w / 32 % 4 = a) (hb : w / 128 = b) (ho : w % 32 = 8) {j : Nat} (hj : rg (4 * p + b) + cn i = nI j) (hj32 : j < 32) (h : post 1 (ql, xc + 1, pc, cw, cn, st, pa, upd sy p (sy p + 1), upd rg (4 * p + a) (me (32 * p + j)), ds, me, pw, pl, qu, ou)) : wpY_execute post (ql, xc, pc, cw, cn, st, pa, sy, rg, ds, me, pw, pl, qu, ou) (nI p) := by
  have ep : (nI p).toNatClampNeg = p := nI_clamp (by omega)
  have ei : (nI i).toNatClampNeg = i := nI_clamp (by omega)
  have ha4 : a < 4 := by omega
  have hb4 : b < 4 := by omega
  have eA : (nI (4 * p + a)).toNatClampNeg = 4 * p + a := nI_clamp (by omega)
  have eB : (4 * nI p + nI b).toNatClampNeg = 4 * p + b := by rw [tk_i4', nI_clamp (by omega)]
  have vA : vp_in (nI (4 * p + a)) 24 := vp_in_nI (by omega) (by decide)
  have vB : vp_in (4 * nI p + nI b) 24 := by rw [tk_i4']; exact vp_in_nI (by omega) (by decide)
  have v6 : vp_in (nI p) 6 := vp_in_nI hp (by decide)
  have v64 : vp_in (nI i) 64 := vp_in_nI hi (by decide)
  refine nm_e ⟨v6, ?_⟩
  rw [ep, hs]
  refine tk_yIn1 63 (by omega) (br_f tk_01 ⟨v6, v64, nm_r (e' := nI w) (by rw [ei]; exact hc) (nm_r (e' := nI 8) (by rw [tk_op hw, ho]) (nm_r (e' := nI a) (by rw [tk_wa hw, ha]) (nm_r (e' := nI b) (by rw [tk_wb' hw, hb]) ⟨v6, v64, nm_r (e' := cn i) (by rw [ei]) (nm_r (e' := nI (4 * p + a)) (tk_i4' _ _) ⟨vA, nm_r (e' := rg (4 * p + a)) (by rw [eA]) ⟨vB, nm_r (e' := rg (4 * p + b)) (by rw [eB]) ?_⟩⟩)⟩)))⟩)
  have i5 : 32 * nI p + rg (4 * p + b) + cn i = nI (32 * p + j) := by rw [Int32.add_assoc, hj, tk_i5']
  have e5 : (32 * nI p + rg (4 * p + b) + cn i).toNatClampNeg = 32 * p + j := by rw [i5, nI_clamp (by omega)]
  have v5 : vp_in (32 * nI p + rg (4 * p + b) + cn i) 192 := by rw [i5]; exact vp_in_nI (by omega) (by decide)
  refine br_f (by decide) (br_t (by decide) (br_t (by decide) ?_))
  show wpY_in _ _ (rg (4 * p + b) + cn i) 0 31
  rw [hj]
  exact tk_yIn1 31 (by omega) (br_f tk_01 (br_t (by decide) ⟨v5, vA, nm_r (e' := upd rg (4 * p + a) (me (32 * p + j))) (by rw [eA, e5]) (tk_y330 hp (by decide) h)⟩))
theorem tk_yex_9 {post : Int32 → SY → Prop} {p i w a b : Nat} (hp : p < 6) (hi : i < 64) (hs : sy p = nI i) (hw : w < 512) (hc : cw i = nI w) (ha : w / 32 % 4 = a) (hb : w / 128 = b) (ho : w % 32 = 9) {j : Nat} (hj : rg (4 * p + b) + cn i = nI j) (hj32 : j < 32) (h : post 1 (ql, xc + 1, pc, cw, cn, st, pa, upd sy p (sy p + 1), rg, ds, upd me (32 * p + j) (rg (4 * p + a)), pw, pl, qu, ou)) : wpY_execute post (ql, xc, pc, cw, cn, st, pa, sy, rg, ds, me, pw, pl, qu, ou) (nI p) := by
  have ep : (nI p).toNatClampNeg = p := nI_clamp (by omega)
  have ei : (nI i).toNatClampNeg = i := nI_clamp (by omega)
  have ha4 : a < 4 := by omega
  have hb4 : b < 4 := by omega
  have eA : (nI (4 * p + a)).toNatClampNeg = 4 * p + a := nI_clamp (by omega)
  have eB : (4 * nI p + nI b).toNatClampNeg = 4 * p + b := by rw [tk_i4', nI_clamp (by omega)]
  have vA : vp_in (nI (4 * p + a)) 24 := vp_in_nI (by omega) (by decide)
  have vB : vp_in (4 * nI p + nI b) 24 := by rw [tk_i4']; exact vp_in_nI (by omega) (by decide)
  have v6 : vp_in (nI p) 6 := vp_in_nI hp (by decide)
  have v64 : vp_in (nI i) 64 := vp_in_nI hi (by decide)
  refine nm_e ⟨v6, ?_⟩
  rw [ep, hs]
  refine tk_yIn1 63 (by omega) (br_f tk_01 ⟨v6, v64, nm_r (e' := nI w) (by rw [ei]; exact hc) (nm_r (e' := nI 9) (by rw [tk_op hw, ho]) (nm_r (e' := nI a) (by rw [tk_wa hw, ha]) (nm_r (e' := nI b) (by rw [tk_wb' hw, hb]) ⟨v6, v64, nm_r (e' := cn i) (by rw [ei]) (nm_r (e' := nI (4 * p + a)) (tk_i4' _ _) ⟨vA, nm_r (e' := rg (4 * p + a)) (by rw [eA]) ⟨vB, nm_r (e' := rg (4 * p + b)) (by rw [eB]) ?_⟩⟩)⟩)))⟩)
  have i5 : 32 * nI p + rg (4 * p + b) + cn i = nI (32 * p + j) := by rw [Int32.add_assoc, hj, tk_i5']
  have e5 : (32 * nI p + rg (4 * p + b) + cn i).toNatClampNeg = 32 * p + j := by rw [i5, nI_clamp (by omega)]
  have v5 : vp_in (32 * nI p + rg (4 * p + b) + cn i) 192 := by rw [i5]; exact vp_in_nI (by omega) (by decide)
  refine br_f (by decide) (br_t (by decide) (br_f (by decide) (br_t (by decide) ?_)))
  show wpY_in _ _ (rg (4 * p + b) + cn i) 0 31
  rw [hj]
  exact tk_yIn1 31 (by omega) (br_f tk_01 (br_f (by decide) (br_t (by decide) ⟨v5, nm_r (e' := upd me (32 * p + j) (rg (4 * p + a))) (by rw [e5]) (tk_y330 hp (by decide) h)⟩)))
theorem tk_yex_8o {post : Int32 → SY → Prop} {p i w a b : Nat} (hp : p < 6) (hi : i < 64) (hs : sy p = nI i) (hw : w < 512) (hc : cw i = nI w) (ha : w / 32 % 4 = a) (hb : w / 128 = b) (ho : w % 32 = 8) (hj : rg (4 * p + b) + cn i < 0 ∨ (¬ rg (4 * p + b) + cn i < 0 ∧ nI 32 ≤ rg (4 * p + b) + cn i)) (H : ∀ Q : SY → Prop, Q (Vql, Vxc, Vpc, Vcw, Vcn, Vst, Vpa, Vsy, Vrg, Vds, Vme, Vpw, Vpl, Vqu, Vou) → wpY_end Q (ql, xc + 1, pc, cw, cn, st, pa, sy, rg, ds, me, pw, pl, qu, ou) (nI p) (-1)) (h : post 0 (Vql, Vxc, Vpc, Vcw, Vcn, Vst, Vpa, Vsy, Vrg, Vds, Vme, Vpw, Vpl, Vqu, Vou)) : wpY_execute post (ql, xc, pc, cw, cn, st, pa, sy, rg, ds, me, pw, pl, qu, ou) (nI p) := by
  have ep : (nI p).toNatClampNeg = p := nI_clamp (by omega)
  have ei : (nI i).toNatClampNeg = i := nI_clamp (by omega)
  have ha4 : a < 4 := by omega
  have hb4 : b < 4 := by omega
  have eA : (nI (4 * p + a)).toNatClampNeg = 4 * p + a := nI_clamp (by omega)
  have eB : (4 * nI p + nI b).toNatClampNeg = 4 * p + b := by rw [tk_i4', nI_clamp (by omega)]
  have vA : vp_in (nI (4 * p + a)) 24 := vp_in_nI (by omega) (by decide)
  have vB : vp_in (4 * nI p + nI b) 24 := by rw [tk_i4']; exact vp_in_nI (by omega) (by decide)
  have v6 : vp_in (nI p) 6 := vp_in_nI hp (by decide)
  have v64 : vp_in (nI i) 64 := vp_in_nI hi (by decide)
  refine nm_e ⟨v6, ?_⟩
  rw [ep, hs]
  refine tk_yIn1 63 (by omega) (br_f tk_01 ⟨v6, v64, nm_r (e' := nI w) (by rw [ei]; exact hc) (nm_r (e' := nI 8) (by rw [tk_op hw, ho]) (nm_r (e' := nI a) (by rw [tk_wa hw, ha]) (nm_r (e' := nI b) (by rw [tk_wb' hw, hb]) ⟨v6, v64, nm_r (e' := cn i) (by rw [ei]) (nm_r (e' := nI (4 * p + a)) (tk_i4' _ _) ⟨vA, nm_r (e' := rg (4 * p + a)) (by rw [eA]) ⟨vB, nm_r (e' := rg (4 * p + b)) (by rw [eB]) ?_⟩⟩)⟩)))⟩)
  refine br_f (by decide) (br_t (by decide) (br_t (by decide) ?_))
  show wpY_in _ _ (rg (4 * p + b) + cn i) 0 31
  exact tk_yIn0 31 hj (br_t rfl (H _ h))
theorem tk_yex_9o {post : Int32 → SY → Prop} {p i w a b : Nat} (hp : p < 6) (hi : i < 64) (hs : sy p = nI i) (hw : w < 512) (hc : cw i = nI w) (ha : w / 32 % 4 = a) (hb : w / 128 = b) (ho : w % 32 = 9) (hj : rg (4 * p + b) + cn i < 0 ∨ (¬ rg (4 * p + b) + cn i < 0 ∧ nI 32 ≤ rg (4 * p + b) + cn i)) (H : ∀ Q : SY → Prop, Q (Vql, Vxc, Vpc, Vcw, Vcn, Vst, Vpa, Vsy, Vrg, Vds, Vme, Vpw, Vpl, Vqu, Vou) → wpY_end Q (ql, xc + 1, pc, cw, cn, st, pa, sy, rg, ds, me, pw, pl, qu, ou) (nI p) (-1)) (h : post 0 (Vql, Vxc, Vpc, Vcw, Vcn, Vst, Vpa, Vsy, Vrg, Vds, Vme, Vpw, Vpl, Vqu, Vou)) : wpY_execute post (ql, xc, pc, cw, cn, st, pa, sy, rg, ds, me, pw, pl, qu, ou) (nI p) := by
  have ep : (nI p).toNatClampNeg = p := nI_clamp (by omega)
  have ei : (nI i).toNatClampNeg = i := nI_clamp (by omega)
  have ha4 : a < 4 := by omega
  have hb4 : b < 4 := by omega
  have eA : (nI (4 * p + a)).toNatClampNeg = 4 * p + a := nI_clamp (by omega)
  have eB : (4 * nI p + nI b).toNatClampNeg = 4 * p + b := by rw [tk_i4', nI_clamp (by omega)]
  have vA : vp_in (nI (4 * p + a)) 24 := vp_in_nI (by omega) (by decide)
  have vB : vp_in (4 * nI p + nI b) 24 := by rw [tk_i4']; exact vp_in_nI (by omega) (by decide)
  have v6 : vp_in (nI p) 6 := vp_in_nI hp (by decide)
  have v64 : vp_in (nI i) 64 := vp_in_nI hi (by decide)
  refine nm_e ⟨v6, ?_⟩
  rw [ep, hs]
  refine tk_yIn1 63 (by omega) (br_f tk_01 ⟨v6, v64, nm_r (e' := nI w) (by rw [ei]; exact hc) (nm_r (e' := nI 9) (by rw [tk_op hw, ho]) (nm_r (e' := nI a) (by rw [tk_wa hw, ha]) (nm_r (e' := nI b) (by rw [tk_wb' hw, hb]) ⟨v6, v64, nm_r (e' := cn i) (by rw [ei]) (nm_r (e' := nI (4 * p + a)) (tk_i4' _ _) ⟨vA, nm_r (e' := rg (4 * p + a)) (by rw [eA]) ⟨vB, nm_r (e' := rg (4 * p + b)) (by rw [eB]) ?_⟩⟩)⟩)))⟩)
  refine br_f (by decide) (br_t (by decide) (br_f (by decide) (br_t (by decide) ?_)))
  show wpY_in _ _ (rg (4 * p + b) + cn i) 0 31
  exact tk_yIn0 31 hj (br_t rfl (H _ h))
theorem tk_yex_11 {post : Int32 → SY → Prop} {p i w a b : Nat} (hp : p < 6) (hi : i < 64) (hs : sy p = nI i) (hw : w < 512) (hc : cw i = nI w) (ha : w / 32 % 4 = a) (hb : w / 128 = b) (ho : w % 32 = 11) (h : post 1 (ql, xc + 1, pc, cw, cn, st, pa, upd sy p (cn i), rg, ds, me, pw, pl, qu, ou)) : wpY_execute post (ql, xc, pc, cw, cn, st, pa, sy, rg, ds, me, pw, pl, qu, ou) (nI p) := by
  have ep : (nI p).toNatClampNeg = p := nI_clamp (by omega)
  have ei : (nI i).toNatClampNeg = i := nI_clamp (by omega)
  have ha4 : a < 4 := by omega
  have hb4 : b < 4 := by omega
  have eA : (nI (4 * p + a)).toNatClampNeg = 4 * p + a := nI_clamp (by omega)
  have eB : (4 * nI p + nI b).toNatClampNeg = 4 * p + b := by rw [tk_i4', nI_clamp (by omega)]
  have vA : vp_in (nI (4 * p + a)) 24 := vp_in_nI (by omega) (by decide)
  have vB : vp_in (4 * nI p + nI b) 24 := by rw [tk_i4']; exact vp_in_nI (by omega) (by decide)
  have v6 : vp_in (nI p) 6 := vp_in_nI hp (by decide)
  have v64 : vp_in (nI i) 64 := vp_in_nI hi (by decide)
  refine nm_e ⟨v6, ?_⟩
  rw [ep, hs]
  refine tk_yIn1 63 (by omega) (br_f tk_01 ⟨v6, v64, nm_r (e' := nI w) (by rw [ei]; exact hc) (nm_r (e' := nI 11) (by rw [tk_op hw, ho]) (nm_r (e' := nI a) (by rw [tk_wa hw, ha]) (nm_r (e' := nI b) (by rw [tk_wb' hw, hb]) ⟨v6, v64, nm_r (e' := cn i) (by rw [ei]) (nm_r (e' := nI (4 * p + a)) (tk_i4' _ _) ⟨vA, nm_r (e' := rg (4 * p + a)) (by rw [eA]) ⟨vB, nm_r (e' := rg (4 * p + b)) (by rw [eB]) ?_⟩⟩)⟩)))⟩)
  exact br_f (by decide) (br_f (by decide) (br_f (by decide) (br_t (by decide) (br_f tk_01 ⟨v6, nm_r (e' := upd sy p (cn i)) (by rw [ep]) h⟩))))
theorem tk_yex_10t {post : Int32 → SY → Prop} {p i w a b : Nat} (hp : p < 6) (hi : i < 64) (hs : sy p = nI i) (hw : w < 512) (hc : cw i = nI w) (ha : w / 32 % 4 = a) (hb : w / 128 = b) (ho : w % 32 = 10) (z : rg (4 * p + a) = 0) (h : post 1 (ql, xc + 1, pc, cw, cn, st, pa, upd sy p (cn i), rg, ds, me, pw, pl, qu, ou)) : wpY_execute post (ql, xc, pc, cw, cn, st, pa, sy, rg, ds, me, pw, pl, qu, ou) (nI p) := by
  have ep : (nI p).toNatClampNeg = p := nI_clamp (by omega)
  have ei : (nI i).toNatClampNeg = i := nI_clamp (by omega)
  have ha4 : a < 4 := by omega
  have hb4 : b < 4 := by omega
  have eA : (nI (4 * p + a)).toNatClampNeg = 4 * p + a := nI_clamp (by omega)
  have eB : (4 * nI p + nI b).toNatClampNeg = 4 * p + b := by rw [tk_i4', nI_clamp (by omega)]
  have vA : vp_in (nI (4 * p + a)) 24 := vp_in_nI (by omega) (by decide)
  have vB : vp_in (4 * nI p + nI b) 24 := by rw [tk_i4']; exact vp_in_nI (by omega) (by decide)
  have v6 : vp_in (nI p) 6 := vp_in_nI hp (by decide)
  have v64 : vp_in (nI i) 64 := vp_in_nI hi (by decide)
  refine nm_e ⟨v6, ?_⟩
  rw [ep, hs]
  refine tk_yIn1 63 (by omega) (br_f tk_01 ⟨v6, v64, nm_r (e' := nI w) (by rw [ei]; exact hc) (nm_r (e' := nI 10) (by rw [tk_op hw, ho]) (nm_r (e' := nI a) (by rw [tk_wa hw, ha]) (nm_r (e' := nI b) (by rw [tk_wb' hw, hb]) ⟨v6, v64, nm_r (e' := cn i) (by rw [ei]) (nm_r (e' := nI (4 * p + a)) (tk_i4' _ _) ⟨vA, nm_r (e' := rg (4 * p + a)) (by rw [eA]) ⟨vB, nm_r (e' := rg (4 * p + b)) (by rw [eB]) ?_⟩⟩)⟩)))⟩)
  exact br_f (by decide) (br_f (by decide) (br_f (by decide) (br_f (by decide) (br_t z (br_t (by decide) (br_t rfl (br_f tk_01 ⟨v6, nm_r (e' := upd sy p (cn i)) (by rw [ep]) h⟩)))))))
theorem tk_yex_10f {post : Int32 → SY → Prop} {p i w a b : Nat} (hp : p < 6) (hi : i < 64) (hs : sy p = nI i) (hw : w < 512) (hc : cw i = nI w) (ha : w / 32 % 4 = a) (hb : w / 128 = b) (ho : w % 32 = 10) (z : ¬ rg (4 * p + a) = 0) (h : post 1 (ql, xc + 1, pc, cw, cn, st, pa, upd sy p (sy p + 1), rg, ds, me, pw, pl, qu, ou)) : wpY_execute post (ql, xc, pc, cw, cn, st, pa, sy, rg, ds, me, pw, pl, qu, ou) (nI p) := by
  have ep : (nI p).toNatClampNeg = p := nI_clamp (by omega)
  have ei : (nI i).toNatClampNeg = i := nI_clamp (by omega)
  have ha4 : a < 4 := by omega
  have hb4 : b < 4 := by omega
  have eA : (nI (4 * p + a)).toNatClampNeg = 4 * p + a := nI_clamp (by omega)
  have eB : (4 * nI p + nI b).toNatClampNeg = 4 * p + b := by rw [tk_i4', nI_clamp (by omega)]
  have vA : vp_in (nI (4 * p + a)) 24 := vp_in_nI (by omega) (by decide)
  have vB : vp_in (4 * nI p + nI b) 24 := by rw [tk_i4']; exact vp_in_nI (by omega) (by decide)
  have v6 : vp_in (nI p) 6 := vp_in_nI hp (by decide)
  have v64 : vp_in (nI i) 64 := vp_in_nI hi (by decide)
  refine nm_e ⟨v6, ?_⟩
  rw [ep, hs]
  refine tk_yIn1 63 (by omega) (br_f tk_01 ⟨v6, v64, nm_r (e' := nI w) (by rw [ei]; exact hc) (nm_r (e' := nI 10) (by rw [tk_op hw, ho]) (nm_r (e' := nI a) (by rw [tk_wa hw, ha]) (nm_r (e' := nI b) (by rw [tk_wb' hw, hb]) ⟨v6, v64, nm_r (e' := cn i) (by rw [ei]) (nm_r (e' := nI (4 * p + a)) (tk_i4' _ _) ⟨vA, nm_r (e' := rg (4 * p + a)) (by rw [eA]) ⟨vB, nm_r (e' := rg (4 * p + b)) (by rw [eB]) ?_⟩⟩)⟩)))⟩)
  exact br_f (by decide) (br_f (by decide) (br_f (by decide) (br_f (by decide) (br_f z (br_t (by decide) (br_f (by decide) (br_t rfl ⟨v6, v6, nm_r (e' := upd sy p (sy p + 1)) (by rw [ep]) h⟩)))))))
theorem tk_yex_12f {post : Int32 → SY → Prop} {p i w a b : Nat} (hp : p < 6) (hi : i < 64) (hs : sy p = nI i) (hw : w < 512) (hc : cw i = nI w) (ha : w / 32 % 4 = a) (hb : w / 128 = b) (ho : w % 32 = 12) (z : rg (4 * p + a) = 0) (h : post 1 (ql, xc + 1, pc, cw, cn, st, pa, upd sy p (sy p + 1), rg, ds, me, pw, pl, qu, ou)) : wpY_execute post (ql, xc, pc, cw, cn, st, pa, sy, rg, ds, me, pw, pl, qu, ou) (nI p) := by
  have ep : (nI p).toNatClampNeg = p := nI_clamp (by omega)
  have ei : (nI i).toNatClampNeg = i := nI_clamp (by omega)
  have ha4 : a < 4 := by omega
  have hb4 : b < 4 := by omega
  have eA : (nI (4 * p + a)).toNatClampNeg = 4 * p + a := nI_clamp (by omega)
  have eB : (4 * nI p + nI b).toNatClampNeg = 4 * p + b := by rw [tk_i4', nI_clamp (by omega)]
  have vA : vp_in (nI (4 * p + a)) 24 := vp_in_nI (by omega) (by decide)
  have vB : vp_in (4 * nI p + nI b) 24 := by rw [tk_i4']; exact vp_in_nI (by omega) (by decide)
  have v6 : vp_in (nI p) 6 := vp_in_nI hp (by decide)
  have v64 : vp_in (nI i) 64 := vp_in_nI hi (by decide)
  refine nm_e ⟨v6, ?_⟩
  rw [ep, hs]
  refine tk_yIn1 63 (by omega) (br_f tk_01 ⟨v6, v64, nm_r (e' := nI w) (by rw [ei]; exact hc) (nm_r (e' := nI 12) (by rw [tk_op hw, ho]) (nm_r (e' := nI a) (by rw [tk_wa hw, ha]) (nm_r (e' := nI b) (by rw [tk_wb' hw, hb]) ⟨v6, v64, nm_r (e' := cn i) (by rw [ei]) (nm_r (e' := nI (4 * p + a)) (tk_i4' _ _) ⟨vA, nm_r (e' := rg (4 * p + a)) (by rw [eA]) ⟨vB, nm_r (e' := rg (4 * p + b)) (by rw [eB]) ?_⟩⟩)⟩)))⟩)
  exact br_f (by decide) (br_f (by decide) (br_f (by decide) (br_f (by decide) (br_t z (br_f (by decide) (br_f (by decide) (br_t rfl ⟨v6, v6, nm_r (e' := upd sy p (sy p + 1)) (by rw [ep]) h⟩)))))))
theorem tk_yex_12t {post : Int32 → SY → Prop} {p i w a b : Nat} (hp : p < 6) (hi : i < 64) (hs : sy p = nI i) (hw : w < 512) (hc : cw i = nI w) (ha : w / 32 % 4 = a) (hb : w / 128 = b) (ho : w % 32 = 12) (z : ¬ rg (4 * p + a) = 0) (h : post 1 (ql, xc + 1, pc, cw, cn, st, pa, upd sy p (cn i), rg, ds, me, pw, pl, qu, ou)) : wpY_execute post (ql, xc, pc, cw, cn, st, pa, sy, rg, ds, me, pw, pl, qu, ou) (nI p) := by
  have ep : (nI p).toNatClampNeg = p := nI_clamp (by omega)
  have ei : (nI i).toNatClampNeg = i := nI_clamp (by omega)
  have ha4 : a < 4 := by omega
  have hb4 : b < 4 := by omega
  have eA : (nI (4 * p + a)).toNatClampNeg = 4 * p + a := nI_clamp (by omega)
  have eB : (4 * nI p + nI b).toNatClampNeg = 4 * p + b := by rw [tk_i4', nI_clamp (by omega)]
  have vA : vp_in (nI (4 * p + a)) 24 := vp_in_nI (by omega) (by decide)
  have vB : vp_in (4 * nI p + nI b) 24 := by rw [tk_i4']; exact vp_in_nI (by omega) (by decide)
  have v6 : vp_in (nI p) 6 := vp_in_nI hp (by decide)
  have v64 : vp_in (nI i) 64 := vp_in_nI hi (by decide)
  refine nm_e ⟨v6, ?_⟩
  rw [ep, hs]
  refine tk_yIn1 63 (by omega) (br_f tk_01 ⟨v6, v64, nm_r (e' := nI w) (by rw [ei]; exact hc) (nm_r (e' := nI 12) (by rw [tk_op hw, ho]) (nm_r (e' := nI a) (by rw [tk_wa hw, ha]) (nm_r (e' := nI b) (by rw [tk_wb' hw, hb]) ⟨v6, v64, nm_r (e' := cn i) (by rw [ei]) (nm_r (e' := nI (4 * p + a)) (tk_i4' _ _) ⟨vA, nm_r (e' := rg (4 * p + a)) (by rw [eA]) ⟨vB, nm_r (e' := rg (4 * p + b)) (by rw [eB]) ?_⟩⟩)⟩)))⟩)
  exact br_f (by decide) (br_f (by decide) (br_f (by decide) (br_f (by decide) (br_f z (br_f (by decide) (br_t rfl (br_f tk_01 ⟨v6, nm_r (e' := upd sy p (cn i)) (by rw [ep]) h⟩)))))))
theorem tk_yex_14 {post : Int32 → SY → Prop} {p i w a b : Nat} (hp : p < 6) (hi : i < 64) (hs : sy p = nI i) (hw : w < 512) (hc : cw i = nI w) (ha : w / 32 % 4 = a) (hb : w / 128 = b) (ho : w % 32 = 14) {e : Nat} (hE : ∀ Q : Int32 → Prop, Q (nI e) → wpY_endOf Q (ql, xc + 1, pc, cw, cn, st, pa, sy, rg, ds, me, pw, pl, qu, ou) (nI p) (nI b)) (H : ∀ Q : SY → Prop, Q (Vql, Vxc, Vpc, Vcw, Vcn, Vst, Vpa, Vsy, Vrg, Vds, Vme, Vpw, Vpl, Vqu, Vou) → wpY_await Q (ql, xc + 1, pc, cw, cn, st, pa, sy, rg, ds, me, pw, pl, qu, ou) (nI p) (nI a) (nI b)) (h : post 1 (Vql, Vxc, Vpc, Vcw, Vcn, Vst, Vpa, upd Vsy p (Vsy p + 1), Vrg, Vds, Vme, Vpw, Vpl, Vqu, Vou)) : wpY_execute post (ql, xc, pc, cw, cn, st, pa, sy, rg, ds, me, pw, pl, qu, ou) (nI p) := by
  have ep : (nI p).toNatClampNeg = p := nI_clamp (by omega)
  have ei : (nI i).toNatClampNeg = i := nI_clamp (by omega)
  have ha4 : a < 4 := by omega
  have hb4 : b < 4 := by omega
  have eA : (nI (4 * p + a)).toNatClampNeg = 4 * p + a := nI_clamp (by omega)
  have eB : (4 * nI p + nI b).toNatClampNeg = 4 * p + b := by rw [tk_i4', nI_clamp (by omega)]
  have vA : vp_in (nI (4 * p + a)) 24 := vp_in_nI (by omega) (by decide)
  have vB : vp_in (4 * nI p + nI b) 24 := by rw [tk_i4']; exact vp_in_nI (by omega) (by decide)
  have v6 : vp_in (nI p) 6 := vp_in_nI hp (by decide)
  have v64 : vp_in (nI i) 64 := vp_in_nI hi (by decide)
  refine nm_e ⟨v6, ?_⟩
  rw [ep, hs]
  refine tk_yIn1 63 (by omega) (br_f tk_01 ⟨v6, v64, nm_r (e' := nI w) (by rw [ei]; exact hc) (nm_r (e' := nI 14) (by rw [tk_op hw, ho]) (nm_r (e' := nI a) (by rw [tk_wa hw, ha]) (nm_r (e' := nI b) (by rw [tk_wb' hw, hb]) ⟨v6, v64, nm_r (e' := cn i) (by rw [ei]) (nm_r (e' := nI (4 * p + a)) (tk_i4' _ _) ⟨vA, nm_r (e' := rg (4 * p + a)) (by rw [eA]) ⟨vB, nm_r (e' := rg (4 * p + b)) (by rw [eB]) ?_⟩⟩)⟩)))⟩)
  have CALL : wpY_call (fun r_57 u => match u with | (q1, q2, q3, q4, q5, q6, q7, q8, q9, q10, q11, q12, q13, q14, q15) => (((r_57 = 0 → (post 0 (q1, q2, q3, q4, q5, q6, q7, q8, q9, q10, q11, q12, q13, q14, q15))) ∧ (¬ r_57 = 0 → (wY_execute_330 post (nI p) (nI 14) q1 q2 q3 q4 q5 q6 q7 q8 q9 q10 q11 q12 q13 q14 q15))))) (ql, xc + 1, pc, cw, cn, st, pa, sy, rg, ds, me, pw, pl, qu, ou) (nI p) (nI 14) (nI a) (nI b) := by
    refine nm_r (tk_i4' _ _) ⟨vB, nm_r (e' := rg (4 * p + b)) (by rw [eB]) (hE _ ?_)⟩
    exact br_t (by decide) (H _ (br_f tk_01 (tk_y330 hp (by decide) h)))
  exact br_f (by decide) (br_f (by decide) (br_t (by decide) (br_f (by decide) (br_f (by decide) ((br_f (by decide) (br_f (by decide) (br_t (by decide) (CALL)))))))))
theorem tk_yex_15 {post : Int32 → SY → Prop} {p i w a b : Nat} (hp : p < 6) (hi : i < 64) (hs : sy p = nI i) (hw : w < 512) (hc : cw i = nI w) (ha : w / 32 % 4 = a) (hb : w / 128 = b) (ho : w % 32 = 15) {e : Nat} (hE : ∀ Q : Int32 → Prop, Q (nI e) → wpY_endOf Q (ql, xc + 1, pc, cw, cn, st, pa, sy, rg, ds, me, pw, pl, qu, ou) (nI p) (nI b)) (H : ∀ Q : SY → Prop, Q (Vql, Vxc, Vpc, Vcw, Vcn, Vst, Vpa, Vsy, Vrg, Vds, Vme, Vpw, Vpl, Vqu, Vou) → wpY_makePipe Q (ql, xc + 1, pc, cw, cn, st, pa, sy, rg, ds, me, pw, pl, qu, ou) (nI p) (nI a) (nI b)) (h : post 1 (Vql, Vxc, Vpc, Vcw, Vcn, Vst, Vpa, upd Vsy p (Vsy p + 1), Vrg, Vds, Vme, Vpw, Vpl, Vqu, Vou)) : wpY_execute post (ql, xc, pc, cw, cn, st, pa, sy, rg, ds, me, pw, pl, qu, ou) (nI p) := by
  have ep : (nI p).toNatClampNeg = p := nI_clamp (by omega)
  have ei : (nI i).toNatClampNeg = i := nI_clamp (by omega)
  have ha4 : a < 4 := by omega
  have hb4 : b < 4 := by omega
  have eA : (nI (4 * p + a)).toNatClampNeg = 4 * p + a := nI_clamp (by omega)
  have eB : (4 * nI p + nI b).toNatClampNeg = 4 * p + b := by rw [tk_i4', nI_clamp (by omega)]
  have vA : vp_in (nI (4 * p + a)) 24 := vp_in_nI (by omega) (by decide)
  have vB : vp_in (4 * nI p + nI b) 24 := by rw [tk_i4']; exact vp_in_nI (by omega) (by decide)
  have v6 : vp_in (nI p) 6 := vp_in_nI hp (by decide)
  have v64 : vp_in (nI i) 64 := vp_in_nI hi (by decide)
  refine nm_e ⟨v6, ?_⟩
  rw [ep, hs]
  refine tk_yIn1 63 (by omega) (br_f tk_01 ⟨v6, v64, nm_r (e' := nI w) (by rw [ei]; exact hc) (nm_r (e' := nI 15) (by rw [tk_op hw, ho]) (nm_r (e' := nI a) (by rw [tk_wa hw, ha]) (nm_r (e' := nI b) (by rw [tk_wb' hw, hb]) ⟨v6, v64, nm_r (e' := cn i) (by rw [ei]) (nm_r (e' := nI (4 * p + a)) (tk_i4' _ _) ⟨vA, nm_r (e' := rg (4 * p + a)) (by rw [eA]) ⟨vB, nm_r (e' := rg (4 * p + b)) (by rw [eB]) ?_⟩⟩)⟩)))⟩)
  have CALL : wpY_call (fun r_57 u => match u with | (q1, q2, q3, q4, q5, q6, q7, q8, q9, q10, q11, q12, q13, q14, q15) => (((r_57 = 0 → (post 0 (q1, q2, q3, q4, q5, q6, q7, q8, q9, q10, q11, q12, q13, q14, q15))) ∧ (¬ r_57 = 0 → (wY_execute_330 post (nI p) (nI 15) q1 q2 q3 q4 q5 q6 q7 q8 q9 q10 q11 q12 q13 q14 q15))))) (ql, xc + 1, pc, cw, cn, st, pa, sy, rg, ds, me, pw, pl, qu, ou) (nI p) (nI 15) (nI a) (nI b) := by
    refine nm_r (tk_i4' _ _) ⟨vB, nm_r (e' := rg (4 * p + b)) (by rw [eB]) (hE _ ?_)⟩
    exact br_f (by decide) (br_t (by decide) (H _ (br_f tk_01 (tk_y330 hp (by decide) h))))
  exact br_f (by decide) (br_f (by decide) (br_t (by decide) (br_f (by decide) (br_f (by decide) ((br_f (by decide) (br_f (by decide) (br_t (by decide) (CALL)))))))))
theorem tk_yex_17 {post : Int32 → SY → Prop} {p i w a b : Nat} (hp : p < 6) (hi : i < 64) (hs : sy p = nI i) (hw : w < 512) (hc : cw i = nI w) (ha : w / 32 % 4 = a) (hb : w / 128 = b) (ho : w % 32 = 17) {e : Nat} (hE : ∀ Q : Int32 → Prop, Q (nI e) → wpY_endOf Q (ql, xc + 1, pc, cw, cn, st, pa, sy, rg, ds, me, pw, pl, qu, ou) (nI p) (nI b)) (H : ∀ Q : Int32 → SY → Prop, Q 1 (Vql, Vxc, Vpc, Vcw, Vcn, Vst, Vpa, Vsy, Vrg, Vds, Vme, Vpw, Vpl, Vqu, Vou) → wpY_write Q (ql, xc + 1, pc, cw, cn, st, pa, sy, rg, ds, me, pw, pl, qu, ou) (nI p) (nI a) (nI e)) (h : post 1 (Vql, Vxc, Vpc, Vcw, Vcn, Vst, Vpa, upd Vsy p (Vsy p + 1), Vrg, Vds, Vme, Vpw, Vpl, Vqu, Vou)) : wpY_execute post (ql, xc, pc, cw, cn, st, pa, sy, rg, ds, me, pw, pl, qu, ou) (nI p) := by
  have ep : (nI p).toNatClampNeg = p := nI_clamp (by omega)
  have ei : (nI i).toNatClampNeg = i := nI_clamp (by omega)
  have ha4 : a < 4 := by omega
  have hb4 : b < 4 := by omega
  have eA : (nI (4 * p + a)).toNatClampNeg = 4 * p + a := nI_clamp (by omega)
  have eB : (4 * nI p + nI b).toNatClampNeg = 4 * p + b := by rw [tk_i4', nI_clamp (by omega)]
  have vA : vp_in (nI (4 * p + a)) 24 := vp_in_nI (by omega) (by decide)
  have vB : vp_in (4 * nI p + nI b) 24 := by rw [tk_i4']; exact vp_in_nI (by omega) (by decide)
  have v6 : vp_in (nI p) 6 := vp_in_nI hp (by decide)
  have v64 : vp_in (nI i) 64 := vp_in_nI hi (by decide)
  refine nm_e ⟨v6, ?_⟩
  rw [ep, hs]
  refine tk_yIn1 63 (by omega) (br_f tk_01 ⟨v6, v64, nm_r (e' := nI w) (by rw [ei]; exact hc) (nm_r (e' := nI 17) (by rw [tk_op hw, ho]) (nm_r (e' := nI a) (by rw [tk_wa hw, ha]) (nm_r (e' := nI b) (by rw [tk_wb' hw, hb]) ⟨v6, v64, nm_r (e' := cn i) (by rw [ei]) (nm_r (e' := nI (4 * p + a)) (tk_i4' _ _) ⟨vA, nm_r (e' := rg (4 * p + a)) (by rw [eA]) ⟨vB, nm_r (e' := rg (4 * p + b)) (by rw [eB]) ?_⟩⟩)⟩)))⟩)
  have CALL : wpY_call (fun r_57 u => match u with | (q1, q2, q3, q4, q5, q6, q7, q8, q9, q10, q11, q12, q13, q14, q15) => (((r_57 = 0 → (post 0 (q1, q2, q3, q4, q5, q6, q7, q8, q9, q10, q11, q12, q13, q14, q15))) ∧ (¬ r_57 = 0 → (wY_execute_330 post (nI p) (nI 17) q1 q2 q3 q4 q5 q6 q7 q8 q9 q10 q11 q12 q13 q14 q15))))) (ql, xc + 1, pc, cw, cn, st, pa, sy, rg, ds, me, pw, pl, qu, ou) (nI p) (nI 17) (nI a) (nI b) := by
    refine nm_r (tk_i4' _ _) ⟨vB, nm_r (e' := rg (4 * p + b)) (by rw [eB]) (hE _ ?_)⟩
    exact br_f (by decide) (br_f (by decide) (br_t (by decide) (H _ ⟨rfl, (br_f tk_01 (tk_y330 hp (by decide) h))⟩)))
  exact br_f (by decide) (br_f (by decide) (br_t (by decide) (br_f (by decide) (br_f (by decide) ((br_f (by decide) (br_f (by decide) (br_t (by decide) (CALL)))))))))
theorem tk_yex_17o {post : Int32 → SY → Prop} {p i w a b : Nat} (hp : p < 6) (hi : i < 64) (hs : sy p = nI i) (hw : w < 512) (hc : cw i = nI w) (ha : w / 32 % 4 = a) (hb : w / 128 = b) (ho : w % 32 = 17) {e : Nat} (hE : ∀ Q : Int32 → Prop, Q (nI e) → wpY_endOf Q (ql, xc + 1, pc, cw, cn, st, pa, sy, rg, ds, me, pw, pl, qu, ou) (nI p) (nI b)) (H : ∀ Q : Int32 → SY → Prop, Q 0 (Vql, Vxc, Vpc, Vcw, Vcn, Vst, Vpa, Vsy, Vrg, Vds, Vme, Vpw, Vpl, Vqu, Vou) → wpY_write Q (ql, xc + 1, pc, cw, cn, st, pa, sy, rg, ds, me, pw, pl, qu, ou) (nI p) (nI a) (nI e)) (h : post 0 (Vql, Vxc, Vpc, Vcw, Vcn, Vst, Vpa, Vsy, Vrg, Vds, Vme, Vpw, Vpl, Vqu, Vou)) : wpY_execute post (ql, xc, pc, cw, cn, st, pa, sy, rg, ds, me, pw, pl, qu, ou) (nI p) := by
  have ep : (nI p).toNatClampNeg = p := nI_clamp (by omega)
  have ei : (nI i).toNatClampNeg = i := nI_clamp (by omega)
  have ha4 : a < 4 := by omega
  have hb4 : b < 4 := by omega
  have eA : (nI (4 * p + a)).toNatClampNeg = 4 * p + a := nI_clamp (by omega)
  have eB : (4 * nI p + nI b).toNatClampNeg = 4 * p + b := by rw [tk_i4', nI_clamp (by omega)]
  have vA : vp_in (nI (4 * p + a)) 24 := vp_in_nI (by omega) (by decide)
  have vB : vp_in (4 * nI p + nI b) 24 := by rw [tk_i4']; exact vp_in_nI (by omega) (by decide)
  have v6 : vp_in (nI p) 6 := vp_in_nI hp (by decide)
  have v64 : vp_in (nI i) 64 := vp_in_nI hi (by decide)
  refine nm_e ⟨v6, ?_⟩
  rw [ep, hs]
  refine tk_yIn1 63 (by omega) (br_f tk_01 ⟨v6, v64, nm_r (e' := nI w) (by rw [ei]; exact hc) (nm_r (e' := nI 17) (by rw [tk_op hw, ho]) (nm_r (e' := nI a) (by rw [tk_wa hw, ha]) (nm_r (e' := nI b) (by rw [tk_wb' hw, hb]) ⟨v6, v64, nm_r (e' := cn i) (by rw [ei]) (nm_r (e' := nI (4 * p + a)) (tk_i4' _ _) ⟨vA, nm_r (e' := rg (4 * p + a)) (by rw [eA]) ⟨vB, nm_r (e' := rg (4 * p + b)) (by rw [eB]) ?_⟩⟩)⟩)))⟩)
  have CALL : wpY_call (fun r_57 u => match u with | (q1, q2, q3, q4, q5, q6, q7, q8, q9, q10, q11, q12, q13, q14, q15) => (((r_57 = 0 → (post 0 (q1, q2, q3, q4, q5, q6, q7, q8, q9, q10, q11, q12, q13, q14, q15))) ∧ (¬ r_57 = 0 → (wY_execute_330 post (nI p) (nI 17) q1 q2 q3 q4 q5 q6 q7 q8 q9 q10 q11 q12 q13 q14 q15))))) (ql, xc + 1, pc, cw, cn, st, pa, sy, rg, ds, me, pw, pl, qu, ou) (nI p) (nI 17) (nI a) (nI b) := by
    refine nm_r (tk_i4' _ _) ⟨vB, nm_r (e' := rg (4 * p + b)) (by rw [eB]) (hE _ ?_)⟩
    exact br_f (by decide) (br_f (by decide) (br_t (by decide) (H _ ⟨rfl, br_t rfl h⟩)))
  exact br_f (by decide) (br_f (by decide) (br_t (by decide) (br_f (by decide) (br_f (by decide) ((br_f (by decide) (br_f (by decide) (br_t (by decide) (CALL)))))))))
theorem tk_yex_16 {post : Int32 → SY → Prop} {p i w a b : Nat} (hp : p < 6) (hi : i < 64) (hs : sy p = nI i) (hw : w < 512) (hc : cw i = nI w) (ha : w / 32 % 4 = a) (hb : w / 128 = b) (ho : w % 32 = 16) {e : Nat} (hE : ∀ Q : Int32 → Prop, Q (nI e) → wpY_endOf Q (ql, xc + 1, pc, cw, cn, st, pa, sy, rg, ds, me, pw, pl, qu, ou) (nI p) (nI b)) {r : Int32} (H : ∀ Q : Int32 → SY → Prop, Q r (Vql, Vxc, Vpc, Vcw, Vcn, Vst, Vpa, Vsy, Vrg, Vds, Vme, Vpw, Vpl, Vqu, Vou) → wpY_read Q (ql, xc + 1, pc, cw, cn, st, pa, sy, rg, ds, me, pw, pl, qu, ou) (nI e)) (h : post 1 (Vql, Vxc, Vpc, Vcw, Vcn, Vst, Vpa, upd Vsy p (Vsy p + 1), upd Vrg (4 * p + a) r, Vds, Vme, Vpw, Vpl, Vqu, Vou)) : wpY_execute post (ql, xc, pc, cw, cn, st, pa, sy, rg, ds, me, pw, pl, qu, ou) (nI p) := by
  have ep : (nI p).toNatClampNeg = p := nI_clamp (by omega)
  have ei : (nI i).toNatClampNeg = i := nI_clamp (by omega)
  have ha4 : a < 4 := by omega
  have hb4 : b < 4 := by omega
  have eA : (nI (4 * p + a)).toNatClampNeg = 4 * p + a := nI_clamp (by omega)
  have eB : (4 * nI p + nI b).toNatClampNeg = 4 * p + b := by rw [tk_i4', nI_clamp (by omega)]
  have vA : vp_in (nI (4 * p + a)) 24 := vp_in_nI (by omega) (by decide)
  have vB : vp_in (4 * nI p + nI b) 24 := by rw [tk_i4']; exact vp_in_nI (by omega) (by decide)
  have v6 : vp_in (nI p) 6 := vp_in_nI hp (by decide)
  have v64 : vp_in (nI i) 64 := vp_in_nI hi (by decide)
  refine nm_e ⟨v6, ?_⟩
  rw [ep, hs]
  refine tk_yIn1 63 (by omega) (br_f tk_01 ⟨v6, v64, nm_r (e' := nI w) (by rw [ei]; exact hc) (nm_r (e' := nI 16) (by rw [tk_op hw, ho]) (nm_r (e' := nI a) (by rw [tk_wa hw, ha]) (nm_r (e' := nI b) (by rw [tk_wb' hw, hb]) ⟨v6, v64, nm_r (e' := cn i) (by rw [ei]) (nm_r (e' := nI (4 * p + a)) (tk_i4' _ _) ⟨vA, nm_r (e' := rg (4 * p + a)) (by rw [eA]) ⟨vB, nm_r (e' := rg (4 * p + b)) (by rw [eB]) ?_⟩⟩)⟩)))⟩)
  have CALL : wpY_call (fun r_57 u => match u with | (q1, q2, q3, q4, q5, q6, q7, q8, q9, q10, q11, q12, q13, q14, q15) => (((r_57 = 0 → (post 0 (q1, q2, q3, q4, q5, q6, q7, q8, q9, q10, q11, q12, q13, q14, q15))) ∧ (¬ r_57 = 0 → (wY_execute_330 post (nI p) (nI 16) q1 q2 q3 q4 q5 q6 q7 q8 q9 q10 q11 q12 q13 q14 q15))))) (ql, xc + 1, pc, cw, cn, st, pa, sy, rg, ds, me, pw, pl, qu, ou) (nI p) (nI 16) (nI a) (nI b) := by
    refine nm_r (tk_i4' _ _) ⟨vB, nm_r (e' := rg (4 * p + b)) (by rw [eB]) (hE _ ?_)⟩
    exact br_f (by decide) (br_f (by decide) (br_f (by decide) (⟨vA, nm_r (e' := rg (4 * p + a)) (by rw [eA]) (br_f (by decide) (br_t (by decide) (H _ (br_f (by decide) (br_f (by decide) (br_f (by decide) (br_f (by decide) (br_f (by decide) (br_f (by decide) (⟨vA, nm_r (e' := upd Vrg (4 * p + a) (r)) (by rw [eA]) (br_f (by decide) (br_f tk_01 (tk_y330 hp (by decide) h)))⟩))))))))))⟩)))
  exact br_f (by decide) (br_f (by decide) (br_t (by decide) (br_f (by decide) (br_f (by decide) ((br_f (by decide) (br_f (by decide) (br_t (by decide) (CALL)))))))))
theorem tk_yex_18 {post : Int32 → SY → Prop} {p i w a b : Nat} (hp : p < 6) (hi : i < 64) (hs : sy p = nI i) (hw : w < 512) (hc : cw i = nI w) (ha : w / 32 % 4 = a) (hb : w / 128 = b) (ho : w % 32 = 18) {e : Nat} (hE : ∀ Q : Int32 → Prop, Q (nI e) → wpY_endOf Q (ql, xc + 1, pc, cw, cn, st, pa, sy, rg, ds, me, pw, pl, qu, ou) (nI p) (nI b)) {r : Int32} (H : ∀ Q : Int32 → SY → Prop, Q r (Vql, Vxc, Vpc, Vcw, Vcn, Vst, Vpa, Vsy, Vrg, Vds, Vme, Vpw, Vpl, Vqu, Vou) → wpY_close Q (ql, xc + 1, pc, cw, cn, st, pa, sy, rg, ds, me, pw, pl, qu, ou) (nI p) (nI b)) (h : post 1 (Vql, Vxc, Vpc, Vcw, Vcn, Vst, Vpa, upd Vsy p (Vsy p + 1), upd Vrg (4 * p + a) r, Vds, Vme, Vpw, Vpl, Vqu, Vou)) : wpY_execute post (ql, xc, pc, cw, cn, st, pa, sy, rg, ds, me, pw, pl, qu, ou) (nI p) := by
  have ep : (nI p).toNatClampNeg = p := nI_clamp (by omega)
  have ei : (nI i).toNatClampNeg = i := nI_clamp (by omega)
  have ha4 : a < 4 := by omega
  have hb4 : b < 4 := by omega
  have eA : (nI (4 * p + a)).toNatClampNeg = 4 * p + a := nI_clamp (by omega)
  have eB : (4 * nI p + nI b).toNatClampNeg = 4 * p + b := by rw [tk_i4', nI_clamp (by omega)]
  have vA : vp_in (nI (4 * p + a)) 24 := vp_in_nI (by omega) (by decide)
  have vB : vp_in (4 * nI p + nI b) 24 := by rw [tk_i4']; exact vp_in_nI (by omega) (by decide)
  have v6 : vp_in (nI p) 6 := vp_in_nI hp (by decide)
  have v64 : vp_in (nI i) 64 := vp_in_nI hi (by decide)
  refine nm_e ⟨v6, ?_⟩
  rw [ep, hs]
  refine tk_yIn1 63 (by omega) (br_f tk_01 ⟨v6, v64, nm_r (e' := nI w) (by rw [ei]; exact hc) (nm_r (e' := nI 18) (by rw [tk_op hw, ho]) (nm_r (e' := nI a) (by rw [tk_wa hw, ha]) (nm_r (e' := nI b) (by rw [tk_wb' hw, hb]) ⟨v6, v64, nm_r (e' := cn i) (by rw [ei]) (nm_r (e' := nI (4 * p + a)) (tk_i4' _ _) ⟨vA, nm_r (e' := rg (4 * p + a)) (by rw [eA]) ⟨vB, nm_r (e' := rg (4 * p + b)) (by rw [eB]) ?_⟩⟩)⟩)))⟩)
  have CALL : wpY_call (fun r_57 u => match u with | (q1, q2, q3, q4, q5, q6, q7, q8, q9, q10, q11, q12, q13, q14, q15) => (((r_57 = 0 → (post 0 (q1, q2, q3, q4, q5, q6, q7, q8, q9, q10, q11, q12, q13, q14, q15))) ∧ (¬ r_57 = 0 → (wY_execute_330 post (nI p) (nI 18) q1 q2 q3 q4 q5 q6 q7 q8 q9 q10 q11 q12 q13 q14 q15))))) (ql, xc + 1, pc, cw, cn, st, pa, sy, rg, ds, me, pw, pl, qu, ou) (nI p) (nI 18) (nI a) (nI b) := by
    refine nm_r (tk_i4' _ _) ⟨vB, nm_r (e' := rg (4 * p + b)) (by rw [eB]) (hE _ ?_)⟩
    exact br_f (by decide) (br_f (by decide) (br_f (by decide) (⟨vA, nm_r (e' := rg (4 * p + a)) (by rw [eA]) (br_f (by decide) (br_f (by decide) (br_t (by decide) (H _ (br_f (by decide) (br_f (by decide) (br_f (by decide) (br_f (by decide) (br_f (by decide) (⟨vA, nm_r (e' := upd Vrg (4 * p + a) (r)) (by rw [eA]) (br_f (by decide) (br_f tk_01 (tk_y330 hp (by decide) h)))⟩))))))))))⟩)))
  exact br_f (by decide) (br_f (by decide) (br_t (by decide) (br_f (by decide) (br_f (by decide) ((br_f (by decide) (br_f (by decide) (br_t (by decide) (CALL)))))))))
theorem tk_yex_19 {post : Int32 → SY → Prop} {p i w a b : Nat} (hp : p < 6) (hi : i < 64) (hs : sy p = nI i) (hw : w < 512) (hc : cw i = nI w) (ha : w / 32 % 4 = a) (hb : w / 128 = b) (ho : w % 32 = 19) {e : Nat} (hE : ∀ Q : Int32 → Prop, Q (nI e) → wpY_endOf Q (ql, xc + 1, pc, cw, cn, st, pa, sy, rg, ds, me, pw, pl, qu, ou) (nI p) (nI b)) {r : Int32} (H : ∀ Q : Int32 → SY → Prop, Q r (Vql, Vxc, Vpc, Vcw, Vcn, Vst, Vpa, Vsy, Vrg, Vds, Vme, Vpw, Vpl, Vqu, Vou) → wpY_copyEnd Q (ql, xc + 1, pc, cw, cn, st, pa, sy, rg, ds, me, pw, pl, qu, ou) (nI p) (nI e)) (h : post 1 (Vql, Vxc, Vpc, Vcw, Vcn, Vst, Vpa, upd Vsy p (Vsy p + 1), upd Vrg (4 * p + a) r, Vds, Vme, Vpw, Vpl, Vqu, Vou)) : wpY_execute post (ql, xc, pc, cw, cn, st, pa, sy, rg, ds, me, pw, pl, qu, ou) (nI p) := by
  have ep : (nI p).toNatClampNeg = p := nI_clamp (by omega)
  have ei : (nI i).toNatClampNeg = i := nI_clamp (by omega)
  have ha4 : a < 4 := by omega
  have hb4 : b < 4 := by omega
  have eA : (nI (4 * p + a)).toNatClampNeg = 4 * p + a := nI_clamp (by omega)
  have eB : (4 * nI p + nI b).toNatClampNeg = 4 * p + b := by rw [tk_i4', nI_clamp (by omega)]
  have vA : vp_in (nI (4 * p + a)) 24 := vp_in_nI (by omega) (by decide)
  have vB : vp_in (4 * nI p + nI b) 24 := by rw [tk_i4']; exact vp_in_nI (by omega) (by decide)
  have v6 : vp_in (nI p) 6 := vp_in_nI hp (by decide)
  have v64 : vp_in (nI i) 64 := vp_in_nI hi (by decide)
  refine nm_e ⟨v6, ?_⟩
  rw [ep, hs]
  refine tk_yIn1 63 (by omega) (br_f tk_01 ⟨v6, v64, nm_r (e' := nI w) (by rw [ei]; exact hc) (nm_r (e' := nI 19) (by rw [tk_op hw, ho]) (nm_r (e' := nI a) (by rw [tk_wa hw, ha]) (nm_r (e' := nI b) (by rw [tk_wb' hw, hb]) ⟨v6, v64, nm_r (e' := cn i) (by rw [ei]) (nm_r (e' := nI (4 * p + a)) (tk_i4' _ _) ⟨vA, nm_r (e' := rg (4 * p + a)) (by rw [eA]) ⟨vB, nm_r (e' := rg (4 * p + b)) (by rw [eB]) ?_⟩⟩)⟩)))⟩)
  have CALL : wpY_call (fun r_57 u => match u with | (q1, q2, q3, q4, q5, q6, q7, q8, q9, q10, q11, q12, q13, q14, q15) => (((r_57 = 0 → (post 0 (q1, q2, q3, q4, q5, q6, q7, q8, q9, q10, q11, q12, q13, q14, q15))) ∧ (¬ r_57 = 0 → (wY_execute_330 post (nI p) (nI 19) q1 q2 q3 q4 q5 q6 q7 q8 q9 q10 q11 q12 q13 q14 q15))))) (ql, xc + 1, pc, cw, cn, st, pa, sy, rg, ds, me, pw, pl, qu, ou) (nI p) (nI 19) (nI a) (nI b) := by
    refine nm_r (tk_i4' _ _) ⟨vB, nm_r (e' := rg (4 * p + b)) (by rw [eB]) (hE _ ?_)⟩
    exact br_f (by decide) (br_f (by decide) (br_f (by decide) (⟨vA, nm_r (e' := rg (4 * p + a)) (by rw [eA]) (br_f (by decide) (br_f (by decide) (br_f (by decide) (br_t (by decide) (H _ (br_f (by decide) (br_f (by decide) (br_f (by decide) (br_f (by decide) (⟨vA, nm_r (e' := upd Vrg (4 * p + a) (r)) (by rw [eA]) (br_f (by decide) (br_f tk_01 (tk_y330 hp (by decide) h)))⟩))))))))))⟩)))
  exact br_f (by decide) (br_f (by decide) (br_t (by decide) (br_f (by decide) (br_f (by decide) ((br_f (by decide) (br_f (by decide) (br_t (by decide) (CALL)))))))))
theorem tk_yex_24 {post : Int32 → SY → Prop} {p i w a b : Nat} (hp : p < 6) (hi : i < 64) (hs : sy p = nI i) (hw : w < 512) (hc : cw i = nI w) (ha : w / 32 % 4 = a) (hb : w / 128 = b) (ho : w % 32 = 24) {e : Nat} (hE : ∀ Q : Int32 → Prop, Q (nI e) → wpY_endOf Q (ql, xc + 1, pc, cw, cn, st, pa, sy, rg, ds, me, pw, pl, qu, ou) (nI p) (nI b)) {r : Int32} (H : ∀ Q : Int32 → SY → Prop, Q r (Vql, Vxc, Vpc, Vcw, Vcn, Vst, Vpa, Vsy, Vrg, Vds, Vme, Vpw, Vpl, Vqu, Vou) → wpY_killOther Q (ql, xc + 1, pc, cw, cn, st, pa, sy, rg, ds, me, pw, pl, qu, ou) (nI p) (rg (4 * p + b))) (h : post 1 (Vql, Vxc, Vpc, Vcw, Vcn, Vst, Vpa, upd Vsy p (Vsy p + 1), upd Vrg (4 * p + a) r, Vds, Vme, Vpw, Vpl, Vqu, Vou)) : wpY_execute post (ql, xc, pc, cw, cn, st, pa, sy, rg, ds, me, pw, pl, qu, ou) (nI p) := by
  have ep : (nI p).toNatClampNeg = p := nI_clamp (by omega)
  have ei : (nI i).toNatClampNeg = i := nI_clamp (by omega)
  have ha4 : a < 4 := by omega
  have hb4 : b < 4 := by omega
  have eA : (nI (4 * p + a)).toNatClampNeg = 4 * p + a := nI_clamp (by omega)
  have eB : (4 * nI p + nI b).toNatClampNeg = 4 * p + b := by rw [tk_i4', nI_clamp (by omega)]
  have vA : vp_in (nI (4 * p + a)) 24 := vp_in_nI (by omega) (by decide)
  have vB : vp_in (4 * nI p + nI b) 24 := by rw [tk_i4']; exact vp_in_nI (by omega) (by decide)
  have v6 : vp_in (nI p) 6 := vp_in_nI hp (by decide)
  have v64 : vp_in (nI i) 64 := vp_in_nI hi (by decide)
  refine nm_e ⟨v6, ?_⟩
  rw [ep, hs]
  refine tk_yIn1 63 (by omega) (br_f tk_01 ⟨v6, v64, nm_r (e' := nI w) (by rw [ei]; exact hc) (nm_r (e' := nI 24) (by rw [tk_op hw, ho]) (nm_r (e' := nI a) (by rw [tk_wa hw, ha]) (nm_r (e' := nI b) (by rw [tk_wb' hw, hb]) ⟨v6, v64, nm_r (e' := cn i) (by rw [ei]) (nm_r (e' := nI (4 * p + a)) (tk_i4' _ _) ⟨vA, nm_r (e' := rg (4 * p + a)) (by rw [eA]) ⟨vB, nm_r (e' := rg (4 * p + b)) (by rw [eB]) ?_⟩⟩)⟩)))⟩)
  have CALL : wpY_call (fun r_57 u => match u with | (q1, q2, q3, q4, q5, q6, q7, q8, q9, q10, q11, q12, q13, q14, q15) => (((r_57 = 0 → (post 0 (q1, q2, q3, q4, q5, q6, q7, q8, q9, q10, q11, q12, q13, q14, q15))) ∧ (¬ r_57 = 0 → (wY_execute_330 post (nI p) (nI 24) q1 q2 q3 q4 q5 q6 q7 q8 q9 q10 q11 q12 q13 q14 q15))))) (ql, xc + 1, pc, cw, cn, st, pa, sy, rg, ds, me, pw, pl, qu, ou) (nI p) (nI 24) (nI a) (nI b) := by
    refine nm_r (tk_i4' _ _) ⟨vB, nm_r (e' := rg (4 * p + b)) (by rw [eB]) (hE _ ?_)⟩
    exact br_f (by decide) (br_f (by decide) (br_f (by decide) (⟨vA, nm_r (e' := rg (4 * p + a)) (by rw [eA]) (br_f (by decide) (br_f (by decide) (br_f (by decide) (br_f (by decide) (br_f (by decide) (br_f (by decide) (br_f (by decide) (br_t (by decide) (H _ (⟨vA, nm_r (e' := upd Vrg (4 * p + a) (r)) (by rw [eA]) (br_f (by decide) (br_f tk_01 (tk_y330 hp (by decide) h)))⟩))))))))))⟩)))
  exact br_f (by decide) (br_f (by decide) (br_t (by decide) (br_f (by decide) (br_f (by decide) ((br_f (by decide) (br_f (by decide) (br_t (by decide) (CALL)))))))))
theorem tk_yex_21 {post : Int32 → SY → Prop} {p i w a b : Nat} (hp : p < 6) (hi : i < 64) (hs : sy p = nI i) (hw : w < 512) (hc : cw i = nI w) (ha : w / 32 % 4 = a) (hb : w / 128 = b) (ho : w % 32 = 21) {e : Nat} (hE : ∀ Q : Int32 → Prop, Q (nI e) → wpY_endOf Q (ql, xc + 1, pc, cw, cn, st, pa, sy, rg, ds, me, pw, pl, qu, ou) (nI p) (nI b)) (H : ∀ Q : SY → Prop, Q (Vql, Vxc, Vpc, Vcw, Vcn, Vst, Vpa, Vsy, Vrg, Vds, Vme, Vpw, Vpl, Vqu, Vou) → wpY_show Q (ql, xc + 1, pc, cw, cn, st, pa, sy, rg, ds, me, pw, pl, qu, ou) (rg (4 * p + a))) (h : post 1 (Vql, Vxc, Vpc, Vcw, Vcn, Vst, Vpa, upd Vsy p (Vsy p + 1), upd Vrg (4 * p + a) (rg (4 * p + a)), Vds, Vme, Vpw, Vpl, Vqu, Vou)) : wpY_execute post (ql, xc, pc, cw, cn, st, pa, sy, rg, ds, me, pw, pl, qu, ou) (nI p) := by
  have ep : (nI p).toNatClampNeg = p := nI_clamp (by omega)
  have ei : (nI i).toNatClampNeg = i := nI_clamp (by omega)
  have ha4 : a < 4 := by omega
  have hb4 : b < 4 := by omega
  have eA : (nI (4 * p + a)).toNatClampNeg = 4 * p + a := nI_clamp (by omega)
  have eB : (4 * nI p + nI b).toNatClampNeg = 4 * p + b := by rw [tk_i4', nI_clamp (by omega)]
  have vA : vp_in (nI (4 * p + a)) 24 := vp_in_nI (by omega) (by decide)
  have vB : vp_in (4 * nI p + nI b) 24 := by rw [tk_i4']; exact vp_in_nI (by omega) (by decide)
  have v6 : vp_in (nI p) 6 := vp_in_nI hp (by decide)
  have v64 : vp_in (nI i) 64 := vp_in_nI hi (by decide)
  refine nm_e ⟨v6, ?_⟩
  rw [ep, hs]
  refine tk_yIn1 63 (by omega) (br_f tk_01 ⟨v6, v64, nm_r (e' := nI w) (by rw [ei]; exact hc) (nm_r (e' := nI 21) (by rw [tk_op hw, ho]) (nm_r (e' := nI a) (by rw [tk_wa hw, ha]) (nm_r (e' := nI b) (by rw [tk_wb' hw, hb]) ⟨v6, v64, nm_r (e' := cn i) (by rw [ei]) (nm_r (e' := nI (4 * p + a)) (tk_i4' _ _) ⟨vA, nm_r (e' := rg (4 * p + a)) (by rw [eA]) ⟨vB, nm_r (e' := rg (4 * p + b)) (by rw [eB]) ?_⟩⟩)⟩)))⟩)
  have CALL : wpY_call (fun r_57 u => match u with | (q1, q2, q3, q4, q5, q6, q7, q8, q9, q10, q11, q12, q13, q14, q15) => (((r_57 = 0 → (post 0 (q1, q2, q3, q4, q5, q6, q7, q8, q9, q10, q11, q12, q13, q14, q15))) ∧ (¬ r_57 = 0 → (wY_execute_330 post (nI p) (nI 21) q1 q2 q3 q4 q5 q6 q7 q8 q9 q10 q11 q12 q13 q14 q15))))) (ql, xc + 1, pc, cw, cn, st, pa, sy, rg, ds, me, pw, pl, qu, ou) (nI p) (nI 21) (nI a) (nI b) := by
    refine nm_r (tk_i4' _ _) ⟨vB, nm_r (e' := rg (4 * p + b)) (by rw [eB]) (hE _ ?_)⟩
    exact br_f (by decide) (br_f (by decide) (br_f (by decide) (⟨vA, nm_r (e' := rg (4 * p + a)) (by rw [eA]) (br_f (by decide) (br_f (by decide) (br_f (by decide) (br_f (by decide) (br_t (by decide) (H _ (br_f (by decide) (br_f (by decide) (br_f (by decide) (⟨vA, nm_r (e' := upd Vrg (4 * p + a) (rg (4 * p + a))) (by rw [eA]) (br_f (by decide) (br_f tk_01 (tk_y330 hp (by decide) h)))⟩))))))))))⟩)))
  exact br_f (by decide) (br_f (by decide) (br_t (by decide) (br_f (by decide) (br_f (by decide) ((br_f (by decide) (br_f (by decide) (br_t (by decide) (CALL)))))))))
theorem tk_yex_20 {post : Int32 → SY → Prop} {p i w a b : Nat} (hp : p < 6) (hi : i < 64) (hs : sy p = nI i) (hw : w < 512) (hc : cw i = nI w) (ha : w / 32 % 4 = a) (hb : w / 128 = b) (ho : w % 32 = 20) {e : Nat} (hE : ∀ Q : Int32 → Prop, Q (nI e) → wpY_endOf Q (ql, xc + 1, pc, cw, cn, st, pa, sy, rg, ds, me, pw, pl, qu, ou) (nI p) (nI b)) (h : post 0 (ql, xc + 1, pc, cw, cn, st, pa, upd sy p (sy p + 1), upd rg (4 * p + a) (rg (4 * p + a)), ds, me, pw, pl, qu, ou)) : wpY_execute post (ql, xc, pc, cw, cn, st, pa, sy, rg, ds, me, pw, pl, qu, ou) (nI p) := by
  have ep : (nI p).toNatClampNeg = p := nI_clamp (by omega)
  have ei : (nI i).toNatClampNeg = i := nI_clamp (by omega)
  have ha4 : a < 4 := by omega
  have hb4 : b < 4 := by omega
  have eA : (nI (4 * p + a)).toNatClampNeg = 4 * p + a := nI_clamp (by omega)
  have eB : (4 * nI p + nI b).toNatClampNeg = 4 * p + b := by rw [tk_i4', nI_clamp (by omega)]
  have vA : vp_in (nI (4 * p + a)) 24 := vp_in_nI (by omega) (by decide)
  have vB : vp_in (4 * nI p + nI b) 24 := by rw [tk_i4']; exact vp_in_nI (by omega) (by decide)
  have v6 : vp_in (nI p) 6 := vp_in_nI hp (by decide)
  have v64 : vp_in (nI i) 64 := vp_in_nI hi (by decide)
  refine nm_e ⟨v6, ?_⟩
  rw [ep, hs]
  refine tk_yIn1 63 (by omega) (br_f tk_01 ⟨v6, v64, nm_r (e' := nI w) (by rw [ei]; exact hc) (nm_r (e' := nI 20) (by rw [tk_op hw, ho]) (nm_r (e' := nI a) (by rw [tk_wa hw, ha]) (nm_r (e' := nI b) (by rw [tk_wb' hw, hb]) ⟨v6, v64, nm_r (e' := cn i) (by rw [ei]) (nm_r (e' := nI (4 * p + a)) (tk_i4' _ _) ⟨vA, nm_r (e' := rg (4 * p + a)) (by rw [eA]) ⟨vB, nm_r (e' := rg (4 * p + b)) (by rw [eB]) ?_⟩⟩)⟩)))⟩)
  have CALL : wpY_call (fun r_57 u => match u with | (q1, q2, q3, q4, q5, q6, q7, q8, q9, q10, q11, q12, q13, q14, q15) => (((r_57 = 0 → (post 0 (q1, q2, q3, q4, q5, q6, q7, q8, q9, q10, q11, q12, q13, q14, q15))) ∧ (¬ r_57 = 0 → (wY_execute_330 post (nI p) (nI 20) q1 q2 q3 q4 q5 q6 q7 q8 q9 q10 q11 q12 q13 q14 q15))))) (ql, xc + 1, pc, cw, cn, st, pa, sy, rg, ds, me, pw, pl, qu, ou) (nI p) (nI 20) (nI a) (nI b) := by
    refine nm_r (tk_i4' _ _) ⟨vB, nm_r (e' := rg (4 * p + b)) (by rw [eB]) (hE _ ?_)⟩
    exact br_f (by decide) (br_f (by decide) (br_f (by decide) (⟨vA, nm_r (e' := rg (4 * p + a)) (by rw [eA]) (br_f (by decide) (br_f (by decide) (br_f (by decide) (br_f (by decide) (br_f (by decide) (br_f (by decide) (br_f (by decide) (br_f (by decide) (⟨vA, nm_r (e' := upd rg (4 * p + a) (rg (4 * p + a))) (by rw [eA]) (br_f (by decide) (br_f tk_01 (tk_y330 hp (by decide) h)))⟩)))))))))⟩)))
  exact br_f (by decide) (br_f (by decide) (br_t (by decide) (br_f (by decide) (br_f (by decide) ((br_f (by decide) (br_f (by decide) (br_t (by decide) (CALL)))))))))
theorem tk_yex_22 {post : Int32 → SY → Prop} {p i w a b : Nat} (hp : p < 6) (hi : i < 64) (hs : sy p = nI i) (hw : w < 512) (hc : cw i = nI w) (ha : w / 32 % 4 = a) (hb : w / 128 = b) (ho : w % 32 = 22) {e : Nat} (hE : ∀ Q : Int32 → Prop, Q (nI e) → wpY_endOf Q (ql, xc + 1, pc, cw, cn, st, pa, sy, rg, ds, me, pw, pl, qu, ou) (nI p) (nI b)) (h : post 1 (ql, xc + 1, pc, cw, cn, st, pa, upd sy p (sy p + 1), upd rg (4 * p + a) (nI p), ds, me, pw, pl, qu, ou)) : wpY_execute post (ql, xc, pc, cw, cn, st, pa, sy, rg, ds, me, pw, pl, qu, ou) (nI p) := by
  have ep : (nI p).toNatClampNeg = p := nI_clamp (by omega)
  have ei : (nI i).toNatClampNeg = i := nI_clamp (by omega)
  have ha4 : a < 4 := by omega
  have hb4 : b < 4 := by omega
  have eA : (nI (4 * p + a)).toNatClampNeg = 4 * p + a := nI_clamp (by omega)
  have eB : (4 * nI p + nI b).toNatClampNeg = 4 * p + b := by rw [tk_i4', nI_clamp (by omega)]
  have vA : vp_in (nI (4 * p + a)) 24 := vp_in_nI (by omega) (by decide)
  have vB : vp_in (4 * nI p + nI b) 24 := by rw [tk_i4']; exact vp_in_nI (by omega) (by decide)
  have v6 : vp_in (nI p) 6 := vp_in_nI hp (by decide)
  have v64 : vp_in (nI i) 64 := vp_in_nI hi (by decide)
  refine nm_e ⟨v6, ?_⟩
  rw [ep, hs]
  refine tk_yIn1 63 (by omega) (br_f tk_01 ⟨v6, v64, nm_r (e' := nI w) (by rw [ei]; exact hc) (nm_r (e' := nI 22) (by rw [tk_op hw, ho]) (nm_r (e' := nI a) (by rw [tk_wa hw, ha]) (nm_r (e' := nI b) (by rw [tk_wb' hw, hb]) ⟨v6, v64, nm_r (e' := cn i) (by rw [ei]) (nm_r (e' := nI (4 * p + a)) (tk_i4' _ _) ⟨vA, nm_r (e' := rg (4 * p + a)) (by rw [eA]) ⟨vB, nm_r (e' := rg (4 * p + b)) (by rw [eB]) ?_⟩⟩)⟩)))⟩)
  have CALL : wpY_call (fun r_57 u => match u with | (q1, q2, q3, q4, q5, q6, q7, q8, q9, q10, q11, q12, q13, q14, q15) => (((r_57 = 0 → (post 0 (q1, q2, q3, q4, q5, q6, q7, q8, q9, q10, q11, q12, q13, q14, q15))) ∧ (¬ r_57 = 0 → (wY_execute_330 post (nI p) (nI 22) q1 q2 q3 q4 q5 q6 q7 q8 q9 q10 q11 q12 q13 q14 q15))))) (ql, xc + 1, pc, cw, cn, st, pa, sy, rg, ds, me, pw, pl, qu, ou) (nI p) (nI 22) (nI a) (nI b) := by
    refine nm_r (tk_i4' _ _) ⟨vB, nm_r (e' := rg (4 * p + b)) (by rw [eB]) (hE _ ?_)⟩
    exact br_f (by decide) (br_f (by decide) (br_f (by decide) (⟨vA, nm_r (e' := rg (4 * p + a)) (by rw [eA]) (br_f (by decide) (br_f (by decide) (br_f (by decide) (br_f (by decide) (br_f (by decide) (br_t (by decide) (br_f (by decide) (br_f (by decide) (⟨vA, nm_r (e' := upd rg (4 * p + a) (nI p)) (by rw [eA]) (br_f (by decide) (br_f tk_01 (tk_y330 hp (by decide) h)))⟩)))))))))⟩)))
  exact br_f (by decide) (br_f (by decide) (br_t (by decide) (br_f (by decide) (br_f (by decide) ((br_f (by decide) (br_f (by decide) (br_t (by decide) (CALL)))))))))
theorem tk_yex_23 {post : Int32 → SY → Prop} {p i w a b : Nat} (hp : p < 6) (hi : i < 64) (hs : sy p = nI i) (hw : w < 512) (hc : cw i = nI w) (ha : w / 32 % 4 = a) (hb : w / 128 = b) (ho : w % 32 = 23) {e : Nat} (hE : ∀ Q : Int32 → Prop, Q (nI e) → wpY_endOf Q (ql, xc + 1, pc, cw, cn, st, pa, sy, rg, ds, me, pw, pl, qu, ou) (nI p) (nI b)) (h : post 1 (ql, xc + 1, pc, cw, cn, st, pa, upd sy p (sy p + 1), upd rg (4 * p + a) (pa p), ds, me, pw, pl, qu, ou)) : wpY_execute post (ql, xc, pc, cw, cn, st, pa, sy, rg, ds, me, pw, pl, qu, ou) (nI p) := by
  have ep : (nI p).toNatClampNeg = p := nI_clamp (by omega)
  have ei : (nI i).toNatClampNeg = i := nI_clamp (by omega)
  have ha4 : a < 4 := by omega
  have hb4 : b < 4 := by omega
  have eA : (nI (4 * p + a)).toNatClampNeg = 4 * p + a := nI_clamp (by omega)
  have eB : (4 * nI p + nI b).toNatClampNeg = 4 * p + b := by rw [tk_i4', nI_clamp (by omega)]
  have vA : vp_in (nI (4 * p + a)) 24 := vp_in_nI (by omega) (by decide)
  have vB : vp_in (4 * nI p + nI b) 24 := by rw [tk_i4']; exact vp_in_nI (by omega) (by decide)
  have v6 : vp_in (nI p) 6 := vp_in_nI hp (by decide)
  have v64 : vp_in (nI i) 64 := vp_in_nI hi (by decide)
  refine nm_e ⟨v6, ?_⟩
  rw [ep, hs]
  refine tk_yIn1 63 (by omega) (br_f tk_01 ⟨v6, v64, nm_r (e' := nI w) (by rw [ei]; exact hc) (nm_r (e' := nI 23) (by rw [tk_op hw, ho]) (nm_r (e' := nI a) (by rw [tk_wa hw, ha]) (nm_r (e' := nI b) (by rw [tk_wb' hw, hb]) ⟨v6, v64, nm_r (e' := cn i) (by rw [ei]) (nm_r (e' := nI (4 * p + a)) (tk_i4' _ _) ⟨vA, nm_r (e' := rg (4 * p + a)) (by rw [eA]) ⟨vB, nm_r (e' := rg (4 * p + b)) (by rw [eB]) ?_⟩⟩)⟩)))⟩)
  have CALL : wpY_call (fun r_57 u => match u with | (q1, q2, q3, q4, q5, q6, q7, q8, q9, q10, q11, q12, q13, q14, q15) => (((r_57 = 0 → (post 0 (q1, q2, q3, q4, q5, q6, q7, q8, q9, q10, q11, q12, q13, q14, q15))) ∧ (¬ r_57 = 0 → (wY_execute_330 post (nI p) (nI 23) q1 q2 q3 q4 q5 q6 q7 q8 q9 q10 q11 q12 q13 q14 q15))))) (ql, xc + 1, pc, cw, cn, st, pa, sy, rg, ds, me, pw, pl, qu, ou) (nI p) (nI 23) (nI a) (nI b) := by
    refine nm_r (tk_i4' _ _) ⟨vB, nm_r (e' := rg (4 * p + b)) (by rw [eB]) (hE _ ?_)⟩
    exact br_f (by decide) (br_f (by decide) (br_f (by decide) (⟨vA, nm_r (e' := rg (4 * p + a)) (by rw [eA]) (br_f (by decide) (br_f (by decide) (br_f (by decide) (br_f (by decide) (br_f (by decide) (br_f (by decide) (br_t (by decide) ⟨v6, nm_r (e' := pa p) (by rw [ep]) (br_f (by decide) (⟨vA, nm_r (e' := upd rg (4 * p + a) (pa p)) (by rw [eA]) (br_f (by decide) (br_f tk_01 (tk_y330 hp (by decide) h)))⟩))⟩)))))))⟩)))
  exact br_f (by decide) (br_f (by decide) (br_t (by decide) (br_f (by decide) (br_f (by decide) ((br_f (by decide) (br_f (by decide) (br_t (by decide) (CALL)))))))))
theorem tk_yex_13 {post : Int32 → SY → Prop} {p i w a b : Nat} (hp : p < 6) (hi : i < 64) (hs : sy p = nI i) (hw : w < 512) (hc : cw i = nI w) (ha : w / 32 % 4 = a) (hb : w / 128 = b) (ho : w % 32 = 13) {e : Nat} (hE : ∀ Q : Int32 → Prop, Q (nI e) → wpY_endOf Q (ql, xc + 1, pc, cw, cn, st, pa, sy, rg, ds, me, pw, pl, qu, ou) (nI p) (nI b)) {c : Nat} (hcc : c < 6) (H : ∀ Q : Int32 → SY → Prop, Q (nI c) (Vql, Vxc, Vpc, Vcw, Vcn, Vst, Vpa, Vsy, Vrg, Vds, Vme, Vpw, Vpl, Vqu, Vou) → wpY_fork Q (ql, xc + 1, pc, cw, cn, st, pa, sy, rg, ds, me, pw, pl, qu, ou) (nI p)) (h : post 1 (Vql, Vxc, Vpc, Vcw, Vcn, Vst, Vpa, upd Vsy p (Vsy p + 1), upd (upd Vrg (4 * p + a) (nI c)) (4 * c + a) (-1), Vds, Vme, Vpw, Vpl, Vqu, Vou)) : wpY_execute post (ql, xc, pc, cw, cn, st, pa, sy, rg, ds, me, pw, pl, qu, ou) (nI p) := by
  have ep : (nI p).toNatClampNeg = p := nI_clamp (by omega)
  have ei : (nI i).toNatClampNeg = i := nI_clamp (by omega)
  have ha4 : a < 4 := by omega
  have hb4 : b < 4 := by omega
  have eA : (nI (4 * p + a)).toNatClampNeg = 4 * p + a := nI_clamp (by omega)
  have eB : (4 * nI p + nI b).toNatClampNeg = 4 * p + b := by rw [tk_i4', nI_clamp (by omega)]
  have vA : vp_in (nI (4 * p + a)) 24 := vp_in_nI (by omega) (by decide)
  have vB : vp_in (4 * nI p + nI b) 24 := by rw [tk_i4']; exact vp_in_nI (by omega) (by decide)
  have v6 : vp_in (nI p) 6 := vp_in_nI hp (by decide)
  have v64 : vp_in (nI i) 64 := vp_in_nI hi (by decide)
  refine nm_e ⟨v6, ?_⟩
  rw [ep, hs]
  refine tk_yIn1 63 (by omega) (br_f tk_01 ⟨v6, v64, nm_r (e' := nI w) (by rw [ei]; exact hc) (nm_r (e' := nI 13) (by rw [tk_op hw, ho]) (nm_r (e' := nI a) (by rw [tk_wa hw, ha]) (nm_r (e' := nI b) (by rw [tk_wb' hw, hb]) ⟨v6, v64, nm_r (e' := cn i) (by rw [ei]) (nm_r (e' := nI (4 * p + a)) (tk_i4' _ _) ⟨vA, nm_r (e' := rg (4 * p + a)) (by rw [eA]) ⟨vB, nm_r (e' := rg (4 * p + b)) (by rw [eB]) ?_⟩⟩)⟩)))⟩)
  have CALL : wpY_call (fun r_57 u => match u with | (q1, q2, q3, q4, q5, q6, q7, q8, q9, q10, q11, q12, q13, q14, q15) => (((r_57 = 0 → (post 0 (q1, q2, q3, q4, q5, q6, q7, q8, q9, q10, q11, q12, q13, q14, q15))) ∧ (¬ r_57 = 0 → (wY_execute_330 post (nI p) (nI 13) q1 q2 q3 q4 q5 q6 q7 q8 q9 q10 q11 q12 q13 q14 q15))))) (ql, xc + 1, pc, cw, cn, st, pa, sy, rg, ds, me, pw, pl, qu, ou) (nI p) (nI 13) (nI a) (nI b) := by
    refine nm_r (tk_i4' _ _) ⟨vB, nm_r (e' := rg (4 * p + b)) (by rw [eB]) (hE _ ?_)⟩
    exact br_f (by decide) (br_f (by decide) (br_f (by decide) (⟨vA, nm_r (e' := rg (4 * p + a)) (by rw [eA]) (br_t (by decide) (H _ (br_f (by decide) (br_f (by decide) (br_f (by decide) (br_f (by decide) (br_f (by decide) (br_f (by decide) (br_f (by decide) (⟨vA, nm_r (e' := upd Vrg (4 * p + a) (nI c)) (by rw [eA]) (br_t (by decide) (br_f (nI_pos (by omega)) ⟨by rw [tk_i4']; exact vp_in_nI (by omega) (by decide), nm_r (e' := upd (upd Vrg (4 * p + a) (nI c)) (4 * c + a) (-1)) (by rw [tk_i4', nI_clamp (by omega)]) (br_f tk_01 (tk_y330 hp (by decide) h))⟩))⟩))))))))))⟩)))
  exact br_f (by decide) (br_f (by decide) (br_t (by decide) (br_f (by decide) (br_f (by decide) ((br_f (by decide) (br_f (by decide) (br_t (by decide) (CALL)))))))))
theorem tk_yex_13n {post : Int32 → SY → Prop} {p i w a b : Nat} (hp : p < 6) (hi : i < 64) (hs : sy p = nI i) (hw : w < 512) (hc : cw i = nI w) (ha : w / 32 % 4 = a) (hb : w / 128 = b) (ho : w % 32 = 13) {e : Nat} (hE : ∀ Q : Int32 → Prop, Q (nI e) → wpY_endOf Q (ql, xc + 1, pc, cw, cn, st, pa, sy, rg, ds, me, pw, pl, qu, ou) (nI p) (nI b)) (H : ∀ Q : Int32 → SY → Prop, Q (-2) (Vql, Vxc, Vpc, Vcw, Vcn, Vst, Vpa, Vsy, Vrg, Vds, Vme, Vpw, Vpl, Vqu, Vou) → wpY_fork Q (ql, xc + 1, pc, cw, cn, st, pa, sy, rg, ds, me, pw, pl, qu, ou) (nI p)) (h : post 1 (Vql, Vxc, Vpc, Vcw, Vcn, Vst, Vpa, upd Vsy p (Vsy p + 1), upd Vrg (4 * p + a) (-2), Vds, Vme, Vpw, Vpl, Vqu, Vou)) : wpY_execute post (ql, xc, pc, cw, cn, st, pa, sy, rg, ds, me, pw, pl, qu, ou) (nI p) := by
  have ep : (nI p).toNatClampNeg = p := nI_clamp (by omega)
  have ei : (nI i).toNatClampNeg = i := nI_clamp (by omega)
  have ha4 : a < 4 := by omega
  have hb4 : b < 4 := by omega
  have eA : (nI (4 * p + a)).toNatClampNeg = 4 * p + a := nI_clamp (by omega)
  have eB : (4 * nI p + nI b).toNatClampNeg = 4 * p + b := by rw [tk_i4', nI_clamp (by omega)]
  have vA : vp_in (nI (4 * p + a)) 24 := vp_in_nI (by omega) (by decide)
  have vB : vp_in (4 * nI p + nI b) 24 := by rw [tk_i4']; exact vp_in_nI (by omega) (by decide)
  have v6 : vp_in (nI p) 6 := vp_in_nI hp (by decide)
  have v64 : vp_in (nI i) 64 := vp_in_nI hi (by decide)
  refine nm_e ⟨v6, ?_⟩
  rw [ep, hs]
  refine tk_yIn1 63 (by omega) (br_f tk_01 ⟨v6, v64, nm_r (e' := nI w) (by rw [ei]; exact hc) (nm_r (e' := nI 13) (by rw [tk_op hw, ho]) (nm_r (e' := nI a) (by rw [tk_wa hw, ha]) (nm_r (e' := nI b) (by rw [tk_wb' hw, hb]) ⟨v6, v64, nm_r (e' := cn i) (by rw [ei]) (nm_r (e' := nI (4 * p + a)) (tk_i4' _ _) ⟨vA, nm_r (e' := rg (4 * p + a)) (by rw [eA]) ⟨vB, nm_r (e' := rg (4 * p + b)) (by rw [eB]) ?_⟩⟩)⟩)))⟩)
  have CALL : wpY_call (fun r_57 u => match u with | (q1, q2, q3, q4, q5, q6, q7, q8, q9, q10, q11, q12, q13, q14, q15) => (((r_57 = 0 → (post 0 (q1, q2, q3, q4, q5, q6, q7, q8, q9, q10, q11, q12, q13, q14, q15))) ∧ (¬ r_57 = 0 → (wY_execute_330 post (nI p) (nI 13) q1 q2 q3 q4 q5 q6 q7 q8 q9 q10 q11 q12 q13 q14 q15))))) (ql, xc + 1, pc, cw, cn, st, pa, sy, rg, ds, me, pw, pl, qu, ou) (nI p) (nI 13) (nI a) (nI b) := by
    refine nm_r (tk_i4' _ _) ⟨vB, nm_r (e' := rg (4 * p + b)) (by rw [eB]) (hE _ ?_)⟩
    exact br_f (by decide) (br_f (by decide) (br_f (by decide) (⟨vA, nm_r (e' := rg (4 * p + a)) (by rw [eA]) (br_t (by decide) (H _ (br_f (by decide) (br_f (by decide) (br_f (by decide) (br_f (by decide) (br_f (by decide) (br_f (by decide) (br_f (by decide) (⟨vA, nm_r (e' := upd Vrg (4 * p + a) (-2)) (by rw [eA]) (br_t (by decide) (br_t (by decide) (br_f tk_01 (tk_y330 hp (by decide) h))))⟩))))))))))⟩)))
  exact br_f (by decide) (br_f (by decide) (br_t (by decide) (br_f (by decide) (br_f (by decide) ((br_f (by decide) (br_f (by decide) (br_t (by decide) (CALL)))))))))
theorem tk_yex_out {post : Int32 → SY → Prop} {p : Nat} (hp : p < 6) (hs : sy p < 0 ∨ (¬ sy p < 0 ∧ nI 64 ≤ sy p)) (H : ∀ Q : SY → Prop, Q (Vql, Vxc, Vpc, Vcw, Vcn, Vst, Vpa, Vsy, Vrg, Vds, Vme, Vpw, Vpl, Vqu, Vou) → wpY_end Q (ql, xc + 1, pc, cw, cn, st, pa, sy, rg, ds, me, pw, pl, qu, ou) (nI p) (-4)) (h : post 0 (Vql, Vxc, Vpc, Vcw, Vcn, Vst, Vpa, Vsy, Vrg, Vds, Vme, Vpw, Vpl, Vqu, Vou)) : wpY_execute post (ql, xc, pc, cw, cn, st, pa, sy, rg, ds, me, pw, pl, qu, ou) (nI p) := by
  have ep : (nI p).toNatClampNeg = p := nI_clamp (by omega)
  refine nm_e ⟨vp_in_nI hp (by decide), ?_⟩
  rw [ep]
  exact tk_yIn0 63 hs (br_t rfl (H _ h))
end
end
section
def tk_O (ou : Nat → Int32) (m : Nat) : Prop := ∀ k, m ≤ k → k < 32 → ou k = 0
/-- the two states are related; Bd bounds what was printed; K is what else is known -/
def tk_RK (Bd : Nat) (K : (Nat → Int32) → (Nat → Int32) → Nat → Prop) (u : SX) (v : SY) : Prop := ∃ (n m : Nat) (lv : Int32) (xc : Int64) (cw cn st sx sy rs pa rg me ds pw pl qu ou : Nat → Int32), u = (nI n, nI m, xc, lv, cw, cn, st, sx, rs, pa, rg, me, ds, pw, pl, qu, ou) ∧ v = (nI n, xc, nI m, cw, cn, st, pa, sy, rg, ds, me, pw, pl, qu, ou) ∧ tk_V st pa ds pl qu n ∧ tk_SP 6 st sx rs sy ∧ tk_C cw ∧ m ≤ Bd ∧ tk_O ou m ∧ K st qu n
def tk_K (p : Nat) (g y : Int32) : (Nat → Int32) → (Nat → Int32) → Nat → Prop := fun st qu n => tk_out qu n p ∧ ((st p = 1 ∧ g = y) ∨ (st p ≠ 1 ∧ g = 0))
theorem tk_fs_n1 (st pa : Nat → Int32) (p : Nat) : tk_fs st pa p p ≠ 1 := by
  rcases tk_fs_p st pa p with a | a
  · rw [a]; decide
  · rw [a]; decide
theorem tk_fkrg {rg : Nat → Int32} {p c a : Nat} {x : Int32} (hpc : p ≠ c) (ha : a < 4) : upd (upd (tk_y rg (4 * c) (4 * p) 4) (4 * p + a) x) (4 * c + a) (-1) = upd (tk_y (upd rg (4 * p + a) (-1)) (4 * c) (4 * p) 4) (4 * p + a) x := by
  funext q
  refine tk_uc (P := fun z => z = upd (tk_y (upd rg (4 * p + a) (-1)) (4 * c) (4 * p) 4) (4 * p + a) x q) (fun e => ?_) (fun e => ?_)
  · rw [pk_un (by omega), tk_yin (by omega) (by omega), e]
    have k : 4 * p + (4 * c + a - 4 * c) = 4 * p + a := by omega
    rw [k, pk_us]
  · refine tk_uc (P := fun z => z = upd (tk_y (upd rg (4 * p + a) (-1)) (4 * c) (4 * p) 4) (4 * p + a) x q) (fun e2 => ?_) (fun e2 => ?_)
    · rw [e2, pk_us]
    · rw [pk_un e2]
      by_cases k : 4 * c ≤ q ∧ q < 4 * c + 4
      · rw [tk_yin k.1 k.2, tk_yin k.1 k.2, pk_un (by omega)]
      · rw [tk_yout (by omega), tk_yout (by omega), pk_un e2]
theorem tk_pk1 : ∀ k, k < 3 → (1 : Int32) + 2 * nI k = nI (1 + 2 * k) := by decide +kernel
theorem tk_pk2 : ∀ k, k < 3 → (2 : Int32) + 2 * nI k = nI (2 + 2 * k) := by decide +kernel
section
variable {pc lv : Int32} {xc : Int64} {cw cn st sx sy rs pa rg me ds pw pl qu ou : Nat → Int32}
theorem tk_mk {n m Bd : Nat} {K : (Nat → Int32) → (Nat → Int32) → Nat → Prop} (V : tk_V st pa ds pl qu n) (S : tk_SP 6 st sx rs sy) (C : tk_C cw) (hm : m ≤ Bd) (O : tk_O ou m) (k : K st qu n) : tk_RK Bd K (nI n, nI m, xc, lv, cw, cn, st, sx, rs, pa, rg, me, ds, pw, pl, qu, ou) (nI n, xc, nI m, cw, cn, st, pa, sy, rg, ds, me, pw, pl, qu, ou) := ⟨n, m, lv, xc, cw, cn, st, sx, sy, rs, pa, rg, me, ds, pw, pl, qu, ou, rfl, rfl, V, S, C, hm, O, k⟩
theorem tk_ex_0 {n m p i w Bd : Nat} (hp : p < 6) (V : tk_V st pa ds pl qu n) (S : tk_SP 6 st sx rs sy) (C : tk_C cw) (hm : m ≤ Bd) (hB : Bd < 2 ^ 30) (O : tk_O ou m) (h1 : st p = 1) (ho : tk_out qu n p) (G : tk_G cw sx rg ds pl p) (hi : i < 64) (hs : sx p = nI i) (hw : w < 512) (hc : cw i = nI w) (o : w % 32 = 0) : ∃ u' v' g, (∀ post : SX → Prop, post u' → wpX_execute post (nI n, nI m, xc, lv, cw, cn, st, sx, rs, pa, rg, me, ds, pw, pl, qu, ou) (nI p)) ∧ (∀ post : Int32 → SY → Prop, post g v' → wpY_execute post (nI n, xc, nI m, cw, cn, st, pa, sy, rg, ds, me, pw, pl, qu, ou) (nI p)) ∧ tk_RK (Bd + 1) (tk_K p g 1) u' v' := by
  have vq := V.2.2.2.2.2
  have ve := V.2.2.1
  have vl := V.2.2.2.1
  have hq : n ≤ 6 := tk_Q6 vq
  have h0 : st p ≠ 0 := by rw [h1]; decide
  have hpv := V.2.2.2.2.1 p hp h0
  have hpn : pa p ≠ nI p := tk_VPn V.2.2.2.2.1 hp h0
  have hsy : sy p = nI i := ((S p hp (by omega)).1 (Or.inl h1)).trans hs
  have S1 : tk_SP p st (upd sx p (nI i + 1)) rs sy := tk_SP_x S
  have S2 : tk_SP 6 st (upd sx p (nI i + 1)) rs (upd sy p (sy p + 1)) := tk_SP_set S1 h1 (by rw [pk_us, hsy])
  have hA : (4 * p + w / 32 % 4) < 24 := by omega
  have hB' : (4 * p + w / 128) < 24 := by omega
  have ha : w / 32 % 4 < 4 := by omega
  have hb : w / 128 < 4 := by omega
  exact ⟨(nI (tk_lv qu (nI p) n).2, nI m, xc + 1, lv, cw, cn, tk_fs st pa p, upd sx p (nI i + 1), upd rs p (rg (4 * p + w / 32 % 4)), tk_cp st pa p 6, rg, me, tk_z ds (4 * p) 4, pw, pl, (tk_lv qu (nI p) n).1, ou), (nI (tk_lv qu (nI p) n).2, xc + 1, nI m, cw, cn, tk_fs st pa p, tk_cp st pa p 6, upd sy p (rg (4 * p + w / 32 % 4)), rg, tk_z ds (4 * p) 4, me, pw, pl, (tk_lv qu (nI p) n).1, ou), 0, fun post h => tk_xex_0 hp hi hs hw hc rfl rfl o (fun Q k => tk_xFin hp hq hpn k) h, fun post h => tk_yex_0 hp hi hsy hw hc rfl rfl o (fun Q k => tk_yFin hp hq hpv hpn k) h, tk_mk (tk_V_fin V hp h0) (tk_SP_fin6 S1) C (by omega) O ⟨tk_lo p vq, Or.inr ⟨tk_fs_n1 _ _ _, rfl⟩⟩⟩
theorem tk_ex_1 {n m p i w Bd : Nat} (hp : p < 6) (V : tk_V st pa ds pl qu n) (S : tk_SP 6 st sx rs sy) (C : tk_C cw) (hm : m ≤ Bd) (hB : Bd < 2 ^ 30) (O : tk_O ou m) (h1 : st p = 1) (ho : tk_out qu n p) (G : tk_G cw sx rg ds pl p) (hi : i < 64) (hs : sx p = nI i) (hw : w < 512) (hc : cw i = nI w) (o : w % 32 = 1) : ∃ u' v' g, (∀ post : SX → Prop, post u' → wpX_execute post (nI n, nI m, xc, lv, cw, cn, st, sx, rs, pa, rg, me, ds, pw, pl, qu, ou) (nI p)) ∧ (∀ post : Int32 → SY → Prop, post g v' → wpY_execute post (nI n, xc, nI m, cw, cn, st, pa, sy, rg, ds, me, pw, pl, qu, ou) (nI p)) ∧ tk_RK (Bd + 1) (tk_K p g 1) u' v' := by
  have vq := V.2.2.2.2.2
  have ve := V.2.2.1
  have vl := V.2.2.2.1
  have hq : n ≤ 6 := tk_Q6 vq
  have h0 : st p ≠ 0 := by rw [h1]; decide
  have hpv := V.2.2.2.2.1 p hp h0
  have hpn : pa p ≠ nI p := tk_VPn V.2.2.2.2.1 hp h0
  have hsy : sy p = nI i := ((S p hp (by omega)).1 (Or.inl h1)).trans hs
  have S1 : tk_SP p st (upd sx p (nI i + 1)) rs sy := tk_SP_x S
  have S2 : tk_SP 6 st (upd sx p (nI i + 1)) rs (upd sy p (sy p + 1)) := tk_SP_set S1 h1 (by rw [pk_us, hsy])
  have hA : (4 * p + w / 32 % 4) < 24 := by omega
  have hB' : (4 * p + w / 128) < 24 := by omega
  have ha : w / 32 % 4 < 4 := by omega
  have hb : w / 128 < 4 := by omega
  exact ⟨(nI n, nI m, xc + 1, lv, cw, cn, st, upd sx p (nI i + 1), rs, pa, upd rg (4 * p + w / 32 % 4) (tk_val 1 (rg (4 * p + w / 32 % 4)) (rg (4 * p + w / 128)) (cn i)), me, ds, pw, pl, qu, ou), (nI n, xc + 1, nI m, cw, cn, st, pa, upd sy p (sy p + 1), upd rg (4 * p + w / 32 % 4) (tk_val 1 (rg (4 * p + w / 32 % 4)) (rg (4 * p + w / 128)) (cn i)), ds, me, pw, pl, qu, ou), 1, fun post h => tk_xex_1 hp hi hs hw hc rfl rfl o (fun Q k => tk_xCp (by decide) (by decide) hA hB' k) h, fun post h => tk_yex_1 hp hi hsy hw hc rfl rfl o h, tk_mk V S2 C (by omega) O ⟨ho, Or.inl ⟨h1, rfl⟩⟩⟩
theorem tk_ex_2 {n m p i w Bd : Nat} (hp : p < 6) (V : tk_V st pa ds pl qu n) (S : tk_SP 6 st sx rs sy) (C : tk_C cw) (hm : m ≤ Bd) (hB : Bd < 2 ^ 30) (O : tk_O ou m) (h1 : st p = 1) (ho : tk_out qu n p) (G : tk_G cw sx rg ds pl p) (hi : i < 64) (hs : sx p = nI i) (hw : w < 512) (hc : cw i = nI w) (o : w % 32 = 2) : ∃ u' v' g, (∀ post : SX → Prop, post u' → wpX_execute post (nI n, nI m, xc, lv, cw, cn, st, sx, rs, pa, rg, me, ds, pw, pl, qu, ou) (nI p)) ∧ (∀ post : Int32 → SY → Prop, post g v' → wpY_execute post (nI n, xc, nI m, cw, cn, st, pa, sy, rg, ds, me, pw, pl, qu, ou) (nI p)) ∧ tk_RK (Bd + 1) (tk_K p g 1) u' v' := by
  have vq := V.2.2.2.2.2
  have ve := V.2.2.1
  have vl := V.2.2.2.1
  have hq : n ≤ 6 := tk_Q6 vq
  have h0 : st p ≠ 0 := by rw [h1]; decide
  have hpv := V.2.2.2.2.1 p hp h0
  have hpn : pa p ≠ nI p := tk_VPn V.2.2.2.2.1 hp h0
  have hsy : sy p = nI i := ((S p hp (by omega)).1 (Or.inl h1)).trans hs
  have S1 : tk_SP p st (upd sx p (nI i + 1)) rs sy := tk_SP_x S
  have S2 : tk_SP 6 st (upd sx p (nI i + 1)) rs (upd sy p (sy p + 1)) := tk_SP_set S1 h1 (by rw [pk_us, hsy])
  have hA : (4 * p + w / 32 % 4) < 24 := by omega
  have hB' : (4 * p + w / 128) < 24 := by omega
  have ha : w / 32 % 4 < 4 := by omega
  have hb : w / 128 < 4 := by omega
  exact ⟨(nI n, nI m, xc + 1, lv, cw, cn, st, upd sx p (nI i + 1), rs, pa, upd rg (4 * p + w / 32 % 4) (tk_val 2 (rg (4 * p + w / 32 % 4)) (rg (4 * p + w / 128)) (cn i)), me, ds, pw, pl, qu, ou), (nI n, xc + 1, nI m, cw, cn, st, pa, upd sy p (sy p + 1), upd rg (4 * p + w / 32 % 4) (tk_val 2 (rg (4 * p + w / 32 % 4)) (rg (4 * p + w / 128)) (cn i)), ds, me, pw, pl, qu, ou), 1, fun post h => tk_xex_2 hp hi hs hw hc rfl rfl o (fun Q k => tk_xCp (by decide) (by decide) hA hB' k) h, fun post h => tk_yex_2 hp hi hsy hw hc rfl rfl o h, tk_mk V S2 C (by omega) O ⟨ho, Or.inl ⟨h1, rfl⟩⟩⟩
theorem tk_ex_3 {n m p i w Bd : Nat} (hp : p < 6) (V : tk_V st pa ds pl qu n) (S : tk_SP 6 st sx rs sy) (C : tk_C cw) (hm : m ≤ Bd) (hB : Bd < 2 ^ 30) (O : tk_O ou m) (h1 : st p = 1) (ho : tk_out qu n p) (G : tk_G cw sx rg ds pl p) (hi : i < 64) (hs : sx p = nI i) (hw : w < 512) (hc : cw i = nI w) (o : w % 32 = 3) : ∃ u' v' g, (∀ post : SX → Prop, post u' → wpX_execute post (nI n, nI m, xc, lv, cw, cn, st, sx, rs, pa, rg, me, ds, pw, pl, qu, ou) (nI p)) ∧ (∀ post : Int32 → SY → Prop, post g v' → wpY_execute post (nI n, xc, nI m, cw, cn, st, pa, sy, rg, ds, me, pw, pl, qu, ou) (nI p)) ∧ tk_RK (Bd + 1) (tk_K p g 1) u' v' := by
  have vq := V.2.2.2.2.2
  have ve := V.2.2.1
  have vl := V.2.2.2.1
  have hq : n ≤ 6 := tk_Q6 vq
  have h0 : st p ≠ 0 := by rw [h1]; decide
  have hpv := V.2.2.2.2.1 p hp h0
  have hpn : pa p ≠ nI p := tk_VPn V.2.2.2.2.1 hp h0
  have hsy : sy p = nI i := ((S p hp (by omega)).1 (Or.inl h1)).trans hs
  have S1 : tk_SP p st (upd sx p (nI i + 1)) rs sy := tk_SP_x S
  have S2 : tk_SP 6 st (upd sx p (nI i + 1)) rs (upd sy p (sy p + 1)) := tk_SP_set S1 h1 (by rw [pk_us, hsy])
  have hA : (4 * p + w / 32 % 4) < 24 := by omega
  have hB' : (4 * p + w / 128) < 24 := by omega
  have ha : w / 32 % 4 < 4 := by omega
  have hb : w / 128 < 4 := by omega
  exact ⟨(nI n, nI m, xc + 1, lv, cw, cn, st, upd sx p (nI i + 1), rs, pa, upd rg (4 * p + w / 32 % 4) (tk_val 3 (rg (4 * p + w / 32 % 4)) (rg (4 * p + w / 128)) (cn i)), me, ds, pw, pl, qu, ou), (nI n, xc + 1, nI m, cw, cn, st, pa, upd sy p (sy p + 1), upd rg (4 * p + w / 32 % 4) (tk_val 3 (rg (4 * p + w / 32 % 4)) (rg (4 * p + w / 128)) (cn i)), ds, me, pw, pl, qu, ou), 1, fun post h => tk_xex_3 hp hi hs hw hc rfl rfl o (fun Q k => tk_xCp (by decide) (by decide) hA hB' k) h, fun post h => tk_yex_3 hp hi hsy hw hc rfl rfl o h, tk_mk V S2 C (by omega) O ⟨ho, Or.inl ⟨h1, rfl⟩⟩⟩
theorem tk_ex_4 {n m p i w Bd : Nat} (hp : p < 6) (V : tk_V st pa ds pl qu n) (S : tk_SP 6 st sx rs sy) (C : tk_C cw) (hm : m ≤ Bd) (hB : Bd < 2 ^ 30) (O : tk_O ou m) (h1 : st p = 1) (ho : tk_out qu n p) (G : tk_G cw sx rg ds pl p) (hi : i < 64) (hs : sx p = nI i) (hw : w < 512) (hc : cw i = nI w) (o : w % 32 = 4) : ∃ u' v' g, (∀ post : SX → Prop, post u' → wpX_execute post (nI n, nI m, xc, lv, cw, cn, st, sx, rs, pa, rg, me, ds, pw, pl, qu, ou) (nI p)) ∧ (∀ post : Int32 → SY → Prop, post g v' → wpY_execute post (nI n, xc, nI m, cw, cn, st, pa, sy, rg, ds, me, pw, pl, qu, ou) (nI p)) ∧ tk_RK (Bd + 1) (tk_K p g 1) u' v' := by
  have vq := V.2.2.2.2.2
  have ve := V.2.2.1
  have vl := V.2.2.2.1
  have hq : n ≤ 6 := tk_Q6 vq
  have h0 : st p ≠ 0 := by rw [h1]; decide
  have hpv := V.2.2.2.2.1 p hp h0
  have hpn : pa p ≠ nI p := tk_VPn V.2.2.2.2.1 hp h0
  have hsy : sy p = nI i := ((S p hp (by omega)).1 (Or.inl h1)).trans hs
  have S1 : tk_SP p st (upd sx p (nI i + 1)) rs sy := tk_SP_x S
  have S2 : tk_SP 6 st (upd sx p (nI i + 1)) rs (upd sy p (sy p + 1)) := tk_SP_set S1 h1 (by rw [pk_us, hsy])
  have hA : (4 * p + w / 32 % 4) < 24 := by omega
  have hB' : (4 * p + w / 128) < 24 := by omega
  have ha : w / 32 % 4 < 4 := by omega
  have hb : w / 128 < 4 := by omega
  exact ⟨(nI n, nI m, xc + 1, lv, cw, cn, st, upd sx p (nI i + 1), rs, pa, upd rg (4 * p + w / 32 % 4) (tk_val 4 (rg (4 * p + w / 32 % 4)) (rg (4 * p + w / 128)) (cn i)), me, ds, pw, pl, qu, ou), (nI n, xc + 1, nI m, cw, cn, st, pa, upd sy p (sy p + 1), upd rg (4 * p + w / 32 % 4) (tk_val 4 (rg (4 * p + w / 32 % 4)) (rg (4 * p + w / 128)) (cn i)), ds, me, pw, pl, qu, ou), 1, fun post h => tk_xex_4 hp hi hs hw hc rfl rfl o (fun Q k => tk_xCp (by decide) (by decide) hA hB' k) h, fun post h => tk_yex_4 hp hi hsy hw hc rfl rfl o h, tk_mk V S2 C (by omega) O ⟨ho, Or.inl ⟨h1, rfl⟩⟩⟩
theorem tk_ex_5 {n m p i w Bd : Nat} (hp : p < 6) (V : tk_V st pa ds pl qu n) (S : tk_SP 6 st sx rs sy) (C : tk_C cw) (hm : m ≤ Bd) (hB : Bd < 2 ^ 30) (O : tk_O ou m) (h1 : st p = 1) (ho : tk_out qu n p) (G : tk_G cw sx rg ds pl p) (hi : i < 64) (hs : sx p = nI i) (hw : w < 512) (hc : cw i = nI w) (o : w % 32 = 5) : ∃ u' v' g, (∀ post : SX → Prop, post u' → wpX_execute post (nI n, nI m, xc, lv, cw, cn, st, sx, rs, pa, rg, me, ds, pw, pl, qu, ou) (nI p)) ∧ (∀ post : Int32 → SY → Prop, post g v' → wpY_execute post (nI n, xc, nI m, cw, cn, st, pa, sy, rg, ds, me, pw, pl, qu, ou) (nI p)) ∧ tk_RK (Bd + 1) (tk_K p g 1) u' v' := by
  have vq := V.2.2.2.2.2
  have ve := V.2.2.1
  have vl := V.2.2.2.1
  have hq : n ≤ 6 := tk_Q6 vq
  have h0 : st p ≠ 0 := by rw [h1]; decide
  have hpv := V.2.2.2.2.1 p hp h0
  have hpn : pa p ≠ nI p := tk_VPn V.2.2.2.2.1 hp h0
  have hsy : sy p = nI i := ((S p hp (by omega)).1 (Or.inl h1)).trans hs
  have S1 : tk_SP p st (upd sx p (nI i + 1)) rs sy := tk_SP_x S
  have S2 : tk_SP 6 st (upd sx p (nI i + 1)) rs (upd sy p (sy p + 1)) := tk_SP_set S1 h1 (by rw [pk_us, hsy])
  have hA : (4 * p + w / 32 % 4) < 24 := by omega
  have hB' : (4 * p + w / 128) < 24 := by omega
  have ha : w / 32 % 4 < 4 := by omega
  have hb : w / 128 < 4 := by omega
  exact ⟨(nI n, nI m, xc + 1, lv, cw, cn, st, upd sx p (nI i + 1), rs, pa, upd rg (4 * p + w / 32 % 4) (tk_val 5 (rg (4 * p + w / 32 % 4)) (rg (4 * p + w / 128)) (cn i)), me, ds, pw, pl, qu, ou), (nI n, xc + 1, nI m, cw, cn, st, pa, upd sy p (sy p + 1), upd rg (4 * p + w / 32 % 4) (tk_val 5 (rg (4 * p + w / 32 % 4)) (rg (4 * p + w / 128)) (cn i)), ds, me, pw, pl, qu, ou), 1, fun post h => tk_xex_5 hp hi hs hw hc rfl rfl o (fun Q k => tk_xCp (by decide) (by decide) hA hB' k) h, fun post h => tk_yex_5 hp hi hsy hw hc rfl rfl o h, tk_mk V S2 C (by omega) O ⟨ho, Or.inl ⟨h1, rfl⟩⟩⟩
theorem tk_ex_6 {n m p i w Bd : Nat} (hp : p < 6) (V : tk_V st pa ds pl qu n) (S : tk_SP 6 st sx rs sy) (C : tk_C cw) (hm : m ≤ Bd) (hB : Bd < 2 ^ 30) (O : tk_O ou m) (h1 : st p = 1) (ho : tk_out qu n p) (G : tk_G cw sx rg ds pl p) (hi : i < 64) (hs : sx p = nI i) (hw : w < 512) (hc : cw i = nI w) (o : w % 32 = 6) : ∃ u' v' g, (∀ post : SX → Prop, post u' → wpX_execute post (nI n, nI m, xc, lv, cw, cn, st, sx, rs, pa, rg, me, ds, pw, pl, qu, ou) (nI p)) ∧ (∀ post : Int32 → SY → Prop, post g v' → wpY_execute post (nI n, xc, nI m, cw, cn, st, pa, sy, rg, ds, me, pw, pl, qu, ou) (nI p)) ∧ tk_RK (Bd + 1) (tk_K p g 1) u' v' := by
  have vq := V.2.2.2.2.2
  have ve := V.2.2.1
  have vl := V.2.2.2.1
  have hq : n ≤ 6 := tk_Q6 vq
  have h0 : st p ≠ 0 := by rw [h1]; decide
  have hpv := V.2.2.2.2.1 p hp h0
  have hpn : pa p ≠ nI p := tk_VPn V.2.2.2.2.1 hp h0
  have hsy : sy p = nI i := ((S p hp (by omega)).1 (Or.inl h1)).trans hs
  have S1 : tk_SP p st (upd sx p (nI i + 1)) rs sy := tk_SP_x S
  have S2 : tk_SP 6 st (upd sx p (nI i + 1)) rs (upd sy p (sy p + 1)) := tk_SP_set S1 h1 (by rw [pk_us, hsy])
  have hA : (4 * p + w / 32 % 4) < 24 := by omega
  have hB' : (4 * p + w / 128) < 24 := by omega
  have ha : w / 32 % 4 < 4 := by omega
  have hb : w / 128 < 4 := by omega
  exact ⟨(nI n, nI m, xc + 1, lv, cw, cn, st, upd sx p (nI i + 1), rs, pa, upd rg (4 * p + w / 32 % 4) (tk_val 6 (rg (4 * p + w / 32 % 4)) (rg (4 * p + w / 128)) (cn i)), me, ds, pw, pl, qu, ou), (nI n, xc + 1, nI m, cw, cn, st, pa, upd sy p (sy p + 1), upd rg (4 * p + w / 32 % 4) (tk_val 6 (rg (4 * p + w / 32 % 4)) (rg (4 * p + w / 128)) (cn i)), ds, me, pw, pl, qu, ou), 1, fun post h => tk_xex_6 hp hi hs hw hc rfl rfl o (fun Q k => tk_xCp (by decide) (by decide) hA hB' k) h, fun post h => tk_yex_6 hp hi hsy hw hc rfl rfl o h, tk_mk V S2 C (by omega) O ⟨ho, Or.inl ⟨h1, rfl⟩⟩⟩
theorem tk_ex_7 {n m p i w Bd : Nat} (hp : p < 6) (V : tk_V st pa ds pl qu n) (S : tk_SP 6 st sx rs sy) (C : tk_C cw) (hm : m ≤ Bd) (hB : Bd < 2 ^ 30) (O : tk_O ou m) (h1 : st p = 1) (ho : tk_out qu n p) (G : tk_G cw sx rg ds pl p) (hi : i < 64) (hs : sx p = nI i) (hw : w < 512) (hc : cw i = nI w) (o : w % 32 = 7) : ∃ u' v' g, (∀ post : SX → Prop, post u' → wpX_execute post (nI n, nI m, xc, lv, cw, cn, st, sx, rs, pa, rg, me, ds, pw, pl, qu, ou) (nI p)) ∧ (∀ post : Int32 → SY → Prop, post g v' → wpY_execute post (nI n, xc, nI m, cw, cn, st, pa, sy, rg, ds, me, pw, pl, qu, ou) (nI p)) ∧ tk_RK (Bd + 1) (tk_K p g 1) u' v' := by
  have vq := V.2.2.2.2.2
  have ve := V.2.2.1
  have vl := V.2.2.2.1
  have hq : n ≤ 6 := tk_Q6 vq
  have h0 : st p ≠ 0 := by rw [h1]; decide
  have hpv := V.2.2.2.2.1 p hp h0
  have hpn : pa p ≠ nI p := tk_VPn V.2.2.2.2.1 hp h0
  have hsy : sy p = nI i := ((S p hp (by omega)).1 (Or.inl h1)).trans hs
  have S1 : tk_SP p st (upd sx p (nI i + 1)) rs sy := tk_SP_x S
  have S2 : tk_SP 6 st (upd sx p (nI i + 1)) rs (upd sy p (sy p + 1)) := tk_SP_set S1 h1 (by rw [pk_us, hsy])
  have hA : (4 * p + w / 32 % 4) < 24 := by omega
  have hB' : (4 * p + w / 128) < 24 := by omega
  have ha : w / 32 % 4 < 4 := by omega
  have hb : w / 128 < 4 := by omega
  exact ⟨(nI n, nI m, xc + 1, lv, cw, cn, st, upd sx p (nI i + 1), rs, pa, upd rg (4 * p + w / 32 % 4) (tk_val 7 (rg (4 * p + w / 32 % 4)) (rg (4 * p + w / 128)) (cn i)), me, ds, pw, pl, qu, ou), (nI n, xc + 1, nI m, cw, cn, st, pa, upd sy p (sy p + 1), upd rg (4 * p + w / 32 % 4) (tk_val 7 (rg (4 * p + w / 32 % 4)) (rg (4 * p + w / 128)) (cn i)), ds, me, pw, pl, qu, ou), 1, fun post h => tk_xex_7 hp hi hs hw hc rfl rfl o (fun Q k => tk_xCp (by decide) (by decide) hA hB' k) h, fun post h => tk_yex_7 hp hi hsy hw hc rfl rfl o h, tk_mk V S2 C (by omega) O ⟨ho, Or.inl ⟨h1, rfl⟩⟩⟩
theorem tk_ex_8 {n m p i w Bd : Nat} (hp : p < 6) (V : tk_V st pa ds pl qu n) (S : tk_SP 6 st sx rs sy) (C : tk_C cw) (hm : m ≤ Bd) (hB : Bd < 2 ^ 30) (O : tk_O ou m) (h1 : st p = 1) (ho : tk_out qu n p) (G : tk_G cw sx rg ds pl p) (hi : i < 64) (hs : sx p = nI i) (hw : w < 512) (hc : cw i = nI w) (o : w % 32 = 8) : ∃ u' v' g, (∀ post : SX → Prop, post u' → wpX_execute post (nI n, nI m, xc, lv, cw, cn, st, sx, rs, pa, rg, me, ds, pw, pl, qu, ou) (nI p)) ∧ (∀ post : Int32 → SY → Prop, post g v' → wpY_execute post (nI n, xc, nI m, cw, cn, st, pa, sy, rg, ds, me, pw, pl, qu, ou) (nI p)) ∧ tk_RK (Bd + 1) (tk_K p g 1) u' v' := by
  have vq := V.2.2.2.2.2
  have ve := V.2.2.1
  have vl := V.2.2.2.1
  have hq : n ≤ 6 := tk_Q6 vq
  have h0 : st p ≠ 0 := by rw [h1]; decide
  have hpv := V.2.2.2.2.1 p hp h0
  have hpn : pa p ≠ nI p := tk_VPn V.2.2.2.2.1 hp h0
  have hsy : sy p = nI i := ((S p hp (by omega)).1 (Or.inl h1)).trans hs
  have S1 : tk_SP p st (upd sx p (nI i + 1)) rs sy := tk_SP_x S
  have S2 : tk_SP 6 st (upd sx p (nI i + 1)) rs (upd sy p (sy p + 1)) := tk_SP_set S1 h1 (by rw [pk_us, hsy])
  have hA : (4 * p + w / 32 % 4) < 24 := by omega
  have hB' : (4 * p + w / 128) < 24 := by omega
  have ha : w / 32 % 4 < 4 := by omega
  have hb : w / 128 < 4 := by omega
  rcases tk_ix (rg (4 * p + w / 128) + cn i) (n := 32) (by decide) with z | z | ⟨j, hj, ej⟩
  · exact ⟨(nI (tk_lv qu (nI p) n).2, nI m, xc + 1, lv, cw, cn, tk_fs st pa p, upd sx p (nI i + 1), upd rs p (-1), tk_cp st pa p 6, rg, me, tk_z ds (4 * p) 4, pw, pl, (tk_lv qu (nI p) n).1, ou), (nI (tk_lv qu (nI p) n).2, xc + 1, nI m, cw, cn, tk_fs st pa p, tk_cp st pa p 6, upd sy p (-1), rg, tk_z ds (4 * p) 4, me, pw, pl, (tk_lv qu (nI p) n).1, ou), 0, fun post h => tk_xex_8 hp hi hs hw hc rfl rfl o (fun Q k => tk_xLd0 (Or.inl z) hp hq hpn k) h, fun post h => tk_yex_8o hp hi hsy hw hc rfl rfl o (Or.inl z) (fun Q k => tk_yFin hp hq hpv hpn k) h, tk_mk (tk_V_fin V hp h0) (tk_SP_fin6 S1) C (by omega) O ⟨tk_lo p vq, Or.inr ⟨tk_fs_n1 _ _ _, rfl⟩⟩⟩
  · exact ⟨(nI (tk_lv qu (nI p) n).2, nI m, xc + 1, lv, cw, cn, tk_fs st pa p, upd sx p (nI i + 1), upd rs p (-1), tk_cp st pa p 6, rg, me, tk_z ds (4 * p) 4, pw, pl, (tk_lv qu (nI p) n).1, ou), (nI (tk_lv qu (nI p) n).2, xc + 1, nI m, cw, cn, tk_fs st pa p, tk_cp st pa p 6, upd sy p (-1), rg, tk_z ds (4 * p) 4, me, pw, pl, (tk_lv qu (nI p) n).1, ou), 0, fun post h => tk_xex_8 hp hi hs hw hc rfl rfl o (fun Q k => tk_xLd0 (Or.inr z) hp hq hpn k) h, fun post h => tk_yex_8o hp hi hsy hw hc rfl rfl o (Or.inr z) (fun Q k => tk_yFin hp hq hpv hpn k) h, tk_mk (tk_V_fin V hp h0) (tk_SP_fin6 S1) C (by omega) O ⟨tk_lo p vq, Or.inr ⟨tk_fs_n1 _ _ _, rfl⟩⟩⟩
  · exact ⟨(nI n, nI m, xc + 1, lv, cw, cn, st, upd sx p (nI i + 1), rs, pa, upd rg (4 * p + w / 32 % 4) (me (32 * p + j)), me, ds, pw, pl, qu, ou), (nI n, xc + 1, nI m, cw, cn, st, pa, upd sy p (sy p + 1), upd rg (4 * p + w / 32 % 4) (me (32 * p + j)), ds, me, pw, pl, qu, ou), 1, fun post h => tk_xex_8 hp hi hs hw hc rfl rfl o (fun Q k => by rw [ej]; exact tk_xLd1 hp hA hj k) h, fun post h => tk_yex_8 hp hi hsy hw hc rfl rfl o ej hj h, tk_mk V S2 C (by omega) O ⟨ho, Or.inl ⟨h1, rfl⟩⟩⟩
theorem tk_ex_9 {n m p i w Bd : Nat} (hp : p < 6) (V : tk_V st pa ds pl qu n) (S : tk_SP 6 st sx rs sy) (C : tk_C cw) (hm : m ≤ Bd) (hB : Bd < 2 ^ 30) (O : tk_O ou m) (h1 : st p = 1) (ho : tk_out qu n p) (G : tk_G cw sx rg ds pl p) (hi : i < 64) (hs : sx p = nI i) (hw : w < 512) (hc : cw i = nI w) (o : w % 32 = 9) : ∃ u' v' g, (∀ post : SX → Prop, post u' → wpX_execute post (nI n, nI m, xc, lv, cw, cn, st, sx, rs, pa, rg, me, ds, pw, pl, qu, ou) (nI p)) ∧ (∀ post : Int32 → SY → Prop, post g v' → wpY_execute post (nI n, xc, nI m, cw, cn, st, pa, sy, rg, ds, me, pw, pl, qu, ou) (nI p)) ∧ tk_RK (Bd + 1) (tk_K p g 1) u' v' := by
  have vq := V.2.2.2.2.2
  have ve := V.2.2.1
  have vl := V.2.2.2.1
  have hq : n ≤ 6 := tk_Q6 vq
  have h0 : st p ≠ 0 := by rw [h1]; decide
  have hpv := V.2.2.2.2.1 p hp h0
  have hpn : pa p ≠ nI p := tk_VPn V.2.2.2.2.1 hp h0
  have hsy : sy p = nI i := ((S p hp (by omega)).1 (Or.inl h1)).trans hs
  have S1 : tk_SP p st (upd sx p (nI i + 1)) rs sy := tk_SP_x S
  have S2 : tk_SP 6 st (upd sx p (nI i + 1)) rs (upd sy p (sy p + 1)) := tk_SP_set S1 h1 (by rw [pk_us, hsy])
  have hA : (4 * p + w / 32 % 4) < 24 := by omega
  have hB' : (4 * p + w / 128) < 24 := by omega
  have ha : w / 32 % 4 < 4 := by omega
  have hb : w / 128 < 4 := by omega
  rcases tk_ix (rg (4 * p + w / 128) + cn i) (n := 32) (by decide) with z | z | ⟨j, hj, ej⟩
  · exact ⟨(nI (tk_lv qu (nI p) n).2, nI m, xc + 1, lv, cw, cn, tk_fs st pa p, upd sx p (nI i + 1), upd rs p (-1), tk_cp st pa p 6, rg, me, tk_z ds (4 * p) 4, pw, pl, (tk_lv qu (nI p) n).1, ou), (nI (tk_lv qu (nI p) n).2, xc + 1, nI m, cw, cn, tk_fs st pa p, tk_cp st pa p 6, upd sy p (-1), rg, tk_z ds (4 * p) 4, me, pw, pl, (tk_lv qu (nI p) n).1, ou), 0, fun post h => tk_xex_9 hp hi hs hw hc rfl rfl o (fun Q k => tk_xSt0 (Or.inl z) hp hq hpn k) h, fun post h => tk_yex_9o hp hi hsy hw hc rfl rfl o (Or.inl z) (fun Q k => tk_yFin hp hq hpv hpn k) h, tk_mk (tk_V_fin V hp h0) (tk_SP_fin6 S1) C (by omega) O ⟨tk_lo p vq, Or.inr ⟨tk_fs_n1 _ _ _, rfl⟩⟩⟩
  · exact ⟨(nI (tk_lv qu (nI p) n).2, nI m, xc + 1, lv, cw, cn, tk_fs st pa p, upd sx p (nI i + 1), upd rs p (-1), tk_cp st pa p 6, rg, me, tk_z ds (4 * p) 4, pw, pl, (tk_lv qu (nI p) n).1, ou), (nI (tk_lv qu (nI p) n).2, xc + 1, nI m, cw, cn, tk_fs st pa p, tk_cp st pa p 6, upd sy p (-1), rg, tk_z ds (4 * p) 4, me, pw, pl, (tk_lv qu (nI p) n).1, ou), 0, fun post h => tk_xex_9 hp hi hs hw hc rfl rfl o (fun Q k => tk_xSt0 (Or.inr z) hp hq hpn k) h, fun post h => tk_yex_9o hp hi hsy hw hc rfl rfl o (Or.inr z) (fun Q k => tk_yFin hp hq hpv hpn k) h, tk_mk (tk_V_fin V hp h0) (tk_SP_fin6 S1) C (by omega) O ⟨tk_lo p vq, Or.inr ⟨tk_fs_n1 _ _ _, rfl⟩⟩⟩
  · exact ⟨(nI n, nI m, xc + 1, lv, cw, cn, st, upd sx p (nI i + 1), rs, pa, rg, upd me (32 * p + j) (rg (4 * p + w / 32 % 4)), ds, pw, pl, qu, ou), (nI n, xc + 1, nI m, cw, cn, st, pa, upd sy p (sy p + 1), rg, ds, upd me (32 * p + j) (rg (4 * p + w / 32 % 4)), pw, pl, qu, ou), 1, fun post h => tk_xex_9 hp hi hs hw hc rfl rfl o (fun Q k => by rw [ej]; exact tk_xSt1 hp hA hj k) h, fun post h => tk_yex_9 hp hi hsy hw hc rfl rfl o ej hj h, tk_mk V S2 C (by omega) O ⟨ho, Or.inl ⟨h1, rfl⟩⟩⟩
theorem tk_ex_10 {n m p i w Bd : Nat} (hp : p < 6) (V : tk_V st pa ds pl qu n) (S : tk_SP 6 st sx rs sy) (C : tk_C cw) (hm : m ≤ Bd) (hB : Bd < 2 ^ 30) (O : tk_O ou m) (h1 : st p = 1) (ho : tk_out qu n p) (G : tk_G cw sx rg ds pl p) (hi : i < 64) (hs : sx p = nI i) (hw : w < 512) (hc : cw i = nI w) (o : w % 32 = 10) : ∃ u' v' g, (∀ post : SX → Prop, post u' → wpX_execute post (nI n, nI m, xc, lv, cw, cn, st, sx, rs, pa, rg, me, ds, pw, pl, qu, ou) (nI p)) ∧ (∀ post : Int32 → SY → Prop, post g v' → wpY_execute post (nI n, xc, nI m, cw, cn, st, pa, sy, rg, ds, me, pw, pl, qu, ou) (nI p)) ∧ tk_RK (Bd + 1) (tk_K p g 1) u' v' := by
  have vq := V.2.2.2.2.2
  have ve := V.2.2.1
  have vl := V.2.2.2.1
  have hq : n ≤ 6 := tk_Q6 vq
  have h0 : st p ≠ 0 := by rw [h1]; decide
  have hpv := V.2.2.2.2.1 p hp h0
  have hpn : pa p ≠ nI p := tk_VPn V.2.2.2.2.1 hp h0
  have hsy : sy p = nI i := ((S p hp (by omega)).1 (Or.inl h1)).trans hs
  have S1 : tk_SP p st (upd sx p (nI i + 1)) rs sy := tk_SP_x S
  have S2 : tk_SP 6 st (upd sx p (nI i + 1)) rs (upd sy p (sy p + 1)) := tk_SP_set S1 h1 (by rw [pk_us, hsy])
  have hA : (4 * p + w / 32 % 4) < 24 := by omega
  have hB' : (4 * p + w / 128) < 24 := by omega
  have ha : w / 32 % 4 < 4 := by omega
  have hb : w / 128 < 4 := by omega
  by_cases z : rg (4 * p + w / 32 % 4) = 0
  · exact ⟨(nI n, nI m, xc + 1, lv, cw, cn, st, upd (upd sx p (nI i + 1)) p (cn i), rs, pa, rg, me, ds, pw, pl, qu, ou), (nI n, xc + 1, nI m, cw, cn, st, pa, upd sy p (cn i), rg, ds, me, pw, pl, qu, ou), 1, fun post h => tk_xex_10t hp hi hs hw hc rfl rfl o z h, fun post h => tk_yex_10t hp hi hsy hw hc rfl rfl o z h, tk_mk V (tk_SP_jump S1 h1) C (by omega) O ⟨ho, Or.inl ⟨h1, rfl⟩⟩⟩
  · exact ⟨(nI n, nI m, xc + 1, lv, cw, cn, st, upd sx p (nI i + 1), rs, pa, rg, me, ds, pw, pl, qu, ou), (nI n, xc + 1, nI m, cw, cn, st, pa, upd sy p (sy p + 1), rg, ds, me, pw, pl, qu, ou), 1, fun post h => tk_xex_10f hp hi hs hw hc rfl rfl o z h, fun post h => tk_yex_10f hp hi hsy hw hc rfl rfl o z h, tk_mk V S2 C (by omega) O ⟨ho, Or.inl ⟨h1, rfl⟩⟩⟩
theorem tk_ex_12 {n m p i w Bd : Nat} (hp : p < 6) (V : tk_V st pa ds pl qu n) (S : tk_SP 6 st sx rs sy) (C : tk_C cw) (hm : m ≤ Bd) (hB : Bd < 2 ^ 30) (O : tk_O ou m) (h1 : st p = 1) (ho : tk_out qu n p) (G : tk_G cw sx rg ds pl p) (hi : i < 64) (hs : sx p = nI i) (hw : w < 512) (hc : cw i = nI w) (o : w % 32 = 12) : ∃ u' v' g, (∀ post : SX → Prop, post u' → wpX_execute post (nI n, nI m, xc, lv, cw, cn, st, sx, rs, pa, rg, me, ds, pw, pl, qu, ou) (nI p)) ∧ (∀ post : Int32 → SY → Prop, post g v' → wpY_execute post (nI n, xc, nI m, cw, cn, st, pa, sy, rg, ds, me, pw, pl, qu, ou) (nI p)) ∧ tk_RK (Bd + 1) (tk_K p g 1) u' v' := by
  have vq := V.2.2.2.2.2
  have ve := V.2.2.1
  have vl := V.2.2.2.1
  have hq : n ≤ 6 := tk_Q6 vq
  have h0 : st p ≠ 0 := by rw [h1]; decide
  have hpv := V.2.2.2.2.1 p hp h0
  have hpn : pa p ≠ nI p := tk_VPn V.2.2.2.2.1 hp h0
  have hsy : sy p = nI i := ((S p hp (by omega)).1 (Or.inl h1)).trans hs
  have S1 : tk_SP p st (upd sx p (nI i + 1)) rs sy := tk_SP_x S
  have S2 : tk_SP 6 st (upd sx p (nI i + 1)) rs (upd sy p (sy p + 1)) := tk_SP_set S1 h1 (by rw [pk_us, hsy])
  have hA : (4 * p + w / 32 % 4) < 24 := by omega
  have hB' : (4 * p + w / 128) < 24 := by omega
  have ha : w / 32 % 4 < 4 := by omega
  have hb : w / 128 < 4 := by omega
  by_cases z : rg (4 * p + w / 32 % 4) = 0
  · exact ⟨(nI n, nI m, xc + 1, lv, cw, cn, st, upd sx p (nI i + 1), rs, pa, rg, me, ds, pw, pl, qu, ou), (nI n, xc + 1, nI m, cw, cn, st, pa, upd sy p (sy p + 1), rg, ds, me, pw, pl, qu, ou), 1, fun post h => tk_xex_12f hp hi hs hw hc rfl rfl o z h, fun post h => tk_yex_12f hp hi hsy hw hc rfl rfl o z h, tk_mk V S2 C (by omega) O ⟨ho, Or.inl ⟨h1, rfl⟩⟩⟩
  · exact ⟨(nI n, nI m, xc + 1, lv, cw, cn, st, upd (upd sx p (nI i + 1)) p (cn i), rs, pa, rg, me, ds, pw, pl, qu, ou), (nI n, xc + 1, nI m, cw, cn, st, pa, upd sy p (cn i), rg, ds, me, pw, pl, qu, ou), 1, fun post h => tk_xex_12t hp hi hs hw hc rfl rfl o z h, fun post h => tk_yex_12t hp hi hsy hw hc rfl rfl o z h, tk_mk V (tk_SP_jump S1 h1) C (by omega) O ⟨ho, Or.inl ⟨h1, rfl⟩⟩⟩
theorem tk_ex_11 {n m p i w Bd : Nat} (hp : p < 6) (V : tk_V st pa ds pl qu n) (S : tk_SP 6 st sx rs sy) (C : tk_C cw) (hm : m ≤ Bd) (hB : Bd < 2 ^ 30) (O : tk_O ou m) (h1 : st p = 1) (ho : tk_out qu n p) (G : tk_G cw sx rg ds pl p) (hi : i < 64) (hs : sx p = nI i) (hw : w < 512) (hc : cw i = nI w) (o : w % 32 = 11) : ∃ u' v' g, (∀ post : SX → Prop, post u' → wpX_execute post (nI n, nI m, xc, lv, cw, cn, st, sx, rs, pa, rg, me, ds, pw, pl, qu, ou) (nI p)) ∧ (∀ post : Int32 → SY → Prop, post g v' → wpY_execute post (nI n, xc, nI m, cw, cn, st, pa, sy, rg, ds, me, pw, pl, qu, ou) (nI p)) ∧ tk_RK (Bd + 1) (tk_K p g 1) u' v' := by
  have vq := V.2.2.2.2.2
  have ve := V.2.2.1
  have vl := V.2.2.2.1
  have hq : n ≤ 6 := tk_Q6 vq
  have h0 : st p ≠ 0 := by rw [h1]; decide
  have hpv := V.2.2.2.2.1 p hp h0
  have hpn : pa p ≠ nI p := tk_VPn V.2.2.2.2.1 hp h0
  have hsy : sy p = nI i := ((S p hp (by omega)).1 (Or.inl h1)).trans hs
  have S1 : tk_SP p st (upd sx p (nI i + 1)) rs sy := tk_SP_x S
  have S2 : tk_SP 6 st (upd sx p (nI i + 1)) rs (upd sy p (sy p + 1)) := tk_SP_set S1 h1 (by rw [pk_us, hsy])
  have hA : (4 * p + w / 32 % 4) < 24 := by omega
  have hB' : (4 * p + w / 128) < 24 := by omega
  have ha : w / 32 % 4 < 4 := by omega
  have hb : w / 128 < 4 := by omega
  exact ⟨(nI n, nI m, xc + 1, lv, cw, cn, st, upd (upd sx p (nI i + 1)) p (cn i), rs, pa, rg, me, ds, pw, pl, qu, ou), (nI n, xc + 1, nI m, cw, cn, st, pa, upd sy p (cn i), rg, ds, me, pw, pl, qu, ou), 1, fun post h => tk_xex_11 hp hi hs hw hc rfl rfl o h, fun post h => tk_yex_11 hp hi hsy hw hc rfl rfl o h, tk_mk V (tk_SP_jump S1 h1) C (by omega) O ⟨ho, Or.inl ⟨h1, rfl⟩⟩⟩
theorem tk_ex_13 {n m p i w Bd : Nat} (hp : p < 6) (V : tk_V st pa ds pl qu n) (S : tk_SP 6 st sx rs sy) (C : tk_C cw) (hm : m ≤ Bd) (hB : Bd < 2 ^ 30) (O : tk_O ou m) (h1 : st p = 1) (ho : tk_out qu n p) (G : tk_G cw sx rg ds pl p) (hi : i < 64) (hs : sx p = nI i) (hw : w < 512) (hc : cw i = nI w) (o : w % 32 = 13) : ∃ u' v' g, (∀ post : SX → Prop, post u' → wpX_execute post (nI n, nI m, xc, lv, cw, cn, st, sx, rs, pa, rg, me, ds, pw, pl, qu, ou) (nI p)) ∧ (∀ post : Int32 → SY → Prop, post g v' → wpY_execute post (nI n, xc, nI m, cw, cn, st, pa, sy, rg, ds, me, pw, pl, qu, ou) (nI p)) ∧ tk_RK (Bd + 1) (tk_K p g 1) u' v' := by
  have vq := V.2.2.2.2.2
  have ve := V.2.2.1
  have vl := V.2.2.2.1
  have hq : n ≤ 6 := tk_Q6 vq
  have h0 : st p ≠ 0 := by rw [h1]; decide
  have hpv := V.2.2.2.2.1 p hp h0
  have hpn : pa p ≠ nI p := tk_VPn V.2.2.2.2.1 hp h0
  have hsy : sy p = nI i := ((S p hp (by omega)).1 (Or.inl h1)).trans hs
  have S1 : tk_SP p st (upd sx p (nI i + 1)) rs sy := tk_SP_x S
  have S2 : tk_SP 6 st (upd sx p (nI i + 1)) rs (upd sy p (sy p + 1)) := tk_SP_set S1 h1 (by rw [pk_us, hsy])
  have hA : (4 * p + w / 32 % 4) < 24 := by omega
  have hB' : (4 * p + w / 128) < 24 := by omega
  have ha : w / 32 % 4 < 4 := by omega
  have hb : w / 128 < 4 := by omega
  obtain ⟨e, he, hX, hY, hd, hde⟩ := tk_end (ql := nI n) (pc := nI m) (lv := lv) (xc := xc + 1) (cw := cw) (cn := cn) (st := st) (sx := upd sx p (nI i + 1)) (sy := sy) (rs := rs) (pa := pa) (rg := rg) (me := me) (pw := pw) (pl := pl) (qu := qu) (ou := ou) hp hb ve
  obtain ⟨r, hF⟩ := tk_Fex (fun j => st j = 0) 6 6 0 rfl
  rcases tk_Fc hF with ⟨er, _⟩ | ⟨c, _, hc6, er, hc0⟩
  · rw [er] at hF
    exact ⟨(nI n, nI m, xc + 1, lv, cw, cn, st, upd sx p (nI i + 1), rs, pa, upd rg (4 * p + w / 32 % 4) (-2), me, ds, pw, pl, qu, ou), (nI n, xc + 1, nI m, cw, cn, st, pa, upd sy p (sy p + 1), upd rg (4 * p + w / 32 % 4) (-2), ds, me, pw, pl, qu, ou), 1, fun post h => tk_xex_13 hp hi hs hw hc rfl rfl o (fun Q k => tk_xFk0 hF hA k) h, fun post h => tk_yex_13n hp hi hsy hw hc rfl rfl o hY (fun Q k => tk_yFk0 hF k) h, tk_mk V S2 C (by omega) O ⟨ho, Or.inl ⟨h1, rfl⟩⟩⟩
  · rw [er] at hF
    have hc0' : st c = 0 := hc0
    have hpc : p ≠ c := fun z => h0 (by rw [z]; exact hc0')
    have hc1 : st c ≠ 1 := by rw [hc0']; decide
    have hn5 : n ≤ 5 := tk_Q5 vq hc6 (tk_Qo vq hc6 hc1)
    have hsc : (upd sy c (sy p + 1)) p + 1 = sy p + 1 := by rw [pk_un hpc]
    have T : tk_SP p (upd st c 1) (upd (upd sx p (nI i + 1)) c (upd sx p (nI i + 1) p)) rs (upd sy c (sy p + 1)) := by
      have k : upd sx p (nI i + 1) p = sy p + 1 := by rw [pk_us, hsy]
      rw [k]
      exact tk_SP_new S1
    have st1 : upd st c 1 p = 1 := by rw [pk_un hpc]; exact h1
    have T2 := tk_SP_set T st1 (s := upd sy c (sy p + 1) p + 1) (by rw [hsc, pk_un hpc, pk_us, hsy])
    have VE : tk_VE (tk_y ds (4 * c) (4 * p) 4) := by
      intro j hj
      by_cases k : 4 * c ≤ j ∧ j < 4 * c + 4
      · rw [tk_yin k.1 k.2]; exact ve _ (by omega)
      · rw [tk_yout (by omega)]; exact ve j hj
    exact ⟨(nI (n + 1), nI m, xc + 1, lv, cw, cn, upd st c 1, upd (upd sx p (nI i + 1)) c (upd sx p (nI i + 1) p), rs, upd pa c (nI p), upd (tk_y (upd rg (4 * p + w / 32 % 4) (-1)) (4 * c) (4 * p) 4) (4 * p + w / 32 % 4) (nI c), tk_y me (32 * c) (32 * p) 32, tk_y ds (4 * c) (4 * p) 4, pw, pl, upd qu n (nI c), ou), (nI (n + 1), xc + 1, nI m, cw, cn, upd st c 1, upd pa c (nI p), upd (upd sy c (sy p + 1)) p (upd sy c (sy p + 1) p + 1), upd (tk_y (upd rg (4 * p + w / 32 % 4) (-1)) (4 * c) (4 * p) 4) (4 * p + w / 32 % 4) (nI c), tk_y ds (4 * c) (4 * p) 4, tk_y me (32 * c) (32 * p) 32, pw, pl, upd qu n (nI c), ou), 1, fun post h => tk_xex_13 hp hi hs hw hc rfl rfl o (fun Q k => tk_xFk1 hF hp hc6 hpc hA hn5 k) h, fun post h => tk_yex_13 hp hi hsy hw hc rfl rfl o hY hc6 (fun Q k => tk_yFk1 hF hp hc6 hpc hn5 k) (by rw [tk_fkrg hpc ha]; exact h), tk_mk (tk_V_new V hc6 hc0' (Or.inr ⟨p, hp, hpc, rfl⟩) (fun j _ hj => tk_yout hj) VE) T2 C (by omega) O ⟨tk_oa ho hc6 hp hpc, Or.inl ⟨st1, rfl⟩⟩⟩
theorem tk_ex_14 {n m p i w Bd : Nat} (hp : p < 6) (V : tk_V st pa ds pl qu n) (S : tk_SP 6 st sx rs sy) (C : tk_C cw) (hm : m ≤ Bd) (hB : Bd < 2 ^ 30) (O : tk_O ou m) (h1 : st p = 1) (ho : tk_out qu n p) (G : tk_G cw sx rg ds pl p) (hi : i < 64) (hs : sx p = nI i) (hw : w < 512) (hc : cw i = nI w) (o : w % 32 = 14) : ∃ u' v' g, (∀ post : SX → Prop, post u' → wpX_execute post (nI n, nI m, xc, lv, cw, cn, st, sx, rs, pa, rg, me, ds, pw, pl, qu, ou) (nI p)) ∧ (∀ post : Int32 → SY → Prop, post g v' → wpY_execute post (nI n, xc, nI m, cw, cn, st, pa, sy, rg, ds, me, pw, pl, qu, ou) (nI p)) ∧ tk_RK (Bd + 1) (tk_K p g 1) u' v' := by
  have vq := V.2.2.2.2.2
  have ve := V.2.2.1
  have vl := V.2.2.2.1
  have hq : n ≤ 6 := tk_Q6 vq
  have h0 : st p ≠ 0 := by rw [h1]; decide
  have hpv := V.2.2.2.2.1 p hp h0
  have hpn : pa p ≠ nI p := tk_VPn V.2.2.2.2.1 hp h0
  have hsy : sy p = nI i := ((S p hp (by omega)).1 (Or.inl h1)).trans hs
  have S1 : tk_SP p st (upd sx p (nI i + 1)) rs sy := tk_SP_x S
  have S2 : tk_SP 6 st (upd sx p (nI i + 1)) rs (upd sy p (sy p + 1)) := tk_SP_set S1 h1 (by rw [pk_us, hsy])
  have hA : (4 * p + w / 32 % 4) < 24 := by omega
  have hB' : (4 * p + w / 128) < 24 := by omega
  have ha : w / 32 % 4 < 4 := by omega
  have hb : w / 128 < 4 := by omega
  obtain ⟨e, he, hX, hY, hd, hde⟩ := tk_end (ql := nI n) (pc := nI m) (lv := lv) (xc := xc + 1) (cw := cw) (cn := cn) (st := st) (sx := upd sx p (nI i + 1)) (sy := sy) (rs := rs) (pa := pa) (rg := rg) (me := me) (pw := pw) (pl := pl) (qu := qu) (ou := ou) hp hb ve
  obtain ⟨r, hF⟩ := tk_Fex (fun j => st j = 3 ∧ pa j = nI p) 6 6 0 rfl
  rcases tk_Fc hF with ⟨er, _⟩ | ⟨c, _, hc6, er, hc3⟩
  · rw [er] at hF
    exact ⟨(nI n, nI m, xc + 1, lv, cw, cn, st, upd sx p (nI i + 1), rs, pa, upd rg (4 * p + w / 32 % 4) (-1), me, ds, pw, pl, qu, ou), (nI n, xc + 1, nI m, cw, cn, st, pa, upd sy p (sy p + 1), upd rg (4 * p + w / 32 % 4) (-1), ds, me, pw, pl, qu, ou), 1, fun post h => tk_xex_14 hp hi hs hw hc rfl rfl o (fun Q k => tk_xCo0 hF hA k) h, fun post h => tk_yex_14 hp hi hsy hw hc rfl rfl o hY (fun Q k => tk_yAw0 hF hp ha k) h, tk_mk V S2 C (by omega) O ⟨ho, Or.inl ⟨h1, rfl⟩⟩⟩
  · rw [er] at hF
    have hc3' : st c = 3 ∧ pa c = nI p := hc3
    have hpc : p ≠ c := fun z => absurd (h1.symm.trans (z ▸ hc3'.1)) (by decide)
    have esc : sy c = rs c := (S c hc6 (by omega)).2 hc3'.1
    have st1 : upd st c 0 p = 1 := by rw [pk_un hpc]; exact h1
    have T : tk_SP 6 (upd st c 0) (upd sx p (nI i + 1)) rs (upd sy p (sy p + 1)) := tk_SPm S2 (fun q _ _ => tk_uc (P := fun z => z = 0 ∨ z = st q) (fun _ => Or.inl rfl) (fun _ => Or.inr rfl))
    exact ⟨(nI n, nI m, xc + 1, lv, cw, cn, upd st c 0, upd sx p (nI i + 1), rs, pa, upd (upd rg (4 * p + w / 32 % 4) (rs c)) (4 * p + w / 128) (nI c), me, ds, pw, pl, qu, ou), (nI n, xc + 1, nI m, cw, cn, upd st c 0, pa, upd sy p (sy p + 1), upd (upd rg (4 * p + w / 32 % 4) (rs c)) (4 * p + w / 128) (nI c), ds, me, pw, pl, qu, ou), 1, fun post h => tk_xex_14 hp hi hs hw hc rfl rfl o (fun Q k => tk_xCo1 hF hc6 hA hB' k) h, fun post h => tk_yex_14 hp hi hsy hw hc rfl rfl o hY (fun Q k => tk_yAw1 hF hc6 hc3'.1 hc3'.2 hp ha hb (by rw [esc]; exact k)) h, tk_mk (tk_V_free V hc6 hc3'.1) T C (by omega) O ⟨ho, Or.inl ⟨st1, rfl⟩⟩⟩
theorem tk_ex_15 {n m p i w Bd : Nat} (hp : p < 6) (V : tk_V st pa ds pl qu n) (S : tk_SP 6 st sx rs sy) (C : tk_C cw) (hm : m ≤ Bd) (hB : Bd < 2 ^ 30) (O : tk_O ou m) (h1 : st p = 1) (ho : tk_out qu n p) (G : tk_G cw sx rg ds pl p) (hi : i < 64) (hs : sx p = nI i) (hw : w < 512) (hc : cw i = nI w) (o : w % 32 = 15) : ∃ u' v' g, (∀ post : SX → Prop, post u' → wpX_execute post (nI n, nI m, xc, lv, cw, cn, st, sx, rs, pa, rg, me, ds, pw, pl, qu, ou) (nI p)) ∧ (∀ post : Int32 → SY → Prop, post g v' → wpY_execute post (nI n, xc, nI m, cw, cn, st, pa, sy, rg, ds, me, pw, pl, qu, ou) (nI p)) ∧ tk_RK (Bd + 1) (tk_K p g 1) u' v' := by
  have vq := V.2.2.2.2.2
  have ve := V.2.2.1
  have vl := V.2.2.2.1
  have hq : n ≤ 6 := tk_Q6 vq
  have h0 : st p ≠ 0 := by rw [h1]; decide
  have hpv := V.2.2.2.2.1 p hp h0
  have hpn : pa p ≠ nI p := tk_VPn V.2.2.2.2.1 hp h0
  have hsy : sy p = nI i := ((S p hp (by omega)).1 (Or.inl h1)).trans hs
  have S1 : tk_SP p st (upd sx p (nI i + 1)) rs sy := tk_SP_x S
  have S2 : tk_SP 6 st (upd sx p (nI i + 1)) rs (upd sy p (sy p + 1)) := tk_SP_set S1 h1 (by rw [pk_us, hsy])
  have hA : (4 * p + w / 32 % 4) < 24 := by omega
  have hB' : (4 * p + w / 128) < 24 := by omega
  have ha : w / 32 % 4 < 4 := by omega
  have hb : w / 128 < 4 := by omega
  obtain ⟨e, he, hX, hY, hd, hde⟩ := tk_end (ql := nI n) (pc := nI m) (lv := lv) (xc := xc + 1) (cw := cw) (cn := cn) (st := st) (sx := upd sx p (nI i + 1)) (sy := sy) (rs := rs) (pa := pa) (rg := rg) (me := me) (pw := pw) (pl := pl) (qu := qu) (ou := ou) hp hb ve
  rcases tk_POex ds p with ⟨d1, d2, k, H⟩ | H
  · have V' : tk_V st pa (upd (upd ds (4 * p + d1) (1 + 2 * nI k)) (4 * p + d2) (2 + 2 * nI k)) (upd pl k 0) qu n := by
      rw [tk_pk1 k H.2.2.1, tk_pk2 k H.2.2.1]
      have hk := H.2.2.1
      exact tk_V_pl (l := 0) (tk_V_ds (tk_V_ds V hp h1 H.1 (by omega)) hp h1 H.2.1 (by omega)) (by omega)
    exact ⟨(nI n, nI m, xc + 1, lv, cw, cn, st, upd sx p (nI i + 1), rs, pa, upd (upd rg (4 * p + w / 32 % 4) (nI d1)) (4 * p + w / 128) (nI d2), me, upd (upd ds (4 * p + d1) (1 + 2 * nI k)) (4 * p + d2) (2 + 2 * nI k), pw, upd pl k 0, qu, ou), (nI n, xc + 1, nI m, cw, cn, st, pa, upd sy p (sy p + 1), upd (upd rg (4 * p + w / 32 % 4) (nI d1)) (4 * p + w / 128) (nI d2), upd (upd ds (4 * p + d1) (1 + 2 * nI k)) (4 * p + d2) (2 + 2 * nI k), me, pw, upd pl k 0, qu, ou), 1, fun post h => tk_xex_15 hp hi hs hw hc rfl rfl o (fun Q k => tk_xOp hp hA hB' H k) h, fun post h => tk_yex_15 hp hi hsy hw hc rfl rfl o hY (fun Q k => tk_yMp hp ha hb H k) h, tk_mk V' S2 C (by omega) O ⟨ho, Or.inl ⟨h1, rfl⟩⟩⟩
  · exact ⟨(nI n, nI m, xc + 1, lv, cw, cn, st, upd sx p (nI i + 1), rs, pa, upd rg (4 * p + w / 32 % 4) (-1), me, ds, pw, pl, qu, ou), (nI n, xc + 1, nI m, cw, cn, st, pa, upd sy p (sy p + 1), upd rg (4 * p + w / 32 % 4) (-1), ds, me, pw, pl, qu, ou), 1, fun post h => tk_xex_15 hp hi hs hw hc rfl rfl o (fun Q k => tk_xOpN hp hA H k) h, fun post h => tk_yex_15 hp hi hsy hw hc rfl rfl o hY (fun Q k => tk_yMpN hp ha H k) h, tk_mk V S2 C (by omega) O ⟨ho, Or.inl ⟨h1, rfl⟩⟩⟩
theorem tk_ex_16 {n m p i w Bd : Nat} (hp : p < 6) (V : tk_V st pa ds pl qu n) (S : tk_SP 6 st sx rs sy) (C : tk_C cw) (hm : m ≤ Bd) (hB : Bd < 2 ^ 30) (O : tk_O ou m) (h1 : st p = 1) (ho : tk_out qu n p) (G : tk_G cw sx rg ds pl p) (hi : i < 64) (hs : sx p = nI i) (hw : w < 512) (hc : cw i = nI w) (o : w % 32 = 16) : ∃ u' v' g, (∀ post : SX → Prop, post u' → wpX_execute post (nI n, nI m, xc, lv, cw, cn, st, sx, rs, pa, rg, me, ds, pw, pl, qu, ou) (nI p)) ∧ (∀ post : Int32 → SY → Prop, post g v' → wpY_execute post (nI n, xc, nI m, cw, cn, st, pa, sy, rg, ds, me, pw, pl, qu, ou) (nI p)) ∧ tk_RK (Bd + 1) (tk_K p g 1) u' v' := by
  have vq := V.2.2.2.2.2
  have ve := V.2.2.1
  have vl := V.2.2.2.1
  have hq : n ≤ 6 := tk_Q6 vq
  have h0 : st p ≠ 0 := by rw [h1]; decide
  have hpv := V.2.2.2.2.1 p hp h0
  have hpn : pa p ≠ nI p := tk_VPn V.2.2.2.2.1 hp h0
  have hsy : sy p = nI i := ((S p hp (by omega)).1 (Or.inl h1)).trans hs
  have S1 : tk_SP p st (upd sx p (nI i + 1)) rs sy := tk_SP_x S
  have S2 : tk_SP 6 st (upd sx p (nI i + 1)) rs (upd sy p (sy p + 1)) := tk_SP_set S1 h1 (by rw [pk_us, hsy])
  have hA : (4 * p + w / 32 % 4) < 24 := by omega
  have hB' : (4 * p + w / 128) < 24 := by omega
  have ha : w / 32 % 4 < 4 := by omega
  have hb : w / 128 < 4 := by omega
  obtain ⟨e, he, hX, hY, hd, hde⟩ := tk_end (ql := nI n) (pc := nI m) (lv := lv) (xc := xc + 1) (cw := cw) (cn := cn) (st := st) (sx := upd sx p (nI i + 1)) (sy := sy) (rs := rs) (pa := pa) (rg := rg) (me := me) (pw := pw) (pl := pl) (qu := qu) (ou := ou) hp hb ve
  by_cases odd : e % 2 = 1
  · by_cases z : pl ((e - 1) / 2) = 0
    · exact ⟨(nI n, nI m, xc + 1, lv, cw, cn, st, upd sx p (nI i + 1), rs, pa, upd rg (4 * p + w / 32 % 4) (-2), me, ds, pw, pl, qu, ou), (nI n, xc + 1, nI m, cw, cn, st, pa, upd sy p (sy p + 1), upd rg (4 * p + w / 32 % 4) (-2), ds, me, pw, pl, qu, ou), 1, fun post h => tk_xex_16 hp hi hs hw hc rfl rfl o (fun Q k => tk_xRe1 hA hB' he hX odd z k) h, fun post h => tk_yex_16 hp hi hsy hw hc rfl rfl o hY (fun Q k => tk_yRe1 he odd z k) h, tk_mk V S2 C (by omega) O ⟨ho, Or.inl ⟨h1, rfl⟩⟩⟩
    · obtain ⟨l, hl, el⟩ := vl ((e - 1) / 2) (by omega)
      have l0 : l ≠ 0 := fun y => z (by rw [el, y]; exact nI_0)
      have V' : tk_V st pa ds (upd pl ((e - 1) / 2) (pl ((e - 1) / 2) - 1)) qu n := by
        have y : pl ((e - 1) / 2) - 1 = nI (l - 1) := by rw [el]; exact pk_sub (b := 1) (by omega)
        rw [y]
        exact tk_V_pl V (by omega)
      exact ⟨(nI n, nI m, xc + 1, lv, cw, cn, st, upd sx p (nI i + 1), rs, pa, upd rg (4 * p + w / 32 % 4) (pw (4 * ((e - 1) / 2))), me, ds, tk_sh pw (4 * ((e - 1) / 2)) 3, upd pl ((e - 1) / 2) (pl ((e - 1) / 2) - 1), qu, ou), (nI n, xc + 1, nI m, cw, cn, st, pa, upd sy p (sy p + 1), upd rg (4 * p + w / 32 % 4) (pw (4 * ((e - 1) / 2))), ds, me, tk_sh pw (4 * ((e - 1) / 2)) 3, upd pl ((e - 1) / 2) (pl ((e - 1) / 2) - 1), qu, ou), 1, fun post h => tk_xex_16 hp hi hs hw hc rfl rfl o (fun Q k => tk_xRe2 hA hB' he hX odd z k) h, fun post h => tk_yex_16 hp hi hsy hw hc rfl rfl o hY (fun Q k => tk_yRe2 he odd z k) h, tk_mk V' S2 C (by omega) O ⟨ho, Or.inl ⟨h1, rfl⟩⟩⟩
  · exact ⟨(nI n, nI m, xc + 1, lv, cw, cn, st, upd sx p (nI i + 1), rs, pa, upd rg (4 * p + w / 32 % 4) (-1), me, ds, pw, pl, qu, ou), (nI n, xc + 1, nI m, cw, cn, st, pa, upd sy p (sy p + 1), upd rg (4 * p + w / 32 % 4) (-1), ds, me, pw, pl, qu, ou), 1, fun post h => tk_xex_16 hp hi hs hw hc rfl rfl o (fun Q k => tk_xRe0 hA hB' he hX (by omega) k) h, fun post h => tk_yex_16 hp hi hsy hw hc rfl rfl o hY (fun Q k => tk_yRe0 he (by omega) k) h, tk_mk V S2 C (by omega) O ⟨ho, Or.inl ⟨h1, rfl⟩⟩⟩
theorem tk_ex_17 {n m p i w Bd : Nat} (hp : p < 6) (V : tk_V st pa ds pl qu n) (S : tk_SP 6 st sx rs sy) (C : tk_C cw) (hm : m ≤ Bd) (hB : Bd < 2 ^ 30) (O : tk_O ou m) (h1 : st p = 1) (ho : tk_out qu n p) (G : tk_G cw sx rg ds pl p) (hi : i < 64) (hs : sx p = nI i) (hw : w < 512) (hc : cw i = nI w) (o : w % 32 = 17) : ∃ u' v' g, (∀ post : SX → Prop, post u' → wpX_execute post (nI n, nI m, xc, lv, cw, cn, st, sx, rs, pa, rg, me, ds, pw, pl, qu, ou) (nI p)) ∧ (∀ post : Int32 → SY → Prop, post g v' → wpY_execute post (nI n, xc, nI m, cw, cn, st, pa, sy, rg, ds, me, pw, pl, qu, ou) (nI p)) ∧ tk_RK (Bd + 1) (tk_K p g 1) u' v' := by
  have vq := V.2.2.2.2.2
  have ve := V.2.2.1
  have vl := V.2.2.2.1
  have hq : n ≤ 6 := tk_Q6 vq
  have h0 : st p ≠ 0 := by rw [h1]; decide
  have hpv := V.2.2.2.2.1 p hp h0
  have hpn : pa p ≠ nI p := tk_VPn V.2.2.2.2.1 hp h0
  have hsy : sy p = nI i := ((S p hp (by omega)).1 (Or.inl h1)).trans hs
  have S1 : tk_SP p st (upd sx p (nI i + 1)) rs sy := tk_SP_x S
  have S2 : tk_SP 6 st (upd sx p (nI i + 1)) rs (upd sy p (sy p + 1)) := tk_SP_set S1 h1 (by rw [pk_us, hsy])
  have hA : (4 * p + w / 32 % 4) < 24 := by omega
  have hB' : (4 * p + w / 128) < 24 := by omega
  have ha : w / 32 % 4 < 4 := by omega
  have hb : w / 128 < 4 := by omega
  obtain ⟨e, he, hX, hY, hd, hde⟩ := tk_end (ql := nI n) (pc := nI m) (lv := lv) (xc := xc + 1) (cw := cw) (cn := cn) (st := st) (sx := upd sx p (nI i + 1)) (sy := sy) (rs := rs) (pa := pa) (rg := rg) (me := me) (pw := pw) (pl := pl) (qu := qu) (ou := ou) hp hb ve
  by_cases wr : e = 0 ∨ e % 2 = 1
  · exact ⟨(nI n, nI m, xc + 1, lv, cw, cn, st, upd sx p (nI i + 1), rs, pa, upd rg (4 * p + w / 32 % 4) (-1), me, ds, pw, pl, qu, ou), (nI n, xc + 1, nI m, cw, cn, st, pa, upd sy p (sy p + 1), upd rg (4 * p + w / 32 % 4) (-1), ds, me, pw, pl, qu, ou), 1, fun post h => tk_xex_17 hp hi hs hw hc rfl rfl o (fun Q k => tk_xWt0 hA hB' he hX wr k) h, fun post h => tk_yex_17 hp hi hsy hw hc rfl rfl o hY (fun Q k => tk_yWt0 hp ha he wr k) h, tk_mk V S2 C (by omega) O ⟨ho, Or.inl ⟨h1, rfl⟩⟩⟩
  · have e0 : e ≠ 0 := fun z => wr (Or.inl z)
    have ev : e % 2 = 0 := by
      have z : ¬ e % 2 = 1 := fun z => wr (Or.inr z)
      omega
    obtain ⟨rB, hR⟩ := tk_Bex (fun j => ds j = nI e - 1) 0 24
    rcases tk_B01 hR with y | y
    · rw [y] at hR
      exact ⟨(nI (tk_lv qu (nI p) n).2, nI m, xc + 1, lv, cw, cn, tk_fs st pa p, upd sx p (nI i + 1), upd rs p (-2), tk_cp st pa p 6, rg, me, tk_z ds (4 * p) 4, pw, pl, (tk_lv qu (nI p) n).1, ou), (nI (tk_lv qu (nI p) n).2, xc + 1, nI m, cw, cn, tk_fs st pa p, tk_cp st pa p 6, upd sy p (-2), rg, tk_z ds (4 * p) 4, me, pw, pl, (tk_lv qu (nI p) n).1, ou), 0, fun post h => tk_xex_17 hp hi hs hw hc rfl rfl o (fun Q k => tk_xWt1 hB' he hX e0 ev hR hp hq hpn k) h, fun post h => tk_yex_17o hp hi hsy hw hc rfl rfl o hY (fun Q k => tk_yWt1 he e0 ev hR hp hq hpv hpn k) h, tk_mk (tk_V_fin V hp h0) (tk_SP_fin6 S1) C (by omega) O ⟨tk_lo p vq, Or.inr ⟨tk_fs_n1 _ _ _, rfl⟩⟩⟩
    · rw [y] at hR
      obtain ⟨l, hl, el⟩ := vl ((e - 1) / 2) (by omega)
      obtain ⟨d, hd4, ed⟩ := hde e0
      have l4 : l ≠ 4 := by
        intro z
        rcases hR with ⟨_, x⟩ | ⟨x, _⟩
        · exact G i w d e hi hs hw hc o hd4 ed he e0 ev (hd d hd4 ed) x (by rw [el, z]; rfl)
        · exact absurd x (by decide)
      exact ⟨(nI n, nI m, xc + 1, lv, cw, cn, st, upd sx p (nI i + 1), rs, pa, rg, me, ds, upd pw (4 * ((e - 1) / 2) + l) (rg (4 * p + w / 32 % 4)), upd pl ((e - 1) / 2) (nI (l + 1)), qu, ou), (nI n, xc + 1, nI m, cw, cn, st, pa, upd sy p (sy p + 1), rg, ds, me, upd pw (4 * ((e - 1) / 2) + l) (rg (4 * p + w / 32 % 4)), upd pl ((e - 1) / 2) (nI (l + 1)), qu, ou), 1, fun post h => tk_xex_17 hp hi hs hw hc rfl rfl o (fun Q k => tk_xWt2 hA hB' he hX e0 ev hR (by omega) el k) h, fun post h => tk_yex_17 hp hi hsy hw hc rfl rfl o hY (fun Q k => tk_yWt2 hp ha he e0 ev hR (by omega) el k) h, tk_mk (tk_V_pl V (by omega)) S2 C (by omega) O ⟨ho, Or.inl ⟨h1, rfl⟩⟩⟩
theorem tk_ex_18 {n m p i w Bd : Nat} (hp : p < 6) (V : tk_V st pa ds pl qu n) (S : tk_SP 6 st sx rs sy) (C : tk_C cw) (hm : m ≤ Bd) (hB : Bd < 2 ^ 30) (O : tk_O ou m) (h1 : st p = 1) (ho : tk_out qu n p) (G : tk_G cw sx rg ds pl p) (hi : i < 64) (hs : sx p = nI i) (hw : w < 512) (hc : cw i = nI w) (o : w % 32 = 18) : ∃ u' v' g, (∀ post : SX → Prop, post u' → wpX_execute post (nI n, nI m, xc, lv, cw, cn, st, sx, rs, pa, rg, me, ds, pw, pl, qu, ou) (nI p)) ∧ (∀ post : Int32 → SY → Prop, post g v' → wpY_execute post (nI n, xc, nI m, cw, cn, st, pa, sy, rg, ds, me, pw, pl, qu, ou) (nI p)) ∧ tk_RK (Bd + 1) (tk_K p g 1) u' v' := by
  have vq := V.2.2.2.2.2
  have ve := V.2.2.1
  have vl := V.2.2.2.1
  have hq : n ≤ 6 := tk_Q6 vq
  have h0 : st p ≠ 0 := by rw [h1]; decide
  have hpv := V.2.2.2.2.1 p hp h0
  have hpn : pa p ≠ nI p := tk_VPn V.2.2.2.2.1 hp h0
  have hsy : sy p = nI i := ((S p hp (by omega)).1 (Or.inl h1)).trans hs
  have S1 : tk_SP p st (upd sx p (nI i + 1)) rs sy := tk_SP_x S
  have S2 : tk_SP 6 st (upd sx p (nI i + 1)) rs (upd sy p (sy p + 1)) := tk_SP_set S1 h1 (by rw [pk_us, hsy])
  have hA : (4 * p + w / 32 % 4) < 24 := by omega
  have hB' : (4 * p + w / 128) < 24 := by omega
  have ha : w / 32 % 4 < 4 := by omega
  have hb : w / 128 < 4 := by omega
  obtain ⟨e, he, hX, hY, hd, hde⟩ := tk_end (ql := nI n) (pc := nI m) (lv := lv) (xc := xc + 1) (cw := cw) (cn := cn) (st := st) (sx := upd sx p (nI i + 1)) (sy := sy) (rs := rs) (pa := pa) (rg := rg) (me := me) (pw := pw) (pl := pl) (qu := qu) (ou := ou) hp hb ve
  by_cases e0 : e = 0
  · rw [e0] at hX hY
    exact ⟨(nI n, nI m, xc + 1, lv, cw, cn, st, upd sx p (nI i + 1), rs, pa, upd rg (4 * p + w / 32 % 4) (-1), me, ds, pw, pl, qu, ou), (nI n, xc + 1, nI m, cw, cn, st, pa, upd sy p (sy p + 1), upd rg (4 * p + w / 32 % 4) (-1), ds, me, pw, pl, qu, ou), 1, fun post h => tk_xex_18 hp hi hs hw hc rfl rfl o (fun Q k => tk_xCl0 hA hB' hX k) h, fun post h => tk_yex_18 hp hi hsy hw hc rfl rfl o hY (fun Q k => tk_yCl0 hY k) h, tk_mk V S2 C (by omega) O ⟨ho, Or.inl ⟨h1, rfl⟩⟩⟩
  · obtain ⟨d, hd4, ed⟩ := hde e0
    exact ⟨(nI n, nI m, xc + 1, lv, cw, cn, st, upd sx p (nI i + 1), rs, pa, upd rg (4 * p + w / 32 % 4) 0, me, upd ds (4 * p + d) 0, pw, pl, qu, ou), (nI n, xc + 1, nI m, cw, cn, st, pa, upd sy p (sy p + 1), upd rg (4 * p + w / 32 % 4) 0, upd ds (4 * p + d) 0, me, pw, pl, qu, ou), 1, fun post h => tk_xex_18 hp hi hs hw hc rfl rfl o (fun Q k => tk_xCl1 hp hA hB' he e0 hd4 ed hX k) h, fun post h => tk_yex_18 hp hi hsy hw hc rfl rfl o hY (fun Q k => tk_yCl1 hp hb he e0 hd4 ed hY k) h, tk_mk (tk_V_ds (e := 0) V hp h1 hd4 (by omega)) S2 C (by omega) O ⟨ho, Or.inl ⟨h1, rfl⟩⟩⟩
theorem tk_ex_19 {n m p i w Bd : Nat} (hp : p < 6) (V : tk_V st pa ds pl qu n) (S : tk_SP 6 st sx rs sy) (C : tk_C cw) (hm : m ≤ Bd) (hB : Bd < 2 ^ 30) (O : tk_O ou m) (h1 : st p = 1) (ho : tk_out qu n p) (G : tk_G cw sx rg ds pl p) (hi : i < 64) (hs : sx p = nI i) (hw : w < 512) (hc : cw i = nI w) (o : w % 32 = 19) : ∃ u' v' g, (∀ post : SX → Prop, post u' → wpX_execute post (nI n, nI m, xc, lv, cw, cn, st, sx, rs, pa, rg, me, ds, pw, pl, qu, ou) (nI p)) ∧ (∀ post : Int32 → SY → Prop, post g v' → wpY_execute post (nI n, xc, nI m, cw, cn, st, pa, sy, rg, ds, me, pw, pl, qu, ou) (nI p)) ∧ tk_RK (Bd + 1) (tk_K p g 1) u' v' := by
  have vq := V.2.2.2.2.2
  have ve := V.2.2.1
  have vl := V.2.2.2.1
  have hq : n ≤ 6 := tk_Q6 vq
  have h0 : st p ≠ 0 := by rw [h1]; decide
  have hpv := V.2.2.2.2.1 p hp h0
  have hpn : pa p ≠ nI p := tk_VPn V.2.2.2.2.1 hp h0
  have hsy : sy p = nI i := ((S p hp (by omega)).1 (Or.inl h1)).trans hs
  have S1 : tk_SP p st (upd sx p (nI i + 1)) rs sy := tk_SP_x S
  have S2 : tk_SP 6 st (upd sx p (nI i + 1)) rs (upd sy p (sy p + 1)) := tk_SP_set S1 h1 (by rw [pk_us, hsy])
  have hA : (4 * p + w / 32 % 4) < 24 := by omega
  have hB' : (4 * p + w / 128) < 24 := by omega
  have ha : w / 32 % 4 < 4 := by omega
  have hb : w / 128 < 4 := by omega
  obtain ⟨e, he, hX, hY, hd, hde⟩ := tk_end (ql := nI n) (pc := nI m) (lv := lv) (xc := xc + 1) (cw := cw) (cn := cn) (st := st) (sx := upd sx p (nI i + 1)) (sy := sy) (rs := rs) (pa := pa) (rg := rg) (me := me) (pw := pw) (pl := pl) (qu := qu) (ou := ou) hp hb ve
  obtain ⟨r, hF⟩ := tk_Fex (fun j => ds (4 * p + j) = 0) 4 4 0 rfl
  by_cases no : e = 0 ∨ tk_F (fun j => ds (4 * p + j) = 0) 0 4 (-1)
  · exact ⟨(nI n, nI m, xc + 1, lv, cw, cn, st, upd sx p (nI i + 1), rs, pa, upd rg (4 * p + w / 32 % 4) (-1), me, ds, pw, pl, qu, ou), (nI n, xc + 1, nI m, cw, cn, st, pa, upd sy p (sy p + 1), upd rg (4 * p + w / 32 % 4) (-1), ds, me, pw, pl, qu, ou), 1, fun post h => tk_xex_19 hp hi hs hw hc rfl rfl o (fun Q k => tk_xCe0 hp hA hB' hX no k) h, fun post h => tk_yex_19 hp hi hsy hw hc rfl rfl o hY (fun Q k => tk_yCe0 hp no k) h, tk_mk V S2 C (by omega) O ⟨ho, Or.inl ⟨h1, rfl⟩⟩⟩
  · have e0 : e ≠ 0 := fun z => no (Or.inl z)
    rcases tk_Fc hF with ⟨er, _⟩ | ⟨d, _, hd4, er, _⟩
    · rw [er] at hF; exact absurd (Or.inr hF) no
    · rw [er] at hF
      exact ⟨(nI n, nI m, xc + 1, lv, cw, cn, st, upd sx p (nI i + 1), rs, pa, upd rg (4 * p + w / 32 % 4) (nI d), me, upd ds (4 * p + d) (nI e), pw, pl, qu, ou), (nI n, xc + 1, nI m, cw, cn, st, pa, upd sy p (sy p + 1), upd rg (4 * p + w / 32 % 4) (nI d), upd ds (4 * p + d) (nI e), me, pw, pl, qu, ou), 1, fun post h => tk_xex_19 hp hi hs hw hc rfl rfl o (fun Q k => tk_xCe1 hp hA hB' he e0 hd4 hF hX k) h, fun post h => tk_yex_19 hp hi hsy hw hc rfl rfl o hY (fun Q k => tk_yCe1 hp he e0 hd4 hF k) h, tk_mk (tk_V_ds V hp h1 hd4 he) S2 C (by omega) O ⟨ho, Or.inl ⟨h1, rfl⟩⟩⟩
theorem tk_ex_20 {n m p i w Bd : Nat} (hp : p < 6) (V : tk_V st pa ds pl qu n) (S : tk_SP 6 st sx rs sy) (C : tk_C cw) (hm : m ≤ Bd) (hB : Bd < 2 ^ 30) (O : tk_O ou m) (h1 : st p = 1) (ho : tk_out qu n p) (G : tk_G cw sx rg ds pl p) (hi : i < 64) (hs : sx p = nI i) (hw : w < 512) (hc : cw i = nI w) (o : w % 32 = 20) : ∃ u' v' g, (∀ post : SX → Prop, post u' → wpX_execute post (nI n, nI m, xc, lv, cw, cn, st, sx, rs, pa, rg, me, ds, pw, pl, qu, ou) (nI p)) ∧ (∀ post : Int32 → SY → Prop, post g v' → wpY_execute post (nI n, xc, nI m, cw, cn, st, pa, sy, rg, ds, me, pw, pl, qu, ou) (nI p)) ∧ tk_RK (Bd + 1) (tk_K p g 0) u' v' := by
  have vq := V.2.2.2.2.2
  have ve := V.2.2.1
  have vl := V.2.2.2.1
  have hq : n ≤ 6 := tk_Q6 vq
  have h0 : st p ≠ 0 := by rw [h1]; decide
  have hpv := V.2.2.2.2.1 p hp h0
  have hpn : pa p ≠ nI p := tk_VPn V.2.2.2.2.1 hp h0
  have hsy : sy p = nI i := ((S p hp (by omega)).1 (Or.inl h1)).trans hs
  have S1 : tk_SP p st (upd sx p (nI i + 1)) rs sy := tk_SP_x S
  have S2 : tk_SP 6 st (upd sx p (nI i + 1)) rs (upd sy p (sy p + 1)) := tk_SP_set S1 h1 (by rw [pk_us, hsy])
  have hA : (4 * p + w / 32 % 4) < 24 := by omega
  have hB' : (4 * p + w / 128) < 24 := by omega
  have ha : w / 32 % 4 < 4 := by omega
  have hb : w / 128 < 4 := by omega
  obtain ⟨e, he, hX, hY, hd, hde⟩ := tk_end (ql := nI n) (pc := nI m) (lv := lv) (xc := xc + 1) (cw := cw) (cn := cn) (st := st) (sx := upd sx p (nI i + 1)) (sy := sy) (rs := rs) (pa := pa) (rg := rg) (me := me) (pw := pw) (pl := pl) (qu := qu) (ou := ou) hp hb ve
  exact ⟨(nI n, nI m, xc + 1, lv, cw, cn, st, upd sx p (nI i + 1), rs, pa, rg, me, ds, pw, pl, qu, ou), (nI n, xc + 1, nI m, cw, cn, st, pa, upd sy p (sy p + 1), rg, ds, me, pw, pl, qu, ou), 0, fun post h => tk_xex_20 hp hi hs hw hc rfl rfl o h, fun post h => tk_yex_20 hp hi hsy hw hc rfl rfl o hY (by rw [tk_uid]; exact h), tk_mk V S2 C (by omega) O ⟨ho, Or.inl ⟨h1, rfl⟩⟩⟩
theorem tk_ex_21 {n m p i w Bd : Nat} (hp : p < 6) (V : tk_V st pa ds pl qu n) (S : tk_SP 6 st sx rs sy) (C : tk_C cw) (hm : m ≤ Bd) (hB : Bd < 2 ^ 30) (O : tk_O ou m) (h1 : st p = 1) (ho : tk_out qu n p) (G : tk_G cw sx rg ds pl p) (hi : i < 64) (hs : sx p = nI i) (hw : w < 512) (hc : cw i = nI w) (o : w % 32 = 21) : ∃ u' v' g, (∀ post : SX → Prop, post u' → wpX_execute post (nI n, nI m, xc, lv, cw, cn, st, sx, rs, pa, rg, me, ds, pw, pl, qu, ou) (nI p)) ∧ (∀ post : Int32 → SY → Prop, post g v' → wpY_execute post (nI n, xc, nI m, cw, cn, st, pa, sy, rg, ds, me, pw, pl, qu, ou) (nI p)) ∧ tk_RK (Bd + 1) (tk_K p g 1) u' v' := by
  have vq := V.2.2.2.2.2
  have ve := V.2.2.1
  have vl := V.2.2.2.1
  have hq : n ≤ 6 := tk_Q6 vq
  have h0 : st p ≠ 0 := by rw [h1]; decide
  have hpv := V.2.2.2.2.1 p hp h0
  have hpn : pa p ≠ nI p := tk_VPn V.2.2.2.2.1 hp h0
  have hsy : sy p = nI i := ((S p hp (by omega)).1 (Or.inl h1)).trans hs
  have S1 : tk_SP p st (upd sx p (nI i + 1)) rs sy := tk_SP_x S
  have S2 : tk_SP 6 st (upd sx p (nI i + 1)) rs (upd sy p (sy p + 1)) := tk_SP_set S1 h1 (by rw [pk_us, hsy])
  have hA : (4 * p + w / 32 % 4) < 24 := by omega
  have hB' : (4 * p + w / 128) < 24 := by omega
  have ha : w / 32 % 4 < 4 := by omega
  have hb : w / 128 < 4 := by omega
  obtain ⟨e, he, hX, hY, hd, hde⟩ := tk_end (ql := nI n) (pc := nI m) (lv := lv) (xc := xc + 1) (cw := cw) (cn := cn) (st := st) (sx := upd sx p (nI i + 1)) (sy := sy) (rs := rs) (pa := pa) (rg := rg) (me := me) (pw := pw) (pl := pl) (qu := qu) (ou := ou) hp hb ve
  by_cases z : m < 32
  · have O' : tk_O (upd ou m (rg (4 * p + w / 32 % 4))) (m + 1) := fun k a c => by rw [pk_un (by omega)]; exact O k (by omega) c
    exact ⟨(nI n, nI (m + 1), xc + 1, lv, cw, cn, st, upd sx p (nI i + 1), rs, pa, rg, me, ds, pw, pl, qu, upd ou m (rg (4 * p + w / 32 % 4))), (nI n, xc + 1, nI (m + 1), cw, cn, st, pa, upd sy p (sy p + 1), rg, ds, me, pw, pl, qu, upd ou m (rg (4 * p + w / 32 % 4))), 1, fun post h => tk_xex_21 hp hi hs hw hc rfl rfl o (fun Q k => tk_xPr1 z k) h, fun post h => tk_yex_21 hp hi hsy hw hc rfl rfl o hY (fun Q k => tk_yPr1 z k) (by rw [tk_uid]; exact h), tk_mk V S2 C (by omega) O' ⟨ho, Or.inl ⟨h1, rfl⟩⟩⟩
  · have O' : tk_O ou (m + 1) := fun k a c => by omega
    exact ⟨(nI n, nI (m + 1), xc + 1, lv, cw, cn, st, upd sx p (nI i + 1), rs, pa, rg, me, ds, pw, pl, qu, ou), (nI n, xc + 1, nI (m + 1), cw, cn, st, pa, upd sy p (sy p + 1), rg, ds, me, pw, pl, qu, ou), 1, fun post h => tk_xex_21 hp hi hs hw hc rfl rfl o (fun Q k => tk_xPr0 (by omega) (by omega) k) h, fun post h => tk_yex_21 hp hi hsy hw hc rfl rfl o hY (fun Q k => tk_yPr0 (by omega) (by omega) k) (by rw [tk_uid]; exact h), tk_mk V S2 C (by omega) O' ⟨ho, Or.inl ⟨h1, rfl⟩⟩⟩
theorem tk_ex_22 {n m p i w Bd : Nat} (hp : p < 6) (V : tk_V st pa ds pl qu n) (S : tk_SP 6 st sx rs sy) (C : tk_C cw) (hm : m ≤ Bd) (hB : Bd < 2 ^ 30) (O : tk_O ou m) (h1 : st p = 1) (ho : tk_out qu n p) (G : tk_G cw sx rg ds pl p) (hi : i < 64) (hs : sx p = nI i) (hw : w < 512) (hc : cw i = nI w) (o : w % 32 = 22) : ∃ u' v' g, (∀ post : SX → Prop, post u' → wpX_execute post (nI n, nI m, xc, lv, cw, cn, st, sx, rs, pa, rg, me, ds, pw, pl, qu, ou) (nI p)) ∧ (∀ post : Int32 → SY → Prop, post g v' → wpY_execute post (nI n, xc, nI m, cw, cn, st, pa, sy, rg, ds, me, pw, pl, qu, ou) (nI p)) ∧ tk_RK (Bd + 1) (tk_K p g 1) u' v' := by
  have vq := V.2.2.2.2.2
  have ve := V.2.2.1
  have vl := V.2.2.2.1
  have hq : n ≤ 6 := tk_Q6 vq
  have h0 : st p ≠ 0 := by rw [h1]; decide
  have hpv := V.2.2.2.2.1 p hp h0
  have hpn : pa p ≠ nI p := tk_VPn V.2.2.2.2.1 hp h0
  have hsy : sy p = nI i := ((S p hp (by omega)).1 (Or.inl h1)).trans hs
  have S1 : tk_SP p st (upd sx p (nI i + 1)) rs sy := tk_SP_x S
  have S2 : tk_SP 6 st (upd sx p (nI i + 1)) rs (upd sy p (sy p + 1)) := tk_SP_set S1 h1 (by rw [pk_us, hsy])
  have hA : (4 * p + w / 32 % 4) < 24 := by omega
  have hB' : (4 * p + w / 128) < 24 := by omega
  have ha : w / 32 % 4 < 4 := by omega
  have hb : w / 128 < 4 := by omega
  obtain ⟨e, he, hX, hY, hd, hde⟩ := tk_end (ql := nI n) (pc := nI m) (lv := lv) (xc := xc + 1) (cw := cw) (cn := cn) (st := st) (sx := upd sx p (nI i + 1)) (sy := sy) (rs := rs) (pa := pa) (rg := rg) (me := me) (pw := pw) (pl := pl) (qu := qu) (ou := ou) hp hb ve
  exact ⟨(nI n, nI m, xc + 1, lv, cw, cn, st, upd sx p (nI i + 1), rs, pa, upd rg (4 * p + w / 32 % 4) (nI p), me, ds, pw, pl, qu, ou), (nI n, xc + 1, nI m, cw, cn, st, pa, upd sy p (sy p + 1), upd rg (4 * p + w / 32 % 4) (nI p), ds, me, pw, pl, qu, ou), 1, fun post h => tk_xex_22 hp hi hs hw hc rfl rfl o h, fun post h => tk_yex_22 hp hi hsy hw hc rfl rfl o hY h, tk_mk V S2 C (by omega) O ⟨ho, Or.inl ⟨h1, rfl⟩⟩⟩
theorem tk_ex_23 {n m p i w Bd : Nat} (hp : p < 6) (V : tk_V st pa ds pl qu n) (S : tk_SP 6 st sx rs sy) (C : tk_C cw) (hm : m ≤ Bd) (hB : Bd < 2 ^ 30) (O : tk_O ou m) (h1 : st p = 1) (ho : tk_out qu n p) (G : tk_G cw sx rg ds pl p) (hi : i < 64) (hs : sx p = nI i) (hw : w < 512) (hc : cw i = nI w) (o : w % 32 = 23) : ∃ u' v' g, (∀ post : SX → Prop, post u' → wpX_execute post (nI n, nI m, xc, lv, cw, cn, st, sx, rs, pa, rg, me, ds, pw, pl, qu, ou) (nI p)) ∧ (∀ post : Int32 → SY → Prop, post g v' → wpY_execute post (nI n, xc, nI m, cw, cn, st, pa, sy, rg, ds, me, pw, pl, qu, ou) (nI p)) ∧ tk_RK (Bd + 1) (tk_K p g 1) u' v' := by
  have vq := V.2.2.2.2.2
  have ve := V.2.2.1
  have vl := V.2.2.2.1
  have hq : n ≤ 6 := tk_Q6 vq
  have h0 : st p ≠ 0 := by rw [h1]; decide
  have hpv := V.2.2.2.2.1 p hp h0
  have hpn : pa p ≠ nI p := tk_VPn V.2.2.2.2.1 hp h0
  have hsy : sy p = nI i := ((S p hp (by omega)).1 (Or.inl h1)).trans hs
  have S1 : tk_SP p st (upd sx p (nI i + 1)) rs sy := tk_SP_x S
  have S2 : tk_SP 6 st (upd sx p (nI i + 1)) rs (upd sy p (sy p + 1)) := tk_SP_set S1 h1 (by rw [pk_us, hsy])
  have hA : (4 * p + w / 32 % 4) < 24 := by omega
  have hB' : (4 * p + w / 128) < 24 := by omega
  have ha : w / 32 % 4 < 4 := by omega
  have hb : w / 128 < 4 := by omega
  obtain ⟨e, he, hX, hY, hd, hde⟩ := tk_end (ql := nI n) (pc := nI m) (lv := lv) (xc := xc + 1) (cw := cw) (cn := cn) (st := st) (sx := upd sx p (nI i + 1)) (sy := sy) (rs := rs) (pa := pa) (rg := rg) (me := me) (pw := pw) (pl := pl) (qu := qu) (ou := ou) hp hb ve
  exact ⟨(nI n, nI m, xc + 1, lv, cw, cn, st, upd sx p (nI i + 1), rs, pa, upd rg (4 * p + w / 32 % 4) (pa p), me, ds, pw, pl, qu, ou), (nI n, xc + 1, nI m, cw, cn, st, pa, upd sy p (sy p + 1), upd rg (4 * p + w / 32 % 4) (pa p), ds, me, pw, pl, qu, ou), 1, fun post h => tk_xex_23 hp hi hs hw hc rfl rfl o h, fun post h => tk_yex_23 hp hi hsy hw hc rfl rfl o hY h, tk_mk V S2 C (by omega) O ⟨ho, Or.inl ⟨h1, rfl⟩⟩⟩
theorem tk_ex_24 {n m p i w Bd : Nat} (hp : p < 6) (V : tk_V st pa ds pl qu n) (S : tk_SP 6 st sx rs sy) (C : tk_C cw) (hm : m ≤ Bd) (hB : Bd < 2 ^ 30) (O : tk_O ou m) (h1 : st p = 1) (ho : tk_out qu n p) (G : tk_G cw sx rg ds pl p) (hi : i < 64) (hs : sx p = nI i) (hw : w < 512) (hc : cw i = nI w) (o : w % 32 = 24) : ∃ u' v' g, (∀ post : SX → Prop, post u' → wpX_execute post (nI n, nI m, xc, lv, cw, cn, st, sx, rs, pa, rg, me, ds, pw, pl, qu, ou) (nI p)) ∧ (∀ post : Int32 → SY → Prop, post g v' → wpY_execute post (nI n, xc, nI m, cw, cn, st, pa, sy, rg, ds, me, pw, pl, qu, ou) (nI p)) ∧ tk_RK (Bd + 1) (tk_K p g 1) u' v' := by
  have vq := V.2.2.2.2.2
  have ve := V.2.2.1
  have vl := V.2.2.2.1
  have hq : n ≤ 6 := tk_Q6 vq
  have h0 : st p ≠ 0 := by rw [h1]; decide
  have hpv := V.2.2.2.2.1 p hp h0
  have hpn : pa p ≠ nI p := tk_VPn V.2.2.2.2.1 hp h0
  have hsy : sy p = nI i := ((S p hp (by omega)).1 (Or.inl h1)).trans hs
  have S1 : tk_SP p st (upd sx p (nI i + 1)) rs sy := tk_SP_x S
  have S2 : tk_SP 6 st (upd sx p (nI i + 1)) rs (upd sy p (sy p + 1)) := tk_SP_set S1 h1 (by rw [pk_us, hsy])
  have hA : (4 * p + w / 32 % 4) < 24 := by omega
  have hB' : (4 * p + w / 128) < 24 := by omega
  have ha : w / 32 % 4 < 4 := by omega
  have hb : w / 128 < 4 := by omega
  obtain ⟨e, he, hX, hY, hd, hde⟩ := tk_end (ql := nI n) (pc := nI m) (lv := lv) (xc := xc + 1) (cw := cw) (cn := cn) (st := st) (sx := upd sx p (nI i + 1)) (sy := sy) (rs := rs) (pa := pa) (rg := rg) (me := me) (pw := pw) (pl := pl) (qu := qu) (ou := ou) hp hb ve
  by_cases no : rg (4 * p + w / 128) = nI p ∨ rg (4 * p + w / 128) < 0 ∨ (¬ rg (4 * p + w / 128) < 0 ∧ nI 6 ≤ rg (4 * p + w / 128)) ∨ ∃ v, v < 6 ∧ rg (4 * p + w / 128) = nI v ∧ ¬ (st v = 1 ∨ st v = 2)
  · exact ⟨(nI n, nI m, xc + 1, lv, cw, cn, st, upd sx p (nI i + 1), rs, pa, upd rg (4 * p + w / 32 % 4) (-1), me, ds, pw, pl, qu, ou), (nI n, xc + 1, nI m, cw, cn, st, pa, upd sy p (sy p + 1), upd rg (4 * p + w / 32 % 4) (-1), ds, me, pw, pl, qu, ou), 1, fun post h => tk_xex_24 hp hi hs hw hc rfl rfl o (fun Q k => tk_xKo0 hA hB' no k) h, fun post h => tk_yex_24 hp hi hsy hw hc rfl rfl o hY (fun Q k => tk_yKo0 no k) h, tk_mk V S2 C (by omega) O ⟨ho, Or.inl ⟨h1, rfl⟩⟩⟩
  · rcases tk_ix (rg (4 * p + w / 128)) (n := 6) (by decide) with z | z | ⟨v, hv, ev⟩
    · exact absurd (Or.inr (Or.inl z)) no
    · exact absurd (Or.inr (Or.inr (Or.inl z))) no
    · have hvp : v ≠ p := fun z => no (Or.inl (by rw [ev, z]))
      have hl : st v = 1 ∨ st v = 2 := by
        by_cases y : st v = 1 ∨ st v = 2
        · exact y
        · exact absurd (Or.inr (Or.inr (Or.inr ⟨v, hv, ev, y⟩))) no
      have hv0 : st v ≠ 0 := by
        rcases hl with y | y
        · rw [y]; decide
        · rw [y]; decide
      have hvv := V.2.2.2.2.1 v hv hv0
      have hvn : pa v ≠ nI v := tk_VPn V.2.2.2.2.1 hv hv0
      have hpv' : p ≠ v := fun z => hvp z.symm
      have st1 : tk_fs st pa v p = 1 := tk_fs_1 hpv' h1
      have T := tk_SP_set (tk_SP_fin (p := v) (pa := pa) (r := -3) S1) st1 (s := upd sy v (-3) p + 1) (by rw [pk_us, pk_un hpv', hsy])
      exact ⟨(nI (tk_lv qu (nI v) n).2, nI m, xc + 1, lv, cw, cn, tk_fs st pa v, upd sx p (nI i + 1), upd rs v (-3), tk_cp st pa v 6, upd rg (4 * p + w / 32 % 4) 0, me, tk_z ds (4 * v) 4, pw, pl, (tk_lv qu (nI v) n).1, ou), (nI (tk_lv qu (nI v) n).2, xc + 1, nI m, cw, cn, tk_fs st pa v, tk_cp st pa v 6, upd (upd sy v (-3)) p (upd sy v (-3) p + 1), upd rg (4 * p + w / 32 % 4) 0, tk_z ds (4 * v) 4, me, pw, pl, (tk_lv qu (nI v) n).1, ou), 1, fun post h => tk_xex_24 hp hi hs hw hc rfl rfl o (fun Q k => tk_xKo1 hp hA hB' ev hv hvp hl hq hvn k) h, fun post h => tk_yex_24 hp hi hsy hw hc rfl rfl o hY (fun Q k => by rw [ev]; exact tk_yKo1 hp hv hvp hl hq hvv hvn k) h, tk_mk (tk_V_fin V hv hv0) T C (by omega) O ⟨tk_lo' v vq ho, Or.inl ⟨st1, rfl⟩⟩⟩
theorem tk_ex_out {n m p Bd : Nat} (hp : p < 6) (V : tk_V st pa ds pl qu n) (S : tk_SP 6 st sx rs sy) (C : tk_C cw) (hm : m ≤ Bd) (hB : Bd < 2 ^ 30) (O : tk_O ou m) (h1 : st p = 1) (ho : tk_out qu n p) (hs : sx p < 0 ∨ (¬ sx p < 0 ∧ nI 64 ≤ sx p)) (y : Int32) : ∃ u' v' g, (∀ post : SX → Prop, post u' → wpX_execute post (nI n, nI m, xc, lv, cw, cn, st, sx, rs, pa, rg, me, ds, pw, pl, qu, ou) (nI p)) ∧ (∀ post : Int32 → SY → Prop, post g v' → wpY_execute post (nI n, xc, nI m, cw, cn, st, pa, sy, rg, ds, me, pw, pl, qu, ou) (nI p)) ∧ tk_RK (Bd + 1) (tk_K p g y) u' v' := by
  have vq := V.2.2.2.2.2
  have hq : n ≤ 6 := tk_Q6 vq
  have h0 : st p ≠ 0 := by rw [h1]; decide
  have hpv := V.2.2.2.2.1 p hp h0
  have hpn : pa p ≠ nI p := tk_VPn V.2.2.2.2.1 hp h0
  have hsy : sy p = sx p := (S p hp (by omega)).1 (Or.inl h1)
  have S1 : tk_SP p st sx rs sy := fun q a _ => S q a (by omega)
  exact ⟨(nI (tk_lv qu (nI p) n).2, nI m, xc + 1, lv, cw, cn, tk_fs st pa p, sx, upd rs p (-4), tk_cp st pa p 6, rg, me, tk_z ds (4 * p) 4, pw, pl, (tk_lv qu (nI p) n).1, ou), (nI (tk_lv qu (nI p) n).2, xc + 1, nI m, cw, cn, tk_fs st pa p, tk_cp st pa p 6, upd sy p (-4), rg, tk_z ds (4 * p) 4, me, pw, pl, (tk_lv qu (nI p) n).1, ou), 0, fun post h => tk_xex_out hp hs (fun Q k => tk_xFin hp hq hpn k) h, fun post h => tk_yex_out hp (by rw [hsy]; exact hs) (fun Q k => tk_yFin hp hq hpv hpn k) h, tk_mk (tk_V_fin V hp h0) (tk_SP_fin6 S1) C (by omega) O ⟨tk_lo p vq, Or.inr ⟨tk_fs_n1 _ _ _, rfl⟩⟩⟩
theorem tk_ex {n m p i w Bd : Nat} (hp : p < 6) (V : tk_V st pa ds pl qu n) (S : tk_SP 6 st sx rs sy) (C : tk_C cw) (hm : m ≤ Bd) (hB : Bd < 2 ^ 30) (O : tk_O ou m) (h1 : st p = 1) (ho : tk_out qu n p) (G : tk_G cw sx rg ds pl p) (hi : i < 64) (hs : sx p = nI i) (hw : w < 512) (hc : cw i = nI w) (h24 : w % 32 ≤ 24) : ∃ u' v' g, (∀ post : SX → Prop, post u' → wpX_execute post (nI n, nI m, xc, lv, cw, cn, st, sx, rs, pa, rg, me, ds, pw, pl, qu, ou) (nI p)) ∧ (∀ post : Int32 → SY → Prop, post g v' → wpY_execute post (nI n, xc, nI m, cw, cn, st, pa, sy, rg, ds, me, pw, pl, qu, ou) (nI p)) ∧ tk_RK (Bd + 1) (tk_K p g (if w % 32 = 20 then 0 else 1)) u' v' := by
  have k : w % 32 = 0 ∨ w % 32 = 1 ∨ w % 32 = 2 ∨ w % 32 = 3 ∨ w % 32 = 4 ∨ w % 32 = 5 ∨ w % 32 = 6 ∨ w % 32 = 7 ∨ w % 32 = 8 ∨ w % 32 = 9 ∨ w % 32 = 10 ∨ w % 32 = 11 ∨ w % 32 = 12 ∨ w % 32 = 13 ∨ w % 32 = 14 ∨ w % 32 = 15 ∨ w % 32 = 16 ∨ w % 32 = 17 ∨ w % 32 = 18 ∨ w % 32 = 19 ∨ w % 32 = 20 ∨ w % 32 = 21 ∨ w % 32 = 22 ∨ w % 32 = 23 ∨ w % 32 = 24 := by omega
  rcases k with o | o | o | o | o | o | o | o | o | o | o | o | o | o | o | o | o | o | o | o | o | o | o | o | o
  · rw [if_neg (show ¬ w % 32 = 20 by omega)]; exact tk_ex_0 hp V S C hm hB O h1 ho G hi hs hw hc o
  · rw [if_neg (show ¬ w % 32 = 20 by omega)]; exact tk_ex_1 hp V S C hm hB O h1 ho G hi hs hw hc o
  · rw [if_neg (show ¬ w % 32 = 20 by omega)]; exact tk_ex_2 hp V S C hm hB O h1 ho G hi hs hw hc o
  · rw [if_neg (show ¬ w % 32 = 20 by omega)]; exact tk_ex_3 hp V S C hm hB O h1 ho G hi hs hw hc o
  · rw [if_neg (show ¬ w % 32 = 20 by omega)]; exact tk_ex_4 hp V S C hm hB O h1 ho G hi hs hw hc o
  · rw [if_neg (show ¬ w % 32 = 20 by omega)]; exact tk_ex_5 hp V S C hm hB O h1 ho G hi hs hw hc o
  · rw [if_neg (show ¬ w % 32 = 20 by omega)]; exact tk_ex_6 hp V S C hm hB O h1 ho G hi hs hw hc o
  · rw [if_neg (show ¬ w % 32 = 20 by omega)]; exact tk_ex_7 hp V S C hm hB O h1 ho G hi hs hw hc o
  · rw [if_neg (show ¬ w % 32 = 20 by omega)]; exact tk_ex_8 hp V S C hm hB O h1 ho G hi hs hw hc o
  · rw [if_neg (show ¬ w % 32 = 20 by omega)]; exact tk_ex_9 hp V S C hm hB O h1 ho G hi hs hw hc o
  · rw [if_neg (show ¬ w % 32 = 20 by omega)]; exact tk_ex_10 hp V S C hm hB O h1 ho G hi hs hw hc o
  · rw [if_neg (show ¬ w % 32 = 20 by omega)]; exact tk_ex_11 hp V S C hm hB O h1 ho G hi hs hw hc o
  · rw [if_neg (show ¬ w % 32 = 20 by omega)]; exact tk_ex_12 hp V S C hm hB O h1 ho G hi hs hw hc o
  · rw [if_neg (show ¬ w % 32 = 20 by omega)]; exact tk_ex_13 hp V S C hm hB O h1 ho G hi hs hw hc o
  · rw [if_neg (show ¬ w % 32 = 20 by omega)]; exact tk_ex_14 hp V S C hm hB O h1 ho G hi hs hw hc o
  · rw [if_neg (show ¬ w % 32 = 20 by omega)]; exact tk_ex_15 hp V S C hm hB O h1 ho G hi hs hw hc o
  · rw [if_neg (show ¬ w % 32 = 20 by omega)]; exact tk_ex_16 hp V S C hm hB O h1 ho G hi hs hw hc o
  · rw [if_neg (show ¬ w % 32 = 20 by omega)]; exact tk_ex_17 hp V S C hm hB O h1 ho G hi hs hw hc o
  · rw [if_neg (show ¬ w % 32 = 20 by omega)]; exact tk_ex_18 hp V S C hm hB O h1 ho G hi hs hw hc o
  · rw [if_neg (show ¬ w % 32 = 20 by omega)]; exact tk_ex_19 hp V S C hm hB O h1 ho G hi hs hw hc o
  · rw [if_pos o]; exact tk_ex_20 hp V S C hm hB O h1 ho G hi hs hw hc o
  · rw [if_neg (show ¬ w % 32 = 20 by omega)]; exact tk_ex_21 hp V S C hm hB O h1 ho G hi hs hw hc o
  · rw [if_neg (show ¬ w % 32 = 20 by omega)]; exact tk_ex_22 hp V S C hm hB O h1 ho G hi hs hw hc o
  · rw [if_neg (show ¬ w % 32 = 20 by omega)]; exact tk_ex_23 hp V S C hm hB O h1 ho G hi hs hw hc o
  · rw [if_neg (show ¬ w % 32 = 20 by omega)]; exact tk_ex_24 hp V S C hm hB O h1 ho G hi hs hw hc o
end
end
section
def tk_T : (Nat → Int32) → (Nat → Int32) → Nat → Prop := fun _ _ _ => True
theorem tk_u1 {st : Nat → Int32} {p : Nat} (h1 : st p = 1) : upd st p 1 = st := by
  have k := tk_uid st p
  rw [h1] at k
  exact k
/-- one instruction: what X looks up first, and the step on both sides -/
theorem tk_step {pc lv : Int32} {xc : Int64} {cw cn st sx sy rs pa rg me ds pw pl qu ou : Nat → Int32} {n m p Bd : Nat} (hp : p < 6) (V : tk_V st pa ds pl qu n) (S : tk_SP 6 st sx rs sy) (C : tk_C cw) (hm : m ≤ Bd) (hB : Bd < 2 ^ 30) (O : tk_O ou m) (h1 : st p = 1) (ho : tk_out qu n p) (G : tk_G cw sx rg ds pl p) : ∃ o y : Int32, ((o = 20 ∧ y = 0) ∨ (¬ o = 20 ∧ y = 1)) ∧ (∀ Q : Int32 → Prop, Q o → wpX_opAt Q (nI n, nI m, xc, lv, cw, cn, st, sx, rs, pa, rg, me, ds, pw, pl, qu, ou) (nI p)) ∧ ∃ u' v' g, (∀ post : SX → Prop, post u' → wpX_execute post (nI n, nI m, xc, lv, cw, cn, st, sx, rs, pa, rg, me, ds, pw, pl, qu, ou) (nI p)) ∧ (∀ post : Int32 → SY → Prop, post g v' → wpY_execute post (nI n, xc, nI m, cw, cn, st, pa, sy, rg, ds, me, pw, pl, qu, ou) (nI p)) ∧ tk_RK (Bd + 1) (tk_K p g y) u' v' := by
  rcases tk_ix (sx p) (n := 64) (by decide) with a | a | ⟨i, hi, hs⟩
  · exact ⟨-1, 1, Or.inr ⟨by decide, rfl⟩, fun Q h => tk_xOp0 hp (Or.inl a) h, tk_ex_out hp V S C hm hB O h1 ho (Or.inl a) 1⟩
  · exact ⟨-1, 1, Or.inr ⟨by decide, rfl⟩, fun Q h => tk_xOp0 hp (Or.inr a) h, tk_ex_out hp V S C hm hB O h1 ho (Or.inr a) 1⟩
  · obtain ⟨w, hw, h24, hc⟩ := C i hi
    have k := tk_ex (lv := lv) (xc := xc) (cn := cn) (me := me) (pw := pw) hp V S C hm hB O h1 ho G hi hs hw hc h24
    by_cases z : w % 32 = 20
    · rw [if_pos z] at k
      exact ⟨nI (w % 32), 0, Or.inl ⟨by rw [z]; rfl, rfl⟩, fun Q h => tk_xOp1 hp hi hs hw hc h, k⟩
    · rw [if_neg z] at k
      exact ⟨nI (w % 32), 1, Or.inr ⟨tk_ne (b := 20) (by omega) (by decide) z, rfl⟩, fun Q h => tk_xOp1 hp hi hs hw hc h, k⟩
theorem tk_work {p : Nat} (hp : p < 6) : ∀ (d j Bd n m : Nat) (lv : Int32) (xc : Int64) (cw cn st sx sy rs pa rg me ds pw pl qu ou : Nat → Int32), j + d = 3 → tk_V st pa ds pl qu n → tk_SP 6 st sx rs sy → tk_C cw → m ≤ Bd → Bd + d < 2 ^ 30 → tk_O ou m → st p = 1 → tk_out qu n p → ∃ u' v', (∀ post : SX → Prop, post u' → wX_work_2 post (nI p) (d + 1) (nI j) (nI n) (nI m) xc lv cw cn st sx rs pa rg me ds pw pl qu ou) ∧ (∀ post : SY → Prop, post v' → wY_turn_16 post (nI p) (d + 1) 1 (nI j) (nI n) xc (nI m) cw cn st pa sy rg ds me pw pl qu ou) ∧ tk_RK (Bd + d) tk_T u' v' := by
  have v6 : vp_in (nI p) 6 := vp_in_nI hp (by decide)
  have ep : (nI p).toNatClampNeg = p := nI_clamp (by omega)
  intro d
  induction d with
  | zero =>
    intro j Bd n m lv xc cw cn st sx sy rs pa rg me ds pw pl qu ou hj V S C hm hB O h1 ho
    have h0 : st p ≠ 0 := by rw [h1]; decide
    have hn5 : n ≤ 5 := tk_Q5 V.2.2.2.2.2 hp ho
    have hj3 : (3 : Int32) ≤ nI j := nI_le (a := 3) (by omega) (by omega)
    refine ⟨(nI (n + 1), nI m, xc, lv, cw, cn, upd st p 1, sx, rs, pa, rg, me, ds, pw, pl, upd qu n (nI p), ou), (nI (n + 1), xc, nI m, cw, cn, upd st p 1, pa, sy, rg, ds, me, pw, pl, upd qu n (nI p), ou), fun post h => br_t hj3 (by unfold wX_work_68; exact tk_xJoin hp hn5 h), fun post h => br_t hj3 ⟨v6, br_t (by rw [ep]; exact h1) (tk_yJoin hp hn5 h)⟩, tk_mk (tk_V_join V hp h0 ho) (by rw [tk_u1 h1]; exact S) C (by omega) O trivial⟩
  | succ d ih =>
    intro j Bd n m lv xc cw cn st sx sy rs pa rg me ds pw pl qu ou hj V S C hm hB O h1 ho
    have h0 : st p ≠ 0 := by rw [h1]; decide
    have hj3 : ¬ (3 : Int32) ≤ nI j := nI_ge (b := 3) (by omega) (by decide)
    obtain ⟨r, hr, wX, wY, hG⟩ := tk_wait (ql := nI n) (pc := nI m) (lv := lv) (xc := xc) (cw := cw) (cn := cn) (st := st) (sx := sx) (sy := sy) (rs := rs) (pa := pa) (rg := rg) (me := me) (ds := ds) (pw := pw) (pl := pl) (qu := qu) (ou := ou) hp C V.2.2.1 ((S p hp (by omega)).1 (Or.inl h1))
    rcases hr with hr | hr
    · rw [hr] at wX wY hG
      obtain ⟨o, y, hoy, hop, u1, v1, g, fX, fY, R⟩ := tk_step (pc := nI m) (lv := lv) (xc := xc) (cn := cn) (me := me) (pw := pw) hp V S C hm (by omega) O h1 ho (hG rfl)
      obtain ⟨n1, m1, lv1, xc1, cw1, cn1, st1, sx1, sy1, rs1, pa1, rg1, me1, ds1, pw1, pl1, qu1, ou1, rfl, rfl, V1, S1, C1, hm1, O1, K1⟩ := R
      obtain ⟨ho1, hk⟩ := K1
      rcases hk with ⟨s1, eg⟩ | ⟨s1, eg⟩
      · have hn5 : n1 ≤ 5 := tk_Q5 V1.2.2.2.2.2 hp ho1
        have h01 : st1 p ≠ 0 := by rw [s1]; decide
        rcases hoy with ⟨o20, y0⟩ | ⟨o20, y1⟩
        · rw [y0] at eg
          rw [eg] at fY
          refine ⟨(nI (n1 + 1), nI m1, xc1, lv1, cw1, cn1, upd st1 p 1, sx1, rs1, pa1, rg1, me1, ds1, pw1, pl1, upd qu1 n1 (nI p), ou1), (nI (n1 + 1), xc1, nI m1, cw1, cn1, upd st1 p 1, pa1, sy1, rg1, ds1, me1, pw1, pl1, upd qu1 n1 (nI p), ou1), fun post h => br_f hj3 (wX _ (br_t rfl (hop _ (br_t o20 ?_)))), fun post h => br_f hj3 (br_f tk_01 (wY _ (br_t rfl (fY _ (nm_r (nI_1 j) ?_))))), tk_mk (tk_V_join V1 hp h01 ho1) (by rw [tk_u1 s1]; exact S1) C1 (by omega) O1 trivial⟩
          · unfold wX_work_38
            refine fX _ ⟨v6, br_t (by rw [ep]; exact s1) (br_f tk_01 ?_)⟩
            unfold wX_work_68
            exact tk_xJoin hp hn5 h
          · have F : wY_turn_53 post (nI p) (nI n1) xc1 (nI m1) cw1 cn1 st1 pa1 sy1 rg1 ds1 me1 pw1 pl1 qu1 ou1 := ⟨v6, br_t (by rw [ep]; exact s1) (tk_yJoin hp hn5 h)⟩
            exact br_c (fun _ => F) (fun _ => br_t rfl F)
        · rw [y1] at eg
          rw [eg] at fY
          obtain ⟨u2, v2, gX, gY, R2⟩ := ih (j + 1) (Bd + 1) n1 m1 lv1 xc1 cw1 cn1 st1 sx1 sy1 rs1 pa1 rg1 me1 ds1 pw1 pl1 qu1 ou1 (by omega) V1 S1 C1 hm1 (by omega) O1 s1 ho1
          have eB : Bd + 1 + d = Bd + (d + 1) := by omega
          rw [eB] at R2
          refine ⟨u2, v2, fun post h => br_f hj3 (wX _ (br_t rfl (hop _ (br_f o20 ?_)))), fun post h => br_f hj3 (br_f tk_01 (wY _ (br_t rfl (fY _ (nm_r (nI_1 j) (gY post h)))))), R2⟩
          unfold wX_work_38
          exact fX _ ⟨v6, br_t (by rw [ep]; exact s1) (br_t rfl (nm_r (nI_1 j) (gX post h)))⟩
      · rw [eg] at fY
        refine ⟨(nI n1, nI m1, xc1, lv1, cw1, cn1, st1, sx1, rs1, pa1, rg1, me1, ds1, pw1, pl1, qu1, ou1), (nI n1, xc1, nI m1, cw1, cn1, st1, pa1, sy1, rg1, ds1, me1, pw1, pl1, qu1, ou1), fun post h => br_f hj3 (wX _ (br_t rfl (hop _ ?_))), fun post h => br_f hj3 (br_f tk_01 (wY _ (br_t rfl (fY _ (nm_r (nI_1 j) ?_))))), tk_mk V1 S1 C1 (by omega) O1 trivial⟩
        · refine br_c (fun _ => ?_) (fun _ => ?_)
          · unfold wX_work_38
            exact fX _ ⟨v6, br_f (by rw [ep]; exact s1) h⟩
          · unfold wX_work_38
            exact fX _ ⟨v6, br_f (by rw [ep]; exact s1) h⟩
        · have F : wY_turn_53 post (nI p) (nI n1) xc1 (nI m1) cw1 cn1 st1 pa1 sy1 rg1 ds1 me1 pw1 pl1 qu1 ou1 := ⟨v6, br_f (by rw [ep]; exact s1) h⟩
          exact br_c (fun _ => F) (fun _ => br_t rfl F)
    · rw [hr] at wX wY
      refine ⟨(nI n, nI m, xc, lv, cw, cn, upd st p 2, sx, rs, pa, rg, me, ds, pw, pl, qu, ou), (nI n, xc, nI m, cw, cn, upd st p 2, pa, sy, rg, ds, me, pw, pl, qu, ou), fun post h => br_f hj3 (wX _ (br_f tk_01 ⟨v6, nm_r (e' := upd st p 2) (by rw [ep]) h⟩)), fun post h => br_f hj3 (br_f tk_01 (wY _ (br_f tk_01 ⟨v6, nm_r (e' := upd st p 2) (by rw [ep]) h⟩))), tk_mk (tk_V_wait V hp h0 ho) (tk_SPl S (fun q hq _ => ?_)) C (by omega) O trivial⟩
      by_cases z : q = p
      · rw [z, pk_us]; exact Or.inr ⟨Or.inl h1, Or.inr rfl⟩
      · rw [pk_un z]; exact Or.inl rfl
theorem tk_wake : ∀ (d j n m : Nat) (lv : Int32) (xc : Int64) (cw cn st sx sy rs pa rg me ds pw pl qu ou : Nat → Int32), j + d = 6 → tk_V st pa ds pl qu n → tk_SP 6 st sx rs sy → tk_C cw → ∃ (n' : Nat) (st' qu' : Nat → Int32), tk_V st' pa ds pl qu' n' ∧ tk_SP 6 st' sx rs sy ∧ (∀ post : SX → Prop, post (nI n', nI m, xc, lv, cw, cn, st', sx, rs, pa, rg, me, ds, pw, pl, qu', ou) → wX_wakeWaiting_2 post (d + 1) (nI j) (nI n) (nI m) xc lv cw cn st sx rs pa rg me ds pw pl qu ou) ∧ (∀ (post : Int32 → SY → Prop) (J : Int32 → Int32 → Int64 → Int32 → (Nat → Int32) → (Nat → Int32) → (Nat → Int32) → (Nat → Int32) → (Nat → Int32) → (Nat → Int32) → (Nat → Int32) → (Nat → Int32) → (Nat → Int32) → (Nat → Int32) → (Nat → Int32) → (Nat → Int32) → Prop) (x2 x3 : Int32), wY_run_31 post J x2 x3 (0 + 1) (nI 6) (nI n') xc (nI m) cw cn (st') pa sy rg ds me pw pl (qu') ou → wY_run_31 post J x2 x3 (d + 1) (nI j) (nI n) xc (nI m) cw cn st pa sy rg ds me pw pl qu ou) := by
  intro d
  induction d with
  | zero =>
    intro j n m lv xc cw cn st sx sy rs pa rg me ds pw pl qu ou hj V S C
    have e : j = 6 := by omega
    rw [e]
    exact ⟨n, st, qu, V, S, fun post h => br_t (nI_le (a := 6) (by omega) (by decide)) h, fun post J x2 x3 h => h⟩
  | succ d ih =>
    intro j n m lv xc cw cn st sx sy rs pa rg me ds pw pl qu ou hj V S C
    have hj6 : j < 6 := by omega
    have v6 : vp_in (nI j) 6 := vp_in_nI hj6 (by decide)
    have ej : (nI j).toNatClampNeg = j := nI_clamp (by omega)
    have hj3 : ¬ (6 : Int32) ≤ nI j := nI_ge (b := 6) hj6 (by decide)
    have vq := V.2.2.2.2.2
    by_cases z : st j = 2
    · obtain ⟨r, hr, wX, wY, _⟩ := tk_wait (ql := nI n) (pc := nI m) (lv := lv) (xc := xc) (cw := cw) (cn := cn) (st := st) (sx := sx) (sy := sy) (rs := rs) (pa := pa) (rg := rg) (me := me) (ds := ds) (pw := pw) (pl := pl) (qu := qu) (ou := ou) hj6 C V.2.2.1 ((S j hj6 (by omega)).1 (Or.inr z))
      rcases hr with hr | hr
      · rw [hr] at wX wY
        have h0 : st j ≠ 0 := by rw [z]; decide
        have hx : st j ≠ 1 := by rw [z]; decide
        have ho := tk_Qo vq hj6 hx
        have hn5 : n ≤ 5 := tk_Q5 vq hj6 ho
        have S' : tk_SP 6 (upd st j 1) sx rs sy := tk_SPl S (fun q hq _ => by
          by_cases y : q = j
          · rw [y, pk_us]; exact Or.inr ⟨Or.inr z, Or.inl rfl⟩
          · rw [pk_un y]; exact Or.inl rfl)
        obtain ⟨n', st', qu', V', S'', fX, fY⟩ := ih (j + 1) (n + 1) m lv xc cw cn (upd st j 1) sx sy rs pa rg me ds pw pl (upd qu n (nI j)) ou (by omega) (tk_V_join V hj6 h0 ho) S' C
        exact ⟨n', st', qu', V', S'', fun post h => br_f hj3 ⟨v6, br_t (by rw [ej]; exact z) (wX _ (br_t rfl (tk_xJoin hj6 hn5 (nm_r (nI_1 j) (fX post h)))))⟩, fun post J x2 x3 h => br_f hj3 ⟨v6, br_t (by rw [ej]; exact z) (wY _ (br_t rfl (tk_yJoin hj6 hn5 (nm_r (nI_1 j) (fY post J x2 x3 h)))))⟩⟩
      · rw [hr] at wX wY
        obtain ⟨n', st', qu', V', S'', fX, fY⟩ := ih (j + 1) n m lv xc cw cn st sx sy rs pa rg me ds pw pl qu ou (by omega) V S C
        exact ⟨n', st', qu', V', S'', fun post h => br_f hj3 ⟨v6, br_t (by rw [ej]; exact z) (wX _ (br_f tk_01 (nm_r (nI_1 j) (fX post h))))⟩, fun post J x2 x3 h => br_f hj3 ⟨v6, br_t (by rw [ej]; exact z) (wY _ (br_f tk_01 (nm_r (nI_1 j) (fY post J x2 x3 h))))⟩⟩
    · obtain ⟨n', st', qu', V', S'', fX, fY⟩ := ih (j + 1) n m lv xc cw cn st sx sy rs pa rg me ds pw pl qu ou (by omega) V S C
      exact ⟨n', st', qu', V', S'', fun post h => br_f hj3 ⟨v6, br_f (by rw [ej]; exact z) (nm_r (nI_1 j) (fX post h))⟩, fun post J x2 x3 h => br_f hj3 ⟨v6, br_f (by rw [ej]; exact z) (nm_r (nI_1 j) (fY post J x2 x3 h))⟩⟩
theorem tk_run {c : Nat} (hc : c ≤ 80) : ∀ (d t Bd n m : Nat) (lv : Int32) (xc : Int64) (cw cn st sx sy rs pa rg me ds pw pl qu ou : Nat → Int32), t + d = c → tk_V st pa ds pl qu n → tk_SP 6 st sx rs sy → tk_C cw → m ≤ Bd → Bd + 3 * d < 2 ^ 30 → tk_O ou m → ∃ (r : Int32) (u' : SX) (v' : SY), (∀ post : Int32 → SX → Prop, post r u' → wX_run_15 post (nI c) (d + 1) (nI t) (nI n) (nI m) xc lv cw cn st sx rs pa rg me ds pw pl qu ou) ∧ (∀ post : Int32 → SY → Prop, post r v' → wY_run_23 post (nI c) (d + 1) (nI t) (nI n) xc (nI m) cw cn st pa sy rg ds me pw pl qu ou) ∧ tk_RK (Bd + 3 * d) tk_T u' v' := by
  intro d
  induction d with
  | zero =>
    intro t Bd n m lv xc cw cn st sx sy rs pa rg me ds pw pl qu ou ht V S C hm hB O
    have e : t = c := by omega
    rw [e]
    exact ⟨nI c, (nI n, nI m, xc, lv, cw, cn, st, sx, rs, pa, rg, me, ds, pw, pl, qu, ou), (nI n, xc, nI m, cw, cn, st, pa, sy, rg, ds, me, pw, pl, qu, ou), fun post h => br_t (nI_le (Nat.le_refl _) (by omega)) h, fun post h => br_t (nI_le (Nat.le_refl _) (by omega)) h, tk_mk V S C (by omega) O trivial⟩
  | succ d ih =>
    intro t Bd n m lv xc cw cn st sx sy rs pa rg me ds pw pl qu ou ht V S C hm hB O
    have htc : ¬ nI c ≤ nI t := nI_ge (by omega) (by omega)
    obtain ⟨n', st', qu', V', S', fX, fY⟩ := tk_wake 6 0 n m lv xc cw cn st sx sy rs pa rg me ds pw pl qu ou rfl V S C
    have vq := V'.2.2.2.2.2
    have hq6 : n' ≤ 6 := tk_Q6 vq
    by_cases z : n' = 0
    · rw [z] at fX fY V'
      have z0 : nI 0 = 0 := nI_0
      exact ⟨nI t, (nI 0, nI m, xc, lv, cw, cn, st', sx, rs, pa, rg, me, ds, pw, pl, qu', ou), (nI 0, xc, nI m, cw, cn, st', pa, sy, rg, ds, me, pw, pl, qu', ou), fun post h => br_f htc ⟨7, fX _ (br_t z0 h)⟩, fun post h => br_f htc ⟨7, fY _ _ _ _ (br_t (nI_le (a := 6) (by omega) (by decide)) (br_t z0 h))⟩, tk_mk V' S' C (by omega) O trivial⟩
    · obtain ⟨p, hp, eq, s1⟩ := vq.1 0 (by omega)
      have zn : ¬ nI n' = 0 := nI_ne0 (by omega) (by omega)
      obtain ⟨u1, v1, gX, gY, R⟩ := tk_work hp 3 0 Bd (tk_lv qu' (nI p) n').2 m lv xc cw cn st' sx sy rs pa rg me ds pw pl (tk_lv qu' (nI p) n').1 ou rfl (tk_V_leave p V') S' C hm (by omega) O s1 (tk_lo p vq)
      obtain ⟨n1, m1, lv1, xc1, cw1, cn1, st1, sx1, sy1, rs1, pa1, rg1, me1, ds1, pw1, pl1, qu1, ou1, rfl, rfl, V1, S1, C1, hm1, O1, _⟩ := R
      obtain ⟨r, u2, v2, hX, hY, R2⟩ := ih (t + 1) (Bd + 3) n1 m1 lv1 xc1 cw1 cn1 st1 sx1 sy1 rs1 pa1 rg1 me1 ds1 pw1 pl1 qu1 ou1 (by omega) V1 S1 C1 hm1 (by omega) O1
      have eB : Bd + 3 + 3 * d = Bd + 3 * (d + 1) := by omega
      rw [eB] at R2
      refine ⟨r, u2, v2, fun post h => br_f htc ⟨7, fX _ (br_f zn (nm_r (e' := nI p) eq (tk_xLv hq6 ⟨4, gX _ (nm_r (nI_1 t) (hX post h))⟩)))⟩, fun post h => br_f htc ⟨7, fY _ _ _ _ (br_t (nI_le (a := 6) (by omega) (by decide)) (br_f zn (nm_r (e' := nI p) eq (tk_yLv hq6 ⟨4, gY _ (nm_r (nI_1 t) (hY post h))⟩))))⟩, R2⟩
end
section
def i_Rel (k : Nat) (u : SX) (v : SY) : Prop := tk_RK (60 * k) tk_T u v
theorem i_up {k : Nat} {u : SX} {v : SY} (h : i_Rel k u v) : i_Rel (k + 4) u v := by
  obtain ⟨n, m, lv, xc, cw, cn, st, sx, sy, rs, pa, rg, me, ds, pw, pl, qu, ou, rfl, rfl, V, S, C, hm, O, _⟩ := h
  exact tk_mk V S C (by omega) O trivial
theorem tk_init : tk_RK (60 * 0) tk_T (nI 0, nI 0, 0, 2, (fun _ => 0), (fun _ => 0), (fun _ => 0), (fun _ => 0), (fun _ => 0), (fun _ => 0), (fun _ => 0), (fun _ => 0), (fun _ => 0), (fun _ => 0), (fun _ => 0), (fun _ => 0), (fun _ => 0)) (nI 0, 0, nI 0, (fun _ => 0), (fun _ => 0), (fun _ => 0), (fun _ => 0), (fun _ => 0), (fun _ => 0), (fun _ => 0), (fun _ => 0), (fun _ => 0), (fun _ => 0), (fun _ => 0), (fun _ => 0)) := by
  refine tk_mk ⟨?_, ?_, ?_, ?_, ?_, ?_⟩ ?_ ?_ (Nat.le_refl _) ?_ trivial
  · intro p _; exact Or.inl rfl
  · intro p _ _ d _; rfl
  · intro i _; exact ⟨0, by omega, nI_0.symm⟩
  · intro i _; exact ⟨0, by omega, nI_0.symm⟩
  · intro p _ h; exact absurd rfl h
  · exact ⟨fun i h => absurd h (Nat.not_lt_zero i), fun i j _ h => absurd h (Nat.not_lt_zero j)⟩
  · intro q _ _
    refine ⟨fun h => ?_, fun h => ?_⟩
    · have z : (0 : Int32) = 1 ∨ (0 : Int32) = 2 := h
      exact absurd z (by decide)
    · have z : (0 : Int32) = 3 := h
      exact absurd z (by decide)
  · intro i _; exact ⟨0, by omega, by omega, nI_0.symm⟩
  · intro k _ _; rfl
theorem i_vc0 : wpX_init (fun u => wpY_init (fun v => i_Rel 0 u v)) := by
  exact tk_init
theorem i_vc_code {k : Nat} {u : SX} {v : SY} (I : i_Rel k u v) (hk : k + 4 ≤ 2048) (v1 : Int32) (v2 : Int32) (v3 : Int32) : wpX_code (fun r u' => wpY_code (fun r' v' => r' = r ∧ i_Rel (k + 4) u' v') v v1 v2 v3) u v1 v2 v3 := by
  obtain ⟨n, m, lv, xc, cw, cn, st, sx, sy, rs, pa, rg, me, ds, pw, pl, qu, ou, rfl, rfl, V, S, C, hm, O, _⟩ := I
  have R : i_Rel (k + 4) (nI n, nI m, xc, lv, cw, cn, st, sx, rs, pa, rg, me, ds, pw, pl, qu, ou) (nI n, xc, nI m, cw, cn, st, pa, sy, rg, ds, me, pw, pl, qu, ou) := tk_mk V S C (by omega) O trivial
  unfold wpX_code
  rcases tk_ix v1 (n := 64) (by decide) with a | a | ⟨j, hj, rfl⟩
  · refine tk_xSpot0 (Or.inl a) (br_t rfl ?_)
    unfold wpY_code
    exact tk_yIn0 63 (Or.inl a) (br_t rfl ⟨rfl, R⟩)
  · refine tk_xSpot0 (Or.inr a) (br_t rfl ?_)
    unfold wpY_code
    exact tk_yIn0 63 (Or.inr a) (br_t rfl ⟨rfl, R⟩)
  · have v64 : vp_in (nI j) 64 := vp_in_nI hj (by decide)
    have ej : (nI j).toNatClampNeg = j := nI_clamp (by omega)
    refine tk_xSpot1 hj (br_f tk_01 ?_)
    rcases tk_ix v2 (n := 512) (by decide) with a | a | ⟨w, hw, rfl⟩
    · refine br_t a ?_
      unfold wpY_code
      exact tk_yIn1 63 (by omega) (br_f tk_01 (tk_yIn0 511 (Or.inl a) (br_t rfl ⟨rfl, R⟩)))
    · refine br_f a.1 (br_t (Int32.lt_of_lt_of_le (nI_lt (a := 511) (b := 512) (by decide) (by decide)) a.2) ?_)
      unfold wpY_code
      exact tk_yIn1 63 (by omega) (br_f tk_01 (tk_yIn0 511 (Or.inr a) (br_t rfl ⟨rfl, R⟩)))
    · refine br_f (nI_pos (by omega)) (br_f (nI_nlt (a := 511) (by omega) (by decide)) ?_)
      by_cases z : (nI w &&& 31) ≤ 24
      · refine br_t z ⟨v64, nm_r (e' := upd cw j (nI w)) (by rw [ej]) ⟨v64, nm_r (e' := upd cn j v3) (by rw [ej]) ?_⟩⟩
        have hz : w % 32 ≤ 24 := by
          rw [tk_op hw] at z
          exact (nI_leI (b := 24) (by omega) (by decide)).mp z
        have C' : tk_C (upd cw j (nI w)) := by
          intro q hq
          exact tk_uc (P := fun x => ∃ w, w < 512 ∧ w % 32 ≤ 24 ∧ x = nI w) (fun _ => ⟨w, hw, hz, rfl⟩) (fun _ => C q hq)
        unfold wpY_code
        exact tk_yIn1 63 (by omega) (br_f tk_01 (tk_yIn1 511 (by omega) (br_f tk_01 (br_t z ⟨v64, nm_r (e' := upd cw j (nI w)) (by rw [ej]) ⟨v64, nm_r (e' := upd cn j v3) (by rw [ej]) ⟨rfl, tk_mk V S C' (by omega) O trivial⟩⟩⟩))))
      · refine br_f z ?_
        unfold wpY_code
        exact tk_yIn1 63 (by omega) (br_f tk_01 (tk_yIn1 511 (by omega) (br_f tk_01 (br_f z ⟨rfl, R⟩))))
theorem i_vc_spawn {k : Nat} {u : SX} {v : SY} (I : i_Rel k u v) (hk : k + 4 ≤ 2048) (v1 : Int32) (v2 : Int32) : wpX_spawn (fun r u' => wpY_spawn (fun r' v' => r' = r ∧ i_Rel (k + 4) u' v') v v1 v2) u v1 v2 := by
  obtain ⟨n, m, lv, xc, cw, cn, st, sx, sy, rs, pa, rg, me, ds, pw, pl, qu, ou, rfl, rfl, V, S, C, hm, O, _⟩ := I
  have R : i_Rel (k + 4) (nI n, nI m, xc, lv, cw, cn, st, sx, rs, pa, rg, me, ds, pw, pl, qu, ou) (nI n, xc, nI m, cw, cn, st, pa, sy, rg, ds, me, pw, pl, qu, ou) := tk_mk V S C (by omega) O trivial
  obtain ⟨r, hF⟩ := tk_Fex (fun j => st j = 0) 6 6 0 rfl
  rcases tk_Fc hF with ⟨er, _⟩ | ⟨c, _, hc, er, hc0⟩
  · rw [er] at hF
    unfold wpX_spawn
    refine tk_xFree hF (br_t rfl ?_)
    unfold wpY_spawn
    exact tk_yFree hF (br_f (by decide) ⟨rfl, R⟩)
  · rw [er] at hF
    have hc0' : st c = 0 := hc0
    have vq := V.2.2.2.2.2
    have hc1 : st c ≠ 1 := by rw [hc0']; decide
    have hn5 : n ≤ 5 := tk_Q5 vq hc (tk_Qo vq hc hc1)
    have ez : tk_z ds (4 * c) 4 = ds := tk_zid (fun i a b => by
      have k := V.2.1 c hc (Or.inl hc0') (i - 4 * c) (by omega)
      have e : 4 * c + (i - 4 * c) = i := by omega
      rw [e] at k
      exact k)
    refine tk_xSp1 hF hc hn5 (tk_ySp1 hF hc hn5 ?_)
    rw [ez]
    exact ⟨rfl, tk_mk (tk_V_new V hc hc0' (Or.inl rfl) (fun _ _ _ => rfl) V.2.2.1) (tk_SP_new S) C (by omega) O trivial⟩
theorem i_vc_run {k : Nat} {u : SX} {v : SY} (I : i_Rel k u v) (hk : k + 4 ≤ 2048) (v1 : Int32) : wpX_run (fun r u' => wpY_run (fun r' v' => r' = r ∧ i_Rel (k + 4) u' v') v v1) u v1 := by
  obtain ⟨n, m, lv, xc, cw, cn, st, sx, sy, rs, pa, rg, me, ds, pw, pl, qu, ou, rfl, rfl, V, S, C, hm, O, _⟩ := I
  have key : ∀ c, c ≤ 80 → ∃ (r : Int32) (u' : SX) (v' : SY), (∀ post : Int32 → SX → Prop, post r u' → wX_run_15 post (nI c) (c + 1) (nI 0) (nI n) (nI m) xc lv cw cn st sx rs pa rg me ds pw pl qu ou) ∧ (∀ post : Int32 → SY → Prop, post r v' → wY_run_23 post (nI c) (c + 1) (nI 0) (nI n) xc (nI m) cw cn st pa sy rg ds me pw pl qu ou) ∧ i_Rel (k + 4) u' v' := by
    intro c hc
    obtain ⟨r, u', v', hX, hY, R⟩ := tk_run hc c 0 (60 * k) n m lv xc cw cn st sx sy rs pa rg me ds pw pl qu ou (by omega) V S C hm (by omega) O
    obtain ⟨n1, m1, lv1, xc1, cw1, cn1, st1, sx1, sy1, rs1, pa1, rg1, me1, ds1, pw1, pl1, qu1, ou1, rfl, rfl, V1, S1, C1, hm1, O1, _⟩ := R
    exact ⟨r, _, _, hX, hY, tk_mk V1 S1 C1 (by omega) O1 trivial⟩
  rcases tk_ix v1 (n := 81) (by decide) with a | a | ⟨c, hc, rfl⟩
  · have e80 : v1 ≤ 80 := Int32.le_trans (Int32.le_of_lt a) (by decide)
    exact br_t e80 ⟨1, br_t (Int32.le_of_lt a) (br_f (tk_lt0 a) ⟨1, br_t (Int32.le_refl _) ⟨rfl, tk_mk V S C (by omega) O trivial⟩⟩)⟩
  · obtain ⟨r, u', v', hX, hY, R⟩ := key 80 (Nat.le_refl _)
    have e80 : ¬ v1 ≤ 80 := Int32.not_le.mpr (Int32.lt_of_lt_of_le (nI_lt (a := 80) (b := 81) (by decide) (by decide)) a.2)
    exact br_f e80 ⟨81, hX _ (br_t (tk_ge0 a.1) (br_f e80 ⟨81, hY _ ⟨rfl, R⟩⟩))⟩
  · obtain ⟨r, u', v', hX, hY, R⟩ := key c (by omega)
    have e80 : nI c ≤ 80 := nI_le (b := 80) (by omega) (by decide)
    exact br_t e80 ⟨c + 1, hX _ (br_t (nI_pos' (by omega)) (br_t e80 ⟨c + 1, hY _ ⟨rfl, R⟩⟩))⟩
theorem i_vc_state {k : Nat} {u : SX} {v : SY} (I : i_Rel k u v) (hk : k + 4 ≤ 2048) (v1 : Int32) : wpX_state (fun r => wpY_state (fun r' => r' = r ∧ i_Rel (k + 4) u v) v v1) u v1 := by
  obtain ⟨n, m, lv, xc, cw, cn, st, sx, sy, rs, pa, rg, me, ds, pw, pl, qu, ou, rfl, rfl, V, S, C, hm, O, _⟩ := I
  have R : i_Rel (k + 4) (nI n, nI m, xc, lv, cw, cn, st, sx, rs, pa, rg, me, ds, pw, pl, qu, ou) (nI n, xc, nI m, cw, cn, st, pa, sy, rg, ds, me, pw, pl, qu, ou) := tk_mk V S C (by omega) O trivial
  unfold wpX_state
  rcases tk_ix v1 (n := 6) (by decide) with a | a | ⟨j, hj, rfl⟩
  · refine tk_xProc0 (Or.inl a) (br_t rfl ?_)
    unfold wpY_state
    exact tk_yIn0 5 (Or.inl a) (br_t rfl ⟨rfl, R⟩)
  · refine tk_xProc0 (Or.inr a) (br_t rfl ?_)
    unfold wpY_state
    exact tk_yIn0 5 (Or.inr a) (br_t rfl ⟨rfl, R⟩)
  · refine tk_xProc1 hj (br_f tk_01 ?_)
    have v6 : vp_in (nI j) 6 := vp_in_nI hj (by decide)
    have ej : (nI j).toNatClampNeg = j := nI_clamp (by omega)
    refine ⟨v6, ?_⟩
    unfold wpY_state
    exact tk_yIn1 5 (by omega) (br_f tk_01 ⟨v6, rfl, R⟩)
theorem i_vc_parent {k : Nat} {u : SX} {v : SY} (I : i_Rel k u v) (hk : k + 4 ≤ 2048) (v1 : Int32) : wpX_parent (fun r => wpY_parent (fun r' => r' = r ∧ i_Rel (k + 4) u v) v v1) u v1 := by
  obtain ⟨n, m, lv, xc, cw, cn, st, sx, sy, rs, pa, rg, me, ds, pw, pl, qu, ou, rfl, rfl, V, S, C, hm, O, _⟩ := I
  have R : i_Rel (k + 4) (nI n, nI m, xc, lv, cw, cn, st, sx, rs, pa, rg, me, ds, pw, pl, qu, ou) (nI n, xc, nI m, cw, cn, st, pa, sy, rg, ds, me, pw, pl, qu, ou) := tk_mk V S C (by omega) O trivial
  unfold wpX_parent
  rcases tk_ix v1 (n := 6) (by decide) with a | a | ⟨j, hj, rfl⟩
  · refine tk_xProc0 (Or.inl a) (br_t rfl ?_)
    unfold wpY_parent
    exact tk_yIn0 5 (Or.inl a) (br_t rfl ⟨rfl, R⟩)
  · refine tk_xProc0 (Or.inr a) (br_t rfl ?_)
    unfold wpY_parent
    exact tk_yIn0 5 (Or.inr a) (br_t rfl ⟨rfl, R⟩)
  · refine tk_xProc1 hj (br_f tk_01 ?_)
    have v6 : vp_in (nI j) 6 := vp_in_nI hj (by decide)
    have ej : (nI j).toNatClampNeg = j := nI_clamp (by omega)
    refine ⟨v6, ?_⟩
    by_cases z : st (nI j).toNatClampNeg = 0
    · refine br_t z ?_
      unfold wpY_parent
      exact tk_yIn1 5 (by omega) (br_f tk_01 ⟨v6, br_t z ⟨rfl, R⟩⟩)
    · refine br_f z ⟨v6, ?_⟩
      unfold wpY_parent
      exact tk_yIn1 5 (by omega) (br_f tk_01 ⟨v6, br_f z ⟨v6, rfl, R⟩⟩)
theorem i_vc_spot {k : Nat} {u : SX} {v : SY} (I : i_Rel k u v) (hk : k + 4 ≤ 2048) (v1 : Int32) : wpX_spot (fun r => wpY_spot (fun r' => r' = r ∧ i_Rel (k + 4) u v) v v1) u v1 := by
  obtain ⟨n, m, lv, xc, cw, cn, st, sx, sy, rs, pa, rg, me, ds, pw, pl, qu, ou, rfl, rfl, V, S, C, hm, O, _⟩ := I
  have R : i_Rel (k + 4) (nI n, nI m, xc, lv, cw, cn, st, sx, rs, pa, rg, me, ds, pw, pl, qu, ou) (nI n, xc, nI m, cw, cn, st, pa, sy, rg, ds, me, pw, pl, qu, ou) := tk_mk V S C (by omega) O trivial
  unfold wpX_spot
  rcases tk_ix v1 (n := 6) (by decide) with a | a | ⟨j, hj, rfl⟩
  · refine tk_xAliveO (Or.inl a) (br_t rfl (tk_xProc0 (Or.inl a) (br_t rfl ?_)))
    unfold wpY_spot
    exact tk_yIn0 5 (Or.inl a) (br_t rfl ⟨rfl, R⟩)
  · refine tk_xAliveO (Or.inr a) (br_t rfl (tk_xProc0 (Or.inr a) (br_t rfl ?_)))
    unfold wpY_spot
    exact tk_yIn0 5 (Or.inr a) (br_t rfl ⟨rfl, R⟩)
  · have v6 : vp_in (nI j) 6 := vp_in_nI hj (by decide)
    have ej : (nI j).toNatClampNeg = j := nI_clamp (by omega)
    by_cases al : st j = 1 ∨ st j = 2
    · have z : ¬ st (nI j).toNatClampNeg = 0 := by
        rw [ej]
        rcases al with y | y
        · rw [y]; decide
        · rw [y]; decide
      refine tk_xAlive1 hj al (br_f tk_01 ⟨v6, ?_⟩)
      unfold wpY_spot
      exact tk_yIn1 5 (by omega) (br_f tk_01 ⟨v6, br_f z ⟨v6, by rw [ej]; exact (S j hj (by omega)).1 al, R⟩⟩)
    · refine tk_xAlive0 hj al (br_t rfl (tk_xProc1 hj (br_f tk_01 ⟨v6, ?_⟩)))
      by_cases t : st j = 3
      · have z : ¬ st (nI j).toNatClampNeg = 0 := by rw [ej, t]; decide
        refine br_t (by rw [ej]; exact t) ⟨v6, ?_⟩
        unfold wpY_spot
        exact tk_yIn1 5 (by omega) (br_f tk_01 ⟨v6, br_f z ⟨v6, by rw [ej]; exact (S j hj (by omega)).2 t, R⟩⟩)
      · have z : st j = 0 := by
          rcases V.1 j hj with y | y | y | y
          · exact y
          · exact absurd (Or.inl y) al
          · exact absurd (Or.inr y) al
          · exact absurd y t
        refine br_f (by rw [ej]; exact t) ?_
        unfold wpY_spot
        exact tk_yIn1 5 (by omega) (br_f tk_01 ⟨v6, br_t (by rw [ej]; exact z) ⟨rfl, R⟩⟩)
theorem i_vc_register {k : Nat} {u : SX} {v : SY} (I : i_Rel k u v) (hk : k + 4 ≤ 2048) (v1 : Int32) (v2 : Int32) : wpX_register (fun r => wpY_register (fun r' => r' = r ∧ i_Rel (k + 4) u v) v v1 v2) u v1 v2 := by
  obtain ⟨n, m, lv, xc, cw, cn, st, sx, sy, rs, pa, rg, me, ds, pw, pl, qu, ou, rfl, rfl, V, S, C, hm, O, _⟩ := I
  have R : i_Rel (k + 4) (nI n, nI m, xc, lv, cw, cn, st, sx, rs, pa, rg, me, ds, pw, pl, qu, ou) (nI n, xc, nI m, cw, cn, st, pa, sy, rg, ds, me, pw, pl, qu, ou) := tk_mk V S C (by omega) O trivial
  unfold wpX_register
  rcases tk_ix v1 (n := 6) (by decide) with a | a | ⟨j, hj, rfl⟩
  · refine tk_xAliveO (Or.inl a) (br_t rfl ?_)
    unfold wpY_register
    exact tk_yLiveO (Or.inl a) (br_t rfl ⟨rfl, R⟩)
  · refine tk_xAliveO (Or.inr a) (br_t rfl ?_)
    unfold wpY_register
    exact tk_yLiveO (Or.inr a) (br_t rfl ⟨rfl, R⟩)
  · by_cases al : st j = 1 ∨ st j = 2
    · refine tk_xAlive1 hj al (br_f tk_01 ?_)
      rcases tk_ix v2 (n := 4) (by decide) with a | a | ⟨d, hd, rfl⟩
      · refine br_t a ?_
        unfold wpY_register
        exact tk_yLive1 hj al (br_f tk_01 (tk_yIn0 3 (Or.inl a) (br_t rfl ⟨rfl, R⟩)))
      · refine br_f a.1 (br_t a.2 ?_)
        unfold wpY_register
        exact tk_yLive1 hj al (br_f tk_01 (tk_yIn0 3 (Or.inr a) (br_t rfl ⟨rfl, R⟩)))
      · have e1 : (nI j * 4 + nI d).toNatClampNeg = 4 * j + d := by rw [tk_i4, nI_clamp (by omega)]
        have e2 : (4 * nI j + nI d).toNatClampNeg = 4 * j + d := by rw [tk_i4', nI_clamp (by omega)]
        have w1 : vp_in (nI j * 4 + nI d) 24 := by rw [tk_i4]; exact vp_in_nI (by omega) (by decide)
        have w2 : vp_in (4 * nI j + nI d) 24 := by rw [tk_i4']; exact vp_in_nI (by omega) (by decide)
        refine br_f (nI_pos (by omega)) (br_f (nI_ge (b := 4) hd (by decide)) ⟨w1, ?_⟩)
        unfold wpY_register
        exact tk_yLive1 hj al (br_f tk_01 (tk_yIn1 3 (by omega) (br_f tk_01 ⟨w2, by rw [e1, e2], R⟩)))
    · refine tk_xAlive0 hj al (br_t rfl ?_)
      unfold wpY_register
      exact tk_yLive0 hj al (br_t rfl ⟨rfl, R⟩)
theorem i_vc_word {k : Nat} {u : SX} {v : SY} (I : i_Rel k u v) (hk : k + 4 ≤ 2048) (v1 : Int32) (v2 : Int32) : wpX_word (fun r => wpY_word (fun r' => r' = r ∧ i_Rel (k + 4) u v) v v1 v2) u v1 v2 := by
  obtain ⟨n, m, lv, xc, cw, cn, st, sx, sy, rs, pa, rg, me, ds, pw, pl, qu, ou, rfl, rfl, V, S, C, hm, O, _⟩ := I
  have R : i_Rel (k + 4) (nI n, nI m, xc, lv, cw, cn, st, sx, rs, pa, rg, me, ds, pw, pl, qu, ou) (nI n, xc, nI m, cw, cn, st, pa, sy, rg, ds, me, pw, pl, qu, ou) := tk_mk V S C (by omega) O trivial
  unfold wpX_word
  rcases tk_ix v1 (n := 6) (by decide) with a | a | ⟨j, hj, rfl⟩
  · refine tk_xAliveO (Or.inl a) (br_t rfl ?_)
    unfold wpY_word
    exact tk_yLiveO (Or.inl a) (br_t rfl ⟨rfl, R⟩)
  · refine tk_xAliveO (Or.inr a) (br_t rfl ?_)
    unfold wpY_word
    exact tk_yLiveO (Or.inr a) (br_t rfl ⟨rfl, R⟩)
  · by_cases al : st j = 1 ∨ st j = 2
    · refine tk_xAlive1 hj al (br_f tk_01 ?_)
      rcases tk_ix v2 (n := 32) (by decide) with a | a | ⟨d, hd, rfl⟩
      · refine tk_xWord0 (Or.inl a) (br_t rfl ?_)
        unfold wpY_word
        exact tk_yLive1 hj al (br_f tk_01 (tk_yIn0 31 (Or.inl a) (br_t rfl ⟨rfl, R⟩)))
      · refine tk_xWord0 (Or.inr a) (br_t rfl ?_)
        unfold wpY_word
        exact tk_yLive1 hj al (br_f tk_01 (tk_yIn0 31 (Or.inr a) (br_t rfl ⟨rfl, R⟩)))
      · have e1 : (nI j * 32 + nI d).toNatClampNeg = 32 * j + d := by rw [tk_i5, nI_clamp (by omega)]
        have e2 : (32 * nI j + nI d).toNatClampNeg = 32 * j + d := by rw [tk_i5', nI_clamp (by omega)]
        have w1 : vp_in (nI j * 32 + nI d) 192 := by rw [tk_i5]; exact vp_in_nI (by omega) (by decide)
        have w2 : vp_in (32 * nI j + nI d) 192 := by rw [tk_i5']; exact vp_in_nI (by omega) (by decide)
        refine tk_xWord1 hd (br_f tk_01 ⟨w1, ?_⟩)
        unfold wpY_word
        exact tk_yLive1 hj al (br_f tk_01 (tk_yIn1 31 (by omega) (br_f tk_01 ⟨w2, by rw [e1, e2], R⟩)))
    · refine tk_xAlive0 hj al (br_t rfl ?_)
      unfold wpY_word
      exact tk_yLive0 hj al (br_t rfl ⟨rfl, R⟩)
theorem i_vc_descriptor {k : Nat} {u : SX} {v : SY} (I : i_Rel k u v) (hk : k + 4 ≤ 2048) (v1 : Int32) (v2 : Int32) : wpX_descriptor (fun r => wpY_descriptor (fun r' => r' = r ∧ i_Rel (k + 4) u v) v v1 v2) u v1 v2 := by
  obtain ⟨n, m, lv, xc, cw, cn, st, sx, sy, rs, pa, rg, me, ds, pw, pl, qu, ou, rfl, rfl, V, S, C, hm, O, _⟩ := I
  have R : i_Rel (k + 4) (nI n, nI m, xc, lv, cw, cn, st, sx, rs, pa, rg, me, ds, pw, pl, qu, ou) (nI n, xc, nI m, cw, cn, st, pa, sy, rg, ds, me, pw, pl, qu, ou) := tk_mk V S C (by omega) O trivial
  unfold wpX_descriptor
  rcases tk_ix v1 (n := 6) (by decide) with a | a | ⟨j, hj, rfl⟩
  · refine tk_xAliveO (Or.inl a) (br_t rfl ?_)
    unfold wpY_descriptor
    exact tk_yLiveO (Or.inl a) (br_t rfl ⟨rfl, R⟩)
  · refine tk_xAliveO (Or.inr a) (br_t rfl ?_)
    unfold wpY_descriptor
    exact tk_yLiveO (Or.inr a) (br_t rfl ⟨rfl, R⟩)
  · by_cases al : st j = 1 ∨ st j = 2
    · refine tk_xAlive1 hj al (br_f tk_01 ?_)
      rcases tk_ix v2 (n := 4) (by decide) with a | a | ⟨d, hd, rfl⟩
      · refine br_t a ?_
        unfold wpY_descriptor
        exact tk_yLive1 hj al (br_f tk_01 (tk_yIn0 3 (Or.inl a) (br_t rfl ⟨rfl, R⟩)))
      · refine br_f a.1 (br_t a.2 ?_)
        unfold wpY_descriptor
        exact tk_yLive1 hj al (br_f tk_01 (tk_yIn0 3 (Or.inr a) (br_t rfl ⟨rfl, R⟩)))
      · have e1 : (nI j * 4 + nI d).toNatClampNeg = 4 * j + d := by rw [tk_i4, nI_clamp (by omega)]
        have e2 : (4 * nI j + nI d).toNatClampNeg = 4 * j + d := by rw [tk_i4', nI_clamp (by omega)]
        have w1 : vp_in (nI j * 4 + nI d) 24 := by rw [tk_i4]; exact vp_in_nI (by omega) (by decide)
        have w2 : vp_in (4 * nI j + nI d) 24 := by rw [tk_i4']; exact vp_in_nI (by omega) (by decide)
        refine br_f (nI_pos (by omega)) (br_f (nI_ge (b := 4) hd (by decide)) ⟨w1, ?_⟩)
        unfold wpY_descriptor
        exact tk_yLive1 hj al (br_f tk_01 (tk_yIn1 3 (by omega) (br_f tk_01 ⟨w2, by rw [e1, e2], R⟩)))
    · refine tk_xAlive0 hj al (br_t rfl ?_)
      unfold wpY_descriptor
      exact tk_yLive0 hj al (br_t rfl ⟨rfl, R⟩)
theorem i_vc_pipe {k : Nat} {u : SX} {v : SY} (I : i_Rel k u v) (hk : k + 4 ≤ 2048) (v1 : Int32) : wpX_pipe (fun r => wpY_pipe (fun r' => r' = r ∧ i_Rel (k + 4) u v) v v1) u v1 := by
  obtain ⟨n, m, lv, xc, cw, cn, st, sx, sy, rs, pa, rg, me, ds, pw, pl, qu, ou, rfl, rfl, V, S, C, hm, O, _⟩ := I
  have R : i_Rel (k + 4) (nI n, nI m, xc, lv, cw, cn, st, sx, rs, pa, rg, me, ds, pw, pl, qu, ou) (nI n, xc, nI m, cw, cn, st, pa, sy, rg, ds, me, pw, pl, qu, ou) := tk_mk V S C (by omega) O trivial
  rcases tk_ix v1 (n := 3) (by decide) with a | a | ⟨j, hj, rfl⟩
  · refine br_t a ?_
    unfold wpY_pipe
    exact tk_yIn0 2 (Or.inl a) (br_t rfl ⟨rfl, R⟩)
  · refine br_f a.1 (br_f (Int32.not_lt.mpr a.2) ?_)
    unfold wpY_pipe
    exact tk_yIn0 2 (Or.inr a) (br_t rfl ⟨rfl, R⟩)
  · have v3 : vp_in (nI j) 3 := vp_in_nI hj (by decide)
    obtain ⟨r, hr⟩ := tk_Bex (fun i => ds i = 1 + 2 * nI j ∨ ds i = 2 + 2 * nI j) 0 24
    refine br_f (nI_pos (by omega)) (br_t (nI_lt (b := 3) hj (by decide)) (tk_xThere hr ?_))
    by_cases z : r = 0
    · refine br_t z ?_
      unfold wpY_pipe
      exact tk_yIn1 2 (by omega) (br_f tk_01 (tk_yThere hr (br_t z ⟨rfl, R⟩)))
    · refine br_f z ⟨v3, ?_⟩
      unfold wpY_pipe
      exact tk_yIn1 2 (by omega) (br_f tk_01 (tk_yThere hr (br_f z ⟨v3, rfl, R⟩)))
theorem i_vc_executed {k : Nat} {u : SX} {v : SY} (I : i_Rel k u v) (hk : k + 4 ≤ 2048) : wpX_executed (fun r => wpY_executed (fun r' => r' = r ∧ i_Rel (k + 4) u v) v) u := by
  obtain ⟨n, m, lv, xc, cw, cn, st, sx, sy, rs, pa, rg, me, ds, pw, pl, qu, ou, rfl, rfl, V, S, C, hm, O, _⟩ := I
  have R : i_Rel (k + 4) (nI n, nI m, xc, lv, cw, cn, st, sx, rs, pa, rg, me, ds, pw, pl, qu, ou) (nI n, xc, nI m, cw, cn, st, pa, sy, rg, ds, me, pw, pl, qu, ou) := tk_mk V S C (by omega) O trivial
  exact ⟨rfl, R⟩
theorem i_vc_printed {k : Nat} {u : SX} {v : SY} (I : i_Rel k u v) (hk : k + 4 ≤ 2048) : wpX_printed (fun r => wpY_printed (fun r' => r' = r ∧ i_Rel (k + 4) u v) v) u := by
  obtain ⟨n, m, lv, xc, cw, cn, st, sx, sy, rs, pa, rg, me, ds, pw, pl, qu, ou, rfl, rfl, V, S, C, hm, O, _⟩ := I
  have R : i_Rel (k + 4) (nI n, nI m, xc, lv, cw, cn, st, sx, rs, pa, rg, me, ds, pw, pl, qu, ou) (nI n, xc, nI m, cw, cn, st, pa, sy, rg, ds, me, pw, pl, qu, ou) := tk_mk V S C (by omega) O trivial
  exact ⟨rfl, R⟩
theorem i_vc_output {k : Nat} {u : SX} {v : SY} (I : i_Rel k u v) (hk : k + 4 ≤ 2048) (v1 : Int32) : wpX_output (fun r => wpY_output (fun r' => r' = r ∧ i_Rel (k + 4) u v) v v1) u v1 := by
  obtain ⟨n, m, lv, xc, cw, cn, st, sx, sy, rs, pa, rg, me, ds, pw, pl, qu, ou, rfl, rfl, V, S, C, hm, O, _⟩ := I
  have R : i_Rel (k + 4) (nI n, nI m, xc, lv, cw, cn, st, sx, rs, pa, rg, me, ds, pw, pl, qu, ou) (nI n, xc, nI m, cw, cn, st, pa, sy, rg, ds, me, pw, pl, qu, ou) := tk_mk V S C (by omega) O trivial
  rcases tk_ix v1 (n := 32) (by decide) with a | a | ⟨j, hj, rfl⟩
  · refine br_t a ?_
    unfold wpY_output
    exact tk_yIn0 31 (Or.inl a) (br_t rfl ⟨rfl, R⟩)
  · refine br_f a.1 (br_t a.2 ?_)
    unfold wpY_output
    exact tk_yIn0 31 (Or.inr a) (br_t rfl ⟨rfl, R⟩)
  · have v32 : vp_in (nI j) 32 := vp_in_nI hj (by decide)
    have ej : (nI j).toNatClampNeg = j := nI_clamp (by omega)
    refine br_f (nI_pos (by omega)) (br_f (nI_ge (b := 32) hj (by decide)) ⟨v32, ?_⟩)
    unfold wpY_output
    refine tk_yIn1 31 (by omega) (br_f tk_01 ?_)
    by_cases z : m ≤ j
    · exact br_t (nI_le z (by omega)) ⟨by rw [ej, O j z hj], R⟩
    · exact br_f (nI_ge (by omega) (by omega)) ⟨v32, rfl, R⟩
theorem i_vc_kill {k : Nat} {u : SX} {v : SY} (I : i_Rel k u v) (hk : k + 4 ≤ 2048) (v1 : Int32) (v2 : Int32) : wpX_kill (fun r u' => wpY_kill (fun r' v' => r' = r ∧ i_Rel (k + 4) u' v') v v1 v2) u v1 v2 := by
  obtain ⟨n, m, lv, xc, cw, cn, st, sx, sy, rs, pa, rg, me, ds, pw, pl, qu, ou, rfl, rfl, V, S, C, hm, O, _⟩ := I
  have R : i_Rel (k + 4) (nI n, nI m, xc, lv, cw, cn, st, sx, rs, pa, rg, me, ds, pw, pl, qu, ou) (nI n, xc, nI m, cw, cn, st, pa, sy, rg, ds, me, pw, pl, qu, ou) := tk_mk V S C (by omega) O trivial
  unfold wpX_kill
  rcases tk_ix v1 (n := 6) (by decide) with a | a | ⟨j, hj, rfl⟩
  · refine tk_xAliveO (Or.inl a) (br_t rfl ?_)
    unfold wpY_kill
    exact tk_yLiveO (Or.inl a) (br_t rfl ⟨rfl, R⟩)
  · refine tk_xAliveO (Or.inr a) (br_t rfl ?_)
    unfold wpY_kill
    exact tk_yLiveO (Or.inr a) (br_t rfl ⟨rfl, R⟩)
  · by_cases al : st j = 1 ∨ st j = 2
    · have h0 : st j ≠ 0 := by
        rcases al with y | y
        · rw [y]; decide
        · rw [y]; decide
      have hq : n ≤ 6 := tk_Q6 V.2.2.2.2.2
      have hv := V.2.2.2.2.1 j hj h0
      have hn : pa j ≠ nI j := tk_VPn V.2.2.2.2.1 hj h0
      refine tk_xAlive1 hj al (br_f tk_01 (tk_xFin hj hq hn ?_))
      unfold wpY_kill
      exact tk_yLive1 hj al (br_f tk_01 (tk_yFin hj hq hv hn ⟨rfl, tk_mk (tk_V_fin V hj h0) (tk_SP_fin S) C (by omega) O trivial⟩))
    · refine tk_xAlive0 hj al (br_t rfl ?_)
      unfold wpY_kill
      exact tk_yLive0 hj al (br_t rfl ⟨rfl, R⟩)
theorem i_vc_level {k : Nat} {u : SX} {v : SY} (I : i_Rel k u v) (hk : k + 4 ≤ 2048) (v1 : Int32) : wpX_level (fun r u' => wpY_level (fun r' => r' = r ∧ i_Rel (k + 4) u' v) v v1) u v1 := by
  obtain ⟨n, m, lv, xc, cw, cn, st, sx, sy, rs, pa, rg, me, ds, pw, pl, qu, ou, rfl, rfl, V, S, C, hm, O, _⟩ := I
  have R : i_Rel (k + 4) (nI n, nI m, xc, lv, cw, cn, st, sx, rs, pa, rg, me, ds, pw, pl, qu, ou) (nI n, xc, nI m, cw, cn, st, pa, sy, rg, ds, me, pw, pl, qu, ou) := tk_mk V S C (by omega) O trivial
  rcases tk_ix v1 (n := 3) (by decide) with a | a | ⟨j, hj, rfl⟩
  · refine br_t a ?_
    unfold wpY_level
    exact tk_yIn0 2 (Or.inl a) ⟨rfl, rfl, R⟩
  · refine br_f a.1 (br_f (Int32.not_lt.mpr a.2) ?_)
    unfold wpY_level
    exact tk_yIn0 2 (Or.inr a) ⟨rfl, rfl, R⟩
  · refine br_f (nI_pos (by omega)) (br_t (nI_lt (b := 3) hj (by decide)) ?_)
    unfold wpY_level
    exact tk_yIn1 2 (by omega) ⟨rfl, rfl, tk_mk V S C (by omega) O trivial⟩
end
