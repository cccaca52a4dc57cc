theorem tk_ge {P : Nat → Prop} {lo m : Nat} (hp : ¬ P lo) (a : ∀ j, lo + 1 ≤ j → j < m → ¬ P j) : ∀ j, lo ≤ j → j < m → ¬ P j := by
  intro j x y
  rcases Nat.lt_or_ge lo j with z | z
  · exact a j z y
  · have e : j = lo := by omega
    rw [e]; exact hp
def tk_F (P : Nat → Prop) (lo hi : Nat) (r : Int32) : Prop := (r = -1 ∧ ∀ j, lo ≤ j → j < hi → ¬ P j) ∨ ∃ j, lo ≤ j ∧ j < hi ∧ r = nI j ∧ P j ∧ ∀ i, lo ≤ i → i < j → ¬ P i
theorem tk_Fd {P : Nat → Prop} {lo hi : Nat} (hp : P lo) (h : lo < hi) : tk_F P lo hi (nI lo) := Or.inr ⟨lo, Nat.le_refl _, h, rfl, hp, fun i a b => by omega⟩
theorem tk_Fk {P : Nat → Prop} {lo hi : Nat} {r : Int32} (hp : ¬ P lo) (h : tk_F P (lo + 1) hi r) : tk_F P lo hi r := by
  rcases h with ⟨e, a⟩ | ⟨j, a, b, e, c, f⟩
  · exact Or.inl ⟨e, tk_ge hp a⟩
  · exact Or.inr ⟨j, by omega, b, e, c, tk_ge hp f⟩
theorem tk_Fe {P : Nat → Prop} {lo hi : Nat} (h : hi ≤ lo) : tk_F P lo hi (-1) := Or.inl ⟨rfl, fun j a b => by omega⟩
theorem tk_Fex (P : Nat → Prop) (hi : Nat) : ∀ d lo, lo + d = hi → ∃ r, tk_F P lo hi r := by
  intro d
  induction d with
  | zero => intro lo h; exact ⟨-1, tk_Fe (by omega)⟩
  | succ d ih =>
    intro lo h
    by_cases hp : P lo
    · exact ⟨nI lo, tk_Fd hp (by omega)⟩
    · obtain ⟨r, hr⟩ := ih (lo + 1) (by omega)
      exact ⟨r, tk_Fk hp hr⟩
theorem tk_Ft {P : Nat → Prop} {lo hi : Nat} {r : Int32} (h : tk_F P lo hi r) (hl : lo < hi) (hp : P lo) : r = nI lo := by
  rcases h with ⟨e, a⟩ | ⟨j, a, b, e, c, f⟩
  · exact absurd hp (a lo (Nat.le_refl _) hl)
  · rcases Nat.lt_or_ge lo j with z | z
    · exact absurd hp (f lo (Nat.le_refl _) z)
    · have q : j = lo := by omega
      rw [e, q]
theorem tk_Fn {P : Nat → Prop} {lo hi : Nat} {r : Int32} (h : tk_F P lo hi r) (hp : ¬ P lo) : tk_F P (lo + 1) hi r := by
  rcases h with ⟨e, a⟩ | ⟨j, a, b, e, c, f⟩
  · exact Or.inl ⟨e, fun j x y => a j (by omega) y⟩
  · have q : j ≠ lo := fun z => hp (z ▸ c)
    exact Or.inr ⟨j, by omega, b, e, c, fun i x y => f i (by omega) y⟩
theorem tk_Fz {P : Nat → Prop} {lo hi : Nat} {r : Int32} (h : tk_F P lo hi r) (hl : hi ≤ lo) : r = -1 := by
  rcases h with ⟨e, a⟩ | ⟨j, a, b, e, c, f⟩
  · exact e
  · exact absurd b (by omega)
theorem tk_Fu {P : Nat → Prop} {hi : Nat} {r s : Int32} : ∀ d lo, lo + d = hi → tk_F P lo hi r → tk_F P lo hi s → r = s := by
  intro d
  induction d with
  | zero => intro lo h a b; rw [tk_Fz a (by omega), tk_Fz b (by omega)]
  | succ d ih =>
    intro lo h a b
    by_cases hp : P lo
    · rw [tk_Ft a (by omega) hp, tk_Ft b (by omega) hp]
    · exact ih (lo + 1) (by omega) (tk_Fn a hp) (tk_Fn b hp)
theorem tk_nm1 {j : Nat} (h : j < 2 ^ 31) : nI j ≠ -1 := by
  intro e
  have a : (nI j).toInt = (-1 : Int32).toInt := by rw [e]
  rw [nI_toInt h, show (-1 : Int32).toInt = -1 from by decide] at a
  omega
theorem tk_nm2 {j : Nat} (h : j < 2 ^ 31) : nI j ≠ -2 := by
  intro e
  have a : (nI j).toInt = (-2 : Int32).toInt := by rw [e]
  rw [nI_toInt h, show (-2 : Int32).toInt = -2 from by decide] at a
  omega
/-- what a search that answers -1 or the first place says, by cases -/
theorem tk_Fc {P : Nat → Prop} {lo hi : Nat} {r : Int32} (h : tk_F P lo hi r) : (r = -1 ∧ ∀ j, lo ≤ j → j < hi → ¬ P j) ∨ ∃ j, lo ≤ j ∧ j < hi ∧ r = nI j ∧ P j := by
  rcases h with ⟨e, a⟩ | ⟨j, a, b, e, c, f⟩
  · exact Or.inl ⟨e, a⟩
  · exact Or.inr ⟨j, a, b, e, c⟩
def tk_B (P : Nat → Prop) (lo hi : Nat) (r : Int32) : Prop := (r = 1 ∧ ∃ j, lo ≤ j ∧ j < hi ∧ P j) ∨ (r = 0 ∧ ∀ j, lo ≤ j → j < hi → ¬ P j)
theorem tk_Bex (P : Nat → Prop) (lo hi : Nat) : ∃ r, tk_B P lo hi r := by
  by_cases h : ∃ j, lo ≤ j ∧ j < hi ∧ P j
  · exact ⟨1, Or.inl ⟨rfl, h⟩⟩
  · exact ⟨0, Or.inr ⟨rfl, fun j a b c => h ⟨j, a, b, c⟩⟩⟩
theorem tk_Bt {P : Nat → Prop} {lo hi : Nat} {r : Int32} (h : tk_B P lo hi r) (hl : lo < hi) (hp : P lo) : r = 1 := by
  rcases h with ⟨e, _⟩ | ⟨_, a⟩
  · exact e
  · exact absurd hp (a lo (Nat.le_refl _) hl)
theorem tk_Bn {P : Nat → Prop} {lo hi : Nat} {r : Int32} (h : tk_B P lo hi r) (hp : ¬ P lo) : tk_B P (lo + 1) hi r := by
  rcases h with ⟨e, j, a, b, c⟩ | ⟨e, a⟩
  · have q : j ≠ lo := fun z => hp (z ▸ c)
    exact Or.inl ⟨e, j, by omega, b, c⟩
  · exact Or.inr ⟨e, fun j x y => a j (by omega) y⟩
theorem tk_Bz {P : Nat → Prop} {lo hi : Nat} {r : Int32} (h : tk_B P lo hi r) (hl : hi ≤ lo) : r = 0 := by
  rcases h with ⟨e, j, a, b, c⟩ | ⟨e, a⟩
  · exact absurd b (by omega)
  · exact e
theorem tk_B01 {P : Nat → Prop} {lo hi : Nat} {r : Int32} (h : tk_B P lo hi r) : r = 0 ∨ r = 1 := by
  rcases h with ⟨e, _⟩ | ⟨e, _⟩
  · exact Or.inr e
  · exact Or.inl e
theorem tk_pig : ∀ (n : Nat) (f : Nat → Nat) (m : Nat), (∀ i, i < m → f i < n) → (∀ i j, i < j → j < m → f i ≠ f j) → m ≤ n := by
  intro n
  induction n with
  | zero =>
    intro f m h _
    rcases Nat.eq_zero_or_pos m with z | z
    · omega
    · exact absurd (h 0 z) (by omega)
  | succ n ih =>
    intro f m h hd
    by_cases hx : ∃ i, i < m ∧ f i = n
    · obtain ⟨i, hi, e⟩ := hx
      have k := ih (fun j => if j < i then f j else f (j + 1)) (m - 1) (by
        intro j hj
        show (if j < i then f j else f (j + 1)) < n
        by_cases c : j < i
        · rw [if_pos c]
          have a := h j (by omega)
          have b := hd j i c hi
          omega
        · rw [if_neg c]
          have a := h (j + 1) (by omega)
          have b := hd i (j + 1) (by omega) (by omega)
          omega) (by
        intro a b hab hb
        show (if a < i then f a else f (a + 1)) ≠ (if b < i then f b else f (b + 1))
        by_cases c1 : a < i
        · by_cases c2 : b < i
          · rw [if_pos c1, if_pos c2]; exact hd a b hab (by omega)
          · rw [if_pos c1, if_neg c2]; exact hd a (b + 1) (by omega) (by omega)
        · by_cases c2 : b < i
          · exact absurd c2 (by omega)
          · rw [if_neg c1, if_neg c2]; exact hd (a + 1) (b + 1) (by omega) (by omega))
      omega
    · have k := ih f m (fun i hi => by
        have a := h i hi
        have b : f i ≠ n := fun z => hx ⟨i, hi, z⟩
        omega) hd
      omega
theorem tk_uc {f : Nat → Int32} {k j : Nat} {x : Int32} (P : Int32 → Prop) (h1 : j = k → P x) (h2 : j ≠ k → P (f j)) : P (upd f k x j) := by
  by_cases h : j = k
  · rw [h, pk_us]; exact h1 h
  · rw [pk_un h]; exact h2 h
theorem tk_uid (f : Nat → Int32) (k : Nat) : upd f k (f k) = f := by
  funext j
  exact tk_uc (P := fun y => y = f j) (fun e => by rw [e]) (fun _ => rfl)
theorem tk_ni {a b : Nat} (ha : a < 2 ^ 31) (hb : b < 2 ^ 31) (h : nI a = nI b) : a = b := (nI_eq ha hb).mp h
/-- the queue: its first n entries are processes that are ready, no two alike -/
def tk_Q (st qu : Nat → Int32) (n : Nat) : Prop := (∀ i, i < n → ∃ j, j < 6 ∧ qu i = nI j ∧ st j = 1) ∧ (∀ i j, i < j → j < n → qu i ≠ qu j)
def tk_out (qu : Nat → Int32) (n p : Nat) : Prop := ∀ i, i < n → qu i ≠ nI p
theorem tk_Qo {st qu : Nat → Int32} {n p : Nat} (h : tk_Q st qu n) (hp : p < 6) (h1 : st p ≠ 1) : tk_out qu n p := by
  intro i hi e
  obtain ⟨j, hj, ej, sj⟩ := h.1 i hi
  rw [ej] at e
  have q := tk_ni (by omega) (by omega) e
  rw [q] at sj
  exact h1 sj
theorem tk_Q5 {st qu : Nat → Int32} {n p : Nat} (h : tk_Q st qu n) (hp : p < 6) (ho : tk_out qu n p) : n ≤ 5 := by
  have k := tk_pig 6 (fun i => (if i < n then qu i else nI p).toNatClampNeg) (n + 1) (by
    intro i hi
    show (if i < n then qu i else nI p).toNatClampNeg < 6
    by_cases c : i < n
    · obtain ⟨j, hj, ej, _⟩ := h.1 i c
      rw [if_pos c, ej, nI_clamp (by omega)]; exact hj
    · rw [if_neg c, nI_clamp (by omega)]; exact hp) (by
    intro i j hij hj
    show (if i < n then qu i else nI p).toNatClampNeg ≠ (if j < n then qu j else nI p).toNatClampNeg
    obtain ⟨a, ha, ea, _⟩ := h.1 i (by omega)
    have oi := ho i (by omega)
    rw [if_pos (show i < n by omega)]
    by_cases c : j < n
    · obtain ⟨b, hb, eb, _⟩ := h.1 j c
      have d := h.2 i j hij c
      rw [if_pos c, ea, eb, nI_clamp (by omega), nI_clamp (by omega)]
      intro z
      rw [ea, eb, z] at d
      exact d rfl
    · rw [if_neg c, ea, nI_clamp (by omega), nI_clamp (by omega)]
      intro z
      rw [ea, z] at oi
      exact oi rfl)
  omega
theorem tk_Q6 {st qu : Nat → Int32} {n : Nat} (h : tk_Q st qu n) : n ≤ 6 := by
  refine tk_pig 6 (fun i => (qu i).toNatClampNeg) n (fun i hi => ?_) (fun i j hij hj => ?_)
  · obtain ⟨j, hj, ej, _⟩ := h.1 i hi
    show (qu i).toNatClampNeg < 6
    rw [ej, nI_clamp (by omega)]; exact hj
  · obtain ⟨a, ha, ea, _⟩ := h.1 i (by omega)
    obtain ⟨b, hb, eb, _⟩ := h.1 j hj
    have d := h.2 i j hij hj
    show (qu i).toNatClampNeg ≠ (qu j).toNatClampNeg
    rw [ea, eb, nI_clamp (by omega), nI_clamp (by omega)]
    intro z
    rw [ea, eb, z] at d
    exact d rfl
theorem tk_Qm {st st' qu : Nat → Int32} {n : Nat} (h : tk_Q st qu n) (hs : ∀ j, j < 6 → st j = 1 → tk_out qu n j ∨ st' j = 1) : tk_Q st' qu n := by
  refine ⟨fun i hi => ?_, h.2⟩
  obtain ⟨j, hj, ej, sj⟩ := h.1 i hi
  rcases hs j hj sj with o | o
  · exact absurd ej (o i hi)
  · exact ⟨j, hj, ej, o⟩
theorem tk_Qa {st qu : Nat → Int32} {n p : Nat} (h : tk_Q st qu n) (hp : p < 6) (ho : tk_out qu n p) : tk_Q (upd st p 1) (upd qu n (nI p)) (n + 1) := by
  constructor
  · intro i hi
    rcases Nat.lt_or_ge i n with c | c
    · obtain ⟨j, hj, ej, sj⟩ := h.1 i c
      refine ⟨j, hj, ?_, ?_⟩
      · rw [pk_un (by omega)]; exact ej
      · exact tk_uc (P := fun y => y = 1) (fun _ => rfl) (fun _ => sj)
    · have e : i = n := by omega
      exact ⟨p, hp, by rw [e, pk_us], pk_us⟩
  · intro i j hij hj
    rcases Nat.lt_or_ge j n with c | c
    · rw [pk_un (show i ≠ n by omega), pk_un (show j ≠ n by omega)]; exact h.2 i j hij c
    · have e : j = n := by omega
      rw [e, pk_us, pk_un (show i ≠ n by omega)]
      exact ho i (by omega)
theorem tk_oa {qu : Nat → Int32} {n p q : Nat} (h : tk_out qu n q) (hp : p < 6) (hq : q < 6) (hn : q ≠ p) : tk_out (upd qu n (nI p)) (n + 1) q := by
  intro i hi
  rcases Nat.lt_or_ge i n with c | c
  · rw [pk_un (by omega)]; exact h i c
  · have e : i = n := by omega
    rw [e, pk_us]
    intro z
    exact hn (tk_ni (by omega) (by omega) z).symm
def tk_lv (q : Nat → Int32) (p : Int32) : Nat → (Nat → Int32) × Nat
  | 0 => (q, 0)
  | i + 1 => if (tk_lv q p i).1 i = p then tk_lv q p i else (upd (tk_lv q p i).1 (tk_lv q p i).2 ((tk_lv q p i).1 i), (tk_lv q p i).2 + 1)
theorem tk_lvt {q : Nat → Int32} {p : Int32} {i : Nat} (h : (tk_lv q p i).1 i = p) : tk_lv q p (i + 1) = tk_lv q p i := if_pos h
theorem tk_lvf {q : Nat → Int32} {p : Int32} {i : Nat} (h : ¬ (tk_lv q p i).1 i = p) : tk_lv q p (i + 1) = (upd (tk_lv q p i).1 (tk_lv q p i).2 ((tk_lv q p i).1 i), (tk_lv q p i).2 + 1) := if_neg h
theorem tk_lvle {q : Nat → Int32} {p : Int32} : ∀ i, (tk_lv q p i).2 ≤ i := by
  intro i
  induction i with
  | zero => exact Nat.le_refl _
  | succ i ih =>
    by_cases c : (tk_lv q p i).1 i = p
    · rw [tk_lvt c]; omega
    · rw [tk_lvf c]; show (tk_lv q p i).2 + 1 ≤ i + 1; omega
theorem tk_lvk {q : Nat → Int32} {p : Int32} : ∀ i j, i ≤ j → (tk_lv q p i).1 j = q j := by
  intro i
  induction i with
  | zero => intro j _; rfl
  | succ i ih =>
    intro j hj
    by_cases c : (tk_lv q p i).1 i = p
    · rw [tk_lvt c]; exact ih j (by omega)
    · rw [tk_lvf c]
      have l := tk_lvle (q := q) (p := p) i
      show upd (tk_lv q p i).1 (tk_lv q p i).2 ((tk_lv q p i).1 i) j = q j
      rw [pk_un (by omega)]; exact ih j (by omega)
theorem tk_lvo {q : Nat → Int32} {p : Int32} {n : Nat} (hd : ∀ i j, i < j → j < n → q i ≠ q j) : ∀ i, i ≤ n → (∀ a, a < (tk_lv q p i).2 → ∃ c, c < i ∧ (tk_lv q p i).1 a = q c ∧ q c ≠ p) ∧ (∀ a b, a < b → b < (tk_lv q p i).2 → (tk_lv q p i).1 a ≠ (tk_lv q p i).1 b) := by
  intro i
  induction i with
  | zero => intro _; exact ⟨fun a h => absurd h (Nat.not_lt_zero a), fun a b _ h => absurd h (Nat.not_lt_zero b)⟩
  | succ i ih =>
    intro hi
    obtain ⟨h1, h2⟩ := ih (by omega)
    by_cases c : (tk_lv q p i).1 i = p
    · rw [tk_lvt c]
      refine ⟨fun a ha => ?_, h2⟩
      obtain ⟨d, e, f⟩ := h1 a ha
      exact ⟨d, by omega, f⟩
    · rw [tk_lvf c]
      have k := tk_lvk (q := q) (p := p) i i (Nat.le_refl _)
      rw [k] at c ⊢
      show (∀ a, a < (tk_lv q p i).2 + 1 → ∃ c, c < i + 1 ∧ upd (tk_lv q p i).1 (tk_lv q p i).2 (q i) a = q c ∧ q c ≠ p) ∧ (∀ a b, a < b → b < (tk_lv q p i).2 + 1 → upd (tk_lv q p i).1 (tk_lv q p i).2 (q i) a ≠ upd (tk_lv q p i).1 (tk_lv q p i).2 (q i) b)
      constructor
      · intro a ha
        rcases Nat.lt_or_ge a (tk_lv q p i).2 with z | z
        · obtain ⟨d, e, f⟩ := h1 a z
          refine ⟨d, by omega, ?_⟩
          rw [pk_un (by omega)]; exact f
        · have e : a = (tk_lv q p i).2 := by omega
          exact ⟨i, by omega, by rw [e, pk_us], c⟩
      · intro a b hab hb
        rcases Nat.lt_or_ge b (tk_lv q p i).2 with z | z
        · rw [pk_un (show a ≠ (tk_lv q p i).2 by omega), pk_un (show b ≠ (tk_lv q p i).2 by omega)]
          exact h2 a b hab z
        · have e : b = (tk_lv q p i).2 := by omega
          rw [pk_un (show a ≠ (tk_lv q p i).2 by omega), e, pk_us]
          obtain ⟨d, x, y, _⟩ := h1 a (by omega)
          rw [y]
          exact hd d i x (by omega)
theorem tk_Ql {st qu : Nat → Int32} {n : Nat} (p : Nat) (h : tk_Q st qu n) : tk_Q st (tk_lv qu (nI p) n).1 (tk_lv qu (nI p) n).2 := by
  obtain ⟨a, b⟩ := tk_lvo (p := nI p) h.2 n (Nat.le_refl _)
  refine ⟨fun i hi => ?_, b⟩
  obtain ⟨c, x, y, _⟩ := a i hi
  rw [y]
  exact h.1 c x
theorem tk_lo {st qu : Nat → Int32} {n : Nat} (p : Nat) (h : tk_Q st qu n) : tk_out (tk_lv qu (nI p) n).1 (tk_lv qu (nI p) n).2 p := by
  intro i hi
  obtain ⟨c, x, y, z⟩ := (tk_lvo (p := nI p) h.2 n (Nat.le_refl _)).1 i hi
  rw [y]; exact z
theorem tk_lo' {st qu : Nat → Int32} {n : Nat} (p : Nat) {q : Nat} (h : tk_Q st qu n) (ho : tk_out qu n q) : tk_out (tk_lv qu (nI p) n).1 (tk_lv qu (nI p) n).2 q := by
  intro i hi
  obtain ⟨c, x, y, z⟩ := (tk_lvo (p := nI p) h.2 n (Nat.le_refl _)).1 i hi
  rw [y]; exact ho c x
