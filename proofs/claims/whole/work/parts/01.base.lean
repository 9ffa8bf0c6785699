/-! ===== 01: the relation, tables over masks and players, small calls, sums ===== -/
theorem pk_us {f : Nat → Int32} {k : Nat} {x : Int32} : upd f k x k = x := if_pos rfl
theorem pk_un {f : Nat → Int32} {k j : Nat} {x : Int32} (h : j ≠ k) : upd f k x j = f j := if_neg h
theorem pk_sub {a b : Nat} (h : b ≤ a) : nI a - nI b = nI (a - b) := by
  obtain ⟨c, rfl⟩ : ∃ c, a = c + b := ⟨a - b, by omega⟩
  rw [← nI_add, Int32.add_sub_cancel, Nat.add_sub_cancel]
theorem pk_m1 (n : Nat) : nI (n + 1) + (-1) = nI n := by
  rw [← nI_1, Int32.add_assoc, show (1 : Int32) + (-1) = 0 from rfl, Int32.add_zero]
theorem pk_mul (a b : Nat) : nI a * nI b = nI (a * b) := (Int32.ofNat_mul a b).symm
theorem pk_div {a d : Nat} (ha : a < 2 ^ 31) (h0 : 0 < d) (hd : d < 2 ^ 31) : nI a / nI d = nI (a / d) := by
  apply Int32.toInt_inj.mp
  rw [lg_idiv_nonneg (by rw [nI_toInt ha]; omega) (by rw [nI_toInt hd]; omega), nI_toInt ha, nI_toInt hd, nI_toInt (Nat.lt_of_le_of_lt (Nat.div_le_self a d) ha)]
  first | rfl | exact (Int.natCast_ediv _ _).symm
theorem pk_rem {a d : Nat} (ha : a < 2 ^ 31) (h0 : 0 < d) (hd : d < 2 ^ 31) : nI a - nI a / nI d * nI d = nI (a % d) := by
  rw [pk_div ha h0 hd, pk_mul, pk_sub (Nat.div_mul_le_self a d)]
  exact congrArg nI (by have := Nat.div_add_mod' a d; omega)

/-- worths that both sides keep: the empty coalition's is 0, all lie in -1000 to 1000 -/
def cv_Good (w : Nat → Int32) : Prop := w 0 = 0 ∧ ∀ j, -1000 ≤ (w j).toInt ∧ (w j).toInt ≤ 1000
/-- the same worths and amounts; the working rooms (bestTotals; moved, parts) are free -/
def i_Rel (_ : Nat) (u : SX) (v : SY) : Prop := ∃ w am bt mv pt, u = (w, am, bt) ∧ v = (w, mv, pt, am) ∧ cv_Good w
theorem cv_rel {k : Nat} {w am bt mv pt : Nat → Int32} (h : cv_Good w) : i_Rel k (w, am, bt) (w, mv, pt, am) := ⟨w, am, bt, mv, pt, rfl, rfl, h⟩
theorem i_up {k : Nat} {u : SX} {v : SY} (h : i_Rel k u v) : i_Rel (k + 3) u v := h
theorem cv_zr : -1000 ≤ (0 : Int32).toInt ∧ (0 : Int32).toInt ≤ 1000 := by decide
theorem cv_good0 : cv_Good (fun _ => 0) := ⟨rfl, fun _ => cv_zr⟩
theorem i_vc0 : wpX_init (fun u => wpY_init (fun v => i_Rel 0 u v)) := cv_rel (k := 0) cv_good0

/-! tables -/
theorem ct_has : ∀ c, c < 32 → ∀ p, p < 5 → ((nI c >>> (nI p &&& 31)) &&& 1) = (if c.testBit p = true then (1 : Int32) else 0) := by decide +kernel
theorem ct_bit : ∀ c, c < 32 → ∀ p, p < 5 → (nI c ||| ((1 : Int32) <<< (nI p &&& 31))) = nI (c ||| 2 ^ p) ∧ c ||| 2 ^ p < 32 := by decide +kernel
theorem ct_or : ∀ s, s < 32 → ∀ t, t < 32 → (nI s ||| nI t) = nI (s ||| t) ∧ s ||| t < 32 := by decide +kernel
theorem ct_and : ∀ s, s < 32 → ∀ t, t < 32 → (nI s &&& nI t) = nI (s &&& t) ∧ s &&& t < 32 := by decide +kernel
theorem ct_xor : ∀ s, s < 32 → ∀ t, t < 32 → (nI s ^^^ nI t) = nI (s ^^^ t) ∧ s ^^^ t < 32 := by decide +kernel
theorem ct_bitadd : ∀ p, p < 5 → ∀ c, c < 2 ^ p → c ||| 2 ^ p = c + 2 ^ p := by decide +kernel
theorem ct_lt32 {c : Nat} (h : c < 32) : c < 2 ^ 31 := by omega

/-! one bit, asked by X (has) and by Y -/
theorem cv_hasT {A B : Prop} {c p : Nat} (hc : c < 32) (hp : p < 5) (hb : c.testBit p = true) (b : B) : wpX_has (fun r => (r = 0 → A) ∧ (¬ r = 0 → B)) (nI c) (nI p) := by
  unfold wpX_has
  rw [ct_has c hc p hp, if_pos hb]
  exact br_t rfl (br_f (by decide) b)
theorem cv_hasF {A B : Prop} {c p : Nat} (hc : c < 32) (hp : p < 5) (hb : ¬ c.testBit p = true) (a : A) : wpX_has (fun r => (r = 0 → A) ∧ (¬ r = 0 → B)) (nI c) (nI p) := by
  unfold wpX_has
  rw [ct_has c hc p hp, if_neg hb]
  exact br_f (by decide) (br_t rfl a)
theorem cv_bT {A B : Prop} {c p : Nat} (hc : c < 32) (hp : p < 5) (hb : c.testBit p = true) (b : B) : (((nI c >>> (nI p &&& 31)) &&& 1) = 0 → A) ∧ (¬ ((nI c >>> (nI p &&& 31)) &&& 1) = 0 → B) := by
  rw [ct_has c hc p hp, if_pos hb]
  exact br_f (by decide) b
theorem cv_bF {A B : Prop} {c p : Nat} (hc : c < 32) (hp : p < 5) (hb : ¬ c.testBit p = true) (a : A) : (((nI c >>> (nI p &&& 31)) &&& 1) = 0 → A) ∧ (¬ ((nI c >>> (nI p &&& 31)) &&& 1) = 0 → B) := by
  rw [ct_has c hc p hp, if_neg hb]
  exact br_t rfl a

/-! a player, a coalition: refused or not -/
theorem cv_pl (x : Int32) : ((∀ P : Int32 → Prop, P 0 → wpX_isPlayer P x) ∧ (∀ (P : Int32 → Prop) (v : SY), P 0 → wpY_isPlayer P v x)) ∨ (∃ j : Nat, j < 5 ∧ x = nI j ∧ (∀ P : Int32 → Prop, P 1 → wpX_isPlayer P x) ∧ (∀ (P : Int32 → Prop) (v : SY), P 1 → wpY_isPlayer P v x)) := by
  by_cases hn : x < 0
  · exact Or.inl ⟨fun P h => br_t hn h, fun P v h => br_t hn h⟩
  · by_cases h5 : (5 : Int32) ≤ x
    · exact Or.inl ⟨fun P h => br_f hn (br_t h5 h), fun P v h => br_f hn (br_t h5 h)⟩
    · obtain ⟨j, hj, rfl⟩ := nI_of hn
      have h5' : ¬ nI 5 ≤ nI j := h5
      rw [nI_leI (by omega) hj] at h5'
      exact Or.inr ⟨j, by omega, rfl, fun P h => br_f hn (br_f h5 h), fun P v h => br_f hn (br_f h5 h)⟩
theorem cv_co (x : Int32) : ((∀ P : Int32 → Prop, P 0 → wpX_isNonEmptyCoalition P x) ∧ (∀ A B : Prop, B → ((x < 1 → B) ∧ (¬ x < 1 → ((x ≤ 31 → A) ∧ (¬ x ≤ 31 → B)))))) ∨ (∃ j : Nat, 1 ≤ j ∧ j < 32 ∧ x = nI j ∧ (∀ P : Int32 → Prop, P 1 → wpX_isNonEmptyCoalition P x) ∧ (∀ A B C : Prop, A → ((x < 1 → B) ∧ (¬ x < 1 → ((x ≤ 31 → A) ∧ (¬ x ≤ 31 → C)))))) := by
  by_cases hn : x < 1
  · exact Or.inl ⟨fun P h => br_t hn h, fun A B h => br_t hn h⟩
  · have h0 : ¬ x < 0 := fun h => hn (Int32.lt_of_lt_of_le h (by decide))
    obtain ⟨j, hj, rfl⟩ := nI_of h0
    have h1 : ¬ nI j < nI 1 := hn
    rw [nI_ltI hj (by omega)] at h1
    by_cases h5 : (32 : Int32) ≤ nI j
    · have h6 : nI 32 ≤ nI j := h5
      rw [nI_leI (by omega) hj] at h6
      have h7 : ¬ nI j ≤ (31 : Int32) := nI_ge (a := 31) (by omega) hj
      exact Or.inl ⟨fun P h => br_f hn (br_t h5 h), fun A B h => br_f hn (br_f h7 h)⟩
    · have h6 : ¬ nI 32 ≤ nI j := h5
      rw [nI_leI (by omega) hj] at h6
      have h7 : nI j ≤ (31 : Int32) := nI_le (b := 31) (by omega) (by omega)
      exact Or.inr ⟨j, by omega, by omega, rfl, fun P h => br_f hn (br_f h5 h), fun A B C h => br_f hn (br_t h7 h)⟩

/-! sums of ints -/
def cv_sum (f : Nat → Int32) : Nat → Int32
  | 0 => 0
  | n + 1 => cv_sum f n + f n
theorem cv_sum_congr {f g : Nat → Int32} {n : Nat} (h : ∀ i, i < n → f i = g i) : cv_sum f n = cv_sum g n := by
  induction n with
  | zero => rfl
  | succ n ih =>
    show cv_sum f n + f n = cv_sum g n + g n
    rw [ih (fun i hi => h i (by omega)), h n (by omega)]
theorem cv_sum_zero {f : Nat → Int32} {n : Nat} (h : ∀ i, i < n → f i = 0) : cv_sum f n = 0 := by
  induction n with
  | zero => rfl
  | succ n ih =>
    show cv_sum f n + f n = 0
    rw [ih (fun i hi => h i (by omega)), h n (by omega), Int32.add_zero]
theorem cv_sum_add (f g : Nat → Int32) (n : Nat) : cv_sum (fun i => f i + g i) n = cv_sum f n + cv_sum g n := by
  induction n with
  | zero => rfl
  | succ n ih =>
    show cv_sum (fun i => f i + g i) n + (f n + g n) = (cv_sum f n + f n) + (cv_sum g n + g n)
    rw [ih]
    grind
theorem cv_sum_mul (c : Int32) (f : Nat → Int32) (n : Nat) : cv_sum (fun i => f i * c) n = cv_sum f n * c := by
  induction n with
  | zero => show (0 : Int32) = 0 * c; rw [Int32.zero_mul]
  | succ n ih =>
    show cv_sum (fun i => f i * c) n + f n * c = (cv_sum f n + f n) * c
    rw [ih]
    grind
theorem cv_sum_swap (F : Nat → Nat → Int32) (n m : Nat) : cv_sum (fun i => cv_sum (fun j => F i j) m) n = cv_sum (fun j => cv_sum (fun i => F i j) n) m := by
  induction n with
  | zero => exact (cv_sum_zero (fun i _ => rfl)).symm
  | succ n ih =>
    show cv_sum (fun i => cv_sum (fun j => F i j) m) n + cv_sum (fun j => F n j) m = cv_sum (fun j => cv_sum (fun i => F i j) n + F n j) m
    rw [ih, cv_sum_add]
theorem cv_sum_single {f : Nat → Int32} {a n : Nat} (ha : a < n) (h : ∀ i, i < n → i ≠ a → f i = 0) : cv_sum f n = f a := by
  induction n with
  | zero => omega
  | succ n ih =>
    show cv_sum f n + f n = f a
    by_cases e : a = n
    · subst e
      rw [cv_sum_zero (fun i hi => h i (by omega) (by omega)), Int32.zero_add]
    · rw [ih (by omega) (fun i hi hia => h i (by omega) hia), h n (by omega) (fun z => e z.symm), Int32.add_zero]
