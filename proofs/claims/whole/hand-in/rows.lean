section
/-! ===== 01: the relation, tables over masks and players, small calls, sums ===== -/
theorem pk_us {f : Nat → Int32} {k : Nat} {x : Int32} : upd f k x k = x := if_pos rfl
theorem pk_un {f : Nat → Int32} {k j : Nat} {x : Int32} (h : j ≠ k) : upd f k x j = f j := if_neg h
theorem pk_sub {a b : Nat} (h : b ≤ a) : nI a - nI b = nI (a - b) := by
  obtain ⟨c, rfl⟩ : ∃ c, a = c + b := ⟨a - b, by omega⟩
  rw [← nI_add, Int32.add_sub_cancel, Nat.add_sub_cancel]
theorem pk_m1 (n : Nat) : nI (n + 1) + (-1) = nI n := by
  rw [← nI_1, Int32.add_assoc, show (1 : Int32) + (-1) = 0 from rfl, Int32.add_zero]
theorem pk_mul (a b : Nat) : nI a * nI b = nI (a * b) := (Int32.ofNat_mul a b).symm
theorem pk_div {a d : Nat} (ha : a < 2 ^ 31) (h0 : 0 < d) (hd : d < 2 ^ 31) : nI a / nI d = nI (a / d) := by
  apply Int32.toInt_inj.mp
  rw [lg_idiv_nonneg (by rw [nI_toInt ha]; omega) (by rw [nI_toInt hd]; omega), nI_toInt ha, nI_toInt hd, nI_toInt (Nat.lt_of_le_of_lt (Nat.div_le_self a d) ha)]
  first | rfl | exact (Int.natCast_ediv _ _).symm
theorem pk_rem {a d : Nat} (ha : a < 2 ^ 31) (h0 : 0 < d) (hd : d < 2 ^ 31) : nI a - nI a / nI d * nI d = nI (a % d) := by
  rw [pk_div ha h0 hd, pk_mul, pk_sub (Nat.div_mul_le_self a d)]
  exact congrArg nI (by have := Nat.div_add_mod' a d; omega)

/-- worths that both sides keep: the empty coalition's is 0, all lie in -1000 to 1000 -/
def cv_Good (w : Nat → Int32) : Prop := w 0 = 0 ∧ ∀ j, -1000 ≤ (w j).toInt ∧ (w j).toInt ≤ 1000
/-- the same worths and amounts; the working rooms (bestTotals; moved, parts) are free -/
def i_Rel (_ : Nat) (u : SX) (v : SY) : Prop := ∃ w am bt mv pt, u = (w, am, bt) ∧ v = (w, mv, pt, am) ∧ cv_Good w
theorem cv_rel {k : Nat} {w am bt mv pt : Nat → Int32} (h : cv_Good w) : i_Rel k (w, am, bt) (w, mv, pt, am) := ⟨w, am, bt, mv, pt, rfl, rfl, h⟩
theorem i_up {k : Nat} {u : SX} {v : SY} (h : i_Rel k u v) : i_Rel (k + 3) u v := h
theorem cv_zr : -1000 ≤ (0 : Int32).toInt ∧ (0 : Int32).toInt ≤ 1000 := by decide
theorem cv_good0 : cv_Good (fun _ => 0) := ⟨rfl, fun _ => cv_zr⟩
theorem i_vc0 : wpX_init (fun u => wpY_init (fun v => i_Rel 0 u v)) := cv_rel (k := 0) cv_good0

/-! tables -/
theorem ct_has : ∀ c, c < 32 → ∀ p, p < 5 → ((nI c >>> (nI p &&& 31)) &&& 1) = (if c.testBit p = true then (1 : Int32) else 0) := by decide +kernel
theorem ct_bit : ∀ c, c < 32 → ∀ p, p < 5 → (nI c ||| ((1 : Int32) <<< (nI p &&& 31))) = nI (c ||| 2 ^ p) ∧ c ||| 2 ^ p < 32 := by decide +kernel
theorem ct_or : ∀ s, s < 32 → ∀ t, t < 32 → (nI s ||| nI t) = nI (s ||| t) ∧ s ||| t < 32 := by decide +kernel
theorem ct_and : ∀ s, s < 32 → ∀ t, t < 32 → (nI s &&& nI t) = nI (s &&& t) ∧ s &&& t < 32 := by decide +kernel
theorem ct_xor : ∀ s, s < 32 → ∀ t, t < 32 → (nI s ^^^ nI t) = nI (s ^^^ t) ∧ s ^^^ t < 32 := by decide +kernel
theorem ct_bitadd : ∀ p, p < 5 → ∀ c, c < 2 ^ p → c ||| 2 ^ p = c + 2 ^ p := by decide +kernel
theorem ct_lt32 {c : Nat} (h : c < 32) : c < 2 ^ 31 := by omega

/-! one bit, asked by X (has) and by Y -/
theorem cv_hasT {A B : Prop} {c p : Nat} (hc : c < 32) (hp : p < 5) (hb : c.testBit p = true) (b : B) : wpX_has (fun r => (r = 0 → A) ∧ (¬ r = 0 → B)) (nI c) (nI p) := by
  unfold wpX_has
  rw [ct_has c hc p hp, if_pos hb]
  exact br_t rfl (br_f (by decide) b)
theorem cv_hasF {A B : Prop} {c p : Nat} (hc : c < 32) (hp : p < 5) (hb : ¬ c.testBit p = true) (a : A) : wpX_has (fun r => (r = 0 → A) ∧ (¬ r = 0 → B)) (nI c) (nI p) := by
  unfold wpX_has
  rw [ct_has c hc p hp, if_neg hb]
  exact br_f (by decide) (br_t rfl a)
theorem cv_bT {A B : Prop} {c p : Nat} (hc : c < 32) (hp : p < 5) (hb : c.testBit p = true) (b : B) : (((nI c >>> (nI p &&& 31)) &&& 1) = 0 → A) ∧ (¬ ((nI c >>> (nI p &&& 31)) &&& 1) = 0 → B) := by
  rw [ct_has c hc p hp, if_pos hb]
  exact br_f (by decide) b
theorem cv_bF {A B : Prop} {c p : Nat} (hc : c < 32) (hp : p < 5) (hb : ¬ c.testBit p = true) (a : A) : (((nI c >>> (nI p &&& 31)) &&& 1) = 0 → A) ∧ (¬ ((nI c >>> (nI p &&& 31)) &&& 1) = 0 → B) := by
  rw [ct_has c hc p hp, if_neg hb]
  exact br_t rfl a

/-! a player, a coalition: refused or not -/
theorem cv_pl (x : Int32) : ((∀ P : Int32 → Prop, P 0 → wpX_isPlayer P x) ∧ (∀ (P : Int32 → Prop) (v : SY), P 0 → wpY_isPlayer P v x)) ∨ (∃ j : Nat, j < 5 ∧ x = nI j ∧ (∀ P : Int32 → Prop, P 1 → wpX_isPlayer P x) ∧ (∀ (P : Int32 → Prop) (v : SY), P 1 → wpY_isPlayer P v x)) := by
  by_cases hn : x < 0
  · exact Or.inl ⟨fun P h => br_t hn h, fun P v h => br_t hn h⟩
  · by_cases h5 : (5 : Int32) ≤ x
    · exact Or.inl ⟨fun P h => br_f hn (br_t h5 h), fun P v h => br_f hn (br_t h5 h)⟩
    · obtain ⟨j, hj, rfl⟩ := nI_of hn
      have h5' : ¬ nI 5 ≤ nI j := h5
      rw [nI_leI (by omega) hj] at h5'
      exact Or.inr ⟨j, by omega, rfl, fun P h => br_f hn (br_f h5 h), fun P v h => br_f hn (br_f h5 h)⟩
theorem cv_co (x : Int32) : ((∀ P : Int32 → Prop, P 0 → wpX_isNonEmptyCoalition P x) ∧ (∀ A B : Prop, B → ((x < 1 → B) ∧ (¬ x < 1 → ((x ≤ 31 → A) ∧ (¬ x ≤ 31 → B)))))) ∨ (∃ j : Nat, 1 ≤ j ∧ j < 32 ∧ x = nI j ∧ (∀ P : Int32 → Prop, P 1 → wpX_isNonEmptyCoalition P x) ∧ (∀ A B C : Prop, A → ((x < 1 → B) ∧ (¬ x < 1 → ((x ≤ 31 → A) ∧ (¬ x ≤ 31 → C)))))) := by
  by_cases hn : x < 1
  · exact Or.inl ⟨fun P h => br_t hn h, fun A B h => br_t hn h⟩
  · have h0 : ¬ x < 0 := fun h => hn (Int32.lt_of_lt_of_le h (by decide))
    obtain ⟨j, hj, rfl⟩ := nI_of h0
    have h1 : ¬ nI j < nI 1 := hn
    rw [nI_ltI hj (by omega)] at h1
    by_cases h5 : (32 : Int32) ≤ nI j
    · have h6 : nI 32 ≤ nI j := h5
      rw [nI_leI (by omega) hj] at h6
      have h7 : ¬ nI j ≤ (31 : Int32) := nI_ge (a := 31) (by omega) hj
      exact Or.inl ⟨fun P h => br_f hn (br_t h5 h), fun A B h => br_f hn (br_f h7 h)⟩
    · have h6 : ¬ nI 32 ≤ nI j := h5
      rw [nI_leI (by omega) hj] at h6
      have h7 : nI j ≤ (31 : Int32) := nI_le (b := 31) (by omega) (by omega)
      exact Or.inr ⟨j, by omega, by omega, rfl, fun P h => br_f hn (br_f h5 h), fun A B C h => br_f hn (br_t h7 h)⟩

/-! sums of ints -/
def cv_sum (f : Nat → Int32) : Nat → Int32
  | 0 => 0
  | n + 1 => cv_sum f n + f n
theorem cv_sum_congr {f g : Nat → Int32} {n : Nat} (h : ∀ i, i < n → f i = g i) : cv_sum f n = cv_sum g n := by
  induction n with
  | zero => rfl
  | succ n ih =>
    show cv_sum f n + f n = cv_sum g n + g n
    rw [ih (fun i hi => h i (by omega)), h n (by omega)]
theorem cv_sum_zero {f : Nat → Int32} {n : Nat} (h : ∀ i, i < n → f i = 0) : cv_sum f n = 0 := by
  induction n with
  | zero => rfl
  | succ n ih =>
    show cv_sum f n + f n = 0
    rw [ih (fun i hi => h i (by omega)), h n (by omega), Int32.add_zero]
theorem cv_sum_add (f g : Nat → Int32) (n : Nat) : cv_sum (fun i => f i + g i) n = cv_sum f n + cv_sum g n := by
  induction n with
  | zero => rfl
  | succ n ih =>
    show cv_sum (fun i => f i + g i) n + (f n + g n) = (cv_sum f n + f n) + (cv_sum g n + g n)
    rw [ih]
    grind
theorem cv_sum_mul (c : Int32) (f : Nat → Int32) (n : Nat) : cv_sum (fun i => f i * c) n = cv_sum f n * c := by
  induction n with
  | zero => show (0 : Int32) = 0 * c; rw [Int32.zero_mul]
  | succ n ih =>
    show cv_sum (fun i => f i * c) n + f n * c = (cv_sum f n + f n) * c
    rw [ih]
    grind
theorem cv_sum_swap (F : Nat → Nat → Int32) (n m : Nat) : cv_sum (fun i => cv_sum (fun j => F i j) m) n = cv_sum (fun j => cv_sum (fun i => F i j) n) m := by
  induction n with
  | zero => exact (cv_sum_zero (fun i _ => rfl)).symm
  | succ n ih =>
    show cv_sum (fun i => cv_sum (fun j => F i j) m) n + cv_sum (fun j => F n j) m = cv_sum (fun j => cv_sum (fun i => F i j) n + F n j) m
    rw [ih, cv_sum_add]
theorem cv_sum_single {f : Nat → Int32} {a n : Nat} (ha : a < n) (h : ∀ i, i < n → i ≠ a → f i = 0) : cv_sum f n = f a := by
  induction n with
  | zero => omega
  | succ n ih =>
    show cv_sum f n + f n = f a
    by_cases e : a = n
    · subst e
      rw [cv_sum_zero (fun i hi => h i (by omega) (by omega)), Int32.zero_add]
    · rw [ih (by omega) (fun i hi hia => h i (by omega) hia), h n (by omega) (fun z => e z.symm), Int32.add_zero]
end
section
/-! ===== 02: worth, pay, weigh ===== -/
theorem cv_goodU {w : Nat → Int32} {j : Nat} {x : Int32} (h : cv_Good w) (hj : j ≠ 0) (h1 : -1000 ≤ x.toInt) (h2 : x.toInt ≤ 1000) : cv_Good (upd w j x) := by
  refine ⟨?_, fun i => ?_⟩
  · rw [pk_un (fun z => hj z.symm)]
    exact h.1
  · by_cases e : i = j
    · subst e
      rw [pk_us]
      exact ⟨h1, h2⟩
    · rw [pk_un e]
      exact h.2 i
theorem i_vc_worth {k : Nat} {u : SX} {v : SY} (I : i_Rel k u v) (hk : k + 3 ≤ 1536) (v1 : Int32) (v2 : Int32) : wpX_worth (fun r u' => wpY_worth (fun r' v' => r' = r ∧ i_Rel (k + 3) u' v') v v1 v2) u v1 v2 := by
  obtain ⟨w, am, bt, mv, pt, rfl, rfl, hg⟩ := I
  unfold wpX_worth wpY_worth
  dsimp only
  rcases cv_co v1 with ⟨hX, hY⟩ | ⟨j, h1, hj, rfl, hX, hY⟩
  · refine hX _ (br_t rfl ?_)
    exact hY _ _ ⟨rfl, cv_rel hg⟩
  · refine hX _ (br_f (by decide) ?_)
    by_cases ha : v2 < (-1000)
    · exact br_t ha (hY _ _ _ (br_t ha ⟨rfl, cv_rel hg⟩))
    · refine br_f ha ?_
      by_cases hb : v2 ≤ 1000
      · refine br_t hb ⟨vp_in_nI hj (by omega), fun x ex => ⟨vp_in_nI hj (by omega), fun a ea => ?_⟩⟩
        refine hY _ _ _ (br_f ha (br_t hb ⟨vp_in_nI hj (by omega), fun y ey => ⟨vp_in_nI hj (by omega), fun b eb => ?_⟩⟩))
        rw [nI_clamp (by omega)] at ea eb
        subst ea eb
        have l1 : (-1000 : Int32).toInt ≤ v2.toInt := Int32.le_iff_toInt_le.mp (Int32.not_lt.mp ha)
        have l2 : v2.toInt ≤ (1000 : Int32).toInt := Int32.le_iff_toInt_le.mp hb
        rw [show (-1000 : Int32).toInt = -1000 from by decide] at l1
        rw [show (1000 : Int32).toInt = 1000 from by decide] at l2
        exact ⟨ey.trans ex.symm, cv_rel (cv_goodU hg (by omega) l1 l2)⟩
      · exact br_f hb (hY _ _ _ (br_f ha (br_f hb ⟨rfl, cv_rel hg⟩)))
theorem i_vc_pay {k : Nat} {u : SX} {v : SY} (I : i_Rel k u v) (hk : k + 3 ≤ 1536) (v1 : Int32) (v2 : Int32) : wpX_pay (fun r u' => wpY_pay (fun r' v' => r' = r ∧ i_Rel (k + 3) u' v') v v1 v2) u v1 v2 := by
  obtain ⟨w, am, bt, mv, pt, rfl, rfl, hg⟩ := I
  unfold wpX_pay wpY_pay
  dsimp only
  rcases cv_pl v1 with ⟨hX, hY⟩ | ⟨j, hj, rfl, hX, hY⟩
  · refine hX _ (br_t rfl ?_)
    exact hY _ _ (br_t rfl ⟨rfl, cv_rel hg⟩)
  · refine hX _ (br_f (by decide) ?_)
    by_cases ha : v2 < (-10000)
    · exact br_t ha (hY _ _ (br_f (by decide) (br_t ha ⟨rfl, cv_rel hg⟩)))
    · refine br_f ha ?_
      by_cases hb : v2 ≤ 10000
      · refine br_t hb ⟨vp_in_nI hj (by omega), fun a ea => ?_⟩
        refine hY _ _ (br_f (by decide) (br_f ha (br_t hb ⟨vp_in_nI hj (by omega), fun b eb => ?_⟩)))
        subst ea eb
        exact ⟨rfl, cv_rel hg⟩
      · exact br_f hb (hY _ _ (br_f (by decide) (br_f ha (br_f hb ⟨rfl, cv_rel hg⟩))))

/-! weigh: the weight of a coalition, a summand a player -/
def cv_wt (x : Int32) (c : Nat) : Nat → Int32
  | 0 => 0
  | n + 1 => if c.testBit n = true then cv_wt x c n + ((x >>> ((4 * nI n) &&& 31)) &&& 15) else cv_wt x c n
theorem cv_wtT {x : Int32} {c n : Nat} (h : c.testBit n = true) : cv_wt x c (n + 1) = cv_wt x c n + ((x >>> ((4 * nI n) &&& 31)) &&& 15) := if_pos h
theorem cv_wtF {x : Int32} {c n : Nat} (h : ¬ c.testBit n = true) : cv_wt x c (n + 1) = cv_wt x c n := if_neg h
theorem cv_wt0 (x : Int32) : ∀ n, cv_wt x 0 n = 0 := by
  intro n
  induction n with
  | zero => rfl
  | succ n ih => rw [cv_wtF (by rw [Nat.zero_testBit]; decide), ih]
theorem cv_wtX {post : Int32 → Prop} {x : Int32} {c : Nat} (hc : c < 32) (H : post (cv_wt x c 5)) : ∀ d j, j + d = 5 → wX_weightOf_4 post (nI c) x (d + 1) (cv_wt x c j) (nI j) := by
  intro d
  induction d with
  | zero =>
    intro j hj
    obtain rfl : j = 5 := by omega
    exact br_t (nI_le (a := 5) (by omega) (by omega)) H
  | succ d ih =>
    intro j hj
    have h : ¬ (5 : Int32) ≤ nI j := nI_ge (b := 5) (by omega) (by omega)
    by_cases hb : c.testBit j = true
    · refine br_f h (cv_hasT hc (by omega) hb (fun a ea b eb => ?_))
      rw [ea, eb, nI_1, ← cv_wtT hb]
      exact ih (j + 1) (by omega)
    · refine br_f h (cv_hasF hc (by omega) hb (fun b eb => ?_))
      rw [eb, nI_1, ← cv_wtF hb]
      exact ih (j + 1) (by omega)
theorem cv_wtX0 {post : Int32 → Prop} {x : Int32} {c : Nat} (hc : c < 32) (H : post (cv_wt x c 5)) : wpX_weightOf post (nI c) x := ⟨6, cv_wtX hc H 5 0 rfl⟩
theorem cv_wtY {post : Int32 → SY → Prop} {J : Int32 → Int32 → (Nat → Int32) → (Nat → Int32) → (Nat → Int32) → (Nat → Int32) → Prop} {x q acc : Int32} {c : Nat} {w mv pt am : Nat → Int32} (hc : c < 32) (H : (cv_wt x c 5 < q → wY_weigh_85 post J x q acc (nI c) 0 (nI c) w mv pt am) ∧ (¬ cv_wt x c 5 < q → wY_weigh_85 post J x q acc (nI c) 1 (nI c) w mv pt am)) : ∀ d j, j + d = 5 → wY_weigh_32 post J x q acc (nI c) w mv pt am (d + 1) (cv_wt x c j) (nI j) := by
  intro d
  induction d with
  | zero =>
    intro j hj
    obtain rfl : j = 5 := by omega
    exact br_t (nI_le (a := 5) (by omega) (by omega)) H
  | succ d ih =>
    intro j hj
    have h : ¬ (5 : Int32) ≤ nI j := nI_ge (b := 5) (by omega) (by omega)
    by_cases hb : c.testBit j = true
    · refine br_f h (cv_bT hc (by omega) hb (fun a ea b eb => ?_))
      rw [ea, eb, nI_1, ← cv_wtT hb]
      exact ih (j + 1) (by omega)
    · refine br_f h (cv_bF hc (by omega) hb (fun b eb => ?_))
      rw [eb, nI_1, ← cv_wtF hb]
      exact ih (j + 1) (by omega)
theorem cv_w41 {post : Int32 → SX → Prop} {J : Int32 → Int32 → (Nat → Int32) → (Nat → Int32) → (Nat → Int32) → Prop} {x q acc z : Int32} {c : Nat} {w am bt : Nat → Int32} (hc : c < 32) (H : J (acc + z) (nI (c + 1)) (upd w c z) am bt) : wX_weigh_41 post J x q acc (nI c) z w am bt := by
  unfold wX_weigh_41
  refine ⟨vp_in_nI hc (by omega), fun a ea b eb e ee => ?_⟩
  rw [nI_clamp (by omega)] at ea
  rw [ea, eb, ee, nI_1]
  exact H
theorem cv_y85 {post : Int32 → SY → Prop} {J : Int32 → Int32 → (Nat → Int32) → (Nat → Int32) → (Nat → Int32) → (Nat → Int32) → Prop} {x q acc z : Int32} {c : Nat} {w mv pt am : Nat → Int32} (hc : c < 32) (H : J (acc + z) (nI (c + 1)) (upd w c z) mv pt am) : wY_weigh_85 post J x q acc (nI c) z (nI c) w mv pt am := by
  unfold wY_weigh_85
  refine ⟨vp_in_nI hc (by omega), fun a ea => ⟨vp_in_nI hc (by omega), fun b eb e ee => ?_⟩⟩
  rw [nI_clamp (by omega)] at ea eb
  subst ea
  rw [pk_us] at eb
  rw [eb, ee, nI_1]
  exact H
theorem cv_weigh {x q : Int32} {am bt mv pt : Nat → Int32} : ∀ d c acc w, c + d = 32 → 1 ≤ c → cv_Good w → ∃ r w', cv_Good w' ∧ (∀ post : Int32 → SX → Prop, post r (w', am, bt) → wX_weigh_19 post x q (d + 1) acc (nI c) w am bt) ∧ (∀ post : Int32 → SY → Prop, post r (w', mv, pt, am) → wY_weigh_19 post x q (d + 1) acc (nI c) w mv pt am) := by
  intro d
  induction d with
  | zero =>
    intro c acc w hc h1 hg
    have h : (32 : Int32) ≤ nI c := nI_le (a := 32) (by omega) (by omega)
    exact ⟨acc, w, hg, fun _ hp => br_t h hp, fun _ hp => br_t h hp⟩
  | succ d ih =>
    intro c acc w hc h1 hg
    have h : ¬ (32 : Int32) ≤ nI c := nI_ge (b := 32) (by omega) (by omega)
    have hc' : c < 32 := by omega
    by_cases hz : cv_wt x c 5 < q
    · obtain ⟨r, w', hg', hX, hY⟩ := ih (c + 1) (acc + 0) (upd w c 0) (by omega) (by omega) (cv_goodU hg (by omega) (by decide) (by decide))
      exact ⟨r, w', hg', fun post hp => br_f h (cv_wtX0 hc' (br_t hz (cv_w41 hc' (hX post hp)))), fun post hp => br_f h ⟨6, cv_wtY hc' (br_t hz (cv_y85 hc' (hY post hp))) 5 0 rfl⟩⟩
    · obtain ⟨r, w', hg', hX, hY⟩ := ih (c + 1) (acc + 1) (upd w c 1) (by omega) (by omega) (cv_goodU hg (by omega) (by decide) (by decide))
      exact ⟨r, w', hg', fun post hp => br_f h (cv_wtX0 hc' (br_f hz (cv_w41 hc' (hX post hp)))), fun post hp => br_f h ⟨6, cv_wtY hc' (br_f hz (cv_y85 hc' (hY post hp))) 5 0 rfl⟩⟩
theorem cv_upd0 {w : Nat → Int32} (h : w 0 = 0) : upd w 0 0 = w := by
  funext j
  by_cases e : j = 0
  · subst e
    rw [pk_us, h]
  · rw [pk_un e]
theorem i_vc_weigh {k : Nat} {u : SX} {v : SY} (I : i_Rel k u v) (hk : k + 3 ≤ 1536) (v1 : Int32) (v2 : Int32) : wpX_weigh (fun r u' => wpY_weigh (fun r' v' => r' = r ∧ i_Rel (k + 3) u' v') v v1 v2) u v1 v2 := by
  obtain ⟨w, am, bt, mv, pt, rfl, rfl, hg⟩ := I
  unfold wpX_weigh wpY_weigh
  dsimp only
  by_cases ha : v2 < 1
  · exact br_t ha (br_t ha ⟨rfl, cv_rel hg⟩)
  · refine br_f ha ?_
    by_cases hb : v2 ≤ 75
    · obtain ⟨r, w', hg', hX, hY⟩ := cv_weigh (x := v1) (q := v2) (am := am) (bt := bt) (mv := mv) (pt := pt) 31 1 0 w rfl (by omega) hg
      refine br_t hb ⟨32, hX _ (br_f ha (br_t hb ⟨33, ?_⟩))⟩
      have h : ¬ (32 : Int32) ≤ nI 0 := by decide
      have hq : cv_wt v1 0 5 < v2 := by
        rw [cv_wt0]
        exact Int32.lt_of_lt_of_le (by decide) (Int32.not_lt.mp ha)
      refine br_f h ⟨6, cv_wtY (c := 0) (by omega) (br_t hq (cv_y85 (c := 0) (by omega) ?_)) 5 0 rfl⟩
      rw [cv_upd0 hg.1]
      exact hY _ ⟨rfl, cv_rel hg'⟩
    · exact br_f hb (br_f ha (br_f hb ⟨rfl, cv_rel hg⟩))
end
section
/-! ===== 03: exchange: both sides against w after the exchange of bits a and b ===== -/
def cv_sg (a b j : Nat) : Nat := if j.testBit a = j.testBit b then j else j ^^^ 2 ^ a ^^^ 2 ^ b
theorem ct_sg : ∀ a, a < 5 → ∀ b, b < 5 → ∀ j, j < 32 → cv_sg a b j < 32 ∧ cv_sg a b (cv_sg a b j) = j ∧ (cv_sg a b j).testBit a = j.testBit b ∧ (cv_sg a b j).testBit b = j.testBit a := by decide +kernel
theorem ct_sgX0 : ∀ a, a < 5 → ∀ b, b < 5 → ∀ j, j < 32 → (j.testBit a && !j.testBit b) = true → ((nI j ^^^ ((1 : Int32) <<< (nI a &&& 31))) ^^^ ((1 : Int32) <<< (nI b &&& 31))) = nI (cv_sg a b j) := by decide +kernel
theorem ct_sgX (a : Nat) (ha : a < 5) (b : Nat) (hb : b < 5) (j : Nat) (hj : j < 32) (h1 : j.testBit a = true) (h2 : ¬ j.testBit b = true) : ((nI j ^^^ ((1 : Int32) <<< (nI a &&& 31))) ^^^ ((1 : Int32) <<< (nI b &&& 31))) = nI (cv_sg a b j) := ct_sgX0 a ha b hb j hj (by rw [h1, Bool.eq_false_iff.mpr h2]; rfl)
def cv_t0 (a b c : Int32) : Int32 := (c &&& (((1 : Int32) <<< (a &&& 31)) ^^^ (-1))) &&& (((1 : Int32) <<< (b &&& 31)) ^^^ (-1))
theorem ct_tFF : ∀ a, a < 5 → ∀ b, b < 5 → ∀ j, j < 32 → ¬ j.testBit a = true → ¬ j.testBit b = true → cv_t0 (nI a) (nI b) (nI j) = nI (cv_sg a b j) := by decide +kernel
theorem ct_tFT : ∀ a, a < 5 → ∀ b, b < 5 → ∀ j, j < 32 → ¬ j.testBit a = true → j.testBit b = true → (cv_t0 (nI a) (nI b) (nI j) ||| ((1 : Int32) <<< (nI a &&& 31))) = nI (cv_sg a b j) := by decide +kernel
theorem ct_tTF0 : ∀ a, a < 5 → ∀ b, b < 5 → ∀ j, j < 32 → (j.testBit a && !j.testBit b) = true → (cv_t0 (nI a) (nI b) (nI j) ||| ((1 : Int32) <<< (nI b &&& 31))) = nI (cv_sg a b j) := by decide +kernel
theorem ct_tTF (a : Nat) (ha : a < 5) (b : Nat) (hb : b < 5) (j : Nat) (hj : j < 32) (h1 : j.testBit a = true) (h2 : ¬ j.testBit b = true) : (cv_t0 (nI a) (nI b) (nI j) ||| ((1 : Int32) <<< (nI b &&& 31))) = nI (cv_sg a b j) := ct_tTF0 a ha b hb j hj (by rw [h1, Bool.eq_false_iff.mpr h2]; rfl)
theorem ct_tTT : ∀ a, a < 5 → ∀ b, b < 5 → ∀ j, j < 32 → j.testBit a = true → j.testBit b = true → ((cv_t0 (nI a) (nI b) (nI j) ||| ((1 : Int32) <<< (nI b &&& 31))) ||| ((1 : Int32) <<< (nI a &&& 31))) = nI (cv_sg a b j) := by decide +kernel
/-- the worths after the exchange -/
def cv_ew (w : Nat → Int32) (a b : Nat) : Nat → Int32 := fun j => if j < 32 then w (cv_sg a b j) else w j
theorem cv_ewGood {w : Nat → Int32} {a b : Nat} (h : cv_Good w) : cv_Good (cv_ew w a b) := by
  refine ⟨?_, fun j => ?_⟩
  · show (if 0 < 32 then w (cv_sg a b 0) else w 0) = 0
    have e : cv_sg a b 0 = 0 := by
      unfold cv_sg
      rw [Nat.zero_testBit, Nat.zero_testBit]
      exact if_pos rfl
    rw [if_pos (by omega), e]
    exact h.1
  · unfold cv_ew
    by_cases e : j < 32
    · rw [if_pos e]
      exact h.2 _
    · rw [if_neg e]
      exact h.2 _
/-! X: swaps done below c -/
def cv_xd (a b c j : Nat) : Prop := j < 32 ∧ ((j.testBit a = true ∧ ¬ j.testBit b = true ∧ j < c) ∨ (j.testBit b = true ∧ ¬ j.testBit a = true ∧ cv_sg a b j < c))
noncomputable def cv_xw (w : Nat → Int32) (a b c : Nat) : Nat → Int32 := fun j => @ite _ (cv_xd a b c j) (Classical.propDecidable _) (w (cv_sg a b j)) (w j)
theorem cv_xwT {w : Nat → Int32} {a b c j : Nat} (h : cv_xd a b c j) : cv_xw w a b c j = w (cv_sg a b j) := if_pos h
theorem cv_xwF {w : Nat → Int32} {a b c j : Nat} (h : ¬ cv_xd a b c j) : cv_xw w a b c j = w j := if_neg h
theorem cv_xwE {w : Nat → Int32} {a b c c' j : Nat} (h : cv_xd a b c j ↔ cv_xd a b c' j) : cv_xw w a b c j = cv_xw w a b c' j := by
  by_cases e : cv_xd a b c j
  · rw [cv_xwT e, cv_xwT (h.mp e)]
  · rw [cv_xwF e, cv_xwF (fun z => e (h.mpr z))]
theorem cv_xw1 {w : Nat → Int32} {a b : Nat} (ha : a < 5) (hb : b < 5) : cv_xw w a b 1 = w := by
  funext j
  refine cv_xwF ?_
  rintro ⟨hj, h⟩
  rcases h with ⟨h1, h2, h3⟩ | ⟨h1, h2, h3⟩
  · obtain rfl : j = 0 := by omega
    rw [Nat.zero_testBit] at h1
    exact absurd h1 (by decide)
  · have e0 : cv_sg a b j = 0 := by omega
    have e1 := (ct_sg a ha b hb j hj).2.2.1
    rw [e0, Nat.zero_testBit, h1] at e1
    exact absurd e1 (by decide)
/-- c is no coalition with a alone: nothing is done -/
theorem cv_xwS {w : Nat → Int32} {a b c : Nat} (ha : a < 5) (hb : b < 5) (h : ¬ (c.testBit a = true ∧ ¬ c.testBit b = true)) : cv_xw w a b (c + 1) = cv_xw w a b c := by
  funext j
  refine cv_xwE ⟨fun ⟨hj, H⟩ => ⟨hj, ?_⟩, fun ⟨hj, H⟩ => ⟨hj, ?_⟩⟩
  · rcases H with ⟨h1, h2, h3⟩ | ⟨h1, h2, h3⟩
    · have : j ≠ c := fun e => h (e ▸ ⟨h1, h2⟩)
      exact Or.inl ⟨h1, h2, by omega⟩
    · have t := ct_sg a ha b hb j hj
      have : cv_sg a b j ≠ c := fun e => h (by rw [← e, t.2.2.1, t.2.2.2]; exact ⟨h1, h2⟩)
      exact Or.inr ⟨h1, h2, by omega⟩
  · rcases H with ⟨h1, h2, h3⟩ | ⟨h1, h2, h3⟩
    · exact Or.inl ⟨h1, h2, by omega⟩
    · exact Or.inr ⟨h1, h2, by omega⟩
/-- c has a alone: it changes places with its image -/
theorem cv_xwU {w : Nat → Int32} {a b c : Nat} (ha : a < 5) (hb : b < 5) (hc : c < 32) (h1 : c.testBit a = true) (h2 : ¬ c.testBit b = true) : upd (upd (cv_xw w a b c) c (cv_xw w a b c (cv_sg a b c))) (cv_sg a b c) (cv_xw w a b c c) = cv_xw w a b (c + 1) := by
  have t := ct_sg a ha b hb c hc
  have g1 : (cv_sg a b c).testBit b = true := by rw [t.2.2.2]; exact h1
  have g2 : ¬ (cv_sg a b c).testBit a = true := by rw [t.2.2.1]; exact h2
  have ne : c ≠ cv_sg a b c := fun e => h2 (e ▸ g1)
  have k1 : cv_xw w a b c c = w c := cv_xwF (by
    rintro ⟨_, H⟩
    rcases H with ⟨_, _, z⟩ | ⟨z, _, _⟩
    · omega
    · exact h2 z)
  have k2 : cv_xw w a b c (cv_sg a b c) = w (cv_sg a b c) := cv_xwF (by
    rintro ⟨_, H⟩
    rcases H with ⟨z, _, _⟩ | ⟨_, _, z⟩
    · exact g2 z
    · rw [t.2.1] at z; omega)
  funext j
  by_cases e1 : j = cv_sg a b c
  · subst e1
    rw [pk_us, k1, cv_xwT ⟨t.1, Or.inr ⟨g1, g2, by rw [t.2.1]; omega⟩⟩, t.2.1]
  · rw [pk_un e1]
    by_cases e2 : j = c
    · subst e2
      rw [pk_us, k2, cv_xwT ⟨hc, Or.inl ⟨h1, h2, by omega⟩⟩]
    · rw [pk_un e2]
      refine cv_xwE ⟨fun ⟨hj, H⟩ => ⟨hj, ?_⟩, fun ⟨hj, H⟩ => ⟨hj, ?_⟩⟩
      · rcases H with ⟨z1, z2, z3⟩ | ⟨z1, z2, z3⟩
        · exact Or.inl ⟨z1, z2, by omega⟩
        · exact Or.inr ⟨z1, z2, by omega⟩
      · rcases H with ⟨z1, z2, z3⟩ | ⟨z1, z2, z3⟩
        · exact Or.inl ⟨z1, z2, by omega⟩
        · have : cv_sg a b j ≠ c := fun e => e1 (by rw [← e, (ct_sg a ha b hb j hj).2.1])
          exact Or.inr ⟨z1, z2, by omega⟩
theorem cv_xwEnd {w : Nat → Int32} {a b : Nat} (ha : a < 5) (hb : b < 5) : cv_xw w a b 32 = cv_ew w a b := by
  funext j
  unfold cv_ew
  by_cases hj : j < 32
  · rw [if_pos hj]
    have t := ct_sg a ha b hb j hj
    by_cases e : cv_xd a b 32 j
    · exact cv_xwT e
    · rw [cv_xwF e]
      have q : j.testBit a = j.testBit b := by
        by_cases h1 : j.testBit a = true
        · by_cases h2 : j.testBit b = true
          · rw [h1, h2]
          · exact absurd ⟨hj, Or.inl ⟨h1, h2, hj⟩⟩ e
        · by_cases h2 : j.testBit b = true
          · exact absurd ⟨hj, Or.inr ⟨h2, h1, t.1⟩⟩ e
          · rw [Bool.eq_false_iff.mpr h1, Bool.eq_false_iff.mpr h2]
      have : cv_sg a b j = j := if_pos q
      rw [this]
  · rw [if_neg hj]
    exact cv_xwF (fun z => hj z.1)
theorem cv_exX {post : Int32 → SX → Prop} {w am bt : Nat → Int32} {a b : Nat} (ha : a < 5) (hb : b < 5) (H : post 0 (cv_ew w a b, am, bt)) : ∀ d c, c + d = 32 → wX_exchange_19 post (nI a) (nI b) (d + 1) (nI c) (cv_xw w a b c) am bt := by
  intro d
  induction d with
  | zero =>
    intro c hc
    obtain rfl : c = 32 := by omega
    refine br_t (nI_le (a := 32) (by omega) (by omega)) ?_
    rw [cv_xwEnd ha hb]
    exact H
  | succ d ih =>
    intro c hc
    have h : ¬ (32 : Int32) ≤ nI c := nI_ge (b := 32) (by omega) (by omega)
    have hc' : c < 32 := by omega
    have hi : vp_in (nI c) 32 := vp_in_nI hc' (by omega)
    by_cases h1 : c.testBit a = true
    · refine br_f h (cv_hasT hc' ha h1 ?_)
      by_cases h2 : c.testBit b = true
      · refine cv_hasT hc' hb h2 (fun y ey => ?_)
        rw [ey, nI_1, ← cv_xwS ha hb (fun z => z.2 h2)]
        exact ih (c + 1) (by omega)
      · have t := ct_sg a ha b hb c hc'
        have hs : vp_in (nI (cv_sg a b c)) 32 := vp_in_nI t.1 (by omega)
        refine cv_hasF hc' hb h2 (nm_r (ct_sgX a ha b hb c hc' h1 h2) ⟨hi, fun x ex => ⟨hs, hi, fun f ef => ⟨hs, fun g eg y ey => ?_⟩⟩⟩)
        rw [nI_clamp (by omega)] at ex ef
        rw [nI_clamp (by omega)] at ef eg
        rw [ey, nI_1, eg, ef, ex, cv_xwU ha hb hc' h1 h2]
        exact ih (c + 1) (by omega)
    · refine br_f h (cv_hasF hc' ha h1 (fun y ey => ?_))
      rw [ey, nI_1, ← cv_xwS ha hb (fun z => h1 z.1)]
      exact ih (c + 1) (by omega)
/-! Y: written below c -/
def cv_yw (w : Nat → Int32) (a b c : Nat) : Nat → Int32 := fun j => if j < 32 ∧ cv_sg a b j < c then w (cv_sg a b j) else w j
theorem cv_yw0 (w : Nat → Int32) (a b : Nat) : cv_yw w a b 0 = w := by
  funext j
  exact if_neg (by omega)
theorem cv_ywU {w : Nat → Int32} {a b c : Nat} (ha : a < 5) (hb : b < 5) (hc : c < 32) : upd (cv_yw w a b c) (cv_sg a b c) (w c) = cv_yw w a b (c + 1) := by
  have t := ct_sg a ha b hb c hc
  funext j
  by_cases e : j = cv_sg a b c
  · subst e
    rw [pk_us]
    unfold cv_yw
    rw [t.2.1, if_pos ⟨t.1, by omega⟩]
  · rw [pk_un e]
    unfold cv_yw
    by_cases hj : j < 32
    · have ne : cv_sg a b j ≠ c := fun z => e (by rw [← z, (ct_sg a ha b hb j hj).2.1])
      by_cases q : cv_sg a b j < c
      · rw [if_pos ⟨hj, q⟩, if_pos ⟨hj, by omega⟩]
      · rw [if_neg (fun z => q z.2), if_neg (fun z => q (by have := z.2; omega))]
    · rw [if_neg (fun z => hj z.1), if_neg (fun z => hj z.1)]
theorem cv_ywEnd {w : Nat → Int32} {a b : Nat} (ha : a < 5) (hb : b < 5) : cv_yw w a b 32 = cv_ew w a b := by
  funext j
  unfold cv_yw cv_ew
  by_cases hj : j < 32
  · rw [if_pos hj, if_pos ⟨hj, (ct_sg a ha b hb j hj).1⟩]
  · rw [if_neg hj, if_neg (fun z => hj z.1)]
theorem cv_y100 {post : Int32 → SY → Prop} {J : Int32 → (Nat → Int32) → (Nat → Int32) → (Nat → Int32) → (Nat → Int32) → Prop} {x1 x2 : Int32} {a b c : Nat} {w mv pt am : Nat → Int32} (ha : a < 5) (hb : b < 5) (hc : c < 32) (hm : mv c = w c) (H : J (nI (c + 1)) (cv_yw w a b (c + 1)) mv pt am) : wY_exchange_100 post J x1 x2 (nI c) (nI (cv_sg a b c)) (cv_yw w a b c) mv pt am := by
  have t := ct_sg a ha b hb c hc
  unfold wY_exchange_100
  refine ⟨vp_in_nI hc (by omega), vp_in_nI t.1 (by omega), fun f ef y ey => ?_⟩
  rw [nI_clamp (by omega)] at ef
  rw [nI_clamp (by omega)] at ef
  rw [ef, ey, nI_1, hm, cv_ywU ha hb hc]
  exact H
theorem cv_exY {post : Int32 → SY → Prop} {w mv pt am : Nat → Int32} {a b : Nat} (ha : a < 5) (hb : b < 5) (hm : ∀ j, j < 32 → mv j = w j) (H : post 0 (cv_ew w a b, mv, pt, am)) : ∀ d c, c + d = 32 → wY_exchange_47 post (nI a) (nI b) (d + 1) (nI c) (cv_yw w a b c) mv pt am := by
  intro d
  induction d with
  | zero =>
    intro c hc
    obtain rfl : c = 32 := by omega
    refine br_t (nI_le (a := 32) (by omega) (by omega)) ?_
    rw [cv_ywEnd ha hb]
    exact H
  | succ d ih =>
    intro c hc
    have h : ¬ (32 : Int32) ≤ nI c := nI_ge (b := 32) (by omega) (by omega)
    have hc' : c < 32 := by omega
    have K := ih (c + 1) (by omega)
    refine br_f h (fun t et => ?_)
    have et' : t = cv_t0 (nI a) (nI b) (nI c) := et
    by_cases h1 : c.testBit a = true
    · refine cv_bT hc' ha h1 (fun t1 e1 => ?_)
      unfold wY_exchange_84
      by_cases h2 : c.testBit b = true
      · refine cv_bT hc' hb h2 (fun t2 e2 => ?_)
        rw [e2, e1, et', ct_tTT a ha b hb c hc' h1 h2]
        exact cv_y100 ha hb hc' (hm c hc') K
      · refine cv_bF hc' hb h2 ?_
        rw [e1, et', ct_tTF a ha b hb c hc' h1 h2]
        exact cv_y100 ha hb hc' (hm c hc') K
    · refine cv_bF hc' ha h1 ?_
      unfold wY_exchange_84
      by_cases h2 : c.testBit b = true
      · refine cv_bT hc' hb h2 (fun t2 e2 => ?_)
        rw [e2, et', ct_tFT a ha b hb c hc' h1 h2]
        exact cv_y100 ha hb hc' (hm c hc') K
      · refine cv_bF hc' hb h2 ?_
        rw [et', ct_tFF a ha b hb c hc' h1 h2]
        exact cv_y100 ha hb hc' (hm c hc') K
theorem cv_mvY {post : Int32 → SY → Prop} {x1 x2 : Int32} {w pt am : Nat → Int32} (H : ∀ mv : Nat → Int32, (∀ j, j < 32 → mv j = w j) → ∃ n, wY_exchange_47 post x1 x2 n 0 w mv pt am) : ∀ d c mv, c + d = 32 → (∀ j, j < c → mv j = w j) → wY_exchange_21 post x1 x2 (d + 1) (nI c) w mv pt am := by
  intro d
  induction d with
  | zero =>
    intro c mv hc hm
    obtain rfl : c = 32 := by omega
    exact br_t (nI_le (a := 32) (by omega) (by omega)) (H mv hm)
  | succ d ih =>
    intro c mv hc hm
    have h : ¬ (32 : Int32) ≤ nI c := nI_ge (b := 32) (by omega) (by omega)
    have hi : vp_in (nI c) 32 := vp_in_nI (by omega) (by omega)
    refine br_f h ⟨hi, hi, fun f ef y ey => ?_⟩
    rw [nI_clamp (by omega)] at ef
    rw [ef, ey, nI_1]
    refine ih (c + 1) _ (by omega) (fun j hj => ?_)
    by_cases e : j = c
    · subst e
      exact pk_us
    · rw [pk_un e]
      exact hm j (by omega)
theorem i_vc_exchange {k : Nat} {u : SX} {v : SY} (I : i_Rel k u v) (hk : k + 3 ≤ 1536) (v1 : Int32) (v2 : Int32) : wpX_exchange (fun r u' => wpY_exchange (fun r' v' => r' = r ∧ i_Rel (k + 3) u' v') v v1 v2) u v1 v2 := by
  obtain ⟨w, am, bt, mv, pt, rfl, rfl, hg⟩ := I
  unfold wpX_exchange wpY_exchange
  dsimp only
  rcases cv_pl v1 with ⟨hX, hY⟩ | ⟨a, ha, rfl, hX, hY⟩
  · exact hX _ (br_t rfl (hY _ _ (br_t rfl ⟨rfl, cv_rel hg⟩)))
  · refine hX _ (br_f (by decide) ?_)
    rcases cv_pl v2 with ⟨hX2, hY2⟩ | ⟨b, hb, rfl, hX2, hY2⟩
    · exact hX2 _ (br_t rfl (hY _ _ (br_f (by decide) (hY2 _ _ (br_t rfl ⟨rfl, cv_rel hg⟩)))))
    · refine hX2 _ (br_f (by decide) ⟨32, ?_⟩)
      have K : ∀ post : Int32 → SX → Prop, post 0 (cv_ew w a b, am, bt) → wX_exchange_19 post (nI a) (nI b) 32 1 w am bt := by
        intro post hp
        have := cv_exX (w := w) ha hb hp 31 1 rfl
        rw [cv_xw1 ha hb] at this
        exact this
      refine K _ ?_
      refine hY _ _ (br_f (by decide) (hY2 _ _ (br_f (by decide) ⟨33, ?_⟩)))
      refine cv_mvY (fun mv' hm => ⟨33, ?_⟩) 32 0 mv rfl (fun j hj => by omega)
      have := cv_exY (post := fun r' v' => r' = 0 ∧ i_Rel (k + 3) (cv_ew w a b, am, bt) v') (w := w) (mv := mv') (pt := pt) (am := am) ha hb hm ⟨rfl, cv_rel (cv_ewGood hg)⟩ 32 0 rfl
      rw [cv_yw0] at this
      exact this
end
section
/-! ===== 04: swingValue, orderValue ===== -/
theorem cv_mar {post : Int32 → Prop} {w am bt : Nat → Int32} {c p : Nat} (hc : c < 32) (hp : p < 5) (H : post (w (c ||| 2 ^ p) - w c)) : wpX_margin post (w, am, bt) (nI p) (nI c) := by
  have t := ct_bit c hc p hp
  unfold wpX_margin
  dsimp only
  rw [t.1]
  refine ⟨vp_in_nI t.2 (by omega), vp_in_nI hc (by omega), ?_⟩
  rw [nI_clamp (by omega), nI_clamp (by omega)]
  exact H
/-- a summand a coalition without p -/
def cv_sw (w : Nat → Int32) (p s : Nat) : Int32 := if s.testBit p = true then 0 else w (s ||| 2 ^ p) - w s
theorem cv_swT {w : Nat → Int32} {p s : Nat} (h : s.testBit p = true) : cv_sum (cv_sw w p) (s + 1) = cv_sum (cv_sw w p) s := by
  show cv_sum (cv_sw w p) s + cv_sw w p s = _
  rw [show cv_sw w p s = 0 from if_pos h, Int32.add_zero]
theorem cv_swF {w : Nat → Int32} {p s : Nat} (h : ¬ s.testBit p = true) : cv_sum (cv_sw w p) (s + 1) = cv_sum (cv_sw w p) s + (w (s ||| 2 ^ p) - w s) := by
  show cv_sum (cv_sw w p) s + cv_sw w p s = _
  rw [show cv_sw w p s = w (s ||| 2 ^ p) - w s from if_neg h]
theorem cv_swX {post : Int32 → Prop} {w am bt : Nat → Int32} {p : Nat} (hp : p < 5) (H : post (cv_sum (cv_sw w p) 32)) : ∀ d c, c + d = 32 → wX_swingValue_14 post (nI p) w am bt (d + 1) (cv_sum (cv_sw w p) c) (nI c) := by
  intro d
  induction d with
  | zero =>
    intro c hc
    obtain rfl : c = 32 := by omega
    exact br_t (nI_le (a := 32) (by omega) (by omega)) H
  | succ d ih =>
    intro c hc
    have h : ¬ (32 : Int32) ≤ nI c := nI_ge (b := 32) (by omega) (by omega)
    have hc' : c < 32 := by omega
    by_cases hb : c.testBit p = true
    · refine br_f h (cv_hasT hc' hp hb (fun b eb => ?_))
      rw [eb, nI_1, ← cv_swT hb]
      exact ih (c + 1) (by omega)
    · refine br_f h (cv_hasF hc' hp hb (cv_mar hc' hp (fun a ea b eb => ?_)))
      rw [ea, eb, nI_1, ← cv_swF hb]
      exact ih (c + 1) (by omega)
theorem cv_swY {post : Int32 → Prop} {w mv pt am : Nat → Int32} {p : Nat} (hp : p < 5) (H : post (cv_sum (cv_sw w p) 32)) : ∀ d c, c + d = 32 → wY_swingValue_15 post (nI p) w mv pt am (d + 1) (cv_sum (cv_sw w p) c) (nI c) := by
  intro d
  induction d with
  | zero =>
    intro c hc
    obtain rfl : c = 32 := by omega
    exact br_t (nI_le (a := 32) (by omega) (by omega)) H
  | succ d ih =>
    intro c hc
    have h : ¬ (32 : Int32) ≤ nI c := nI_ge (b := 32) (by omega) (by omega)
    have hc' : c < 32 := by omega
    have t := ct_bit c hc' p hp
    by_cases hb : c.testBit p = true
    · refine br_f h (cv_bT hc' hp hb (fun b eb => ?_))
      rw [eb, nI_1, ← cv_swT hb]
      exact ih (c + 1) (by omega)
    · refine br_f h (cv_bF hc' hp hb ?_)
      rw [t.1]
      refine ⟨vp_in_nI t.2 (by omega), vp_in_nI hc' (by omega), fun a ea b eb => ?_⟩
      rw [nI_clamp (by omega), nI_clamp (by omega)] at ea
      rw [ea, eb, nI_1, ← cv_swF hb]
      exact ih (c + 1) (by omega)
theorem i_vc_swingValue {k : Nat} {u : SX} {v : SY} (I : i_Rel k u v) (hk : k + 3 ≤ 1536) (v1 : Int32) : wpX_swingValue (fun r => wpY_swingValue (fun r' => r' = r ∧ i_Rel (k + 3) u v) v v1) u v1 := by
  obtain ⟨w, am, bt, mv, pt, rfl, rfl, hg⟩ := I
  unfold wpX_swingValue wpY_swingValue
  dsimp only
  rcases cv_pl v1 with ⟨hX, hY⟩ | ⟨p, hp, rfl, hX, hY⟩
  · exact hX _ (br_t rfl (hY _ _ (br_t rfl ⟨rfl, cv_rel hg⟩)))
  · exact hX _ (br_f (by decide) ⟨33, cv_swX hp (hY _ _ (br_f (by decide) ⟨33, cv_swY hp ⟨rfl, cv_rel hg⟩ 32 0 rfl⟩)) 32 0 rfl⟩)

/-! how many players, how many orders -/
def cv_sz (c : Nat) : Nat → Nat
  | 0 => 0
  | n + 1 => if c.testBit n = true then cv_sz c n + 1 else cv_sz c n
theorem cv_szT {c n : Nat} (h : c.testBit n = true) : cv_sz c (n + 1) = cv_sz c n + 1 := if_pos h
theorem cv_szF {c n : Nat} (h : ¬ c.testBit n = true) : cv_sz c (n + 1) = cv_sz c n := if_neg h
theorem cv_szLe (c : Nat) : ∀ n, cv_sz c n ≤ n := by
  intro n
  induction n with
  | zero => exact Nat.le_refl 0
  | succ n ih =>
    by_cases h : c.testBit n = true
    · rw [cv_szT h]; omega
    · rw [cv_szF h]; omega
theorem cv_szX {post : Int32 → Prop} {c : Nat} (hc : c < 32) (H : post (nI (cv_sz c 5))) : ∀ d j, j + d = 5 → wX_size_4 post (nI c) (d + 1) (nI (cv_sz c j)) (nI j) := by
  intro d
  induction d with
  | zero =>
    intro j hj
    obtain rfl : j = 5 := by omega
    exact br_t (nI_le (a := 5) (by omega) (by omega)) H
  | succ d ih =>
    intro j hj
    have h : ¬ (5 : Int32) ≤ nI j := nI_ge (b := 5) (by omega) (by omega)
    by_cases hb : c.testBit j = true
    · refine br_f h (cv_hasT hc (by omega) hb (fun a ea b eb => ?_))
      rw [ea, eb, nI_1, nI_1, ← cv_szT hb]
      exact ih (j + 1) (by omega)
    · refine br_f h (cv_hasF hc (by omega) hb (fun b eb => ?_))
      rw [eb, nI_1, ← cv_szF hb]
      exact ih (j + 1) (by omega)
theorem cv_szX0 {post : Int32 → Prop} {c : Nat} (hc : c < 32) (H : post (nI (cv_sz c 5))) : wpX_size post (nI c) := ⟨6, cv_szX hc H 5 0 rfl⟩
def cv_o : Nat → Nat
  | 0 => 24
  | 1 => 6
  | 2 => 4
  | 3 => 6
  | 4 => 24
  | _ => 4
theorem cv_oX {post : Int32 → Prop} {c : Nat} (hc : c < 32) (H : post (nI (cv_o (cv_sz c 5)))) : wpX_ordersAfter post (nI c) := by
  unfold wpX_ordersAfter
  refine cv_szX0 hc ?_
  have hm := cv_szLe c 5
  revert H hm
  generalize cv_sz c 5 = m
  intro H hm
  match m, hm, H with
  | 0, _, H => exact br_f (by decide) (br_f (by decide) (br_t (by decide) H))
  | 1, _, H => exact br_f (by decide) (br_f (by decide) (br_f (by decide) (br_t (by decide) H)))
  | 2, _, H => exact br_f (by decide) (br_f (by decide) (br_f (by decide) (br_f (by decide) (br_t (by decide) H))))
  | 3, _, H => exact br_f (by decide) (br_f (by decide) (br_f (by decide) (br_f (by decide) (br_f (by decide) (br_t (by decide) H)))))
  | 4, _, H => exact br_f (by decide) (br_f (by decide) (br_f (by decide) (br_f (by decide) (br_f (by decide) (br_f (by decide) (br_t (by decide) H))))))
  | 5, _, H => exact br_f (by decide) (br_t (by decide) H)
  | n + 6, h, _ => exact absurd h (by omega)
/-- a summand a coalition without p, as often as there are orders -/
def cv_ov (w : Nat → Int32) (p s : Nat) : Int32 := if s.testBit p = true then 0 else nI (cv_o (cv_sz s 5)) * (w (s ||| 2 ^ p) - w s)
theorem cv_ovT {w : Nat → Int32} {p s : Nat} (h : s.testBit p = true) : cv_sum (cv_ov w p) (s + 1) = cv_sum (cv_ov w p) s := by
  show cv_sum (cv_ov w p) s + cv_ov w p s = _
  rw [show cv_ov w p s = 0 from if_pos h, Int32.add_zero]
theorem cv_ovF {w : Nat → Int32} {p s : Nat} (h : ¬ s.testBit p = true) : cv_sum (cv_ov w p) (s + 1) = cv_sum (cv_ov w p) s + nI (cv_o (cv_sz s 5)) * (w (s ||| 2 ^ p) - w s) := by
  show cv_sum (cv_ov w p) s + cv_ov w p s = _
  rw [show cv_ov w p s = nI (cv_o (cv_sz s 5)) * (w (s ||| 2 ^ p) - w s) from if_neg h]
theorem cv_ovX {post : Int32 → Prop} {w am bt : Nat → Int32} {p : Nat} (hp : p < 5) (H : post (cv_sum (cv_ov w p) 32)) : ∀ d c, c + d = 32 → wX_orderValue_14 post (nI p) w am bt (d + 1) (cv_sum (cv_ov w p) c) (nI c) := by
  intro d
  induction d with
  | zero =>
    intro c hc
    obtain rfl : c = 32 := by omega
    exact br_t (nI_le (a := 32) (by omega) (by omega)) H
  | succ d ih =>
    intro c hc
    have h : ¬ (32 : Int32) ≤ nI c := nI_ge (b := 32) (by omega) (by omega)
    have hc' : c < 32 := by omega
    by_cases hb : c.testBit p = true
    · refine br_f h (cv_hasT hc' hp hb (fun b eb => ?_))
      rw [eb, nI_1, ← cv_ovT hb]
      exact ih (c + 1) (by omega)
    · refine br_f h (cv_hasF hc' hp hb (cv_oX hc' (cv_mar hc' hp (fun a ea b eb => ?_))))
      rw [ea, eb, nI_1, ← cv_ovF hb]
      exact ih (c + 1) (by omega)

/-! Y: the k-th order, walked -/
def cv_pick (come : Nat) : Nat → Nat → Nat → Nat
  | 0, _, q => q
  | d + 1, skip, q => if come.testBit q = true then cv_pick come d skip (q + 1) else if skip = 0 then q else cv_pick come d (skip - 1) (q + 1)
def cv_go (p : Nat) : Nat → Nat → Nat → Option Nat
  | 0, _, _ => none
  | d + 1, rest, come => if cv_pick come 5 (rest % (d + 1)) 0 = p then some come else if cv_pick come 5 (rest % (d + 1)) 0 < 5 then cv_go p d (rest / (d + 1)) (come ||| 2 ^ cv_pick come 5 (rest % (d + 1)) 0) else none
theorem cv_53T {post : Int32 → Prop} {J8 : Int32 → Int32 → Int32 → Prop} {J : Int32 → Int32 → Prop} {x2 x3 x5 x6 : Int32} {come q : Nat} {w mv pt am : Nat → Int32} (hc : come < 32) (hq : q < 5) (hb : come.testBit q = true) (H : J x6 (nI (q + 1))) : wY_marginIn_53 post J8 J x2 x3 (nI come) x5 x6 (nI q) w mv pt am := by
  unfold wY_marginIn_53
  refine cv_bT hc hq hb (fun y ey => ?_)
  rw [ey, nI_1]
  exact H
theorem cv_53F {post : Int32 → Prop} {J8 : Int32 → Int32 → Int32 → Prop} {J : Int32 → Int32 → Prop} {x2 x3 x5 x6 : Int32} {come q : Nat} {w mv pt am : Nat → Int32} (hc : come < 32) (hq : q < 5) (hb : ¬ come.testBit q = true) (H : J (x6 + (-1)) (nI (q + 1))) : wY_marginIn_53 post J8 J x2 x3 (nI come) x5 x6 (nI q) w mv pt am := by
  unfold wY_marginIn_53
  refine cv_bF hc hq hb (fun x ex y ey => ?_)
  rw [ex, ey, nI_1]
  exact H
theorem cv_pk {post : Int32 → Prop} {J8 : Int32 → Int32 → Int32 → Prop} {x2 x3 x5 : Int32} {come : Nat} {w mv pt am : Nat → Int32} (hc : come < 32) : ∀ d q skip, q + d = 5 → skip < 2 ^ 31 → wY_marginIn_72 post J8 x2 x3 (nI come) x5 (nI (cv_pick come d skip q)) w mv pt am → wY_marginIn_32 post J8 x2 x3 (nI come) x5 w mv pt am (d + 1) (nI skip) (nI q) := by
  intro d
  induction d with
  | zero =>
    intro q skip hq hs H
    obtain rfl : q = 5 := by omega
    exact br_t (nI_le (a := 5) (by omega) (by omega)) H
  | succ d ih =>
    intro q skip hq hs H
    have h : ¬ (5 : Int32) ≤ nI q := nI_ge (b := 5) (by omega) (by omega)
    have hq' : q < 5 := by omega
    refine br_f h ?_
    by_cases hb : come.testBit q = true
    · have e : cv_pick come (d + 1) skip q = cv_pick come d skip (q + 1) := if_pos hb
      rw [e] at H
      exact cv_bT hc hq' hb (cv_53T hc hq' hb (ih (q + 1) skip (by omega) hs H))
    · refine cv_bF hc hq' hb ?_
      by_cases h0 : skip = 0
      · have e : cv_pick come (d + 1) skip q = q := by
          show (if come.testBit q = true then _ else if skip = 0 then q else _) = q
          rw [if_neg hb, if_pos h0]
        rw [e] at H
        subst h0
        exact br_t (by decide) H
      · have e : cv_pick come (d + 1) skip q = cv_pick come d (skip - 1) (q + 1) := by
          show (if come.testBit q = true then _ else if skip = 0 then q else cv_pick come d (skip - 1) (q + 1)) = _
          rw [if_neg hb, if_neg h0]
        rw [e] at H
        obtain ⟨s, rfl⟩ : ∃ s, skip = s + 1 := ⟨skip - 1, by omega⟩
        refine br_f (nI_nle (by omega) hs) (cv_53F hc hq' hb ?_)
        rw [pk_m1]
        exact ih (q + 1) s (by omega) (by omega) H
theorem cv_goY {post : Int32 → Prop} {w mv pt am : Nat → Int32} {p C : Nat} (hp : p < 5) (H : post (w (C ||| 2 ^ p) - w C)) : ∀ d rest come place, place + d = 5 → rest < 2 ^ 31 → come < 32 → cv_go p d rest come = some C → wY_marginIn_8 post (nI p) w mv pt am (d + 1) (nI rest) (nI come) (nI place) := by
  intro d
  induction d with
  | zero =>
    intro rest come place _ _ _ hg
    exact nomatch (show (none : Option Nat) = some C from hg)
  | succ d ih =>
    intro rest come place hd hr hc hg
    have h : ¬ (5 : Int32) ≤ nI place := nI_ge (b := 5) (by omega) (by omega)
    have e5 : (5 : Int32) - nI place = nI (d + 1) := by
      have := pk_sub (a := 5) (b := place) (by omega)
      rw [show 5 - place = d + 1 from by omega] at this
      exact this
    refine br_f h ?_
    rw [e5]
    have n0 : ¬ nI (d + 1) = 0 := nI_ne0 (by omega) (by omega)
    refine ⟨n0, nm_r (pk_rem hr (by omega) (by omega)) ⟨n0, nm_r (pk_div hr (by omega) (by omega)) ⟨6, ?_⟩⟩⟩
    refine cv_pk hc 5 0 _ rfl (Nat.lt_of_le_of_lt (Nat.mod_le _ _) hr) ?_
    have hg' : (if cv_pick come 5 (rest % (d + 1)) 0 = p then some come else if cv_pick come 5 (rest % (d + 1)) 0 < 5 then cv_go p d (rest / (d + 1)) (come ||| 2 ^ cv_pick come 5 (rest % (d + 1)) 0) else none) = some C := hg
    revert hg'
    generalize cv_pick come 5 (rest % (d + 1)) 0 = q
    intro hg'
    unfold wY_marginIn_72
    by_cases e : q = p
    · rw [if_pos e] at hg'
      subst e
      obtain rfl : come = C := Option.some.inj hg'
      have t := ct_bit come hc q hp
      refine br_t rfl ?_
      rw [t.1]
      refine ⟨vp_in_nI t.2 (by omega), vp_in_nI hc (by omega), ?_⟩
      rw [nI_clamp (by omega), nI_clamp (by omega)]
      exact H
    · rw [if_neg e] at hg'
      by_cases hq : q < 5
      · rw [if_pos hq] at hg'
        have t := ct_bit come hc q hq
        have ne : ¬ nI q = nI p := fun z => e ((nI_eq (by omega) (by omega)).mp z)
        refine br_f ne (nm_r t.1 (nm_r (nI_1 place) ?_))
        exact ih (rest / (d + 1)) (come ||| 2 ^ q) (place + 1) (by omega) (Nat.lt_of_le_of_lt (Nat.div_le_self _ _) hr) t.2 hg'
      · rw [if_neg hq] at hg'
        exact nomatch hg'
/-- who came before p in the k-th order -/
def cv_cc (p k : Nat) : Nat := (cv_go p 5 k 0).getD 0
theorem ct_go0 : ∀ k, k < 120 → cv_go 0 5 k 0 = some (cv_cc 0 k) ∧ cv_cc 0 k < 32 := by decide +kernel
theorem ct_go1 : ∀ k, k < 120 → cv_go 1 5 k 0 = some (cv_cc 1 k) ∧ cv_cc 1 k < 32 := by decide +kernel
theorem ct_go2 : ∀ k, k < 120 → cv_go 2 5 k 0 = some (cv_cc 2 k) ∧ cv_cc 2 k < 32 := by decide +kernel
theorem ct_go3 : ∀ k, k < 120 → cv_go 3 5 k 0 = some (cv_cc 3 k) ∧ cv_cc 3 k < 32 := by decide +kernel
theorem ct_go4 : ∀ k, k < 120 → cv_go 4 5 k 0 = some (cv_cc 4 k) ∧ cv_cc 4 k < 32 := by decide +kernel
theorem ct_go {p : Nat} (hp : p < 5) {k : Nat} (hk : k < 120) : cv_go p 5 k 0 = some (cv_cc p k) ∧ cv_cc p k < 32 := by
  match p, hp with
  | 0, _ => exact ct_go0 k hk
  | 1, _ => exact ct_go1 k hk
  | 2, _ => exact ct_go2 k hk
  | 3, _ => exact ct_go3 k hk
  | 4, _ => exact ct_go4 k hk
  | n + 5, h => exact absurd h (by omega)
/-- how often f is s below n -/
def cv_cnt (f : Nat → Nat) (s : Nat) : Nat → Nat
  | 0 => 0
  | n + 1 => if f n = s then cv_cnt f s n + 1 else cv_cnt f s n
theorem ct_cnt0 : ∀ s, s < 32 → cv_cnt (cv_cc 0) s 120 = (if s.testBit 0 = true then 0 else cv_o (cv_sz s 5)) := by decide +kernel
theorem ct_cnt1 : ∀ s, s < 32 → cv_cnt (cv_cc 1) s 120 = (if s.testBit 1 = true then 0 else cv_o (cv_sz s 5)) := by decide +kernel
theorem ct_cnt2 : ∀ s, s < 32 → cv_cnt (cv_cc 2) s 120 = (if s.testBit 2 = true then 0 else cv_o (cv_sz s 5)) := by decide +kernel
theorem ct_cnt3 : ∀ s, s < 32 → cv_cnt (cv_cc 3) s 120 = (if s.testBit 3 = true then 0 else cv_o (cv_sz s 5)) := by decide +kernel
theorem ct_cnt4 : ∀ s, s < 32 → cv_cnt (cv_cc 4) s 120 = (if s.testBit 4 = true then 0 else cv_o (cv_sz s 5)) := by decide +kernel
theorem ct_cnt {p : Nat} (hp : p < 5) {s : Nat} (hs : s < 32) : cv_cnt (cv_cc p) s 120 = (if s.testBit p = true then 0 else cv_o (cv_sz s 5)) := by
  match p, hp with
  | 0, _ => exact ct_cnt0 s hs
  | 1, _ => exact ct_cnt1 s hs
  | 2, _ => exact ct_cnt2 s hs
  | 3, _ => exact ct_cnt3 s hs
  | 4, _ => exact ct_cnt4 s hs
  | n + 5, h => exact absurd h (by omega)
theorem cv_cntS (f : Nat → Nat) (s n : Nat) : cv_sum (fun k => if f k = s then (1 : Int32) else 0) n = nI (cv_cnt f s n) := by
  induction n with
  | zero => exact nI_0.symm
  | succ n ih =>
    show cv_sum (fun k => if f k = s then (1 : Int32) else 0) n + (if f n = s then (1 : Int32) else 0) = nI (if f n = s then cv_cnt f s n + 1 else cv_cnt f s n)
    rw [ih]
    by_cases e : f n = s
    · rw [if_pos e, if_pos e, nI_1]
    · rw [if_neg e, if_neg e, Int32.add_zero]
/-- a sum along f, gathered by the values of f -/
theorem cv_gather (g : Nat → Int32) (f : Nat → Nat) (n : Nat) (hf : ∀ k, k < n → f k < 32) : cv_sum (fun k => g (f k)) n = cv_sum (fun s => nI (cv_cnt f s n) * g s) 32 := by
  have h1 : cv_sum (fun k => g (f k)) n = cv_sum (fun k => cv_sum (fun s => (if f k = s then (1 : Int32) else 0) * g s) 32) n := by
    refine cv_sum_congr (fun k hk => ?_)
    have := cv_sum_single (f := fun s => (if f k = s then (1 : Int32) else 0) * g s) (hf k hk) (fun i _ hia => by
      show (if f k = i then (1 : Int32) else 0) * g i = 0
      rw [if_neg (fun z => hia z.symm), Int32.zero_mul])
    rw [this]
    show g (f k) = (if f k = f k then (1 : Int32) else 0) * g (f k)
    rw [if_pos rfl, Int32.one_mul]
  rw [h1, cv_sum_swap]
  refine cv_sum_congr (fun s _ => ?_)
  show cv_sum (fun k => (if f k = s then (1 : Int32) else 0) * g s) n = nI (cv_cnt f s n) * g s
  rw [cv_sum_mul, cv_cntS]
theorem cv_ovEq {w : Nat → Int32} {p : Nat} (hp : p < 5) : cv_sum (fun k => w (cv_cc p k ||| 2 ^ p) - w (cv_cc p k)) 120 = cv_sum (cv_ov w p) 32 := by
  have := cv_gather (fun s => w (s ||| 2 ^ p) - w s) (cv_cc p) 120 (fun k hk => (ct_go hp hk).2)
  refine Eq.trans this (cv_sum_congr (fun s hs => ?_))
  show nI (cv_cnt (cv_cc p) s 120) * (w (s ||| 2 ^ p) - w s) = cv_ov w p s
  rw [ct_cnt hp hs]
  unfold cv_ov
  by_cases h : s.testBit p = true
  · rw [if_pos h, if_pos h, nI_0, Int32.zero_mul]
  · rw [if_neg h, if_neg h]
theorem cv_ovY {post : Int32 → Prop} {w mv pt am : Nat → Int32} {p : Nat} (hp : p < 5) (H : post (cv_sum (fun k => w (cv_cc p k ||| 2 ^ p) - w (cv_cc p k)) 120)) : ∀ d k, k + d = 120 → wY_orderValue_15 post (nI p) w mv pt am (d + 1) (cv_sum (fun k => w (cv_cc p k ||| 2 ^ p) - w (cv_cc p k)) k) (nI k) := by
  intro d
  induction d with
  | zero =>
    intro k hk
    obtain rfl : k = 120 := by omega
    exact br_t (nI_le (a := 120) (by omega) (by omega)) H
  | succ d ih =>
    intro k hk
    have h : ¬ (120 : Int32) ≤ nI k := nI_ge (b := 120) (by omega) (by omega)
    have t := ct_go hp (k := k) (by omega)
    refine br_f h ⟨6, ?_⟩
    refine cv_goY hp (C := cv_cc p k) (fun a ea b eb => ?_) 5 k 0 0 rfl (by omega) (by omega) t.1
    rw [ea, eb, nI_1]
    exact ih (k + 1) (by omega)
theorem i_vc_orderValue {k : Nat} {u : SX} {v : SY} (I : i_Rel k u v) (hk : k + 3 ≤ 1536) (v1 : Int32) : wpX_orderValue (fun r => wpY_orderValue (fun r' => r' = r ∧ i_Rel (k + 3) u v) v v1) u v1 := by
  obtain ⟨w, am, bt, mv, pt, rfl, rfl, hg⟩ := I
  unfold wpX_orderValue wpY_orderValue
  dsimp only
  rcases cv_pl v1 with ⟨hX, hY⟩ | ⟨p, hp, rfl, hX, hY⟩
  · exact hX _ (br_t rfl (hY _ _ (br_t rfl ⟨rfl, cv_rel hg⟩)))
  · exact hX _ (br_f (by decide) ⟨33, cv_ovX hp (hY _ _ (br_f (by decide) ⟨121, cv_ovY hp ⟨cv_ovEq hp, cv_rel hg⟩ 120 0 rfl⟩)) 32 0 rfl⟩)
end
section
/-! ===== 05: own: a sum of worths with signs, against the parts taken off one after the other ===== -/
theorem ct_par : ∀ m, m < 6 → ((nI m &&& 1) = 0 ↔ m % 2 = 0) := by decide +kernel
/-- the sign of the worth of r in own of s -/
def cv_cf (s r : Nat) : Int32 := if 1 ≤ r ∧ r &&& s = r then (if cv_sz (s ^^^ r) 5 % 2 = 0 then 1 else -1) else 0
def cv_ow (w : Nat → Int32) (s : Nat) : Int32 := cv_sum (fun r => cv_cf s r * w r) 32
theorem ct_cf : ∀ s, s < 32 → 1 ≤ s → ∀ r, r < 32 → cv_sum (fun i => if 1 ≤ i ∧ i &&& s = i then cv_cf i r else 0) s = (if r = s then 1 else 0) - cv_cf s r := by decide +kernel
theorem cv_owRec {w : Nat → Int32} {s : Nat} (hs : s < 32) (h1 : 1 ≤ s) : w s - cv_sum (fun i => if 1 ≤ i ∧ i &&& s = i then cv_ow w i else 0) s = cv_ow w s := by
  have e1 : cv_sum (fun i => if 1 ≤ i ∧ i &&& s = i then cv_ow w i else 0) s = cv_sum (fun i => cv_sum (fun r => (if 1 ≤ i ∧ i &&& s = i then cv_cf i r else 0) * w r) 32) s := by
    refine cv_sum_congr (fun i _ => ?_)
    by_cases h : 1 ≤ i ∧ i &&& s = i
    · rw [if_pos h]
      refine cv_sum_congr (fun r _ => ?_)
      rw [if_pos h]
    · rw [if_neg h]
      refine (cv_sum_zero (fun r _ => ?_)).symm
      rw [if_neg h, Int32.zero_mul]
  have e2 : cv_sum (fun r => cv_sum (fun i => (if 1 ≤ i ∧ i &&& s = i then cv_cf i r else 0) * w r) s) 32 = cv_sum (fun r => (if r = s then (1 : Int32) else 0) * w r + (-1) * (cv_cf s r * w r)) 32 := by
    refine cv_sum_congr (fun r hr => ?_)
    rw [cv_sum_mul, ct_cf s hs h1 r hr]
    grind
  have e3 : cv_sum (fun r => (if r = s then (1 : Int32) else 0) * w r) 32 = w s := by
    have := cv_sum_single (f := fun r => (if r = s then (1 : Int32) else 0) * w r) hs (fun i _ hia => by
      show (if i = s then (1 : Int32) else 0) * w i = 0
      rw [if_neg hia, Int32.zero_mul])
    rw [this]
    show (if s = s then (1 : Int32) else 0) * w s = w s
    rw [if_pos rfl, Int32.one_mul]
  have e4 : cv_sum (fun r => (-1) * (cv_cf s r * w r)) 32 = (-1) * cv_ow w s := by
    have := cv_sum_mul (-1) (fun r => cv_cf s r * w r) 32
    rw [Int32.mul_comm (-1) (cv_ow w s)]
    refine Eq.trans (cv_sum_congr (fun r _ => ?_)) this
    exact Int32.mul_comm _ _
  rw [e1, cv_sum_swap, e2, cv_sum_add, e3, e4]
  grind
theorem cv_owX {post : Int32 → Prop} {w am bt : Nat → Int32} {c : Nat} (hc : c < 32) (H : post (cv_ow w c)) : ∀ d t, t + d = 32 → 1 ≤ t → wX_own_13 post (nI c) w am bt (d + 1) (cv_sum (fun r => cv_cf c r * w r) t) (nI t) := by
  intro d
  induction d with
  | zero =>
    intro t ht h1
    obtain rfl : t = 32 := by omega
    exact br_t (nI_le (a := 32) (by omega) (by omega)) H
  | succ d ih =>
    intro t ht h1
    have h : ¬ (32 : Int32) ≤ nI t := nI_ge (b := 32) (by omega) (by omega)
    have ht' : t < 32 := by omega
    have K : wX_own_13 post (nI c) w am bt (d + 1) (cv_sum (fun r => cv_cf c r * w r) t + cv_cf c t * w t) (nI (t + 1)) := ih (t + 1) (by omega) (by omega)
    have ta := ct_and t ht' c hc
    have tx := ct_xor c hc t ht'
    have hi : vp_in (nI t) 32 := vp_in_nI ht' (by omega)
    refine br_f h ?_
    rw [ta.1]
    by_cases hs : t &&& c = t
    · rw [hs]
      refine br_t rfl ?_
      rw [tx.1]
      refine cv_szX0 tx.2 ?_
      have hm := cv_szLe (c ^^^ t) 5
      have par := ct_par (cv_sz (c ^^^ t) 5) (by omega)
      by_cases e : cv_sz (c ^^^ t) 5 % 2 = 0
      · refine br_t (par.mpr e) ?_
        unfold wX_own_42
        refine br_f (by decide) ⟨hi, fun a ea b eb => ?_⟩
        rw [nI_clamp (by omega)] at ea
        have ec : cv_cf c t = 1 := by
          unfold cv_cf
          rw [if_pos ⟨h1, hs⟩, if_pos e]
        rw [ec, Int32.one_mul] at K
        rw [ea, eb, nI_1]
        exact K
      · refine br_f (fun z => e (par.mp z)) ?_
        unfold wX_own_42
        refine br_t rfl ⟨hi, fun a ea b eb => ?_⟩
        rw [nI_clamp (by omega)] at ea
        have ec : cv_cf c t = -1 := by
          unfold cv_cf
          rw [if_pos ⟨h1, hs⟩, if_neg e]
        rw [ec, show (-1 : Int32) * w t = -(w t) from by grind] at K
        rw [ea, eb, nI_1]
        exact K
    · have ne : ¬ nI (t &&& c) = nI t := fun z => hs ((nI_eq (by have := ta.2; omega) (by omega)).mp z)
      refine br_f ne (fun b eb => ?_)
      have ec : cv_cf c t = 0 := if_neg (fun z => hs z.2)
      rw [ec, Int32.zero_mul, Int32.add_zero] at K
      rw [eb, nI_1]
      exact K
/-! Y -/
def cv_pf (pt : Nat → Int32) (s i : Nat) : Int32 := if 1 ≤ i ∧ i &&& s = i then pt i else 0
theorem cv_owY1 {post : Int32 → SY → Prop} {J : Int32 → (Nat → Int32) → (Nat → Int32) → (Nat → Int32) → (Nat → Int32) → Prop} {x1 : Int32} {w mv pt am : Nat → Int32} {s : Nat} (hs : s < 32) (H : J (nI (s + 1)) w mv (upd pt s (w s - cv_sum (cv_pf pt s) s)) am) : ∀ d t, t + d = s → 1 ≤ t → wY_own_31 post J x1 (nI s) w mv pt am (d + 1) (w s - cv_sum (cv_pf pt s) t) (nI t) := by
  intro d
  induction d with
  | zero =>
    intro t ht h1
    obtain rfl : t = s := by omega
    refine br_t (nI_le (Nat.le_refl _) (by omega)) ⟨vp_in_nI hs (by omega), fun a ea b eb => ?_⟩
    rw [nI_clamp (by omega)] at ea
    rw [ea, eb, nI_1]
    exact H
  | succ d ih =>
    intro t ht h1
    have h : ¬ nI s ≤ nI t := nI_ge (by omega) (by omega)
    have ht' : t < 32 := by omega
    have K : wY_own_31 post J x1 (nI s) w mv pt am (d + 1) (w s - (cv_sum (cv_pf pt s) t + cv_pf pt s t)) (nI (t + 1)) := ih (t + 1) (by omega) (by omega)
    have ta := ct_and t ht' s hs
    refine br_f h ?_
    rw [ta.1]
    by_cases hb : t &&& s = t
    · rw [hb]
      refine br_t rfl ⟨vp_in_nI ht' (by omega), fun a ea b eb => ?_⟩
      rw [nI_clamp (by omega)] at ea
      rw [show cv_pf pt s t = pt t from if_pos ⟨h1, hb⟩] at K
      rw [ea, eb, nI_1, show w s - cv_sum (cv_pf pt s) t - pt t = w s - (cv_sum (cv_pf pt s) t + pt t) from by grind]
      exact K
    · have ne : ¬ nI (t &&& s) = nI t := fun z => hb ((nI_eq (by have := ta.2; omega) (by omega)).mp z)
      refine br_f ne (fun b eb => ?_)
      rw [show cv_pf pt s t = 0 from if_neg (fun z => hb z.2), Int32.add_zero] at K
      rw [eb, nI_1]
      exact K
theorem cv_owY {post : Int32 → SY → Prop} {w mv am : Nat → Int32} {c : Nat} (hc : c < 32) (h1c : 1 ≤ c) (H : ∀ pt : Nat → Int32, post (cv_ow w c) (w, mv, pt, am)) : ∀ d s pt, s + d = 32 → 1 ≤ s → (∀ t, 1 ≤ t → t < s → pt t = cv_ow w t) → wY_own_15 post (nI c) (d + 1) (nI s) w mv pt am := by
  intro d
  induction d with
  | zero =>
    intro s pt hs h1 hpt
    obtain rfl : s = 32 := by omega
    refine br_t (nI_le (a := 32) (by omega) (by omega)) ⟨vp_in_nI hc (by omega), ?_⟩
    rw [nI_clamp (by omega), hpt c h1c hc]
    exact H pt
  | succ d ih =>
    intro s pt hs h1 hpt
    have h : ¬ (32 : Int32) ≤ nI s := nI_ge (b := 32) (by omega) (by omega)
    have hs' : s < 32 := by omega
    refine br_f h ⟨vp_in_nI hs' (by omega), fun a ea => ⟨(s - 1) + 1, ?_⟩⟩
    rw [nI_clamp (by omega)] at ea
    have e0 : w s - cv_sum (cv_pf pt s) 1 = w s := by
      have : cv_sum (cv_pf pt s) 1 = 0 := cv_sum_zero (fun i hi => if_neg (fun z => by have := z.1; omega))
      rw [this, Int32.sub_zero]
    have eS : w s - cv_sum (cv_pf pt s) s = cv_ow w s := by
      rw [← cv_owRec hs' h1]
      congr 1
      refine cv_sum_congr (fun i hi => ?_)
      unfold cv_pf
      by_cases e : 1 ≤ i ∧ i &&& s = i
      · rw [if_pos e, if_pos e, hpt i e.1 hi]
      · rw [if_neg e, if_neg e]
    have K := cv_owY1 (post := post) (J := wY_own_15 post (nI c) (d + 1)) (x1 := nI c) (w := w) (mv := mv) (pt := pt) (am := am) hs' (by
      refine ih (s + 1) _ (by omega) (by omega) (fun t h1t ht => ?_)
      by_cases e : t = s
      · subst e
        rw [pk_us, eS]
      · rw [pk_un e]
        exact hpt t h1t (by omega)) (s - 1) 1 (by omega) (by omega)
    rw [e0] at K
    rw [ea]
    exact K
theorem i_vc_own {k : Nat} {u : SX} {v : SY} (I : i_Rel k u v) (hk : k + 3 ≤ 1536) (v1 : Int32) : wpX_own (fun r => wpY_own (fun r' v' => r' = r ∧ i_Rel (k + 3) u v') v v1) u v1 := by
  obtain ⟨w, am, bt, mv, pt, rfl, rfl, hg⟩ := I
  unfold wpX_own wpY_own
  dsimp only
  rcases cv_co v1 with ⟨hX, hY⟩ | ⟨c, h1, hc, rfl, hX, hY⟩
  · exact hX _ (br_t rfl (hY _ _ ⟨rfl, cv_rel hg⟩))
  · refine hX _ (br_f (by decide) ⟨32, ?_⟩)
    have K := cv_owX (w := w) (am := am) (bt := bt) hc (post := fun r => ((nI c < 1 → ((-1) = r ∧ i_Rel (k + 3) (w, am, bt) (w, mv, pt, am))) ∧ (¬ nI c < 1 → ((nI c ≤ 31 → (∃ n15 : Nat, wY_own_15 (fun r' v' => r' = r ∧ i_Rel (k + 3) (w, am, bt) v') (nI c) n15 1 w mv pt am)) ∧ (¬ nI c ≤ 31 → ((-1) = r ∧ i_Rel (k + 3) (w, am, bt) (w, mv, pt, am))))))) (hY _ _ _ ⟨32, cv_owY hc h1 (fun pt' => ⟨rfl, cv_rel hg⟩) 31 1 pt rfl (by omega) (fun t h1t ht => by omega)⟩) 31 1 rfl (by omega)
    rw [show cv_sum (fun r => cv_cf c r * w r) 1 = 0 from cv_sum_zero (fun i hi => by
      obtain rfl : i = 0 := by omega
      show cv_cf c 0 * w 0 = 0
      rw [show cv_cf c 0 = 0 from if_neg (fun z => by have := z.1; omega), Int32.zero_mul])] at K
    exact K
end
section
/-! ===== 06: complaint, inCore ===== -/
def cv_sh (am : Nat → Int32) (c : Nat) : Nat → Int32
  | 0 => 0
  | n + 1 => if c.testBit n = true then cv_sh am c n + am n else cv_sh am c n
theorem cv_shT {am : Nat → Int32} {c n : Nat} (h : c.testBit n = true) : cv_sh am c (n + 1) = cv_sh am c n + am n := if_pos h
theorem cv_shF {am : Nat → Int32} {c n : Nat} (h : ¬ c.testBit n = true) : cv_sh am c (n + 1) = cv_sh am c n := if_neg h
theorem cv_shX {post : Int32 → Prop} {w am bt : Nat → Int32} {c : Nat} (hc : c < 32) (H : post (cv_sh am c 5)) : ∀ d j, j + d = 5 → wX_share_4 post (nI c) w am bt (d + 1) (cv_sh am c j) (nI j) := by
  intro d
  induction d with
  | zero =>
    intro j hj
    obtain rfl : j = 5 := by omega
    exact br_t (nI_le (a := 5) (by omega) (by omega)) H
  | succ d ih =>
    intro j hj
    have h : ¬ (5 : Int32) ≤ nI j := nI_ge (b := 5) (by omega) (by omega)
    by_cases hb : c.testBit j = true
    · refine br_f h (cv_hasT hc (by omega) hb ⟨vp_in_nI (by omega) (by omega), fun a ea b eb => ?_⟩)
      rw [nI_clamp (by omega)] at ea
      rw [ea, eb, nI_1, ← cv_shT hb]
      exact ih (j + 1) (by omega)
    · refine br_f h (cv_hasF hc (by omega) hb (fun b eb => ?_))
      rw [eb, nI_1, ← cv_shF hb]
      exact ih (j + 1) (by omega)
theorem cv_shY {post : Int32 → Prop} {w mv pt am : Nat → Int32} {c : Nat} (hc : c < 32) (H : post (cv_sh am c 5)) : ∀ d j, j + d = 5 → wY_share_4 post (nI c) w mv pt am (d + 1) (cv_sh am c j) (nI j) := by
  intro d
  induction d with
  | zero =>
    intro j hj
    obtain rfl : j = 5 := by omega
    exact br_t (nI_le (a := 5) (by omega) (by omega)) H
  | succ d ih =>
    intro j hj
    have h : ¬ (5 : Int32) ≤ nI j := nI_ge (b := 5) (by omega) (by omega)
    by_cases hb : c.testBit j = true
    · refine br_f h (cv_bT hc (by omega) hb ⟨vp_in_nI (by omega) (by omega), fun a ea b eb => ?_⟩)
      rw [nI_clamp (by omega)] at ea
      rw [ea, eb, nI_1, ← cv_shT hb]
      exact ih (j + 1) (by omega)
    · refine br_f h (cv_bF hc (by omega) hb (fun b eb => ?_))
      rw [eb, nI_1, ← cv_shF hb]
      exact ih (j + 1) (by omega)
theorem cv_shY0 {post : Int32 → Prop} {w mv pt am : Nat → Int32} {c : Nat} (hc : c < 32) (H : post (cv_sh am c 5)) : wpY_share post (w, mv, pt, am) (nI c) := ⟨6, cv_shY hc H 5 0 rfl⟩
def cv_ex (w am : Nat → Int32) (c : Nat) : Int32 := w c - cv_sh am c 5
theorem cv_exX0 {post : Int32 → Prop} {w am bt : Nat → Int32} {c : Nat} (hc : c < 32) (H : post (cv_ex w am c)) : wpX_excess post (w, am, bt) (nI c) := by
  unfold wpX_excess
  dsimp only
  refine ⟨vp_in_nI hc (by omega), 6, cv_shX hc ?_ 5 0 rfl⟩
  rw [nI_clamp (by omega)]
  exact H
/-- the greatest of f 0 .. f n -/
def cv_mx (f : Nat → Int32) : Nat → Int32
  | 0 => f 0
  | n + 1 => if f (n + 1) ≤ cv_mx f n then cv_mx f n else f (n + 1)
theorem cv_mxT {f : Nat → Int32} {n : Nat} (h : f (n + 1) ≤ cv_mx f n) : cv_mx f (n + 1) = cv_mx f n := if_pos h
theorem cv_mxF {f : Nat → Int32} {n : Nat} (h : ¬ f (n + 1) ≤ cv_mx f n) : cv_mx f (n + 1) = f (n + 1) := if_neg h
theorem cv_mx0 {f : Nat → Int32} (n : Nat) : cv_mx f n ≤ 0 ↔ ∀ i, i ≤ n → f i ≤ 0 := by
  induction n with
  | zero =>
    constructor
    · intro h i hi
      obtain rfl : i = 0 := by omega
      exact h
    · intro h
      exact h 0 (Nat.le_refl 0)
  | succ n ih =>
    by_cases e : f (n + 1) ≤ cv_mx f n
    · rw [cv_mxT e]
      constructor
      · intro h i hi
        by_cases e2 : i = n + 1
        · subst e2
          exact Int32.le_trans e h
        · exact ih.mp h i (by omega)
      · intro h
        exact ih.mpr (fun i hi => h i (by omega))
    · rw [cv_mxF e]
      constructor
      · intro h i hi
        by_cases e2 : i = n + 1
        · subst e2
          exact h
        · exact ih.mp (Int32.le_trans (Int32.le_of_lt (Int32.not_le.mp e)) h) i (by omega)
      · intro h
        exact h (n + 1) (Nat.le_refl _)
def cv_cf1 (w am : Nat → Int32) (i : Nat) : Int32 := cv_ex w am (i + 1)
theorem cv_cpX {post : Int32 → Prop} {w am bt : Nat → Int32} (H : post (cv_mx (cv_cf1 w am) 29)) : ∀ d i, i + d = 29 → wX_complaint_8 post w am bt (d + 1) (cv_mx (cv_cf1 w am) i) (nI (i + 2)) := by
  intro d
  induction d with
  | zero =>
    intro i hi
    obtain rfl : i = 29 := by omega
    exact br_t (nI_le (a := 31) (by omega) (by omega)) H
  | succ d ih =>
    intro i hi
    have h : ¬ (31 : Int32) ≤ nI (i + 2) := nI_ge (b := 31) (by omega) (by omega)
    have K := ih (i + 1) (by omega)
    refine br_f h (cv_exX0 (by omega) ?_)
    by_cases e : cv_ex w am (i + 2) ≤ cv_mx (cv_cf1 w am) i
    · refine br_t e (fun b eb => ?_)
      rw [cv_mxT (f := cv_cf1 w am) e] at K
      rw [eb, nI_1]
      exact K
    · refine br_f e (fun b eb => ?_)
      rw [cv_mxF (f := cv_cf1 w am) e] at K
      rw [eb, nI_1]
      exact K
theorem cv_cpY {post : Int32 → Prop} {w mv pt am : Nat → Int32} (H : post (cv_mx (cv_cf1 w am) 29)) : ∀ d i, i + d = 29 → wY_complaint_15 post w mv pt am (d + 1) (cv_mx (cv_cf1 w am) i) (nI (i + 2)) := by
  intro d
  induction d with
  | zero =>
    intro i hi
    obtain rfl : i = 29 := by omega
    exact br_t (nI_le (a := 31) (by omega) (by omega)) H
  | succ d ih =>
    intro i hi
    have h : ¬ (31 : Int32) ≤ nI (i + 2) := nI_ge (b := 31) (by omega) (by omega)
    have K := ih (i + 1) (by omega)
    refine br_f h ⟨vp_in_nI (by omega) (by omega), cv_shY0 (by omega) (fun x ex => ?_)⟩
    rw [nI_clamp (by omega)] at ex
    have ex' : x = cv_ex w am (i + 2) := ex
    rw [ex']
    by_cases e : cv_ex w am (i + 2) ≤ cv_mx (cv_cf1 w am) i
    · refine br_t e (fun b eb => ?_)
      rw [cv_mxT (f := cv_cf1 w am) e] at K
      rw [eb, nI_1]
      exact K
    · refine br_f e (fun b eb => ?_)
      rw [cv_mxF (f := cv_cf1 w am) e] at K
      rw [eb, nI_1]
      exact K
theorem cv_cpX0 {post : Int32 → Prop} {w am bt : Nat → Int32} (H : post (cv_mx (cv_cf1 w am) 29)) : wpX_complaint post (w, am, bt) := by
  unfold wpX_complaint
  dsimp only
  exact cv_exX0 (c := 1) (by omega) ⟨30, cv_cpX H 29 0 rfl⟩
theorem cv_cpY0 {post : Int32 → Prop} {w mv pt am : Nat → Int32} (H : post (cv_mx (cv_cf1 w am) 29)) : wpY_complaint post (w, mv, pt, am) := by
  unfold wpY_complaint
  dsimp only
  refine cv_shY0 (c := 1) (by omega) (fun x ex => ⟨30, ?_⟩)
  have ex' : x = cv_mx (cv_cf1 w am) 0 := ex
  rw [ex']
  exact cv_cpY H 29 0 rfl
theorem i_vc_complaint {k : Nat} {u : SX} {v : SY} (I : i_Rel k u v) (hk : k + 3 ≤ 1536) : wpX_complaint (fun r => wpY_complaint (fun r' => r' = r ∧ i_Rel (k + 3) u v) v) u := by
  obtain ⟨w, am, bt, mv, pt, rfl, rfl, hg⟩ := I
  exact cv_cpX0 (cv_cpY0 ⟨rfl, cv_rel hg⟩)
theorem cv_icX {post : Int32 → Prop} {w am bt : Nat → Int32} (H1 : (∀ i, i ≤ 29 → cv_cf1 w am i ≤ 0) → post 1) (H0 : ¬ (∀ i, i ≤ 29 → cv_cf1 w am i ≤ 0) → post 0) : ∀ d i, i + d = 30 → (∀ j, j < i → cv_cf1 w am j ≤ 0) → wX_inCore_13 post w am bt (d + 1) (nI (i + 1)) := by
  intro d
  induction d with
  | zero =>
    intro i hi hj
    obtain rfl : i = 30 := by omega
    exact br_t (nI_le (a := 31) (by omega) (by omega)) (H1 (fun j h => hj j (by omega)))
  | succ d ih =>
    intro i hi hj
    have h : ¬ (31 : Int32) ≤ nI (i + 1) := nI_ge (b := 31) (by omega) (by omega)
    refine br_f h (cv_exX0 (by omega) ?_)
    by_cases e : cv_ex w am (i + 1) ≤ 0
    · refine br_t e (fun b eb => ?_)
      rw [eb, nI_1]
      refine ih (i + 1) (by omega) (fun j h => ?_)
      by_cases e2 : j = i
      · subst e2
        exact e
      · exact hj j (by omega)
    · exact br_f e (H0 (fun z => e (z i (by omega))))
theorem i_vc_inCore {k : Nat} {u : SX} {v : SY} (I : i_Rel k u v) (hk : k + 3 ≤ 1536) : wpX_inCore (fun r => wpY_inCore (fun r' => r' = r ∧ i_Rel (k + 3) u v) v) u := by
  obtain ⟨w, am, bt, mv, pt, rfl, rfl, hg⟩ := I
  have R : i_Rel (k + 3) (w, am, bt) (w, mv, pt, am) := cv_rel hg
  unfold wpX_inCore wpY_inCore
  dsimp only
  refine cv_exX0 (c := 31) (by omega) ?_
  by_cases hA : w 31 = cv_sh am 31 5
  · have h0 : cv_ex w am 31 = 0 := by
      unfold cv_ex
      rw [hA, Int32.sub_self]
    refine br_t h0 ⟨31, cv_icX (fun h => ?_) (fun h => ?_) 30 0 rfl (fun j z => by omega)⟩
    · refine cv_shY0 (c := 31) (by omega) (br_t hA (cv_cpY0 (br_f ?_ ⟨rfl, R⟩)))
      exact Int32.not_lt.mpr ((cv_mx0 29).mpr h)
    · refine cv_shY0 (c := 31) (by omega) (br_t hA (cv_cpY0 (br_t ?_ ⟨rfl, R⟩)))
      exact Int32.not_le.mp (fun z => h ((cv_mx0 29).mp z))
  · have h0 : ¬ cv_ex w am 31 = 0 := by
      intro z
      unfold cv_ex at z
      exact hA (by grind)
    exact br_f h0 (cv_shY0 (c := 31) (by omega) (br_f hA ⟨rfl, R⟩))
end
section
/-! ===== 07: convex, superadditive, alike ===== -/
def cv_C (w : Nat → Int32) (s t : Nat) : Prop := w s + w t ≤ w (s ||| t) + w (s &&& t)
theorem cv_cxX1 {post : Int32 → Prop} {J : Int32 → Prop} {w am bt : Nat → Int32} {s : Nat} (hs : s < 32) (H1 : (∀ t, t < 32 → cv_C w s t) → J (nI (s + 1))) (H0 : ¬ (∀ t, t < 32 → cv_C w s t) → post 0) : ∀ d t, t + d = 32 → (∀ j, j < t → cv_C w s j) → wX_convex_10 post J (nI s) w am bt (d + 1) (nI t) := by
  intro d
  induction d with
  | zero =>
    intro t ht hj
    obtain rfl : t = 32 := by omega
    refine br_t (nI_le (a := 32) (by omega) (by omega)) (fun b eb => ?_)
    rw [eb, nI_1]
    exact H1 hj
  | succ d ih =>
    intro t ht hj
    have h : ¬ (32 : Int32) ≤ nI t := nI_ge (b := 32) (by omega) (by omega)
    have ht' : t < 32 := by omega
    have to := ct_or s hs t ht'
    have ta := ct_and s hs t ht'
    refine br_f h ?_
    rw [to.1, ta.1]
    refine ⟨vp_in_nI to.2 (by omega), vp_in_nI ta.2 (by omega), vp_in_nI hs (by omega), vp_in_nI ht' (by omega), ?_⟩
    rw [nI_clamp (ct_lt32 to.2), nI_clamp (ct_lt32 ta.2), nI_clamp (ct_lt32 hs), nI_clamp (ct_lt32 ht')]
    by_cases e : w s + w t ≤ w (s ||| t) + w (s &&& t)
    · refine br_t e (fun b eb => ?_)
      rw [eb, nI_1]
      refine ih (t + 1) (by omega) (fun j h => ?_)
      by_cases e2 : j = t
      · subst e2
        exact e
      · exact hj j (by omega)
    · exact br_f e (H0 (fun z => e (z t ht')))
theorem cv_cxX {post : Int32 → Prop} {w am bt : Nat → Int32} (H1 : (∀ s, s < 32 → ∀ t, t < 32 → cv_C w s t) → post 1) (H0 : ¬ (∀ s, s < 32 → ∀ t, t < 32 → cv_C w s t) → post 0) : ∀ d s, s + d = 32 → (∀ j, j < s → ∀ t, t < 32 → cv_C w j t) → wX_convex_2 post w am bt (d + 1) (nI s) := by
  intro d
  induction d with
  | zero =>
    intro s hs hj
    obtain rfl : s = 32 := by omega
    exact br_t (nI_le (a := 32) (by omega) (by omega)) (H1 hj)
  | succ d ih =>
    intro s hs hj
    have h : ¬ (32 : Int32) ≤ nI s := nI_ge (b := 32) (by omega) (by omega)
    refine br_f h ⟨33, cv_cxX1 (by omega) (fun z => ?_) (fun z => H0 (fun y => z (y s (by omega)))) 32 0 rfl (fun j y => by omega)⟩
    refine ih (s + 1) (by omega) (fun j hjs => ?_)
    by_cases e : j = s
    · subst e
      exact z
    · exact hj j (by omega)
theorem cv_cxY {post : Int32 → Prop} {w mv pt am : Nat → Int32} (H1 : (∀ k, k < 1024 → cv_C w (k / 32) (k % 32)) → post 1) (H0 : ¬ (∀ k, k < 1024 → cv_C w (k / 32) (k % 32)) → post 0) : ∀ d k, k + d = 1024 → (∀ j, j < k → cv_C w (j / 32) (j % 32)) → wY_convex_2 post w mv pt am (d + 1) (nI k) := by
  intro d
  induction d with
  | zero =>
    intro k hk hj
    obtain rfl : k = 1024 := by omega
    exact br_t (nI_le (a := 1024) (by omega) (by omega)) (H1 hj)
  | succ d ih =>
    intro k hk hj
    have h : ¬ (1024 : Int32) ≤ nI k := nI_ge (b := 1024) (by omega) (by omega)
    have hs : k / 32 < 32 := by omega
    have ht : k % 32 < 32 := by omega
    have to := ct_or (k / 32) hs (k % 32) ht
    have ta := ct_and (k / 32) hs (k % 32) ht
    have n0 : ¬ (32 : Int32) = 0 := by decide
    have ed : nI k / 32 = nI (k / 32) := pk_div (a := k) (d := 32) (by omega) (by omega) (by omega)
    have er : nI k - nI k / 32 * 32 = nI (k % 32) := pk_rem (a := k) (d := 32) (by omega) (by omega) (by omega)
    refine br_f h ⟨n0, nm_r ed ⟨n0, nm_r er ?_⟩⟩
    rw [to.1, ta.1]
    refine ⟨vp_in_nI to.2 (by omega), vp_in_nI ta.2 (by omega), vp_in_nI hs (by omega), vp_in_nI ht (by omega), ?_⟩
    rw [nI_clamp (ct_lt32 to.2), nI_clamp (ct_lt32 ta.2), nI_clamp (ct_lt32 hs), nI_clamp (ct_lt32 ht)]
    by_cases e : w (k / 32) + w (k % 32) ≤ w (k / 32 ||| k % 32) + w (k / 32 &&& k % 32)
    · refine br_t e (fun b eb => ?_)
      rw [eb, nI_1]
      refine ih (k + 1) (by omega) (fun j h => ?_)
      by_cases e2 : j = k
      · subst e2
        exact e
      · exact hj j (by omega)
    · exact br_f e (H0 (fun z => e (z k (by omega))))
/-- all pairs, in a row or in a square -/
theorem cv_sq {C : Nat → Nat → Prop} : (∀ k, k < 1024 → C (k / 32) (k % 32)) ↔ (∀ s, s < 32 → ∀ t, t < 32 → C s t) := by
  constructor
  · intro h s hs t ht
    have := h (32 * s + t) (by omega)
    rw [show (32 * s + t) / 32 = s from by omega, show (32 * s + t) % 32 = t from by omega] at this
    exact this
  · intro h k hk
    exact h (k / 32) (by omega) (k % 32) (by omega)
theorem i_vc_convex {k : Nat} {u : SX} {v : SY} (I : i_Rel k u v) (hk : k + 3 ≤ 1536) : wpX_convex (fun r => wpY_convex (fun r' => r' = r ∧ i_Rel (k + 3) u v) v) u := by
  obtain ⟨w, am, bt, mv, pt, rfl, rfl, hg⟩ := I
  have R : i_Rel (k + 3) (w, am, bt) (w, mv, pt, am) := cv_rel hg
  unfold wpX_convex wpY_convex
  dsimp only
  refine ⟨33, cv_cxX (fun h => ?_) (fun h => ?_) 32 0 rfl (fun j y => by omega)⟩
  · exact ⟨1025, cv_cxY (fun _ => ⟨rfl, R⟩) (fun z => absurd (cv_sq.mpr h) z) 1024 0 rfl (fun j y => by omega)⟩
  · exact ⟨1025, cv_cxY (fun z => absurd (cv_sq.mp z) h) (fun _ => ⟨rfl, R⟩) 1024 0 rfl (fun j y => by omega)⟩
/-! superadditive -/
def cv_D (w : Nat → Int32) (s t : Nat) : Prop := s &&& t = 0 → w s + w t ≤ w (s ||| t)
theorem cv_saX1 {post : Int32 → Prop} {J : Int32 → Prop} {w am bt : Nat → Int32} {s : Nat} (hs : s < 32) (H1 : (∀ t, t < 32 → cv_D w s t) → J (nI (s + 1))) (H0 : ¬ (∀ t, t < 32 → cv_D w s t) → post 0) : ∀ d t, t + d = 32 → (∀ j, j < t → cv_D w s j) → wX_superadditive_10 post J (nI s) w am bt (d + 1) (nI t) := by
  intro d
  induction d with
  | zero =>
    intro t ht hj
    obtain rfl : t = 32 := by omega
    refine br_t (nI_le (a := 32) (by omega) (by omega)) (fun b eb => ?_)
    rw [eb, nI_1]
    exact H1 hj
  | succ d ih =>
    intro t ht hj
    have h : ¬ (32 : Int32) ≤ nI t := nI_ge (b := 32) (by omega) (by omega)
    have ht' : t < 32 := by omega
    have to := ct_or s hs t ht'
    have ta := ct_and s hs t ht'
    have K : cv_D w s t → wX_superadditive_10 post J (nI s) w am bt (d + 1) (nI (t + 1)) := fun hd => ih (t + 1) (by omega) (fun j h => by
      by_cases e2 : j = t
      · subst e2
        exact hd
      · exact hj j (by omega))
    refine br_f h ?_
    rw [to.1, ta.1]
    by_cases z : s &&& t = 0
    · refine br_t (by rw [z]; rfl) ?_
      refine ⟨vp_in_nI to.2 (by omega), vp_in_nI hs (by omega), vp_in_nI ht' (by omega), ?_⟩
      rw [nI_clamp (ct_lt32 to.2), nI_clamp (ct_lt32 hs), nI_clamp (ct_lt32 ht')]
      by_cases e : w s + w t ≤ w (s ||| t)
      · refine br_t e (fun b eb => ?_)
        rw [eb, nI_1]
        exact K (fun _ => e)
      · exact br_f e (H0 (fun y => e (y t ht' z)))
    · refine br_f (nI_ne0 (by omega) (ct_lt32 ta.2)) (fun b eb => ?_)
      rw [eb, nI_1]
      exact K (fun y => absurd y z)
theorem cv_saX {post : Int32 → Prop} {w am bt : Nat → Int32} (H1 : (∀ s, s < 32 → ∀ t, t < 32 → cv_D w s t) → post 1) (H0 : ¬ (∀ s, s < 32 → ∀ t, t < 32 → cv_D w s t) → post 0) : ∀ d s, s + d = 32 → (∀ j, j < s → ∀ t, t < 32 → cv_D w j t) → wX_superadditive_2 post w am bt (d + 1) (nI s) := by
  intro d
  induction d with
  | zero =>
    intro s hs hj
    obtain rfl : s = 32 := by omega
    exact br_t (nI_le (a := 32) (by omega) (by omega)) (H1 hj)
  | succ d ih =>
    intro s hs hj
    have h : ¬ (32 : Int32) ≤ nI s := nI_ge (b := 32) (by omega) (by omega)
    refine br_f h ⟨33, cv_saX1 (by omega) (fun z => ?_) (fun z => H0 (fun y => z (y s (by omega)))) 32 0 rfl (fun j y => by omega)⟩
    refine ih (s + 1) (by omega) (fun j hjs => ?_)
    by_cases e : j = s
    · subst e
      exact z
    · exact hj j (by omega)
theorem cv_saY {post : Int32 → Prop} {w mv pt am : Nat → Int32} (H1 : (∀ k, k < 1024 → cv_D w (k / 32) (k % 32)) → post 1) (H0 : ¬ (∀ k, k < 1024 → cv_D w (k / 32) (k % 32)) → post 0) : ∀ d k, k + d = 1024 → (∀ j, j < k → cv_D w (j / 32) (j % 32)) → wY_superadditive_2 post w mv pt am (d + 1) (nI k) := by
  intro d
  induction d with
  | zero =>
    intro k hk hj
    obtain rfl : k = 1024 := by omega
    exact br_t (nI_le (a := 1024) (by omega) (by omega)) (H1 hj)
  | succ d ih =>
    intro k hk hj
    have h : ¬ (1024 : Int32) ≤ nI k := nI_ge (b := 1024) (by omega) (by omega)
    have hs : k / 32 < 32 := by omega
    have ht : k % 32 < 32 := by omega
    have to := ct_or (k / 32) hs (k % 32) ht
    have ta := ct_and (k / 32) hs (k % 32) ht
    have n0 : ¬ (32 : Int32) = 0 := by decide
    have ed : nI k / 32 = nI (k / 32) := pk_div (a := k) (d := 32) (by omega) (by omega) (by omega)
    have er : nI k - nI k / 32 * 32 = nI (k % 32) := pk_rem (a := k) (d := 32) (by omega) (by omega) (by omega)
    have K : cv_D w (k / 32) (k % 32) → wY_superadditive_2 post w mv pt am (d + 1) (nI (k + 1)) := fun hd => ih (k + 1) (by omega) (fun j h => by
      by_cases e2 : j = k
      · subst e2
        exact hd
      · exact hj j (by omega))
    refine br_f h ⟨n0, nm_r ed ⟨n0, nm_r er ?_⟩⟩
    rw [to.1, ta.1]
    by_cases z : k / 32 &&& k % 32 = 0
    · refine br_t (by rw [z]; rfl) ?_
      refine ⟨vp_in_nI to.2 (by omega), vp_in_nI hs (by omega), vp_in_nI ht (by omega), ?_⟩
      rw [nI_clamp (ct_lt32 to.2), nI_clamp (ct_lt32 hs), nI_clamp (ct_lt32 ht)]
      by_cases e : w (k / 32) + w (k % 32) ≤ w (k / 32 ||| k % 32)
      · refine br_t e (fun b eb => ?_)
        rw [eb, nI_1]
        exact K (fun _ => e)
      · exact br_f e (H0 (fun y => e (y k (by omega) z)))
    · refine br_f (nI_ne0 (by omega) (ct_lt32 ta.2)) (fun b eb => ?_)
      rw [eb, nI_1]
      exact K (fun y => absurd y z)
theorem i_vc_superadditive {k : Nat} {u : SX} {v : SY} (I : i_Rel k u v) (hk : k + 3 ≤ 1536) : wpX_superadditive (fun r => wpY_superadditive (fun r' => r' = r ∧ i_Rel (k + 3) u v) v) u := by
  obtain ⟨w, am, bt, mv, pt, rfl, rfl, hg⟩ := I
  have R : i_Rel (k + 3) (w, am, bt) (w, mv, pt, am) := cv_rel hg
  unfold wpX_superadditive wpY_superadditive
  dsimp only
  refine ⟨33, cv_saX (fun h => ?_) (fun h => ?_) 32 0 rfl (fun j y => by omega)⟩
  · exact ⟨1025, cv_saY (fun _ => ⟨rfl, R⟩) (fun z => absurd (cv_sq.mpr h) z) 1024 0 rfl (fun j y => by omega)⟩
  · exact ⟨1025, cv_saY (fun z => absurd (cv_sq.mp z) h) (fun _ => ⟨rfl, R⟩) 1024 0 rfl (fun j y => by omega)⟩
/-! alike -/
theorem cv_al {w am bt mv pt : Nat → Int32} {a b : Nat} (ha : a < 5) (hb : b < 5) : ∀ d c, c + d = 32 → ∃ r : Int32, (∀ post : Int32 → Prop, post r → wX_alike_18 post (nI a) (nI b) w am bt (d + 1) (nI c)) ∧ (∀ post : Int32 → Prop, post r → wY_alike_20 post (nI a) (nI b) w mv pt am (d + 1) (nI c)) := by
  intro d
  induction d with
  | zero =>
    intro c hc
    have h : (32 : Int32) ≤ nI c := nI_le (a := 32) (by omega) (by omega)
    exact ⟨1, fun _ hp => br_t h hp, fun _ hp => br_t h hp⟩
  | succ d ih =>
    intro c hc
    have h : ¬ (32 : Int32) ≤ nI c := nI_ge (b := 32) (by omega) (by omega)
    have hc' : c < 32 := by omega
    obtain ⟨r, hX, hY⟩ := ih (c + 1) (by omega)
    by_cases h1 : c.testBit a = true
    · refine ⟨r, fun post hp => br_f h (cv_hasT hc' ha h1 ?_), fun post hp => br_f h (cv_bT hc' ha h1 ?_)⟩
      · unfold wX_alike_44 wX_alike_45
        refine br_t rfl (fun y ey => ?_)
        rw [ey, nI_1]
        exact hX post hp
      · unfold wY_alike_46 wY_alike_47
        refine br_t rfl (fun y ey => ?_)
        rw [ey, nI_1]
        exact hY post hp
    · by_cases h2 : c.testBit b = true
      · refine ⟨r, fun post hp => br_f h (cv_hasF hc' ha h1 (cv_hasT hc' hb h2 ?_)), fun post hp => br_f h (cv_bF hc' ha h1 (cv_bT hc' hb h2 ?_))⟩
        · unfold wX_alike_44 wX_alike_45
          refine br_t rfl (fun y ey => ?_)
          rw [ey, nI_1]
          exact hX post hp
        · unfold wY_alike_46 wY_alike_47
          refine br_t rfl (fun y ey => ?_)
          rw [ey, nI_1]
          exact hY post hp
      · have ta := ct_bit c hc' a ha
        have tb := ct_bit c hc' b hb
        by_cases e : w (c ||| 2 ^ a) = w (c ||| 2 ^ b)
        · refine ⟨r, fun post hp => br_f h (cv_hasF hc' ha h1 (cv_hasF hc' hb h2 ?_)), fun post hp => br_f h (cv_bF hc' ha h1 (cv_bF hc' hb h2 ?_))⟩
          · unfold wX_alike_45
            refine br_f (by decide) (cv_mar hc' ha (cv_mar hc' hb (br_t (by rw [e]) (fun y ey => ?_))))
            rw [ey, nI_1]
            exact hX post hp
          · unfold wY_alike_47
            refine br_f (by decide) ?_
            rw [ta.1, tb.1]
            refine ⟨vp_in_nI ta.2 (by omega), vp_in_nI tb.2 (by omega), ?_⟩
            rw [nI_clamp (ct_lt32 ta.2), nI_clamp (ct_lt32 tb.2)]
            refine br_t e (fun y ey => ?_)
            rw [ey, nI_1]
            exact hY post hp
        · refine ⟨0, fun post hp => br_f h (cv_hasF hc' ha h1 (cv_hasF hc' hb h2 ?_)), fun post hp => br_f h (cv_bF hc' ha h1 (cv_bF hc' hb h2 ?_))⟩
          · unfold wX_alike_45
            have ne : ¬ (w (c ||| 2 ^ a) - w c = w (c ||| 2 ^ b) - w c) := fun z => e (by grind)
            exact br_f (by decide) (cv_mar hc' ha (cv_mar hc' hb (br_f ne hp)))
          · unfold wY_alike_47
            refine br_f (by decide) ?_
            rw [ta.1, tb.1]
            refine ⟨vp_in_nI ta.2 (by omega), vp_in_nI tb.2 (by omega), ?_⟩
            rw [nI_clamp (ct_lt32 ta.2), nI_clamp (ct_lt32 tb.2)]
            exact br_f e hp
theorem i_vc_alike {k : Nat} {u : SX} {v : SY} (I : i_Rel k u v) (hk : k + 3 ≤ 1536) (v1 : Int32) (v2 : Int32) : wpX_alike (fun r => wpY_alike (fun r' => r' = r ∧ i_Rel (k + 3) u v) v v1 v2) u v1 v2 := by
  obtain ⟨w, am, bt, mv, pt, rfl, rfl, hg⟩ := I
  have R : i_Rel (k + 3) (w, am, bt) (w, mv, pt, am) := cv_rel hg
  unfold wpX_alike wpY_alike
  dsimp only
  rcases cv_pl v1 with ⟨hX, hY⟩ | ⟨a, ha, rfl, hX, hY⟩
  · exact hX _ (br_t rfl (hY _ _ (br_t rfl ⟨rfl, R⟩)))
  · refine hX _ (br_f (by decide) ?_)
    rcases cv_pl v2 with ⟨hX2, hY2⟩ | ⟨b, hb, rfl, hX2, hY2⟩
    · exact hX2 _ (br_t rfl (hY _ _ (br_f (by decide) (hY2 _ _ (br_t rfl ⟨rfl, R⟩)))))
    · obtain ⟨r, kX, kY⟩ := cv_al (w := w) (am := am) (bt := bt) (mv := mv) (pt := pt) ha hb 32 0 rfl
      exact hX2 _ (br_f (by decide) ⟨33, kX _ (hY _ _ (br_f (by decide) (hY2 _ _ (br_f (by decide) ⟨33, kY _ ⟨rfl, R⟩⟩))))⟩)
end
section
/-! ===== 08: bestSplit: X's best totals by parts, Y's greatest over all 3125 ways into rooms ===== -/
theorem cv_addI {a b : Int32} (ha : -100000 ≤ a.toInt ∧ a.toInt ≤ 100000) (hb : -100000 ≤ b.toInt ∧ b.toInt ≤ 100000) : (a + b).toInt = a.toInt + b.toInt := by
  rw [Int32.toInt_add]
  exact Int.bmod_eq_of_le (by omega) (by omega)
theorem ct_part : ∀ c, c < 32 → ∀ p, p < c → 1 ≤ p → p &&& c = p → c ^^^ p < c ∧ 1 ≤ c ^^^ p ∧ p + (c ^^^ p) = c := by decide +kernel
theorem ct_dis : ∀ s, s < 32 → ∀ t, t < 32 → s &&& t = 0 → s ||| t < 32 ∧ s &&& (s ||| t) = s ∧ (s ||| t) ^^^ s = t ∧ s ||| t = s + t := by decide +kernel
/-! X -/
def cv_In (w bt : Nat → Int32) (c t : Nat) (V : Int32) : Prop := w c ≤ V ∧ (∀ p, 1 ≤ p → p < t → p &&& c = p → bt p + bt (c ^^^ p) ≤ V) ∧ (V = w c ∨ ∃ p, 1 ≤ p ∧ p < t ∧ p &&& c = p ∧ V = bt p + bt (c ^^^ p))
theorem cv_btX {post : Int32 → Prop} {w am bt : Nat → Int32} {c : Nat} (hc : c < 32) (H : ∀ V, cv_In w bt c c V → post V) : ∀ d t V, t + d = c → 1 ≤ t → cv_In w bt c t V → wX_bestTotalFromParts_9 post (nI c) w am bt (d + 1) V (nI t) := by
  intro d
  induction d with
  | zero =>
    intro t V ht h1 hV
    obtain rfl : t = c := by omega
    exact br_t (nI_le (Nat.le_refl _) (by omega)) (H V hV)
  | succ d ih =>
    intro t V ht h1 hV
    have h : ¬ nI c ≤ nI t := nI_ge (by omega) (by omega)
    have ht' : t < 32 := by omega
    have ta := ct_and t ht' c hc
    have tx := ct_xor c hc t ht'
    obtain ⟨v1, v2, v3⟩ := hV
    refine br_f h ?_
    rw [ta.1]
    by_cases hs : t &&& c = t
    · rw [hs]
      refine br_t rfl ?_
      rw [tx.1]
      refine ⟨vp_in_nI ht' (by omega), vp_in_nI tx.2 (by omega), fun x ex => ?_⟩
      rw [nI_clamp (ct_lt32 ht'), nI_clamp (ct_lt32 tx.2)] at ex
      subst ex
      by_cases e : bt t + bt (c ^^^ t) ≤ V
      · refine br_t e (fun b eb => ?_)
        rw [eb, nI_1]
        refine ih (t + 1) V (by omega) (by omega) ⟨v1, fun p p1 p2 p3 => ?_, ?_⟩
        · by_cases e2 : p = t
          · subst e2
            exact e
          · exact v2 p p1 (by omega) p3
        · rcases v3 with v3 | ⟨p, p1, p2, p3, p4⟩
          · exact Or.inl v3
          · exact Or.inr ⟨p, p1, by omega, p3, p4⟩
      · have lt := Int32.le_of_lt (Int32.not_le.mp e)
        refine br_f e (fun b eb => ?_)
        rw [eb, nI_1]
        refine ih (t + 1) _ (by omega) (by omega) ⟨Int32.le_trans v1 lt, fun p p1 p2 p3 => ?_, Or.inr ⟨t, h1, by omega, hs, rfl⟩⟩
        by_cases e2 : p = t
        · subst e2
          exact Int32.le_refl _
        · exact Int32.le_trans (v2 p p1 (by omega) p3) lt
    · have ne : ¬ nI (t &&& c) = nI t := fun z => hs ((nI_eq (ct_lt32 ta.2) (ct_lt32 ht')).mp z)
      refine br_f ne (fun b eb => ?_)
      rw [eb, nI_1]
      refine ih (t + 1) V (by omega) (by omega) ⟨v1, fun p p1 p2 p3 => ?_, ?_⟩
      · by_cases e2 : p = t
        · subst e2
          exact absurd p3 hs
        · exact v2 p p1 (by omega) p3
      · rcases v3 with v3 | ⟨p, p1, p2, p3, p4⟩
        · exact Or.inl v3
        · exact Or.inr ⟨p, p1, by omega, p3, p4⟩
theorem cv_btX0 {post : Int32 → Prop} {w am bt : Nat → Int32} {c : Nat} (hc : c < 32) (h1 : 1 ≤ c) (H : ∀ V, cv_In w bt c c V → post V) : wpX_bestTotalFromParts post (w, am, bt) (nI c) := by
  unfold wpX_bestTotalFromParts
  dsimp only
  refine ⟨vp_in_nI hc (by omega), fun x ex => ⟨(c - 1) + 1, ?_⟩⟩
  rw [nI_clamp (ct_lt32 hc)] at ex
  subst ex
  exact cv_btX hc H (c - 1) 1 (w c) (by omega) (by omega) ⟨Int32.le_refl _, fun p p1 p2 _ => by omega, Or.inl rfl⟩
/-- best totals that stand -/
def cv_Sp (w bt : Nat → Int32) (c : Nat) : Prop := cv_In w bt c c (bt c)
theorem cv_inU {w bt : Nat → Int32} {c j : Nat} {x V : Int32} (hj : j ≤ c) (hc : c < 32) (h : cv_In w bt j j V) : cv_In w (upd bt c x) j j V := by
  have E : ∀ p, 1 ≤ p → p < j → p &&& j = p → upd bt c x p + upd bt c x (j ^^^ p) = bt p + bt (j ^^^ p) := by
    intro p p1 p2 p3
    have t := ct_part j (by omega) p p2 p1 p3
    rw [pk_un (by omega), pk_un (by omega)]
  refine ⟨h.1, fun p p1 p2 p3 => by rw [E p p1 p2 p3]; exact h.2.1 p p1 p2 p3, ?_⟩
  rcases h.2.2 with h3 | ⟨p, p1, p2, p3, p4⟩
  · exact Or.inl h3
  · exact Or.inr ⟨p, p1, p2, p3, by rw [E p p1 p2 p3]; exact p4⟩
theorem cv_bsX {post : Int32 → SX → Prop} {w am : Nat → Int32} (H : ∀ bt : Nat → Int32, (∀ j, 1 ≤ j → j < 32 → cv_Sp w bt j) → post (bt 31) (w, am, bt)) : ∀ d c bt, c + d = 32 → 1 ≤ c → (∀ j, 1 ≤ j → j < c → cv_Sp w bt j) → wX_bestSplit_2 post (d + 1) (nI c) w am bt := by
  intro d
  induction d with
  | zero =>
    intro c bt hc h1 hS
    obtain rfl : c = 32 := by omega
    exact br_t (nI_le (a := 32) (by omega) (by omega)) (H bt hS)
  | succ d ih =>
    intro c bt hc h1 hS
    have h : ¬ (32 : Int32) ≤ nI c := nI_ge (b := 32) (by omega) (by omega)
    have hc' : c < 32 := by omega
    refine br_f h (cv_btX0 hc' h1 (fun V hV => ⟨vp_in_nI hc' (by omega), fun f ef y ey => ?_⟩))
    rw [nI_clamp (ct_lt32 hc')] at ef
    rw [ef, ey, nI_1]
    refine ih (c + 1) _ (by omega) (by omega) (fun j j1 j2 => ?_)
    unfold cv_Sp
    by_cases e : j = c
    · subst e
      rw [pk_us]
      exact cv_inU (Nat.le_refl _) hc' hV
    · rw [pk_un e]
      exact cv_inU (by omega) hc' (hS j j1 (by omega))
/-! bounds, and sums of disjoint coalitions -/
theorem cv_wB {w : Nat → Int32} (hg : cv_Good w) (j : Nat) : -1000 ≤ (w j).toInt ∧ (w j).toInt ≤ 1000 := hg.2 j
theorem cv_btB {w bt : Nat → Int32} (hg : cv_Good w) (hS : ∀ j, 1 ≤ j → j < 32 → cv_Sp w bt j) : ∀ n j, j ≤ n → 1 ≤ j → j < 32 → -1000 ≤ (bt j).toInt ∧ (bt j).toInt ≤ 1000 * (j : Int) := by
  intro n
  induction n with
  | zero => intro j h1 h2; omega
  | succ n ih =>
    intro j hn h1 hj
    obtain ⟨s1, _, s3⟩ := hS j h1 hj
    have lo := Int32.le_iff_toInt_le.mp s1
    have wb := hg.2 j
    refine ⟨by omega, ?_⟩
    rcases s3 with s3 | ⟨p, p1, p2, p3, p4⟩
    · rw [s3]
      omega
    · have t := ct_part j hj p p2 p1 p3
      have b1 := ih p (by omega) p1 (by omega)
      have b2 := ih (j ^^^ p) (by omega) t.2.1 (by omega)
      have e : (p : Int) + ((j ^^^ p : Nat) : Int) = (j : Int) := by
        have := t.2.2
        omega
      rw [p4, cv_addI (by omega) (by omega)]
      omega
def cv_B (bt : Nat → Int32) (j : Nat) : Int := if j = 0 then 0 else (bt j).toInt
theorem cv_B0 (bt : Nat → Int32) : cv_B bt 0 = 0 := if_pos rfl
theorem cv_B1 {bt : Nat → Int32} {j : Nat} (h : 1 ≤ j) : cv_B bt j = (bt j).toInt := if_neg (by omega)
theorem cv_Bw {w bt : Nat → Int32} (hg : cv_Good w) (hS : ∀ j, 1 ≤ j → j < 32 → cv_Sp w bt j) {j : Nat} (hj : j < 32) : (w j).toInt ≤ cv_B bt j := by
  by_cases e : j = 0
  · subst e
    rw [cv_B0, hg.1]
    decide
  · rw [cv_B1 (by omega)]
    exact Int32.le_iff_toInt_le.mp (hS j (by omega) hj).1
theorem cv_Badd {w bt : Nat → Int32} (hg : cv_Good w) (hS : ∀ j, 1 ≤ j → j < 32 → cv_Sp w bt j) {s t : Nat} (hs : s < 32) (ht : t < 32) (hd : s &&& t = 0) : cv_B bt s + cv_B bt t ≤ cv_B bt (s ||| t) := by
  have D := ct_dis s hs t ht hd
  by_cases e1 : s = 0
  · subst e1
    rw [cv_B0, Nat.zero_or]
    omega
  · by_cases e2 : t = 0
    · subst e2
      rw [cv_B0, Nat.or_zero]
      omega
    · have hc : 1 ≤ s ||| t := by omega
      have q := (hS (s ||| t) hc D.1).2.1 s (by omega) (by omega) D.2.1
      rw [D.2.2.1] at q
      have q' := Int32.le_iff_toInt_le.mp q
      have b1 := cv_btB hg hS s s (Nat.le_refl _) (by omega) hs
      have b2 := cv_btB hg hS t t (Nat.le_refl _) (by omega) ht
      rw [cv_addI (by omega) (by omega)] at q'
      rw [cv_B1 (by omega), cv_B1 (by omega), cv_B1 hc]
      exact q'
/-! masks out of a question a player -/
def cv_mk (b : Nat → Bool) : Nat → Nat
  | 0 => 0
  | n + 1 => if b n = true then cv_mk b n + 2 ^ n else cv_mk b n
theorem cv_mkT {b : Nat → Bool} {n : Nat} (h : b n = true) : cv_mk b (n + 1) = cv_mk b n + 2 ^ n := if_pos h
theorem cv_mkF {b : Nat → Bool} {n : Nat} (h : ¬ b n = true) : cv_mk b (n + 1) = cv_mk b n := if_neg h
theorem cv_mkLt (b : Nat → Bool) : ∀ n, cv_mk b n < 2 ^ n := by
  intro n
  induction n with
  | zero => exact (by decide : (0 : Nat) < 2 ^ 0)
  | succ n ih =>
    have e : 2 ^ (n + 1) = 2 ^ n + 2 ^ n := by rw [Nat.pow_succ]; omega
    by_cases h : b n = true
    · rw [cv_mkT h]; omega
    · rw [cv_mkF h]; omega
theorem cv_mk32 (b : Nat → Bool) : cv_mk b 5 < 32 := cv_mkLt b 5
theorem cv_mkC {b c : Nat → Bool} {n : Nat} (h : ∀ i, i < n → b i = c i) : cv_mk b n = cv_mk c n := by
  induction n with
  | zero => rfl
  | succ n ih =>
    show (if b n = true then cv_mk b n + 2 ^ n else cv_mk b n) = (if c n = true then cv_mk c n + 2 ^ n else cv_mk c n)
    rw [ih (fun i hi => h i (by omega)), h n (by omega)]
theorem cv_mkZ {b : Nat → Bool} {n : Nat} (h : ∀ i, i < n → b i = false) : cv_mk b n = 0 := by
  induction n with
  | zero => rfl
  | succ n ih =>
    rw [cv_mkF (by rw [h n (by omega)]; decide), ih (fun i hi => h i (by omega))]
theorem ct_mkS : ∀ s, s < 32 → cv_mk (fun i => s.testBit i) 5 = s := by decide +kernel
def cv_m5 (a b c d e : Bool) : Nat := cv_mk (fun i => match i with | 0 => a | 1 => b | 2 => c | 3 => d | _ => e) 5
theorem cv_m5E (b : Nat → Bool) : cv_mk b 5 = cv_m5 (b 0) (b 1) (b 2) (b 3) (b 4) := by
  refine cv_mkC (fun i hi => ?_)
  match i, hi with
  | 0, _ => rfl
  | 1, _ => rfl
  | 2, _ => rfl
  | 3, _ => rfl
  | 4, _ => rfl
  | n + 5, h => exact absurd h (by omega)
theorem ct_m5 : ∀ a b c d e a' b' c' d' e' : Bool, cv_m5 a b c d e &&& cv_m5 a' b' c' d' e' = cv_m5 (a && a') (b && b') (c && c') (d && d') (e && e') ∧ cv_m5 a b c d e ||| cv_m5 a' b' c' d' e' = cv_m5 (a || a') (b || b') (c || c') (d || d') (e || e') := by decide +kernel
theorem cv_mkAnd (b c : Nat → Bool) : cv_mk b 5 &&& cv_mk c 5 = cv_mk (fun i => b i && c i) 5 := by
  rw [cv_m5E b, cv_m5E c, cv_m5E (fun i => b i && c i)]
  exact (ct_m5 _ _ _ _ _ _ _ _ _ _).1
theorem cv_mkOr (b c : Nat → Bool) : cv_mk b 5 ||| cv_mk c 5 = cv_mk (fun i => b i || c i) 5 := by
  rw [cv_m5E b, cv_m5E c, cv_m5E (fun i => b i || c i)]
  exact (ct_m5 _ _ _ _ _ _ _ _ _ _).2
/-! Y -/
/-- the players in room m, by the rooms' number r -/
def cv_rm (r m p : Nat) : Bool := decide (r / 5 ^ p % 5 = m)
def cv_SW (w : Nat → Int32) (r : Nat) : Int32 := cv_sum (fun m => w (cv_mk (cv_rm r m) 5)) 5
theorem cv_rmY {post : Int32 → Prop} {J : Int32 → Int32 → Prop} {x1 x2 : Int32} {w mv pt am : Nat → Int32} {r m : Nat} (hr : r < 3125) (hm : m < 5) (H : J (x2 + w (cv_mk (cv_rm r m) 5)) (nI (m + 1))) : ∀ d p, p + d = 5 → wY_splitWorth_18 post J x1 x2 (nI m) w mv pt am (d + 1) (nI (cv_mk (cv_rm r m) p)) (nI (r / 5 ^ p)) (nI p) := by
  intro d
  induction d with
  | zero =>
    intro p hp
    obtain rfl : p = 5 := by omega
    have l := cv_mk32 (cv_rm r m)
    refine br_t (nI_le (a := 5) (by omega) (by omega)) ⟨vp_in_nI l (by omega), fun a ea b eb => ?_⟩
    rw [nI_clamp (ct_lt32 l)] at ea
    rw [ea, eb, nI_1]
    exact H
  | succ d ih =>
    intro p hp
    have h : ¬ (5 : Int32) ≤ nI p := nI_ge (b := 5) (by omega) (by omega)
    have n0 : ¬ (5 : Int32) = 0 := by decide
    have hq : r / 5 ^ p < 2 ^ 31 := Nat.lt_of_le_of_lt (Nat.div_le_self _ _) (by omega)
    have ed : nI (r / 5 ^ p) / 5 = nI (r / 5 ^ (p + 1)) := by
      have := pk_div (a := r / 5 ^ p) (d := 5) hq (by omega) (by omega)
      rw [Nat.div_div_eq_div_mul, ← Nat.pow_succ] at this
      exact this
    have er : nI (r / 5 ^ p) - nI (r / 5 ^ p) / 5 * 5 = nI (r / 5 ^ p % 5) := pk_rem (a := r / 5 ^ p) (d := 5) hq (by omega) (by omega)
    have K := ih (p + 1) (by omega)
    refine br_f h ⟨n0, ?_⟩
    rw [er]
    by_cases e : r / 5 ^ p % 5 = m
    · have l := cv_mkLt (cv_rm r m) p
      have l5 : cv_mk (cv_rm r m) p < 32 := Nat.lt_of_lt_of_le l (Nat.pow_le_pow_right (by omega) (show p ≤ 5 from by omega))
      have t := ct_bit (cv_mk (cv_rm r m) p) l5 p (by omega)
      rw [ct_bitadd p (by omega) _ l, ← cv_mkT (b := cv_rm r m) (decide_eq_true e)] at t
      refine br_t (by rw [e]) (nm_r t.1 ⟨n0, nm_r ed (nm_r (nI_1 p) ?_)⟩)
      exact K
    · have ne : ¬ nI (r / 5 ^ p % 5) = nI m := fun z => e ((nI_eq (by omega) (by omega)).mp z)
      refine br_f ne ⟨n0, nm_r ed (nm_r (nI_1 p) ?_)⟩
      rw [cv_mkF (b := cv_rm r m) (by unfold cv_rm; rw [decide_eq_true_iff]; exact e)] at K
      exact K
theorem cv_SWY {post : Int32 → Prop} {w mv pt am : Nat → Int32} {r : Nat} (hr : r < 3125) (H : post (cv_SW w r)) : ∀ d m, m + d = 5 → wY_splitWorth_4 post (nI r) w mv pt am (d + 1) (cv_sum (fun m => w (cv_mk (cv_rm r m) 5)) m) (nI m) := by
  intro d
  induction d with
  | zero =>
    intro m hm
    obtain rfl : m = 5 := by omega
    exact br_t (nI_le (a := 5) (by omega) (by omega)) H
  | succ d ih =>
    intro m hm
    have h : ¬ (5 : Int32) ≤ nI m := nI_ge (b := 5) (by omega) (by omega)
    refine br_f h ⟨6, ?_⟩
    have := cv_rmY (post := post) (J := wY_splitWorth_4 post (nI r) w mv pt am (d + 1)) (x1 := nI r) (x2 := cv_sum (fun m => w (cv_mk (cv_rm r m) 5)) m) (w := w) (mv := mv) (pt := pt) (am := am) hr (m := m) (by omega) (ih (m + 1) (by omega)) 5 0 rfl
    rw [Nat.pow_zero, Nat.div_one] at this
    exact this
theorem cv_SWY0 {post : Int32 → Prop} {w mv pt am : Nat → Int32} {r : Nat} (hr : r < 3125) (H : post (cv_SW w r)) : wpY_splitWorth post (w, mv, pt, am) (nI r) := ⟨6, cv_SWY hr H 5 0 rfl⟩
theorem cv_bsY {post : Int32 → Prop} {w mv pt am : Nat → Int32} (H : ∀ V, (∀ r, r < 3125 → cv_SW w r ≤ V) → (∃ r, r < 3125 ∧ cv_SW w r = V) → post V) : ∀ d r V, r + d = 3125 → (∀ i, i < r → cv_SW w i ≤ V) → (∃ i, i < r ∧ cv_SW w i = V) → wY_bestSplit_8 post w mv pt am (d + 1) V (nI r) := by
  intro d
  induction d with
  | zero =>
    intro r V hr h1 h2
    obtain rfl : r = 3125 := by omega
    exact br_t (nI_le (a := 3125) (by omega) (by omega)) (H V h1 h2)
  | succ d ih =>
    intro r V hr h1 h2
    have h : ¬ (3125 : Int32) ≤ nI r := nI_ge (b := 3125) (by omega) (by omega)
    refine br_f h (cv_SWY0 (by omega) ?_)
    by_cases e : cv_SW w r ≤ V
    · refine br_t e (fun b eb => ?_)
      rw [eb, nI_1]
      refine ih (r + 1) V (by omega) (fun i hi => ?_) ?_
      · by_cases e2 : i = r
        · subst e2
          exact e
        · exact h1 i (by omega)
      · obtain ⟨i, hi, q⟩ := h2
        exact ⟨i, by omega, q⟩
    · have lt := Int32.le_of_lt (Int32.not_le.mp e)
      refine br_f e (fun b eb => ?_)
      rw [eb, nI_1]
      refine ih (r + 1) _ (by omega) (fun i hi => ?_) ⟨r, by omega, rfl⟩
      by_cases e2 : i = r
      · subst e2
        exact Int32.le_refl _
      · exact Int32.le_trans (h1 i (by omega)) lt
/-! Y is not above X -/
theorem cv_up {w bt : Nat → Int32} (hg : cv_Good w) (hS : ∀ j, 1 ≤ j → j < 32 → cv_Sp w bt j) (r : Nat) : ∀ n, n ≤ 5 → (cv_sum (fun m => w (cv_mk (cv_rm r m) 5)) n).toInt ≤ cv_B bt (cv_mk (fun p => decide (r / 5 ^ p % 5 < n)) 5) ∧ -(1000 * (n : Int)) ≤ (cv_sum (fun m => w (cv_mk (cv_rm r m) 5)) n).toInt ∧ (cv_sum (fun m => w (cv_mk (cv_rm r m) 5)) n).toInt ≤ 1000 * (n : Int) := by
  intro n
  induction n with
  | zero =>
    intro _
    rw [cv_mkZ (b := fun p => decide (r / 5 ^ p % 5 < 0)) (fun i _ => decide_eq_false (by omega)), cv_B0]
    have : (cv_sum (fun m => w (cv_mk (cv_rm r m) 5)) 0).toInt = 0 := by
      show (0 : Int32).toInt = 0
      decide
    rw [this]
    exact ⟨by omega, by omega, by omega⟩
  | succ n ih =>
    intro hn
    obtain ⟨i1, i2, i3⟩ := ih (by omega)
    have wb := hg.2 (cv_mk (cv_rm r n) 5)
    have ww := cv_Bw hg hS (cv_mk32 (cv_rm r n))
    have add := cv_Badd hg hS (cv_mk32 (fun p => decide (r / 5 ^ p % 5 < n))) (cv_mk32 (cv_rm r n)) (by
      rw [cv_mkAnd]
      refine cv_mkZ (fun i _ => ?_)
      unfold cv_rm
      by_cases e : r / 5 ^ i % 5 = n
      · rw [decide_eq_false (by omega)]; rfl
      · rw [decide_eq_false e, Bool.and_false])
    rw [cv_mkOr] at add
    rw [cv_mkC (b := fun i => decide (r / 5 ^ i % 5 < n) || cv_rm r n i) (c := fun p => decide (r / 5 ^ p % 5 < n + 1)) (fun i _ => by
      unfold cv_rm
      show (decide (r / 5 ^ i % 5 < n) || decide (r / 5 ^ i % 5 = n)) = decide (r / 5 ^ i % 5 < n + 1)
      by_cases e : r / 5 ^ i % 5 = n
      · rw [decide_eq_true e, Bool.or_true, decide_eq_true (by omega)]
      · rw [decide_eq_false e, Bool.or_false]
        by_cases e2 : r / 5 ^ i % 5 < n
        · rw [decide_eq_true e2, decide_eq_true (by omega)]
        · rw [decide_eq_false e2, decide_eq_false (by omega)])] at add
    have es : (cv_sum (fun m => w (cv_mk (cv_rm r m) 5)) (n + 1)).toInt = (cv_sum (fun m => w (cv_mk (cv_rm r m) 5)) n).toInt + (w (cv_mk (cv_rm r n) 5)).toInt := cv_addI (a := cv_sum (fun m => w (cv_mk (cv_rm r m) 5)) n) (b := w (cv_mk (cv_rm r n) 5)) (by omega) (by omega)
    rw [es]
    exact ⟨by omega, by omega, by omega⟩
theorem cv_upper {w bt : Nat → Int32} (hg : cv_Good w) (hS : ∀ j, 1 ≤ j → j < 32 → cv_Sp w bt j) (r : Nat) : cv_SW w r ≤ bt 31 := by
  have h := (cv_up hg hS r 5 (Nat.le_refl _)).1
  rw [show cv_mk (fun p => decide (r / 5 ^ p % 5 < 5)) 5 = 31 from by
    rw [cv_mkC (c := fun _ => true) (fun i _ => decide_eq_true (by omega))]
    decide, cv_B1 (by omega)] at h
  exact Int32.le_iff_toInt_le.mpr h
/-! X is reached by Y: a room is named by a player in it -/
def cv_MM (g : Nat → Nat) (s m p : Nat) : Bool := s.testBit p && decide (g p = m)
theorem cv_low : ∀ s, s < 32 → 1 ≤ s → ∃ m, m < 5 ∧ s.testBit m = true := by decide +kernel
theorem cv_reach {w bt : Nat → Int32} (hg : cv_Good w) (hS : ∀ j, 1 ≤ j → j < 32 → cv_Sp w bt j) : ∀ n s, s ≤ n → 1 ≤ s → s < 32 → ∃ g : Nat → Nat, (∀ p, p < 5 → s.testBit p = true → g p < 5 ∧ s.testBit (g p) = true) ∧ bt s = cv_sum (fun m => w (cv_mk (cv_MM g s m) 5)) 5 := by
  intro n
  induction n with
  | zero => intro s h1 h2; omega
  | succ n ih =>
    intro s hn h1 hs
    obtain ⟨_, _, s3⟩ := hS s h1 hs
    rcases s3 with s3 | ⟨p, p1, p2, p3, p4⟩
    · obtain ⟨m0, hm, hb⟩ := cv_low s hs h1
      refine ⟨fun _ => m0, fun p _ _ => ⟨hm, hb⟩, ?_⟩
      rw [s3]
      have q := cv_sum_single (f := fun m => w (cv_mk (cv_MM (fun _ => m0) s m) 5)) hm (fun i _ hi => by
        show w (cv_mk (cv_MM (fun _ => m0) s i) 5) = 0
        rw [cv_mkZ (fun p _ => by
          unfold cv_MM
          rw [decide_eq_false (fun z => hi z.symm), Bool.and_false])]
        exact hg.1)
      rw [q]
      show w s = w (cv_mk (cv_MM (fun _ => m0) s m0) 5)
      rw [cv_mkC (c := fun i => s.testBit i) (fun i _ => by
        unfold cv_MM
        rw [decide_eq_true rfl, Bool.and_true]), ct_mkS s hs]
    · have t := ct_part s hs p p2 p1 p3
      obtain ⟨g1, a1, b1⟩ := ih p (by omega) p1 (by omega)
      obtain ⟨g2, a2, b2⟩ := ih (s ^^^ p) (by omega) t.2.1 (by omega)
      have bp : ∀ i, (p.testBit i && s.testBit i) = p.testBit i := by
        intro i
        rw [← Nat.testBit_and, p3]
      have bq : ∀ i, (s ^^^ p).testBit i = (s.testBit i ^^ p.testBit i) := fun i => Nat.testBit_xor ..
      refine ⟨fun i => if p.testBit i = true then g1 i else g2 i, fun i hi hsi => ?_, ?_⟩
      · by_cases e : p.testBit i = true
        · show (if p.testBit i = true then g1 i else g2 i) < 5 ∧ s.testBit (if p.testBit i = true then g1 i else g2 i) = true
          rw [if_pos e]
          have := a1 i hi e
          have y := bp (g1 i)
          rw [this.2] at y
          exact ⟨this.1, by simpa using y⟩
        · show (if p.testBit i = true then g1 i else g2 i) < 5 ∧ s.testBit (if p.testBit i = true then g1 i else g2 i) = true
          rw [if_neg e]
          have qi : (s ^^^ p).testBit i = true := by
            rw [bq i, hsi, Bool.eq_false_iff.mpr e]
            rfl
          have := a2 i hi qi
          have y := bq (g2 i)
          have x := bp (g2 i)
          rw [this.2] at y
          refine ⟨this.1, ?_⟩
          revert x y
          cases s.testBit (g2 i) <;> cases p.testBit (g2 i) <;> decide
      · rw [p4, b1, b2, ← cv_sum_add]
        refine cv_sum_congr (fun m hm => ?_)
        by_cases e : p.testBit m = true
        · have z2 : cv_mk (cv_MM g2 (s ^^^ p) m) 5 = 0 := cv_mkZ (fun i hi => by
            unfold cv_MM
            by_cases q : (s ^^^ p).testBit i = true
            · have := (a2 i hi q).2
              by_cases q2 : g2 i = m
              · rw [q2, bq m, e] at this
                have y := bp m
                rw [e] at y
                rw [show s.testBit m = true from by simpa using y] at this
                exact absurd this (by decide)
              · rw [decide_eq_false q2, Bool.and_false]
            · rw [Bool.eq_false_iff.mpr q, Bool.false_and])
          rw [z2, hg.1, Int32.add_zero]
          refine congrArg w (cv_mkC (fun i hi => ?_))
          show (p.testBit i && decide (g1 i = m)) = (s.testBit i && decide ((if p.testBit i = true then g1 i else g2 i) = m))
          have y := bp i
          by_cases q : p.testBit i = true
          · rw [if_pos q, q]
            rw [q] at y
            rw [show s.testBit i = true from by simpa using y]
          · rw [if_neg q, Bool.eq_false_iff.mpr q, Bool.false_and]
            by_cases q3 : s.testBit i = true
            · have qi : (s ^^^ p).testBit i = true := by
                rw [bq i, q3, Bool.eq_false_iff.mpr q]
                rfl
              have := (a2 i hi qi).2
              have ne : ¬ g2 i = m := by
                intro q2
                rw [q2, bq m, e] at this
                have y := bp m
                rw [e] at y
                rw [show s.testBit m = true from by simpa using y] at this
                exact absurd this (by decide)
              rw [decide_eq_false ne, Bool.and_false]
            · rw [Bool.eq_false_iff.mpr q3, Bool.false_and]
        · have z1 : cv_mk (cv_MM g1 p m) 5 = 0 := cv_mkZ (fun i hi => by
            unfold cv_MM
            by_cases q : p.testBit i = true
            · have := (a1 i hi q).2
              have ne : ¬ g1 i = m := fun q2 => e (q2 ▸ this)
              rw [decide_eq_false ne, Bool.and_false]
            · rw [Bool.eq_false_iff.mpr q, Bool.false_and])
          rw [z1, hg.1, Int32.zero_add]
          refine congrArg w (cv_mkC (fun i hi => ?_))
          show ((s ^^^ p).testBit i && decide (g2 i = m)) = (s.testBit i && decide ((if p.testBit i = true then g1 i else g2 i) = m))
          have y := bp i
          rw [bq i]
          by_cases q : p.testBit i = true
          · rw [if_pos q]
            have := (a1 i hi q).2
            have ne : ¬ g1 i = m := fun q2 => e (q2 ▸ this)
            rw [q] at y
            rw [decide_eq_false ne, Bool.and_false, q, show s.testBit i = true from by simpa using y]
            rfl
          · rw [if_neg q, Bool.eq_false_iff.mpr q, Bool.xor_false]
theorem cv_dig {a b c d e : Nat} (ha : a < 5) (hb : b < 5) (hc : c < 5) (hd : d < 5) (he : e < 5) : (a + 5 * b + 25 * c + 125 * d + 625 * e) < 3125 ∧ (a + 5 * b + 25 * c + 125 * d + 625 * e) % 5 = a ∧ (a + 5 * b + 25 * c + 125 * d + 625 * e) / 5 % 5 = b ∧ (a + 5 * b + 25 * c + 125 * d + 625 * e) / 25 % 5 = c ∧ (a + 5 * b + 25 * c + 125 * d + 625 * e) / 125 % 5 = d ∧ (a + 5 * b + 25 * c + 125 * d + 625 * e) / 625 % 5 = e := by
  refine ⟨by omega, by omega, by omega, by omega, by omega, by omega⟩
theorem cv_lower {w bt : Nat → Int32} (hg : cv_Good w) (hS : ∀ j, 1 ≤ j → j < 32 → cv_Sp w bt j) : ∃ r, r < 3125 ∧ cv_SW w r = bt 31 := by
  obtain ⟨g, a1, b1⟩ := cv_reach hg hS 31 31 (Nat.le_refl _) (by omega) (by omega)
  have G : ∀ p, p < 5 → g p < 5 := fun p hp => (a1 p hp ((by decide : ∀ p, p < 5 → (31 : Nat).testBit p = true) p hp)).1
  obtain ⟨d0, d1, d2, d3, d4, d5⟩ := cv_dig (G 0 (by omega)) (G 1 (by omega)) (G 2 (by omega)) (G 3 (by omega)) (G 4 (by omega))
  refine ⟨_, d0, ?_⟩
  rw [b1]
  refine cv_sum_congr (fun m _ => congrArg w (cv_mkC (fun i hi => ?_)))
  unfold cv_rm cv_MM
  match i, hi with
  | 0, _ => rw [Nat.pow_zero, Nat.div_one, d1]; rfl
  | 1, _ => rw [show 5 ^ 1 = 5 from rfl, d2]; rfl
  | 2, _ => rw [show 5 ^ 2 = 25 from rfl, d3]; rfl
  | 3, _ => rw [show 5 ^ 3 = 125 from rfl, d4]; rfl
  | 4, _ => rw [show 5 ^ 4 = 625 from rfl, d5]; rfl
  | n + 5, h => exact absurd h (by omega)
theorem i_vc_bestSplit {k : Nat} {u : SX} {v : SY} (I : i_Rel k u v) (hk : k + 3 ≤ 1536) : wpX_bestSplit (fun r u' => wpY_bestSplit (fun r' => r' = r ∧ i_Rel (k + 3) u' v) v) u := by
  obtain ⟨w, am, bt, mv, pt, rfl, rfl, hg⟩ := I
  unfold wpX_bestSplit wpY_bestSplit
  dsimp only
  refine ⟨32, cv_bsX (fun bt' hS => ?_) 31 1 bt rfl (by omega) (fun j j1 j2 => by omega)⟩
  refine cv_SWY0 (r := 0) (by omega) ⟨3125, cv_bsY (fun V h1 h2 => ⟨?ga, cv_rel hg⟩) 3124 1 _ rfl (fun i hi => ?gb) ⟨0, by omega, rfl⟩⟩
  case ga =>
    obtain ⟨r, hr, e⟩ := h2
    obtain ⟨r', hr', e'⟩ := cv_lower hg hS
    refine Int32.le_antisymm ?_ ?_
    · rw [← e]
      exact cv_upper hg hS r
    · rw [← e']
      exact h1 r' hr'
  case gb =>
    obtain rfl : i = 0 := by omega
    exact Int32.le_refl _
end
