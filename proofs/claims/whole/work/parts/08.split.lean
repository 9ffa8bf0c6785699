/-! ===== 08: bestSplit: X's best totals by parts, Y's greatest over all 3125 ways into rooms ===== -/
theorem cv_addI {a b : Int32} (ha : -100000 ≤ a.toInt ∧ a.toInt ≤ 100000) (hb : -100000 ≤ b.toInt ∧ b.toInt ≤ 100000) : (a + b).toInt = a.toInt + b.toInt := by
  rw [Int32.toInt_add]
  exact Int.bmod_eq_of_le (by omega) (by omega)
theorem ct_part : ∀ c, c < 32 → ∀ p, p < c → 1 ≤ p → p &&& c = p → c ^^^ p < c ∧ 1 ≤ c ^^^ p ∧ p + (c ^^^ p) = c := by decide +kernel
theorem ct_dis : ∀ s, s < 32 → ∀ t, t < 32 → s &&& t = 0 → s ||| t < 32 ∧ s &&& (s ||| t) = s ∧ (s ||| t) ^^^ s = t ∧ s ||| t = s + t := by decide +kernel
/-! X -/
def cv_In (w bt : Nat → Int32) (c t : Nat) (V : Int32) : Prop := w c ≤ V ∧ (∀ p, 1 ≤ p → p < t → p &&& c = p → bt p + bt (c ^^^ p) ≤ V) ∧ (V = w c ∨ ∃ p, 1 ≤ p ∧ p < t ∧ p &&& c = p ∧ V = bt p + bt (c ^^^ p))
theorem cv_btX {post : Int32 → Prop} {w am bt : Nat → Int32} {c : Nat} (hc : c < 32) (H : ∀ V, cv_In w bt c c V → post V) : ∀ d t V, t + d = c → 1 ≤ t → cv_In w bt c t V → wX_bestTotalFromParts_9 post (nI c) w am bt (d + 1) V (nI t) := by
  intro d
  induction d with
  | zero =>
    intro t V ht h1 hV
    obtain rfl : t = c := by omega
    exact br_t (nI_le (Nat.le_refl _) (by omega)) (H V hV)
  | succ d ih =>
    intro t V ht h1 hV
    have h : ¬ nI c ≤ nI t := nI_ge (by omega) (by omega)
    have ht' : t < 32 := by omega
    have ta := ct_and t ht' c hc
    have tx := ct_xor c hc t ht'
    obtain ⟨v1, v2, v3⟩ := hV
    refine br_f h ?_
    rw [ta.1]
    by_cases hs : t &&& c = t
    · rw [hs]
      refine br_t rfl ?_
      rw [tx.1]
      refine ⟨vp_in_nI ht' (by omega), vp_in_nI tx.2 (by omega), fun x ex => ?_⟩
      rw [nI_clamp (ct_lt32 ht'), nI_clamp (ct_lt32 tx.2)] at ex
      subst ex
      by_cases e : bt t + bt (c ^^^ t) ≤ V
      · refine br_t e (fun b eb => ?_)
        rw [eb, nI_1]
        refine ih (t + 1) V (by omega) (by omega) ⟨v1, fun p p1 p2 p3 => ?_, ?_⟩
        · by_cases e2 : p = t
          · subst e2
            exact e
          · exact v2 p p1 (by omega) p3
        · rcases v3 with v3 | ⟨p, p1, p2, p3, p4⟩
          · exact Or.inl v3
          · exact Or.inr ⟨p, p1, by omega, p3, p4⟩
      · have lt := Int32.le_of_lt (Int32.not_le.mp e)
        refine br_f e (fun b eb => ?_)
        rw [eb, nI_1]
        refine ih (t + 1) _ (by omega) (by omega) ⟨Int32.le_trans v1 lt, fun p p1 p2 p3 => ?_, Or.inr ⟨t, h1, by omega, hs, rfl⟩⟩
        by_cases e2 : p = t
        · subst e2
          exact Int32.le_refl _
        · exact Int32.le_trans (v2 p p1 (by omega) p3) lt
    · have ne : ¬ nI (t &&& c) = nI t := fun z => hs ((nI_eq (ct_lt32 ta.2) (ct_lt32 ht')).mp z)
      refine br_f ne (fun b eb => ?_)
      rw [eb, nI_1]
      refine ih (t + 1) V (by omega) (by omega) ⟨v1, fun p p1 p2 p3 => ?_, ?_⟩
      · by_cases e2 : p = t
        · subst e2
          exact absurd p3 hs
        · exact v2 p p1 (by omega) p3
      · rcases v3 with v3 | ⟨p, p1, p2, p3, p4⟩
        · exact Or.inl v3
        · exact Or.inr ⟨p, p1, by omega, p3, p4⟩
theorem cv_btX0 {post : Int32 → Prop} {w am bt : Nat → Int32} {c : Nat} (hc : c < 32) (h1 : 1 ≤ c) (H : ∀ V, cv_In w bt c c V → post V) : wpX_bestTotalFromParts post (w, am, bt) (nI c) := by
  unfold wpX_bestTotalFromParts
  dsimp only
  refine ⟨vp_in_nI hc (by omega), fun x ex => ⟨(c - 1) + 1, ?_⟩⟩
  rw [nI_clamp (ct_lt32 hc)] at ex
  subst ex
  exact cv_btX hc H (c - 1) 1 (w c) (by omega) (by omega) ⟨Int32.le_refl _, fun p p1 p2 _ => by omega, Or.inl rfl⟩
/-- best totals that stand -/
def cv_Sp (w bt : Nat → Int32) (c : Nat) : Prop := cv_In w bt c c (bt c)
theorem cv_inU {w bt : Nat → Int32} {c j : Nat} {x V : Int32} (hj : j ≤ c) (hc : c < 32) (h : cv_In w bt j j V) : cv_In w (upd bt c x) j j V := by
  have E : ∀ p, 1 ≤ p → p < j → p &&& j = p → upd bt c x p + upd bt c x (j ^^^ p) = bt p + bt (j ^^^ p) := by
    intro p p1 p2 p3
    have t := ct_part j (by omega) p p2 p1 p3
    rw [pk_un (by omega), pk_un (by omega)]
  refine ⟨h.1, fun p p1 p2 p3 => by rw [E p p1 p2 p3]; exact h.2.1 p p1 p2 p3, ?_⟩
  rcases h.2.2 with h3 | ⟨p, p1, p2, p3, p4⟩
  · exact Or.inl h3
  · exact Or.inr ⟨p, p1, p2, p3, by rw [E p p1 p2 p3]; exact p4⟩
theorem cv_bsX {post : Int32 → SX → Prop} {w am : Nat → Int32} (H : ∀ bt : Nat → Int32, (∀ j, 1 ≤ j → j < 32 → cv_Sp w bt j) → post (bt 31) (w, am, bt)) : ∀ d c bt, c + d = 32 → 1 ≤ c → (∀ j, 1 ≤ j → j < c → cv_Sp w bt j) → wX_bestSplit_2 post (d + 1) (nI c) w am bt := by
  intro d
  induction d with
  | zero =>
    intro c bt hc h1 hS
    obtain rfl : c = 32 := by omega
    exact br_t (nI_le (a := 32) (by omega) (by omega)) (H bt hS)
  | succ d ih =>
    intro c bt hc h1 hS
    have h : ¬ (32 : Int32) ≤ nI c := nI_ge (b := 32) (by omega) (by omega)
    have hc' : c < 32 := by omega
    refine br_f h (cv_btX0 hc' h1 (fun V hV => ⟨vp_in_nI hc' (by omega), fun f ef y ey => ?_⟩))
    rw [nI_clamp (ct_lt32 hc')] at ef
    rw [ef, ey, nI_1]
    refine ih (c + 1) _ (by omega) (by omega) (fun j j1 j2 => ?_)
    unfold cv_Sp
    by_cases e : j = c
    · subst e
      rw [pk_us]
      exact cv_inU (Nat.le_refl _) hc' hV
    · rw [pk_un e]
      exact cv_inU (by omega) hc' (hS j j1 (by omega))
/-! bounds, and sums of disjoint coalitions -/
theorem cv_wB {w : Nat → Int32} (hg : cv_Good w) (j : Nat) : -1000 ≤ (w j).toInt ∧ (w j).toInt ≤ 1000 := hg.2 j
theorem cv_btB {w bt : Nat → Int32} (hg : cv_Good w) (hS : ∀ j, 1 ≤ j → j < 32 → cv_Sp w bt j) : ∀ n j, j ≤ n → 1 ≤ j → j < 32 → -1000 ≤ (bt j).toInt ∧ (bt j).toInt ≤ 1000 * (j : Int) := by
  intro n
  induction n with
  | zero => intro j h1 h2; omega
  | succ n ih =>
    intro j hn h1 hj
    obtain ⟨s1, _, s3⟩ := hS j h1 hj
    have lo := Int32.le_iff_toInt_le.mp s1
    have wb := hg.2 j
    refine ⟨by omega, ?_⟩
    rcases s3 with s3 | ⟨p, p1, p2, p3, p4⟩
    · rw [s3]
      omega
    · have t := ct_part j hj p p2 p1 p3
      have b1 := ih p (by omega) p1 (by omega)
      have b2 := ih (j ^^^ p) (by omega) t.2.1 (by omega)
      have e : (p : Int) + ((j ^^^ p : Nat) : Int) = (j : Int) := by
        have := t.2.2
        omega
      rw [p4, cv_addI (by omega) (by omega)]
      omega
def cv_B (bt : Nat → Int32) (j : Nat) : Int := if j = 0 then 0 else (bt j).toInt
theorem cv_B0 (bt : Nat → Int32) : cv_B bt 0 = 0 := if_pos rfl
theorem cv_B1 {bt : Nat → Int32} {j : Nat} (h : 1 ≤ j) : cv_B bt j = (bt j).toInt := if_neg (by omega)
theorem cv_Bw {w bt : Nat → Int32} (hg : cv_Good w) (hS : ∀ j, 1 ≤ j → j < 32 → cv_Sp w bt j) {j : Nat} (hj : j < 32) : (w j).toInt ≤ cv_B bt j := by
  by_cases e : j = 0
  · subst e
    rw [cv_B0, hg.1]
    decide
  · rw [cv_B1 (by omega)]
    exact Int32.le_iff_toInt_le.mp (hS j (by omega) hj).1
theorem cv_Badd {w bt : Nat → Int32} (hg : cv_Good w) (hS : ∀ j, 1 ≤ j → j < 32 → cv_Sp w bt j) {s t : Nat} (hs : s < 32) (ht : t < 32) (hd : s &&& t = 0) : cv_B bt s + cv_B bt t ≤ cv_B bt (s ||| t) := by
  have D := ct_dis s hs t ht hd
  by_cases e1 : s = 0
  · subst e1
    rw [cv_B0, Nat.zero_or]
    omega
  · by_cases e2 : t = 0
    · subst e2
      rw [cv_B0, Nat.or_zero]
      omega
    · have hc : 1 ≤ s ||| t := by omega
      have q := (hS (s ||| t) hc D.1).2.1 s (by omega) (by omega) D.2.1
      rw [D.2.2.1] at q
      have q' := Int32.le_iff_toInt_le.mp q
      have b1 := cv_btB hg hS s s (Nat.le_refl _) (by omega) hs
      have b2 := cv_btB hg hS t t (Nat.le_refl _) (by omega) ht
      rw [cv_addI (by omega) (by omega)] at q'
      rw [cv_B1 (by omega), cv_B1 (by omega), cv_B1 hc]
      exact q'
/-! masks out of a question a player -/
def cv_mk (b : Nat → Bool) : Nat → Nat
  | 0 => 0
  | n + 1 => if b n = true then cv_mk b n + 2 ^ n else cv_mk b n
theorem cv_mkT {b : Nat → Bool} {n : Nat} (h : b n = true) : cv_mk b (n + 1) = cv_mk b n + 2 ^ n := if_pos h
theorem cv_mkF {b : Nat → Bool} {n : Nat} (h : ¬ b n = true) : cv_mk b (n + 1) = cv_mk b n := if_neg h
theorem cv_mkLt (b : Nat → Bool) : ∀ n, cv_mk b n < 2 ^ n := by
  intro n
  induction n with
  | zero => exact (by decide : (0 : Nat) < 2 ^ 0)
  | succ n ih =>
    have e : 2 ^ (n + 1) = 2 ^ n + 2 ^ n := by rw [Nat.pow_succ]; omega
    by_cases h : b n = true
    · rw [cv_mkT h]; omega
    · rw [cv_mkF h]; omega
theorem cv_mk32 (b : Nat → Bool) : cv_mk b 5 < 32 := cv_mkLt b 5
theorem cv_mkC {b c : Nat → Bool} {n : Nat} (h : ∀ i, i < n → b i = c i) : cv_mk b n = cv_mk c n := by
  induction n with
  | zero => rfl
  | succ n ih =>
    show (if b n = true then cv_mk b n + 2 ^ n else cv_mk b n) = (if c n = true then cv_mk c n + 2 ^ n else cv_mk c n)
    rw [ih (fun i hi => h i (by omega)), h n (by omega)]
theorem cv_mkZ {b : Nat → Bool} {n : Nat} (h : ∀ i, i < n → b i = false) : cv_mk b n = 0 := by
  induction n with
  | zero => rfl
  | succ n ih =>
    rw [cv_mkF (by rw [h n (by omega)]; decide), ih (fun i hi => h i (by omega))]
theorem ct_mkS : ∀ s, s < 32 → cv_mk (fun i => s.testBit i) 5 = s := by decide +kernel
def cv_m5 (a b c d e : Bool) : Nat := cv_mk (fun i => match i with | 0 => a | 1 => b | 2 => c | 3 => d | _ => e) 5
theorem cv_m5E (b : Nat → Bool) : cv_mk b 5 = cv_m5 (b 0) (b 1) (b 2) (b 3) (b 4) := by
  refine cv_mkC (fun i hi => ?_)
  match i, hi with
  | 0, _ => rfl
  | 1, _ => rfl
  | 2, _ => rfl
  | 3, _ => rfl
  | 4, _ => rfl
  | n + 5, h => exact absurd h (by omega)
theorem ct_m5 : ∀ a b c d e a' b' c' d' e' : Bool, cv_m5 a b c d e &&& cv_m5 a' b' c' d' e' = cv_m5 (a && a') (b && b') (c && c') (d && d') (e && e') ∧ cv_m5 a b c d e ||| cv_m5 a' b' c' d' e' = cv_m5 (a || a') (b || b') (c || c') (d || d') (e || e') := by decide +kernel
theorem cv_mkAnd (b c : Nat → Bool) : cv_mk b 5 &&& cv_mk c 5 = cv_mk (fun i => b i && c i) 5 := by
  rw [cv_m5E b, cv_m5E c, cv_m5E (fun i => b i && c i)]
  exact (ct_m5 _ _ _ _ _ _ _ _ _ _).1
theorem cv_mkOr (b c : Nat → Bool) : cv_mk b 5 ||| cv_mk c 5 = cv_mk (fun i => b i || c i) 5 := by
  rw [cv_m5E b, cv_m5E c, cv_m5E (fun i => b i || c i)]
  exact (ct_m5 _ _ _ _ _ _ _ _ _ _).2
/-! Y -/
/-- the players in room m, by the rooms' number r -/
def cv_rm (r m p : Nat) : Bool := decide (r / 5 ^ p % 5 = m)
def cv_SW (w : Nat → Int32) (r : Nat) : Int32 := cv_sum (fun m => w (cv_mk (cv_rm r m) 5)) 5
theorem cv_rmY {post : Int32 → Prop} {J : Int32 → Int32 → Prop} {x1 x2 : Int32} {w mv pt am : Nat → Int32} {r m : Nat} (hr : r < 3125) (hm : m < 5) (H : J (x2 + w (cv_mk (cv_rm r m) 5)) (nI (m + 1))) : ∀ d p, p + d = 5 → wY_splitWorth_18 post J x1 x2 (nI m) w mv pt am (d + 1) (nI (cv_mk (cv_rm r m) p)) (nI (r / 5 ^ p)) (nI p) := by
  intro d
  induction d with
  | zero =>
    intro p hp
    obtain rfl : p = 5 := by omega
    have l := cv_mk32 (cv_rm r m)
    refine br_t (nI_le (a := 5) (by omega) (by omega)) ⟨vp_in_nI l (by omega), fun a ea b eb => ?_⟩
    rw [nI_clamp (ct_lt32 l)] at ea
    rw [ea, eb, nI_1]
    exact H
  | succ d ih =>
    intro p hp
    have h : ¬ (5 : Int32) ≤ nI p := nI_ge (b := 5) (by omega) (by omega)
    have n0 : ¬ (5 : Int32) = 0 := by decide
    have hq : r / 5 ^ p < 2 ^ 31 := Nat.lt_of_le_of_lt (Nat.div_le_self _ _) (by omega)
    have ed : nI (r / 5 ^ p) / 5 = nI (r / 5 ^ (p + 1)) := by
      have := pk_div (a := r / 5 ^ p) (d := 5) hq (by omega) (by omega)
      rw [Nat.div_div_eq_div_mul, ← Nat.pow_succ] at this
      exact this
    have er : nI (r / 5 ^ p) - nI (r / 5 ^ p) / 5 * 5 = nI (r / 5 ^ p % 5) := pk_rem (a := r / 5 ^ p) (d := 5) hq (by omega) (by omega)
    have K := ih (p + 1) (by omega)
    refine br_f h ⟨n0, ?_⟩
    rw [er]
    by_cases e : r / 5 ^ p % 5 = m
    · have l := cv_mkLt (cv_rm r m) p
      have l5 : cv_mk (cv_rm r m) p < 32 := Nat.lt_of_lt_of_le l (Nat.pow_le_pow_right (by omega) (show p ≤ 5 from by omega))
      have t := ct_bit (cv_mk (cv_rm r m) p) l5 p (by omega)
      rw [ct_bitadd p (by omega) _ l, ← cv_mkT (b := cv_rm r m) (decide_eq_true e)] at t
      refine br_t (by rw [e]) (nm_r t.1 ⟨n0, nm_r ed (nm_r (nI_1 p) ?_)⟩)
      exact K
    · have ne : ¬ nI (r / 5 ^ p % 5) = nI m := fun z => e ((nI_eq (by omega) (by omega)).mp z)
      refine br_f ne ⟨n0, nm_r ed (nm_r (nI_1 p) ?_)⟩
      rw [cv_mkF (b := cv_rm r m) (by unfold cv_rm; rw [decide_eq_true_iff]; exact e)] at K
      exact K
theorem cv_SWY {post : Int32 → Prop} {w mv pt am : Nat → Int32} {r : Nat} (hr : r < 3125) (H : post (cv_SW w r)) : ∀ d m, m + d = 5 → wY_splitWorth_4 post (nI r) w mv pt am (d + 1) (cv_sum (fun m => w (cv_mk (cv_rm r m) 5)) m) (nI m) := by
  intro d
  induction d with
  | zero =>
    intro m hm
    obtain rfl : m = 5 := by omega
    exact br_t (nI_le (a := 5) (by omega) (by omega)) H
  | succ d ih =>
    intro m hm
    have h : ¬ (5 : Int32) ≤ nI m := nI_ge (b := 5) (by omega) (by omega)
    refine br_f h ⟨6, ?_⟩
    have := cv_rmY (post := post) (J := wY_splitWorth_4 post (nI r) w mv pt am (d + 1)) (x1 := nI r) (x2 := cv_sum (fun m => w (cv_mk (cv_rm r m) 5)) m) (w := w) (mv := mv) (pt := pt) (am := am) hr (m := m) (by omega) (ih (m + 1) (by omega)) 5 0 rfl
    rw [Nat.pow_zero, Nat.div_one] at this
    exact this
theorem cv_SWY0 {post : Int32 → Prop} {w mv pt am : Nat → Int32} {r : Nat} (hr : r < 3125) (H : post (cv_SW w r)) : wpY_splitWorth post (w, mv, pt, am) (nI r) := ⟨6, cv_SWY hr H 5 0 rfl⟩
theorem cv_bsY {post : Int32 → Prop} {w mv pt am : Nat → Int32} (H : ∀ V, (∀ r, r < 3125 → cv_SW w r ≤ V) → (∃ r, r < 3125 ∧ cv_SW w r = V) → post V) : ∀ d r V, r + d = 3125 → (∀ i, i < r → cv_SW w i ≤ V) → (∃ i, i < r ∧ cv_SW w i = V) → wY_bestSplit_8 post w mv pt am (d + 1) V (nI r) := by
  intro d
  induction d with
  | zero =>
    intro r V hr h1 h2
    obtain rfl : r = 3125 := by omega
    exact br_t (nI_le (a := 3125) (by omega) (by omega)) (H V h1 h2)
  | succ d ih =>
    intro r V hr h1 h2
    have h : ¬ (3125 : Int32) ≤ nI r := nI_ge (b := 3125) (by omega) (by omega)
    refine br_f h (cv_SWY0 (by omega) ?_)
    by_cases e : cv_SW w r ≤ V
    · refine br_t e (fun b eb => ?_)
      rw [eb, nI_1]
      refine ih (r + 1) V (by omega) (fun i hi => ?_) ?_
      · by_cases e2 : i = r
        · subst e2
          exact e
        · exact h1 i (by omega)
      · obtain ⟨i, hi, q⟩ := h2
        exact ⟨i, by omega, q⟩
    · have lt := Int32.le_of_lt (Int32.not_le.mp e)
      refine br_f e (fun b eb => ?_)
      rw [eb, nI_1]
      refine ih (r + 1) _ (by omega) (fun i hi => ?_) ⟨r, by omega, rfl⟩
      by_cases e2 : i = r
      · subst e2
        exact Int32.le_refl _
      · exact Int32.le_trans (h1 i (by omega)) lt
/-! Y is not above X -/
theorem cv_up {w bt : Nat → Int32} (hg : cv_Good w) (hS : ∀ j, 1 ≤ j → j < 32 → cv_Sp w bt j) (r : Nat) : ∀ n, n ≤ 5 → (cv_sum (fun m => w (cv_mk (cv_rm r m) 5)) n).toInt ≤ cv_B bt (cv_mk (fun p => decide (r / 5 ^ p % 5 < n)) 5) ∧ -(1000 * (n : Int)) ≤ (cv_sum (fun m => w (cv_mk (cv_rm r m) 5)) n).toInt ∧ (cv_sum (fun m => w (cv_mk (cv_rm r m) 5)) n).toInt ≤ 1000 * (n : Int) := by
  intro n
  induction n with
  | zero =>
    intro _
    rw [cv_mkZ (b := fun p => decide (r / 5 ^ p % 5 < 0)) (fun i _ => decide_eq_false (by omega)), cv_B0]
    have : (cv_sum (fun m => w (cv_mk (cv_rm r m) 5)) 0).toInt = 0 := by
      show (0 : Int32).toInt = 0
      decide
    rw [this]
    exact ⟨by omega, by omega, by omega⟩
  | succ n ih =>
    intro hn
    obtain ⟨i1, i2, i3⟩ := ih (by omega)
    have wb := hg.2 (cv_mk (cv_rm r n) 5)
    have ww := cv_Bw hg hS (cv_mk32 (cv_rm r n))
    have add := cv_Badd hg hS (cv_mk32 (fun p => decide (r / 5 ^ p % 5 < n))) (cv_mk32 (cv_rm r n)) (by
      rw [cv_mkAnd]
      refine cv_mkZ (fun i _ => ?_)
      unfold cv_rm
      by_cases e : r / 5 ^ i % 5 = n
      · rw [decide_eq_false (by omega)]; rfl
      · rw [decide_eq_false e, Bool.and_false])
    rw [cv_mkOr] at add
    rw [cv_mkC (b := fun i => decide (r / 5 ^ i % 5 < n) || cv_rm r n i) (c := fun p => decide (r / 5 ^ p % 5 < n + 1)) (fun i _ => by
      unfold cv_rm
      show (decide (r / 5 ^ i % 5 < n) || decide (r / 5 ^ i % 5 = n)) = decide (r / 5 ^ i % 5 < n + 1)
      by_cases e : r / 5 ^ i % 5 = n
      · rw [decide_eq_true e, Bool.or_true, decide_eq_true (by omega)]
      · rw [decide_eq_false e, Bool.or_false]
        by_cases e2 : r / 5 ^ i % 5 < n
        · rw [decide_eq_true e2, decide_eq_true (by omega)]
        · rw [decide_eq_false e2, decide_eq_false (by omega)])] at add
    have es : (cv_sum (fun m => w (cv_mk (cv_rm r m) 5)) (n + 1)).toInt = (cv_sum (fun m => w (cv_mk (cv_rm r m) 5)) n).toInt + (w (cv_mk (cv_rm r n) 5)).toInt := cv_addI (a := cv_sum (fun m => w (cv_mk (cv_rm r m) 5)) n) (b := w (cv_mk (cv_rm r n) 5)) (by omega) (by omega)
    rw [es]
    exact ⟨by omega, by omega, by omega⟩
theorem cv_upper {w bt : Nat → Int32} (hg : cv_Good w) (hS : ∀ j, 1 ≤ j → j < 32 → cv_Sp w bt j) (r : Nat) : cv_SW w r ≤ bt 31 := by
  have h := (cv_up hg hS r 5 (Nat.le_refl _)).1
  rw [show cv_mk (fun p => decide (r / 5 ^ p % 5 < 5)) 5 = 31 from by
    rw [cv_mkC (c := fun _ => true) (fun i _ => decide_eq_true (by omega))]
    decide, cv_B1 (by omega)] at h
  exact Int32.le_iff_toInt_le.mpr h
/-! X is reached by Y: a room is named by a player in it -/
def cv_MM (g : Nat → Nat) (s m p : Nat) : Bool := s.testBit p && decide (g p = m)
theorem cv_low : ∀ s, s < 32 → 1 ≤ s → ∃ m, m < 5 ∧ s.testBit m = true := by decide +kernel
theorem cv_reach {w bt : Nat → Int32} (hg : cv_Good w) (hS : ∀ j, 1 ≤ j → j < 32 → cv_Sp w bt j) : ∀ n s, s ≤ n → 1 ≤ s → s < 32 → ∃ g : Nat → Nat, (∀ p, p < 5 → s.testBit p = true → g p < 5 ∧ s.testBit (g p) = true) ∧ bt s = cv_sum (fun m => w (cv_mk (cv_MM g s m) 5)) 5 := by
  intro n
  induction n with
  | zero => intro s h1 h2; omega
  | succ n ih =>
    intro s hn h1 hs
    obtain ⟨_, _, s3⟩ := hS s h1 hs
    rcases s3 with s3 | ⟨p, p1, p2, p3, p4⟩
    · obtain ⟨m0, hm, hb⟩ := cv_low s hs h1
      refine ⟨fun _ => m0, fun p _ _ => ⟨hm, hb⟩, ?_⟩
      rw [s3]
      have q := cv_sum_single (f := fun m => w (cv_mk (cv_MM (fun _ => m0) s m) 5)) hm (fun i _ hi => by
        show w (cv_mk (cv_MM (fun _ => m0) s i) 5) = 0
        rw [cv_mkZ (fun p _ => by
          unfold cv_MM
          rw [decide_eq_false (fun z => hi z.symm), Bool.and_false])]
        exact hg.1)
      rw [q]
      show w s = w (cv_mk (cv_MM (fun _ => m0) s m0) 5)
      rw [cv_mkC (c := fun i => s.testBit i) (fun i _ => by
        unfold cv_MM
        rw [decide_eq_true rfl, Bool.and_true]), ct_mkS s hs]
    · have t := ct_part s hs p p2 p1 p3
      obtain ⟨g1, a1, b1⟩ := ih p (by omega) p1 (by omega)
      obtain ⟨g2, a2, b2⟩ := ih (s ^^^ p) (by omega) t.2.1 (by omega)
      have bp : ∀ i, (p.testBit i && s.testBit i) = p.testBit i := by
        intro i
        rw [← Nat.testBit_and, p3]
      have bq : ∀ i, (s ^^^ p).testBit i = (s.testBit i ^^ p.testBit i) := fun i => Nat.testBit_xor ..
      refine ⟨fun i => if p.testBit i = true then g1 i else g2 i, fun i hi hsi => ?_, ?_⟩
      · by_cases e : p.testBit i = true
        · show (if p.testBit i = true then g1 i else g2 i) < 5 ∧ s.testBit (if p.testBit i = true then g1 i else g2 i) = true
          rw [if_pos e]
          have := a1 i hi e
          have y := bp (g1 i)
          rw [this.2] at y
          exact ⟨this.1, by simpa using y⟩
        · show (if p.testBit i = true then g1 i else g2 i) < 5 ∧ s.testBit (if p.testBit i = true then g1 i else g2 i) = true
          rw [if_neg e]
          have qi : (s ^^^ p).testBit i = true := by
            rw [bq i, hsi, Bool.eq_false_iff.mpr e]
            rfl
          have := a2 i hi qi
          have y := bq (g2 i)
          have x := bp (g2 i)
          rw [this.2] at y
          refine ⟨this.1, ?_⟩
          revert x y
          cases s.testBit (g2 i) <;> cases p.testBit (g2 i) <;> decide
      · rw [p4, b1, b2, ← cv_sum_add]
        refine cv_sum_congr (fun m hm => ?_)
        by_cases e : p.testBit m = true
        · have z2 : cv_mk (cv_MM g2 (s ^^^ p) m) 5 = 0 := cv_mkZ (fun i hi => by
            unfold cv_MM
            by_cases q : (s ^^^ p).testBit i = true
            · have := (a2 i hi q).2
              by_cases q2 : g2 i = m
              · rw [q2, bq m, e] at this
                have y := bp m
                rw [e] at y
                rw [show s.testBit m = true from by simpa using y] at this
                exact absurd this (by decide)
              · rw [decide_eq_false q2, Bool.and_false]
            · rw [Bool.eq_false_iff.mpr q, Bool.false_and])
          rw [z2, hg.1, Int32.add_zero]
          refine congrArg w (cv_mkC (fun i hi => ?_))
          show (p.testBit i && decide (g1 i = m)) = (s.testBit i && decide ((if p.testBit i = true then g1 i else g2 i) = m))
          have y := bp i
          by_cases q : p.testBit i = true
          · rw [if_pos q, q]
            rw [q] at y
            rw [show s.testBit i = true from by simpa using y]
          · rw [if_neg q, Bool.eq_false_iff.mpr q, Bool.false_and]
            by_cases q3 : s.testBit i = true
            · have qi : (s ^^^ p).testBit i = true := by
                rw [bq i, q3, Bool.eq_false_iff.mpr q]
                rfl
              have := (a2 i hi qi).2
              have ne : ¬ g2 i = m := by
                intro q2
                rw [q2, bq m, e] at this
                have y := bp m
                rw [e] at y
                rw [show s.testBit m = true from by simpa using y] at this
                exact absurd this (by decide)
              rw [decide_eq_false ne, Bool.and_false]
            · rw [Bool.eq_false_iff.mpr q3, Bool.false_and]
        · have z1 : cv_mk (cv_MM g1 p m) 5 = 0 := cv_mkZ (fun i hi => by
            unfold cv_MM
            by_cases q : p.testBit i = true
            · have := (a1 i hi q).2
              have ne : ¬ g1 i = m := fun q2 => e (q2 ▸ this)
              rw [decide_eq_false ne, Bool.and_false]
            · rw [Bool.eq_false_iff.mpr q, Bool.false_and])
          rw [z1, hg.1, Int32.zero_add]
          refine congrArg w (cv_mkC (fun i hi => ?_))
          show ((s ^^^ p).testBit i && decide (g2 i = m)) = (s.testBit i && decide ((if p.testBit i = true then g1 i else g2 i) = m))
          have y := bp i
          rw [bq i]
          by_cases q : p.testBit i = true
          · rw [if_pos q]
            have := (a1 i hi q).2
            have ne : ¬ g1 i = m := fun q2 => e (q2 ▸ this)
            rw [q] at y
            rw [decide_eq_false ne, Bool.and_false, q, show s.testBit i = true from by simpa using y]
            rfl
          · rw [if_neg q, Bool.eq_false_iff.mpr q, Bool.xor_false]
theorem cv_dig {a b c d e : Nat} (ha : a < 5) (hb : b < 5) (hc : c < 5) (hd : d < 5) (he : e < 5) : (a + 5 * b + 25 * c + 125 * d + 625 * e) < 3125 ∧ (a + 5 * b + 25 * c + 125 * d + 625 * e) % 5 = a ∧ (a + 5 * b + 25 * c + 125 * d + 625 * e) / 5 % 5 = b ∧ (a + 5 * b + 25 * c + 125 * d + 625 * e) / 25 % 5 = c ∧ (a + 5 * b + 25 * c + 125 * d + 625 * e) / 125 % 5 = d ∧ (a + 5 * b + 25 * c + 125 * d + 625 * e) / 625 % 5 = e := by
  refine ⟨by omega, by omega, by omega, by omega, by omega, by omega⟩
theorem cv_lower {w bt : Nat → Int32} (hg : cv_Good w) (hS : ∀ j, 1 ≤ j → j < 32 → cv_Sp w bt j) : ∃ r, r < 3125 ∧ cv_SW w r = bt 31 := by
  obtain ⟨g, a1, b1⟩ := cv_reach hg hS 31 31 (Nat.le_refl _) (by omega) (by omega)
  have G : ∀ p, p < 5 → g p < 5 := fun p hp => (a1 p hp ((by decide : ∀ p, p < 5 → (31 : Nat).testBit p = true) p hp)).1
  obtain ⟨d0, d1, d2, d3, d4, d5⟩ := cv_dig (G 0 (by omega)) (G 1 (by omega)) (G 2 (by omega)) (G 3 (by omega)) (G 4 (by omega))
  refine ⟨_, d0, ?_⟩
  rw [b1]
  refine cv_sum_congr (fun m _ => congrArg w (cv_mkC (fun i hi => ?_)))
  unfold cv_rm cv_MM
  match i, hi with
  | 0, _ => rw [Nat.pow_zero, Nat.div_one, d1]; rfl
  | 1, _ => rw [show 5 ^ 1 = 5 from rfl, d2]; rfl
  | 2, _ => rw [show 5 ^ 2 = 25 from rfl, d3]; rfl
  | 3, _ => rw [show 5 ^ 3 = 125 from rfl, d4]; rfl
  | 4, _ => rw [show 5 ^ 4 = 625 from rfl, d5]; rfl
  | n + 5, h => exact absurd h (by omega)
theorem i_vc_bestSplit {k : Nat} {u : SX} {v : SY} (I : i_Rel k u v) (hk : k + 3 ≤ 1536) : wpX_bestSplit (fun r u' => wpY_bestSplit (fun r' => r' = r ∧ i_Rel (k + 3) u' v) v) u := by
  obtain ⟨w, am, bt, mv, pt, rfl, rfl, hg⟩ := I
  unfold wpX_bestSplit wpY_bestSplit
  dsimp only
  refine ⟨32, cv_bsX (fun bt' hS => ?_) 31 1 bt rfl (by omega) (fun j j1 j2 => by omega)⟩
  refine cv_SWY0 (r := 0) (by omega) ⟨3125, cv_bsY (fun V h1 h2 => ⟨?ga, cv_rel hg⟩) 3124 1 _ rfl (fun i hi => ?gb) ⟨0, by omega, rfl⟩⟩
  case ga =>
    obtain ⟨r, hr, e⟩ := h2
    obtain ⟨r', hr', e'⟩ := cv_lower hg hS
    refine Int32.le_antisymm ?_ ?_
    · rw [← e]
      exact cv_upper hg hS r
    · rw [← e']
      exact h1 r' hr'
  case gb =>
    obtain rfl : i = 0 := by omega
    exact Int32.le_refl _
