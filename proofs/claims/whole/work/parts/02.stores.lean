/-! ===== 02: worth, pay, weigh ===== -/
theorem cv_goodU {w : Nat → Int32} {j : Nat} {x : Int32} (h : cv_Good w) (hj : j ≠ 0) (h1 : -1000 ≤ x.toInt) (h2 : x.toInt ≤ 1000) : cv_Good (upd w j x) := by
  refine ⟨?_, fun i => ?_⟩
  · rw [pk_un (fun z => hj z.symm)]
    exact h.1
  · by_cases e : i = j
    · subst e
      rw [pk_us]
      exact ⟨h1, h2⟩
    · rw [pk_un e]
      exact h.2 i
theorem i_vc_worth {k : Nat} {u : SX} {v : SY} (I : i_Rel k u v) (hk : k + 3 ≤ 1536) (v1 : Int32) (v2 : Int32) : wpX_worth (fun r u' => wpY_worth (fun r' v' => r' = r ∧ i_Rel (k + 3) u' v') v v1 v2) u v1 v2 := by
  obtain ⟨w, am, bt, mv, pt, rfl, rfl, hg⟩ := I
  unfold wpX_worth wpY_worth
  dsimp only
  rcases cv_co v1 with ⟨hX, hY⟩ | ⟨j, h1, hj, rfl, hX, hY⟩
  · refine hX _ (br_t rfl ?_)
    exact hY _ _ ⟨rfl, cv_rel hg⟩
  · refine hX _ (br_f (by decide) ?_)
    by_cases ha : v2 < (-1000)
    · exact br_t ha (hY _ _ _ (br_t ha ⟨rfl, cv_rel hg⟩))
    · refine br_f ha ?_
      by_cases hb : v2 ≤ 1000
      · refine br_t hb ⟨vp_in_nI hj (by omega), fun x ex => ⟨vp_in_nI hj (by omega), fun a ea => ?_⟩⟩
        refine hY _ _ _ (br_f ha (br_t hb ⟨vp_in_nI hj (by omega), fun y ey => ⟨vp_in_nI hj (by omega), fun b eb => ?_⟩⟩))
        rw [nI_clamp (by omega)] at ea eb
        subst ea eb
        have l1 : (-1000 : Int32).toInt ≤ v2.toInt := Int32.le_iff_toInt_le.mp (Int32.not_lt.mp ha)
        have l2 : v2.toInt ≤ (1000 : Int32).toInt := Int32.le_iff_toInt_le.mp hb
        rw [show (-1000 : Int32).toInt = -1000 from by decide] at l1
        rw [show (1000 : Int32).toInt = 1000 from by decide] at l2
        exact ⟨ey.trans ex.symm, cv_rel (cv_goodU hg (by omega) l1 l2)⟩
      · exact br_f hb (hY _ _ _ (br_f ha (br_f hb ⟨rfl, cv_rel hg⟩)))
theorem i_vc_pay {k : Nat} {u : SX} {v : SY} (I : i_Rel k u v) (hk : k + 3 ≤ 1536) (v1 : Int32) (v2 : Int32) : wpX_pay (fun r u' => wpY_pay (fun r' v' => r' = r ∧ i_Rel (k + 3) u' v') v v1 v2) u v1 v2 := by
  obtain ⟨w, am, bt, mv, pt, rfl, rfl, hg⟩ := I
  unfold wpX_pay wpY_pay
  dsimp only
  rcases cv_pl v1 with ⟨hX, hY⟩ | ⟨j, hj, rfl, hX, hY⟩
  · refine hX _ (br_t rfl ?_)
    exact hY _ _ (br_t rfl ⟨rfl, cv_rel hg⟩)
  · refine hX _ (br_f (by decide) ?_)
    by_cases ha : v2 < (-10000)
    · exact br_t ha (hY _ _ (br_f (by decide) (br_t ha ⟨rfl, cv_rel hg⟩)))
    · refine br_f ha ?_
      by_cases hb : v2 ≤ 10000
      · refine br_t hb ⟨vp_in_nI hj (by omega), fun a ea => ?_⟩
        refine hY _ _ (br_f (by decide) (br_f ha (br_t hb ⟨vp_in_nI hj (by omega), fun b eb => ?_⟩)))
        subst ea eb
        exact ⟨rfl, cv_rel hg⟩
      · exact br_f hb (hY _ _ (br_f (by decide) (br_f ha (br_f hb ⟨rfl, cv_rel hg⟩))))

/-! weigh: the weight of a coalition, a summand a player -/
def cv_wt (x : Int32) (c : Nat) : Nat → Int32
  | 0 => 0
  | n + 1 => if c.testBit n = true then cv_wt x c n + ((x >>> ((4 * nI n) &&& 31)) &&& 15) else cv_wt x c n
theorem cv_wtT {x : Int32} {c n : Nat} (h : c.testBit n = true) : cv_wt x c (n + 1) = cv_wt x c n + ((x >>> ((4 * nI n) &&& 31)) &&& 15) := if_pos h
theorem cv_wtF {x : Int32} {c n : Nat} (h : ¬ c.testBit n = true) : cv_wt x c (n + 1) = cv_wt x c n := if_neg h
theorem cv_wt0 (x : Int32) : ∀ n, cv_wt x 0 n = 0 := by
  intro n
  induction n with
  | zero => rfl
  | succ n ih => rw [cv_wtF (by rw [Nat.zero_testBit]; decide), ih]
theorem cv_wtX {post : Int32 → Prop} {x : Int32} {c : Nat} (hc : c < 32) (H : post (cv_wt x c 5)) : ∀ d j, j + d = 5 → wX_weightOf_4 post (nI c) x (d + 1) (cv_wt x c j) (nI j) := by
  intro d
  induction d with
  | zero =>
    intro j hj
    obtain rfl : j = 5 := by omega
    exact br_t (nI_le (a := 5) (by omega) (by omega)) H
  | succ d ih =>
    intro j hj
    have h : ¬ (5 : Int32) ≤ nI j := nI_ge (b := 5) (by omega) (by omega)
    by_cases hb : c.testBit j = true
    · refine br_f h (cv_hasT hc (by omega) hb (fun a ea b eb => ?_))
      rw [ea, eb, nI_1, ← cv_wtT hb]
      exact ih (j + 1) (by omega)
    · refine br_f h (cv_hasF hc (by omega) hb (fun b eb => ?_))
      rw [eb, nI_1, ← cv_wtF hb]
      exact ih (j + 1) (by omega)
theorem cv_wtX0 {post : Int32 → Prop} {x : Int32} {c : Nat} (hc : c < 32) (H : post (cv_wt x c 5)) : wpX_weightOf post (nI c) x := ⟨6, cv_wtX hc H 5 0 rfl⟩
theorem cv_wtY {post : Int32 → SY → Prop} {J : Int32 → Int32 → (Nat → Int32) → (Nat → Int32) → (Nat → Int32) → (Nat → Int32) → Prop} {x q acc : Int32} {c : Nat} {w mv pt am : Nat → Int32} (hc : c < 32) (H : (cv_wt x c 5 < q → wY_weigh_85 post J x q acc (nI c) 0 (nI c) w mv pt am) ∧ (¬ cv_wt x c 5 < q → wY_weigh_85 post J x q acc (nI c) 1 (nI c) w mv pt am)) : ∀ d j, j + d = 5 → wY_weigh_32 post J x q acc (nI c) w mv pt am (d + 1) (cv_wt x c j) (nI j) := by
  intro d
  induction d with
  | zero =>
    intro j hj
    obtain rfl : j = 5 := by omega
    exact br_t (nI_le (a := 5) (by omega) (by omega)) H
  | succ d ih =>
    intro j hj
    have h : ¬ (5 : Int32) ≤ nI j := nI_ge (b := 5) (by omega) (by omega)
    by_cases hb : c.testBit j = true
    · refine br_f h (cv_bT hc (by omega) hb (fun a ea b eb => ?_))
      rw [ea, eb, nI_1, ← cv_wtT hb]
      exact ih (j + 1) (by omega)
    · refine br_f h (cv_bF hc (by omega) hb (fun b eb => ?_))
      rw [eb, nI_1, ← cv_wtF hb]
      exact ih (j + 1) (by omega)
theorem cv_w41 {post : Int32 → SX → Prop} {J : Int32 → Int32 → (Nat → Int32) → (Nat → Int32) → (Nat → Int32) → Prop} {x q acc z : Int32} {c : Nat} {w am bt : Nat → Int32} (hc : c < 32) (H : J (acc + z) (nI (c + 1)) (upd w c z) am bt) : wX_weigh_41 post J x q acc (nI c) z w am bt := by
  unfold wX_weigh_41
  refine ⟨vp_in_nI hc (by omega), fun a ea b eb e ee => ?_⟩
  rw [nI_clamp (by omega)] at ea
  rw [ea, eb, ee, nI_1]
  exact H
theorem cv_y85 {post : Int32 → SY → Prop} {J : Int32 → Int32 → (Nat → Int32) → (Nat → Int32) → (Nat → Int32) → (Nat → Int32) → Prop} {x q acc z : Int32} {c : Nat} {w mv pt am : Nat → Int32} (hc : c < 32) (H : J (acc + z) (nI (c + 1)) (upd w c z) mv pt am) : wY_weigh_85 post J x q acc (nI c) z (nI c) w mv pt am := by
  unfold wY_weigh_85
  refine ⟨vp_in_nI hc (by omega), fun a ea => ⟨vp_in_nI hc (by omega), fun b eb e ee => ?_⟩⟩
  rw [nI_clamp (by omega)] at ea eb
  subst ea
  rw [pk_us] at eb
  rw [eb, ee, nI_1]
  exact H
theorem cv_weigh {x q : Int32} {am bt mv pt : Nat → Int32} : ∀ d c acc w, c + d = 32 → 1 ≤ c → cv_Good w → ∃ r w', cv_Good w' ∧ (∀ post : Int32 → SX → Prop, post r (w', am, bt) → wX_weigh_19 post x q (d + 1) acc (nI c) w am bt) ∧ (∀ post : Int32 → SY → Prop, post r (w', mv, pt, am) → wY_weigh_19 post x q (d + 1) acc (nI c) w mv pt am) := by
  intro d
  induction d with
  | zero =>
    intro c acc w hc h1 hg
    have h : (32 : Int32) ≤ nI c := nI_le (a := 32) (by omega) (by omega)
    exact ⟨acc, w, hg, fun _ hp => br_t h hp, fun _ hp => br_t h hp⟩
  | succ d ih =>
    intro c acc w hc h1 hg
    have h : ¬ (32 : Int32) ≤ nI c := nI_ge (b := 32) (by omega) (by omega)
    have hc' : c < 32 := by omega
    by_cases hz : cv_wt x c 5 < q
    · obtain ⟨r, w', hg', hX, hY⟩ := ih (c + 1) (acc + 0) (upd w c 0) (by omega) (by omega) (cv_goodU hg (by omega) (by decide) (by decide))
      exact ⟨r, w', hg', fun post hp => br_f h (cv_wtX0 hc' (br_t hz (cv_w41 hc' (hX post hp)))), fun post hp => br_f h ⟨6, cv_wtY hc' (br_t hz (cv_y85 hc' (hY post hp))) 5 0 rfl⟩⟩
    · obtain ⟨r, w', hg', hX, hY⟩ := ih (c + 1) (acc + 1) (upd w c 1) (by omega) (by omega) (cv_goodU hg (by omega) (by decide) (by decide))
      exact ⟨r, w', hg', fun post hp => br_f h (cv_wtX0 hc' (br_f hz (cv_w41 hc' (hX post hp)))), fun post hp => br_f h ⟨6, cv_wtY hc' (br_f hz (cv_y85 hc' (hY post hp))) 5 0 rfl⟩⟩
theorem cv_upd0 {w : Nat → Int32} (h : w 0 = 0) : upd w 0 0 = w := by
  funext j
  by_cases e : j = 0
  · subst e
    rw [pk_us, h]
  · rw [pk_un e]
theorem i_vc_weigh {k : Nat} {u : SX} {v : SY} (I : i_Rel k u v) (hk : k + 3 ≤ 1536) (v1 : Int32) (v2 : Int32) : wpX_weigh (fun r u' => wpY_weigh (fun r' v' => r' = r ∧ i_Rel (k + 3) u' v') v v1 v2) u v1 v2 := by
  obtain ⟨w, am, bt, mv, pt, rfl, rfl, hg⟩ := I
  unfold wpX_weigh wpY_weigh
  dsimp only
  by_cases ha : v2 < 1
  · exact br_t ha (br_t ha ⟨rfl, cv_rel hg⟩)
  · refine br_f ha ?_
    by_cases hb : v2 ≤ 75
    · obtain ⟨r, w', hg', hX, hY⟩ := cv_weigh (x := v1) (q := v2) (am := am) (bt := bt) (mv := mv) (pt := pt) 31 1 0 w rfl (by omega) hg
      refine br_t hb ⟨32, hX _ (br_f ha (br_t hb ⟨33, ?_⟩))⟩
      have h : ¬ (32 : Int32) ≤ nI 0 := by decide
      have hq : cv_wt v1 0 5 < v2 := by
        rw [cv_wt0]
        exact Int32.lt_of_lt_of_le (by decide) (Int32.not_lt.mp ha)
      refine br_f h ⟨6, cv_wtY (c := 0) (by omega) (br_t hq (cv_y85 (c := 0) (by omega) ?_)) 5 0 rfl⟩
      rw [cv_upd0 hg.1]
      exact hY _ ⟨rfl, cv_rel hg'⟩
    · exact br_f hb (br_f ha (br_f hb ⟨rfl, cv_rel hg⟩))
