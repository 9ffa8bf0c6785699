/-! ===== 05: own: a sum of worths with signs, against the parts taken off one after the other ===== -/
theorem ct_par : ∀ m, m < 6 → ((nI m &&& 1) = 0 ↔ m % 2 = 0) := by decide +kernel
/-- the sign of the worth of r in own of s -/
def cv_cf (s r : Nat) : Int32 := if 1 ≤ r ∧ r &&& s = r then (if cv_sz (s ^^^ r) 5 % 2 = 0 then 1 else -1) else 0
def cv_ow (w : Nat → Int32) (s : Nat) : Int32 := cv_sum (fun r => cv_cf s r * w r) 32
theorem ct_cf : ∀ s, s < 32 → 1 ≤ s → ∀ r, r < 32 → cv_sum (fun i => if 1 ≤ i ∧ i &&& s = i then cv_cf i r else 0) s = (if r = s then 1 else 0) - cv_cf s r := by decide +kernel
theorem cv_owRec {w : Nat → Int32} {s : Nat} (hs : s < 32) (h1 : 1 ≤ s) : w s - cv_sum (fun i => if 1 ≤ i ∧ i &&& s = i then cv_ow w i else 0) s = cv_ow w s := by
  have e1 : cv_sum (fun i => if 1 ≤ i ∧ i &&& s = i then cv_ow w i else 0) s = cv_sum (fun i => cv_sum (fun r => (if 1 ≤ i ∧ i &&& s = i then cv_cf i r else 0) * w r) 32) s := by
    refine cv_sum_congr (fun i _ => ?_)
    by_cases h : 1 ≤ i ∧ i &&& s = i
    · rw [if_pos h]
      refine cv_sum_congr (fun r _ => ?_)
      rw [if_pos h]
    · rw [if_neg h]
      refine (cv_sum_zero (fun r _ => ?_)).symm
      rw [if_neg h, Int32.zero_mul]
  have e2 : cv_sum (fun r => cv_sum (fun i => (if 1 ≤ i ∧ i &&& s = i then cv_cf i r else 0) * w r) s) 32 = cv_sum (fun r => (if r = s then (1 : Int32) else 0) * w r + (-1) * (cv_cf s r * w r)) 32 := by
    refine cv_sum_congr (fun r hr => ?_)
    rw [cv_sum_mul, ct_cf s hs h1 r hr]
    grind
  have e3 : cv_sum (fun r => (if r = s then (1 : Int32) else 0) * w r) 32 = w s := by
    have := cv_sum_single (f := fun r => (if r = s then (1 : Int32) else 0) * w r) hs (fun i _ hia => by
      show (if i = s then (1 : Int32) else 0) * w i = 0
      rw [if_neg hia, Int32.zero_mul])
    rw [this]
    show (if s = s then (1 : Int32) else 0) * w s = w s
    rw [if_pos rfl, Int32.one_mul]
  have e4 : cv_sum (fun r => (-1) * (cv_cf s r * w r)) 32 = (-1) * cv_ow w s := by
    have := cv_sum_mul (-1) (fun r => cv_cf s r * w r) 32
    rw [Int32.mul_comm (-1) (cv_ow w s)]
    refine Eq.trans (cv_sum_congr (fun r _ => ?_)) this
    exact Int32.mul_comm _ _
  rw [e1, cv_sum_swap, e2, cv_sum_add, e3, e4]
  grind
theorem cv_owX {post : Int32 → Prop} {w am bt : Nat → Int32} {c : Nat} (hc : c < 32) (H : post (cv_ow w c)) : ∀ d t, t + d = 32 → 1 ≤ t → wX_own_13 post (nI c) w am bt (d + 1) (cv_sum (fun r => cv_cf c r * w r) t) (nI t) := by
  intro d
  induction d with
  | zero =>
    intro t ht h1
    obtain rfl : t = 32 := by omega
    exact br_t (nI_le (a := 32) (by omega) (by omega)) H
  | succ d ih =>
    intro t ht h1
    have h : ¬ (32 : Int32) ≤ nI t := nI_ge (b := 32) (by omega) (by omega)
    have ht' : t < 32 := by omega
    have K : wX_own_13 post (nI c) w am bt (d + 1) (cv_sum (fun r => cv_cf c r * w r) t + cv_cf c t * w t) (nI (t + 1)) := ih (t + 1) (by omega) (by omega)
    have ta := ct_and t ht' c hc
    have tx := ct_xor c hc t ht'
    have hi : vp_in (nI t) 32 := vp_in_nI ht' (by omega)
    refine br_f h ?_
    rw [ta.1]
    by_cases hs : t &&& c = t
    · rw [hs]
      refine br_t rfl ?_
      rw [tx.1]
      refine cv_szX0 tx.2 ?_
      have hm := cv_szLe (c ^^^ t) 5
      have par := ct_par (cv_sz (c ^^^ t) 5) (by omega)
      by_cases e : cv_sz (c ^^^ t) 5 % 2 = 0
      · refine br_t (par.mpr e) ?_
        unfold wX_own_42
        refine br_f (by decide) ⟨hi, fun a ea b eb => ?_⟩
        rw [nI_clamp (by omega)] at ea
        have ec : cv_cf c t = 1 := by
          unfold cv_cf
          rw [if_pos ⟨h1, hs⟩, if_pos e]
        rw [ec, Int32.one_mul] at K
        rw [ea, eb, nI_1]
        exact K
      · refine br_f (fun z => e (par.mp z)) ?_
        unfold wX_own_42
        refine br_t rfl ⟨hi, fun a ea b eb => ?_⟩
        rw [nI_clamp (by omega)] at ea
        have ec : cv_cf c t = -1 := by
          unfold cv_cf
          rw [if_pos ⟨h1, hs⟩, if_neg e]
        rw [ec, show (-1 : Int32) * w t = -(w t) from by grind] at K
        rw [ea, eb, nI_1]
        exact K
    · have ne : ¬ nI (t &&& c) = nI t := fun z => hs ((nI_eq (by have := ta.2; omega) (by omega)).mp z)
      refine br_f ne (fun b eb => ?_)
      have ec : cv_cf c t = 0 := if_neg (fun z => hs z.2)
      rw [ec, Int32.zero_mul, Int32.add_zero] at K
      rw [eb, nI_1]
      exact K
/-! Y -/
def cv_pf (pt : Nat → Int32) (s i : Nat) : Int32 := if 1 ≤ i ∧ i &&& s = i then pt i else 0
theorem cv_owY1 {post : Int32 → SY → Prop} {J : Int32 → (Nat → Int32) → (Nat → Int32) → (Nat → Int32) → (Nat → Int32) → Prop} {x1 : Int32} {w mv pt am : Nat → Int32} {s : Nat} (hs : s < 32) (H : J (nI (s + 1)) w mv (upd pt s (w s - cv_sum (cv_pf pt s) s)) am) : ∀ d t, t + d = s → 1 ≤ t → wY_own_31 post J x1 (nI s) w mv pt am (d + 1) (w s - cv_sum (cv_pf pt s) t) (nI t) := by
  intro d
  induction d with
  | zero =>
    intro t ht h1
    obtain rfl : t = s := by omega
    refine br_t (nI_le (Nat.le_refl _) (by omega)) ⟨vp_in_nI hs (by omega), fun a ea b eb => ?_⟩
    rw [nI_clamp (by omega)] at ea
    rw [ea, eb, nI_1]
    exact H
  | succ d ih =>
    intro t ht h1
    have h : ¬ nI s ≤ nI t := nI_ge (by omega) (by omega)
    have ht' : t < 32 := by omega
    have K : wY_own_31 post J x1 (nI s) w mv pt am (d + 1) (w s - (cv_sum (cv_pf pt s) t + cv_pf pt s t)) (nI (t + 1)) := ih (t + 1) (by omega) (by omega)
    have ta := ct_and t ht' s hs
    refine br_f h ?_
    rw [ta.1]
    by_cases hb : t &&& s = t
    · rw [hb]
      refine br_t rfl ⟨vp_in_nI ht' (by omega), fun a ea b eb => ?_⟩
      rw [nI_clamp (by omega)] at ea
      rw [show cv_pf pt s t = pt t from if_pos ⟨h1, hb⟩] at K
      rw [ea, eb, nI_1, show w s - cv_sum (cv_pf pt s) t - pt t = w s - (cv_sum (cv_pf pt s) t + pt t) from by grind]
      exact K
    · have ne : ¬ nI (t &&& s) = nI t := fun z => hb ((nI_eq (by have := ta.2; omega) (by omega)).mp z)
      refine br_f ne (fun b eb => ?_)
      rw [show cv_pf pt s t = 0 from if_neg (fun z => hb z.2), Int32.add_zero] at K
      rw [eb, nI_1]
      exact K
theorem cv_owY {post : Int32 → SY → Prop} {w mv am : Nat → Int32} {c : Nat} (hc : c < 32) (h1c : 1 ≤ c) (H : ∀ pt : Nat → Int32, post (cv_ow w c) (w, mv, pt, am)) : ∀ d s pt, s + d = 32 → 1 ≤ s → (∀ t, 1 ≤ t → t < s → pt t = cv_ow w t) → wY_own_15 post (nI c) (d + 1) (nI s) w mv pt am := by
  intro d
  induction d with
  | zero =>
    intro s pt hs h1 hpt
    obtain rfl : s = 32 := by omega
    refine br_t (nI_le (a := 32) (by omega) (by omega)) ⟨vp_in_nI hc (by omega), ?_⟩
    rw [nI_clamp (by omega), hpt c h1c hc]
    exact H pt
  | succ d ih =>
    intro s pt hs h1 hpt
    have h : ¬ (32 : Int32) ≤ nI s := nI_ge (b := 32) (by omega) (by omega)
    have hs' : s < 32 := by omega
    refine br_f h ⟨vp_in_nI hs' (by omega), fun a ea => ⟨(s - 1) + 1, ?_⟩⟩
    rw [nI_clamp (by omega)] at ea
    have e0 : w s - cv_sum (cv_pf pt s) 1 = w s := by
      have : cv_sum (cv_pf pt s) 1 = 0 := cv_sum_zero (fun i hi => if_neg (fun z => by have := z.1; omega))
      rw [this, Int32.sub_zero]
    have eS : w s - cv_sum (cv_pf pt s) s = cv_ow w s := by
      rw [← cv_owRec hs' h1]
      congr 1
      refine cv_sum_congr (fun i hi => ?_)
      unfold cv_pf
      by_cases e : 1 ≤ i ∧ i &&& s = i
      · rw [if_pos e, if_pos e, hpt i e.1 hi]
      · rw [if_neg e, if_neg e]
    have K := cv_owY1 (post := post) (J := wY_own_15 post (nI c) (d + 1)) (x1 := nI c) (w := w) (mv := mv) (pt := pt) (am := am) hs' (by
      refine ih (s + 1) _ (by omega) (by omega) (fun t h1t ht => ?_)
      by_cases e : t = s
      · subst e
        rw [pk_us, eS]
      · rw [pk_un e]
        exact hpt t h1t (by omega)) (s - 1) 1 (by omega) (by omega)
    rw [e0] at K
    rw [ea]
    exact K
theorem i_vc_own {k : Nat} {u : SX} {v : SY} (I : i_Rel k u v) (hk : k + 3 ≤ 1536) (v1 : Int32) : wpX_own (fun r => wpY_own (fun r' v' => r' = r ∧ i_Rel (k + 3) u v') v v1) u v1 := by
  obtain ⟨w, am, bt, mv, pt, rfl, rfl, hg⟩ := I
  unfold wpX_own wpY_own
  dsimp only
  rcases cv_co v1 with ⟨hX, hY⟩ | ⟨c, h1, hc, rfl, hX, hY⟩
  · exact hX _ (br_t rfl (hY _ _ ⟨rfl, cv_rel hg⟩))
  · refine hX _ (br_f (by decide) ⟨32, ?_⟩)
    have K := cv_owX (w := w) (am := am) (bt := bt) hc (post := fun r => ((nI c < 1 → ((-1) = r ∧ i_Rel (k + 3) (w, am, bt) (w, mv, pt, am))) ∧ (¬ nI c < 1 → ((nI c ≤ 31 → (∃ n15 : Nat, wY_own_15 (fun r' v' => r' = r ∧ i_Rel (k + 3) (w, am, bt) v') (nI c) n15 1 w mv pt am)) ∧ (¬ nI c ≤ 31 → ((-1) = r ∧ i_Rel (k + 3) (w, am, bt) (w, mv, pt, am))))))) (hY _ _ _ ⟨32, cv_owY hc h1 (fun pt' => ⟨rfl, cv_rel hg⟩) 31 1 pt rfl (by omega) (fun t h1t ht => by omega)⟩) 31 1 rfl (by omega)
    rw [show cv_sum (fun r => cv_cf c r * w r) 1 = 0 from cv_sum_zero (fun i hi => by
      obtain rfl : i = 0 := by omega
      show cv_cf c 0 * w 0 = 0
      rw [show cv_cf c 0 = 0 from if_neg (fun z => by have := z.1; omega), Int32.zero_mul])] at K
    exact K
