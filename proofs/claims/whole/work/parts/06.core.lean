/-! ===== 06: complaint, inCore ===== -/
def cv_sh (am : Nat → Int32) (c : Nat) : Nat → Int32
  | 0 => 0
  | n + 1 => if c.testBit n = true then cv_sh am c n + am n else cv_sh am c n
theorem cv_shT {am : Nat → Int32} {c n : Nat} (h : c.testBit n = true) : cv_sh am c (n + 1) = cv_sh am c n + am n := if_pos h
theorem cv_shF {am : Nat → Int32} {c n : Nat} (h : ¬ c.testBit n = true) : cv_sh am c (n + 1) = cv_sh am c n := if_neg h
theorem cv_shX {post : Int32 → Prop} {w am bt : Nat → Int32} {c : Nat} (hc : c < 32) (H : post (cv_sh am c 5)) : ∀ d j, j + d = 5 → wX_share_4 post (nI c) w am bt (d + 1) (cv_sh am c j) (nI j) := by
  intro d
  induction d with
  | zero =>
    intro j hj
    obtain rfl : j = 5 := by omega
    exact br_t (nI_le (a := 5) (by omega) (by omega)) H
  | succ d ih =>
    intro j hj
    have h : ¬ (5 : Int32) ≤ nI j := nI_ge (b := 5) (by omega) (by omega)
    by_cases hb : c.testBit j = true
    · refine br_f h (cv_hasT hc (by omega) hb ⟨vp_in_nI (by omega) (by omega), fun a ea b eb => ?_⟩)
      rw [nI_clamp (by omega)] at ea
      rw [ea, eb, nI_1, ← cv_shT hb]
      exact ih (j + 1) (by omega)
    · refine br_f h (cv_hasF hc (by omega) hb (fun b eb => ?_))
      rw [eb, nI_1, ← cv_shF hb]
      exact ih (j + 1) (by omega)
theorem cv_shY {post : Int32 → Prop} {w mv pt am : Nat → Int32} {c : Nat} (hc : c < 32) (H : post (cv_sh am c 5)) : ∀ d j, j + d = 5 → wY_share_4 post (nI c) w mv pt am (d + 1) (cv_sh am c j) (nI j) := by
  intro d
  induction d with
  | zero =>
    intro j hj
    obtain rfl : j = 5 := by omega
    exact br_t (nI_le (a := 5) (by omega) (by omega)) H
  | succ d ih =>
    intro j hj
    have h : ¬ (5 : Int32) ≤ nI j := nI_ge (b := 5) (by omega) (by omega)
    by_cases hb : c.testBit j = true
    · refine br_f h (cv_bT hc (by omega) hb ⟨vp_in_nI (by omega) (by omega), fun a ea b eb => ?_⟩)
      rw [nI_clamp (by omega)] at ea
      rw [ea, eb, nI_1, ← cv_shT hb]
      exact ih (j + 1) (by omega)
    · refine br_f h (cv_bF hc (by omega) hb (fun b eb => ?_))
      rw [eb, nI_1, ← cv_shF hb]
      exact ih (j + 1) (by omega)
theorem cv_shY0 {post : Int32 → Prop} {w mv pt am : Nat → Int32} {c : Nat} (hc : c < 32) (H : post (cv_sh am c 5)) : wpY_share post (w, mv, pt, am) (nI c) := ⟨6, cv_shY hc H 5 0 rfl⟩
def cv_ex (w am : Nat → Int32) (c : Nat) : Int32 := w c - cv_sh am c 5
theorem cv_exX0 {post : Int32 → Prop} {w am bt : Nat → Int32} {c : Nat} (hc : c < 32) (H : post (cv_ex w am c)) : wpX_excess post (w, am, bt) (nI c) := by
  unfold wpX_excess
  dsimp only
  refine ⟨vp_in_nI hc (by omega), 6, cv_shX hc ?_ 5 0 rfl⟩
  rw [nI_clamp (by omega)]
  exact H
/-- the greatest of f 0 .. f n -/
def cv_mx (f : Nat → Int32) : Nat → Int32
  | 0 => f 0
  | n + 1 => if f (n + 1) ≤ cv_mx f n then cv_mx f n else f (n + 1)
theorem cv_mxT {f : Nat → Int32} {n : Nat} (h : f (n + 1) ≤ cv_mx f n) : cv_mx f (n + 1) = cv_mx f n := if_pos h
theorem cv_mxF {f : Nat → Int32} {n : Nat} (h : ¬ f (n + 1) ≤ cv_mx f n) : cv_mx f (n + 1) = f (n + 1) := if_neg h
theorem cv_mx0 {f : Nat → Int32} (n : Nat) : cv_mx f n ≤ 0 ↔ ∀ i, i ≤ n → f i ≤ 0 := by
  induction n with
  | zero =>
    constructor
    · intro h i hi
      obtain rfl : i = 0 := by omega
      exact h
    · intro h
      exact h 0 (Nat.le_refl 0)
  | succ n ih =>
    by_cases e : f (n + 1) ≤ cv_mx f n
    · rw [cv_mxT e]
      constructor
      · intro h i hi
        by_cases e2 : i = n + 1
        · subst e2
          exact Int32.le_trans e h
        · exact ih.mp h i (by omega)
      · intro h
        exact ih.mpr (fun i hi => h i (by omega))
    · rw [cv_mxF e]
      constructor
      · intro h i hi
        by_cases e2 : i = n + 1
        · subst e2
          exact h
        · exact ih.mp (Int32.le_trans (Int32.le_of_lt (Int32.not_le.mp e)) h) i (by omega)
      · intro h
        exact h (n + 1) (Nat.le_refl _)
def cv_cf1 (w am : Nat → Int32) (i : Nat) : Int32 := cv_ex w am (i + 1)
theorem cv_cpX {post : Int32 → Prop} {w am bt : Nat → Int32} (H : post (cv_mx (cv_cf1 w am) 29)) : ∀ d i, i + d = 29 → wX_complaint_8 post w am bt (d + 1) (cv_mx (cv_cf1 w am) i) (nI (i + 2)) := by
  intro d
  induction d with
  | zero =>
    intro i hi
    obtain rfl : i = 29 := by omega
    exact br_t (nI_le (a := 31) (by omega) (by omega)) H
  | succ d ih =>
    intro i hi
    have h : ¬ (31 : Int32) ≤ nI (i + 2) := nI_ge (b := 31) (by omega) (by omega)
    have K := ih (i + 1) (by omega)
    refine br_f h (cv_exX0 (by omega) ?_)
    by_cases e : cv_ex w am (i + 2) ≤ cv_mx (cv_cf1 w am) i
    · refine br_t e (fun b eb => ?_)
      rw [cv_mxT (f := cv_cf1 w am) e] at K
      rw [eb, nI_1]
      exact K
    · refine br_f e (fun b eb => ?_)
      rw [cv_mxF (f := cv_cf1 w am) e] at K
      rw [eb, nI_1]
      exact K
theorem cv_cpY {post : Int32 → Prop} {w mv pt am : Nat → Int32} (H : post (cv_mx (cv_cf1 w am) 29)) : ∀ d i, i + d = 29 → wY_complaint_15 post w mv pt am (d + 1) (cv_mx (cv_cf1 w am) i) (nI (i + 2)) := by
  intro d
  induction d with
  | zero =>
    intro i hi
    obtain rfl : i = 29 := by omega
    exact br_t (nI_le (a := 31) (by omega) (by omega)) H
  | succ d ih =>
    intro i hi
    have h : ¬ (31 : Int32) ≤ nI (i + 2) := nI_ge (b := 31) (by omega) (by omega)
    have K := ih (i + 1) (by omega)
    refine br_f h ⟨vp_in_nI (by omega) (by omega), cv_shY0 (by omega) (fun x ex => ?_)⟩
    rw [nI_clamp (by omega)] at ex
    have ex' : x = cv_ex w am (i + 2) := ex
    rw [ex']
    by_cases e : cv_ex w am (i + 2) ≤ cv_mx (cv_cf1 w am) i
    · refine br_t e (fun b eb => ?_)
      rw [cv_mxT (f := cv_cf1 w am) e] at K
      rw [eb, nI_1]
      exact K
    · refine br_f e (fun b eb => ?_)
      rw [cv_mxF (f := cv_cf1 w am) e] at K
      rw [eb, nI_1]
      exact K
theorem cv_cpX0 {post : Int32 → Prop} {w am bt : Nat → Int32} (H : post (cv_mx (cv_cf1 w am) 29)) : wpX_complaint post (w, am, bt) := by
  unfold wpX_complaint
  dsimp only
  exact cv_exX0 (c := 1) (by omega) ⟨30, cv_cpX H 29 0 rfl⟩
theorem cv_cpY0 {post : Int32 → Prop} {w mv pt am : Nat → Int32} (H : post (cv_mx (cv_cf1 w am) 29)) : wpY_complaint post (w, mv, pt, am) := by
  unfold wpY_complaint
  dsimp only
  refine cv_shY0 (c := 1) (by omega) (fun x ex => ⟨30, ?_⟩)
  have ex' : x = cv_mx (cv_cf1 w am) 0 := ex
  rw [ex']
  exact cv_cpY H 29 0 rfl
theorem i_vc_complaint {k : Nat} {u : SX} {v : SY} (I : i_Rel k u v) (hk : k + 3 ≤ 1536) : wpX_complaint (fun r => wpY_complaint (fun r' => r' = r ∧ i_Rel (k + 3) u v) v) u := by
  obtain ⟨w, am, bt, mv, pt, rfl, rfl, hg⟩ := I
  exact cv_cpX0 (cv_cpY0 ⟨rfl, cv_rel hg⟩)
theorem cv_icX {post : Int32 → Prop} {w am bt : Nat → Int32} (H1 : (∀ i, i ≤ 29 → cv_cf1 w am i ≤ 0) → post 1) (H0 : ¬ (∀ i, i ≤ 29 → cv_cf1 w am i ≤ 0) → post 0) : ∀ d i, i + d = 30 → (∀ j, j < i → cv_cf1 w am j ≤ 0) → wX_inCore_13 post w am bt (d + 1) (nI (i + 1)) := by
  intro d
  induction d with
  | zero =>
    intro i hi hj
    obtain rfl : i = 30 := by omega
    exact br_t (nI_le (a := 31) (by omega) (by omega)) (H1 (fun j h => hj j (by omega)))
  | succ d ih =>
    intro i hi hj
    have h : ¬ (31 : Int32) ≤ nI (i + 1) := nI_ge (b := 31) (by omega) (by omega)
    refine br_f h (cv_exX0 (by omega) ?_)
    by_cases e : cv_ex w am (i + 1) ≤ 0
    · refine br_t e (fun b eb => ?_)
      rw [eb, nI_1]
      refine ih (i + 1) (by omega) (fun j h => ?_)
      by_cases e2 : j = i
      · subst e2
        exact e
      · exact hj j (by omega)
    · exact br_f e (H0 (fun z => e (z i (by omega))))
theorem i_vc_inCore {k : Nat} {u : SX} {v : SY} (I : i_Rel k u v) (hk : k + 3 ≤ 1536) : wpX_inCore (fun r => wpY_inCore (fun r' => r' = r ∧ i_Rel (k + 3) u v) v) u := by
  obtain ⟨w, am, bt, mv, pt, rfl, rfl, hg⟩ := I
  have R : i_Rel (k + 3) (w, am, bt) (w, mv, pt, am) := cv_rel hg
  unfold wpX_inCore wpY_inCore
  dsimp only
  refine cv_exX0 (c := 31) (by omega) ?_
  by_cases hA : w 31 = cv_sh am 31 5
  · have h0 : cv_ex w am 31 = 0 := by
      unfold cv_ex
      rw [hA, Int32.sub_self]
    refine br_t h0 ⟨31, cv_icX (fun h => ?_) (fun h => ?_) 30 0 rfl (fun j z => by omega)⟩
    · refine cv_shY0 (c := 31) (by omega) (br_t hA (cv_cpY0 (br_f ?_ ⟨rfl, R⟩)))
      exact Int32.not_lt.mpr ((cv_mx0 29).mpr h)
    · refine cv_shY0 (c := 31) (by omega) (br_t hA (cv_cpY0 (br_t ?_ ⟨rfl, R⟩)))
      exact Int32.not_le.mp (fun z => h ((cv_mx0 29).mp z))
  · have h0 : ¬ cv_ex w am 31 = 0 := by
      intro z
      unfold cv_ex at z
      exact hA (by grind)
    exact br_f h0 (cv_shY0 (c := 31) (by omega) (br_f hA ⟨rfl, R⟩))
