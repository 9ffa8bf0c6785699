/-! ===== 03: exchange: both sides against w after the exchange of bits a and b ===== -/
def cv_sg (a b j : Nat) : Nat := if j.testBit a = j.testBit b then j else j ^^^ 2 ^ a ^^^ 2 ^ b
theorem ct_sg : ∀ a, a < 5 → ∀ b, b < 5 → ∀ j, j < 32 → cv_sg a b j < 32 ∧ cv_sg a b (cv_sg a b j) = j ∧ (cv_sg a b j).testBit a = j.testBit b ∧ (cv_sg a b j).testBit b = j.testBit a := by decide +kernel
theorem ct_sgX0 : ∀ a, a < 5 → ∀ b, b < 5 → ∀ j, j < 32 → (j.testBit a && !j.testBit b) = true → ((nI j ^^^ ((1 : Int32) <<< (nI a &&& 31))) ^^^ ((1 : Int32) <<< (nI b &&& 31))) = nI (cv_sg a b j) := by decide +kernel
theorem ct_sgX (a : Nat) (ha : a < 5) (b : Nat) (hb : b < 5) (j : Nat) (hj : j < 32) (h1 : j.testBit a = true) (h2 : ¬ j.testBit b = true) : ((nI j ^^^ ((1 : Int32) <<< (nI a &&& 31))) ^^^ ((1 : Int32) <<< (nI b &&& 31))) = nI (cv_sg a b j) := ct_sgX0 a ha b hb j hj (by rw [h1, Bool.eq_false_iff.mpr h2]; rfl)
def cv_t0 (a b c : Int32) : Int32 := (c &&& (((1 : Int32) <<< (a &&& 31)) ^^^ (-1))) &&& (((1 : Int32) <<< (b &&& 31)) ^^^ (-1))
theorem ct_tFF : ∀ a, a < 5 → ∀ b, b < 5 → ∀ j, j < 32 → ¬ j.testBit a = true → ¬ j.testBit b = true → cv_t0 (nI a) (nI b) (nI j) = nI (cv_sg a b j) := by decide +kernel
theorem ct_tFT : ∀ a, a < 5 → ∀ b, b < 5 → ∀ j, j < 32 → ¬ j.testBit a = true → j.testBit b = true → (cv_t0 (nI a) (nI b) (nI j) ||| ((1 : Int32) <<< (nI a &&& 31))) = nI (cv_sg a b j) := by decide +kernel
theorem ct_tTF0 : ∀ a, a < 5 → ∀ b, b < 5 → ∀ j, j < 32 → (j.testBit a && !j.testBit b) = true → (cv_t0 (nI a) (nI b) (nI j) ||| ((1 : Int32) <<< (nI b &&& 31))) = nI (cv_sg a b j) := by decide +kernel
theorem ct_tTF (a : Nat) (ha : a < 5) (b : Nat) (hb : b < 5) (j : Nat) (hj : j < 32) (h1 : j.testBit a = true) (h2 : ¬ j.testBit b = true) : (cv_t0 (nI a) (nI b) (nI j) ||| ((1 : Int32) <<< (nI b &&& 31))) = nI (cv_sg a b j) := ct_tTF0 a ha b hb j hj (by rw [h1, Bool.eq_false_iff.mpr h2]; rfl)
theorem ct_tTT : ∀ a, a < 5 → ∀ b, b < 5 → ∀ j, j < 32 → j.testBit a = true → j.testBit b = true → ((cv_t0 (nI a) (nI b) (nI j) ||| ((1 : Int32) <<< (nI b &&& 31))) ||| ((1 : Int32) <<< (nI a &&& 31))) = nI (cv_sg a b j) := by decide +kernel
/-- the worths after the exchange -/
def cv_ew (w : Nat → Int32) (a b : Nat) : Nat → Int32 := fun j => if j < 32 then w (cv_sg a b j) else w j
theorem cv_ewGood {w : Nat → Int32} {a b : Nat} (h : cv_Good w) : cv_Good (cv_ew w a b) := by
  refine ⟨?_, fun j => ?_⟩
  · show (if 0 < 32 then w (cv_sg a b 0) else w 0) = 0
    have e : cv_sg a b 0 = 0 := by
      unfold cv_sg
      rw [Nat.zero_testBit, Nat.zero_testBit]
      exact if_pos rfl
    rw [if_pos (by omega), e]
    exact h.1
  · unfold cv_ew
    by_cases e : j < 32
    · rw [if_pos e]
      exact h.2 _
    · rw [if_neg e]
      exact h.2 _
/-! X: swaps done below c -/
def cv_xd (a b c j : Nat) : Prop := j < 32 ∧ ((j.testBit a = true ∧ ¬ j.testBit b = true ∧ j < c) ∨ (j.testBit b = true ∧ ¬ j.testBit a = true ∧ cv_sg a b j < c))
noncomputable def cv_xw (w : Nat → Int32) (a b c : Nat) : Nat → Int32 := fun j => @ite _ (cv_xd a b c j) (Classical.propDecidable _) (w (cv_sg a b j)) (w j)
theorem cv_xwT {w : Nat → Int32} {a b c j : Nat} (h : cv_xd a b c j) : cv_xw w a b c j = w (cv_sg a b j) := if_pos h
theorem cv_xwF {w : Nat → Int32} {a b c j : Nat} (h : ¬ cv_xd a b c j) : cv_xw w a b c j = w j := if_neg h
theorem cv_xwE {w : Nat → Int32} {a b c c' j : Nat} (h : cv_xd a b c j ↔ cv_xd a b c' j) : cv_xw w a b c j = cv_xw w a b c' j := by
  by_cases e : cv_xd a b c j
  · rw [cv_xwT e, cv_xwT (h.mp e)]
  · rw [cv_xwF e, cv_xwF (fun z => e (h.mpr z))]
theorem cv_xw1 {w : Nat → Int32} {a b : Nat} (ha : a < 5) (hb : b < 5) : cv_xw w a b 1 = w := by
  funext j
  refine cv_xwF ?_
  rintro ⟨hj, h⟩
  rcases h with ⟨h1, h2, h3⟩ | ⟨h1, h2, h3⟩
  · obtain rfl : j = 0 := by omega
    rw [Nat.zero_testBit] at h1
    exact absurd h1 (by decide)
  · have e0 : cv_sg a b j = 0 := by omega
    have e1 := (ct_sg a ha b hb j hj).2.2.1
    rw [e0, Nat.zero_testBit, h1] at e1
    exact absurd e1 (by decide)
/-- c is no coalition with a alone: nothing is done -/
theorem cv_xwS {w : Nat → Int32} {a b c : Nat} (ha : a < 5) (hb : b < 5) (h : ¬ (c.testBit a = true ∧ ¬ c.testBit b = true)) : cv_xw w a b (c + 1) = cv_xw w a b c := by
  funext j
  refine cv_xwE ⟨fun ⟨hj, H⟩ => ⟨hj, ?_⟩, fun ⟨hj, H⟩ => ⟨hj, ?_⟩⟩
  · rcases H with ⟨h1, h2, h3⟩ | ⟨h1, h2, h3⟩
    · have : j ≠ c := fun e => h (e ▸ ⟨h1, h2⟩)
      exact Or.inl ⟨h1, h2, by omega⟩
    · have t := ct_sg a ha b hb j hj
      have : cv_sg a b j ≠ c := fun e => h (by rw [← e, t.2.2.1, t.2.2.2]; exact ⟨h1, h2⟩)
      exact Or.inr ⟨h1, h2, by omega⟩
  · rcases H with ⟨h1, h2, h3⟩ | ⟨h1, h2, h3⟩
    · exact Or.inl ⟨h1, h2, by omega⟩
    · exact Or.inr ⟨h1, h2, by omega⟩
/-- c has a alone: it changes places with its image -/
theorem cv_xwU {w : Nat → Int32} {a b c : Nat} (ha : a < 5) (hb : b < 5) (hc : c < 32) (h1 : c.testBit a = true) (h2 : ¬ c.testBit b = true) : upd (upd (cv_xw w a b c) c (cv_xw w a b c (cv_sg a b c))) (cv_sg a b c) (cv_xw w a b c c) = cv_xw w a b (c + 1) := by
  have t := ct_sg a ha b hb c hc
  have g1 : (cv_sg a b c).testBit b = true := by rw [t.2.2.2]; exact h1
  have g2 : ¬ (cv_sg a b c).testBit a = true := by rw [t.2.2.1]; exact h2
  have ne : c ≠ cv_sg a b c := fun e => h2 (e ▸ g1)
  have k1 : cv_xw w a b c c = w c := cv_xwF (by
    rintro ⟨_, H⟩
    rcases H with ⟨_, _, z⟩ | ⟨z, _, _⟩
    · omega
    · exact h2 z)
  have k2 : cv_xw w a b c (cv_sg a b c) = w (cv_sg a b c) := cv_xwF (by
    rintro ⟨_, H⟩
    rcases H with ⟨z, _, _⟩ | ⟨_, _, z⟩
    · exact g2 z
    · rw [t.2.1] at z; omega)
  funext j
  by_cases e1 : j = cv_sg a b c
  · subst e1
    rw [pk_us, k1, cv_xwT ⟨t.1, Or.inr ⟨g1, g2, by rw [t.2.1]; omega⟩⟩, t.2.1]
  · rw [pk_un e1]
    by_cases e2 : j = c
    · subst e2
      rw [pk_us, k2, cv_xwT ⟨hc, Or.inl ⟨h1, h2, by omega⟩⟩]
    · rw [pk_un e2]
      refine cv_xwE ⟨fun ⟨hj, H⟩ => ⟨hj, ?_⟩, fun ⟨hj, H⟩ => ⟨hj, ?_⟩⟩
      · rcases H with ⟨z1, z2, z3⟩ | ⟨z1, z2, z3⟩
        · exact Or.inl ⟨z1, z2, by omega⟩
        · exact Or.inr ⟨z1, z2, by omega⟩
      · rcases H with ⟨z1, z2, z3⟩ | ⟨z1, z2, z3⟩
        · exact Or.inl ⟨z1, z2, by omega⟩
        · have : cv_sg a b j ≠ c := fun e => e1 (by rw [← e, (ct_sg a ha b hb j hj).2.1])
          exact Or.inr ⟨z1, z2, by omega⟩
theorem cv_xwEnd {w : Nat → Int32} {a b : Nat} (ha : a < 5) (hb : b < 5) : cv_xw w a b 32 = cv_ew w a b := by
  funext j
  unfold cv_ew
  by_cases hj : j < 32
  · rw [if_pos hj]
    have t := ct_sg a ha b hb j hj
    by_cases e : cv_xd a b 32 j
    · exact cv_xwT e
    · rw [cv_xwF e]
      have q : j.testBit a = j.testBit b := by
        by_cases h1 : j.testBit a = true
        · by_cases h2 : j.testBit b = true
          · rw [h1, h2]
          · exact absurd ⟨hj, Or.inl ⟨h1, h2, hj⟩⟩ e
        · by_cases h2 : j.testBit b = true
          · exact absurd ⟨hj, Or.inr ⟨h2, h1, t.1⟩⟩ e
          · rw [Bool.eq_false_iff.mpr h1, Bool.eq_false_iff.mpr h2]
      have : cv_sg a b j = j := if_pos q
      rw [this]
  · rw [if_neg hj]
    exact cv_xwF (fun z => hj z.1)
theorem cv_exX {post : Int32 → SX → Prop} {w am bt : Nat → Int32} {a b : Nat} (ha : a < 5) (hb : b < 5) (H : post 0 (cv_ew w a b, am, bt)) : ∀ d c, c + d = 32 → wX_exchange_19 post (nI a) (nI b) (d + 1) (nI c) (cv_xw w a b c) am bt := by
  intro d
  induction d with
  | zero =>
    intro c hc
    obtain rfl : c = 32 := by omega
    refine br_t (nI_le (a := 32) (by omega) (by omega)) ?_
    rw [cv_xwEnd ha hb]
    exact H
  | succ d ih =>
    intro c hc
    have h : ¬ (32 : Int32) ≤ nI c := nI_ge (b := 32) (by omega) (by omega)
    have hc' : c < 32 := by omega
    have hi : vp_in (nI c) 32 := vp_in_nI hc' (by omega)
    by_cases h1 : c.testBit a = true
    · refine br_f h (cv_hasT hc' ha h1 ?_)
      by_cases h2 : c.testBit b = true
      · refine cv_hasT hc' hb h2 (fun y ey => ?_)
        rw [ey, nI_1, ← cv_xwS ha hb (fun z => z.2 h2)]
        exact ih (c + 1) (by omega)
      · have t := ct_sg a ha b hb c hc'
        have hs : vp_in (nI (cv_sg a b c)) 32 := vp_in_nI t.1 (by omega)
        refine cv_hasF hc' hb h2 (nm_r (ct_sgX a ha b hb c hc' h1 h2) ⟨hi, fun x ex => ⟨hs, hi, fun f ef => ⟨hs, fun g eg y ey => ?_⟩⟩⟩)
        rw [nI_clamp (by omega)] at ex ef
        rw [nI_clamp (by omega)] at ef eg
        rw [ey, nI_1, eg, ef, ex, cv_xwU ha hb hc' h1 h2]
        exact ih (c + 1) (by omega)
    · refine br_f h (cv_hasF hc' ha h1 (fun y ey => ?_))
      rw [ey, nI_1, ← cv_xwS ha hb (fun z => h1 z.1)]
      exact ih (c + 1) (by omega)
/-! Y: written below c -/
def cv_yw (w : Nat → Int32) (a b c : Nat) : Nat → Int32 := fun j => if j < 32 ∧ cv_sg a b j < c then w (cv_sg a b j) else w j
theorem cv_yw0 (w : Nat → Int32) (a b : Nat) : cv_yw w a b 0 = w := by
  funext j
  exact if_neg (by omega)
theorem cv_ywU {w : Nat → Int32} {a b c : Nat} (ha : a < 5) (hb : b < 5) (hc : c < 32) : upd (cv_yw w a b c) (cv_sg a b c) (w c) = cv_yw w a b (c + 1) := by
  have t := ct_sg a ha b hb c hc
  funext j
  by_cases e : j = cv_sg a b c
  · subst e
    rw [pk_us]
    unfold cv_yw
    rw [t.2.1, if_pos ⟨t.1, by omega⟩]
  · rw [pk_un e]
    unfold cv_yw
    by_cases hj : j < 32
    · have ne : cv_sg a b j ≠ c := fun z => e (by rw [← z, (ct_sg a ha b hb j hj).2.1])
      by_cases q : cv_sg a b j < c
      · rw [if_pos ⟨hj, q⟩, if_pos ⟨hj, by omega⟩]
      · rw [if_neg (fun z => q z.2), if_neg (fun z => q (by have := z.2; omega))]
    · rw [if_neg (fun z => hj z.1), if_neg (fun z => hj z.1)]
theorem cv_ywEnd {w : Nat → Int32} {a b : Nat} (ha : a < 5) (hb : b < 5) : cv_yw w a b 32 = cv_ew w a b := by
  funext j
  unfold cv_yw cv_ew
  by_cases hj : j < 32
  · rw [if_pos hj, if_pos ⟨hj, (ct_sg a ha b hb j hj).1⟩]
  · rw [if_neg hj, if_neg (fun z => hj z.1)]
theorem cv_y100 {post : Int32 → SY → Prop} {J : Int32 → (Nat → Int32) → (Nat → Int32) → (Nat → Int32) → (Nat → Int32) → Prop} {x1 x2 : Int32} {a b c : Nat} {w mv pt am : Nat → Int32} (ha : a < 5) (hb : b < 5) (hc : c < 32) (hm : mv c = w c) (H : J (nI (c + 1)) (cv_yw w a b (c + 1)) mv pt am) : wY_exchange_100 post J x1 x2 (nI c) (nI (cv_sg a b c)) (cv_yw w a b c) mv pt am := by
  have t := ct_sg a ha b hb c hc
  unfold wY_exchange_100
  refine ⟨vp_in_nI hc (by omega), vp_in_nI t.1 (by omega), fun f ef y ey => ?_⟩
  rw [nI_clamp (by omega)] at ef
  rw [nI_clamp (by omega)] at ef
  rw [ef, ey, nI_1, hm, cv_ywU ha hb hc]
  exact H
theorem cv_exY {post : Int32 → SY → Prop} {w mv pt am : Nat → Int32} {a b : Nat} (ha : a < 5) (hb : b < 5) (hm : ∀ j, j < 32 → mv j = w j) (H : post 0 (cv_ew w a b, mv, pt, am)) : ∀ d c, c + d = 32 → wY_exchange_47 post (nI a) (nI b) (d + 1) (nI c) (cv_yw w a b c) mv pt am := by
  intro d
  induction d with
  | zero =>
    intro c hc
    obtain rfl : c = 32 := by omega
    refine br_t (nI_le (a := 32) (by omega) (by omega)) ?_
    rw [cv_ywEnd ha hb]
    exact H
  | succ d ih =>
    intro c hc
    have h : ¬ (32 : Int32) ≤ nI c := nI_ge (b := 32) (by omega) (by omega)
    have hc' : c < 32 := by omega
    have K := ih (c + 1) (by omega)
    refine br_f h (fun t et => ?_)
    have et' : t = cv_t0 (nI a) (nI b) (nI c) := et
    by_cases h1 : c.testBit a = true
    · refine cv_bT hc' ha h1 (fun t1 e1 => ?_)
      unfold wY_exchange_84
      by_cases h2 : c.testBit b = true
      · refine cv_bT hc' hb h2 (fun t2 e2 => ?_)
        rw [e2, e1, et', ct_tTT a ha b hb c hc' h1 h2]
        exact cv_y100 ha hb hc' (hm c hc') K
      · refine cv_bF hc' hb h2 ?_
        rw [e1, et', ct_tTF a ha b hb c hc' h1 h2]
        exact cv_y100 ha hb hc' (hm c hc') K
    · refine cv_bF hc' ha h1 ?_
      unfold wY_exchange_84
      by_cases h2 : c.testBit b = true
      · refine cv_bT hc' hb h2 (fun t2 e2 => ?_)
        rw [e2, et', ct_tFT a ha b hb c hc' h1 h2]
        exact cv_y100 ha hb hc' (hm c hc') K
      · refine cv_bF hc' hb h2 ?_
        rw [et', ct_tFF a ha b hb c hc' h1 h2]
        exact cv_y100 ha hb hc' (hm c hc') K
theorem cv_mvY {post : Int32 → SY → Prop} {x1 x2 : Int32} {w pt am : Nat → Int32} (H : ∀ mv : Nat → Int32, (∀ j, j < 32 → mv j = w j) → ∃ n, wY_exchange_47 post x1 x2 n 0 w mv pt am) : ∀ d c mv, c + d = 32 → (∀ j, j < c → mv j = w j) → wY_exchange_21 post x1 x2 (d + 1) (nI c) w mv pt am := by
  intro d
  induction d with
  | zero =>
    intro c mv hc hm
    obtain rfl : c = 32 := by omega
    exact br_t (nI_le (a := 32) (by omega) (by omega)) (H mv hm)
  | succ d ih =>
    intro c mv hc hm
    have h : ¬ (32 : Int32) ≤ nI c := nI_ge (b := 32) (by omega) (by omega)
    have hi : vp_in (nI c) 32 := vp_in_nI (by omega) (by omega)
    refine br_f h ⟨hi, hi, fun f ef y ey => ?_⟩
    rw [nI_clamp (by omega)] at ef
    rw [ef, ey, nI_1]
    refine ih (c + 1) _ (by omega) (fun j hj => ?_)
    by_cases e : j = c
    · subst e
      exact pk_us
    · rw [pk_un e]
      exact hm j (by omega)
theorem i_vc_exchange {k : Nat} {u : SX} {v : SY} (I : i_Rel k u v) (hk : k + 3 ≤ 1536) (v1 : Int32) (v2 : Int32) : wpX_exchange (fun r u' => wpY_exchange (fun r' v' => r' = r ∧ i_Rel (k + 3) u' v') v v1 v2) u v1 v2 := by
  obtain ⟨w, am, bt, mv, pt, rfl, rfl, hg⟩ := I
  unfold wpX_exchange wpY_exchange
  dsimp only
  rcases cv_pl v1 with ⟨hX, hY⟩ | ⟨a, ha, rfl, hX, hY⟩
  · exact hX _ (br_t rfl (hY _ _ (br_t rfl ⟨rfl, cv_rel hg⟩)))
  · refine hX _ (br_f (by decide) ?_)
    rcases cv_pl v2 with ⟨hX2, hY2⟩ | ⟨b, hb, rfl, hX2, hY2⟩
    · exact hX2 _ (br_t rfl (hY _ _ (br_f (by decide) (hY2 _ _ (br_t rfl ⟨rfl, cv_rel hg⟩)))))
    · refine hX2 _ (br_f (by decide) ⟨32, ?_⟩)
      have K : ∀ post : Int32 → SX → Prop, post 0 (cv_ew w a b, am, bt) → wX_exchange_19 post (nI a) (nI b) 32 1 w am bt := by
        intro post hp
        have := cv_exX (w := w) ha hb hp 31 1 rfl
        rw [cv_xw1 ha hb] at this
        exact this
      refine K _ ?_
      refine hY _ _ (br_f (by decide) (hY2 _ _ (br_f (by decide) ⟨33, ?_⟩)))
      refine cv_mvY (fun mv' hm => ⟨33, ?_⟩) 32 0 mv rfl (fun j hj => by omega)
      have := cv_exY (post := fun r' v' => r' = 0 ∧ i_Rel (k + 3) (cv_ew w a b, am, bt) v') (w := w) (mv := mv') (pt := pt) (am := am) ha hb hm ⟨rfl, cv_rel (cv_ewGood hg)⟩ 32 0 rfl
      rw [cv_yw0] at this
      exact this
