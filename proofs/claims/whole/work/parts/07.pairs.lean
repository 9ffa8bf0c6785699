/-! ===== 07: convex, superadditive, alike ===== -/
def cv_C (w : Nat → Int32) (s t : Nat) : Prop := w s + w t ≤ w (s ||| t) + w (s &&& t)
theorem cv_cxX1 {post : Int32 → Prop} {J : Int32 → Prop} {w am bt : Nat → Int32} {s : Nat} (hs : s < 32) (H1 : (∀ t, t < 32 → cv_C w s t) → J (nI (s + 1))) (H0 : ¬ (∀ t, t < 32 → cv_C w s t) → post 0) : ∀ d t, t + d = 32 → (∀ j, j < t → cv_C w s j) → wX_convex_10 post J (nI s) w am bt (d + 1) (nI t) := by
  intro d
  induction d with
  | zero =>
    intro t ht hj
    obtain rfl : t = 32 := by omega
    refine br_t (nI_le (a := 32) (by omega) (by omega)) (fun b eb => ?_)
    rw [eb, nI_1]
    exact H1 hj
  | succ d ih =>
    intro t ht hj
    have h : ¬ (32 : Int32) ≤ nI t := nI_ge (b := 32) (by omega) (by omega)
    have ht' : t < 32 := by omega
    have to := ct_or s hs t ht'
    have ta := ct_and s hs t ht'
    refine br_f h ?_
    rw [to.1, ta.1]
    refine ⟨vp_in_nI to.2 (by omega), vp_in_nI ta.2 (by omega), vp_in_nI hs (by omega), vp_in_nI ht' (by omega), ?_⟩
    rw [nI_clamp (ct_lt32 to.2), nI_clamp (ct_lt32 ta.2), nI_clamp (ct_lt32 hs), nI_clamp (ct_lt32 ht')]
    by_cases e : w s + w t ≤ w (s ||| t) + w (s &&& t)
    · refine br_t e (fun b eb => ?_)
      rw [eb, nI_1]
      refine ih (t + 1) (by omega) (fun j h => ?_)
      by_cases e2 : j = t
      · subst e2
        exact e
      · exact hj j (by omega)
    · exact br_f e (H0 (fun z => e (z t ht')))
theorem cv_cxX {post : Int32 → Prop} {w am bt : Nat → Int32} (H1 : (∀ s, s < 32 → ∀ t, t < 32 → cv_C w s t) → post 1) (H0 : ¬ (∀ s, s < 32 → ∀ t, t < 32 → cv_C w s t) → post 0) : ∀ d s, s + d = 32 → (∀ j, j < s → ∀ t, t < 32 → cv_C w j t) → wX_convex_2 post w am bt (d + 1) (nI s) := by
  intro d
  induction d with
  | zero =>
    intro s hs hj
    obtain rfl : s = 32 := by omega
    exact br_t (nI_le (a := 32) (by omega) (by omega)) (H1 hj)
  | succ d ih =>
    intro s hs hj
    have h : ¬ (32 : Int32) ≤ nI s := nI_ge (b := 32) (by omega) (by omega)
    refine br_f h ⟨33, cv_cxX1 (by omega) (fun z => ?_) (fun z => H0 (fun y => z (y s (by omega)))) 32 0 rfl (fun j y => by omega)⟩
    refine ih (s + 1) (by omega) (fun j hjs => ?_)
    by_cases e : j = s
    · subst e
      exact z
    · exact hj j (by omega)
theorem cv_cxY {post : Int32 → Prop} {w mv pt am : Nat → Int32} (H1 : (∀ k, k < 1024 → cv_C w (k / 32) (k % 32)) → post 1) (H0 : ¬ (∀ k, k < 1024 → cv_C w (k / 32) (k % 32)) → post 0) : ∀ d k, k + d = 1024 → (∀ j, j < k → cv_C w (j / 32) (j % 32)) → wY_convex_2 post w mv pt am (d + 1) (nI k) := by
  intro d
  induction d with
  | zero =>
    intro k hk hj
    obtain rfl : k = 1024 := by omega
    exact br_t (nI_le (a := 1024) (by omega) (by omega)) (H1 hj)
  | succ d ih =>
    intro k hk hj
    have h : ¬ (1024 : Int32) ≤ nI k := nI_ge (b := 1024) (by omega) (by omega)
    have hs : k / 32 < 32 := by omega
    have ht : k % 32 < 32 := by omega
    have to := ct_or (k / 32) hs (k % 32) ht
    have ta := ct_and (k / 32) hs (k % 32) ht
    have n0 : ¬ (32 : Int32) = 0 := by decide
    have ed : nI k / 32 = nI (k / 32) := pk_div (a := k) (d := 32) (by omega) (by omega) (by omega)
    have er : nI k - nI k / 32 * 32 = nI (k % 32) := pk_rem (a := k) (d := 32) (by omega) (by omega) (by omega)
    refine br_f h ⟨n0, nm_r ed ⟨n0, nm_r er ?_⟩⟩
    rw [to.1, ta.1]
    refine ⟨vp_in_nI to.2 (by omega), vp_in_nI ta.2 (by omega), vp_in_nI hs (by omega), vp_in_nI ht (by omega), ?_⟩
    rw [nI_clamp (ct_lt32 to.2), nI_clamp (ct_lt32 ta.2), nI_clamp (ct_lt32 hs), nI_clamp (ct_lt32 ht)]
    by_cases e : w (k / 32) + w (k % 32) ≤ w (k / 32 ||| k % 32) + w (k / 32 &&& k % 32)
    · refine br_t e (fun b eb => ?_)
      rw [eb, nI_1]
      refine ih (k + 1) (by omega) (fun j h => ?_)
      by_cases e2 : j = k
      · subst e2
        exact e
      · exact hj j (by omega)
    · exact br_f e (H0 (fun z => e (z k (by omega))))
/-- all pairs, in a row or in a square -/
theorem cv_sq {C : Nat → Nat → Prop} : (∀ k, k < 1024 → C (k / 32) (k % 32)) ↔ (∀ s, s < 32 → ∀ t, t < 32 → C s t) := by
  constructor
  · intro h s hs t ht
    have := h (32 * s + t) (by omega)
    rw [show (32 * s + t) / 32 = s from by omega, show (32 * s + t) % 32 = t from by omega] at this
    exact this
  · intro h k hk
    exact h (k / 32) (by omega) (k % 32) (by omega)
theorem i_vc_convex {k : Nat} {u : SX} {v : SY} (I : i_Rel k u v) (hk : k + 3 ≤ 1536) : wpX_convex (fun r => wpY_convex (fun r' => r' = r ∧ i_Rel (k + 3) u v) v) u := by
  obtain ⟨w, am, bt, mv, pt, rfl, rfl, hg⟩ := I
  have R : i_Rel (k + 3) (w, am, bt) (w, mv, pt, am) := cv_rel hg
  unfold wpX_convex wpY_convex
  dsimp only
  refine ⟨33, cv_cxX (fun h => ?_) (fun h => ?_) 32 0 rfl (fun j y => by omega)⟩
  · exact ⟨1025, cv_cxY (fun _ => ⟨rfl, R⟩) (fun z => absurd (cv_sq.mpr h) z) 1024 0 rfl (fun j y => by omega)⟩
  · exact ⟨1025, cv_cxY (fun z => absurd (cv_sq.mp z) h) (fun _ => ⟨rfl, R⟩) 1024 0 rfl (fun j y => by omega)⟩
/-! superadditive -/
def cv_D (w : Nat → Int32) (s t : Nat) : Prop := s &&& t = 0 → w s + w t ≤ w (s ||| t)
theorem cv_saX1 {post : Int32 → Prop} {J : Int32 → Prop} {w am bt : Nat → Int32} {s : Nat} (hs : s < 32) (H1 : (∀ t, t < 32 → cv_D w s t) → J (nI (s + 1))) (H0 : ¬ (∀ t, t < 32 → cv_D w s t) → post 0) : ∀ d t, t + d = 32 → (∀ j, j < t → cv_D w s j) → wX_superadditive_10 post J (nI s) w am bt (d + 1) (nI t) := by
  intro d
  induction d with
  | zero =>
    intro t ht hj
    obtain rfl : t = 32 := by omega
    refine br_t (nI_le (a := 32) (by omega) (by omega)) (fun b eb => ?_)
    rw [eb, nI_1]
    exact H1 hj
  | succ d ih =>
    intro t ht hj
    have h : ¬ (32 : Int32) ≤ nI t := nI_ge (b := 32) (by omega) (by omega)
    have ht' : t < 32 := by omega
    have to := ct_or s hs t ht'
    have ta := ct_and s hs t ht'
    have K : cv_D w s t → wX_superadditive_10 post J (nI s) w am bt (d + 1) (nI (t + 1)) := fun hd => ih (t + 1) (by omega) (fun j h => by
      by_cases e2 : j = t
      · subst e2
        exact hd
      · exact hj j (by omega))
    refine br_f h ?_
    rw [to.1, ta.1]
    by_cases z : s &&& t = 0
    · refine br_t (by rw [z]; rfl) ?_
      refine ⟨vp_in_nI to.2 (by omega), vp_in_nI hs (by omega), vp_in_nI ht' (by omega), ?_⟩
      rw [nI_clamp (ct_lt32 to.2), nI_clamp (ct_lt32 hs), nI_clamp (ct_lt32 ht')]
      by_cases e : w s + w t ≤ w (s ||| t)
      · refine br_t e (fun b eb => ?_)
        rw [eb, nI_1]
        exact K (fun _ => e)
      · exact br_f e (H0 (fun y => e (y t ht' z)))
    · refine br_f (nI_ne0 (by omega) (ct_lt32 ta.2)) (fun b eb => ?_)
      rw [eb, nI_1]
      exact K (fun y => absurd y z)
theorem cv_saX {post : Int32 → Prop} {w am bt : Nat → Int32} (H1 : (∀ s, s < 32 → ∀ t, t < 32 → cv_D w s t) → post 1) (H0 : ¬ (∀ s, s < 32 → ∀ t, t < 32 → cv_D w s t) → post 0) : ∀ d s, s + d = 32 → (∀ j, j < s → ∀ t, t < 32 → cv_D w j t) → wX_superadditive_2 post w am bt (d + 1) (nI s) := by
  intro d
  induction d with
  | zero =>
    intro s hs hj
    obtain rfl : s = 32 := by omega
    exact br_t (nI_le (a := 32) (by omega) (by omega)) (H1 hj)
  | succ d ih =>
    intro s hs hj
    have h : ¬ (32 : Int32) ≤ nI s := nI_ge (b := 32) (by omega) (by omega)
    refine br_f h ⟨33, cv_saX1 (by omega) (fun z => ?_) (fun z => H0 (fun y => z (y s (by omega)))) 32 0 rfl (fun j y => by omega)⟩
    refine ih (s + 1) (by omega) (fun j hjs => ?_)
    by_cases e : j = s
    · subst e
      exact z
    · exact hj j (by omega)
theorem cv_saY {post : Int32 → Prop} {w mv pt am : Nat → Int32} (H1 : (∀ k, k < 1024 → cv_D w (k / 32) (k % 32)) → post 1) (H0 : ¬ (∀ k, k < 1024 → cv_D w (k / 32) (k % 32)) → post 0) : ∀ d k, k + d = 1024 → (∀ j, j < k → cv_D w (j / 32) (j % 32)) → wY_superadditive_2 post w mv pt am (d + 1) (nI k) := by
  intro d
  induction d with
  | zero =>
    intro k hk hj
    obtain rfl : k = 1024 := by omega
    exact br_t (nI_le (a := 1024) (by omega) (by omega)) (H1 hj)
  | succ d ih =>
    intro k hk hj
    have h : ¬ (1024 : Int32) ≤ nI k := nI_ge (b := 1024) (by omega) (by omega)
    have hs : k / 32 < 32 := by omega
    have ht : k % 32 < 32 := by omega
    have to := ct_or (k / 32) hs (k % 32) ht
    have ta := ct_and (k / 32) hs (k % 32) ht
    have n0 : ¬ (32 : Int32) = 0 := by decide
    have ed : nI k / 32 = nI (k / 32) := pk_div (a := k) (d := 32) (by omega) (by omega) (by omega)
    have er : nI k - nI k / 32 * 32 = nI (k % 32) := pk_rem (a := k) (d := 32) (by omega) (by omega) (by omega)
    have K : cv_D w (k / 32) (k % 32) → wY_superadditive_2 post w mv pt am (d + 1) (nI (k + 1)) := fun hd => ih (k + 1) (by omega) (fun j h => by
      by_cases e2 : j = k
      · subst e2
        exact hd
      · exact hj j (by omega))
    refine br_f h ⟨n0, nm_r ed ⟨n0, nm_r er ?_⟩⟩
    rw [to.1, ta.1]
    by_cases z : k / 32 &&& k % 32 = 0
    · refine br_t (by rw [z]; rfl) ?_
      refine ⟨vp_in_nI to.2 (by omega), vp_in_nI hs (by omega), vp_in_nI ht (by omega), ?_⟩
      rw [nI_clamp (ct_lt32 to.2), nI_clamp (ct_lt32 hs), nI_clamp (ct_lt32 ht)]
      by_cases e : w (k / 32) + w (k % 32) ≤ w (k / 32 ||| k % 32)
      · refine br_t e (fun b eb => ?_)
        rw [eb, nI_1]
        exact K (fun _ => e)
      · exact br_f e (H0 (fun y => e (y k (by omega) z)))
    · refine br_f (nI_ne0 (by omega) (ct_lt32 ta.2)) (fun b eb => ?_)
      rw [eb, nI_1]
      exact K (fun y => absurd y z)
theorem i_vc_superadditive {k : Nat} {u : SX} {v : SY} (I : i_Rel k u v) (hk : k + 3 ≤ 1536) : wpX_superadditive (fun r => wpY_superadditive (fun r' => r' = r ∧ i_Rel (k + 3) u v) v) u := by
  obtain ⟨w, am, bt, mv, pt, rfl, rfl, hg⟩ := I
  have R : i_Rel (k + 3) (w, am, bt) (w, mv, pt, am) := cv_rel hg
  unfold wpX_superadditive wpY_superadditive
  dsimp only
  refine ⟨33, cv_saX (fun h => ?_) (fun h => ?_) 32 0 rfl (fun j y => by omega)⟩
  · exact ⟨1025, cv_saY (fun _ => ⟨rfl, R⟩) (fun z => absurd (cv_sq.mpr h) z) 1024 0 rfl (fun j y => by omega)⟩
  · exact ⟨1025, cv_saY (fun z => absurd (cv_sq.mp z) h) (fun _ => ⟨rfl, R⟩) 1024 0 rfl (fun j y => by omega)⟩
/-! alike -/
theorem cv_al {w am bt mv pt : Nat → Int32} {a b : Nat} (ha : a < 5) (hb : b < 5) : ∀ d c, c + d = 32 → ∃ r : Int32, (∀ post : Int32 → Prop, post r → wX_alike_18 post (nI a) (nI b) w am bt (d + 1) (nI c)) ∧ (∀ post : Int32 → Prop, post r → wY_alike_20 post (nI a) (nI b) w mv pt am (d + 1) (nI c)) := by
  intro d
  induction d with
  | zero =>
    intro c hc
    have h : (32 : Int32) ≤ nI c := nI_le (a := 32) (by omega) (by omega)
    exact ⟨1, fun _ hp => br_t h hp, fun _ hp => br_t h hp⟩
  | succ d ih =>
    intro c hc
    have h : ¬ (32 : Int32) ≤ nI c := nI_ge (b := 32) (by omega) (by omega)
    have hc' : c < 32 := by omega
    obtain ⟨r, hX, hY⟩ := ih (c + 1) (by omega)
    by_cases h1 : c.testBit a = true
    · refine ⟨r, fun post hp => br_f h (cv_hasT hc' ha h1 ?_), fun post hp => br_f h (cv_bT hc' ha h1 ?_)⟩
      · unfold wX_alike_44 wX_alike_45
        refine br_t rfl (fun y ey => ?_)
        rw [ey, nI_1]
        exact hX post hp
      · unfold wY_alike_46 wY_alike_47
        refine br_t rfl (fun y ey => ?_)
        rw [ey, nI_1]
        exact hY post hp
    · by_cases h2 : c.testBit b = true
      · refine ⟨r, fun post hp => br_f h (cv_hasF hc' ha h1 (cv_hasT hc' hb h2 ?_)), fun post hp => br_f h (cv_bF hc' ha h1 (cv_bT hc' hb h2 ?_))⟩
        · unfold wX_alike_44 wX_alike_45
          refine br_t rfl (fun y ey => ?_)
          rw [ey, nI_1]
          exact hX post hp
        · unfold wY_alike_46 wY_alike_47
          refine br_t rfl (fun y ey => ?_)
          rw [ey, nI_1]
          exact hY post hp
      · have ta := ct_bit c hc' a ha
        have tb := ct_bit c hc' b hb
        by_cases e : w (c ||| 2 ^ a) = w (c ||| 2 ^ b)
        · refine ⟨r, fun post hp => br_f h (cv_hasF hc' ha h1 (cv_hasF hc' hb h2 ?_)), fun post hp => br_f h (cv_bF hc' ha h1 (cv_bF hc' hb h2 ?_))⟩
          · unfold wX_alike_45
            refine br_f (by decide) (cv_mar hc' ha (cv_mar hc' hb (br_t (by rw [e]) (fun y ey => ?_))))
            rw [ey, nI_1]
            exact hX post hp
          · unfold wY_alike_47
            refine br_f (by decide) ?_
            rw [ta.1, tb.1]
            refine ⟨vp_in_nI ta.2 (by omega), vp_in_nI tb.2 (by omega), ?_⟩
            rw [nI_clamp (ct_lt32 ta.2), nI_clamp (ct_lt32 tb.2)]
            refine br_t e (fun y ey => ?_)
            rw [ey, nI_1]
            exact hY post hp
        · refine ⟨0, fun post hp => br_f h (cv_hasF hc' ha h1 (cv_hasF hc' hb h2 ?_)), fun post hp => br_f h (cv_bF hc' ha h1 (cv_bF hc' hb h2 ?_))⟩
          · unfold wX_alike_45
            have ne : ¬ (w (c ||| 2 ^ a) - w c = w (c ||| 2 ^ b) - w c) := fun z => e (by grind)
            exact br_f (by decide) (cv_mar hc' ha (cv_mar hc' hb (br_f ne hp)))
          · unfold wY_alike_47
            refine br_f (by decide) ?_
            rw [ta.1, tb.1]
            refine ⟨vp_in_nI ta.2 (by omega), vp_in_nI tb.2 (by omega), ?_⟩
            rw [nI_clamp (ct_lt32 ta.2), nI_clamp (ct_lt32 tb.2)]
            exact br_f e hp
theorem i_vc_alike {k : Nat} {u : SX} {v : SY} (I : i_Rel k u v) (hk : k + 3 ≤ 1536) (v1 : Int32) (v2 : Int32) : wpX_alike (fun r => wpY_alike (fun r' => r' = r ∧ i_Rel (k + 3) u v) v v1 v2) u v1 v2 := by
  obtain ⟨w, am, bt, mv, pt, rfl, rfl, hg⟩ := I
  have R : i_Rel (k + 3) (w, am, bt) (w, mv, pt, am) := cv_rel hg
  unfold wpX_alike wpY_alike
  dsimp only
  rcases cv_pl v1 with ⟨hX, hY⟩ | ⟨a, ha, rfl, hX, hY⟩
  · exact hX _ (br_t rfl (hY _ _ (br_t rfl ⟨rfl, R⟩)))
  · refine hX _ (br_f (by decide) ?_)
    rcases cv_pl v2 with ⟨hX2, hY2⟩ | ⟨b, hb, rfl, hX2, hY2⟩
    · exact hX2 _ (br_t rfl (hY _ _ (br_f (by decide) (hY2 _ _ (br_t rfl ⟨rfl, R⟩)))))
    · obtain ⟨r, kX, kY⟩ := cv_al (w := w) (am := am) (bt := bt) (mv := mv) (pt := pt) ha hb 32 0 rfl
      exact hX2 _ (br_f (by decide) ⟨33, kX _ (hY _ _ (br_f (by decide) (hY2 _ _ (br_f (by decide) ⟨33, kY _ ⟨rfl, R⟩⟩))))⟩)
