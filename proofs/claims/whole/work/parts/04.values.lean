/-! ===== 04: swingValue, orderValue ===== -/
theorem cv_mar {post : Int32 → Prop} {w am bt : Nat → Int32} {c p : Nat} (hc : c < 32) (hp : p < 5) (H : post (w (c ||| 2 ^ p) - w c)) : wpX_margin post (w, am, bt) (nI p) (nI c) := by
  have t := ct_bit c hc p hp
  unfold wpX_margin
  dsimp only
  rw [t.1]
  refine ⟨vp_in_nI t.2 (by omega), vp_in_nI hc (by omega), ?_⟩
  rw [nI_clamp (by omega), nI_clamp (by omega)]
  exact H
/-- a summand a coalition without p -/
def cv_sw (w : Nat → Int32) (p s : Nat) : Int32 := if s.testBit p = true then 0 else w (s ||| 2 ^ p) - w s
theorem cv_swT {w : Nat → Int32} {p s : Nat} (h : s.testBit p = true) : cv_sum (cv_sw w p) (s + 1) = cv_sum (cv_sw w p) s := by
  show cv_sum (cv_sw w p) s + cv_sw w p s = _
  rw [show cv_sw w p s = 0 from if_pos h, Int32.add_zero]
theorem cv_swF {w : Nat → Int32} {p s : Nat} (h : ¬ s.testBit p = true) : cv_sum (cv_sw w p) (s + 1) = cv_sum (cv_sw w p) s + (w (s ||| 2 ^ p) - w s) := by
  show cv_sum (cv_sw w p) s + cv_sw w p s = _
  rw [show cv_sw w p s = w (s ||| 2 ^ p) - w s from if_neg h]
theorem cv_swX {post : Int32 → Prop} {w am bt : Nat → Int32} {p : Nat} (hp : p < 5) (H : post (cv_sum (cv_sw w p) 32)) : ∀ d c, c + d = 32 → wX_swingValue_14 post (nI p) w am bt (d + 1) (cv_sum (cv_sw w p) c) (nI c) := by
  intro d
  induction d with
  | zero =>
    intro c hc
    obtain rfl : c = 32 := by omega
    exact br_t (nI_le (a := 32) (by omega) (by omega)) H
  | succ d ih =>
    intro c hc
    have h : ¬ (32 : Int32) ≤ nI c := nI_ge (b := 32) (by omega) (by omega)
    have hc' : c < 32 := by omega
    by_cases hb : c.testBit p = true
    · refine br_f h (cv_hasT hc' hp hb (fun b eb => ?_))
      rw [eb, nI_1, ← cv_swT hb]
      exact ih (c + 1) (by omega)
    · refine br_f h (cv_hasF hc' hp hb (cv_mar hc' hp (fun a ea b eb => ?_)))
      rw [ea, eb, nI_1, ← cv_swF hb]
      exact ih (c + 1) (by omega)
theorem cv_swY {post : Int32 → Prop} {w mv pt am : Nat → Int32} {p : Nat} (hp : p < 5) (H : post (cv_sum (cv_sw w p) 32)) : ∀ d c, c + d = 32 → wY_swingValue_15 post (nI p) w mv pt am (d + 1) (cv_sum (cv_sw w p) c) (nI c) := by
  intro d
  induction d with
  | zero =>
    intro c hc
    obtain rfl : c = 32 := by omega
    exact br_t (nI_le (a := 32) (by omega) (by omega)) H
  | succ d ih =>
    intro c hc
    have h : ¬ (32 : Int32) ≤ nI c := nI_ge (b := 32) (by omega) (by omega)
    have hc' : c < 32 := by omega
    have t := ct_bit c hc' p hp
    by_cases hb : c.testBit p = true
    · refine br_f h (cv_bT hc' hp hb (fun b eb => ?_))
      rw [eb, nI_1, ← cv_swT hb]
      exact ih (c + 1) (by omega)
    · refine br_f h (cv_bF hc' hp hb ?_)
      rw [t.1]
      refine ⟨vp_in_nI t.2 (by omega), vp_in_nI hc' (by omega), fun a ea b eb => ?_⟩
      rw [nI_clamp (by omega), nI_clamp (by omega)] at ea
      rw [ea, eb, nI_1, ← cv_swF hb]
      exact ih (c + 1) (by omega)
theorem i_vc_swingValue {k : Nat} {u : SX} {v : SY} (I : i_Rel k u v) (hk : k + 3 ≤ 1536) (v1 : Int32) : wpX_swingValue (fun r => wpY_swingValue (fun r' => r' = r ∧ i_Rel (k + 3) u v) v v1) u v1 := by
  obtain ⟨w, am, bt, mv, pt, rfl, rfl, hg⟩ := I
  unfold wpX_swingValue wpY_swingValue
  dsimp only
  rcases cv_pl v1 with ⟨hX, hY⟩ | ⟨p, hp, rfl, hX, hY⟩
  · exact hX _ (br_t rfl (hY _ _ (br_t rfl ⟨rfl, cv_rel hg⟩)))
  · exact hX _ (br_f (by decide) ⟨33, cv_swX hp (hY _ _ (br_f (by decide) ⟨33, cv_swY hp ⟨rfl, cv_rel hg⟩ 32 0 rfl⟩)) 32 0 rfl⟩)

/-! how many players, how many orders -/
def cv_sz (c : Nat) : Nat → Nat
  | 0 => 0
  | n + 1 => if c.testBit n = true then cv_sz c n + 1 else cv_sz c n
theorem cv_szT {c n : Nat} (h : c.testBit n = true) : cv_sz c (n + 1) = cv_sz c n + 1 := if_pos h
theorem cv_szF {c n : Nat} (h : ¬ c.testBit n = true) : cv_sz c (n + 1) = cv_sz c n := if_neg h
theorem cv_szLe (c : Nat) : ∀ n, cv_sz c n ≤ n := by
  intro n
  induction n with
  | zero => exact Nat.le_refl 0
  | succ n ih =>
    by_cases h : c.testBit n = true
    · rw [cv_szT h]; omega
    · rw [cv_szF h]; omega
theorem cv_szX {post : Int32 → Prop} {c : Nat} (hc : c < 32) (H : post (nI (cv_sz c 5))) : ∀ d j, j + d = 5 → wX_size_4 post (nI c) (d + 1) (nI (cv_sz c j)) (nI j) := by
  intro d
  induction d with
  | zero =>
    intro j hj
    obtain rfl : j = 5 := by omega
    exact br_t (nI_le (a := 5) (by omega) (by omega)) H
  | succ d ih =>
    intro j hj
    have h : ¬ (5 : Int32) ≤ nI j := nI_ge (b := 5) (by omega) (by omega)
    by_cases hb : c.testBit j = true
    · refine br_f h (cv_hasT hc (by omega) hb (fun a ea b eb => ?_))
      rw [ea, eb, nI_1, nI_1, ← cv_szT hb]
      exact ih (j + 1) (by omega)
    · refine br_f h (cv_hasF hc (by omega) hb (fun b eb => ?_))
      rw [eb, nI_1, ← cv_szF hb]
      exact ih (j + 1) (by omega)
theorem cv_szX0 {post : Int32 → Prop} {c : Nat} (hc : c < 32) (H : post (nI (cv_sz c 5))) : wpX_size post (nI c) := ⟨6, cv_szX hc H 5 0 rfl⟩
def cv_o : Nat → Nat
  | 0 => 24
  | 1 => 6
  | 2 => 4
  | 3 => 6
  | 4 => 24
  | _ => 4
theorem cv_oX {post : Int32 → Prop} {c : Nat} (hc : c < 32) (H : post (nI (cv_o (cv_sz c 5)))) : wpX_ordersAfter post (nI c) := by
  unfold wpX_ordersAfter
  refine cv_szX0 hc ?_
  have hm := cv_szLe c 5
  revert H hm
  generalize cv_sz c 5 = m
  intro H hm
  match m, hm, H with
  | 0, _, H => exact br_f (by decide) (br_f (by decide) (br_t (by decide) H))
  | 1, _, H => exact br_f (by decide) (br_f (by decide) (br_f (by decide) (br_t (by decide) H)))
  | 2, _, H => exact br_f (by decide) (br_f (by decide) (br_f (by decide) (br_f (by decide) (br_t (by decide) H))))
  | 3, _, H => exact br_f (by decide) (br_f (by decide) (br_f (by decide) (br_f (by decide) (br_f (by decide) (br_t (by decide) H)))))
  | 4, _, H => exact br_f (by decide) (br_f (by decide) (br_f (by decide) (br_f (by decide) (br_f (by decide) (br_f (by decide) (br_t (by decide) H))))))
  | 5, _, H => exact br_f (by decide) (br_t (by decide) H)
  | n + 6, h, _ => exact absurd h (by omega)
/-- a summand a coalition without p, as often as there are orders -/
def cv_ov (w : Nat → Int32) (p s : Nat) : Int32 := if s.testBit p = true then 0 else nI (cv_o (cv_sz s 5)) * (w (s ||| 2 ^ p) - w s)
theorem cv_ovT {w : Nat → Int32} {p s : Nat} (h : s.testBit p = true) : cv_sum (cv_ov w p) (s + 1) = cv_sum (cv_ov w p) s := by
  show cv_sum (cv_ov w p) s + cv_ov w p s = _
  rw [show cv_ov w p s = 0 from if_pos h, Int32.add_zero]
theorem cv_ovF {w : Nat → Int32} {p s : Nat} (h : ¬ s.testBit p = true) : cv_sum (cv_ov w p) (s + 1) = cv_sum (cv_ov w p) s + nI (cv_o (cv_sz s 5)) * (w (s ||| 2 ^ p) - w s) := by
  show cv_sum (cv_ov w p) s + cv_ov w p s = _
  rw [show cv_ov w p s = nI (cv_o (cv_sz s 5)) * (w (s ||| 2 ^ p) - w s) from if_neg h]
theorem cv_ovX {post : Int32 → Prop} {w am bt : Nat → Int32} {p : Nat} (hp : p < 5) (H : post (cv_sum (cv_ov w p) 32)) : ∀ d c, c + d = 32 → wX_orderValue_14 post (nI p) w am bt (d + 1) (cv_sum (cv_ov w p) c) (nI c) := by
  intro d
  induction d with
  | zero =>
    intro c hc
    obtain rfl : c = 32 := by omega
    exact br_t (nI_le (a := 32) (by omega) (by omega)) H
  | succ d ih =>
    intro c hc
    have h : ¬ (32 : Int32) ≤ nI c := nI_ge (b := 32) (by omega) (by omega)
    have hc' : c < 32 := by omega
    by_cases hb : c.testBit p = true
    · refine br_f h (cv_hasT hc' hp hb (fun b eb => ?_))
      rw [eb, nI_1, ← cv_ovT hb]
      exact ih (c + 1) (by omega)
    · refine br_f h (cv_hasF hc' hp hb (cv_oX hc' (cv_mar hc' hp (fun a ea b eb => ?_))))
      rw [ea, eb, nI_1, ← cv_ovF hb]
      exact ih (c + 1) (by omega)

/-! Y: the k-th order, walked -/
def cv_pick (come : Nat) : Nat → Nat → Nat → Nat
  | 0, _, q => q
  | d + 1, skip, q => if come.testBit q = true then cv_pick come d skip (q + 1) else if skip = 0 then q else cv_pick come d (skip - 1) (q + 1)
def cv_go (p : Nat) : Nat → Nat → Nat → Option Nat
  | 0, _, _ => none
  | d + 1, rest, come => if cv_pick come 5 (rest % (d + 1)) 0 = p then some come else if cv_pick come 5 (rest % (d + 1)) 0 < 5 then cv_go p d (rest / (d + 1)) (come ||| 2 ^ cv_pick come 5 (rest % (d + 1)) 0) else none
theorem cv_53T {post : Int32 → Prop} {J8 : Int32 → Int32 → Int32 → Prop} {J : Int32 → Int32 → Prop} {x2 x3 x5 x6 : Int32} {come q : Nat} {w mv pt am : Nat → Int32} (hc : come < 32) (hq : q < 5) (hb : come.testBit q = true) (H : J x6 (nI (q + 1))) : wY_marginIn_53 post J8 J x2 x3 (nI come) x5 x6 (nI q) w mv pt am := by
  unfold wY_marginIn_53
  refine cv_bT hc hq hb (fun y ey => ?_)
  rw [ey, nI_1]
  exact H
theorem cv_53F {post : Int32 → Prop} {J8 : Int32 → Int32 → Int32 → Prop} {J : Int32 → Int32 → Prop} {x2 x3 x5 x6 : Int32} {come q : Nat} {w mv pt am : Nat → Int32} (hc : come < 32) (hq : q < 5) (hb : ¬ come.testBit q = true) (H : J (x6 + (-1)) (nI (q + 1))) : wY_marginIn_53 post J8 J x2 x3 (nI come) x5 x6 (nI q) w mv pt am := by
  unfold wY_marginIn_53
  refine cv_bF hc hq hb (fun x ex y ey => ?_)
  rw [ex, ey, nI_1]
  exact H
theorem cv_pk {post : Int32 → Prop} {J8 : Int32 → Int32 → Int32 → Prop} {x2 x3 x5 : Int32} {come : Nat} {w mv pt am : Nat → Int32} (hc : come < 32) : ∀ d q skip, q + d = 5 → skip < 2 ^ 31 → wY_marginIn_72 post J8 x2 x3 (nI come) x5 (nI (cv_pick come d skip q)) w mv pt am → wY_marginIn_32 post J8 x2 x3 (nI come) x5 w mv pt am (d + 1) (nI skip) (nI q) := by
  intro d
  induction d with
  | zero =>
    intro q skip hq hs H
    obtain rfl : q = 5 := by omega
    exact br_t (nI_le (a := 5) (by omega) (by omega)) H
  | succ d ih =>
    intro q skip hq hs H
    have h : ¬ (5 : Int32) ≤ nI q := nI_ge (b := 5) (by omega) (by omega)
    have hq' : q < 5 := by omega
    refine br_f h ?_
    by_cases hb : come.testBit q = true
    · have e : cv_pick come (d + 1) skip q = cv_pick come d skip (q + 1) := if_pos hb
      rw [e] at H
      exact cv_bT hc hq' hb (cv_53T hc hq' hb (ih (q + 1) skip (by omega) hs H))
    · refine cv_bF hc hq' hb ?_
      by_cases h0 : skip = 0
      · have e : cv_pick come (d + 1) skip q = q := by
          show (if come.testBit q = true then _ else if skip = 0 then q else _) = q
          rw [if_neg hb, if_pos h0]
        rw [e] at H
        subst h0
        exact br_t (by decide) H
      · have e : cv_pick come (d + 1) skip q = cv_pick come d (skip - 1) (q + 1) := by
          show (if come.testBit q = true then _ else if skip = 0 then q else cv_pick come d (skip - 1) (q + 1)) = _
          rw [if_neg hb, if_neg h0]
        rw [e] at H
        obtain ⟨s, rfl⟩ : ∃ s, skip = s + 1 := ⟨skip - 1, by omega⟩
        refine br_f (nI_nle (by omega) hs) (cv_53F hc hq' hb ?_)
        rw [pk_m1]
        exact ih (q + 1) s (by omega) (by omega) H
theorem cv_goY {post : Int32 → Prop} {w mv pt am : Nat → Int32} {p C : Nat} (hp : p < 5) (H : post (w (C ||| 2 ^ p) - w C)) : ∀ d rest come place, place + d = 5 → rest < 2 ^ 31 → come < 32 → cv_go p d rest come = some C → wY_marginIn_8 post (nI p) w mv pt am (d + 1) (nI rest) (nI come) (nI place) := by
  intro d
  induction d with
  | zero =>
    intro rest come place _ _ _ hg
    exact nomatch (show (none : Option Nat) = some C from hg)
  | succ d ih =>
    intro rest come place hd hr hc hg
    have h : ¬ (5 : Int32) ≤ nI place := nI_ge (b := 5) (by omega) (by omega)
    have e5 : (5 : Int32) - nI place = nI (d + 1) := by
      have := pk_sub (a := 5) (b := place) (by omega)
      rw [show 5 - place = d + 1 from by omega] at this
      exact this
    refine br_f h ?_
    rw [e5]
    have n0 : ¬ nI (d + 1) = 0 := nI_ne0 (by omega) (by omega)
    refine ⟨n0, nm_r (pk_rem hr (by omega) (by omega)) ⟨n0, nm_r (pk_div hr (by omega) (by omega)) ⟨6, ?_⟩⟩⟩
    refine cv_pk hc 5 0 _ rfl (Nat.lt_of_le_of_lt (Nat.mod_le _ _) hr) ?_
    have hg' : (if cv_pick come 5 (rest % (d + 1)) 0 = p then some come else if cv_pick come 5 (rest % (d + 1)) 0 < 5 then cv_go p d (rest / (d + 1)) (come ||| 2 ^ cv_pick come 5 (rest % (d + 1)) 0) else none) = some C := hg
    revert hg'
    generalize cv_pick come 5 (rest % (d + 1)) 0 = q
    intro hg'
    unfold wY_marginIn_72
    by_cases e : q = p
    · rw [if_pos e] at hg'
      subst e
      obtain rfl : come = C := Option.some.inj hg'
      have t := ct_bit come hc q hp
      refine br_t rfl ?_
      rw [t.1]
      refine ⟨vp_in_nI t.2 (by omega), vp_in_nI hc (by omega), ?_⟩
      rw [nI_clamp (by omega), nI_clamp (by omega)]
      exact H
    · rw [if_neg e] at hg'
      by_cases hq : q < 5
      · rw [if_pos hq] at hg'
        have t := ct_bit come hc q hq
        have ne : ¬ nI q = nI p := fun z => e ((nI_eq (by omega) (by omega)).mp z)
        refine br_f ne (nm_r t.1 (nm_r (nI_1 place) ?_))
        exact ih (rest / (d + 1)) (come ||| 2 ^ q) (place + 1) (by omega) (Nat.lt_of_le_of_lt (Nat.div_le_self _ _) hr) t.2 hg'
      · rw [if_neg hq] at hg'
        exact nomatch hg'
/-- who came before p in the k-th order -/
def cv_cc (p k : Nat) : Nat := (cv_go p 5 k 0).getD 0
theorem ct_go0 : ∀ k, k < 120 → cv_go 0 5 k 0 = some (cv_cc 0 k) ∧ cv_cc 0 k < 32 := by decide +kernel
theorem ct_go1 : ∀ k, k < 120 → cv_go 1 5 k 0 = some (cv_cc 1 k) ∧ cv_cc 1 k < 32 := by decide +kernel
theorem ct_go2 : ∀ k, k < 120 → cv_go 2 5 k 0 = some (cv_cc 2 k) ∧ cv_cc 2 k < 32 := by decide +kernel
theorem ct_go3 : ∀ k, k < 120 → cv_go 3 5 k 0 = some (cv_cc 3 k) ∧ cv_cc 3 k < 32 := by decide +kernel
theorem ct_go4 : ∀ k, k < 120 → cv_go 4 5 k 0 = some (cv_cc 4 k) ∧ cv_cc 4 k < 32 := by decide +kernel
theorem ct_go {p : Nat} (hp : p < 5) {k : Nat} (hk : k < 120) : cv_go p 5 k 0 = some (cv_cc p k) ∧ cv_cc p k < 32 := by
  match p, hp with
  | 0, _ => exact ct_go0 k hk
  | 1, _ => exact ct_go1 k hk
  | 2, _ => exact ct_go2 k hk
  | 3, _ => exact ct_go3 k hk
  | 4, _ => exact ct_go4 k hk
  | n + 5, h => exact absurd h (by omega)
/-- how often f is s below n -/
def cv_cnt (f : Nat → Nat) (s : Nat) : Nat → Nat
  | 0 => 0
  | n + 1 => if f n = s then cv_cnt f s n + 1 else cv_cnt f s n
theorem ct_cnt0 : ∀ s, s < 32 → cv_cnt (cv_cc 0) s 120 = (if s.testBit 0 = true then 0 else cv_o (cv_sz s 5)) := by decide +kernel
theorem ct_cnt1 : ∀ s, s < 32 → cv_cnt (cv_cc 1) s 120 = (if s.testBit 1 = true then 0 else cv_o (cv_sz s 5)) := by decide +kernel
theorem ct_cnt2 : ∀ s, s < 32 → cv_cnt (cv_cc 2) s 120 = (if s.testBit 2 = true then 0 else cv_o (cv_sz s 5)) := by decide +kernel
theorem ct_cnt3 : ∀ s, s < 32 → cv_cnt (cv_cc 3) s 120 = (if s.testBit 3 = true then 0 else cv_o (cv_sz s 5)) := by decide +kernel
theorem ct_cnt4 : ∀ s, s < 32 → cv_cnt (cv_cc 4) s 120 = (if s.testBit 4 = true then 0 else cv_o (cv_sz s 5)) := by decide +kernel
theorem ct_cnt {p : Nat} (hp : p < 5) {s : Nat} (hs : s < 32) : cv_cnt (cv_cc p) s 120 = (if s.testBit p = true then 0 else cv_o (cv_sz s 5)) := by
  match p, hp with
  | 0, _ => exact ct_cnt0 s hs
  | 1, _ => exact ct_cnt1 s hs
  | 2, _ => exact ct_cnt2 s hs
  | 3, _ => exact ct_cnt3 s hs
  | 4, _ => exact ct_cnt4 s hs
  | n + 5, h => exact absurd h (by omega)
theorem cv_cntS (f : Nat → Nat) (s n : Nat) : cv_sum (fun k => if f k = s then (1 : Int32) else 0) n = nI (cv_cnt f s n) := by
  induction n with
  | zero => exact nI_0.symm
  | succ n ih =>
    show cv_sum (fun k => if f k = s then (1 : Int32) else 0) n + (if f n = s then (1 : Int32) else 0) = nI (if f n = s then cv_cnt f s n + 1 else cv_cnt f s n)
    rw [ih]
    by_cases e : f n = s
    · rw [if_pos e, if_pos e, nI_1]
    · rw [if_neg e, if_neg e, Int32.add_zero]
/-- a sum along f, gathered by the values of f -/
theorem cv_gather (g : Nat → Int32) (f : Nat → Nat) (n : Nat) (hf : ∀ k, k < n → f k < 32) : cv_sum (fun k => g (f k)) n = cv_sum (fun s => nI (cv_cnt f s n) * g s) 32 := by
  have h1 : cv_sum (fun k => g (f k)) n = cv_sum (fun k => cv_sum (fun s => (if f k = s then (1 : Int32) else 0) * g s) 32) n := by
    refine cv_sum_congr (fun k hk => ?_)
    have := cv_sum_single (f := fun s => (if f k = s then (1 : Int32) else 0) * g s) (hf k hk) (fun i _ hia => by
      show (if f k = i then (1 : Int32) else 0) * g i = 0
      rw [if_neg (fun z => hia z.symm), Int32.zero_mul])
    rw [this]
    show g (f k) = (if f k = f k then (1 : Int32) else 0) * g (f k)
    rw [if_pos rfl, Int32.one_mul]
  rw [h1, cv_sum_swap]
  refine cv_sum_congr (fun s _ => ?_)
  show cv_sum (fun k => (if f k = s then (1 : Int32) else 0) * g s) n = nI (cv_cnt f s n) * g s
  rw [cv_sum_mul, cv_cntS]
theorem cv_ovEq {w : Nat → Int32} {p : Nat} (hp : p < 5) : cv_sum (fun k => w (cv_cc p k ||| 2 ^ p) - w (cv_cc p k)) 120 = cv_sum (cv_ov w p) 32 := by
  have := cv_gather (fun s => w (s ||| 2 ^ p) - w s) (cv_cc p) 120 (fun k hk => (ct_go hp hk).2)
  refine Eq.trans this (cv_sum_congr (fun s hs => ?_))
  show nI (cv_cnt (cv_cc p) s 120) * (w (s ||| 2 ^ p) - w s) = cv_ov w p s
  rw [ct_cnt hp hs]
  unfold cv_ov
  by_cases h : s.testBit p = true
  · rw [if_pos h, if_pos h, nI_0, Int32.zero_mul]
  · rw [if_neg h, if_neg h]
theorem cv_ovY {post : Int32 → Prop} {w mv pt am : Nat → Int32} {p : Nat} (hp : p < 5) (H : post (cv_sum (fun k => w (cv_cc p k ||| 2 ^ p) - w (cv_cc p k)) 120)) : ∀ d k, k + d = 120 → wY_orderValue_15 post (nI p) w mv pt am (d + 1) (cv_sum (fun k => w (cv_cc p k ||| 2 ^ p) - w (cv_cc p k)) k) (nI k) := by
  intro d
  induction d with
  | zero =>
    intro k hk
    obtain rfl : k = 120 := by omega
    exact br_t (nI_le (a := 120) (by omega) (by omega)) H
  | succ d ih =>
    intro k hk
    have h : ¬ (120 : Int32) ≤ nI k := nI_ge (b := 120) (by omega) (by omega)
    have t := ct_go hp (k := k) (by omega)
    refine br_f h ⟨6, ?_⟩
    refine cv_goY hp (C := cv_cc p k) (fun a ea b eb => ?_) 5 k 0 0 rfl (by omega) (by omega) t.1
    rw [ea, eb, nI_1]
    exact ih (k + 1) (by omega)
theorem i_vc_orderValue {k : Nat} {u : SX} {v : SY} (I : i_Rel k u v) (hk : k + 3 ≤ 1536) (v1 : Int32) : wpX_orderValue (fun r => wpY_orderValue (fun r' => r' = r ∧ i_Rel (k + 3) u v) v v1) u v1 := by
  obtain ⟨w, am, bt, mv, pt, rfl, rfl, hg⟩ := I
  unfold wpX_orderValue wpY_orderValue
  dsimp only
  rcases cv_pl v1 with ⟨hX, hY⟩ | ⟨p, hp, rfl, hX, hY⟩
  · exact hX _ (br_t rfl (hY _ _ (br_t rfl ⟨rfl, cv_rel hg⟩)))
  · exact hX _ (br_f (by decide) ⟨33, cv_ovX hp (hY _ _ (br_f (by decide) ⟨121, cv_ovY hp ⟨cv_ovEq hp, cv_rel hg⟩ 120 0 rfl⟩)) 32 0 rfl⟩)
