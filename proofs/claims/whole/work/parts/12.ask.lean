section PS12
variable {sc dl df : Int32} {src xk xa xl xw dk da xp xs : Nat → Int32}
variable {ns ht : Int32} {yz yk ya yw yp ys : Nat → Int32}
theorem yh_cell {post : Int32 → Prop} (k c : Nat) (hk : k < 5) (hc : c < 48) (h : post (yp (528 * k + 24 * (c / 8 + 8) + (c % 8 + 8)))) : wpY_at post (ns, ht, src, yz, yk, ya, yw, yp, ys) (nI k) (nI c - nI c / 8 * 8) (nI c / 8) := by
  refine yh_at k (c % 8 + 8) (c / 8 + 8) ?_ ?_ hk (by omega) (by omega) h
  · rw [ps_rem8 (by omega)]; exact nI_add _ 8
  · rw [ps_div8 (by omega)]; exact nI_add _ 8
/-- both pictures show one number at each cell of stage j -/
def ps_Eq (p q : Nat → Int32) (j : Nat) : Prop := ∀ c, c < 48 → q (528 * j + 24 * (c / 8 + 8) + (c % 8 + 8)) = p (528 * j + 24 * (c / 8 + 8) + (c % 8 + 8))
theorem ps_Eq_of {p q : Nat → Int32} {G : Nat → Nat → Nat → Int32} {s j : Nat} (hp : ps_Pic p G s) (hq : ps_Pic q G s) (hj : j < s) (hs : s ≤ 5) : ps_Eq p q j := by
  intro c hc
  have r : ps_rg j (c % 8 + 8) (c / 8 + 8) := ⟨by omega, by omega, by omega, by omega⟩
  rw [hp j hj _ _ r, hq j hj _ _ r]
theorem ps_total {j : Nat} (hj : j < 5) : ∀ (e c : Nat) (acc : Int32), c + e = 48 → ∃ r : Int32, (∀ post : Int32 → SX → Prop, post r (sc, dl, df, src, xk, xa, xl, xw, dk, da, xp, xs) → wX_total_18 post (nI j) sc dl df src xk xa xl xw dk da xp xs (e + 1) acc (nI c)) ∧ (∀ yp ys : Nat → Int32, ps_Eq xp yp j → ∀ post : Int32 → SY → Prop, post r (ns, ht, src, yz, yk, ya, yw, yp, ys) → wY_total_18 post (nI j) ns ht src yz yk ya yw yp ys (e + 1) acc (nI c)) := by
  intro e
  induction e with
  | zero =>
    intro c acc hc
    obtain rfl : c = 48 := by omega
    exact ⟨acc, fun post h => br_t (by decide) h, fun yp ys E post h => br_t (by decide) h⟩
  | succ e ih =>
    intro c acc hc
    have n : ¬ (48 : Int32) ≤ nI c := nI_ge (b := 48) (by omega) (by decide)
    obtain ⟨r, hX, hY⟩ := ih (c + 1) (acc + xp (528 * j + 24 * (c / 8 + 8) + (c % 8 + 8))) (by omega)
    refine ⟨r, fun post h => br_f n (xh_cell j c hj (by omega) (nm_e (nm_r (nI_1 c) (hX post h)))), fun yp ys E post h => br_f n ⟨by decide, by decide, yh_cell j c hj (by omega) ?_⟩⟩
    rw [E c (by omega)]
    exact nm_e (nm_r (nI_1 c) (hY yp ys E post h))
theorem ps_peak {j : Nat} (hj : j < 5) : ∀ (e c b : Nat), c + e = 48 → b < 48 → ∃ r : Int32, (∀ post : Int32 → SX → Prop, post r (sc, dl, df, src, xk, xa, xl, xw, dk, da, xp, xs) → wX_peak_26 post (nI j) sc dl df src xk xa xl xw dk da xp xs (e + 1) (nI b) (xp (528 * j + 24 * (b / 8 + 8) + (b % 8 + 8))) (nI c)) ∧ (∀ yp ys : Nat → Int32, ps_Eq xp yp j → ∀ post : Int32 → SY → Prop, post r (ns, ht, src, yz, yk, ya, yw, yp, ys) → wY_peak_18 post (nI j) ns ht src yz yk ya yw yp ys (e + 1) (nI b) (nI c)) := by
  intro e
  induction e with
  | zero =>
    intro c b hc hb
    obtain rfl : c = 48 := by omega
    exact ⟨nI b, fun post h => br_t (by decide) h, fun yp ys E post h => br_t (by decide) h⟩
  | succ e ih =>
    intro c b hc hb
    have n : ¬ (48 : Int32) ≤ nI c := nI_ge (b := 48) (by omega) (by decide)
    by_cases q : xp (528 * j + 24 * (c / 8 + 8) + (c % 8 + 8)) ≤ xp (528 * j + 24 * (b / 8 + 8) + (b % 8 + 8))
    · obtain ⟨r, hX, hY⟩ := ih (c + 1) b (by omega) hb
      refine ⟨r, fun post h => br_f n (xh_cell j c hj (by omega) (br_t q (nm_r (nI_1 c) (hX post h)))), fun yp ys E post h => br_f n ⟨by decide, by decide, yh_cell j c hj (by omega) ⟨by decide, by decide, yh_cell j b hj hb ?_⟩⟩⟩
      rw [E c (by omega), E b hb]
      exact br_t q (nm_r (nI_1 c) (hY yp ys E post h))
    · obtain ⟨r, hX, hY⟩ := ih (c + 1) c (by omega) (by omega)
      refine ⟨r, fun post h => br_f n (xh_cell j c hj (by omega) (br_f q (nm_r (nI_1 c) (hX post h)))), fun yp ys E post h => br_f n ⟨by decide, by decide, yh_cell j c hj (by omega) ⟨by decide, by decide, yh_cell j b hj hb ?_⟩⟩⟩
      rw [E c (by omega), E b hb]
      exact br_f q (nm_r (nI_1 c) (hY yp ys E post h))
theorem ps_atLeast {j : Nat} (w : Int32) (hj : j < 5) : ∀ (e c : Nat) (acc : Int32), c + e = 48 → ∃ r : Int32, (∀ post : Int32 → SX → Prop, post r (sc, dl, df, src, xk, xa, xl, xw, dk, da, xp, xs) → wX_atLeast_19 post (nI j) w sc dl df src xk xa xl xw dk da xp xs (e + 1) acc (nI c)) ∧ (∀ yp ys : Nat → Int32, ps_Eq xp yp j → ∀ post : Int32 → SY → Prop, post r (ns, ht, src, yz, yk, ya, yw, yp, ys) → wY_atLeast_19 post (nI j) w ns ht src yz yk ya yw yp ys (e + 1) acc (nI c)) := by
  intro e
  induction e with
  | zero =>
    intro c acc hc
    obtain rfl : c = 48 := by omega
    exact ⟨acc, fun post h => br_t (by decide) h, fun yp ys E post h => br_t (by decide) h⟩
  | succ e ih =>
    intro c acc hc
    have n : ¬ (48 : Int32) ≤ nI c := nI_ge (b := 48) (by omega) (by decide)
    by_cases q : xp (528 * j + 24 * (c / 8 + 8) + (c % 8 + 8)) < w
    · obtain ⟨r, hX, hY⟩ := ih (c + 1) acc (by omega)
      refine ⟨r, fun post h => br_f n (xh_cell j c hj (by omega) (br_t q (nm_r (nI_1 c) (hX post h)))), fun yp ys E post h => br_f n ⟨by decide, by decide, yh_cell j c hj (by omega) ?_⟩⟩
      rw [E c (by omega)]
      exact br_t q (nm_r (nI_1 c) (hY yp ys E post h))
    · obtain ⟨r, hX, hY⟩ := ih (c + 1) (acc + 1) (by omega)
      refine ⟨r, fun post h => br_f n (xh_cell j c hj (by omega) (br_f q (nm_e (nm_r (nI_1 c) (hX post h))))), fun yp ys E post h => br_f n ⟨by decide, by decide, yh_cell j c hj (by omega) ?_⟩⟩
      rw [E c (by omega)]
      exact br_f q (nm_e (nm_r (nI_1 c) (hY yp ys E post h)))
theorem ps_differ {j l : Nat} (hj : j < 5) (hl : l < 5) : ∀ (e c : Nat) (acc : Int32), c + e = 48 → ∃ r : Int32, (∀ post : Int32 → SX → Prop, post r (sc, dl, df, src, xk, xa, xl, xw, dk, da, xp, xs) → wX_differ_27 post (nI j) (nI l) sc dl df src xk xa xl xw dk da xp xs (e + 1) acc (nI c)) ∧ (∀ yp ys : Nat → Int32, ps_Eq xp yp j → ps_Eq xp yp l → ∀ post : Int32 → SY → Prop, post r (ns, ht, src, yz, yk, ya, yw, yp, ys) → wY_differ_27 post (nI j) (nI l) ns ht src yz yk ya yw yp ys (e + 1) acc (nI c)) := by
  intro e
  induction e with
  | zero =>
    intro c acc hc
    obtain rfl : c = 48 := by omega
    exact ⟨acc, fun post h => br_t (by decide) h, fun yp ys E F post h => br_t (by decide) h⟩
  | succ e ih =>
    intro c acc hc
    have n : ¬ (48 : Int32) ≤ nI c := nI_ge (b := 48) (by omega) (by decide)
    by_cases q : xp (528 * j + 24 * (c / 8 + 8) + (c % 8 + 8)) = xp (528 * l + 24 * (c / 8 + 8) + (c % 8 + 8))
    · obtain ⟨r, hX, hY⟩ := ih (c + 1) acc (by omega)
      refine ⟨r, fun post h => br_f n (xh_cell j c hj (by omega) (xh_cell l c hl (by omega) (br_t q (nm_r (nI_1 c) (hX post h))))), fun yp ys E F post h => br_f n ⟨by decide, by decide, yh_cell j c hj (by omega) ⟨by decide, by decide, yh_cell l c hl (by omega) ?_⟩⟩⟩
      rw [E c (by omega), F c (by omega)]
      exact br_t q (nm_r (nI_1 c) (hY yp ys E F post h))
    · obtain ⟨r, hX, hY⟩ := ih (c + 1) (acc + 1) (by omega)
      refine ⟨r, fun post h => br_f n (xh_cell j c hj (by omega) (xh_cell l c hl (by omega) (br_f q (nm_e (nm_r (nI_1 c) (hX post h)))))), fun yp ys E F post h => br_f n ⟨by decide, by decide, yh_cell j c hj (by omega) ⟨by decide, by decide, yh_cell l c hl (by omega) ?_⟩⟩⟩
      rw [E c (by omega), F c (by omega)]
      exact br_f q (nm_e (nm_r (nI_1 c) (hY yp ys E F post h)))
theorem ps_changed {j : Nat} (hj : j < 5) : ∀ (e c : Nat) (acc : Int32), c + e = 48 → ∃ r : Int32, (∀ post : Int32 → SX → Prop, post r (sc, dl, df, src, xk, xa, xl, xw, dk, da, xp, xs) → wX_changed_18 post (nI j) sc dl df src xk xa xl xw dk da xp xs (e + 1) acc (nI c)) ∧ (∀ yp ys : Nat → Int32, ps_Eq xp yp j → ∀ post : Int32 → SY → Prop, post r (ns, ht, src, yz, yk, ya, yw, yp, ys) → wY_changed_18 post (nI j) ns ht src yz yk ya yw yp ys (e + 1) acc (nI c)) := by
  intro e
  induction e with
  | zero =>
    intro c acc hc
    obtain rfl : c = 48 := by omega
    exact ⟨acc, fun post h => br_t (by decide) h, fun yp ys E post h => br_t (by decide) h⟩
  | succ e ih =>
    intro c acc hc
    have n : ¬ (48 : Int32) ≤ nI c := nI_ge (b := 48) (by omega) (by decide)
    have v : vp_in (nI c) 48 := vp_in_nI (by omega) (by omega)
    by_cases q : xp (528 * j + 24 * (c / 8 + 8) + (c % 8 + 8)) = src (nI c).toNatClampNeg
    · obtain ⟨r, hX, hY⟩ := ih (c + 1) acc (by omega)
      refine ⟨r, fun post h => br_f n (xh_cell j c hj (by omega) ⟨v, br_t q (nm_r (nI_1 c) (hX post h))⟩), fun yp ys E post h => br_f n ⟨by decide, by decide, yh_cell j c hj (by omega) ?_⟩⟩
      rw [E c (by omega)]
      exact ⟨v, br_t q (nm_r (nI_1 c) (hY yp ys E post h))⟩
    · obtain ⟨r, hX, hY⟩ := ih (c + 1) (acc + 1) (by omega)
      refine ⟨r, fun post h => br_f n (xh_cell j c hj (by omega) ⟨v, br_f q (nm_e (nm_r (nI_1 c) (hX post h)))⟩), fun yp ys E post h => br_f n ⟨by decide, by decide, yh_cell j c hj (by omega) ?_⟩⟩
      rw [E c (by omega)]
      exact ⟨v, br_f q (nm_e (nm_r (nI_1 c) (hY yp ys E post h)))⟩
theorem ps_apply {j : Nat} (hj : j < 5) : ∀ (e c : Nat) (acc : Int32) (src : Nat → Int32), c + e = 48 → ∃ (r : Int32) (src' : Nat → Int32), (∀ post : Int32 → SX → Prop, post r (sc, dl, df, src', xk, xa, xl, xw, dk, da, xp, xs) → wX_apply_18 post (nI j) sc dl df (e + 1) acc (nI c) src xk xa xl xw dk da xp xs) ∧ (∀ yp ys : Nat → Int32, ps_Eq xp yp j → ∀ post : Int32 → SY → Prop, post r (ns, ht, src', yz, yk, ya, yw, yp, ys) → wY_apply_18 post (nI j) ns ht (e + 1) acc (nI c) src yz yk ya yw yp ys) := by
  intro e
  induction e with
  | zero =>
    intro c acc src hc
    obtain rfl : c = 48 := by omega
    exact ⟨acc, src, fun post h => br_t (by decide) h, fun yp ys E post h => br_t (by decide) h⟩
  | succ e ih =>
    intro c acc src hc
    have n : ¬ (48 : Int32) ≤ nI c := nI_ge (b := 48) (by omega) (by decide)
    have v : vp_in (nI c) 48 := vp_in_nI (by omega) (by omega)
    by_cases q : xp (528 * j + 24 * (c / 8 + 8) + (c % 8 + 8)) = src (nI c).toNatClampNeg
    · obtain ⟨r, src', hX, hY⟩ := ih (c + 1) acc (upd src (nI c).toNatClampNeg (xp (528 * j + 24 * (c / 8 + 8) + (c % 8 + 8)))) (by omega)
      refine ⟨r, src', fun post h => br_f n (xh_cell j c hj (by omega) ⟨v, br_t q ⟨v, nm_e (nm_r (nI_1 c) (hX post h))⟩⟩), fun yp ys E post h => br_f n ⟨by decide, by decide, yh_cell j c hj (by omega) ?_⟩⟩
      rw [E c (by omega)]
      exact ⟨v, br_t q ⟨v, nm_e (nm_r (nI_1 c) (hY yp ys E post h))⟩⟩
    · obtain ⟨r, src', hX, hY⟩ := ih (c + 1) (acc + 1) (upd src (nI c).toNatClampNeg (xp (528 * j + 24 * (c / 8 + 8) + (c % 8 + 8)))) (by omega)
      refine ⟨r, src', fun post h => br_f n (xh_cell j c hj (by omega) ⟨v, br_f q (nm_e ⟨v, nm_e (nm_r (nI_1 c) (hX post h))⟩)⟩), fun yp ys E post h => br_f n ⟨by decide, by decide, yh_cell j c hj (by omega) ?_⟩⟩
      rw [E c (by omega)]
      exact ⟨v, br_f q ⟨v, nm_e (nm_r (nI_1 c) (hY yp ys E post h))⟩⟩
theorem ps_rng (x : Int32) (lo hi : Int32) (h1 : lo.toInt = -4) (h2 : hi.toInt ≤ 12) : x < lo ∨ hi ≤ x ∨ ∃ c : Nat, 4 ≤ c ∧ (c : Int) < hi.toInt + 8 ∧ x = nI c - 8 := by
  by_cases a : x < lo
  · exact Or.inl a
  · by_cases b : hi ≤ x
    · exact Or.inr (Or.inl b)
    · have a2 := Int32.le_iff_toInt_le.mp (Int32.not_lt.mp a)
      have b2 := Int32.lt_iff_toInt_lt.mp (Int32.not_le.mp b)
      obtain ⟨c, q1, q2, q3⟩ := ps_of (x := x) (lo := -4) (hi := hi.toInt) (by omega) b2 (by omega) (by omega)
      exact Or.inr (Or.inr ⟨c, by omega, q2, q3⟩)
end PS12
