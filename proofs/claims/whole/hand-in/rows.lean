section
theorem pk_us {f : Nat → Int32} {k : Nat} {x : Int32} : upd f k x k = x := if_pos rfl
theorem pk_un {f : Nat → Int32} {k j : Nat} {x : Int32} (h : j ≠ k) : upd f k x j = f j := if_neg h
theorem pk_sub {a b : Nat} (h : b ≤ a) : nI a - nI b = nI (a - b) := by
  obtain ⟨c, rfl⟩ : ∃ c, a = c + b := ⟨a - b, by omega⟩
  rw [← nI_add, Int32.add_sub_cancel, Nat.add_sub_cancel]
theorem pk_m1 (n : Nat) : nI (n + 1) + (-1) = nI n := by
  rw [← nI_1, Int32.add_assoc, show (1 : Int32) + (-1) = 0 from rfl, Int32.add_zero]
theorem pk_mul (a b : Nat) : nI a * nI b = nI (a * b) := (Int32.ofNat_mul a b).symm
theorem pk_div {a d : Nat} (ha : a < 2 ^ 31) (h0 : 0 < d) (hd : d < 2 ^ 31) : nI a / nI d = nI (a / d) := by
  apply Int32.toInt_inj.mp
  rw [lg_idiv_nonneg (by rw [nI_toInt ha]; omega) (by rw [nI_toInt hd]; omega), nI_toInt ha, nI_toInt hd, nI_toInt (Nat.lt_of_le_of_lt (Nat.div_le_self a d) ha)]
  first | rfl | exact (Int.natCast_ediv _ _).symm
theorem pk_rem {a d : Nat} (ha : a < 2 ^ 31) (h0 : 0 < d) (hd : d < 2 ^ 31) : nI a - nI a / nI d * nI d = nI (a % d) := by
  rw [pk_div ha h0 hd, pk_mul, pk_sub (Nat.div_mul_le_self a d)]
  exact congrArg nI (by have := Nat.div_add_mod' a d; omega)
theorem pk_sub_toInt {a b : Nat} (ha : a < 2 ^ 30) (hb : b < 2 ^ 30) : (nI a - nI b).toInt = (a : Int) - b := by
  rw [Int32.toInt_sub, nI_toInt (by omega), nI_toInt (by omega)]
  exact Int.bmod_eq_of_le (by omega) (by omega)
theorem pk_sneg {a b : Nat} (hb : b < 2 ^ 30) (h : a < b) : nI a - nI b < 0 := by
  rw [Int32.lt_iff_toInt_lt, pk_sub_toInt (by omega) hb, show (0 : Int32).toInt = 0 from by decide]
  omega
theorem pk_ix (x : Int32) {n : Nat} (hn : n < 2 ^ 31) : x < 0 ∨ nI n ≤ x ∨ ∃ j : Nat, j < n ∧ x = nI j := by
  by_cases h : x < 0
  · exact Or.inl h
  · obtain ⟨j, hj, rfl⟩ := nI_of h
    by_cases h2 : j < n
    · exact Or.inr (Or.inr ⟨j, h2, rfl⟩)
    · exact Or.inr (Or.inl (nI_le (by omega) hj))
theorem pk_le {x y : Int32} {A B : Prop} (a b : Nat) (f : a ≤ b → A) (g : b < a → B) (hx : x = nI a := by rfl) (hy : y = nI b := by rfl) (ha : a < 2 ^ 31 := by omega) (hb : b < 2 ^ 31 := by omega) : (x ≤ y → A) ∧ (¬ x ≤ y → B) := by
  subst hx hy
  rw [nI_leI ha hb]
  exact ⟨f, fun z => g (by omega)⟩
theorem pk_lt {x y : Int32} {A B : Prop} (a b : Nat) (f : a < b → A) (g : b ≤ a → B) (hx : x = nI a := by rfl) (hy : y = nI b := by rfl) (ha : a < 2 ^ 31 := by omega) (hb : b < 2 ^ 31 := by omega) : (x < y → A) ∧ (¬ x < y → B) := by
  subst hx hy
  rw [nI_ltI ha hb]
  exact ⟨f, fun z => g (by omega)⟩
theorem pk_eq {x y : Int32} {A B : Prop} (a b : Nat) (f : a = b → A) (g : a ≠ b → B) (hx : x = nI a := by rfl) (hy : y = nI b := by rfl) (ha : a < 2 ^ 31 := by omega) (hb : b < 2 ^ 31 := by omega) : (x = y → A) ∧ (¬ x = y → B) := by
  subst hx hy
  rw [nI_eq ha hb]
  exact ⟨f, g⟩
theorem pk_in {x : Int32} (n N : Nat) (h : n < N) (hx : x = nI n := by rfl) (hN : N < 2 ^ 31 := by omega) : vp_in x N := by
  subst hx
  exact vp_in_nI h hN
theorem pk_cl {x : Int32} (n : Nat) (hx : x = nI n := by rfl) (h : n < 2 ^ 31 := by omega) : x.toNatClampNeg = n := by
  subst hx
  exact nI_clamp h
theorem pk_loop {σ : Type} (W : Nat → Nat → σ → Prop) (I : Nat → σ → Prop) (e i0 : Nat) (s : σ) (hi : i0 ≤ e) (h0 : I i0 s) (hx : ∀ n s, I e s → W (n + 1) e s)
    (hs : ∀ n i s, i < e → I i s → (∀ s', I (i + 1) s' → W n (i + 1) s') → W (n + 1) i s) : ∃ n, W n i0 s :=
  ⟨e + 1, loop_i W I e hx hs (e + 1) i0 s hi (by omega) h0⟩
end
section
section PS2
/-! pure: heights, the stack's run, pictures by stages -/
/-- how many formulas a kind takes -/
def ps_tk (kd : Nat) : Nat := if kd ≤ 4 then 0 else if kd = 10 then 1 else if kd = 12 then 3 else 2
/-- the height after i tokens -/
def ps_H (K : Nat → Nat) : Nat → Nat
  | 0 => 0
  | i + 1 => ps_H K i - ps_tk (K i) + 1
/-- t is a coordinate plus 9 -/
def ps_cl (t m : Nat) : Nat := if t < 9 then 0 else if m + 9 < t then m else t - 9
def ps_simple (src : Nat → Int32) (G : Nat → Nat → Nat → Int32) (kd : Nat) (a : Int32) (cx cy : Nat) : Int32 :=
  if kd = 0 then a else if kd = 1 then nI cx - 8 else if kd = 2 then nI cy - 8 else
  if kd = 3 then src (8 * ps_cl (cy + a.toNatClampNeg % 9 % 3) 5 + ps_cl (cx + a.toNatClampNeg % 9 / 3) 7) else
  G (a.toNatClampNeg / 9) (cx + a.toNatClampNeg % 9 / 3 - 1) (cy + a.toNatClampNeg % 9 % 3 - 1)
def ps_comb (kd : Nat) (f g h : Int32) : Int32 :=
  if kd = 5 then f + g else if kd = 6 then f - g else if kd = 7 then f * g else
  if kd = 8 then (if f < g then f else g) else if kd = 9 then (if g < f then f else g) else
  if kd = 10 then f >>> ((1 : Int32) &&& 31) else if kd = 11 then (if f < g then 1 else 0) else
  if 0 < f then g else h
def ps_tv (src : Nat → Int32) (G : Nat → Nat → Nat → Int32) (kd : Nat) (a : Int32) (cx cy : Nat) (S : Nat → Int32) (b : Nat) : Int32 :=
  if kd ≤ 4 then ps_simple src G kd a cx cy else ps_comb kd (S b) (S (b + 1)) (S (b + 2))
/-- the stack after i tokens -/
def ps_S (src : Nat → Int32) (G : Nat → Nat → Nat → Int32) (K : Nat → Nat) (A : Nat → Int32) (cx cy : Nat) : Nat → Nat → Int32
  | 0 => fun _ => 0
  | i + 1 => upd (ps_S src G K A cx cy i) (ps_H K i - ps_tk (K i)) (ps_tv src G (K i) (A i) cx cy (ps_S src G K A cx cy i) (ps_H K i - ps_tk (K i)))
theorem ps_H_s (K : Nat → Nat) (i : Nat) : ps_H K (i + 1) = ps_H K i - ps_tk (K i) + 1 := rfl
/-- the tokens are well formed: s stages may be spoken of -/
def ps_WF (s : Nat) (K : Nat → Nat) (A : Nat → Int32) (n : Nat) : Prop :=
  ∀ i, i < n → K i ≤ 12 ∧ ps_tk (K i) ≤ ps_H K i ∧ ps_H K (i + 1) ≤ 6 ∧ (K i = 3 → ∃ b : Nat, b < 9 ∧ A i = nI b) ∧ (K i = 4 → ∃ b : Nat, b < 9 * s ∧ A i = nI b)
def ps_Ag (st S : Nat → Int32) (h : Nat) : Prop := ∀ j, j < h → st j = S j
theorem ps_Ag_upd {st S : Nat → Int32} {h b : Nat} {v : Int32} (H : ps_Ag st S h) (hb : b ≤ h) : ps_Ag (upd st b v) (upd S b v) (b + 1) := by
  intro j hj
  by_cases e : j = b
  · subst e; rw [pk_us, pk_us]
  · rw [pk_un e, pk_un e]; exact H j (by omega)
/-- the cells of stage j that are worked out -/
def ps_rg (j cx cy : Nat) : Prop := j ≤ cx ∧ cx + j < 24 ∧ j ≤ cy ∧ cy + j < 22
def ps_Pic (p : Nat → Int32) (G : Nat → Nat → Nat → Int32) (k : Nat) : Prop :=
  ∀ j, j < k → ∀ cx cy, ps_rg j cx cy → p (528 * j + 24 * cy + cx) = G j cx cy
def ps_Dn (p : Nat → Int32) (E : Nat → Nat → Int32) (k c : Nat) : Prop :=
  ∀ cx cy, ps_rg k cx cy → 24 * cy + cx < c → p (528 * k + 24 * cy + cx) = E cx cy
def ps_ev (src : Nat → Int32) (K : Nat → Nat → Nat) (A : Nat → Nat → Int32) (L : Nat → Nat) (G : Nat → Nat → Nat → Int32) (k cx cy : Nat) : Int32 :=
  ps_S src G (K k) (A k) cx cy (L k) 0
/-- the pictures of the first k stages -/
def ps_G (src : Nat → Int32) (K : Nat → Nat → Nat) (A : Nat → Nat → Int32) (L : Nat → Nat) : Nat → Nat → Nat → Nat → Int32
  | 0 => fun _ _ _ => 0
  | k + 1 => fun j cx cy => if j = k then ps_ev src K A L (ps_G src K A L k) k cx cy else ps_G src K A L k j cx cy
theorem ps_Pic_upd {p : Nat → Int32} {G : Nat → Nat → Nat → Int32} {k cx cy : Nat} {v : Int32} (h : ps_Pic p G k) (hr : ps_rg k cx cy) : ps_Pic (upd p (528 * k + 24 * cy + cx) v) G k := by
  intro j hj x y r
  obtain ⟨a1, a2, a3, a4⟩ := hr
  obtain ⟨b1, b2, b3, b4⟩ := r
  rw [pk_un (by omega)]
  exact h j hj x y ⟨b1, b2, b3, b4⟩
theorem ps_Dn_upd {p : Nat → Int32} {E : Nat → Nat → Int32} {k cx cy : Nat} (h : ps_Dn p E k (24 * cy + cx)) (hr : ps_rg k cx cy) : ps_Dn (upd p (528 * k + 24 * cy + cx) (E cx cy)) E k (24 * cy + cx + 1) := by
  intro x y r hc
  obtain ⟨a1, a2, a3, a4⟩ := hr
  obtain ⟨b1, b2, b3, b4⟩ := r
  by_cases e : 24 * y + x = 24 * cy + cx
  · have ey : y = cy := by omega
    have ex : x = cx := by omega
    subst ey ex
    rw [pk_us]
  · rw [pk_un (by omega)]
    exact h x y ⟨b1, b2, b3, b4⟩ (by omega)
theorem ps_Dn_skip {p : Nat → Int32} {E : Nat → Nat → Int32} {k cx cy : Nat} (h : ps_Dn p E k (24 * cy + cx)) (hr : ¬ ps_rg k cx cy) (hx : cx < 24) : ps_Dn p E k (24 * cy + cx + 1) := by
  intro x y r hc
  by_cases e : 24 * y + x = 24 * cy + cx
  · obtain ⟨b1, b2, b3, b4⟩ := r
    have ey : y = cy := by omega
    have ex : x = cx := by omega
    subst ey ex
    exact absurd ⟨b1, b2, b3, b4⟩ hr
  · exact h x y r (by omega)
theorem ps_Dn_row {p : Nat → Int32} {E : Nat → Nat → Int32} {k cy : Nat} (h : ps_Dn p E k (24 * cy + (24 - k))) (hk : k ≤ 4) : ps_Dn p E k (24 * (cy + 1) + k) := by
  intro x y r hc
  obtain ⟨b1, b2, b3, b4⟩ := r
  exact h x y ⟨b1, b2, b3, b4⟩ (by omega)
theorem ps_Dn_0 (p : Nat → Int32) (E : Nat → Nat → Int32) (k : Nat) : ps_Dn p E k (24 * k + k) := by
  intro x y r hc
  obtain ⟨b1, b2, b3, b4⟩ := r
  omega
theorem ps_Dn_00 (p : Nat → Int32) (E : Nat → Nat → Int32) (k : Nat) : ps_Dn p E k 0 := by
  intro x y r hc
  omega
section
variable (src : Nat → Int32) (K : Nat → Nat → Nat) (A : Nat → Nat → Int32) (L : Nat → Nat)
theorem ps_next {p : Nat → Int32} {k c : Nat} (hp : ps_Pic p (ps_G src K A L k) k) (hd : ps_Dn p (ps_ev src K A L (ps_G src K A L k) k) k c) (hc : 24 * (22 - k) + k ≤ c ∨ 528 ≤ c) : ps_Pic p (ps_G src K A L (k + 1)) (k + 1) := by
  intro j hj x y r
  show _ = if j = k then ps_ev src K A L (ps_G src K A L k) k x y else ps_G src K A L k j x y
  by_cases e : j = k
  · subst e
    rw [if_pos rfl]
    refine hd x y r ?_
    obtain ⟨b1, b2, b3, b4⟩ := r
    omega
  · rw [if_neg e]
    exact hp j (by omega) x y r
end
/-! coordinates: a natural less 8, or less 9 -/
theorem ps_ti (c d : Nat) (h : c < 1000) (hd : d < 1000) : (nI c - nI d).toInt = (c : Int) - d := pk_sub_toInt (by omega) (by omega)
theorem ps_le8 {a b : Nat} (ha : a < 1000) (hb : b < 1000) : nI a - 8 ≤ nI b - 8 ↔ a ≤ b := by
  rw [Int32.le_iff_toInt_le, show (nI a - 8).toInt = (a : Int) - 8 from ps_ti a 8 ha (by omega), show (nI b - 8).toInt = (b : Int) - 8 from ps_ti b 8 hb (by omega)]
  omega
theorem ps_lt8 {a b : Nat} (ha : a < 1000) (hb : b < 1000) : nI a - 8 < nI b - 8 ↔ a < b := by
  rw [Int32.lt_iff_toInt_lt, show (nI a - 8).toInt = (a : Int) - 8 from ps_ti a 8 ha (by omega), show (nI b - 8).toInt = (b : Int) - 8 from ps_ti b 8 hb (by omega)]
  omega
theorem ps_9 (c d : Nat) : nI c - 8 + nI d - 1 = nI (c + d) - 9 := by
  rw [← nI_add]; grind
theorem ps_p8 (c : Nat) : nI c - 8 + 8 = nI c := by grind
theorem ps_98 {t : Nat} (h : 1 ≤ t) : nI t - 9 + 8 = nI (t - 1) := by
  obtain ⟨u, rfl⟩ : ∃ u, t = u + 1 := ⟨t - 1, by omega⟩
  rw [← nI_1, Nat.add_sub_cancel]; grind
theorem ps_91 (c : Nat) : nI c - 8 + 1 = nI (c + 1) - 8 := by
  rw [← nI_1]; grind
end PS2
end
section
section PS3
theorem ps_tk_pos {kd : Nat} (h : 5 ≤ kd) : 1 ≤ ps_tk kd := by
  unfold ps_tk
  repeat' split
  all_goals omega
theorem ps_tk_le (kd : Nat) : ps_tk kd ≤ 3 := by
  unfold ps_tk
  repeat' split
  all_goals omega
theorem ps_comb_cg {kd b h : Nat} {st S : Nat → Int32} (hk : 5 ≤ kd) (hk2 : kd ≤ 12) (ht : b + ps_tk kd ≤ h) (H : ps_Ag st S h) : ps_comb kd (st b) (st (b + 1)) (st (b + 2)) = ps_comb kd (S b) (S (b + 1)) (S (b + 2)) := by
  have e0 : st b = S b := H b (by have := ps_tk_pos hk; omega)
  have c : kd = 5 ∨ kd = 6 ∨ kd = 7 ∨ kd = 8 ∨ kd = 9 ∨ kd = 10 ∨ kd = 11 ∨ kd = 12 := by omega
  rcases c with rfl | rfl | rfl | rfl | rfl | rfl | rfl | rfl
  · have ht : b + 2 ≤ h := ht
    simp [ps_comb, e0, H (b + 1) (by omega)]
  · have ht : b + 2 ≤ h := ht
    simp [ps_comb, e0, H (b + 1) (by omega)]
  · have ht : b + 2 ≤ h := ht
    simp [ps_comb, e0, H (b + 1) (by omega)]
  · have ht : b + 2 ≤ h := ht
    simp [ps_comb, e0, H (b + 1) (by omega)]
  · have ht : b + 2 ≤ h := ht
    simp [ps_comb, e0, H (b + 1) (by omega)]
  · simp [ps_comb, e0]
  · have ht : b + 2 ≤ h := ht
    simp [ps_comb, e0, H (b + 1) (by omega)]
  · have ht : b + 3 ≤ h := ht
    simp [ps_comb, e0, H (b + 1) (by omega), H (b + 2) (by omega)]
/-- one step of the stack -/
theorem ps_step {src : Nat → Int32} {G : Nat → Nat → Nat → Int32} {K : Nat → Nat} {A : Nat → Int32} {cx cy i : Nat} {st : Nat → Int32} {v : Int32} (H : ps_Ag st (ps_S src G K A cx cy i) (ps_H K i)) (hk : K i ≤ 12) (ht : ps_tk (K i) ≤ ps_H K i) (hv : v = ps_tv src G (K i) (A i) cx cy st (ps_H K i - ps_tk (K i))) : ps_Ag (upd st (ps_H K i - ps_tk (K i)) v) (ps_S src G K A cx cy (i + 1)) (ps_H K (i + 1)) := by
  have e : v = ps_tv src G (K i) (A i) cx cy (ps_S src G K A cx cy i) (ps_H K i - ps_tk (K i)) := by
    rw [hv]
    unfold ps_tv
    by_cases h4 : K i ≤ 4
    · rw [if_pos h4, if_pos h4]
    · rw [if_neg h4, if_neg h4]
      exact ps_comb_cg (by omega) hk (by omega) H
  rw [e, ps_H_s]
  exact ps_Ag_upd H (by omega)
theorem ps_n9 {t : Nat} (h : t < 1000) : nI t - 9 < 0 ↔ t < 9 := by
  rw [Int32.lt_iff_toInt_lt, show (nI t - 9).toInt = (t : Int) - 9 from ps_ti t 9 h (by omega), show (0 : Int32).toInt = 0 from by decide]
  omega
theorem ps_n9' {t : Nat} (h : t < 1000) : 0 ≤ nI t - 9 ↔ 9 ≤ t := by
  rw [Int32.le_iff_toInt_le, show (nI t - 9).toInt = (t : Int) - 9 from ps_ti t 9 h (by omega), show (0 : Int32).toInt = 0 from by decide]
  omega
theorem ps_n9m {t m : Nat} (h : t < 1000) (hm : m < 1000) : nI t - 9 ≤ nI m ↔ t ≤ m + 9 := by
  rw [Int32.le_iff_toInt_le, show (nI t - 9).toInt = (t : Int) - 9 from ps_ti t 9 h (by omega), nI_toInt (by omega)]
  omega
theorem ps_n9n {t m : Nat} (h : t < 1000) (hm : m < 1000) : nI m < nI t - 9 ↔ m + 9 < t := by
  rw [Int32.lt_iff_toInt_lt, show (nI t - 9).toInt = (t : Int) - 9 from ps_ti t 9 h (by omega), nI_toInt (by omega)]
  omega
theorem ps_n99 {t : Nat} (h : 9 ≤ t) : nI t - 9 = nI (t - 9) := pk_sub h
theorem ps_cl_lt (t m : Nat) : ps_cl t m ≤ m := by
  unfold ps_cl
  repeat' split
  all_goals omega
/-- a number of a range as a natural less 8 -/
theorem ps_of {x : Int32} {lo hi : Int} (h1 : lo ≤ x.toInt) (h2 : x.toInt < hi) (hlo : -8 ≤ lo) (hhi : hi ≤ 100) : ∃ c : Nat, lo + 8 ≤ (c : Int) ∧ (c : Int) < hi + 8 ∧ x = nI c - 8 := by
  refine ⟨(x.toInt + 8).toNat, by omega, by omega, ?_⟩
  apply Int32.toInt_inj.mp
  rw [show (nI (x.toInt + 8).toNat - 8).toInt = (((x.toInt + 8).toNat : Nat) : Int) - 8 from ps_ti _ 8 (by omega) (by omega)]
  omega
theorem ps_rem9 {b : Nat} (h : b < 1000) : nI b - nI b / 9 * 9 = nI (b % 9) := pk_rem (d := 9) (by omega) (by omega) (by omega)
theorem ps_rem3 {b : Nat} (h : b < 1000) : nI b - nI b / 3 * 3 = nI (b % 3) := pk_rem (d := 3) (by omega) (by omega) (by omega)
theorem ps_div9 {b : Nat} (h : b < 1000) : nI b / 9 = nI (b / 9) := pk_div (d := 9) (by omega) (by omega) (by omega)
theorem ps_div3 {b : Nat} (h : b < 1000) : nI b / 3 = nI (b / 3) := pk_div (d := 3) (by omega) (by omega) (by omega)
theorem ps_rem8 {b : Nat} (h : b < 1000) : nI b - nI b / 8 * 8 = nI (b % 8) := pk_rem (d := 8) (by omega) (by omega) (by omega)
theorem ps_div8 {b : Nat} (h : b < 1000) : nI b / 8 = nI (b / 8) := pk_div (d := 8) (by omega) (by omega) (by omega)
theorem ps_rem24 {b : Nat} (h : b < 1000) : nI b - nI b / 24 * 24 = nI (b % 24) := pk_rem (d := 24) (by omega) (by omega) (by omega)
theorem ps_div24 {b : Nat} (h : b < 1000) : nI b / 24 = nI (b / 24) := pk_div (d := 24) (by omega) (by omega) (by omega)
end PS3
end
section
section PS4
variable {sc dl df : Int32} {src xk xa xl xw dk da xp xs : Nat → Int32}
theorem ps_k13 {kd : Nat} (h : kd ≤ 12) : kd = 0 ∨ kd = 1 ∨ kd = 2 ∨ kd = 3 ∨ kd = 4 ∨ kd = 5 ∨ kd = 6 ∨ kd = 7 ∨ kd = 8 ∨ kd = 9 ∨ kd = 10 ∨ kd = 11 ∨ kd = 12 := by omega
theorem ps_simple_3 {src : Nat → Int32} {G : Nat → Nat → Nat → Int32} {b cx cy : Nat} (h : b < 1000) : ps_simple src G 3 (nI b) cx cy = src (8 * ps_cl (cy + b % 9 % 3) 5 + ps_cl (cx + b % 9 / 3) 7) := by
  show src (8 * ps_cl (cy + (nI b).toNatClampNeg % 9 % 3) 5 + ps_cl (cx + (nI b).toNatClampNeg % 9 / 3) 7) = _
  rw [nI_clamp (by omega)]
theorem ps_simple_4 {src : Nat → Int32} {G : Nat → Nat → Nat → Int32} {b cx cy : Nat} (h : b < 1000) : ps_simple src G 4 (nI b) cx cy = G (b / 9) (cx + b % 9 / 3 - 1) (cy + b % 9 % 3 - 1) := by
  show G ((nI b).toNatClampNeg / 9) (cx + (nI b).toNatClampNeg % 9 / 3 - 1) (cy + (nI b).toNatClampNeg % 9 % 3 - 1) = _
  rw [nI_clamp (by omega)]
theorem xh_taken {post : Int32 → Prop} (kd : Nat) (hk : kd ≤ 12) (h : post (nI (ps_tk kd))) : wpX_formulasTaken post (sc, dl, df, src, xk, xa, xl, xw, dk, da, xp, xs) (nI kd) := by
  rcases ps_k13 hk with rfl | rfl | rfl | rfl | rfl | rfl | rfl | rfl | rfl | rfl | rfl | rfl | rfl
  · exact br_f (by decide) h
  · exact br_f (by decide) h
  · exact br_f (by decide) h
  · exact br_f (by decide) h
  · exact br_f (by decide) h
  · exact br_t (by decide) (br_f (by decide) (br_f (by decide) h))
  · exact br_t (by decide) (br_f (by decide) (br_f (by decide) h))
  · exact br_t (by decide) (br_f (by decide) (br_f (by decide) h))
  · exact br_t (by decide) (br_f (by decide) (br_f (by decide) h))
  · exact br_t (by decide) (br_f (by decide) (br_f (by decide) h))
  · exact br_t (by decide) (br_t (by decide) h)
  · exact br_t (by decide) (br_f (by decide) (br_f (by decide) h))
  · exact br_t (by decide) (br_f (by decide) (br_t (by decide) h))
theorem ps_idx (k cx cy : Nat) : nI k * 528 + nI cy * 24 + nI cx = nI (528 * k + 24 * cy + cx) := by
  rw [show (528 : Int32) = nI 528 from rfl, show (24 : Int32) = nI 24 from rfl, pk_mul, pk_mul, nI_add, nI_add]
  exact congrArg nI (by omega)
theorem xh_place {post : Int32 → Prop} (k cx cy : Nat) {x y : Int32} (hx : x + 8 = nI cx) (hy : y + 8 = nI cy) (h : post (nI (528 * k + 24 * cy + cx))) : wpX_placeInPictures post (sc, dl, df, src, xk, xa, xl, xw, dk, da, xp, xs) (nI k) x y := by
  intro r er c ec
  rw [er, ec, hx, hy, ps_idx]
  exact h
theorem xh_cell {post : Int32 → Prop} (k c : Nat) (hk : k < 5) (hc : c < 48) (h : post (xp (528 * k + 24 * (c / 8 + 8) + (c % 8 + 8)))) : wpX_stageCell post (sc, dl, df, src, xk, xa, xl, xw, dk, da, xp, xs) (nI k) (nI c) := by
  refine ⟨by decide, by decide, xh_place k (c % 8 + 8) (c / 8 + 8) ?_ ?_ ⟨vp_in_nI (by omega) (by omega), ?_⟩⟩
  · rw [ps_rem8 (by omega)]; exact nI_add _ 8
  · rw [ps_div8 (by omega)]; exact nI_add _ 8
  · rw [nI_clamp (by omega)]; exact h
theorem xh_near {post : Int32 → Prop} (t m : Nat) (ht : t < 1000) (hm : m < 1000) (h : post (nI (ps_cl t m))) : wpX_nearest post (sc, dl, df, src, xk, xa, xl, xw, dk, da, xp, xs) (nI t - 9) (nI m) := by
  by_cases h9 : 9 ≤ t
  · refine br_t ((ps_n9' ht).mpr h9) ?_
    by_cases h2 : t ≤ m + 9
    · refine br_t ((ps_n9m ht hm).mpr h2) ?_
      rw [ps_n99 h9]
      have e : ps_cl t m = t - 9 := by
        unfold ps_cl; rw [if_neg (by omega), if_neg (by omega)]
      rw [e] at h; exact h
    · refine br_f (fun z => h2 ((ps_n9m ht hm).mp z)) ?_
      have e : ps_cl t m = m := by
        unfold ps_cl; rw [if_neg (by omega), if_pos (by omega)]
      rw [e] at h; exact h
  · refine br_f (fun z => h9 ((ps_n9' ht).mp z)) ?_
    have e : ps_cl t m = 0 := by
      unfold ps_cl; rw [if_pos (by omega)]
    rw [e] at h; exact h
theorem ps_m8 (a b : Nat) : nI a * 8 + nI b = nI (8 * a + b) := by
  rw [show (8 : Int32) = nI 8 from rfl, pk_mul, nI_add]
  exact congrArg nI (by omega)
theorem ps_8m (a b : Nat) : 8 * nI a + nI b = nI (8 * a + b) := by
  rw [show (8 : Int32) = nI 8 from rfl, pk_mul, nI_add]
theorem xh_beyond {post : Int32 → Prop} (tx ty : Nat) (hx : tx < 1000) (hy : ty < 1000) (h : post (src (8 * ps_cl ty 5 + ps_cl tx 7))) : wpX_sourceBeyondEdges post (sc, dl, df, src, xk, xa, xl, xw, dk, da, xp, xs) (nI tx - 9) (nI ty - 9) := by
  unfold wpX_sourceBeyondEdges
  dsimp only
  refine xh_near tx 7 hx (by omega) ?_
  refine xh_near ty 5 hy (by omega) ?_
  have a := ps_cl_lt ty 5
  have b := ps_cl_lt tx 7
  rw [ps_m8, nI_clamp (by omega)]
  exact ⟨vp_in_nI (by omega) (by omega), h⟩
theorem xh_plain {post : Int32 → Prop} {G : Nat → Nat → Nat → Int32} (kd : Nat) (a : Int32) (k cx cy : Nat) (hd : kd ≤ 4) (hk : k < 5) (hr : ps_rg k cx cy) (h3 : kd = 3 → ∃ b : Nat, b < 9 ∧ a = nI b) (h4 : kd = 4 → ∃ b : Nat, b < 9 * k ∧ a = nI b) (hp : ps_Pic xp G k) (h : post (ps_simple src G kd a cx cy)) : wpX_plainNumber post (sc, dl, df, src, xk, xa, xl, xw, dk, da, xp, xs) (nI kd) a (nI cx - 8) (nI cy - 8) := by
  obtain ⟨r1, r2, r3, r4⟩ := hr
  have c : kd = 0 ∨ kd = 1 ∨ kd = 2 ∨ kd = 3 ∨ kd = 4 := by omega
  rcases c with rfl | rfl | rfl | rfl | rfl
  · exact ⟨by decide, fun nb enb => ⟨by decide, fun nx enx => ⟨by decide, fun ny eny => br_f (by decide) (br_f (by decide) (br_t (by decide) h))⟩⟩⟩
  · exact ⟨by decide, fun nb enb => ⟨by decide, fun nx enx => ⟨by decide, fun ny eny => br_f (by decide) (br_f (by decide) (br_f (by decide) (br_t (by decide) h)))⟩⟩⟩
  · exact ⟨by decide, fun nb enb => ⟨by decide, fun nx enx => ⟨by decide, fun ny eny => br_f (by decide) (br_f (by decide) (br_f (by decide) (br_f (by decide) (br_t (by decide) h))))⟩⟩⟩
  · obtain ⟨b, hb, rfl⟩ := h3 rfl
    rw [ps_simple_3 (by omega)] at h
    refine ⟨by decide, nm_r (ps_rem9 (by omega)) ⟨by decide, nm_r (e' := nI (cx + b % 9 / 3) - 9) (by rw [ps_div3 (by omega), ps_9]) ⟨by decide, nm_r (e' := nI (cy + b % 9 % 3) - 9) (by rw [ps_rem3 (by omega), ps_9]) ?_⟩⟩⟩
    refine br_f (by decide) (br_f (by decide) (br_f (by decide) (br_f (by decide) (br_f (by decide) (br_t (by decide) ?_)))))
    exact xh_beyond _ _ (by omega) (by omega) h
  · obtain ⟨b, hb, rfl⟩ := h4 rfl
    rw [ps_simple_4 (by omega)] at h
    refine ⟨by decide, nm_r (ps_rem9 (by omega)) ⟨by decide, nm_r (e' := nI (cx + b % 9 / 3) - 9) (by rw [ps_div3 (by omega), ps_9]) ⟨by decide, nm_r (e' := nI (cy + b % 9 % 3) - 9) (by rw [ps_rem3 (by omega), ps_9]) ?_⟩⟩⟩
    refine br_f (by decide) (br_t (by decide) ⟨by decide, ?_⟩)
    rw [ps_div9 (by omega)]
    refine xh_place (b / 9) (cx + b % 9 / 3 - 1) (cy + b % 9 % 3 - 1) (ps_98 (by omega)) (ps_98 (by omega)) ⟨vp_in_nI (by omega) (by omega), ?_⟩
    rw [nI_clamp (by omega), hp (b / 9) (by omega) _ _ ⟨by omega, by omega, by omega, by omega⟩]
    exact h
theorem xh_joined {post : Int32 → Prop} (kd b : Nat) (h5 : 5 ≤ kd) (hd : kd ≤ 12) (hb : b + ps_tk kd ≤ 6) (h : post (ps_comb kd (xs b) (xs (b + 1)) (xs (b + 2)))) : wpX_joinedNumber post (sc, dl, df, src, xk, xa, xl, xw, dk, da, xp, xs) (nI kd) (nI b) := by
  have b1 := ps_tk_pos h5
  have v0 : vp_in (nI b) 6 := vp_in_nI (by omega) (by omega)
  have e0 : xs (nI b).toNatClampNeg = xs b := by rw [nI_clamp (by omega)]
  have e1 : xs (nI b + 1).toNatClampNeg = xs (b + 1) := by rw [nI_1, nI_clamp (by omega)]
  have e2 : xs (nI b + 2).toNatClampNeg = xs (b + 2) := by rw [show nI b + 2 = nI (b + 2) from nI_add b 2, nI_clamp (by omega)]
  have c : kd = 5 ∨ kd = 6 ∨ kd = 7 ∨ kd = 8 ∨ kd = 9 ∨ kd = 10 ∨ kd = 11 ∨ kd = 12 := by omega
  rcases c with rfl | rfl | rfl | rfl | rfl | rfl | rfl | rfl
  · have hb : b + 2 ≤ 6 := hb
    have v1 : vp_in (nI b + 1) 6 := by rw [nI_1]; exact vp_in_nI (by omega) (by omega)
    exact ⟨v0, nm_r e0 (br_f (by decide) ⟨v1, nm_r e1 (br_f (by decide) (br_f (by decide) (br_t (by decide) h)))⟩)⟩
  · have hb : b + 2 ≤ 6 := hb
    have v1 : vp_in (nI b + 1) 6 := by rw [nI_1]; exact vp_in_nI (by omega) (by omega)
    exact ⟨v0, nm_r e0 (br_f (by decide) ⟨v1, nm_r e1 (br_f (by decide) (br_f (by decide) (br_f (by decide) (br_t (by decide) h))))⟩)⟩
  · have hb : b + 2 ≤ 6 := hb
    have v1 : vp_in (nI b + 1) 6 := by rw [nI_1]; exact vp_in_nI (by omega) (by omega)
    exact ⟨v0, nm_r e0 (br_f (by decide) ⟨v1, nm_r e1 (br_f (by decide) (br_f (by decide) (br_f (by decide) (br_f (by decide) (br_t (by decide) h)))))⟩)⟩
  · have hb : b + 2 ≤ 6 := hb
    have v1 : vp_in (nI b + 1) 6 := by rw [nI_1]; exact vp_in_nI (by omega) (by omega)
    have h : post (if xs b < xs (b + 1) then xs b else xs (b + 1)) := h
    refine ⟨v0, nm_r e0 (br_f (by decide) ⟨v1, nm_r e1 (br_f (by decide) (br_f (by decide) (br_f (by decide) (br_f (by decide) (br_f (by decide) (br_t (by decide) ?_))))))⟩)⟩
    by_cases q : xs b < xs (b + 1)
    · rw [if_pos q] at h
      exact br_f (Int32.not_le.mpr q) h
    · rw [if_neg q] at h
      exact br_t (Int32.not_lt.mp q) h
  · have hb : b + 2 ≤ 6 := hb
    have v1 : vp_in (nI b + 1) 6 := by rw [nI_1]; exact vp_in_nI (by omega) (by omega)
    have h : post (if xs (b + 1) < xs b then xs b else xs (b + 1)) := h
    refine ⟨v0, nm_r e0 (br_f (by decide) ⟨v1, nm_r e1 (br_f (by decide) (br_f (by decide) (br_f (by decide) (br_f (by decide) (br_f (by decide) (br_f (by decide) (br_t (by decide) ?_)))))))⟩)⟩
    by_cases q : xs (b + 1) < xs b
    · rw [if_pos q] at h
      exact br_f (Int32.not_le.mpr q) h
    · rw [if_neg q] at h
      exact br_t (Int32.not_lt.mp q) h
  · exact ⟨v0, nm_r e0 (br_t (by decide) h)⟩
  · have hb : b + 2 ≤ 6 := hb
    have v1 : vp_in (nI b + 1) 6 := by rw [nI_1]; exact vp_in_nI (by omega) (by omega)
    have h : post (if xs b < xs (b + 1) then 1 else 0) := h
    refine ⟨v0, nm_r e0 (br_f (by decide) ⟨v1, nm_r e1 (br_f (by decide) (br_f (by decide) (br_f (by decide) (br_f (by decide) (br_f (by decide) (br_f (by decide) (br_f (by decide) (br_f (by decide) (br_t (by decide) ?_)))))))))⟩)⟩
    by_cases q : xs b < xs (b + 1)
    · rw [if_pos q] at h
      exact br_f (Int32.not_le.mpr q) h
    · rw [if_neg q] at h
      exact br_t (Int32.not_lt.mp q) h
  · have hb : b + 3 ≤ 6 := hb
    have v1 : vp_in (nI b + 1) 6 := by rw [nI_1]; exact vp_in_nI (by omega) (by omega)
    have v2 : vp_in (nI b + 2) 6 := by rw [show nI b + 2 = nI (b + 2) from nI_add b 2]; exact vp_in_nI (by omega) (by omega)
    have h : post (if 0 < xs b then xs (b + 1) else xs (b + 2)) := h
    refine ⟨v0, nm_r e0 (br_f (by decide) ⟨v1, nm_r e1 (br_f (by decide) (br_t (by decide) ?_))⟩)⟩
    by_cases q : 0 < xs b
    · rw [if_pos q] at h
      exact br_f (Int32.not_le.mpr q) h
    · rw [if_neg q] at h
      exact br_t (Int32.not_lt.mp q) ⟨v2, by rw [e2]; exact h⟩
end PS4
end
section
section PS5
variable {sc dl df : Int32} {src xk xa xl xw dk da xp xs : Nat → Int32}
theorem ps_H_le {s n : Nat} {K : Nat → Nat} {A : Nat → Int32} (W : ps_WF s K A n) (i : Nat) (hi : i ≤ n) : ps_H K i ≤ 6 := by
  cases i with
  | zero => exact Nat.zero_le _
  | succ j => exact (W j (by omega)).2.2.1
/-- a side's tokens from place o on -/
def ps_Tk (kk aa : Nat → Int32) (o n : Nat) (K : Nat → Nat) (A : Nat → Int32) : Prop := ∀ i, i < n → kk (o + i) = nI (K i) ∧ aa (o + i) = A i
theorem xf_loop {post : Int32 → SX → Prop} {G : Nat → Nat → Nat → Int32} {K : Nat → Nat} {A : Nat → Int32} {cx cy k n0 : Nat} (hk : k < 5) (hr : ps_rg k cx cy) (hn : n0 ≤ 14) (W : ps_WF k K A n0) (H1 : ps_H K n0 = 1) (T : ps_Tk xk xa (14 * k) n0 K A) (hp : ps_Pic xp G k) (hpost : ∀ st : Nat → Int32, post (ps_S src G K A cx cy n0 0) (sc, dl, df, src, xk, xa, xl, xw, dk, da, xp, st)) : ∀ (d i : Nat) (st : Nat → Int32) (n : Nat), i + d = n0 → d < n → ps_Ag st (ps_S src G K A cx cy i) (ps_H K i) → wX_formulaAt_20 post (nI cx - 8) (nI cy - 8) (nI (14 * k)) (nI n0) sc dl df n (nI (ps_H K i)) (nI i) src xk xa xl xw dk da xp st := by
  intro d
  induction d with
  | zero =>
    intro i st n hi hd Ag
    obtain ⟨m, rfl⟩ : ∃ m, n = m + 1 := ⟨n - 1, by omega⟩
    obtain rfl : i = n0 := by omega
    refine br_t (nI_le (Nat.le_refl _) (by omega)) ?_
    rw [Ag 0 (by omega)]
    exact hpost st
  | succ d ih =>
    intro i st n hi hd Ag
    obtain ⟨m, rfl⟩ : ∃ m, n = m + 1 := ⟨n - 1, by omega⟩
    obtain ⟨w1, w2, w3, w4, w5⟩ := W i (by omega)
    obtain ⟨t1, t2⟩ := T i (by omega)
    have h6 := ps_H_le W i (by omega)
    have hs : ps_H K (i + 1) = ps_H K i - ps_tk (K i) + 1 := rfl
    have vi : vp_in (nI (14 * k) + nI i) 70 := by rw [nI_add]; exact vp_in_nI (by omega) (by omega)
    have ec : (nI (14 * k) + nI i).toNatClampNeg = 14 * k + i := by rw [nI_add, nI_clamp (by omega)]
    refine br_f (nI_ge (by omega) (by omega)) ⟨vi, nm_r (e' := nI (K i)) (by rw [ec]; exact t1) ?_⟩
    refine xh_taken (K i) w1 ?_
    refine nm_r (e' := nI (ps_H K i - ps_tk (K i))) (pk_sub w2) ?_
    refine pk_lt 4 (K i) (fun h4 => ?_) (fun h4 => ?_)
    · refine xh_joined (K i) (ps_H K i - ps_tk (K i)) (by omega) w1 (by omega) ?_
      refine ⟨vp_in_nI (by omega) (by omega), nm_r (by rw [nI_clamp (by omega)]) (nm_r (nI_1 _) (nm_r (nI_1 _) (ih (i + 1) _ m (by omega) (by omega) (ps_step Ag w1 w2 ?_))))⟩
      unfold ps_tv
      rw [if_neg (by omega)]
    · refine ⟨vi, ?_⟩
      rw [ec, t2]
      refine xh_plain (G := G) (K i) (A i) k cx cy h4 hk hr w4 w5 hp ?_
      refine ⟨vp_in_nI (by omega) (by omega), nm_r (by rw [nI_clamp (by omega)]) (nm_r (nI_1 _) (nm_r (nI_1 _) (ih (i + 1) _ m (by omega) (by omega) (ps_step Ag w1 w2 ?_))))⟩
      unfold ps_tv
      rw [if_pos h4]
theorem xh_formula {post : Int32 → SX → Prop} {G : Nat → Nat → Nat → Int32} {K : Nat → Nat} {A : Nat → Int32} {cx cy k n0 : Nat} (hk : k < 5) (hr : ps_rg k cx cy) (hn : n0 ≤ 14) (W : ps_WF k K A n0) (H1 : ps_H K n0 = 1) (T : ps_Tk xk xa (14 * k) n0 K A) (hl : xl k = nI n0) (hp : ps_Pic xp G k) (hpost : ∀ st : Nat → Int32, post (ps_S src G K A cx cy n0 0) (sc, dl, df, src, xk, xa, xl, xw, dk, da, xp, st)) : wpX_formulaAt post (sc, dl, df, src, xk, xa, xl, xw, dk, da, xp, xs) (nI k) (nI cx - 8) (nI cy - 8) := by
  refine nm_r (e' := nI (14 * k)) ?_ ⟨vp_in_nI hk (by omega), nm_r (e' := nI n0) (by rw [nI_clamp (by omega)]; exact hl) ⟨n0 + 1, ?_⟩⟩
  · rw [show (14 : Int32) = nI 14 from rfl, pk_mul]; exact congrArg nI (by omega)
  · exact xf_loop hk hr hn W H1 T hp hpost n0 0 xs (n0 + 1) (by omega) (by omega) (fun j hj => absurd hj (Nat.not_lt_zero j))
/-- a side's stages -/
def ps_Tab (kk aa ll : Nat → Int32) (s : Nat) (K : Nat → Nat → Nat) (A : Nat → Nat → Int32) (L : Nat → Nat) : Prop := ∀ j, j < s → ll j = nI (L j) ∧ ps_Tk kk aa (14 * j) (L j) (K j) (A j)
def ps_Ok (s : Nat) (K : Nat → Nat → Nat) (A : Nat → Nat → Int32) (L : Nat → Nat) : Prop := ∀ j, j < s → L j ≤ 14 ∧ ps_WF j (K j) (A j) (L j) ∧ ps_H (K j) (L j) = 1
theorem xw_30 {post : SX → Prop} {J2 J18 : Int32 → Int32 → Int32 → Int32 → (Nat → Int32) → (Nat → Int32) → (Nat → Int32) → (Nat → Int32) → (Nat → Int32) → (Nat → Int32) → (Nat → Int32) → (Nat → Int32) → (Nat → Int32) → Prop} {G : Nat → Nat → Nat → Int32} {K : Nat → Nat → Nat} {A : Nat → Nat → Int32} {L : Nat → Nat} {cy k : Nat} {x2 : Int32} (hk : k < 5) (h1 : k ≤ cy) (h2 : cy + k < 22) (hn : L k ≤ 14) (W : ps_WF k (K k) (A k) (L k)) (H1 : ps_H (K k) (L k) = 1) (T : ps_Tk xk xa (14 * k) (L k) (K k) (A k)) (hl : xl k = nI (L k)) (ex : 8 + x2 = nI (24 - k) - 8) (hJ : ∀ p st : Nat → Int32, ps_Pic p G k → ps_Dn p (ps_ev src K A L G k) k (24 * cy + (24 - k)) → J18 (nI (cy + 1) - 8) sc dl df src xk xa xl xw dk da p st) : ∀ (d cx : Nat) (p st : Nat → Int32) (n : Nat), cx + d = 24 - k → k ≤ cx → d < n → ps_Pic p G k → ps_Dn p (ps_ev src K A L G k) k (24 * cy + cx) → wX_workOutStages_30 post J2 J18 (nI k) x2 (nI cy - 8) n (nI cx - 8) sc dl df src xk xa xl xw dk da p st := by
  intro d
  induction d with
  | zero =>
    intro cx p st n hc h3 hd hp hD
    obtain ⟨m, rfl⟩ : ∃ m, n = m + 1 := ⟨n - 1, by omega⟩
    obtain rfl : cx = 24 - k := by omega
    refine br_t (by rw [ex]; exact Int32.le_refl _) (nm_r (ps_91 cy) ?_)
    exact hJ p st hp hD
  | succ d ih =>
    intro cx p st n hc h3 hd hp hD
    obtain ⟨m, rfl⟩ : ∃ m, n = m + 1 := ⟨n - 1, by omega⟩
    have hr : ps_rg k cx cy := ⟨h3, by omega, h1, h2⟩
    refine br_f (by rw [ex, ps_le8 (by omega) (by omega)]; omega) ?_
    refine xh_place k cx cy (ps_p8 cx) (ps_p8 cy) ?_
    refine xh_formula hk hr hn W H1 T hl hp (fun st' => ?_)
    refine ⟨vp_in_nI (by omega) (by omega), nm_r (by rw [nI_clamp (by omega)]) (nm_r (ps_91 cx) ?_)⟩
    exact ih (cx + 1) _ st' m (by omega) (by omega) (by omega) (ps_Pic_upd hp hr) (ps_Dn_upd hD hr)
theorem xw_18 {post : SX → Prop} {J2 : Int32 → Int32 → Int32 → Int32 → (Nat → Int32) → (Nat → Int32) → (Nat → Int32) → (Nat → Int32) → (Nat → Int32) → (Nat → Int32) → (Nat → Int32) → (Nat → Int32) → (Nat → Int32) → Prop} {G : Nat → Nat → Nat → Int32} {K : Nat → Nat → Nat} {A : Nat → Nat → Int32} {L : Nat → Nat} {k : Nat} {x2 : Int32} (hk : k < 5) (hn : L k ≤ 14) (W : ps_WF k (K k) (A k) (L k)) (H1 : ps_H (K k) (L k) = 1) (T : ps_Tk xk xa (14 * k) (L k) (K k) (A k)) (hl : xl k = nI (L k)) (e2 : x2 = 8 - nI k) (hJ : ∀ p st : Nat → Int32, ps_Pic p G k → ps_Dn p (ps_ev src K A L G k) k (24 * (22 - k) + k) → J2 (nI (k + 1)) sc dl df src xk xa xl xw dk da p st) : ∀ (d cy : Nat) (p st : Nat → Int32) (n : Nat), cy + d = 22 - k → k ≤ cy → d < n → ps_Pic p G k → ps_Dn p (ps_ev src K A L G k) k (24 * cy + k) → wX_workOutStages_18 post J2 (nI k) x2 n (nI cy - 8) sc dl df src xk xa xl xw dk da p st := by
  have e8 : 8 + x2 = nI (24 - k) - 8 := by
    rw [e2, ← pk_sub (a := 24) (b := k) (by omega), show nI 24 = 24 from rfl]; grind
  have e6 : 6 + x2 = nI (22 - k) - 8 := by
    rw [e2, ← pk_sub (a := 22) (b := k) (by omega), show nI 22 = 22 from rfl]; grind
  have en : -x2 = nI k - 8 := by rw [e2]; grind
  intro d
  induction d with
  | zero =>
    intro cy p st n hc h3 hd hp hD
    obtain ⟨m, rfl⟩ : ∃ m, n = m + 1 := ⟨n - 1, by omega⟩
    obtain rfl : cy = 22 - k := by omega
    refine br_t (by rw [e6]; exact Int32.le_refl _) (nm_r (nI_1 k) ?_)
    exact hJ p st hp hD
  | succ d ih =>
    intro cy p st n hc h3 hd hp hD
    obtain ⟨m, rfl⟩ : ∃ m, n = m + 1 := ⟨n - 1, by omega⟩
    refine br_f (by rw [e6, ps_le8 (by omega) (by omega)]; omega) (nm_r en ⟨24 - k - k + 1, ?_⟩)
    refine xw_30 hk h3 (by omega) hn W H1 T hl e8 (fun p' st' hp' hD' => ?_) (24 - k - k) k p st (24 - k - k + 1) (by omega) (by omega) (by omega) hp hD
    exact ih (cy + 1) p' st' m (by omega) (by omega) (by omega) hp' (ps_Dn_row hD' (by omega))
theorem xw_2 {post : SX → Prop} {K : Nat → Nat → Nat} {A : Nat → Nat → Int32} {L : Nat → Nat} {s : Nat} (hs : s ≤ 5) (ok : ps_Ok s K A L) (T : ps_Tab xk xa xl s K A L) (hpost : ∀ p st : Nat → Int32, ps_Pic p (ps_G src K A L s) s → post (nI s, dl, df, src, xk, xa, xl, xw, dk, da, p, st)) : ∀ (d k : Nat) (p st : Nat → Int32) (n : Nat), k + d = s → d < n → ps_Pic p (ps_G src K A L k) k → wX_workOutStages_2 post n (nI k) (nI s) dl df src xk xa xl xw dk da p st := by
  intro d
  induction d with
  | zero =>
    intro k p st n hc hd hp
    obtain ⟨m, rfl⟩ : ∃ m, n = m + 1 := ⟨n - 1, by omega⟩
    obtain rfl : k = s := by omega
    refine br_t (nI_le (Nat.le_refl _) (by omega)) ?_
    exact hpost p st hp
  | succ d ih =>
    intro k p st n hc hd hp
    obtain ⟨m, rfl⟩ : ∃ m, n = m + 1 := ⟨n - 1, by omega⟩
    obtain ⟨o1, o2, o3⟩ := ok k (by omega)
    obtain ⟨t1, t2⟩ := T k (by omega)
    refine br_f (nI_ge (by omega) (by omega)) (nm_e (nm_r (e' := nI k - 8) (by grind) ⟨22 - k - k + 1, ?_⟩))
    refine xw_18 (by omega) o1 o2 o3 t2 t1 rfl (fun p' st' hp' hD' => ?_) (22 - k - k) k p st (22 - k - k + 1) (by omega) (by omega) (by omega) hp (ps_Dn_0 _ _ _)
    exact ih (k + 1) p' st' m (by omega) (by omega) (ps_next src K A L hp' hD' (by omega))
theorem ps_Pic_0 (p : Nat → Int32) (G : Nat → Nat → Nat → Int32) : ps_Pic p G 0 := fun j hj => absurd hj (Nat.not_lt_zero j)
theorem xh_work {post : SX → Prop} {K : Nat → Nat → Nat} {A : Nat → Nat → Int32} {L : Nat → Nat} {s : Nat} (hs : s ≤ 5) (ok : ps_Ok s K A L) (T : ps_Tab xk xa xl s K A L) (hpost : ∀ p st : Nat → Int32, ps_Pic p (ps_G src K A L s) s → post (nI s, dl, df, src, xk, xa, xl, xw, dk, da, p, st)) : wpX_workOutStages post (nI s, dl, df, src, xk, xa, xl, xw, dk, da, xp, xs) :=
  ⟨s + 1, xw_2 hs ok T hpost s 0 xp xs (s + 1) (by omega) (by omega) (ps_Pic_0 _ _)⟩
end PS5
end
section
section PS6
variable {ns ht : Int32} {src yz yk ya yw yp ys : Nat → Int32}
theorem yh_taken {post : Int32 → Prop} (kd : Nat) (hk : kd ≤ 12) (h : post (nI (ps_tk kd))) : wpY_taken post (ns, ht, src, yz, yk, ya, yw, yp, ys) (nI kd) := by
  rcases ps_k13 hk with rfl | rfl | rfl | rfl | rfl | rfl | rfl | rfl | rfl | rfl | rfl | rfl | rfl
  · exact br_f (by decide) h
  · exact br_f (by decide) h
  · exact br_f (by decide) h
  · exact br_f (by decide) h
  · exact br_f (by decide) h
  · exact br_t (by decide) (br_f (by decide) (br_f (by decide) h))
  · exact br_t (by decide) (br_f (by decide) (br_f (by decide) h))
  · exact br_t (by decide) (br_f (by decide) (br_f (by decide) h))
  · exact br_t (by decide) (br_f (by decide) (br_f (by decide) h))
  · exact br_t (by decide) (br_f (by decide) (br_f (by decide) h))
  · exact br_t (by decide) (br_t (by decide) h)
  · exact br_t (by decide) (br_f (by decide) (br_f (by decide) h))
  · exact br_t (by decide) (br_f (by decide) (br_t (by decide) h))
theorem ps_idy (k cx cy : Nat) {x y : Int32} (hx : x + 8 = nI cx) (hy : y + 8 = nI cy) : 528 * nI k + 24 * (y + 8) + x + 8 = nI (528 * k + 24 * cy + cx) := by
  rw [hy, Int32.add_assoc, hx, show (528 : Int32) = nI 528 from rfl, show (24 : Int32) = nI 24 from rfl, pk_mul, pk_mul, nI_add, nI_add]
theorem yh_at {post : Int32 → Prop} (k cx cy : Nat) {x y : Int32} (hx : x + 8 = nI cx) (hy : y + 8 = nI cy) (hk : k < 5) (h1 : cx < 24) (h2 : cy < 22) (h : post (yp (528 * k + 24 * cy + cx))) : wpY_at post (ns, ht, src, yz, yk, ya, yw, yp, ys) (nI k) x y := by
  unfold wpY_at
  dsimp only
  rw [ps_idy k cx cy hx hy, nI_clamp (by omega)]
  exact ⟨vp_in_nI (by omega) (by omega), h⟩
theorem yn_39 {post : Int32 → Prop} (r c : Nat) (hr : r ≤ 5) (hc : c ≤ 7) (h : post (src (8 * r + c))) : wY_sourceNear_39 post (nI c) (nI r) ns ht src yz yk ya yw yp ys := by
  unfold wY_sourceNear_39
  rw [ps_8m, nI_clamp (by omega)]
  exact ⟨vp_in_nI (by omega) (by omega), h⟩
theorem yn_20 {post : Int32 → Prop} (t c : Nat) (hT : t < 1000) (hc : c ≤ 7) (h : post (src (8 * ps_cl t 5 + c))) : wY_sourceNear_20 post (nI t - 9) (nI c) ns ht src yz yk ya yw yp ys := by
  by_cases h9 : 9 ≤ t
  · refine br_t ((ps_n9' hT).mpr h9) ?_
    by_cases h2 : t ≤ 5 + 9
    · refine br_t ((ps_n9m (m := 5) hT (by omega)).mpr h2) ?_
      rw [ps_n99 h9]
      have e : ps_cl t 5 = t - 9 := by
        unfold ps_cl; rw [if_neg (by omega), if_neg (by omega)]
      rw [e] at h
      exact yn_39 _ _ (by omega) hc h
    · refine br_f (fun z => h2 ((ps_n9m (m := 5) hT (by omega)).mp z)) ?_
      have e : ps_cl t 5 = 5 := by
        unfold ps_cl; rw [if_neg (by omega), if_pos (by omega)]
      rw [e] at h
      exact yn_39 5 _ (by omega) hc h
  · refine br_f (fun z => h9 ((ps_n9' hT).mp z)) ?_
    have e : ps_cl t 5 = 0 := by
      unfold ps_cl; rw [if_pos (by omega)]
    rw [e] at h
    exact yn_39 0 _ (by omega) hc h
theorem yh_near {post : Int32 → Prop} (t t2 : Nat) (hT : t < 1000) (ht2 : t2 < 1000) (h : post (src (8 * ps_cl t2 5 + ps_cl t 7))) : wpY_sourceNear post (ns, ht, src, yz, yk, ya, yw, yp, ys) (nI t - 9) (nI t2 - 9) := by
  by_cases h9 : 9 ≤ t
  · refine br_t ((ps_n9' hT).mpr h9) ?_
    by_cases h2 : t ≤ 7 + 9
    · refine br_t ((ps_n9m (m := 7) hT (by omega)).mpr h2) ?_
      rw [ps_n99 h9]
      have e : ps_cl t 7 = t - 9 := by
        unfold ps_cl; rw [if_neg (by omega), if_neg (by omega)]
      rw [e] at h
      exact yn_20 _ _ ht2 (by omega) h
    · refine br_f (fun z => h2 ((ps_n9m (m := 7) hT (by omega)).mp z)) ?_
      have e : ps_cl t 7 = 7 := by
        unfold ps_cl; rw [if_neg (by omega), if_pos (by omega)]
      rw [e] at h
      exact yn_20 _ 7 ht2 (by omega) h
  · refine br_f (fun z => h9 ((ps_n9' hT).mp z)) ?_
    have e : ps_cl t 7 = 0 := by
      unfold ps_cl; rw [if_pos (by omega)]
    rw [e] at h
    exact yn_20 _ 0 ht2 (by omega) h
theorem yh_simple {post : Int32 → Prop} {G : Nat → Nat → Nat → Int32} (kd : Nat) (a : Int32) (k cx cy : Nat) (hd : kd ≤ 4) (hk : k < 5) (hr : ps_rg k cx cy) (h3 : kd = 3 → ∃ b : Nat, b < 9 ∧ a = nI b) (h4 : kd = 4 → ∃ b : Nat, b < 9 * k ∧ a = nI b) (hp : ps_Pic yp G k) (h : post (ps_simple src G kd a cx cy)) : wpY_simple post (ns, ht, src, yz, yk, ya, yw, yp, ys) (nI kd) a (nI cx - 8) (nI cy - 8) := by
  obtain ⟨r1, r2, r3, r4⟩ := hr
  have c : kd = 0 ∨ kd = 1 ∨ kd = 2 ∨ kd = 3 ∨ kd = 4 := by omega
  rcases c with rfl | rfl | rfl | rfl | rfl
  · exact br_t (by decide) h
  · exact br_f (by decide) (br_t (by decide) h)
  · exact br_f (by decide) (br_f (by decide) (br_t (by decide) h))
  · obtain ⟨b, hb, rfl⟩ := h3 rfl
    rw [ps_simple_3 (by omega)] at h
    refine br_f (by decide) (br_f (by decide) (br_f (by decide) ?_))
    refine ⟨by decide, nm_r (ps_rem9 (by omega)) ⟨by decide, nm_r (e' := nI (cx + b % 9 / 3) - 9) (by rw [ps_div3 (by omega), ps_9]) ⟨by decide, nm_r (e' := nI (cy + b % 9 % 3) - 9) (by rw [ps_rem3 (by omega), ps_9]) ?_⟩⟩⟩
    refine br_t (by decide) ?_
    exact yh_near _ _ (by omega) (by omega) h
  · obtain ⟨b, hb, rfl⟩ := h4 rfl
    rw [ps_simple_4 (by omega)] at h
    refine br_f (by decide) (br_f (by decide) (br_f (by decide) ?_))
    refine ⟨by decide, nm_r (ps_rem9 (by omega)) ⟨by decide, nm_r (e' := nI (cx + b % 9 / 3) - 9) (by rw [ps_div3 (by omega), ps_9]) ⟨by decide, nm_r (e' := nI (cy + b % 9 % 3) - 9) (by rw [ps_rem3 (by omega), ps_9]) ?_⟩⟩⟩
    refine br_f (by decide) ⟨by decide, ?_⟩
    rw [ps_div9 (by omega)]
    refine yh_at (b / 9) (cx + b % 9 / 3 - 1) (cy + b % 9 % 3 - 1) (ps_98 (by omega)) (ps_98 (by omega)) (by omega) (by omega) (by omega) ?_
    rw [hp (b / 9) (by omega) _ _ ⟨by omega, by omega, by omega, by omega⟩]
    exact h
theorem yh_comb {post : Int32 → Prop} (kd : Nat) (f g q : Int32) (h5 : 5 ≤ kd) (hd : kd ≤ 11) (hn : kd ≠ 10) (h : post (ps_comb kd f g q)) : wpY_combined post (ns, ht, src, yz, yk, ya, yw, yp, ys) (nI kd) f g := by
  have c : kd = 5 ∨ kd = 6 ∨ kd = 7 ∨ kd = 8 ∨ kd = 9 ∨ kd = 11 := by omega
  rcases c with rfl | rfl | rfl | rfl | rfl | rfl
  · exact br_f (by decide) (br_f (by decide) (br_t (by decide) h))
  · exact br_f (by decide) (br_f (by decide) (br_f (by decide) (br_t (by decide) h)))
  · exact br_f (by decide) (br_f (by decide) (br_f (by decide) (br_f (by decide) (br_t (by decide) h))))
  · refine br_f (by decide) (br_f (by decide) (br_f (by decide) (br_f (by decide) (br_f (by decide) (br_t (by decide) ?_)))))
    have h : post (if f < g then f else g) := h
    by_cases q : f < g
    · rw [if_pos q] at h
      exact br_f (Int32.not_le.mpr q) h
    · rw [if_neg q] at h
      exact br_t (Int32.not_lt.mp q) h
  · refine br_f (by decide) (br_f (by decide) (br_f (by decide) (br_f (by decide) (br_f (by decide) (br_f (by decide) (br_t (by decide) ?_))))))
    have h : post (if g < f then f else g) := h
    by_cases q : g < f
    · rw [if_pos q] at h
      exact br_f (Int32.not_le.mpr q) h
    · rw [if_neg q] at h
      exact br_t (Int32.not_lt.mp q) h
  · refine br_f (by decide) (br_t (by decide) ?_)
    have h : post (if f < g then 1 else 0) := h
    by_cases q : f < g
    · rw [if_pos q] at h
      exact br_f (Int32.not_le.mpr q) h
    · rw [if_neg q] at h
      exact br_t (Int32.not_lt.mp q) h
end PS6
end
section
section PS7
variable {ns ht : Int32} {src yz yk ya yw yp ys : Nat → Int32}
theorem ps_tv_hi {src : Nat → Int32} {G : Nat → Nat → Nat → Int32} {kd : Nat} {a : Int32} {cx cy : Nat} {S : Nat → Int32} {b : Nat} (h : 5 ≤ kd) : ps_tv src G kd a cx cy S b = ps_comb kd (S b) (S (b + 1)) (S (b + 2)) := if_neg (by omega)
theorem ps_tv_lo {src : Nat → Int32} {G : Nat → Nat → Nat → Int32} {kd : Nat} {a : Int32} {cx cy : Nat} {S : Nat → Int32} {b : Nat} (h : kd ≤ 4) : ps_tv src G kd a cx cy S b = ps_simple src G kd a cx cy := if_pos h
theorem ps_14 (k i : Nat) : 14 * nI k + nI i = nI (14 * k + i) := by
  rw [show (14 : Int32) = nI 14 from rfl, pk_mul, nI_add]
theorem ps_mm {h : Nat} (h1 : 1 ≤ h) : nI h + (-1) = nI (h - 1) := by
  obtain ⟨q, rfl⟩ : ∃ q, h = q + 1 := ⟨h - 1, by omega⟩
  exact pk_m1 q
theorem yf_loop {post : Int32 → SY → Prop} {G : Nat → Nat → Nat → Int32} {K : Nat → Nat} {A : Nat → Int32} {cx cy k n0 : Nat} (hk : k < 5) (hr : ps_rg k cx cy) (hn : n0 ≤ 14) (W : ps_WF k K A n0) (H1 : ps_H K n0 = 1) (T : ps_Tk yk ya (14 * k) n0 K A) (hl : yz k = nI n0) (hp : ps_Pic yp G k) (hpost : ∀ st : Nat → Int32, post (ps_S src G K A cx cy n0 0) (ns, ht, src, yz, yk, ya, yw, yp, st)) : ∀ (d i : Nat) (st : Nat → Int32) (n : Nat), i + d = n0 → d < n → ps_Ag st (ps_S src G K A cx cy i) (ps_H K i) → wY_formula_6 post (nI k) (nI cx - 8) (nI cy - 8) ns ht n (nI (ps_H K i)) (nI i) src yz yk ya yw yp st := by
  have vk : vp_in (nI k) 6 := vp_in_nI (by omega) (by omega)
  have hz : yz (nI k).toNatClampNeg = nI n0 := by rw [nI_clamp (by omega)]; exact hl
  intro d
  induction d with
  | zero =>
    intro i st n hi hd Ag
    obtain ⟨m, rfl⟩ : ∃ m, n = m + 1 := ⟨n - 1, by omega⟩
    obtain rfl : i = n0 := by omega
    refine ⟨vk, br_t (by rw [hz]; exact nI_le (Nat.le_refl _) (by omega)) ?_⟩
    rw [Ag 0 (by omega)]
    exact hpost st
  | succ d ih =>
    intro i st n hi hd Ag
    obtain ⟨m, rfl⟩ : ∃ m, n = m + 1 := ⟨n - 1, by omega⟩
    obtain ⟨w1, w2, w3, w4, w5⟩ := W i (by omega)
    obtain ⟨t1, t2⟩ := T i (by omega)
    have h6 := ps_H_le W i (by omega)
    have hs : ps_H K (i + 1) = ps_H K i - ps_tk (K i) + 1 := rfl
    have key : ∀ (v : Int32) (b h' : Nat), b = ps_H K i - ps_tk (K i) → h' = b + 1 → v = ps_tv src G (K i) (A i) cx cy st b → wY_formula_6 post (nI k) (nI cx - 8) (nI cy - 8) ns ht m (nI h') (nI (i + 1)) src yz yk ya yw yp (upd st b v) := by
      intro v b h' eb eh ev
      subst eb eh
      exact ih (i + 1) _ m (by omega) (by omega) (ps_step Ag w1 w2 ev)
    have vi : vp_in (14 * nI k + nI i) 84 := by rw [ps_14]; exact vp_in_nI (by omega) (by omega)
    have ec : (14 * nI k + nI i).toNatClampNeg = 14 * k + i := by rw [ps_14, nI_clamp (by omega)]
    refine ⟨vk, br_f (by rw [hz]; exact nI_ge (by omega) (by omega)) ⟨vi, nm_r (e' := nI (K i)) (by rw [ec]; exact t1) ?_⟩⟩
    generalize ps_H K i = h at *
    generalize hkd : K i = kd at *
    refine pk_le 5 kd (fun h5 => ?_) (fun h5 => ?_)
    · clear w4 w5
      have tp := ps_tk_pos h5
      have s1 : nI h - 1 = nI (h - 1) := pk_sub (b := 1) (by omega)
      have v1 : vp_in (nI h - 1) 14 := by rw [s1]; exact vp_in_nI (by omega) (by omega)
      have c1 : (nI h - 1).toNatClampNeg = h - 1 := by rw [s1, nI_clamp (by omega)]
      refine pk_eq kd 10 (fun h10 => ?_) (fun n10 => ?_)
      · subst h10
        have w2 : 1 ≤ h := w2
        refine ⟨v1, v1, nm_r (e' := upd st (h - 1) (st (h - 1) >>> ((1 : Int32) &&& 31))) (by rw [c1]) (nm_r (nI_1 i) ?_)⟩
        exact key _ (h - 1) h rfl (by omega) (by rw [ps_tv_hi (by omega)]; rfl)
      · refine pk_eq kd 12 (fun h12 => ?_) (fun n12 => ?_)
        · subst h12
          have w2 : 3 ≤ h := w2
          have s2 : nI h - 2 = nI (h - 2) := pk_sub (b := 2) (by omega)
          have s3 : nI h - 3 = nI (h - 3) := pk_sub (b := 3) (by omega)
          have v2 : vp_in (nI h - 2) 14 := by rw [s2]; exact vp_in_nI (by omega) (by omega)
          have c2 : (nI h - 2).toNatClampNeg = h - 2 := by rw [s2, nI_clamp (by omega)]
          have v3 : vp_in (nI h - 3) 14 := by rw [s3]; exact vp_in_nI (by omega) (by omega)
          have c3 : (nI h - 3).toNatClampNeg = h - 3 := by rw [s3, nI_clamp (by omega)]
          have et : ps_tv src G 12 (A i) cx cy st (h - 3) = if 0 < st (h - 3) then st (h - 2) else st (h - 1) := by
            rw [ps_tv_hi (by omega), show h - 2 = h - 3 + 1 from by omega, show h - 1 = h - 3 + 2 from by omega]; rfl
          refine ⟨v3, ?_⟩
          rw [c1, c2, c3]
          by_cases q : 0 < st (h - 3)
          · refine br_f (Int32.not_le.mpr q) ⟨v2, v3, nm_r (e' := upd st (h - 3) (st (h - 2))) (by rw [c3]) (nm_r s2 (nm_r (nI_1 i) ?_))⟩
            exact key _ (h - 3) (h - 2) rfl (by omega) (by rw [et, if_pos q])
          · refine br_t (Int32.not_lt.mp q) ⟨v1, v3, nm_r (e' := upd st (h - 3) (st (h - 1))) (by rw [c3]) (nm_r s2 (nm_r (nI_1 i) ?_))⟩
            exact key _ (h - 3) (h - 2) rfl (by omega) (by rw [et, if_neg q])
        · have e2 : ps_tk kd = 2 := by
            unfold ps_tk; rw [if_neg (by omega), if_neg (by omega), if_neg (by omega)]
          rw [e2] at w2
          have s2 : nI h - 2 = nI (h - 2) := pk_sub (b := 2) (by omega)
          have v2 : vp_in (nI h - 2) 14 := by rw [s2]; exact vp_in_nI (by omega) (by omega)
          have c2 : (nI h - 2).toNatClampNeg = h - 2 := by rw [s2, nI_clamp (by omega)]
          refine ⟨v2, v1, ?_⟩
          rw [c1, c2]
          refine yh_comb kd (st (h - 2)) (st (h - 1)) (st h) h5 (by omega) n10 ?_
          refine ⟨v2, nm_e (nm_r (ps_mm (by omega)) (nm_r (nI_1 i) ?_))⟩
          refine key _ (h - 2) (h - 1) (by omega) (by omega) ?_
          rw [ps_tv_hi h5, show h - 2 + 1 = h - 1 from by omega, show h - 2 + 2 = h from by omega]
    · have e0 : ps_tk kd = 0 := by
        unfold ps_tk; rw [if_pos (by omega)]
      refine ⟨vi, ?_⟩
      rw [ec, t2]
      refine yh_simple (G := G) kd (A i) k cx cy (by omega) hk hr w4 w5 hp ?_
      refine ⟨vp_in_nI (by omega) (by omega), nm_r (e' := upd st h (ps_simple src G kd (A i) cx cy)) (by rw [nI_clamp (by omega)]) (nm_r (nI_1 _) (nm_r (nI_1 _) ?_))⟩
      exact key _ h (h + 1) (by omega) rfl (by rw [ps_tv_lo (by omega)])
theorem yh_formula {post : Int32 → SY → Prop} {G : Nat → Nat → Nat → Int32} {K : Nat → Nat} {A : Nat → Int32} {cx cy k n0 : Nat} (hk : k < 5) (hr : ps_rg k cx cy) (hn : n0 ≤ 14) (W : ps_WF k K A n0) (H1 : ps_H K n0 = 1) (T : ps_Tk yk ya (14 * k) n0 K A) (hl : yz k = nI n0) (hp : ps_Pic yp G k) (hpost : ∀ st : Nat → Int32, post (ps_S src G K A cx cy n0 0) (ns, ht, src, yz, yk, ya, yw, yp, st)) : wpY_formula post (ns, ht, src, yz, yk, ya, yw, yp, ys) (nI k) (nI cx - 8) (nI cy - 8) :=
  ⟨n0 + 1, yf_loop hk hr hn W H1 T hl hp hpost n0 0 ys (n0 + 1) (by omega) (by omega) (fun j hj => absurd hj (Nat.not_lt_zero j))⟩
theorem yw_12 {post : SY → Prop} {J2 : Int32 → Int32 → Int32 → (Nat → Int32) → (Nat → Int32) → (Nat → Int32) → (Nat → Int32) → (Nat → Int32) → (Nat → Int32) → (Nat → Int32) → Prop} {G : Nat → Nat → Nat → Int32} {K : Nat → Nat → Nat} {A : Nat → Nat → Int32} {L : Nat → Nat} {k : Nat} (hk : k < 5) (hn : L k ≤ 14) (W : ps_WF k (K k) (A k) (L k)) (H1 : ps_H (K k) (L k) = 1) (T : ps_Tk yk ya (14 * k) (L k) (K k) (A k)) (hl : yz k = nI (L k)) (hJ : ∀ p st : Nat → Int32, ps_Pic p G k → ps_Dn p (ps_ev src K A L G k) k 528 → J2 (nI (k + 1)) ns ht src yz yk ya yw p st) : ∀ (d c : Nat) (p st : Nat → Int32) (n : Nat), c + d = 528 → d < n → ps_Pic p G k → ps_Dn p (ps_ev src K A L G k) k c → wY_work_12 post J2 (nI k) n (nI c) ns ht src yz yk ya yw p st := by
  have e15 : 15 - nI k = nI (23 - k) - 8 := by
    rw [← pk_sub (a := 23) (b := k) (by omega), show nI 23 = 23 from rfl]; grind
  have e13 : 13 - nI k = nI (21 - k) - 8 := by
    rw [← pk_sub (a := 21) (b := k) (by omega), show nI 21 = 21 from rfl]; grind
  intro d
  induction d with
  | zero =>
    intro c p st n hc hd hp hD
    obtain ⟨m, rfl⟩ : ∃ m, n = m + 1 := ⟨n - 1, by omega⟩
    obtain rfl : c = 528 := by omega
    refine br_t (by decide) (nm_r (nI_1 k) ?_)
    exact hJ p st hp hD
  | succ d ih =>
    intro c p st n hc hd hp hD
    obtain ⟨m, rfl⟩ : ∃ m, n = m + 1 := ⟨n - 1, by omega⟩
    obtain ⟨cx, cy, hx, rfl⟩ : ∃ cx cy, cx < 24 ∧ c = 24 * cy + cx := ⟨c % 24, c / 24, by omega, by omega⟩
    have skip : ¬ ps_rg k cx cy → wY_work_12 post J2 (nI k) m (nI (24 * cy + cx + 1)) ns ht src yz yk ya yw p st := fun hr => ih _ p st m (by omega) (by omega) hp (ps_Dn_skip hD hr hx)
    refine br_f (nI_ge (b := 528) (by omega) (by decide)) ⟨by decide, nm_r (e' := nI cx - 8) (by rw [ps_rem24 (by omega), show (24 * cy + cx) % 24 = cx from by omega]) ⟨by decide, nm_r (e' := nI cy - 8) (by rw [ps_div24 (by omega), show (24 * cy + cx) / 24 = cy from by omega]) ?_⟩⟩
    rw [e15, e13]
    refine br_c (fun q => nm_r (nI_1 _) (skip ?_)) (fun q1 => br_c (fun q => nm_r (nI_1 _) (skip ?_)) (fun q2 => br_c (fun q => nm_r (nI_1 _) (skip ?_)) (fun q3 => br_c (fun q => nm_r (nI_1 _) (skip ?_)) (fun q4 => ?_))))
    · rw [ps_lt8 (by omega) (by omega)] at q
      rintro ⟨r1, r2, r3, r4⟩; omega
    · rw [ps_lt8 (by omega) (by omega)] at q
      rintro ⟨r1, r2, r3, r4⟩; omega
    · rw [ps_lt8 (by omega) (by omega)] at q
      rintro ⟨r1, r2, r3, r4⟩; omega
    · rw [ps_lt8 (by omega) (by omega)] at q
      rintro ⟨r1, r2, r3, r4⟩; omega
    · rw [ps_lt8 (by omega) (by omega)] at q1 q2 q3 q4
      have hr : ps_rg k cx cy := ⟨by omega, by omega, by omega, by omega⟩
      have ei : 528 * nI k + nI (24 * cy + cx) = nI (528 * k + 24 * cy + cx) := by
        rw [show (528 : Int32) = nI 528 from rfl, pk_mul, nI_add]; exact congrArg nI (by omega)
      refine yh_formula hk hr hn W H1 T hl hp (fun st' => ?_)
      refine ⟨by rw [ei]; exact vp_in_nI (by omega) (by omega), nm_r (by rw [ei, nI_clamp (by omega)]) (nm_r (nI_1 _) ?_)⟩
      exact ih _ _ st' m (by omega) (by omega) (ps_Pic_upd hp hr) (ps_Dn_upd hD hr)
theorem yw_2 {post : SY → Prop} {K : Nat → Nat → Nat} {A : Nat → Nat → Int32} {L : Nat → Nat} {s : Nat} (hs : s ≤ 5) (ok : ps_Ok s K A L) (T : ps_Tab yk ya yz s K A L) (hpost : ∀ p st : Nat → Int32, ps_Pic p (ps_G src K A L s) s → post (nI s, ht, src, yz, yk, ya, yw, p, st)) : ∀ (d k : Nat) (p st : Nat → Int32) (n : Nat), k + d = s → d < n → ps_Pic p (ps_G src K A L k) k → wY_work_2 post n (nI k) (nI s) ht src yz yk ya yw p st := by
  intro d
  induction d with
  | zero =>
    intro k p st n hc hd hp
    obtain ⟨m, rfl⟩ : ∃ m, n = m + 1 := ⟨n - 1, by omega⟩
    obtain rfl : k = s := by omega
    refine br_t (nI_le (Nat.le_refl _) (by omega)) ?_
    exact hpost p st hp
  | succ d ih =>
    intro k p st n hc hd hp
    obtain ⟨m, rfl⟩ : ∃ m, n = m + 1 := ⟨n - 1, by omega⟩
    obtain ⟨o1, o2, o3⟩ := ok k (by omega)
    obtain ⟨t1, t2⟩ := T k (by omega)
    refine br_f (nI_ge (by omega) (by omega)) ⟨529, ?_⟩
    refine yw_12 (by omega) o1 o2 o3 t2 t1 (fun p' st' hp' hD' => ?_) 528 0 p st 529 (by omega) (by omega) hp (ps_Dn_00 _ _ _)
    exact ih (k + 1) p' st' m (by omega) (by omega) (ps_next src K A L hp' hD' (by omega))
theorem yh_work {post : SY → Prop} {K : Nat → Nat → Nat} {A : Nat → Nat → Int32} {L : Nat → Nat} {s : Nat} (hs : s ≤ 5) (ok : ps_Ok s K A L) (T : ps_Tab yk ya yz s K A L) (hpost : ∀ p st : Nat → Int32, ps_Pic p (ps_G src K A L s) s → post (nI s, ht, src, yz, yk, ya, yw, p, st)) : wpY_work post (nI s, ht, src, yz, yk, ya, yw, yp, ys) :=
  ⟨s + 1, yw_2 hs ok T hpost s 0 yp ys (s + 1) (by omega) (by omega) (ps_Pic_0 _ _)⟩
end PS7
end
section
section PS8
/-- what both sides keep, beside their scratch -/
def ps_Inv (s d : Nat) (K : Nat → Nat → Nat) (A : Nat → Nat → Int32) (L : Nat → Nat) (DK : Nat → Nat) (DA : Nat → Int32) (xk xa xl xw dk da yz yk ya yw : Nat → Int32) : Prop :=
  s ≤ 5 ∧ d ≤ 14 ∧ ps_Ok s K A L ∧ ps_Tab xk xa xl s K A L ∧ ps_Tab yk ya yz s K A L ∧ ps_Tk dk da 0 d DK DA ∧ ps_Tk yk ya 70 d DK DA ∧ yz 5 = nI d ∧ ps_WF s DK DA d ∧ (∀ j, j < s → xw j = yw j)
def i_Rel (k : Nat) (u : SX) (v : SY) : Prop :=
  ∃ (s d : Nat) (K : Nat → Nat → Nat) (A : Nat → Nat → Int32) (L : Nat → Nat) (DK : Nat → Nat) (DA : Nat → Int32) (src xk xa xl xw dk da xp xs yz yk ya yw yp ys : Nat → Int32), u = (nI s, nI d, nI (ps_H DK d), src, xk, xa, xl, xw, dk, da, xp, xs) ∧ v = (nI s, nI (ps_H DK d), src, yz, yk, ya, yw, yp, ys) ∧ ps_Inv s d K A L DK DA xk xa xl xw dk da yz yk ya yw
theorem i_up {k : Nat} {u : SX} {v : SY} (h : i_Rel k u v) : i_Rel (k + 4) u v := h
section
variable {k s d : Nat} {K : Nat → Nat → Nat} {A : Nat → Nat → Int32} {L : Nat → Nat} {DK : Nat → Nat} {DA : Nat → Int32} {src xk xa xl xw dk da xp xs yz yk ya yw yp ys : Nat → Int32}
theorem ps_rel (h : ps_Inv s d K A L DK DA xk xa xl xw dk da yz yk ya yw) : i_Rel k (nI s, nI d, nI (ps_H DK d), src, xk, xa, xl, xw, dk, da, xp, xs) (nI s, nI (ps_H DK d), src, yz, yk, ya, yw, yp, ys) :=
  ⟨s, d, K, A, L, DK, DA, src, xk, xa, xl, xw, dk, da, xp, xs, yz, yk, ya, yw, yp, ys, rfl, rfl, h⟩
theorem ps_WF_0 (s : Nat) (K : Nat → Nat) (A : Nat → Int32) : ps_WF s K A 0 := fun i hi => absurd hi (Nat.not_lt_zero i)
theorem ps_Tk_0 (kk aa : Nat → Int32) (o : Nat) (K : Nat → Nat) (A : Nat → Int32) : ps_Tk kk aa o 0 K A := fun i hi => absurd hi (Nat.not_lt_zero i)
theorem ps_H_cg {K K' : Nat → Nat} {n : Nat} (h : ∀ i, i < n → K' i = K i) : ps_H K' n = ps_H K n := by
  induction n with
  | zero => rfl
  | succ m ih =>
    show ps_H K' m - ps_tk (K' m) + 1 = ps_H K m - ps_tk (K m) + 1
    rw [ih (fun i hi => h i (by omega)), h m (by omega)]
theorem ps_Inv_clear (h : ps_Inv s d K A L DK DA xk xa xl xw dk da yz yk ya yw) : ps_Inv s 0 K A L DK DA xk xa xl xw dk da (upd yz 5 0) yk ya yw := by
  obtain ⟨h1, h2, h3, h4, h5, h6, h7, h8, h9, h10⟩ := h
  refine ⟨h1, by omega, h3, h4, ?_, ps_Tk_0 _ _ _ _ _, ps_Tk_0 _ _ _ _ _, pk_us, ps_WF_0 _ _ _, h10⟩
  intro j hj
  rw [pk_un (by omega)]
  exact h5 j hj
/-- a token's argument fits -/
def ps_fit (s kd : Nat) (a : Int32) : Prop := (kd = 0 → -99 ≤ a ∧ a ≤ 99) ∧ (kd = 3 → ∃ b : Nat, b < 9 ∧ a = nI b) ∧ (kd = 4 → ∃ b : Nat, b < 9 * s ∧ a = nI b)
theorem ps_Inv_tok (h : ps_Inv s d K A L DK DA xk xa xl xw dk da yz yk ya yw) {kd : Nat} {a : Int32} (hd : d < 14) (hk : kd ≤ 12) (ht : ps_tk kd ≤ ps_H DK d) (h6 : ps_H DK d - ps_tk kd + 1 ≤ 6) (hf : ps_fit s kd a) : ps_Inv s (d + 1) K A L (fun i => if i = d then kd else DK i) (fun i => if i = d then a else DA i) xk xa xl xw (upd dk d (nI kd)) (upd da d a) (upd yz 5 (nI (d + 1))) (upd yk (70 + d) (nI kd)) (upd ya (70 + d) a) yw := by
  obtain ⟨h1, h2, h3, h4, h5, g6, h7, h8, h9, h10⟩ := h
  have cg : ∀ n, n ≤ d → ps_H (fun i => if i = d then kd else DK i) n = ps_H DK n := fun n hn => ps_H_cg (fun i hi => if_neg (by omega))
  refine ⟨h1, by omega, h3, h4, ?_, ?_, ?_, pk_us, ?_, h10⟩
  · intro j hj
    obtain ⟨a1, a2⟩ := h5 j hj
    have l := (h3 j hj).1
    refine ⟨by rw [pk_un (by omega)]; exact a1, ?_⟩
    intro i hi
    rw [pk_un (by omega), pk_un (by omega)]
    exact a2 i hi
  · intro i hi
    rw [Nat.zero_add]
    by_cases e : i = d
    · subst e
      rw [pk_us, pk_us]
      exact ⟨congrArg nI (if_pos rfl).symm, (if_pos rfl).symm⟩
    · have q := g6 i (by omega)
      rw [Nat.zero_add] at q
      rw [pk_un e, pk_un e]
      exact ⟨q.1.trans (congrArg nI (if_neg e).symm), q.2.trans (if_neg e).symm⟩
  · intro i hi
    by_cases e : i = d
    · subst e
      rw [pk_us, pk_us]
      exact ⟨congrArg nI (if_pos rfl).symm, (if_pos rfl).symm⟩
    · have q := h7 i (by omega)
      rw [pk_un (by omega), pk_un (by omega)]
      exact ⟨q.1.trans (congrArg nI (if_neg e).symm), q.2.trans (if_neg e).symm⟩
  · intro i hi
    by_cases e : i = d
    · subst e
      show (if i = i then kd else DK i) ≤ 12 ∧ ps_tk (if i = i then kd else DK i) ≤ ps_H _ i ∧ ps_H _ i - ps_tk (if i = i then kd else DK i) + 1 ≤ 6 ∧ ((if i = i then kd else DK i) = 3 → ∃ b : Nat, b < 9 ∧ (if i = i then a else DA i) = nI b) ∧ ((if i = i then kd else DK i) = 4 → ∃ b : Nat, b < 9 * s ∧ (if i = i then a else DA i) = nI b)
      rw [if_pos rfl, if_pos rfl, cg i (by omega)]
      exact ⟨hk, ht, h6, hf.2.1, hf.2.2⟩
    · have c1 := cg (i + 1) (by omega)
      have c2 := cg i (by omega)
      obtain ⟨w1, w2, w3, w4, w5⟩ := h9 i (by omega)
      rw [c1, c2]
      show (if i = d then kd else DK i) ≤ 12 ∧ ps_tk (if i = d then kd else DK i) ≤ ps_H DK i ∧ _ ∧ ((if i = d then kd else DK i) = 3 → ∃ b : Nat, b < 9 ∧ (if i = d then a else DA i) = nI b) ∧ ((if i = d then kd else DK i) = 4 → ∃ b : Nat, b < 9 * s ∧ (if i = d then a else DA i) = nI b)
      rw [if_neg e, if_neg e]
      exact ⟨w1, w2, w3, w4, w5⟩
theorem ps_Inv_stage (h : ps_Inv s d K A L DK DA xk xa xl xw dk da yz yk ya yw) (hs : s < 5) (h1 : ps_H DK d = 1) {xk' xa' yk' ya' : Nat → Int32} (X1 : ∀ q, q < 14 * s → xk' q = xk q ∧ xa' q = xa q) (X2 : ∀ i, i < d → xk' (14 * s + i) = dk i ∧ xa' (14 * s + i) = da i) (Y1 : ∀ q, q < 14 * s → yk' q = yk q ∧ ya' q = ya q) (Y2 : ∀ i, i < 14 → yk' (14 * s + i) = yk (70 + i) ∧ ya' (14 * s + i) = ya (70 + i)) : ps_Inv (s + 1) 0 (fun j => if j = s then DK else K j) (fun j => if j = s then DA else A j) (fun j => if j = s then d else L j) DK DA xk' xa' (upd xl s (nI d)) (upd xw s 0) dk da (upd (upd yz s (nI d)) 5 0) yk' ya' (upd yw s 0) := by
  obtain ⟨q1, q2, q3, q4, q5, q6, q7, q8, q9, q10⟩ := h
  refine ⟨by omega, by omega, ?_, ?_, ?_, ps_Tk_0 _ _ _ _ _, ps_Tk_0 _ _ _ _ _, pk_us, ps_WF_0 _ _ _, ?_⟩
  · intro j hj
    by_cases e : j = s
    · subst e
      dsimp only
      rw [if_pos rfl, if_pos rfl, if_pos rfl]
      exact ⟨q2, q9, h1⟩
    · dsimp only
      rw [if_neg e, if_neg e, if_neg e]
      exact q3 j (by omega)
  · intro j hj
    by_cases e : j = s
    · subst e
      dsimp only
      rw [if_pos rfl, if_pos rfl, if_pos rfl, pk_us]
      refine ⟨rfl, fun i hi => ?_⟩
      have a := X2 i hi
      have b := q6 i hi
      rw [Nat.zero_add] at b
      exact ⟨a.1.trans b.1, a.2.trans b.2⟩
    · dsimp only
      rw [if_neg e, if_neg e, if_neg e, pk_un e]
      obtain ⟨a1, a2⟩ := q4 j (by omega)
      have l := (q3 j (by omega)).1
      refine ⟨a1, fun i hi => ?_⟩
      have a := X1 (14 * j + i) (by omega)
      have b := a2 i hi
      exact ⟨a.1.trans b.1, a.2.trans b.2⟩
  · intro j hj
    by_cases e : j = s
    · subst e
      dsimp only
      rw [if_pos rfl, if_pos rfl, if_pos rfl, pk_un (by omega), pk_us]
      refine ⟨rfl, fun i hi => ?_⟩
      have a := Y2 i (by omega)
      have b := q7 i hi
      exact ⟨a.1.trans b.1, a.2.trans b.2⟩
    · dsimp only
      rw [if_neg e, if_neg e, if_neg e, pk_un (by omega), pk_un e]
      obtain ⟨a1, a2⟩ := q5 j (by omega)
      have l := (q3 j (by omega)).1
      refine ⟨a1, fun i hi => ?_⟩
      have a := Y1 (14 * j + i) (by omega)
      have b := a2 i hi
      exact ⟨a.1.trans b.1, a.2.trans b.2⟩
  · intro j hj
    by_cases e : j = s
    · subst e
      rw [pk_us, pk_us]
    · rw [pk_un e, pk_un e]
      exact q10 j (by omega)
/-- token i of the draft speaks of stage t -/
def ps_sp (t : Nat) (DK : Nat → Nat) (DA : Nat → Int32) (i : Nat) : Prop := DK i = 4 ∧ DA i / 9 = nI t
theorem ps_Inv_drop {t : Nat} (h : ps_Inv (t + 1) d K A L DK DA xk xa xl xw dk da yz yk ya yw) (hn : ¬ ∃ j, j < d ∧ ps_sp t DK DA j) : ps_Inv t d K A L DK DA xk xa xl xw dk da yz yk ya yw := by
  obtain ⟨q1, q2, q3, q4, q5, q6, q7, q8, q9, q10⟩ := h
  refine ⟨by omega, q2, fun j hj => q3 j (by omega), fun j hj => q4 j (by omega), fun j hj => q5 j (by omega), q6, q7, q8, ?_, fun j hj => q10 j (by omega)⟩
  intro i hi
  obtain ⟨w1, w2, w3, w4, w5⟩ := q9 i hi
  refine ⟨w1, w2, w3, w4, fun e => ?_⟩
  obtain ⟨b, hb, eb⟩ := w5 e
  refine ⟨b, ?_, eb⟩
  have z : b / 9 ≠ t := by
    intro z
    exact hn ⟨i, hi, e, by rw [eb, ps_div9 (by omega), z]⟩
  omega
theorem ps_Inv_drop0 {t : Nat} (h : ps_Inv (t + 1) d K A L DK DA xk xa xl xw dk da yz yk ya yw) : ps_Inv t 0 K A L DK DA xk xa xl xw dk da (upd yz 5 0) yk ya yw := by
  obtain ⟨q1, q2, q3, q4, q5, q6, q7, q8, q9, q10⟩ := ps_Inv_clear h
  exact ⟨by omega, q2, fun j hj => q3 j (by omega), fun j hj => q4 j (by omega), fun j hj => q5 j (by omega), q6, q7, q8, ps_WF_0 _ _ _, fun j hj => q10 j (by omega)⟩
theorem ps_Inv_way (h : ps_Inv s d K A L DK DA xk xa xl xw dk da yz yk ya yw) (j : Nat) (w : Int32) : ps_Inv s d K A L DK DA xk xa xl (upd xw j w) dk da yz yk ya (upd yw j w) := by
  obtain ⟨q1, q2, q3, q4, q5, q6, q7, q8, q9, q10⟩ := h
  refine ⟨q1, q2, q3, q4, q5, q6, q7, q8, q9, fun i hi => ?_⟩
  by_cases e : i = j
  · subst e
    rw [pk_us, pk_us]
  · rw [pk_un e, pk_un e]
    exact q10 i hi
end
theorem i_vc0 : wpX_init (fun u => wpY_init (fun v => i_Rel 0 u v)) :=
  ps_rel (k := 0) (s := 0) (d := 0) (K := fun _ _ => 0) (A := fun _ _ => 0) (L := fun _ => 0) (DK := fun _ => 0) (DA := fun _ => 0) ⟨by omega, by omega, fun j hj => absurd hj (Nat.not_lt_zero j), fun j hj => absurd hj (Nat.not_lt_zero j), fun j hj => absurd hj (Nat.not_lt_zero j), ps_Tk_0 _ _ _ _ _, ps_Tk_0 _ _ _ _ _, rfl, ps_WF_0 _ _ _, fun j hj => absurd hj (Nat.not_lt_zero j)⟩
end PS8
end
section
section PS9
section
variable {sc dl df : Int32} {src xk xa xl xw dk da xp xs : Nat → Int32}
variable {ns ht : Int32} {yz yk ya yw yp ys : Nat → Int32}
theorem ps_cell (x y : Int32) : (∃ a b : Nat, a < 8 ∧ b < 6 ∧ x = nI a ∧ y = nI b) ∨ (x < 0 ∨ 8 ≤ x ∨ y < 0 ∨ 6 ≤ y) := by
  rcases pk_ix x (n := 8) (by decide) with h | h | ⟨a, ha, ea⟩
  · exact Or.inr (Or.inl h)
  · exact Or.inr (Or.inr (Or.inl h))
  · rcases pk_ix y (n := 6) (by decide) with h | h | ⟨b, hb, eb⟩
    · exact Or.inr (Or.inr (Or.inr (Or.inl h)))
    · exact Or.inr (Or.inr (Or.inr (Or.inr h)))
    · exact Or.inl ⟨a, b, ha, hb, ea, eb⟩
theorem xh_isCell_t {post : Int32 → Prop} (a b : Nat) (ha : a < 8) (hb : b < 6) (h : post 1) : wpX_isCell post (sc, dl, df, src, xk, xa, xl, xw, dk, da, xp, xs) (nI a) (nI b) :=
  br_f (nI_pos (by omega)) (br_f (nI_ge (b := 8) ha (by decide)) (br_f (nI_pos (by omega)) (br_f (nI_ge (b := 6) hb (by decide)) h)))
theorem xh_isCell_f {post : Int32 → Prop} {x y : Int32} (q : x < 0 ∨ 8 ≤ x ∨ y < 0 ∨ 6 ≤ y) (h : post 0) : wpX_isCell post (sc, dl, df, src, xk, xa, xl, xw, dk, da, xp, xs) x y :=
  br_c (fun _ => h) (fun n1 => br_c (fun _ => h) (fun n2 => br_c (fun _ => h) (fun n3 => br_c (fun _ => h) (fun n4 => by
    rcases q with q | q | q | q
    · exact absurd q n1
    · exact absurd q n2
    · exact absurd q n3
    · exact absurd q n4))))
theorem yh_isCell_t {post : Int32 → Prop} (a b : Nat) (ha : a < 8) (hb : b < 6) (h : post 1) : wpY_isCell post (ns, ht, src, yz, yk, ya, yw, yp, ys) (nI a) (nI b) :=
  br_f (nI_pos (by omega)) (br_f (nI_nlt (a := 7) (b := a) (by omega) (by decide)) (br_f (nI_pos (by omega)) (br_f (nI_nlt (a := 5) (b := b) (by omega) (by decide)) h)))
theorem yh_isCell_f {post : Int32 → Prop} {x y : Int32} (q : x < 0 ∨ 8 ≤ x ∨ y < 0 ∨ 6 ≤ y) (h : post 0) : wpY_isCell post (ns, ht, src, yz, yk, ya, yw, yp, ys) x y :=
  br_c (fun _ => h) (fun n1 => br_c (fun _ => h) (fun n2 => br_c (fun _ => h) (fun n3 => br_c (fun _ => h) (fun n4 => by
    rcases q with q | q | q | q
    · exact absurd q n1
    · exact absurd (Int32.le_trans q (Int32.not_lt.mp n2)) (by decide)
    · exact absurd q n3
    · exact absurd (Int32.le_trans q (Int32.not_lt.mp n4)) (by decide)))))
theorem xh_isStage_t {post : Int32 → Prop} {s j : Nat} (hj : j < s) (hs : s ≤ 5) (h : post 1) : wpX_isStage post (nI s, dl, df, src, xk, xa, xl, xw, dk, da, xp, xs) (nI j) :=
  br_f (nI_pos (by omega)) (br_f (nI_ge hj (by omega)) h)
theorem xh_isStage_f {post : Int32 → Prop} {s : Nat} {k : Int32} (q : k < 0 ∨ nI s ≤ k) (h : post 0) : wpX_isStage post (nI s, dl, df, src, xk, xa, xl, xw, dk, da, xp, xs) k :=
  br_c (fun _ => h) (fun n1 => br_c (fun _ => h) (fun n2 => absurd q (not_or.mpr ⟨n1, n2⟩)))
theorem yh_isStage_t {post : Int32 → Prop} {s j : Nat} (hj : j < s) (hs : s ≤ 5) (h : post 1) : wpY_isStage post (nI s, ht, src, yz, yk, ya, yw, yp, ys) (nI j) :=
  br_f (nI_pos (by omega)) (br_f (nI_ge hj (by omega)) h)
theorem yh_isStage_f {post : Int32 → Prop} {s : Nat} {k : Int32} (q : k < 0 ∨ nI s ≤ k) (h : post 0) : wpY_isStage post (nI s, ht, src, yz, yk, ya, yw, yp, ys) k :=
  br_c (fun _ => h) (fun n1 => br_c (fun _ => h) (fun n2 => absurd q (not_or.mpr ⟨n1, n2⟩)))
theorem ps_stg (k : Int32) (s : Nat) (hs : s ≤ 5) : (k < 0 ∨ nI s ≤ k) ∨ ∃ j : Nat, j < s ∧ k = nI j := by
  rcases pk_ix k (n := s) (by omega) with h | h | h
  · exact Or.inl (Or.inl h)
  · exact Or.inl (Or.inr h)
  · exact Or.inr h
theorem ps_slope (b dx dy : Int32) : ∀ (e c : Nat) (src : Nat → Int32), c + e = 48 → ∃ src' : Nat → Int32, (∀ post : SX → Prop, post (sc, dl, df, src', xk, xa, xl, xw, dk, da, xp, xs) → wX_slope_3 post b dx dy sc dl df (e + 1) (nI c) src xk xa xl xw dk da xp xs) ∧ (∀ post : SY → Prop, post (ns, ht, src', yz, yk, ya, yw, yp, ys) → wY_slope_3 post b dx dy ns ht (e + 1) (nI c) src yz yk ya yw yp ys) := by
  intro e
  induction e with
  | zero =>
    intro c src hc
    obtain rfl : c = 48 := by omega
    exact ⟨src, fun post h => br_t (by decide) h, fun post h => br_t (by decide) h⟩
  | succ e ih =>
    intro c src hc
    obtain ⟨src', hX, hY⟩ := ih (c + 1) (upd src c ((b + (dx * (nI c - nI c / 8 * 8))) + (dy * (nI c / 8)))) (by omega)
    have v : vp_in (nI c) 48 := vp_in_nI (by omega) (by omega)
    have n : ¬ (48 : Int32) ≤ nI c := nI_ge (b := 48) (by omega) (by decide)
    refine ⟨src', fun post h => br_f n ⟨by decide, by decide, v, nm_r (by rw [nI_clamp (by omega)]) (nm_r (nI_1 c) (hX post h))⟩, fun post h => br_f n ⟨by decide, by decide, v, nm_r (by rw [nI_clamp (by omega)]) (nm_r (nI_1 c) (hY post h))⟩⟩
theorem xh_fits_t {post : Int32 → Prop} {s kd : Nat} {a : Int32} (hs : s ≤ 5) (hk : kd ≤ 12) (hf : ps_fit s kd a) (h : post 1) : wpX_argumentFits post (nI s, dl, df, src, xk, xa, xl, xw, dk, da, xp, xs) (nI kd) a := by
  obtain ⟨f0, f3, f4⟩ := hf
  rcases ps_k13 hk with rfl | rfl | rfl | rfl | rfl | rfl | rfl | rfl | rfl | rfl | rfl | rfl | rfl
  · exact br_f (by decide) (br_f (by decide) (br_t (by decide) (br_f (Int32.not_lt.mpr (f0 rfl).1) (br_f (Int32.not_lt.mpr (f0 rfl).2) h))))
  · exact br_f (by decide) (br_f (by decide) (br_f (by decide) (br_t (by decide) h)))
  · exact br_f (by decide) (br_f (by decide) (br_f (by decide) (br_f (by decide) (br_t (by decide) h))))
  · obtain ⟨b, hb, rfl⟩ := f3 rfl
    exact br_f (by decide) (br_f (by decide) (br_f (by decide) (br_f (by decide) (br_f (by decide) (br_t (by decide) (br_f (nI_pos (by omega)) (br_f (nI_ge (b := 9) hb (by decide)) h)))))))
  · obtain ⟨b, hb, rfl⟩ := f4 rfl
    have e : 9 * nI s = nI (9 * s) := pk_mul 9 s
    refine br_f (by decide) (br_f (by decide) (br_f (by decide) (br_f (by decide) (br_f (by decide) (br_f (by decide) (br_t (by decide) (br_f (nI_pos (by omega)) (br_f ?_ h))))))))
    rw [e]
    exact nI_ge hb (by omega)
  · exact br_f (by decide) (br_t (by decide) h)
  · exact br_f (by decide) (br_t (by decide) h)
  · exact br_f (by decide) (br_t (by decide) h)
  · exact br_f (by decide) (br_t (by decide) h)
  · exact br_f (by decide) (br_t (by decide) h)
  · exact br_f (by decide) (br_t (by decide) h)
  · exact br_f (by decide) (br_t (by decide) h)
  · exact br_f (by decide) (br_t (by decide) h)
theorem ps_nofit {s kd : Nat} {a : Int32} {P : Prop} (hf : ¬ ps_fit s kd a) (h0 : kd ≠ 0) (h3 : kd ≠ 3) (h4 : kd ≠ 4) : P :=
  absurd ⟨fun z => absurd z h0, fun z => absurd z h3, fun z => absurd z h4⟩ hf
theorem ps_bad0 {s : Nat} {a : Int32} (hf : ¬ ps_fit s 0 a) : a < -99 ∨ 99 < a := by
  by_cases h1 : a < -99
  · exact Or.inl h1
  · by_cases h2 : 99 < a
    · exact Or.inr h2
    · exact absurd ⟨fun _ => ⟨Int32.not_lt.mp h1, Int32.not_lt.mp h2⟩, fun z => absurd z (by decide), fun z => absurd z (by decide)⟩ hf
theorem ps_bad3 {s : Nat} {a : Int32} (hf : ¬ ps_fit s 3 a) : a < 0 ∨ 9 ≤ a := by
  rcases pk_ix a (n := 9) (by decide) with h | h | h
  · exact Or.inl h
  · exact Or.inr h
  · exact absurd ⟨fun z => absurd z (by decide), fun _ => h, fun z => absurd z (by decide)⟩ hf
theorem ps_bad4 {s : Nat} {a : Int32} (hs : s ≤ 5) (hf : ¬ ps_fit s 4 a) : a < 0 ∨ nI (9 * s) ≤ a := by
  rcases pk_ix a (n := 9 * s) (by omega) with h | h | h
  · exact Or.inl h
  · exact Or.inr h
  · exact absurd ⟨fun z => absurd z (by decide), fun z => absurd z (by decide), fun _ => h⟩ hf
theorem ps_or2 {c d A B : Prop} (q : c ∨ d) (h1 : c → A) (h2 : ¬ c → d → B) : (c → A) ∧ (¬ c → B) := ⟨h1, fun n => h2 n (q.resolve_left n)⟩
theorem xh_fits_f {post : Int32 → Prop} {s kd : Nat} {a : Int32} (hs : s ≤ 5) (hk : kd ≤ 12) (hf : ¬ ps_fit s kd a) (h : post 0) : wpX_argumentFits post (nI s, dl, df, src, xk, xa, xl, xw, dk, da, xp, xs) (nI kd) a := by
  rcases ps_k13 hk with rfl | rfl | rfl | rfl | rfl | rfl | rfl | rfl | rfl | rfl | rfl | rfl | rfl
  · have q := ps_bad0 hf
    exact br_f (by decide) (br_f (by decide) (br_t (by decide) (br_c (fun _ => h) (fun n => br_t (q.resolve_left n) h))))
  · exact ps_nofit hf (by decide) (by decide) (by decide)
  · exact ps_nofit hf (by decide) (by decide) (by decide)
  · have q := ps_bad3 hf
    exact br_f (by decide) (br_f (by decide) (br_f (by decide) (br_f (by decide) (br_f (by decide) (br_t (by decide) (br_c (fun _ => h) (fun n => br_t (q.resolve_left n) h)))))))
  · have q := ps_bad4 hs hf
    have e : 9 * nI s = nI (9 * s) := pk_mul 9 s
    rw [← e] at q
    exact br_f (by decide) (br_f (by decide) (br_f (by decide) (br_f (by decide) (br_f (by decide) (br_f (by decide) (br_t (by decide) (br_c (fun _ => h) (fun n => br_t (q.resolve_left n) h))))))))
  · exact ps_nofit hf (by decide) (by decide) (by decide)
  · exact ps_nofit hf (by decide) (by decide) (by decide)
  · exact ps_nofit hf (by decide) (by decide) (by decide)
  · exact ps_nofit hf (by decide) (by decide) (by decide)
  · exact ps_nofit hf (by decide) (by decide) (by decide)
  · exact ps_nofit hf (by decide) (by decide) (by decide)
  · exact ps_nofit hf (by decide) (by decide) (by decide)
  · exact ps_nofit hf (by decide) (by decide) (by decide)
theorem yh_tok_t {post : Int32 → Prop} {s kd : Nat} {a : Int32} (hs : s ≤ 5) (hk : kd ≤ 12) (hf : ps_fit s kd a) (h : post 1) : wpY_isToken post (nI s, ht, src, yz, yk, ya, yw, yp, ys) (nI kd) a := by
  obtain ⟨f0, f3, f4⟩ := hf
  rcases ps_k13 hk with rfl | rfl | rfl | rfl | rfl | rfl | rfl | rfl | rfl | rfl | rfl | rfl | rfl
  · exact br_t (by decide) (br_f (Int32.not_lt.mpr (f0 rfl).1) (br_f (Int32.not_lt.mpr (f0 rfl).2) h))
  · exact br_f (by decide) (br_f (by decide) (br_f (by decide) (br_f (by decide) (br_f (by decide) h))))
  · exact br_f (by decide) (br_f (by decide) (br_f (by decide) (br_f (by decide) (br_f (by decide) h))))
  · obtain ⟨b, hb, rfl⟩ := f3 rfl
    exact br_f (by decide) (br_t (by decide) (br_f (nI_pos (by omega)) (br_f (nI_nlt (a := 8) (b := b) (by omega) (by decide)) h)))
  · obtain ⟨b, hb, rfl⟩ := f4 rfl
    refine br_f (by decide) (br_f (by decide) (br_t (by decide) (br_f (nI_pos (by omega)) ⟨by decide, br_f ?_ h⟩)))
    rw [ps_div9 (by omega)]
    exact nI_ge (by omega) (by omega)
  · exact br_f (by decide) (br_f (by decide) (br_f (by decide) (br_f (by decide) (br_f (by decide) h))))
  · exact br_f (by decide) (br_f (by decide) (br_f (by decide) (br_f (by decide) (br_f (by decide) h))))
  · exact br_f (by decide) (br_f (by decide) (br_f (by decide) (br_f (by decide) (br_f (by decide) h))))
  · exact br_f (by decide) (br_f (by decide) (br_f (by decide) (br_f (by decide) (br_f (by decide) h))))
  · exact br_f (by decide) (br_f (by decide) (br_f (by decide) (br_f (by decide) (br_f (by decide) h))))
  · exact br_f (by decide) (br_f (by decide) (br_f (by decide) (br_f (by decide) (br_f (by decide) h))))
  · exact br_f (by decide) (br_f (by decide) (br_f (by decide) (br_f (by decide) (br_f (by decide) h))))
  · exact br_f (by decide) (br_f (by decide) (br_f (by decide) (br_f (by decide) (br_f (by decide) h))))
theorem yh_tok_f {post : Int32 → Prop} {s kd : Nat} {a : Int32} (hs : s ≤ 5) (hk : kd ≤ 12) (hf : ¬ ps_fit s kd a) (h : post 0) : wpY_isToken post (nI s, ht, src, yz, yk, ya, yw, yp, ys) (nI kd) a := by
  rcases ps_k13 hk with rfl | rfl | rfl | rfl | rfl | rfl | rfl | rfl | rfl | rfl | rfl | rfl | rfl
  · have q := ps_bad0 hf
    exact br_t (by decide) (br_c (fun _ => h) (fun n => br_t (q.resolve_left n) h))
  · exact ps_nofit hf (by decide) (by decide) (by decide)
  · exact ps_nofit hf (by decide) (by decide) (by decide)
  · have q := ps_bad3 hf
    refine br_f (by decide) (br_t (by decide) (br_c (fun _ => h) (fun n => br_t ?_ h)))
    have q9 := q.resolve_left n
    by_cases z : 8 < a
    · exact z
    · exact absurd (Int32.le_trans q9 (Int32.not_lt.mp z)) (by decide)
  · have q := ps_bad4 hs hf
    refine br_f (by decide) (br_f (by decide) (br_t (by decide) (br_c (fun _ => h) (fun n => ⟨by decide, br_t ?_ h⟩))))
    have q9 := q.resolve_left n
    obtain ⟨b, hb, rfl⟩ := nI_of n
    rw [nI_leI (by omega) hb] at q9
    have e : nI b / 9 = nI (b / 9) := pk_div (d := 9) hb (by omega) (by omega)
    rw [e]
    exact nI_le (by omega) (by omega)
  · exact ps_nofit hf (by decide) (by decide) (by decide)
  · exact ps_nofit hf (by decide) (by decide) (by decide)
  · exact ps_nofit hf (by decide) (by decide) (by decide)
  · exact ps_nofit hf (by decide) (by decide) (by decide)
  · exact ps_nofit hf (by decide) (by decide) (by decide)
  · exact ps_nofit hf (by decide) (by decide) (by decide)
  · exact ps_nofit hf (by decide) (by decide) (by decide)
  · exact ps_nofit hf (by decide) (by decide) (by decide)
theorem yh_tok_x {post : Int32 → Prop} {x a : Int32} (q : x < 0 ∨ nI 13 ≤ x) (h : post 0) : wpY_isToken post (ns, ht, src, yz, yk, ya, yw, yp, ys) x a := by
  have n : ∀ m : Nat, m ≤ 12 → ¬ x = nI m := by
    intro m hm e
    subst e
    rcases q with q | q
    · exact nI_pos (by omega) q
    · exact nI_ge (b := 13) (by omega) (by decide) q
  refine br_f (n 0 (by omega)) (br_f (n 3 (by omega)) (br_f (n 4 (by omega)) (br_c (fun _ => h) (fun n1 => br_c (fun _ => h) (fun n2 => ?_)))))
  rcases q with q | q
  · exact absurd (Int32.lt_of_le_of_lt (Int32.not_lt.mp n1) q) (by decide)
  · exact absurd (Int32.le_trans q (Int32.not_lt.mp n2)) (by decide)
end
end PS9
end
section
section PS10
theorem i_vc_put {k : Nat} {u : SX} {v : SY} (I : i_Rel k u v) (hk : k + 4 ≤ 2048) (v1 : Int32) (v2 : Int32) (v3 : Int32) : wpX_put (fun r u' => wpY_put (fun r' v' => r' = r ∧ i_Rel (k + 4) u' v') v v1 v2 v3) u v1 v2 v3 := by
  obtain ⟨s, d, K, A, L, DK, DA, src, xk, xa, xl, xw, dk, da, xp, xs, yz, yk, ya, yw, yp, ys, rfl, rfl, h⟩ := I
  unfold wpX_put wpY_put
  dsimp only
  rcases ps_cell v1 v2 with ⟨a, b, ha, hb, rfl, rfl⟩ | q
  · refine xh_isCell_t a b ha hb (br_f (by decide) ⟨by rw [ps_m8]; exact vp_in_nI (by omega) (by omega), nm_r (e' := upd src (8 * b + a) v3) (by rw [ps_m8, nI_clamp (by omega)]) ?_⟩)
    refine yh_isCell_t a b ha hb (br_f (by decide) ⟨by rw [ps_8m]; exact vp_in_nI (by omega) (by omega), nm_r (e' := upd src (8 * b + a) v3) (by rw [ps_8m, nI_clamp (by omega)]) ?_⟩)
    exact ⟨rfl, ps_rel h⟩
  · refine xh_isCell_f q (br_t rfl ?_)
    refine yh_isCell_f q (br_t rfl ?_)
    exact ⟨rfl, ps_rel h⟩
theorem i_vc_slope {k : Nat} {u : SX} {v : SY} (I : i_Rel k u v) (hk : k + 4 ≤ 2048) (v1 : Int32) (v2 : Int32) (v3 : Int32) : wpX_slope (fun u' => wpY_slope (fun v' => i_Rel (k + 4) u' v') v v1 v2 v3) u v1 v2 v3 := by
  obtain ⟨s, d, K, A, L, DK, DA, src, xk, xa, xl, xw, dk, da, xp, xs, yz, yk, ya, yw, yp, ys, rfl, rfl, h⟩ := I
  obtain ⟨src', hX, hY⟩ := ps_slope (sc := nI s) (dl := nI d) (df := nI (ps_H DK d)) (xk := xk) (xa := xa) (xl := xl) (xw := xw) (dk := dk) (da := da) (xp := xp) (xs := xs) (ns := nI s) (ht := nI (ps_H DK d)) (yz := yz) (yk := yk) (ya := ya) (yw := yw) (yp := yp) (ys := ys) v1 v2 v3 48 0 src rfl
  refine ⟨49, hX _ ?_⟩
  refine ⟨49, hY _ ?_⟩
  exact ps_rel h
theorem i_vc_clearDraft {k : Nat} {u : SX} {v : SY} (I : i_Rel k u v) (hk : k + 4 ≤ 2048) : wpX_clearDraft (fun r u' => wpY_clearDraft (fun r' v' => r' = r ∧ i_Rel (k + 4) u' v') v) u := by
  obtain ⟨s, d, K, A, L, DK, DA, src, xk, xa, xl, xw, dk, da, xp, xs, yz, yk, ya, yw, yp, ys, rfl, rfl, h⟩ := I
  unfold wpX_clearDraft wpX_emptyDraft wpY_clearDraft
  dsimp only
  exact nm_e ⟨rfl, ps_rel (d := 0) (ps_Inv_clear h)⟩
theorem i_vc_way {k : Nat} {u : SX} {v : SY} (I : i_Rel k u v) (hk : k + 4 ≤ 2048) (v1 : Int32) (v2 : Int32) : wpX_way (fun r u' => wpY_way (fun r' v' => r' = r ∧ i_Rel (k + 4) u' v') v v1 v2) u v1 v2 := by
  obtain ⟨s, d, K, A, L, DK, DA, src, xk, xa, xl, xw, dk, da, xp, xs, yz, yk, ya, yw, yp, ys, rfl, rfl, h⟩ := I
  have hs := h.1
  unfold wpX_way wpY_way
  dsimp only
  rcases ps_stg v1 s hs with q | ⟨j, hj, rfl⟩
  · refine xh_isStage_f q (br_t rfl ?_)
    refine yh_isStage_f q (br_t rfl ?_)
    exact ⟨rfl, ps_rel h⟩
  · refine xh_isStage_t hj hs (br_f (by decide) ?_)
    have vj : vp_in (nI j) 5 := vp_in_nI (by omega) (by omega)
    rcases pk_ix v2 (n := 4) (by decide) with q | q | ⟨w, hw, rfl⟩
    · refine br_t q ?_
      refine yh_isStage_t hj hs (br_f (by decide) (br_t q ?_))
      exact ⟨rfl, ps_rel h⟩
    · have n0 : ¬ v2 < 0 := fun z => absurd (Int32.lt_of_le_of_lt q z) (by decide)
      have n4 : ¬ v2 < 4 := Int32.not_lt.mpr q
      have n3 : ¬ v2 ≤ 3 := fun z => absurd (Int32.le_trans q z) (by decide)
      refine br_f n0 (br_f n4 ?_)
      refine yh_isStage_t hj hs (br_f (by decide) (br_f n0 (br_f n3 ?_)))
      exact ⟨rfl, ps_rel h⟩
    · refine br_f (nI_pos (by omega)) (br_t (nI_lt (b := 4) hw (by decide)) ⟨vj, nm_r (e' := xw j) (by rw [nI_clamp (by omega)]) ⟨vj, nm_r (e' := upd xw j (nI w)) (by rw [nI_clamp (by omega)]) ?_⟩⟩)
      refine yh_isStage_t hj hs (br_f (by decide) (br_f (nI_pos (by omega)) (br_t (nI_le (b := 3) (by omega) (by decide)) ⟨vj, nm_r (e' := yw j) (by rw [nI_clamp (by omega)]) ⟨vj, nm_r (e' := upd yw j (nI w)) (by rw [nI_clamp (by omega)]) ?_⟩⟩)))
      exact ⟨(h.2.2.2.2.2.2.2.2.2 j hj).symm, ps_rel (ps_Inv_way h j (nI w))⟩
theorem i_vc_stages {k : Nat} {u : SX} {v : SY} (I : i_Rel k u v) (hk : k + 4 ≤ 2048) : wpX_stages (fun r => wpY_stages (fun r' => r' = r ∧ i_Rel (k + 4) u v) v) u := by
  obtain ⟨s, d, K, A, L, DK, DA, src, xk, xa, xl, xw, dk, da, xp, xs, yz, yk, ya, yw, yp, ys, rfl, rfl, h⟩ := I
  exact ⟨rfl, ps_rel h⟩
theorem i_vc_source {k : Nat} {u : SX} {v : SY} (I : i_Rel k u v) (hk : k + 4 ≤ 2048) (v1 : Int32) (v2 : Int32) : wpX_source (fun r => wpY_source (fun r' => r' = r ∧ i_Rel (k + 4) u v) v v1 v2) u v1 v2 := by
  obtain ⟨s, d, K, A, L, DK, DA, src, xk, xa, xl, xw, dk, da, xp, xs, yz, yk, ya, yw, yp, ys, rfl, rfl, h⟩ := I
  unfold wpX_source wpY_source
  dsimp only
  rcases ps_cell v1 v2 with ⟨a, b, ha, hb, rfl, rfl⟩ | q
  · refine xh_isCell_t a b ha hb (br_f (by decide) ⟨by rw [ps_m8]; exact vp_in_nI (by omega) (by omega), ?_⟩)
    refine yh_isCell_t a b ha hb (br_f (by decide) ⟨by rw [ps_8m]; exact vp_in_nI (by omega) (by omega), ?_⟩)
    exact ⟨by rw [ps_m8, ps_8m], ps_rel h⟩
  · refine xh_isCell_f q (br_t rfl ?_)
    refine yh_isCell_f q (br_t rfl ?_)
    exact ⟨rfl, ps_rel h⟩
theorem i_vc_token {k : Nat} {u : SX} {v : SY} (I : i_Rel k u v) (hk : k + 4 ≤ 2048) (v1 : Int32) (v2 : Int32) : wpX_token (fun r u' => wpY_token (fun r' v' => r' = r ∧ i_Rel (k + 4) u' v') v v1 v2) u v1 v2 := by
  obtain ⟨s, d, K, A, L, DK, DA, src, xk, xa, xl, xw, dk, da, xp, xs, yz, yk, ya, yw, yp, ys, rfl, rfl, h⟩ := I
  have hs := h.1
  have hd := h.2.1
  have h5 : yz 5 = nI d := h.2.2.2.2.2.2.2.1
  have hH : ps_H DK d ≤ 6 := ps_H_le h.2.2.2.2.2.2.2.2.1 d (Nat.le_refl _)
  unfold wpX_token wpY_token
  dsimp only
  rcases pk_ix v1 (n := 13) (by decide) with q | q | ⟨kd, hk', rfl⟩
  · refine br_t q ?_
    refine yh_tok_x (Or.inl q) (br_t rfl ?_)
    exact ⟨rfl, ps_rel h⟩
  · have n0 : ¬ v1 < 0 := fun z => absurd (Int32.lt_of_le_of_lt q z) (by decide)
    have n12 : 12 < v1 := Int32.lt_of_lt_of_le (by decide) q
    refine br_f n0 (br_t n12 ?_)
    refine yh_tok_x (Or.inr q) (br_t rfl ?_)
    exact ⟨rfl, ps_rel h⟩
  · have hk2 : kd ≤ 12 := by omega
    refine br_f (nI_pos (by omega)) (br_f (nI_nlt (a := 12) (b := kd) hk2 (by decide)) ?_)
    by_cases hf : ps_fit s kd v2
    · refine xh_fits_t hs hk2 hf (br_f (by decide) ?_)
      by_cases c14 : d = 14
      · refine br_f (by rw [c14]; decide) ?_
        refine yh_tok_t hs hk2 hf (br_f (by decide) (br_t (by rw [h5, c14]; rfl) ?_))
        exact ⟨rfl, ps_rel h⟩
      · have y14 : ¬ yz 5 = 14 := by
          rw [h5]
          exact fun z => c14 ((nI_eq (b := 14) (by omega) (by decide)).mp z)
        have t3 := ps_tk_le kd
        refine br_t (nI_lt (b := 14) (by omega) (by decide)) (xh_taken kd hk2 ?_)
        by_cases ct : ps_tk kd ≤ ps_H DK d
        · refine br_t (nI_le ct (by omega)) ?_
          have fin : ps_H DK d - ps_tk kd + 1 ≤ 6 → wX_token_66 (fun r u' => wpY_isToken (fun r_1 => (r_1 = 0 → (-1 : Int32) = r ∧ i_Rel (k + 4) u' (nI s, nI (ps_H DK d), src, yz, yk, ya, yw, yp, ys)) ∧ (¬ r_1 = 0 → (yz 5 = 14 → (-2 : Int32) = r ∧ i_Rel (k + 4) u' (nI s, nI (ps_H DK d), src, yz, yk, ya, yw, yp, ys)) ∧ (¬ yz 5 = 14 → wpY_taken (fun r_13 => (r_13 ≤ nI (ps_H DK d) → (r_13 = 0 → (nI (ps_H DK d) = 6 → (-4 : Int32) = r ∧ i_Rel (k + 4) u' (nI s, nI (ps_H DK d), src, yz, yk, ya, yw, yp, ys)) ∧ (¬ nI (ps_H DK d) = 6 → wY_token_58 (fun r' v' => r' = r ∧ i_Rel (k + 4) u' v') (nI kd) v2 r_13 (nI s) (nI (ps_H DK d)) src yz yk ya yw yp ys)) ∧ (¬ r_13 = 0 → wY_token_58 (fun r' v' => r' = r ∧ i_Rel (k + 4) u' v') (nI kd) v2 r_13 (nI s) (nI (ps_H DK d)) src yz yk ya yw yp ys)) ∧ (¬ r_13 ≤ nI (ps_H DK d) → (-3 : Int32) = r ∧ i_Rel (k + 4) u' (nI s, nI (ps_H DK d), src, yz, yk, ya, yw, yp, ys))) (nI s, nI (ps_H DK d), src, yz, yk, ya, yw, yp, ys) (nI kd)))) (nI s, nI (ps_H DK d), src, yz, yk, ya, yw, yp, ys) (nI kd) v2) (nI kd) v2 (nI (ps_tk kd)) (nI s) (nI d) (nI (ps_H DK d)) src xk xa xl xw dk da xp xs := by
            intro h6
            have vd : vp_in (nI d) 14 := vp_in_nI (by omega) (by omega)
            have e70 : 70 + yz 5 = nI (70 + d) := by rw [h5]; exact nI_add 70 d
            have v70 : vp_in (70 + yz 5) 84 := by rw [e70]; exact vp_in_nI (by omega) (by omega)
            have c70 : (70 + yz 5).toNatClampNeg = 70 + d := by rw [e70, nI_clamp (by omega)]
            have eH : ps_H (fun i => if i = d then kd else DK i) (d + 1) = ps_H DK d - ps_tk kd + 1 := by
              show ps_H _ d - ps_tk (if d = d then kd else DK d) + 1 = _
              rw [if_pos rfl, ps_H_cg (K := DK) (fun i hi => if_neg (by omega))]
            have eh : nI (ps_H DK d) - nI (ps_tk kd) + 1 = nI (ps_H (fun i => if i = d then kd else DK i) (d + 1)) := by
              rw [eH, pk_sub ct, nI_1]
            have fin : wY_token_58 (fun r' v' => r' = nI (ps_H (fun i => if i = d then kd else DK i) (d + 1)) ∧ i_Rel (k + 4) (nI s, nI (d + 1), nI (ps_H (fun i => if i = d then kd else DK i) (d + 1)), src, xk, xa, xl, xw, upd dk d (nI kd), upd da d v2, xp, xs) v') (nI kd) v2 (nI (ps_tk kd)) (nI s) (nI (ps_H DK d)) src yz yk ya yw yp ys :=
              ⟨v70, nm_r (e' := upd yk (70 + d) (nI kd)) (by rw [c70]) ⟨v70, nm_r (e' := upd ya (70 + d) v2) (by rw [c70]) (nm_r (e' := upd yz 5 (nI (d + 1))) (by rw [h5, nI_1]) (nm_r eh ⟨rfl, ps_rel (ps_Inv_tok h (by omega) hk2 ct h6 hf)⟩))⟩⟩
            refine ⟨vd, nm_r (e' := upd dk d (nI kd)) (by rw [nI_clamp (by omega)]) ⟨vd, nm_r (e' := upd da d v2) (by rw [nI_clamp (by omega)]) (nm_r (nI_1 d) (nm_r eh ?_))⟩⟩
            refine yh_tok_t hs hk2 hf (br_f (by decide) (br_f y14 (yh_taken kd hk2 (br_t (nI_le ct (by omega)) ?_))))
            by_cases z : ps_tk kd = 0
            · have n6 : ¬ nI (ps_H DK d) = 6 := fun w => absurd ((nI_eq (b := 6) (by omega) (by decide)).mp w) (by omega)
              exact br_t (by rw [z]; rfl) (br_f n6 fin)
            · exact br_f (nI_ne0 (by omega) (by omega)) fin
          by_cases z : ps_tk kd = 0
          · refine br_t (by rw [z]; rfl) ?_
            by_cases z6 : ps_H DK d = 6
            · refine br_f (by rw [z6]; decide) ?_
              refine yh_tok_t hs hk2 hf (br_f (by decide) (br_f y14 (yh_taken kd hk2 (br_t (nI_le ct (by omega)) (br_t (by rw [z]; rfl) (br_t (by rw [z6]; rfl) ?_))))))
              exact ⟨rfl, ps_rel h⟩
            · exact br_t (nI_lt (b := 6) (by omega) (by decide)) (fin (by omega))
          · exact br_f (nI_ne0 (by omega) (by omega)) (fin (by omega))
        · refine br_f (nI_ge (by omega) (by omega)) ?_
          refine yh_tok_t hs hk2 hf (br_f (by decide) (br_f y14 (yh_taken kd hk2 (br_f (nI_ge (by omega) (by omega)) ?_))))
          exact ⟨rfl, ps_rel h⟩
    · refine xh_fits_f hs hk2 hf (br_t rfl ?_)
      refine yh_tok_f hs hk2 hf (br_t rfl ?_)
      exact ⟨rfl, ps_rel h⟩
end PS10
end
section
section PS11
section
variable {sc dl df : Int32} {src xk xa xl xw dk da xp xs : Nat → Int32}
variable {ns ht : Int32} {yz yk ya yw yp ys : Nat → Int32}
theorem xs_33 {post : Int32 → SX → Prop} {s d : Nat} (hs : s < 5) (hd : d ≤ 14) (hpost : ∀ kk aa : Nat → Int32, (∀ q, q < 14 * s → kk q = xk q ∧ aa q = xa q) → (∀ i, i < d → kk (14 * s + i) = dk i ∧ aa (14 * s + i) = da i) → post (nI s) (nI (s + 1), 0, 0, src, kk, aa, upd xl s (nI d), upd xw s 0, dk, da, xp, xs)) : ∀ (e i : Nat) (kk aa : Nat → Int32) (n : Nat), i + e = d → e < n → (∀ q, q < 14 * s → kk q = xk q ∧ aa q = xa q) → (∀ j, j < i → kk (14 * s + j) = dk j ∧ aa (14 * s + j) = da j) → wX_stage_33 post (nI s) (nI (14 * s)) (nI s) (nI d) df n (nI i) src kk aa xl xw dk da xp xs := by
  have vs : vp_in (nI s) 5 := vp_in_nI hs (by omega)
  intro e
  induction e with
  | zero =>
    intro i kk aa n hi hn h1 h2
    obtain ⟨m, rfl⟩ : ∃ m, n = m + 1 := ⟨n - 1, by omega⟩
    obtain rfl : i = d := by omega
    exact br_t (nI_le (Nat.le_refl _) (by omega)) ⟨vs, nm_r (e' := upd xl s (nI i)) (by rw [nI_clamp (by omega)]) ⟨vs, nm_r (e' := upd xw s 0) (by rw [nI_clamp (by omega)]) (nm_r (nI_1 s) (hpost kk aa h1 h2))⟩⟩
  | succ e ih =>
    intro i kk aa n hi hn h1 h2
    obtain ⟨m, rfl⟩ : ∃ m, n = m + 1 := ⟨n - 1, by omega⟩
    have vi : vp_in (nI i) 14 := vp_in_nI (by omega) (by omega)
    have v2 : vp_in (nI (14 * s) + nI i) 70 := by rw [nI_add]; exact vp_in_nI (by omega) (by omega)
    have c2 : (nI (14 * s) + nI i).toNatClampNeg = 14 * s + i := by rw [nI_add, nI_clamp (by omega)]
    have c1 : (nI i).toNatClampNeg = i := nI_clamp (by omega)
    refine br_f (nI_ge (by omega) (by omega)) ⟨vi, v2, nm_r (e' := upd kk (14 * s + i) (dk i)) (by rw [c2, c1]) ⟨vi, v2, nm_r (e' := upd aa (14 * s + i) (da i)) (by rw [c2, c1]) (nm_r (nI_1 i) ?_)⟩⟩
    refine ih (i + 1) _ _ m (by omega) (by omega) (fun q hq => ?_) (fun j hj => ?_)
    · rw [pk_un (by omega), pk_un (by omega)]
      exact h1 q hq
    · by_cases ej : j = i
      · subst ej
        rw [pk_us, pk_us]
        exact ⟨rfl, rfl⟩
      · rw [pk_un (by omega), pk_un (by omega)]
        exact h2 j (by omega)
theorem ys_38 {post : Int32 → SY → Prop} {s : Nat} (hs : s < 5) (hpost : ∀ kk aa : Nat → Int32, (∀ q, q < 14 * s ∨ 70 ≤ q → kk q = yk q ∧ aa q = ya q) → (∀ i, i < 14 → kk (14 * s + i) = yk (70 + i) ∧ aa (14 * s + i) = ya (70 + i)) → post (nI s) (nI (s + 1), 0, src, upd yz 5 0, kk, aa, upd yw s 0, yp, ys)) : ∀ (e i : Nat) (kk aa : Nat → Int32) (n : Nat), i + e = 14 → e < n → (∀ q, q < 14 * s ∨ 70 ≤ q → kk q = yk q ∧ aa q = ya q) → (∀ j, j < i → kk (14 * s + j) = yk (70 + j) ∧ aa (14 * s + j) = ya (70 + j)) → wY_stage_38 post (nI s) ht n (nI i) src yz kk aa yw yp ys := by
  have vs : vp_in (nI s) 5 := vp_in_nI hs (by omega)
  intro e
  induction e with
  | zero =>
    intro i kk aa n hi hn h1 h2
    obtain ⟨m, rfl⟩ : ∃ m, n = m + 1 := ⟨n - 1, by omega⟩
    obtain rfl : i = 14 := by omega
    refine br_t (by decide) ⟨vs, nm_r (e' := upd yw s 0) (by rw [nI_clamp (by omega)]) (nm_r (nI_1 s) ?_)⟩
    refine nm_e ?_
    show post (nI (s + 1) - 1) _
    rw [nI_pred]
    exact hpost kk aa h1 h2
  | succ e ih =>
    intro i kk aa n hi hn h1 h2
    obtain ⟨m, rfl⟩ : ∃ m, n = m + 1 := ⟨n - 1, by omega⟩
    have e70 : 70 + nI i = nI (70 + i) := nI_add 70 i
    have v1 : vp_in (70 + nI i) 84 := by rw [e70]; exact vp_in_nI (by omega) (by omega)
    have c1 : (70 + nI i).toNatClampNeg = 70 + i := by rw [e70, nI_clamp (by omega)]
    have v2 : vp_in (14 * nI s + nI i) 84 := by rw [ps_14]; exact vp_in_nI (by omega) (by omega)
    have c2 : (14 * nI s + nI i).toNatClampNeg = 14 * s + i := by rw [ps_14, nI_clamp (by omega)]
    have k70 := h1 (70 + i) (Or.inr (by omega))
    refine br_f (nI_ge (b := 14) (by omega) (by decide)) ⟨v1, v2, nm_r (e' := upd kk (14 * s + i) (yk (70 + i))) (by rw [c2, c1, k70.1]) ⟨v1, v2, nm_r (e' := upd aa (14 * s + i) (ya (70 + i))) (by rw [c2, c1, k70.2]) (nm_r (nI_1 i) ?_)⟩⟩
    refine ih (i + 1) _ _ m (by omega) (by omega) (fun q hq => ?_) (fun j hj => ?_)
    · rw [pk_un (by omega), pk_un (by omega)]
      exact h1 q hq
    · by_cases ej : j = i
      · subst ej
        rw [pk_us, pk_us]
        exact ⟨rfl, rfl⟩
      · rw [pk_un (by omega), pk_un (by omega)]
        exact h2 j (by omega)
theorem xd_2 {post : Int32 → Prop} {t d : Nat} {DK : Nat → Nat} {DA : Nat → Int32} (hd : d ≤ 14) (hK : ∀ i, i < d → DK i ≤ 12) (T : ps_Tk dk da 0 d DK DA) : ∀ (e i n : Nat), i + e = d → e < n → ((∃ j, i ≤ j ∧ j < d ∧ ps_sp t DK DA j) → post 1) → ((¬ ∃ j, i ≤ j ∧ j < d ∧ ps_sp t DK DA j) → post 0) → wX_draftSpeaksOf_2 post (nI t) sc (nI d) df src xk xa xl xw dk da xp xs n (nI i) := by
  intro e
  induction e with
  | zero =>
    intro i n hi hn h1 h0
    obtain ⟨m, rfl⟩ : ∃ m, n = m + 1 := ⟨n - 1, by omega⟩
    obtain rfl : i = d := by omega
    refine br_t (nI_le (Nat.le_refl _) (by omega)) (h0 ?_)
    rintro ⟨j, a, b, _⟩
    omega
  | succ e ih =>
    intro i n hi hn h1 h0
    obtain ⟨m, rfl⟩ : ∃ m, n = m + 1 := ⟨n - 1, by omega⟩
    have vi : vp_in (nI i) 14 := vp_in_nI (by omega) (by omega)
    have c1 : (nI i).toNatClampNeg = i := nI_clamp (by omega)
    have tk := T i (by omega)
    rw [Nat.zero_add] at tk
    have k12 := hK i (by omega)
    have nx : ¬ ps_sp t DK DA i → wX_draftSpeaksOf_2 post (nI t) sc (nI d) df src xk xa xl xw dk da xp xs m (nI (i + 1)) := by
      intro ns
      refine ih (i + 1) m (by omega) (by omega) (fun ⟨j, a, b, c⟩ => h1 ⟨j, by omega, b, c⟩) (fun z => h0 ?_)
      rintro ⟨j, a, b, c⟩
      by_cases ej : j = i
      · subst ej
        exact ns c
      · exact z ⟨j, by omega, b, c⟩
    refine br_f (nI_ge (by omega) (by omega)) ⟨vi, ?_⟩
    rw [c1, tk.1, tk.2]
    refine pk_eq (DK i) 4 (fun h4 => ⟨vi, by decide, br_c (fun h9 => h1 ⟨i, by omega, by omega, h4, h9⟩) (fun n9 => nm_r (nI_1 i) (nx (fun z => n9 z.2)))⟩) (fun n4 => nm_r (nI_1 i) (nx (fun z => n4 z.1)))
theorem yd_1 {post : Int32 → SY → Prop} {d : Nat} (hd : d ≤ 14) (h5 : yz 5 = nI d) (hp : post ns (ns, 0, src, upd yz 5 0, yk, ya, yw, yp, ys)) : ∀ (e i n : Nat), i + e = d → e < n → wY_dropStage_23 post ns ht src yz yk ya yw yp ys n 1 (nI i) := by
  intro e
  induction e with
  | zero =>
    intro i n hi hn
    obtain ⟨m, rfl⟩ : ∃ m, n = m + 1 := ⟨n - 1, by omega⟩
    obtain rfl : i = d := by omega
    exact br_t (by rw [h5]; exact nI_le (Nat.le_refl _) (by omega)) (br_f (by decide) (nm_e hp))
  | succ e ih =>
    intro i n hi hn
    obtain ⟨m, rfl⟩ : ∃ m, n = m + 1 := ⟨n - 1, by omega⟩
    exact br_f (by rw [h5]; exact nI_ge (by omega) (by omega)) (br_f (by decide) (nm_r (nI_1 i) (ih (i + 1) m (by omega) (by omega))))
theorem yd_0 {post : Int32 → SY → Prop} {t d : Nat} {DK : Nat → Nat} {DA : Nat → Int32} (hd : d ≤ 14) (h5 : yz 5 = nI d) (hK : ∀ i, i < d → DK i ≤ 12) (T : ps_Tk yk ya 70 d DK DA) : ∀ (e i n : Nat), i + e = d → e < n → ((∃ j, i ≤ j ∧ j < d ∧ ps_sp t DK DA j) → post (nI t) (nI t, 0, src, upd yz 5 0, yk, ya, yw, yp, ys)) → ((¬ ∃ j, i ≤ j ∧ j < d ∧ ps_sp t DK DA j) → post (nI t) (nI t, ht, src, yz, yk, ya, yw, yp, ys)) → wY_dropStage_23 post (nI t) ht src yz yk ya yw yp ys n 0 (nI i) := by
  intro e
  induction e with
  | zero =>
    intro i n hi hn h1 h0
    obtain ⟨m, rfl⟩ : ∃ m, n = m + 1 := ⟨n - 1, by omega⟩
    obtain rfl : i = d := by omega
    refine br_t (by rw [h5]; exact nI_le (Nat.le_refl _) (by omega)) (br_t rfl (h0 ?_))
    rintro ⟨j, a, b, _⟩
    omega
  | succ e ih =>
    intro i n hi hn h1 h0
    obtain ⟨m, rfl⟩ : ∃ m, n = m + 1 := ⟨n - 1, by omega⟩
    have e70 : 70 + nI i = nI (70 + i) := nI_add 70 i
    have v1 : vp_in (70 + nI i) 84 := by rw [e70]; exact vp_in_nI (by omega) (by omega)
    have c1 : (70 + nI i).toNatClampNeg = 70 + i := by rw [e70, nI_clamp (by omega)]
    have tk := T i (by omega)
    have k12 := hK i (by omega)
    have nx : ¬ ps_sp t DK DA i → wY_dropStage_23 post (nI t) ht src yz yk ya yw yp ys m 0 (nI (i + 1)) := by
      intro ns
      refine ih (i + 1) m (by omega) (by omega) (fun ⟨j, a, b, c⟩ => h1 ⟨j, by omega, b, c⟩) (fun z => h0 ?_)
      rintro ⟨j, a, b, c⟩
      by_cases ej : j = i
      · subst ej
        exact ns c
      · exact z ⟨j, by omega, b, c⟩
    refine br_f (by rw [h5]; exact nI_ge (by omega) (by omega)) (br_t rfl ⟨v1, ?_⟩)
    rw [c1, tk.1, tk.2]
    refine pk_eq (DK i) 4 (fun h4 => ⟨v1, by decide, br_c (fun h9 => nm_r (nI_1 i) (yd_1 hd h5 (h1 ⟨i, by omega, by omega, h4, h9⟩) e (i + 1) m (by omega) (by omega))) (fun n9 => nm_r (nI_1 i) (nx (fun z => n9 z.2)))⟩) (fun n4 => nm_r (nI_1 i) (nx (fun z => n4 z.1)))
end
theorem i_vc_stage {k : Nat} {u : SX} {v : SY} (I : i_Rel k u v) (hk : k + 4 ≤ 2048) : wpX_stage (fun r u' => wpY_stage (fun r' v' => r' = r ∧ i_Rel (k + 4) u' v') v) u := by
  obtain ⟨s, d, K, A, L, DK, DA, src, xk, xa, xl, xw, dk, da, xp, xs, yz, yk, ya, yw, yp, ys, rfl, rfl, h⟩ := I
  have hs := h.1
  have hd := h.2.1
  have h5 : yz 5 = nI d := h.2.2.2.2.2.2.2.1
  have hH : ps_H DK d ≤ 6 := ps_H_le h.2.2.2.2.2.2.2.2.1 d (Nat.le_refl _)
  unfold wpX_stage wpY_stage
  dsimp only
  by_cases c1 : ps_H DK d = 1
  · have e1 : nI (ps_H DK d) = 1 := by rw [c1]; rfl
    by_cases c5 : s = 5
    · have n5 : ¬ nI s < 5 := by rw [c5]; decide
      have e5 : nI s = 5 := by rw [c5]; rfl
      refine br_t e1 (br_f n5 ?_)
      refine br_t e1 (br_t e5 ?_)
      exact ⟨rfl, ps_rel h⟩
    · have n5 : ¬ nI s = 5 := fun z => c5 ((nI_eq (b := 5) (by omega) (by decide)).mp z)
      refine br_t e1 (br_t (nI_lt (b := 5) (by omega) (by decide)) (nm_r (e' := nI (14 * s)) (by rw [show (14 : Int32) = nI 14 from rfl, pk_mul]; exact congrArg nI (by omega)) ⟨d + 1, ?_⟩))
      refine xs_33 (by omega) hd (fun kk aa x1 x2 => ?_) d 0 xk xa (d + 1) (by omega) (by omega) (fun q hq => ⟨rfl, rfl⟩) (fun j hj => absurd hj (Nat.not_lt_zero j))
      refine br_t e1 (br_f n5 ⟨vp_in_nI (by omega) (by omega), nm_r (e' := upd yz s (nI d)) (by rw [nI_clamp (by omega), h5]) ⟨15, ?_⟩⟩)
      refine ys_38 (by omega) (fun kk' aa' y1 y2 => ?_) 14 0 yk ya 15 (by omega) (by omega) (fun q hq => ⟨rfl, rfl⟩) (fun j hj => absurd hj (Nat.not_lt_zero j))
      exact ⟨rfl, ps_rel (d := 0) (ps_Inv_stage h (by omega) c1 x1 x2 (fun q hq => y1 q (Or.inl hq)) y2)⟩
  · have n1 : ¬ nI (ps_H DK d) = 1 := fun z => c1 ((nI_eq (b := 1) (by omega) (by decide)).mp z)
    refine br_f n1 ?_
    refine br_f n1 ?_
    exact ⟨rfl, ps_rel h⟩
theorem i_vc_dropStage {k : Nat} {u : SX} {v : SY} (I : i_Rel k u v) (hk : k + 4 ≤ 2048) : wpX_dropStage (fun r u' => wpY_dropStage (fun r' v' => r' = r ∧ i_Rel (k + 4) u' v') v) u := by
  obtain ⟨s, d, K, A, L, DK, DA, src, xk, xa, xl, xw, dk, da, xp, xs, yz, yk, ya, yw, yp, ys, rfl, rfl, h⟩ := I
  have hs := h.1
  have hd := h.2.1
  have h5 : yz 5 = nI d := h.2.2.2.2.2.2.2.1
  have hK : ∀ i, i < d → DK i ≤ 12 := fun i hi => (h.2.2.2.2.2.2.2.2.1 i hi).1
  unfold wpX_dropStage wpY_dropStage
  dsimp only
  rcases s with _ | t
  · refine br_t rfl ?_
    refine br_t rfl ?_
    exact ⟨rfl, ps_rel h⟩
  · have n0 : ¬ nI (t + 1) = 0 := nI_ne0 (by omega) (by omega)
    refine br_f n0 (nm_r (nI_pred t) ⟨d + 1, ?_⟩)
    refine xd_2 (t := t) hd hK h.2.2.2.2.2.1 d 0 (d + 1) (by omega) (by omega) (fun q => ?_) (fun q => ?_)
    · refine br_f (by decide) ?_
      refine br_f n0 (nm_r (nI_pred t) ⟨d + 1, ?_⟩)
      refine yd_0 (t := t) hd h5 hK h.2.2.2.2.2.2.1 d 0 (d + 1) (by omega) (by omega) (fun _ => ?_) (fun z => absurd q z)
      exact ⟨rfl, ps_rel (d := 0) (ps_Inv_drop0 h)⟩
    · refine br_t rfl ?_
      refine br_f n0 (nm_r (nI_pred t) ⟨d + 1, ?_⟩)
      refine yd_0 (t := t) hd h5 hK h.2.2.2.2.2.2.1 d 0 (d + 1) (by omega) (by omega) (fun z => absurd z q) (fun _ => ?_)
      exact ⟨rfl, ps_rel (ps_Inv_drop h (fun ⟨j, a, b⟩ => q ⟨j, by omega, a, b⟩))⟩
end PS11
end
section
section PS12
variable {sc dl df : Int32} {src xk xa xl xw dk da xp xs : Nat → Int32}
variable {ns ht : Int32} {yz yk ya yw yp ys : Nat → Int32}
theorem yh_cell {post : Int32 → Prop} (k c : Nat) (hk : k < 5) (hc : c < 48) (h : post (yp (528 * k + 24 * (c / 8 + 8) + (c % 8 + 8)))) : wpY_at post (ns, ht, src, yz, yk, ya, yw, yp, ys) (nI k) (nI c - nI c / 8 * 8) (nI c / 8) := by
  refine yh_at k (c % 8 + 8) (c / 8 + 8) ?_ ?_ hk (by omega) (by omega) h
  · rw [ps_rem8 (by omega)]; exact nI_add _ 8
  · rw [ps_div8 (by omega)]; exact nI_add _ 8
/-- both pictures show one number at each cell of stage j -/
def ps_Eq (p q : Nat → Int32) (j : Nat) : Prop := ∀ c, c < 48 → q (528 * j + 24 * (c / 8 + 8) + (c % 8 + 8)) = p (528 * j + 24 * (c / 8 + 8) + (c % 8 + 8))
theorem ps_Eq_of {p q : Nat → Int32} {G : Nat → Nat → Nat → Int32} {s j : Nat} (hp : ps_Pic p G s) (hq : ps_Pic q G s) (hj : j < s) (hs : s ≤ 5) : ps_Eq p q j := by
  intro c hc
  have r : ps_rg j (c % 8 + 8) (c / 8 + 8) := ⟨by omega, by omega, by omega, by omega⟩
  rw [hp j hj _ _ r, hq j hj _ _ r]
theorem ps_total {j : Nat} (hj : j < 5) : ∀ (e c : Nat) (acc : Int32), c + e = 48 → ∃ r : Int32, (∀ post : Int32 → SX → Prop, post r (sc, dl, df, src, xk, xa, xl, xw, dk, da, xp, xs) → wX_total_18 post (nI j) sc dl df src xk xa xl xw dk da xp xs (e + 1) acc (nI c)) ∧ (∀ yp ys : Nat → Int32, ps_Eq xp yp j → ∀ post : Int32 → SY → Prop, post r (ns, ht, src, yz, yk, ya, yw, yp, ys) → wY_total_18 post (nI j) ns ht src yz yk ya yw yp ys (e + 1) acc (nI c)) := by
  intro e
  induction e with
  | zero =>
    intro c acc hc
    obtain rfl : c = 48 := by omega
    exact ⟨acc, fun post h => br_t (by decide) h, fun yp ys E post h => br_t (by decide) h⟩
  | succ e ih =>
    intro c acc hc
    have n : ¬ (48 : Int32) ≤ nI c := nI_ge (b := 48) (by omega) (by decide)
    obtain ⟨r, hX, hY⟩ := ih (c + 1) (acc + xp (528 * j + 24 * (c / 8 + 8) + (c % 8 + 8))) (by omega)
    refine ⟨r, fun post h => br_f n (xh_cell j c hj (by omega) (nm_e (nm_r (nI_1 c) (hX post h)))), fun yp ys E post h => br_f n ⟨by decide, by decide, yh_cell j c hj (by omega) ?_⟩⟩
    rw [E c (by omega)]
    exact nm_e (nm_r (nI_1 c) (hY yp ys E post h))
theorem ps_peak {j : Nat} (hj : j < 5) : ∀ (e c b : Nat), c + e = 48 → b < 48 → ∃ r : Int32, (∀ post : Int32 → SX → Prop, post r (sc, dl, df, src, xk, xa, xl, xw, dk, da, xp, xs) → wX_peak_26 post (nI j) sc dl df src xk xa xl xw dk da xp xs (e + 1) (nI b) (xp (528 * j + 24 * (b / 8 + 8) + (b % 8 + 8))) (nI c)) ∧ (∀ yp ys : Nat → Int32, ps_Eq xp yp j → ∀ post : Int32 → SY → Prop, post r (ns, ht, src, yz, yk, ya, yw, yp, ys) → wY_peak_18 post (nI j) ns ht src yz yk ya yw yp ys (e + 1) (nI b) (nI c)) := by
  intro e
  induction e with
  | zero =>
    intro c b hc hb
    obtain rfl : c = 48 := by omega
    exact ⟨nI b, fun post h => br_t (by decide) h, fun yp ys E post h => br_t (by decide) h⟩
  | succ e ih =>
    intro c b hc hb
    have n : ¬ (48 : Int32) ≤ nI c := nI_ge (b := 48) (by omega) (by decide)
    by_cases q : xp (528 * j + 24 * (c / 8 + 8) + (c % 8 + 8)) ≤ xp (528 * j + 24 * (b / 8 + 8) + (b % 8 + 8))
    · obtain ⟨r, hX, hY⟩ := ih (c + 1) b (by omega) hb
      refine ⟨r, fun post h => br_f n (xh_cell j c hj (by omega) (br_t q (nm_r (nI_1 c) (hX post h)))), fun yp ys E post h => br_f n ⟨by decide, by decide, yh_cell j c hj (by omega) ⟨by decide, by decide, yh_cell j b hj hb ?_⟩⟩⟩
      rw [E c (by omega), E b hb]
      exact br_t q (nm_r (nI_1 c) (hY yp ys E post h))
    · obtain ⟨r, hX, hY⟩ := ih (c + 1) c (by omega) (by omega)
      refine ⟨r, fun post h => br_f n (xh_cell j c hj (by omega) (br_f q (nm_r (nI_1 c) (hX post h)))), fun yp ys E post h => br_f n ⟨by decide, by decide, yh_cell j c hj (by omega) ⟨by decide, by decide, yh_cell j b hj hb ?_⟩⟩⟩
      rw [E c (by omega), E b hb]
      exact br_f q (nm_r (nI_1 c) (hY yp ys E post h))
theorem ps_atLeast {j : Nat} (w : Int32) (hj : j < 5) : ∀ (e c : Nat) (acc : Int32), c + e = 48 → ∃ r : Int32, (∀ post : Int32 → SX → Prop, post r (sc, dl, df, src, xk, xa, xl, xw, dk, da, xp, xs) → wX_atLeast_19 post (nI j) w sc dl df src xk xa xl xw dk da xp xs (e + 1) acc (nI c)) ∧ (∀ yp ys : Nat → Int32, ps_Eq xp yp j → ∀ post : Int32 → SY → Prop, post r (ns, ht, src, yz, yk, ya, yw, yp, ys) → wY_atLeast_19 post (nI j) w ns ht src yz yk ya yw yp ys (e + 1) acc (nI c)) := by
  intro e
  induction e with
  | zero =>
    intro c acc hc
    obtain rfl : c = 48 := by omega
    exact ⟨acc, fun post h => br_t (by decide) h, fun yp ys E post h => br_t (by decide) h⟩
  | succ e ih =>
    intro c acc hc
    have n : ¬ (48 : Int32) ≤ nI c := nI_ge (b := 48) (by omega) (by decide)
    by_cases q : xp (528 * j + 24 * (c / 8 + 8) + (c % 8 + 8)) < w
    · obtain ⟨r, hX, hY⟩ := ih (c + 1) acc (by omega)
      refine ⟨r, fun post h => br_f n (xh_cell j c hj (by omega) (br_t q (nm_r (nI_1 c) (hX post h)))), fun yp ys E post h => br_f n ⟨by decide, by decide, yh_cell j c hj (by omega) ?_⟩⟩
      rw [E c (by omega)]
      exact br_t q (nm_r (nI_1 c) (hY yp ys E post h))
    · obtain ⟨r, hX, hY⟩ := ih (c + 1) (acc + 1) (by omega)
      refine ⟨r, fun post h => br_f n (xh_cell j c hj (by omega) (br_f q (nm_e (nm_r (nI_1 c) (hX post h))))), fun yp ys E post h => br_f n ⟨by decide, by decide, yh_cell j c hj (by omega) ?_⟩⟩
      rw [E c (by omega)]
      exact br_f q (nm_e (nm_r (nI_1 c) (hY yp ys E post h)))
theorem ps_differ {j l : Nat} (hj : j < 5) (hl : l < 5) : ∀ (e c : Nat) (acc : Int32), c + e = 48 → ∃ r : Int32, (∀ post : Int32 → SX → Prop, post r (sc, dl, df, src, xk, xa, xl, xw, dk, da, xp, xs) → wX_differ_27 post (nI j) (nI l) sc dl df src xk xa xl xw dk da xp xs (e + 1) acc (nI c)) ∧ (∀ yp ys : Nat → Int32, ps_Eq xp yp j → ps_Eq xp yp l → ∀ post : Int32 → SY → Prop, post r (ns, ht, src, yz, yk, ya, yw, yp, ys) → wY_differ_27 post (nI j) (nI l) ns ht src yz yk ya yw yp ys (e + 1) acc (nI c)) := by
  intro e
  induction e with
  | zero =>
    intro c acc hc
    obtain rfl : c = 48 := by omega
    exact ⟨acc, fun post h => br_t (by decide) h, fun yp ys E F post h => br_t (by decide) h⟩
  | succ e ih =>
    intro c acc hc
    have n : ¬ (48 : Int32) ≤ nI c := nI_ge (b := 48) (by omega) (by decide)
    by_cases q : xp (528 * j + 24 * (c / 8 + 8) + (c % 8 + 8)) = xp (528 * l + 24 * (c / 8 + 8) + (c % 8 + 8))
    · obtain ⟨r, hX, hY⟩ := ih (c + 1) acc (by omega)
      refine ⟨r, fun post h => br_f n (xh_cell j c hj (by omega) (xh_cell l c hl (by omega) (br_t q (nm_r (nI_1 c) (hX post h))))), fun yp ys E F post h => br_f n ⟨by decide, by decide, yh_cell j c hj (by omega) ⟨by decide, by decide, yh_cell l c hl (by omega) ?_⟩⟩⟩
      rw [E c (by omega), F c (by omega)]
      exact br_t q (nm_r (nI_1 c) (hY yp ys E F post h))
    · obtain ⟨r, hX, hY⟩ := ih (c + 1) (acc + 1) (by omega)
      refine ⟨r, fun post h => br_f n (xh_cell j c hj (by omega) (xh_cell l c hl (by omega) (br_f q (nm_e (nm_r (nI_1 c) (hX post h)))))), fun yp ys E F post h => br_f n ⟨by decide, by decide, yh_cell j c hj (by omega) ⟨by decide, by decide, yh_cell l c hl (by omega) ?_⟩⟩⟩
      rw [E c (by omega), F c (by omega)]
      exact br_f q (nm_e (nm_r (nI_1 c) (hY yp ys E F post h)))
theorem ps_changed {j : Nat} (hj : j < 5) : ∀ (e c : Nat) (acc : Int32), c + e = 48 → ∃ r : Int32, (∀ post : Int32 → SX → Prop, post r (sc, dl, df, src, xk, xa, xl, xw, dk, da, xp, xs) → wX_changed_18 post (nI j) sc dl df src xk xa xl xw dk da xp xs (e + 1) acc (nI c)) ∧ (∀ yp ys : Nat → Int32, ps_Eq xp yp j → ∀ post : Int32 → SY → Prop, post r (ns, ht, src, yz, yk, ya, yw, yp, ys) → wY_changed_18 post (nI j) ns ht src yz yk ya yw yp ys (e + 1) acc (nI c)) := by
  intro e
  induction e with
  | zero =>
    intro c acc hc
    obtain rfl : c = 48 := by omega
    exact ⟨acc, fun post h => br_t (by decide) h, fun yp ys E post h => br_t (by decide) h⟩
  | succ e ih =>
    intro c acc hc
    have n : ¬ (48 : Int32) ≤ nI c := nI_ge (b := 48) (by omega) (by decide)
    have v : vp_in (nI c) 48 := vp_in_nI (by omega) (by omega)
    by_cases q : xp (528 * j + 24 * (c / 8 + 8) + (c % 8 + 8)) = src (nI c).toNatClampNeg
    · obtain ⟨r, hX, hY⟩ := ih (c + 1) acc (by omega)
      refine ⟨r, fun post h => br_f n (xh_cell j c hj (by omega) ⟨v, br_t q (nm_r (nI_1 c) (hX post h))⟩), fun yp ys E post h => br_f n ⟨by decide, by decide, yh_cell j c hj (by omega) ?_⟩⟩
      rw [E c (by omega)]
      exact ⟨v, br_t q (nm_r (nI_1 c) (hY yp ys E post h))⟩
    · obtain ⟨r, hX, hY⟩ := ih (c + 1) (acc + 1) (by omega)
      refine ⟨r, fun post h => br_f n (xh_cell j c hj (by omega) ⟨v, br_f q (nm_e (nm_r (nI_1 c) (hX post h)))⟩), fun yp ys E post h => br_f n ⟨by decide, by decide, yh_cell j c hj (by omega) ?_⟩⟩
      rw [E c (by omega)]
      exact ⟨v, br_f q (nm_e (nm_r (nI_1 c) (hY yp ys E post h)))⟩
theorem ps_apply {j : Nat} (hj : j < 5) : ∀ (e c : Nat) (acc : Int32) (src : Nat → Int32), c + e = 48 → ∃ (r : Int32) (src' : Nat → Int32), (∀ post : Int32 → SX → Prop, post r (sc, dl, df, src', xk, xa, xl, xw, dk, da, xp, xs) → wX_apply_18 post (nI j) sc dl df (e + 1) acc (nI c) src xk xa xl xw dk da xp xs) ∧ (∀ yp ys : Nat → Int32, ps_Eq xp yp j → ∀ post : Int32 → SY → Prop, post r (ns, ht, src', yz, yk, ya, yw, yp, ys) → wY_apply_18 post (nI j) ns ht (e + 1) acc (nI c) src yz yk ya yw yp ys) := by
  intro e
  induction e with
  | zero =>
    intro c acc src hc
    obtain rfl : c = 48 := by omega
    exact ⟨acc, src, fun post h => br_t (by decide) h, fun yp ys E post h => br_t (by decide) h⟩
  | succ e ih =>
    intro c acc src hc
    have n : ¬ (48 : Int32) ≤ nI c := nI_ge (b := 48) (by omega) (by decide)
    have v : vp_in (nI c) 48 := vp_in_nI (by omega) (by omega)
    by_cases q : xp (528 * j + 24 * (c / 8 + 8) + (c % 8 + 8)) = src (nI c).toNatClampNeg
    · obtain ⟨r, src', hX, hY⟩ := ih (c + 1) acc (upd src (nI c).toNatClampNeg (xp (528 * j + 24 * (c / 8 + 8) + (c % 8 + 8)))) (by omega)
      refine ⟨r, src', fun post h => br_f n (xh_cell j c hj (by omega) ⟨v, br_t q ⟨v, nm_e (nm_r (nI_1 c) (hX post h))⟩⟩), fun yp ys E post h => br_f n ⟨by decide, by decide, yh_cell j c hj (by omega) ?_⟩⟩
      rw [E c (by omega)]
      exact ⟨v, br_t q ⟨v, nm_e (nm_r (nI_1 c) (hY yp ys E post h))⟩⟩
    · obtain ⟨r, src', hX, hY⟩ := ih (c + 1) (acc + 1) (upd src (nI c).toNatClampNeg (xp (528 * j + 24 * (c / 8 + 8) + (c % 8 + 8)))) (by omega)
      refine ⟨r, src', fun post h => br_f n (xh_cell j c hj (by omega) ⟨v, br_f q (nm_e ⟨v, nm_e (nm_r (nI_1 c) (hX post h))⟩)⟩), fun yp ys E post h => br_f n ⟨by decide, by decide, yh_cell j c hj (by omega) ?_⟩⟩
      rw [E c (by omega)]
      exact ⟨v, br_f q ⟨v, nm_e (nm_r (nI_1 c) (hY yp ys E post h))⟩⟩
theorem ps_rng (x : Int32) (lo hi : Int32) (h1 : lo.toInt = -4) (h2 : hi.toInt ≤ 12) : x < lo ∨ hi ≤ x ∨ ∃ c : Nat, 4 ≤ c ∧ (c : Int) < hi.toInt + 8 ∧ x = nI c - 8 := by
  by_cases a : x < lo
  · exact Or.inl a
  · by_cases b : hi ≤ x
    · exact Or.inr (Or.inl b)
    · have a2 := Int32.le_iff_toInt_le.mp (Int32.not_lt.mp a)
      have b2 := Int32.lt_iff_toInt_lt.mp (Int32.not_le.mp b)
      obtain ⟨c, q1, q2, q3⟩ := ps_of (x := x) (lo := -4) (hi := hi.toInt) (by omega) b2 (by omega) (by omega)
      exact Or.inr (Or.inr ⟨c, by omega, q2, q3⟩)
end PS12
end
section
section PS13
theorem i_vc_total {k : Nat} {u : SX} {v : SY} (I : i_Rel k u v) (hk : k + 4 ≤ 2048) (v1 : Int32) : wpX_total (fun r u' => wpY_total (fun r' v' => r' = r ∧ i_Rel (k + 4) u' v') v v1) u v1 := by
  obtain ⟨s, d, K, A, L, DK, DA, src, xk, xa, xl, xw, dk, da, xp, xs, yz, yk, ya, yw, yp, ys, rfl, rfl, h⟩ := I
  obtain ⟨hs, _, ok, tx, ty, _⟩ := id h
  unfold wpX_total wpY_total
  dsimp only
  rcases ps_stg v1 s hs with q | ⟨j, hj, rfl⟩
  · refine xh_isStage_f q (br_t rfl ?_)
    refine yh_isStage_f q (br_t rfl ?_)
    exact ⟨rfl, ps_rel h⟩
  · refine xh_isStage_t hj hs (br_f (by decide) (xh_work hs ok tx (fun p st hp => ?_)))
    obtain ⟨r, hX, hY⟩ := ps_total (sc := nI s) (dl := nI d) (df := nI (ps_H DK d)) (xk := xk) (xa := xa) (xl := xl) (xw := xw) (dk := dk) (da := da) (xp := p) (xs := st) (ns := nI s) (ht := nI (ps_H DK d)) (yz := yz) (yk := yk) (ya := ya) (yw := yw) (j := j) (src := src) (by omega) 48 0 0 rfl
    refine ⟨49, hX _ ?_⟩
    refine yh_isStage_t hj hs (br_f (by decide) (yh_work hs ok ty (fun p' st' hp' => ⟨49, hY p' st' (ps_Eq_of hp hp' hj hs) _ ?_⟩)))
    exact ⟨rfl, ps_rel h⟩
theorem i_vc_atLeast {k : Nat} {u : SX} {v : SY} (I : i_Rel k u v) (hk : k + 4 ≤ 2048) (v1 : Int32) (v2 : Int32) : wpX_atLeast (fun r u' => wpY_atLeast (fun r' v' => r' = r ∧ i_Rel (k + 4) u' v') v v1 v2) u v1 v2 := by
  obtain ⟨s, d, K, A, L, DK, DA, src, xk, xa, xl, xw, dk, da, xp, xs, yz, yk, ya, yw, yp, ys, rfl, rfl, h⟩ := I
  obtain ⟨hs, _, ok, tx, ty, _⟩ := id h
  unfold wpX_atLeast wpY_atLeast
  dsimp only
  rcases ps_stg v1 s hs with q | ⟨j, hj, rfl⟩
  · refine xh_isStage_f q (br_t rfl ?_)
    refine yh_isStage_f q (br_t rfl ?_)
    exact ⟨rfl, ps_rel h⟩
  · refine xh_isStage_t hj hs (br_f (by decide) (xh_work hs ok tx (fun p st hp => ?_)))
    obtain ⟨r, hX, hY⟩ := ps_atLeast (sc := nI s) (dl := nI d) (df := nI (ps_H DK d)) (xk := xk) (xa := xa) (xl := xl) (xw := xw) (dk := dk) (da := da) (xp := p) (xs := st) (ns := nI s) (ht := nI (ps_H DK d)) (yz := yz) (yk := yk) (ya := ya) (yw := yw) (j := j) (src := src) v2 (by omega) 48 0 0 rfl
    refine ⟨49, hX _ ?_⟩
    refine yh_isStage_t hj hs (br_f (by decide) (yh_work hs ok ty (fun p' st' hp' => ⟨49, hY p' st' (ps_Eq_of hp hp' hj hs) _ ?_⟩)))
    exact ⟨rfl, ps_rel h⟩
theorem i_vc_changed {k : Nat} {u : SX} {v : SY} (I : i_Rel k u v) (hk : k + 4 ≤ 2048) (v1 : Int32) : wpX_changed (fun r u' => wpY_changed (fun r' v' => r' = r ∧ i_Rel (k + 4) u' v') v v1) u v1 := by
  obtain ⟨s, d, K, A, L, DK, DA, src, xk, xa, xl, xw, dk, da, xp, xs, yz, yk, ya, yw, yp, ys, rfl, rfl, h⟩ := I
  obtain ⟨hs, _, ok, tx, ty, _⟩ := id h
  unfold wpX_changed wpY_changed
  dsimp only
  rcases ps_stg v1 s hs with q | ⟨j, hj, rfl⟩
  · refine xh_isStage_f q (br_t rfl ?_)
    refine yh_isStage_f q (br_t rfl ?_)
    exact ⟨rfl, ps_rel h⟩
  · refine xh_isStage_t hj hs (br_f (by decide) (xh_work hs ok tx (fun p st hp => ?_)))
    obtain ⟨r, hX, hY⟩ := ps_changed (sc := nI s) (dl := nI d) (df := nI (ps_H DK d)) (xk := xk) (xa := xa) (xl := xl) (xw := xw) (dk := dk) (da := da) (xp := p) (xs := st) (ns := nI s) (ht := nI (ps_H DK d)) (yz := yz) (yk := yk) (ya := ya) (yw := yw) (j := j) (src := src) (by omega) 48 0 0 rfl
    refine ⟨49, hX _ ?_⟩
    refine yh_isStage_t hj hs (br_f (by decide) (yh_work hs ok ty (fun p' st' hp' => ⟨49, hY p' st' (ps_Eq_of hp hp' hj hs) _ ?_⟩)))
    exact ⟨rfl, ps_rel h⟩
theorem i_vc_peak {k : Nat} {u : SX} {v : SY} (I : i_Rel k u v) (hk : k + 4 ≤ 2048) (v1 : Int32) : wpX_peak (fun r u' => wpY_peak (fun r' v' => r' = r ∧ i_Rel (k + 4) u' v') v v1) u v1 := by
  obtain ⟨s, d, K, A, L, DK, DA, src, xk, xa, xl, xw, dk, da, xp, xs, yz, yk, ya, yw, yp, ys, rfl, rfl, h⟩ := I
  obtain ⟨hs, _, ok, tx, ty, _⟩ := id h
  unfold wpX_peak wpY_peak
  dsimp only
  rcases ps_stg v1 s hs with q | ⟨j, hj, rfl⟩
  · refine xh_isStage_f q (br_t rfl ?_)
    refine yh_isStage_f q (br_t rfl ?_)
    exact ⟨rfl, ps_rel h⟩
  · refine xh_isStage_t hj hs (br_f (by decide) (xh_work hs ok tx (fun p st hp => ?_)))
    obtain ⟨r, hX, hY⟩ := ps_peak (sc := nI s) (dl := nI d) (df := nI (ps_H DK d)) (xk := xk) (xa := xa) (xl := xl) (xw := xw) (dk := dk) (da := da) (xp := p) (xs := st) (ns := nI s) (ht := nI (ps_H DK d)) (yz := yz) (yk := yk) (ya := ya) (yw := yw) (j := j) (src := src) (by omega) 47 1 0 rfl (by omega)
    refine xh_cell j 0 (by omega) (by omega) ⟨48, hX _ ?_⟩
    refine yh_isStage_t hj hs (br_f (by decide) (yh_work hs ok ty (fun p' st' hp' => ⟨48, hY p' st' (ps_Eq_of hp hp' hj hs) _ ?_⟩)))
    exact ⟨rfl, ps_rel h⟩
theorem i_vc_differ {k : Nat} {u : SX} {v : SY} (I : i_Rel k u v) (hk : k + 4 ≤ 2048) (v1 : Int32) (v2 : Int32) : wpX_differ (fun r u' => wpY_differ (fun r' v' => r' = r ∧ i_Rel (k + 4) u' v') v v1 v2) u v1 v2 := by
  obtain ⟨s, d, K, A, L, DK, DA, src, xk, xa, xl, xw, dk, da, xp, xs, yz, yk, ya, yw, yp, ys, rfl, rfl, h⟩ := I
  obtain ⟨hs, _, ok, tx, ty, _⟩ := id h
  unfold wpX_differ wpY_differ
  dsimp only
  rcases ps_stg v1 s hs with q | ⟨j, hj, rfl⟩
  · refine xh_isStage_f q (br_t rfl ?_)
    refine yh_isStage_f q (br_t rfl ?_)
    exact ⟨rfl, ps_rel h⟩
  · rcases ps_stg v2 s hs with q | ⟨l, hl, rfl⟩
    · refine xh_isStage_t hj hs (br_f (by decide) (xh_isStage_f q (br_t rfl ?_)))
      refine yh_isStage_t hj hs (br_f (by decide) (yh_isStage_f q (br_t rfl ?_)))
      exact ⟨rfl, ps_rel h⟩
    · refine xh_isStage_t hj hs (br_f (by decide) (xh_isStage_t hl hs (br_f (by decide) (xh_work hs ok tx (fun p st hp => ?_)))))
      obtain ⟨r, hX, hY⟩ := ps_differ (sc := nI s) (dl := nI d) (df := nI (ps_H DK d)) (xk := xk) (xa := xa) (xl := xl) (xw := xw) (dk := dk) (da := da) (xp := p) (xs := st) (ns := nI s) (ht := nI (ps_H DK d)) (yz := yz) (yk := yk) (ya := ya) (yw := yw) (j := j) (l := l) (src := src) (by omega) (by omega) 48 0 0 rfl
      refine ⟨49, hX _ ?_⟩
      refine yh_isStage_t hj hs (br_f (by decide) (yh_isStage_t hl hs (br_f (by decide) (yh_work hs ok ty (fun p' st' hp' => ⟨49, hY p' st' (ps_Eq_of hp hp' hj hs) (ps_Eq_of hp hp' hl hs) _ ?_⟩)))))
      exact ⟨rfl, ps_rel h⟩
theorem i_vc_apply {k : Nat} {u : SX} {v : SY} (I : i_Rel k u v) (hk : k + 4 ≤ 2048) (v1 : Int32) : wpX_apply (fun r u' => wpY_apply (fun r' v' => r' = r ∧ i_Rel (k + 4) u' v') v v1) u v1 := by
  obtain ⟨s, d, K, A, L, DK, DA, src, xk, xa, xl, xw, dk, da, xp, xs, yz, yk, ya, yw, yp, ys, rfl, rfl, h⟩ := I
  obtain ⟨hs, _, ok, tx, ty, _⟩ := id h
  unfold wpX_apply wpY_apply
  dsimp only
  rcases ps_stg v1 s hs with q | ⟨j, hj, rfl⟩
  · refine xh_isStage_f q (br_t rfl ?_)
    refine yh_isStage_f q (br_t rfl ?_)
    exact ⟨rfl, ps_rel h⟩
  · refine xh_isStage_t hj hs (br_f (by decide) (xh_work hs ok tx (fun p st hp => ?_)))
    obtain ⟨r, src', hX, hY⟩ := ps_apply (sc := nI s) (dl := nI d) (df := nI (ps_H DK d)) (xk := xk) (xa := xa) (xl := xl) (xw := xw) (dk := dk) (da := da) (xp := p) (xs := st) (ns := nI s) (ht := nI (ps_H DK d)) (yz := yz) (yk := yk) (ya := ya) (yw := yw) (j := j) (by omega) 48 0 0 src rfl
    refine ⟨49, hX _ ?_⟩
    refine yh_isStage_t hj hs (br_f (by decide) (yh_work hs ok ty (fun p' st' hp' => ⟨49, hY p' st' (ps_Eq_of hp hp' hj hs) _ ?_⟩)))
    exact ⟨rfl, ps_rel h⟩
theorem i_vc_value {k : Nat} {u : SX} {v : SY} (I : i_Rel k u v) (hk : k + 4 ≤ 2048) (v1 : Int32) (v2 : Int32) (v3 : Int32) : wpX_value (fun r u' => wpY_value (fun r' v' => r' = r ∧ i_Rel (k + 4) u' v') v v1 v2 v3) u v1 v2 v3 := by
  obtain ⟨s, d, K, A, L, DK, DA, src, xk, xa, xl, xw, dk, da, xp, xs, yz, yk, ya, yw, yp, ys, rfl, rfl, h⟩ := I
  obtain ⟨hs, _, ok, tx, ty, _⟩ := id h
  unfold wpX_value wpY_value
  dsimp only
  rcases ps_stg v1 s hs with q | ⟨j, hj, rfl⟩
  · refine xh_isStage_f q (br_t rfl ?_)
    refine yh_isStage_f q (br_t rfl ?_)
    exact ⟨rfl, ps_rel h⟩
  · rcases ps_rng v2 (-4) 12 (by decide) (by decide) with q | q | ⟨cx, x1, x2, rfl⟩
    · refine xh_isStage_t hj hs (br_f (by decide) (br_t q ?_))
      refine yh_isStage_t hj hs (br_f (by decide) (yh_work hs ok ty (fun p' st' hp' => br_t q ?_)))
      exact ⟨rfl, ps_rel h⟩
    · have n4 : ¬ v2 < -4 := fun z => absurd (Int32.lt_of_le_of_lt q z) (by decide)
      refine xh_isStage_t hj hs (br_f (by decide) (br_f n4 (br_f (Int32.not_lt.mpr q) ?_)))
      refine yh_isStage_t hj hs (br_f (by decide) (yh_work hs ok ty (fun p' st' hp' => br_f n4 (br_t (Int32.lt_of_lt_of_le (by decide) q) ?_))))
      exact ⟨rfl, ps_rel h⟩
    · have e12 : (12 : Int32).toInt = 12 := by decide
      have x4 : ¬ nI cx - 8 < -4 := fun z => absurd ((ps_lt8 (b := 4) (by omega) (by omega)).mp z) (by omega)
      have x12 : nI cx - 8 < 12 := (ps_lt8 (b := 20) (by omega) (by omega)).mpr (by omega)
      have x11 : ¬ 11 < nI cx - 8 := fun z => absurd ((ps_lt8 (a := 19) (by omega) (by omega)).mp z) (by omega)
      rcases ps_rng v3 (-4) 10 (by decide) (by decide) with q | q | ⟨cy, y1, y2, rfl⟩
      · refine xh_isStage_t hj hs (br_f (by decide) (br_f x4 (br_t x12 (br_t q ?_))))
        refine yh_isStage_t hj hs (br_f (by decide) (yh_work hs ok ty (fun p' st' hp' => br_f x4 (br_f x11 (br_t q ?_)))))
        exact ⟨rfl, ps_rel h⟩
      · have n4 : ¬ v3 < -4 := fun z => absurd (Int32.lt_of_le_of_lt q z) (by decide)
        refine xh_isStage_t hj hs (br_f (by decide) (br_f x4 (br_t x12 (br_f n4 (br_f (Int32.not_lt.mpr q) ?_)))))
        refine yh_isStage_t hj hs (br_f (by decide) (yh_work hs ok ty (fun p' st' hp' => br_f x4 (br_f x11 (br_f n4 (br_t (Int32.lt_of_lt_of_le (by decide) q) ?_))))))
        exact ⟨rfl, ps_rel h⟩
      · have e10 : (10 : Int32).toInt = 10 := by decide
        have y4 : ¬ nI cy - 8 < -4 := fun z => absurd ((ps_lt8 (b := 4) (by omega) (by omega)).mp z) (by omega)
        have y10 : nI cy - 8 < 10 := (ps_lt8 (b := 18) (by omega) (by omega)).mpr (by omega)
        have y9 : ¬ 9 < nI cy - 8 := fun z => absurd ((ps_lt8 (a := 17) (by omega) (by omega)).mp z) (by omega)
        have rg : ps_rg j cx cy := ⟨by omega, by omega, by omega, by omega⟩
        refine xh_isStage_t hj hs (br_f (by decide) (br_f x4 (br_t x12 (br_f y4 (br_t y10 (xh_work hs ok tx (fun p st hp => ?_)))))))
        refine xh_place j cx cy (ps_p8 cx) (ps_p8 cy) ⟨vp_in_nI (by omega) (by omega), ?_⟩
        refine yh_isStage_t hj hs (br_f (by decide) (yh_work hs ok ty (fun p' st' hp' => br_f x4 (br_f x11 (br_f y4 (br_f y9 ?_))))))
        refine yh_at j cx cy (ps_p8 cx) (ps_p8 cy) (by omega) (by omega) (by omega) ?_
        exact ⟨by rw [nI_clamp (by omega)]; exact (hp' j hj _ _ rg).trans (hp j hj _ _ rg).symm, ps_rel h⟩
end PS13
end
