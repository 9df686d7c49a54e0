section PS2
/-! pure: heights, the stack's run, pictures by stages -/
/-- how many formulas a kind takes -/
def ps_tk (kd : Nat) : Nat := if kd ≤ 4 then 0 else if kd = 10 then 1 else if kd = 12 then 3 else 2
/-- the height after i tokens -/
def ps_H (K : Nat → Nat) : Nat → Nat
  | 0 => 0
  | i + 1 => ps_H K i - ps_tk (K i) + 1
/-- t is a coordinate plus 9 -/
def ps_cl (t m : Nat) : Nat := if t < 9 then 0 else if m + 9 < t then m else t - 9
def ps_simple (src : Nat → Int32) (G : Nat → Nat → Nat → Int32) (kd : Nat) (a : Int32) (cx cy : Nat) : Int32 :=
  if kd = 0 then a else if kd = 1 then nI cx - 8 else if kd = 2 then nI cy - 8 else
  if kd = 3 then src (8 * ps_cl (cy + a.toNatClampNeg % 9 % 3) 5 + ps_cl (cx + a.toNatClampNeg % 9 / 3) 7) else
  G (a.toNatClampNeg / 9) (cx + a.toNatClampNeg % 9 / 3 - 1) (cy + a.toNatClampNeg % 9 % 3 - 1)
def ps_comb (kd : Nat) (f g h : Int32) : Int32 :=
  if kd = 5 then f + g else if kd = 6 then f - g else if kd = 7 then f * g else
  if kd = 8 then (if f < g then f else g) else if kd = 9 then (if g < f then f else g) else
  if kd = 10 then f >>> ((1 : Int32) &&& 31) else if kd = 11 then (if f < g then 1 else 0) else
  if 0 < f then g else h
def ps_tv (src : Nat → Int32) (G : Nat → Nat → Nat → Int32) (kd : Nat) (a : Int32) (cx cy : Nat) (S : Nat → Int32) (b : Nat) : Int32 :=
  if kd ≤ 4 then ps_simple src G kd a cx cy else ps_comb kd (S b) (S (b + 1)) (S (b + 2))
/-- the stack after i tokens -/
def ps_S (src : Nat → Int32) (G : Nat → Nat → Nat → Int32) (K : Nat → Nat) (A : Nat → Int32) (cx cy : Nat) : Nat → Nat → Int32
  | 0 => fun _ => 0
  | i + 1 => upd (ps_S src G K A cx cy i) (ps_H K i - ps_tk (K i)) (ps_tv src G (K i) (A i) cx cy (ps_S src G K A cx cy i) (ps_H K i - ps_tk (K i)))
theorem ps_H_s (K : Nat → Nat) (i : Nat) : ps_H K (i + 1) = ps_H K i - ps_tk (K i) + 1 := rfl
/-- the tokens are well formed: s stages may be spoken of -/
def ps_WF (s : Nat) (K : Nat → Nat) (A : Nat → Int32) (n : Nat) : Prop :=
  ∀ i, i < n → K i ≤ 12 ∧ ps_tk (K i) ≤ ps_H K i ∧ ps_H K (i + 1) ≤ 6 ∧ (K i = 3 → ∃ b : Nat, b < 9 ∧ A i = nI b) ∧ (K i = 4 → ∃ b : Nat, b < 9 * s ∧ A i = nI b)
def ps_Ag (st S : Nat → Int32) (h : Nat) : Prop := ∀ j, j < h → st j = S j
theorem ps_Ag_upd {st S : Nat → Int32} {h b : Nat} {v : Int32} (H : ps_Ag st S h) (hb : b ≤ h) : ps_Ag (upd st b v) (upd S b v) (b + 1) := by
  intro j hj
  by_cases e : j = b
  · subst e; rw [pk_us, pk_us]
  · rw [pk_un e, pk_un e]; exact H j (by omega)
/-- the cells of stage j that are worked out -/
def ps_rg (j cx cy : Nat) : Prop := j ≤ cx ∧ cx + j < 24 ∧ j ≤ cy ∧ cy + j < 22
def ps_Pic (p : Nat → Int32) (G : Nat → Nat → Nat → Int32) (k : Nat) : Prop :=
  ∀ j, j < k → ∀ cx cy, ps_rg j cx cy → p (528 * j + 24 * cy + cx) = G j cx cy
def ps_Dn (p : Nat → Int32) (E : Nat → Nat → Int32) (k c : Nat) : Prop :=
  ∀ cx cy, ps_rg k cx cy → 24 * cy + cx < c → p (528 * k + 24 * cy + cx) = E cx cy
def ps_ev (src : Nat → Int32) (K : Nat → Nat → Nat) (A : Nat → Nat → Int32) (L : Nat → Nat) (G : Nat → Nat → Nat → Int32) (k cx cy : Nat) : Int32 :=
  ps_S src G (K k) (A k) cx cy (L k) 0
/-- the pictures of the first k stages -/
def ps_G (src : Nat → Int32) (K : Nat → Nat → Nat) (A : Nat → Nat → Int32) (L : Nat → Nat) : Nat → Nat → Nat → Nat → Int32
  | 0 => fun _ _ _ => 0
  | k + 1 => fun j cx cy => if j = k then ps_ev src K A L (ps_G src K A L k) k cx cy else ps_G src K A L k j cx cy
theorem ps_Pic_upd {p : Nat → Int32} {G : Nat → Nat → Nat → Int32} {k cx cy : Nat} {v : Int32} (h : ps_Pic p G k) (hr : ps_rg k cx cy) : ps_Pic (upd p (528 * k + 24 * cy + cx) v) G k := by
  intro j hj x y r
  obtain ⟨a1, a2, a3, a4⟩ := hr
  obtain ⟨b1, b2, b3, b4⟩ := r
  rw [pk_un (by omega)]
  exact h j hj x y ⟨b1, b2, b3, b4⟩
theorem ps_Dn_upd {p : Nat → Int32} {E : Nat → Nat → Int32} {k cx cy : Nat} (h : ps_Dn p E k (24 * cy + cx)) (hr : ps_rg k cx cy) : ps_Dn (upd p (528 * k + 24 * cy + cx) (E cx cy)) E k (24 * cy + cx + 1) := by
  intro x y r hc
  obtain ⟨a1, a2, a3, a4⟩ := hr
  obtain ⟨b1, b2, b3, b4⟩ := r
  by_cases e : 24 * y + x = 24 * cy + cx
  · have ey : y = cy := by omega
    have ex : x = cx := by omega
    subst ey ex
    rw [pk_us]
  · rw [pk_un (by omega)]
    exact h x y ⟨b1, b2, b3, b4⟩ (by omega)
theorem ps_Dn_skip {p : Nat → Int32} {E : Nat → Nat → Int32} {k cx cy : Nat} (h : ps_Dn p E k (24 * cy + cx)) (hr : ¬ ps_rg k cx cy) (hx : cx < 24) : ps_Dn p E k (24 * cy + cx + 1) := by
  intro x y r hc
  by_cases e : 24 * y + x = 24 * cy + cx
  · obtain ⟨b1, b2, b3, b4⟩ := r
    have ey : y = cy := by omega
    have ex : x = cx := by omega
    subst ey ex
    exact absurd ⟨b1, b2, b3, b4⟩ hr
  · exact h x y r (by omega)
theorem ps_Dn_row {p : Nat → Int32} {E : Nat → Nat → Int32} {k cy : Nat} (h : ps_Dn p E k (24 * cy + (24 - k))) (hk : k ≤ 4) : ps_Dn p E k (24 * (cy + 1) + k) := by
  intro x y r hc
  obtain ⟨b1, b2, b3, b4⟩ := r
  exact h x y ⟨b1, b2, b3, b4⟩ (by omega)
theorem ps_Dn_0 (p : Nat → Int32) (E : Nat → Nat → Int32) (k : Nat) : ps_Dn p E k (24 * k + k) := by
  intro x y r hc
  obtain ⟨b1, b2, b3, b4⟩ := r
  omega
theorem ps_Dn_00 (p : Nat → Int32) (E : Nat → Nat → Int32) (k : Nat) : ps_Dn p E k 0 := by
  intro x y r hc
  omega
section
variable (src : Nat → Int32) (K : Nat → Nat → Nat) (A : Nat → Nat → Int32) (L : Nat → Nat)
theorem ps_next {p : Nat → Int32} {k c : Nat} (hp : ps_Pic p (ps_G src K A L k) k) (hd : ps_Dn p (ps_ev src K A L (ps_G src K A L k) k) k c) (hc : 24 * (22 - k) + k ≤ c ∨ 528 ≤ c) : ps_Pic p (ps_G src K A L (k + 1)) (k + 1) := by
  intro j hj x y r
  show _ = if j = k then ps_ev src K A L (ps_G src K A L k) k x y else ps_G src K A L k j x y
  by_cases e : j = k
  · subst e
    rw [if_pos rfl]
    refine hd x y r ?_
    obtain ⟨b1, b2, b3, b4⟩ := r
    omega
  · rw [if_neg e]
    exact hp j (by omega) x y r
end
/-! coordinates: a natural less 8, or less 9 -/
theorem ps_ti (c d : Nat) (h : c < 1000) (hd : d < 1000) : (nI c - nI d).toInt = (c : Int) - d := pk_sub_toInt (by omega) (by omega)
theorem ps_le8 {a b : Nat} (ha : a < 1000) (hb : b < 1000) : nI a - 8 ≤ nI b - 8 ↔ a ≤ b := by
  rw [Int32.le_iff_toInt_le, show (nI a - 8).toInt = (a : Int) - 8 from ps_ti a 8 ha (by omega), show (nI b - 8).toInt = (b : Int) - 8 from ps_ti b 8 hb (by omega)]
  omega
theorem ps_lt8 {a b : Nat} (ha : a < 1000) (hb : b < 1000) : nI a - 8 < nI b - 8 ↔ a < b := by
  rw [Int32.lt_iff_toInt_lt, show (nI a - 8).toInt = (a : Int) - 8 from ps_ti a 8 ha (by omega), show (nI b - 8).toInt = (b : Int) - 8 from ps_ti b 8 hb (by omega)]
  omega
theorem ps_9 (c d : Nat) : nI c - 8 + nI d - 1 = nI (c + d) - 9 := by
  rw [← nI_add]; grind
theorem ps_p8 (c : Nat) : nI c - 8 + 8 = nI c := by grind
theorem ps_98 {t : Nat} (h : 1 ≤ t) : nI t - 9 + 8 = nI (t - 1) := by
  obtain ⟨u, rfl⟩ : ∃ u, t = u + 1 := ⟨t - 1, by omega⟩
  rw [← nI_1, Nat.add_sub_cancel]; grind
theorem ps_91 (c : Nat) : nI c - 8 + 1 = nI (c + 1) - 8 := by
  rw [← nI_1]; grind
end PS2
