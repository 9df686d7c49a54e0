section PS9
section
variable {sc dl df : Int32} {src xk xa xl xw dk da xp xs : Nat → Int32}
variable {ns ht : Int32} {yz yk ya yw yp ys : Nat → Int32}
theorem ps_cell (x y : Int32) : (∃ a b : Nat, a < 8 ∧ b < 6 ∧ x = nI a ∧ y = nI b) ∨ (x < 0 ∨ 8 ≤ x ∨ y < 0 ∨ 6 ≤ y) := by
  rcases pk_ix x (n := 8) (by decide) with h | h | ⟨a, ha, ea⟩
  · exact Or.inr (Or.inl h)
  · exact Or.inr (Or.inr (Or.inl h))
  · rcases pk_ix y (n := 6) (by decide) with h | h | ⟨b, hb, eb⟩
    · exact Or.inr (Or.inr (Or.inr (Or.inl h)))
    · exact Or.inr (Or.inr (Or.inr (Or.inr h)))
    · exact Or.inl ⟨a, b, ha, hb, ea, eb⟩
theorem xh_isCell_t {post : Int32 → Prop} (a b : Nat) (ha : a < 8) (hb : b < 6) (h : post 1) : wpX_isCell post (sc, dl, df, src, xk, xa, xl, xw, dk, da, xp, xs) (nI a) (nI b) :=
  br_f (nI_pos (by omega)) (br_f (nI_ge (b := 8) ha (by decide)) (br_f (nI_pos (by omega)) (br_f (nI_ge (b := 6) hb (by decide)) h)))
theorem xh_isCell_f {post : Int32 → Prop} {x y : Int32} (q : x < 0 ∨ 8 ≤ x ∨ y < 0 ∨ 6 ≤ y) (h : post 0) : wpX_isCell post (sc, dl, df, src, xk, xa, xl, xw, dk, da, xp, xs) x y :=
  br_c (fun _ => h) (fun n1 => br_c (fun _ => h) (fun n2 => br_c (fun _ => h) (fun n3 => br_c (fun _ => h) (fun n4 => by
    rcases q with q | q | q | q
    · exact absurd q n1
    · exact absurd q n2
    · exact absurd q n3
    · exact absurd q n4))))
theorem yh_isCell_t {post : Int32 → Prop} (a b : Nat) (ha : a < 8) (hb : b < 6) (h : post 1) : wpY_isCell post (ns, ht, src, yz, yk, ya, yw, yp, ys) (nI a) (nI b) :=
  br_f (nI_pos (by omega)) (br_f (nI_nlt (a := 7) (b := a) (by omega) (by decide)) (br_f (nI_pos (by omega)) (br_f (nI_nlt (a := 5) (b := b) (by omega) (by decide)) h)))
theorem yh_isCell_f {post : Int32 → Prop} {x y : Int32} (q : x < 0 ∨ 8 ≤ x ∨ y < 0 ∨ 6 ≤ y) (h : post 0) : wpY_isCell post (ns, ht, src, yz, yk, ya, yw, yp, ys) x y :=
  br_c (fun _ => h) (fun n1 => br_c (fun _ => h) (fun n2 => br_c (fun _ => h) (fun n3 => br_c (fun _ => h) (fun n4 => by
    rcases q with q | q | q | q
    · exact absurd q n1
    · exact absurd (Int32.le_trans q (Int32.not_lt.mp n2)) (by decide)
    · exact absurd q n3
    · exact absurd (Int32.le_trans q (Int32.not_lt.mp n4)) (by decide)))))
theorem xh_isStage_t {post : Int32 → Prop} {s j : Nat} (hj : j < s) (hs : s ≤ 5) (h : post 1) : wpX_isStage post (nI s, dl, df, src, xk, xa, xl, xw, dk, da, xp, xs) (nI j) :=
  br_f (nI_pos (by omega)) (br_f (nI_ge hj (by omega)) h)
theorem xh_isStage_f {post : Int32 → Prop} {s : Nat} {k : Int32} (q : k < 0 ∨ nI s ≤ k) (h : post 0) : wpX_isStage post (nI s, dl, df, src, xk, xa, xl, xw, dk, da, xp, xs) k :=
  br_c (fun _ => h) (fun n1 => br_c (fun _ => h) (fun n2 => absurd q (not_or.mpr ⟨n1, n2⟩)))
theorem yh_isStage_t {post : Int32 → Prop} {s j : Nat} (hj : j < s) (hs : s ≤ 5) (h : post 1) : wpY_isStage post (nI s, ht, src, yz, yk, ya, yw, yp, ys) (nI j) :=
  br_f (nI_pos (by omega)) (br_f (nI_ge hj (by omega)) h)
theorem yh_isStage_f {post : Int32 → Prop} {s : Nat} {k : Int32} (q : k < 0 ∨ nI s ≤ k) (h : post 0) : wpY_isStage post (nI s, ht, src, yz, yk, ya, yw, yp, ys) k :=
  br_c (fun _ => h) (fun n1 => br_c (fun _ => h) (fun n2 => absurd q (not_or.mpr ⟨n1, n2⟩)))
theorem ps_stg (k : Int32) (s : Nat) (hs : s ≤ 5) : (k < 0 ∨ nI s ≤ k) ∨ ∃ j : Nat, j < s ∧ k = nI j := by
  rcases pk_ix k (n := s) (by omega) with h | h | h
  · exact Or.inl (Or.inl h)
  · exact Or.inl (Or.inr h)
  · exact Or.inr h
theorem ps_slope (b dx dy : Int32) : ∀ (e c : Nat) (src : Nat → Int32), c + e = 48 → ∃ src' : Nat → Int32, (∀ post : SX → Prop, post (sc, dl, df, src', xk, xa, xl, xw, dk, da, xp, xs) → wX_slope_3 post b dx dy sc dl df (e + 1) (nI c) src xk xa xl xw dk da xp xs) ∧ (∀ post : SY → Prop, post (ns, ht, src', yz, yk, ya, yw, yp, ys) → wY_slope_3 post b dx dy ns ht (e + 1) (nI c) src yz yk ya yw yp ys) := by
  intro e
  induction e with
  | zero =>
    intro c src hc
    obtain rfl : c = 48 := by omega
    exact ⟨src, fun post h => br_t (by decide) h, fun post h => br_t (by decide) h⟩
  | succ e ih =>
    intro c src hc
    obtain ⟨src', hX, hY⟩ := ih (c + 1) (upd src c ((b + (dx * (nI c - nI c / 8 * 8))) + (dy * (nI c / 8)))) (by omega)
    have v : vp_in (nI c) 48 := vp_in_nI (by omega) (by omega)
    have n : ¬ (48 : Int32) ≤ nI c := nI_ge (b := 48) (by omega) (by decide)
    refine ⟨src', fun post h => br_f n ⟨by decide, by decide, v, nm_r (by rw [nI_clamp (by omega)]) (nm_r (nI_1 c) (hX post h))⟩, fun post h => br_f n ⟨by decide, by decide, v, nm_r (by rw [nI_clamp (by omega)]) (nm_r (nI_1 c) (hY post h))⟩⟩
theorem xh_fits_t {post : Int32 → Prop} {s kd : Nat} {a : Int32} (hs : s ≤ 5) (hk : kd ≤ 12) (hf : ps_fit s kd a) (h : post 1) : wpX_argumentFits post (nI s, dl, df, src, xk, xa, xl, xw, dk, da, xp, xs) (nI kd) a := by
  obtain ⟨f0, f3, f4⟩ := hf
  rcases ps_k13 hk with rfl | rfl | rfl | rfl | rfl | rfl | rfl | rfl | rfl | rfl | rfl | rfl | rfl
  · exact br_f (by decide) (br_f (by decide) (br_t (by decide) (br_f (Int32.not_lt.mpr (f0 rfl).1) (br_f (Int32.not_lt.mpr (f0 rfl).2) h))))
  · exact br_f (by decide) (br_f (by decide) (br_f (by decide) (br_t (by decide) h)))
  · exact br_f (by decide) (br_f (by decide) (br_f (by decide) (br_f (by decide) (br_t (by decide) h))))
  · obtain ⟨b, hb, rfl⟩ := f3 rfl
    exact br_f (by decide) (br_f (by decide) (br_f (by decide) (br_f (by decide) (br_f (by decide) (br_t (by decide) (br_f (nI_pos (by omega)) (br_f (nI_ge (b := 9) hb (by decide)) h)))))))
  · obtain ⟨b, hb, rfl⟩ := f4 rfl
    have e : 9 * nI s = nI (9 * s) := pk_mul 9 s
    refine br_f (by decide) (br_f (by decide) (br_f (by decide) (br_f (by decide) (br_f (by decide) (br_f (by decide) (br_t (by decide) (br_f (nI_pos (by omega)) (br_f ?_ h))))))))
    rw [e]
    exact nI_ge hb (by omega)
  · exact br_f (by decide) (br_t (by decide) h)
  · exact br_f (by decide) (br_t (by decide) h)
  · exact br_f (by decide) (br_t (by decide) h)
  · exact br_f (by decide) (br_t (by decide) h)
  · exact br_f (by decide) (br_t (by decide) h)
  · exact br_f (by decide) (br_t (by decide) h)
  · exact br_f (by decide) (br_t (by decide) h)
  · exact br_f (by decide) (br_t (by decide) h)
theorem ps_nofit {s kd : Nat} {a : Int32} {P : Prop} (hf : ¬ ps_fit s kd a) (h0 : kd ≠ 0) (h3 : kd ≠ 3) (h4 : kd ≠ 4) : P :=
  absurd ⟨fun z => absurd z h0, fun z => absurd z h3, fun z => absurd z h4⟩ hf
theorem ps_bad0 {s : Nat} {a : Int32} (hf : ¬ ps_fit s 0 a) : a < -99 ∨ 99 < a := by
  by_cases h1 : a < -99
  · exact Or.inl h1
  · by_cases h2 : 99 < a
    · exact Or.inr h2
    · exact absurd ⟨fun _ => ⟨Int32.not_lt.mp h1, Int32.not_lt.mp h2⟩, fun z => absurd z (by decide), fun z => absurd z (by decide)⟩ hf
theorem ps_bad3 {s : Nat} {a : Int32} (hf : ¬ ps_fit s 3 a) : a < 0 ∨ 9 ≤ a := by
  rcases pk_ix a (n := 9) (by decide) with h | h | h
  · exact Or.inl h
  · exact Or.inr h
  · exact absurd ⟨fun z => absurd z (by decide), fun _ => h, fun z => absurd z (by decide)⟩ hf
theorem ps_bad4 {s : Nat} {a : Int32} (hs : s ≤ 5) (hf : ¬ ps_fit s 4 a) : a < 0 ∨ nI (9 * s) ≤ a := by
  rcases pk_ix a (n := 9 * s) (by omega) with h | h | h
  · exact Or.inl h
  · exact Or.inr h
  · exact absurd ⟨fun z => absurd z (by decide), fun z => absurd z (by decide), fun _ => h⟩ hf
theorem ps_or2 {c d A B : Prop} (q : c ∨ d) (h1 : c → A) (h2 : ¬ c → d → B) : (c → A) ∧ (¬ c → B) := ⟨h1, fun n => h2 n (q.resolve_left n)⟩
theorem xh_fits_f {post : Int32 → Prop} {s kd : Nat} {a : Int32} (hs : s ≤ 5) (hk : kd ≤ 12) (hf : ¬ ps_fit s kd a) (h : post 0) : wpX_argumentFits post (nI s, dl, df, src, xk, xa, xl, xw, dk, da, xp, xs) (nI kd) a := by
  rcases ps_k13 hk with rfl | rfl | rfl | rfl | rfl | rfl | rfl | rfl | rfl | rfl | rfl | rfl | rfl
  · have q := ps_bad0 hf
    exact br_f (by decide) (br_f (by decide) (br_t (by decide) (br_c (fun _ => h) (fun n => br_t (q.resolve_left n) h))))
  · exact ps_nofit hf (by decide) (by decide) (by decide)
  · exact ps_nofit hf (by decide) (by decide) (by decide)
  · have q := ps_bad3 hf
    exact br_f (by decide) (br_f (by decide) (br_f (by decide) (br_f (by decide) (br_f (by decide) (br_t (by decide) (br_c (fun _ => h) (fun n => br_t (q.resolve_left n) h)))))))
  · have q := ps_bad4 hs hf
    have e : 9 * nI s = nI (9 * s) := pk_mul 9 s
    rw [← e] at q
    exact br_f (by decide) (br_f (by decide) (br_f (by decide) (br_f (by decide) (br_f (by decide) (br_f (by decide) (br_t (by decide) (br_c (fun _ => h) (fun n => br_t (q.resolve_left n) h))))))))
  · exact ps_nofit hf (by decide) (by decide) (by decide)
  · exact ps_nofit hf (by decide) (by decide) (by decide)
  · exact ps_nofit hf (by decide) (by decide) (by decide)
  · exact ps_nofit hf (by decide) (by decide) (by decide)
  · exact ps_nofit hf (by decide) (by decide) (by decide)
  · exact ps_nofit hf (by decide) (by decide) (by decide)
  · exact ps_nofit hf (by decide) (by decide) (by decide)
  · exact ps_nofit hf (by decide) (by decide) (by decide)
theorem yh_tok_t {post : Int32 → Prop} {s kd : Nat} {a : Int32} (hs : s ≤ 5) (hk : kd ≤ 12) (hf : ps_fit s kd a) (h : post 1) : wpY_isToken post (nI s, ht, src, yz, yk, ya, yw, yp, ys) (nI kd) a := by
  obtain ⟨f0, f3, f4⟩ := hf
  rcases ps_k13 hk with rfl | rfl | rfl | rfl | rfl | rfl | rfl | rfl | rfl | rfl | rfl | rfl | rfl
  · exact br_t (by decide) (br_f (Int32.not_lt.mpr (f0 rfl).1) (br_f (Int32.not_lt.mpr (f0 rfl).2) h))
  · exact br_f (by decide) (br_f (by decide) (br_f (by decide) (br_f (by decide) (br_f (by decide) h))))
  · exact br_f (by decide) (br_f (by decide) (br_f (by decide) (br_f (by decide) (br_f (by decide) h))))
  · obtain ⟨b, hb, rfl⟩ := f3 rfl
    exact br_f (by decide) (br_t (by decide) (br_f (nI_pos (by omega)) (br_f (nI_nlt (a := 8) (b := b) (by omega) (by decide)) h)))
  · obtain ⟨b, hb, rfl⟩ := f4 rfl
    refine br_f (by decide) (br_f (by decide) (br_t (by decide) (br_f (nI_pos (by omega)) ⟨by decide, br_f ?_ h⟩)))
    rw [ps_div9 (by omega)]
    exact nI_ge (by omega) (by omega)
  · exact br_f (by decide) (br_f (by decide) (br_f (by decide) (br_f (by decide) (br_f (by decide) h))))
  · exact br_f (by decide) (br_f (by decide) (br_f (by decide) (br_f (by decide) (br_f (by decide) h))))
  · exact br_f (by decide) (br_f (by decide) (br_f (by decide) (br_f (by decide) (br_f (by decide) h))))
  · exact br_f (by decide) (br_f (by decide) (br_f (by decide) (br_f (by decide) (br_f (by decide) h))))
  · exact br_f (by decide) (br_f (by decide) (br_f (by decide) (br_f (by decide) (br_f (by decide) h))))
  · exact br_f (by decide) (br_f (by decide) (br_f (by decide) (br_f (by decide) (br_f (by decide) h))))
  · exact br_f (by decide) (br_f (by decide) (br_f (by decide) (br_f (by decide) (br_f (by decide) h))))
  · exact br_f (by decide) (br_f (by decide) (br_f (by decide) (br_f (by decide) (br_f (by decide) h))))
theorem yh_tok_f {post : Int32 → Prop} {s kd : Nat} {a : Int32} (hs : s ≤ 5) (hk : kd ≤ 12) (hf : ¬ ps_fit s kd a) (h : post 0) : wpY_isToken post (nI s, ht, src, yz, yk, ya, yw, yp, ys) (nI kd) a := by
  rcases ps_k13 hk with rfl | rfl | rfl | rfl | rfl | rfl | rfl | rfl | rfl | rfl | rfl | rfl | rfl
  · have q := ps_bad0 hf
    exact br_t (by decide) (br_c (fun _ => h) (fun n => br_t (q.resolve_left n) h))
  · exact ps_nofit hf (by decide) (by decide) (by decide)
  · exact ps_nofit hf (by decide) (by decide) (by decide)
  · have q := ps_bad3 hf
    refine br_f (by decide) (br_t (by decide) (br_c (fun _ => h) (fun n => br_t ?_ h)))
    have q9 := q.resolve_left n
    by_cases z : 8 < a
    · exact z
    · exact absurd (Int32.le_trans q9 (Int32.not_lt.mp z)) (by decide)
  · have q := ps_bad4 hs hf
    refine br_f (by decide) (br_f (by decide) (br_t (by decide) (br_c (fun _ => h) (fun n => ⟨by decide, br_t ?_ h⟩))))
    have q9 := q.resolve_left n
    obtain ⟨b, hb, rfl⟩ := nI_of n
    rw [nI_leI (by omega) hb] at q9
    have e : nI b / 9 = nI (b / 9) := pk_div (d := 9) hb (by omega) (by omega)
    rw [e]
    exact nI_le (by omega) (by omega)
  · exact ps_nofit hf (by decide) (by decide) (by decide)
  · exact ps_nofit hf (by decide) (by decide) (by decide)
  · exact ps_nofit hf (by decide) (by decide) (by decide)
  · exact ps_nofit hf (by decide) (by decide) (by decide)
  · exact ps_nofit hf (by decide) (by decide) (by decide)
  · exact ps_nofit hf (by decide) (by decide) (by decide)
  · exact ps_nofit hf (by decide) (by decide) (by decide)
  · exact ps_nofit hf (by decide) (by decide) (by decide)
theorem yh_tok_x {post : Int32 → Prop} {x a : Int32} (q : x < 0 ∨ nI 13 ≤ x) (h : post 0) : wpY_isToken post (ns, ht, src, yz, yk, ya, yw, yp, ys) x a := by
  have n : ∀ m : Nat, m ≤ 12 → ¬ x = nI m := by
    intro m hm e
    subst e
    rcases q with q | q
    · exact nI_pos (by omega) q
    · exact nI_ge (b := 13) (by omega) (by decide) q
  refine br_f (n 0 (by omega)) (br_f (n 3 (by omega)) (br_f (n 4 (by omega)) (br_c (fun _ => h) (fun n1 => br_c (fun _ => h) (fun n2 => ?_)))))
  rcases q with q | q
  · exact absurd (Int32.lt_of_le_of_lt (Int32.not_lt.mp n1) q) (by decide)
  · exact absurd (Int32.le_trans q (Int32.not_lt.mp n2)) (by decide)
end
end PS9
