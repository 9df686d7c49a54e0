section PS6
variable {ns ht : Int32} {src yz yk ya yw yp ys : Nat → Int32}
theorem yh_taken {post : Int32 → Prop} (kd : Nat) (hk : kd ≤ 12) (h : post (nI (ps_tk kd))) : wpY_taken post (ns, ht, src, yz, yk, ya, yw, yp, ys) (nI kd) := by
  rcases ps_k13 hk with rfl | rfl | rfl | rfl | rfl | rfl | rfl | rfl | rfl | rfl | rfl | rfl | rfl
  · exact br_f (by decide) h
  · exact br_f (by decide) h
  · exact br_f (by decide) h
  · exact br_f (by decide) h
  · exact br_f (by decide) h
  · exact br_t (by decide) (br_f (by decide) (br_f (by decide) h))
  · exact br_t (by decide) (br_f (by decide) (br_f (by decide) h))
  · exact br_t (by decide) (br_f (by decide) (br_f (by decide) h))
  · exact br_t (by decide) (br_f (by decide) (br_f (by decide) h))
  · exact br_t (by decide) (br_f (by decide) (br_f (by decide) h))
  · exact br_t (by decide) (br_t (by decide) h)
  · exact br_t (by decide) (br_f (by decide) (br_f (by decide) h))
  · exact br_t (by decide) (br_f (by decide) (br_t (by decide) h))
theorem ps_idy (k cx cy : Nat) {x y : Int32} (hx : x + 8 = nI cx) (hy : y + 8 = nI cy) : 528 * nI k + 24 * (y + 8) + x + 8 = nI (528 * k + 24 * cy + cx) := by
  rw [hy, Int32.add_assoc, hx, show (528 : Int32) = nI 528 from rfl, show (24 : Int32) = nI 24 from rfl, pk_mul, pk_mul, nI_add, nI_add]
theorem yh_at {post : Int32 → Prop} (k cx cy : Nat) {x y : Int32} (hx : x + 8 = nI cx) (hy : y + 8 = nI cy) (hk : k < 5) (h1 : cx < 24) (h2 : cy < 22) (h : post (yp (528 * k + 24 * cy + cx))) : wpY_at post (ns, ht, src, yz, yk, ya, yw, yp, ys) (nI k) x y := by
  unfold wpY_at
  dsimp only
  rw [ps_idy k cx cy hx hy, nI_clamp (by omega)]
  exact ⟨vp_in_nI (by omega) (by omega), h⟩
theorem yn_39 {post : Int32 → Prop} (r c : Nat) (hr : r ≤ 5) (hc : c ≤ 7) (h : post (src (8 * r + c))) : wY_sourceNear_39 post (nI c) (nI r) ns ht src yz yk ya yw yp ys := by
  unfold wY_sourceNear_39
  rw [ps_8m, nI_clamp (by omega)]
  exact ⟨vp_in_nI (by omega) (by omega), h⟩
theorem yn_20 {post : Int32 → Prop} (t c : Nat) (hT : t < 1000) (hc : c ≤ 7) (h : post (src (8 * ps_cl t 5 + c))) : wY_sourceNear_20 post (nI t - 9) (nI c) ns ht src yz yk ya yw yp ys := by
  by_cases h9 : 9 ≤ t
  · refine br_t ((ps_n9' hT).mpr h9) ?_
    by_cases h2 : t ≤ 5 + 9
    · refine br_t ((ps_n9m (m := 5) hT (by omega)).mpr h2) ?_
      rw [ps_n99 h9]
      have e : ps_cl t 5 = t - 9 := by
        unfold ps_cl; rw [if_neg (by omega), if_neg (by omega)]
      rw [e] at h
      exact yn_39 _ _ (by omega) hc h
    · refine br_f (fun z => h2 ((ps_n9m (m := 5) hT (by omega)).mp z)) ?_
      have e : ps_cl t 5 = 5 := by
        unfold ps_cl; rw [if_neg (by omega), if_pos (by omega)]
      rw [e] at h
      exact yn_39 5 _ (by omega) hc h
  · refine br_f (fun z => h9 ((ps_n9' hT).mp z)) ?_
    have e : ps_cl t 5 = 0 := by
      unfold ps_cl; rw [if_pos (by omega)]
    rw [e] at h
    exact yn_39 0 _ (by omega) hc h
theorem yh_near {post : Int32 → Prop} (t t2 : Nat) (hT : t < 1000) (ht2 : t2 < 1000) (h : post (src (8 * ps_cl t2 5 + ps_cl t 7))) : wpY_sourceNear post (ns, ht, src, yz, yk, ya, yw, yp, ys) (nI t - 9) (nI t2 - 9) := by
  by_cases h9 : 9 ≤ t
  · refine br_t ((ps_n9' hT).mpr h9) ?_
    by_cases h2 : t ≤ 7 + 9
    · refine br_t ((ps_n9m (m := 7) hT (by omega)).mpr h2) ?_
      rw [ps_n99 h9]
      have e : ps_cl t 7 = t - 9 := by
        unfold ps_cl; rw [if_neg (by omega), if_neg (by omega)]
      rw [e] at h
      exact yn_20 _ _ ht2 (by omega) h
    · refine br_f (fun z => h2 ((ps_n9m (m := 7) hT (by omega)).mp z)) ?_
      have e : ps_cl t 7 = 7 := by
        unfold ps_cl; rw [if_neg (by omega), if_pos (by omega)]
      rw [e] at h
      exact yn_20 _ 7 ht2 (by omega) h
  · refine br_f (fun z => h9 ((ps_n9' hT).mp z)) ?_
    have e : ps_cl t 7 = 0 := by
      unfold ps_cl; rw [if_pos (by omega)]
    rw [e] at h
    exact yn_20 _ 0 ht2 (by omega) h
theorem yh_simple {post : Int32 → Prop} {G : Nat → Nat → Nat → Int32} (kd : Nat) (a : Int32) (k cx cy : Nat) (hd : kd ≤ 4) (hk : k < 5) (hr : ps_rg k cx cy) (h3 : kd = 3 → ∃ b : Nat, b < 9 ∧ a = nI b) (h4 : kd = 4 → ∃ b : Nat, b < 9 * k ∧ a = nI b) (hp : ps_Pic yp G k) (h : post (ps_simple src G kd a cx cy)) : wpY_simple post (ns, ht, src, yz, yk, ya, yw, yp, ys) (nI kd) a (nI cx - 8) (nI cy - 8) := by
  obtain ⟨r1, r2, r3, r4⟩ := hr
  have c : kd = 0 ∨ kd = 1 ∨ kd = 2 ∨ kd = 3 ∨ kd = 4 := by omega
  rcases c with rfl | rfl | rfl | rfl | rfl
  · exact br_t (by decide) h
  · exact br_f (by decide) (br_t (by decide) h)
  · exact br_f (by decide) (br_f (by decide) (br_t (by decide) h))
  · obtain ⟨b, hb, rfl⟩ := h3 rfl
    rw [ps_simple_3 (by omega)] at h
    refine br_f (by decide) (br_f (by decide) (br_f (by decide) ?_))
    refine ⟨by decide, nm_r (ps_rem9 (by omega)) ⟨by decide, nm_r (e' := nI (cx + b % 9 / 3) - 9) (by rw [ps_div3 (by omega), ps_9]) ⟨by decide, nm_r (e' := nI (cy + b % 9 % 3) - 9) (by rw [ps_rem3 (by omega), ps_9]) ?_⟩⟩⟩
    refine br_t (by decide) ?_
    exact yh_near _ _ (by omega) (by omega) h
  · obtain ⟨b, hb, rfl⟩ := h4 rfl
    rw [ps_simple_4 (by omega)] at h
    refine br_f (by decide) (br_f (by decide) (br_f (by decide) ?_))
    refine ⟨by decide, nm_r (ps_rem9 (by omega)) ⟨by decide, nm_r (e' := nI (cx + b % 9 / 3) - 9) (by rw [ps_div3 (by omega), ps_9]) ⟨by decide, nm_r (e' := nI (cy + b % 9 % 3) - 9) (by rw [ps_rem3 (by omega), ps_9]) ?_⟩⟩⟩
    refine br_f (by decide) ⟨by decide, ?_⟩
    rw [ps_div9 (by omega)]
    refine yh_at (b / 9) (cx + b % 9 / 3 - 1) (cy + b % 9 % 3 - 1) (ps_98 (by omega)) (ps_98 (by omega)) (by omega) (by omega) (by omega) ?_
    rw [hp (b / 9) (by omega) _ _ ⟨by omega, by omega, by omega, by omega⟩]
    exact h
theorem yh_comb {post : Int32 → Prop} (kd : Nat) (f g q : Int32) (h5 : 5 ≤ kd) (hd : kd ≤ 11) (hn : kd ≠ 10) (h : post (ps_comb kd f g q)) : wpY_combined post (ns, ht, src, yz, yk, ya, yw, yp, ys) (nI kd) f g := by
  have c : kd = 5 ∨ kd = 6 ∨ kd = 7 ∨ kd = 8 ∨ kd = 9 ∨ kd = 11 := by omega
  rcases c with rfl | rfl | rfl | rfl | rfl | rfl
  · exact br_f (by decide) (br_f (by decide) (br_t (by decide) h))
  · exact br_f (by decide) (br_f (by decide) (br_f (by decide) (br_t (by decide) h)))
  · exact br_f (by decide) (br_f (by decide) (br_f (by decide) (br_f (by decide) (br_t (by decide) h))))
  · refine br_f (by decide) (br_f (by decide) (br_f (by decide) (br_f (by decide) (br_f (by decide) (br_t (by decide) ?_)))))
    have h : post (if f < g then f else g) := h
    by_cases q : f < g
    · rw [if_pos q] at h
      exact br_f (Int32.not_le.mpr q) h
    · rw [if_neg q] at h
      exact br_t (Int32.not_lt.mp q) h
  · refine br_f (by decide) (br_f (by decide) (br_f (by decide) (br_f (by decide) (br_f (by decide) (br_f (by decide) (br_t (by decide) ?_))))))
    have h : post (if g < f then f else g) := h
    by_cases q : g < f
    · rw [if_pos q] at h
      exact br_f (Int32.not_le.mpr q) h
    · rw [if_neg q] at h
      exact br_t (Int32.not_lt.mp q) h
  · refine br_f (by decide) (br_t (by decide) ?_)
    have h : post (if f < g then 1 else 0) := h
    by_cases q : f < g
    · rw [if_pos q] at h
      exact br_f (Int32.not_le.mpr q) h
    · rw [if_neg q] at h
      exact br_t (Int32.not_lt.mp q) h
end PS6
