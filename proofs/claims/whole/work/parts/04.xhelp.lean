section PS4
variable {sc dl df : Int32} {src xk xa xl xw dk da xp xs : Nat → Int32}
theorem ps_k13 {kd : Nat} (h : kd ≤ 12) : kd = 0 ∨ kd = 1 ∨ kd = 2 ∨ kd = 3 ∨ kd = 4 ∨ kd = 5 ∨ kd = 6 ∨ kd = 7 ∨ kd = 8 ∨ kd = 9 ∨ kd = 10 ∨ kd = 11 ∨ kd = 12 := by omega
theorem ps_simple_3 {src : Nat → Int32} {G : Nat → Nat → Nat → Int32} {b cx cy : Nat} (h : b < 1000) : ps_simple src G 3 (nI b) cx cy = src (8 * ps_cl (cy + b % 9 % 3) 5 + ps_cl (cx + b % 9 / 3) 7) := by
  show src (8 * ps_cl (cy + (nI b).toNatClampNeg % 9 % 3) 5 + ps_cl (cx + (nI b).toNatClampNeg % 9 / 3) 7) = _
  rw [nI_clamp (by omega)]
theorem ps_simple_4 {src : Nat → Int32} {G : Nat → Nat → Nat → Int32} {b cx cy : Nat} (h : b < 1000) : ps_simple src G 4 (nI b) cx cy = G (b / 9) (cx + b % 9 / 3 - 1) (cy + b % 9 % 3 - 1) := by
  show G ((nI b).toNatClampNeg / 9) (cx + (nI b).toNatClampNeg % 9 / 3 - 1) (cy + (nI b).toNatClampNeg % 9 % 3 - 1) = _
  rw [nI_clamp (by omega)]
theorem xh_taken {post : Int32 → Prop} (kd : Nat) (hk : kd ≤ 12) (h : post (nI (ps_tk kd))) : wpX_formulasTaken post (sc, dl, df, src, xk, xa, xl, xw, dk, da, xp, xs) (nI kd) := by
  rcases ps_k13 hk with rfl | rfl | rfl | rfl | rfl | rfl | rfl | rfl | rfl | rfl | rfl | rfl | rfl
  · exact br_f (by decide) h
  · exact br_f (by decide) h
  · exact br_f (by decide) h
  · exact br_f (by decide) h
  · exact br_f (by decide) h
  · exact br_t (by decide) (br_f (by decide) (br_f (by decide) h))
  · exact br_t (by decide) (br_f (by decide) (br_f (by decide) h))
  · exact br_t (by decide) (br_f (by decide) (br_f (by decide) h))
  · exact br_t (by decide) (br_f (by decide) (br_f (by decide) h))
  · exact br_t (by decide) (br_f (by decide) (br_f (by decide) h))
  · exact br_t (by decide) (br_t (by decide) h)
  · exact br_t (by decide) (br_f (by decide) (br_f (by decide) h))
  · exact br_t (by decide) (br_f (by decide) (br_t (by decide) h))
theorem ps_idx (k cx cy : Nat) : nI k * 528 + nI cy * 24 + nI cx = nI (528 * k + 24 * cy + cx) := by
  rw [show (528 : Int32) = nI 528 from rfl, show (24 : Int32) = nI 24 from rfl, pk_mul, pk_mul, nI_add, nI_add]
  exact congrArg nI (by omega)
theorem xh_place {post : Int32 → Prop} (k cx cy : Nat) {x y : Int32} (hx : x + 8 = nI cx) (hy : y + 8 = nI cy) (h : post (nI (528 * k + 24 * cy + cx))) : wpX_placeInPictures post (sc, dl, df, src, xk, xa, xl, xw, dk, da, xp, xs) (nI k) x y := by
  intro r er c ec
  rw [er, ec, hx, hy, ps_idx]
  exact h
theorem xh_cell {post : Int32 → Prop} (k c : Nat) (hk : k < 5) (hc : c < 48) (h : post (xp (528 * k + 24 * (c / 8 + 8) + (c % 8 + 8)))) : wpX_stageCell post (sc, dl, df, src, xk, xa, xl, xw, dk, da, xp, xs) (nI k) (nI c) := by
  refine ⟨by decide, by decide, xh_place k (c % 8 + 8) (c / 8 + 8) ?_ ?_ ⟨vp_in_nI (by omega) (by omega), ?_⟩⟩
  · rw [ps_rem8 (by omega)]; exact nI_add _ 8
  · rw [ps_div8 (by omega)]; exact nI_add _ 8
  · rw [nI_clamp (by omega)]; exact h
theorem xh_near {post : Int32 → Prop} (t m : Nat) (ht : t < 1000) (hm : m < 1000) (h : post (nI (ps_cl t m))) : wpX_nearest post (sc, dl, df, src, xk, xa, xl, xw, dk, da, xp, xs) (nI t - 9) (nI m) := by
  by_cases h9 : 9 ≤ t
  · refine br_t ((ps_n9' ht).mpr h9) ?_
    by_cases h2 : t ≤ m + 9
    · refine br_t ((ps_n9m ht hm).mpr h2) ?_
      rw [ps_n99 h9]
      have e : ps_cl t m = t - 9 := by
        unfold ps_cl; rw [if_neg (by omega), if_neg (by omega)]
      rw [e] at h; exact h
    · refine br_f (fun z => h2 ((ps_n9m ht hm).mp z)) ?_
      have e : ps_cl t m = m := by
        unfold ps_cl; rw [if_neg (by omega), if_pos (by omega)]
      rw [e] at h; exact h
  · refine br_f (fun z => h9 ((ps_n9' ht).mp z)) ?_
    have e : ps_cl t m = 0 := by
      unfold ps_cl; rw [if_pos (by omega)]
    rw [e] at h; exact h
theorem ps_m8 (a b : Nat) : nI a * 8 + nI b = nI (8 * a + b) := by
  rw [show (8 : Int32) = nI 8 from rfl, pk_mul, nI_add]
  exact congrArg nI (by omega)
theorem ps_8m (a b : Nat) : 8 * nI a + nI b = nI (8 * a + b) := by
  rw [show (8 : Int32) = nI 8 from rfl, pk_mul, nI_add]
theorem xh_beyond {post : Int32 → Prop} (tx ty : Nat) (hx : tx < 1000) (hy : ty < 1000) (h : post (src (8 * ps_cl ty 5 + ps_cl tx 7))) : wpX_sourceBeyondEdges post (sc, dl, df, src, xk, xa, xl, xw, dk, da, xp, xs) (nI tx - 9) (nI ty - 9) := by
  unfold wpX_sourceBeyondEdges
  dsimp only
  refine xh_near tx 7 hx (by omega) ?_
  refine xh_near ty 5 hy (by omega) ?_
  have a := ps_cl_lt ty 5
  have b := ps_cl_lt tx 7
  rw [ps_m8, nI_clamp (by omega)]
  exact ⟨vp_in_nI (by omega) (by omega), h⟩
theorem xh_plain {post : Int32 → Prop} {G : Nat → Nat → Nat → Int32} (kd : Nat) (a : Int32) (k cx cy : Nat) (hd : kd ≤ 4) (hk : k < 5) (hr : ps_rg k cx cy) (h3 : kd = 3 → ∃ b : Nat, b < 9 ∧ a = nI b) (h4 : kd = 4 → ∃ b : Nat, b < 9 * k ∧ a = nI b) (hp : ps_Pic xp G k) (h : post (ps_simple src G kd a cx cy)) : wpX_plainNumber post (sc, dl, df, src, xk, xa, xl, xw, dk, da, xp, xs) (nI kd) a (nI cx - 8) (nI cy - 8) := by
  obtain ⟨r1, r2, r3, r4⟩ := hr
  have c : kd = 0 ∨ kd = 1 ∨ kd = 2 ∨ kd = 3 ∨ kd = 4 := by omega
  rcases c with rfl | rfl | rfl | rfl | rfl
  · exact ⟨by decide, fun nb enb => ⟨by decide, fun nx enx => ⟨by decide, fun ny eny => br_f (by decide) (br_f (by decide) (br_t (by decide) h))⟩⟩⟩
  · exact ⟨by decide, fun nb enb => ⟨by decide, fun nx enx => ⟨by decide, fun ny eny => br_f (by decide) (br_f (by decide) (br_f (by decide) (br_t (by decide) h)))⟩⟩⟩
  · exact ⟨by decide, fun nb enb => ⟨by decide, fun nx enx => ⟨by decide, fun ny eny => br_f (by decide) (br_f (by decide) (br_f (by decide) (br_f (by decide) (br_t (by decide) h))))⟩⟩⟩
  · obtain ⟨b, hb, rfl⟩ := h3 rfl
    rw [ps_simple_3 (by omega)] at h
    refine ⟨by decide, nm_r (ps_rem9 (by omega)) ⟨by decide, nm_r (e' := nI (cx + b % 9 / 3) - 9) (by rw [ps_div3 (by omega), ps_9]) ⟨by decide, nm_r (e' := nI (cy + b % 9 % 3) - 9) (by rw [ps_rem3 (by omega), ps_9]) ?_⟩⟩⟩
    refine br_f (by decide) (br_f (by decide) (br_f (by decide) (br_f (by decide) (br_f (by decide) (br_t (by decide) ?_)))))
    exact xh_beyond _ _ (by omega) (by omega) h
  · obtain ⟨b, hb, rfl⟩ := h4 rfl
    rw [ps_simple_4 (by omega)] at h
    refine ⟨by decide, nm_r (ps_rem9 (by omega)) ⟨by decide, nm_r (e' := nI (cx + b % 9 / 3) - 9) (by rw [ps_div3 (by omega), ps_9]) ⟨by decide, nm_r (e' := nI (cy + b % 9 % 3) - 9) (by rw [ps_rem3 (by omega), ps_9]) ?_⟩⟩⟩
    refine br_f (by decide) (br_t (by decide) ⟨by decide, ?_⟩)
    rw [ps_div9 (by omega)]
    refine xh_place (b / 9) (cx + b % 9 / 3 - 1) (cy + b % 9 % 3 - 1) (ps_98 (by omega)) (ps_98 (by omega)) ⟨vp_in_nI (by omega) (by omega), ?_⟩
    rw [nI_clamp (by omega), hp (b / 9) (by omega) _ _ ⟨by omega, by omega, by omega, by omega⟩]
    exact h
theorem xh_joined {post : Int32 → Prop} (kd b : Nat) (h5 : 5 ≤ kd) (hd : kd ≤ 12) (hb : b + ps_tk kd ≤ 6) (h : post (ps_comb kd (xs b) (xs (b + 1)) (xs (b + 2)))) : wpX_joinedNumber post (sc, dl, df, src, xk, xa, xl, xw, dk, da, xp, xs) (nI kd) (nI b) := by
  have b1 := ps_tk_pos h5
  have v0 : vp_in (nI b) 6 := vp_in_nI (by omega) (by omega)
  have e0 : xs (nI b).toNatClampNeg = xs b := by rw [nI_clamp (by omega)]
  have e1 : xs (nI b + 1).toNatClampNeg = xs (b + 1) := by rw [nI_1, nI_clamp (by omega)]
  have e2 : xs (nI b + 2).toNatClampNeg = xs (b + 2) := by rw [show nI b + 2 = nI (b + 2) from nI_add b 2, nI_clamp (by omega)]
  have c : kd = 5 ∨ kd = 6 ∨ kd = 7 ∨ kd = 8 ∨ kd = 9 ∨ kd = 10 ∨ kd = 11 ∨ kd = 12 := by omega
  rcases c with rfl | rfl | rfl | rfl | rfl | rfl | rfl | rfl
  · have hb : b + 2 ≤ 6 := hb
    have v1 : vp_in (nI b + 1) 6 := by rw [nI_1]; exact vp_in_nI (by omega) (by omega)
    exact ⟨v0, nm_r e0 (br_f (by decide) ⟨v1, nm_r e1 (br_f (by decide) (br_f (by decide) (br_t (by decide) h)))⟩)⟩
  · have hb : b + 2 ≤ 6 := hb
    have v1 : vp_in (nI b + 1) 6 := by rw [nI_1]; exact vp_in_nI (by omega) (by omega)
    exact ⟨v0, nm_r e0 (br_f (by decide) ⟨v1, nm_r e1 (br_f (by decide) (br_f (by decide) (br_f (by decide) (br_t (by decide) h))))⟩)⟩
  · have hb : b + 2 ≤ 6 := hb
    have v1 : vp_in (nI b + 1) 6 := by rw [nI_1]; exact vp_in_nI (by omega) (by omega)
    exact ⟨v0, nm_r e0 (br_f (by decide) ⟨v1, nm_r e1 (br_f (by decide) (br_f (by decide) (br_f (by decide) (br_f (by decide) (br_t (by decide) h)))))⟩)⟩
  · have hb : b + 2 ≤ 6 := hb
    have v1 : vp_in (nI b + 1) 6 := by rw [nI_1]; exact vp_in_nI (by omega) (by omega)
    have h : post (if xs b < xs (b + 1) then xs b else xs (b + 1)) := h
    refine ⟨v0, nm_r e0 (br_f (by decide) ⟨v1, nm_r e1 (br_f (by decide) (br_f (by decide) (br_f (by decide) (br_f (by decide) (br_f (by decide) (br_t (by decide) ?_))))))⟩)⟩
    by_cases q : xs b < xs (b + 1)
    · rw [if_pos q] at h
      exact br_f (Int32.not_le.mpr q) h
    · rw [if_neg q] at h
      exact br_t (Int32.not_lt.mp q) h
  · have hb : b + 2 ≤ 6 := hb
    have v1 : vp_in (nI b + 1) 6 := by rw [nI_1]; exact vp_in_nI (by omega) (by omega)
    have h : post (if xs (b + 1) < xs b then xs b else xs (b + 1)) := h
    refine ⟨v0, nm_r e0 (br_f (by decide) ⟨v1, nm_r e1 (br_f (by decide) (br_f (by decide) (br_f (by decide) (br_f (by decide) (br_f (by decide) (br_f (by decide) (br_t (by decide) ?_)))))))⟩)⟩
    by_cases q : xs (b + 1) < xs b
    · rw [if_pos q] at h
      exact br_f (Int32.not_le.mpr q) h
    · rw [if_neg q] at h
      exact br_t (Int32.not_lt.mp q) h
  · exact ⟨v0, nm_r e0 (br_t (by decide) h)⟩
  · have hb : b + 2 ≤ 6 := hb
    have v1 : vp_in (nI b + 1) 6 := by rw [nI_1]; exact vp_in_nI (by omega) (by omega)
    have h : post (if xs b < xs (b + 1) then 1 else 0) := h
    refine ⟨v0, nm_r e0 (br_f (by decide) ⟨v1, nm_r e1 (br_f (by decide) (br_f (by decide) (br_f (by decide) (br_f (by decide) (br_f (by decide) (br_f (by decide) (br_f (by decide) (br_f (by decide) (br_t (by decide) ?_)))))))))⟩)⟩
    by_cases q : xs b < xs (b + 1)
    · rw [if_pos q] at h
      exact br_f (Int32.not_le.mpr q) h
    · rw [if_neg q] at h
      exact br_t (Int32.not_lt.mp q) h
  · have hb : b + 3 ≤ 6 := hb
    have v1 : vp_in (nI b + 1) 6 := by rw [nI_1]; exact vp_in_nI (by omega) (by omega)
    have v2 : vp_in (nI b + 2) 6 := by rw [show nI b + 2 = nI (b + 2) from nI_add b 2]; exact vp_in_nI (by omega) (by omega)
    have h : post (if 0 < xs b then xs (b + 1) else xs (b + 2)) := h
    refine ⟨v0, nm_r e0 (br_f (by decide) ⟨v1, nm_r e1 (br_f (by decide) (br_t (by decide) ?_))⟩)⟩
    by_cases q : 0 < xs b
    · rw [if_pos q] at h
      exact br_f (Int32.not_le.mpr q) h
    · rw [if_neg q] at h
      exact br_t (Int32.not_lt.mp q) ⟨v2, by rw [e2]; exact h⟩
end PS4
