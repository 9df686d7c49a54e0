section PS10
theorem i_vc_put {k : Nat} {u : SX} {v : SY} (I : i_Rel k u v) (hk : k + 4 ≤ 2048) (v1 : Int32) (v2 : Int32) (v3 : Int32) : wpX_put (fun r u' => wpY_put (fun r' v' => r' = r ∧ i_Rel (k + 4) u' v') v v1 v2 v3) u v1 v2 v3 := by
  obtain ⟨s, d, K, A, L, DK, DA, src, xk, xa, xl, xw, dk, da, xp, xs, yz, yk, ya, yw, yp, ys, rfl, rfl, h⟩ := I
  unfold wpX_put wpY_put
  dsimp only
  rcases ps_cell v1 v2 with ⟨a, b, ha, hb, rfl, rfl⟩ | q
  · refine xh_isCell_t a b ha hb (br_f (by decide) ⟨by rw [ps_m8]; exact vp_in_nI (by omega) (by omega), nm_r (e' := upd src (8 * b + a) v3) (by rw [ps_m8, nI_clamp (by omega)]) ?_⟩)
    refine yh_isCell_t a b ha hb (br_f (by decide) ⟨by rw [ps_8m]; exact vp_in_nI (by omega) (by omega), nm_r (e' := upd src (8 * b + a) v3) (by rw [ps_8m, nI_clamp (by omega)]) ?_⟩)
    exact ⟨rfl, ps_rel h⟩
  · refine xh_isCell_f q (br_t rfl ?_)
    refine yh_isCell_f q (br_t rfl ?_)
    exact ⟨rfl, ps_rel h⟩
theorem i_vc_slope {k : Nat} {u : SX} {v : SY} (I : i_Rel k u v) (hk : k + 4 ≤ 2048) (v1 : Int32) (v2 : Int32) (v3 : Int32) : wpX_slope (fun u' => wpY_slope (fun v' => i_Rel (k + 4) u' v') v v1 v2 v3) u v1 v2 v3 := by
  obtain ⟨s, d, K, A, L, DK, DA, src, xk, xa, xl, xw, dk, da, xp, xs, yz, yk, ya, yw, yp, ys, rfl, rfl, h⟩ := I
  obtain ⟨src', hX, hY⟩ := ps_slope (sc := nI s) (dl := nI d) (df := nI (ps_H DK d)) (xk := xk) (xa := xa) (xl := xl) (xw := xw) (dk := dk) (da := da) (xp := xp) (xs := xs) (ns := nI s) (ht := nI (ps_H DK d)) (yz := yz) (yk := yk) (ya := ya) (yw := yw) (yp := yp) (ys := ys) v1 v2 v3 48 0 src rfl
  refine ⟨49, hX _ ?_⟩
  refine ⟨49, hY _ ?_⟩
  exact ps_rel h
theorem i_vc_clearDraft {k : Nat} {u : SX} {v : SY} (I : i_Rel k u v) (hk : k + 4 ≤ 2048) : wpX_clearDraft (fun r u' => wpY_clearDraft (fun r' v' => r' = r ∧ i_Rel (k + 4) u' v') v) u := by
  obtain ⟨s, d, K, A, L, DK, DA, src, xk, xa, xl, xw, dk, da, xp, xs, yz, yk, ya, yw, yp, ys, rfl, rfl, h⟩ := I
  unfold wpX_clearDraft wpX_emptyDraft wpY_clearDraft
  dsimp only
  exact nm_e ⟨rfl, ps_rel (d := 0) (ps_Inv_clear h)⟩
theorem i_vc_way {k : Nat} {u : SX} {v : SY} (I : i_Rel k u v) (hk : k + 4 ≤ 2048) (v1 : Int32) (v2 : Int32) : wpX_way (fun r u' => wpY_way (fun r' v' => r' = r ∧ i_Rel (k + 4) u' v') v v1 v2) u v1 v2 := by
  obtain ⟨s, d, K, A, L, DK, DA, src, xk, xa, xl, xw, dk, da, xp, xs, yz, yk, ya, yw, yp, ys, rfl, rfl, h⟩ := I
  have hs := h.1
  unfold wpX_way wpY_way
  dsimp only
  rcases ps_stg v1 s hs with q | ⟨j, hj, rfl⟩
  · refine xh_isStage_f q (br_t rfl ?_)
    refine yh_isStage_f q (br_t rfl ?_)
    exact ⟨rfl, ps_rel h⟩
  · refine xh_isStage_t hj hs (br_f (by decide) ?_)
    have vj : vp_in (nI j) 5 := vp_in_nI (by omega) (by omega)
    rcases pk_ix v2 (n := 4) (by decide) with q | q | ⟨w, hw, rfl⟩
    · refine br_t q ?_
      refine yh_isStage_t hj hs (br_f (by decide) (br_t q ?_))
      exact ⟨rfl, ps_rel h⟩
    · have n0 : ¬ v2 < 0 := fun z => absurd (Int32.lt_of_le_of_lt q z) (by decide)
      have n4 : ¬ v2 < 4 := Int32.not_lt.mpr q
      have n3 : ¬ v2 ≤ 3 := fun z => absurd (Int32.le_trans q z) (by decide)
      refine br_f n0 (br_f n4 ?_)
      refine yh_isStage_t hj hs (br_f (by decide) (br_f n0 (br_f n3 ?_)))
      exact ⟨rfl, ps_rel h⟩
    · refine br_f (nI_pos (by omega)) (br_t (nI_lt (b := 4) hw (by decide)) ⟨vj, nm_r (e' := xw j) (by rw [nI_clamp (by omega)]) ⟨vj, nm_r (e' := upd xw j (nI w)) (by rw [nI_clamp (by omega)]) ?_⟩⟩)
      refine yh_isStage_t hj hs (br_f (by decide) (br_f (nI_pos (by omega)) (br_t (nI_le (b := 3) (by omega) (by decide)) ⟨vj, nm_r (e' := yw j) (by rw [nI_clamp (by omega)]) ⟨vj, nm_r (e' := upd yw j (nI w)) (by rw [nI_clamp (by omega)]) ?_⟩⟩)))
      exact ⟨(h.2.2.2.2.2.2.2.2.2 j hj).symm, ps_rel (ps_Inv_way h j (nI w))⟩
theorem i_vc_stages {k : Nat} {u : SX} {v : SY} (I : i_Rel k u v) (hk : k + 4 ≤ 2048) : wpX_stages (fun r => wpY_stages (fun r' => r' = r ∧ i_Rel (k + 4) u v) v) u := by
  obtain ⟨s, d, K, A, L, DK, DA, src, xk, xa, xl, xw, dk, da, xp, xs, yz, yk, ya, yw, yp, ys, rfl, rfl, h⟩ := I
  exact ⟨rfl, ps_rel h⟩
theorem i_vc_source {k : Nat} {u : SX} {v : SY} (I : i_Rel k u v) (hk : k + 4 ≤ 2048) (v1 : Int32) (v2 : Int32) : wpX_source (fun r => wpY_source (fun r' => r' = r ∧ i_Rel (k + 4) u v) v v1 v2) u v1 v2 := by
  obtain ⟨s, d, K, A, L, DK, DA, src, xk, xa, xl, xw, dk, da, xp, xs, yz, yk, ya, yw, yp, ys, rfl, rfl, h⟩ := I
  unfold wpX_source wpY_source
  dsimp only
  rcases ps_cell v1 v2 with ⟨a, b, ha, hb, rfl, rfl⟩ | q
  · refine xh_isCell_t a b ha hb (br_f (by decide) ⟨by rw [ps_m8]; exact vp_in_nI (by omega) (by omega), ?_⟩)
    refine yh_isCell_t a b ha hb (br_f (by decide) ⟨by rw [ps_8m]; exact vp_in_nI (by omega) (by omega), ?_⟩)
    exact ⟨by rw [ps_m8, ps_8m], ps_rel h⟩
  · refine xh_isCell_f q (br_t rfl ?_)
    refine yh_isCell_f q (br_t rfl ?_)
    exact ⟨rfl, ps_rel h⟩
theorem i_vc_token {k : Nat} {u : SX} {v : SY} (I : i_Rel k u v) (hk : k + 4 ≤ 2048) (v1 : Int32) (v2 : Int32) : wpX_token (fun r u' => wpY_token (fun r' v' => r' = r ∧ i_Rel (k + 4) u' v') v v1 v2) u v1 v2 := by
  obtain ⟨s, d, K, A, L, DK, DA, src, xk, xa, xl, xw, dk, da, xp, xs, yz, yk, ya, yw, yp, ys, rfl, rfl, h⟩ := I
  have hs := h.1
  have hd := h.2.1
  have h5 : yz 5 = nI d := h.2.2.2.2.2.2.2.1
  have hH : ps_H DK d ≤ 6 := ps_H_le h.2.2.2.2.2.2.2.2.1 d (Nat.le_refl _)
  unfold wpX_token wpY_token
  dsimp only
  rcases pk_ix v1 (n := 13) (by decide) with q | q | ⟨kd, hk', rfl⟩
  · refine br_t q ?_
    refine yh_tok_x (Or.inl q) (br_t rfl ?_)
    exact ⟨rfl, ps_rel h⟩
  · have n0 : ¬ v1 < 0 := fun z => absurd (Int32.lt_of_le_of_lt q z) (by decide)
    have n12 : 12 < v1 := Int32.lt_of_lt_of_le (by decide) q
    refine br_f n0 (br_t n12 ?_)
    refine yh_tok_x (Or.inr q) (br_t rfl ?_)
    exact ⟨rfl, ps_rel h⟩
  · have hk2 : kd ≤ 12 := by omega
    refine br_f (nI_pos (by omega)) (br_f (nI_nlt (a := 12) (b := kd) hk2 (by decide)) ?_)
    by_cases hf : ps_fit s kd v2
    · refine xh_fits_t hs hk2 hf (br_f (by decide) ?_)
      by_cases c14 : d = 14
      · refine br_f (by rw [c14]; decide) ?_
        refine yh_tok_t hs hk2 hf (br_f (by decide) (br_t (by rw [h5, c14]; rfl) ?_))
        exact ⟨rfl, ps_rel h⟩
      · have y14 : ¬ yz 5 = 14 := by
          rw [h5]
          exact fun z => c14 ((nI_eq (b := 14) (by omega) (by decide)).mp z)
        have t3 := ps_tk_le kd
        refine br_t (nI_lt (b := 14) (by omega) (by decide)) (xh_taken kd hk2 ?_)
        by_cases ct : ps_tk kd ≤ ps_H DK d
        · refine br_t (nI_le ct (by omega)) ?_
          have fin : ps_H DK d - ps_tk kd + 1 ≤ 6 → wX_token_66 (fun r u' => wpY_isToken (fun r_1 => (r_1 = 0 → (-1 : Int32) = r ∧ i_Rel (k + 4) u' (nI s, nI (ps_H DK d), src, yz, yk, ya, yw, yp, ys)) ∧ (¬ r_1 = 0 → (yz 5 = 14 → (-2 : Int32) = r ∧ i_Rel (k + 4) u' (nI s, nI (ps_H DK d), src, yz, yk, ya, yw, yp, ys)) ∧ (¬ yz 5 = 14 → wpY_taken (fun r_13 => (r_13 ≤ nI (ps_H DK d) → (r_13 = 0 → (nI (ps_H DK d) = 6 → (-4 : Int32) = r ∧ i_Rel (k + 4) u' (nI s, nI (ps_H DK d), src, yz, yk, ya, yw, yp, ys)) ∧ (¬ nI (ps_H DK d) = 6 → wY_token_58 (fun r' v' => r' = r ∧ i_Rel (k + 4) u' v') (nI kd) v2 r_13 (nI s) (nI (ps_H DK d)) src yz yk ya yw yp ys)) ∧ (¬ r_13 = 0 → wY_token_58 (fun r' v' => r' = r ∧ i_Rel (k + 4) u' v') (nI kd) v2 r_13 (nI s) (nI (ps_H DK d)) src yz yk ya yw yp ys)) ∧ (¬ r_13 ≤ nI (ps_H DK d) → (-3 : Int32) = r ∧ i_Rel (k + 4) u' (nI s, nI (ps_H DK d), src, yz, yk, ya, yw, yp, ys))) (nI s, nI (ps_H DK d), src, yz, yk, ya, yw, yp, ys) (nI kd)))) (nI s, nI (ps_H DK d), src, yz, yk, ya, yw, yp, ys) (nI kd) v2) (nI kd) v2 (nI (ps_tk kd)) (nI s) (nI d) (nI (ps_H DK d)) src xk xa xl xw dk da xp xs := by
            intro h6
            have vd : vp_in (nI d) 14 := vp_in_nI (by omega) (by omega)
            have e70 : 70 + yz 5 = nI (70 + d) := by rw [h5]; exact nI_add 70 d
            have v70 : vp_in (70 + yz 5) 84 := by rw [e70]; exact vp_in_nI (by omega) (by omega)
            have c70 : (70 + yz 5).toNatClampNeg = 70 + d := by rw [e70, nI_clamp (by omega)]
            have eH : ps_H (fun i => if i = d then kd else DK i) (d + 1) = ps_H DK d - ps_tk kd + 1 := by
              show ps_H _ d - ps_tk (if d = d then kd else DK d) + 1 = _
              rw [if_pos rfl, ps_H_cg (K := DK) (fun i hi => if_neg (by omega))]
            have eh : nI (ps_H DK d) - nI (ps_tk kd) + 1 = nI (ps_H (fun i => if i = d then kd else DK i) (d + 1)) := by
              rw [eH, pk_sub ct, nI_1]
            have fin : wY_token_58 (fun r' v' => r' = nI (ps_H (fun i => if i = d then kd else DK i) (d + 1)) ∧ i_Rel (k + 4) (nI s, nI (d + 1), nI (ps_H (fun i => if i = d then kd else DK i) (d + 1)), src, xk, xa, xl, xw, upd dk d (nI kd), upd da d v2, xp, xs) v') (nI kd) v2 (nI (ps_tk kd)) (nI s) (nI (ps_H DK d)) src yz yk ya yw yp ys :=
              ⟨v70, nm_r (e' := upd yk (70 + d) (nI kd)) (by rw [c70]) ⟨v70, nm_r (e' := upd ya (70 + d) v2) (by rw [c70]) (nm_r (e' := upd yz 5 (nI (d + 1))) (by rw [h5, nI_1]) (nm_r eh ⟨rfl, ps_rel (ps_Inv_tok h (by omega) hk2 ct h6 hf)⟩))⟩⟩
            refine ⟨vd, nm_r (e' := upd dk d (nI kd)) (by rw [nI_clamp (by omega)]) ⟨vd, nm_r (e' := upd da d v2) (by rw [nI_clamp (by omega)]) (nm_r (nI_1 d) (nm_r eh ?_))⟩⟩
            refine yh_tok_t hs hk2 hf (br_f (by decide) (br_f y14 (yh_taken kd hk2 (br_t (nI_le ct (by omega)) ?_))))
            by_cases z : ps_tk kd = 0
            · have n6 : ¬ nI (ps_H DK d) = 6 := fun w => absurd ((nI_eq (b := 6) (by omega) (by decide)).mp w) (by omega)
              exact br_t (by rw [z]; rfl) (br_f n6 fin)
            · exact br_f (nI_ne0 (by omega) (by omega)) fin
          by_cases z : ps_tk kd = 0
          · refine br_t (by rw [z]; rfl) ?_
            by_cases z6 : ps_H DK d = 6
            · refine br_f (by rw [z6]; decide) ?_
              refine yh_tok_t hs hk2 hf (br_f (by decide) (br_f y14 (yh_taken kd hk2 (br_t (nI_le ct (by omega)) (br_t (by rw [z]; rfl) (br_t (by rw [z6]; rfl) ?_))))))
              exact ⟨rfl, ps_rel h⟩
            · exact br_t (nI_lt (b := 6) (by omega) (by decide)) (fin (by omega))
          · exact br_f (nI_ne0 (by omega) (by omega)) (fin (by omega))
        · refine br_f (nI_ge (by omega) (by omega)) ?_
          refine yh_tok_t hs hk2 hf (br_f (by decide) (br_f y14 (yh_taken kd hk2 (br_f (nI_ge (by omega) (by omega)) ?_))))
          exact ⟨rfl, ps_rel h⟩
    · refine xh_fits_f hs hk2 hf (br_t rfl ?_)
      refine yh_tok_f hs hk2 hf (br_t rfl ?_)
      exact ⟨rfl, ps_rel h⟩
end PS10
