section PS13
theorem i_vc_total {k : Nat} {u : SX} {v : SY} (I : i_Rel k u v) (hk : k + 4 ≤ 2048) (v1 : Int32) : wpX_total (fun r u' => wpY_total (fun r' v' => r' = r ∧ i_Rel (k + 4) u' v') v v1) u v1 := by
  obtain ⟨s, d, K, A, L, DK, DA, src, xk, xa, xl, xw, dk, da, xp, xs, yz, yk, ya, yw, yp, ys, rfl, rfl, h⟩ := I
  obtain ⟨hs, _, ok, tx, ty, _⟩ := id h
  unfold wpX_total wpY_total
  dsimp only
  rcases ps_stg v1 s hs with q | ⟨j, hj, rfl⟩
  · refine xh_isStage_f q (br_t rfl ?_)
    refine yh_isStage_f q (br_t rfl ?_)
    exact ⟨rfl, ps_rel h⟩
  · refine xh_isStage_t hj hs (br_f (by decide) (xh_work hs ok tx (fun p st hp => ?_)))
    obtain ⟨r, hX, hY⟩ := ps_total (sc := nI s) (dl := nI d) (df := nI (ps_H DK d)) (xk := xk) (xa := xa) (xl := xl) (xw := xw) (dk := dk) (da := da) (xp := p) (xs := st) (ns := nI s) (ht := nI (ps_H DK d)) (yz := yz) (yk := yk) (ya := ya) (yw := yw) (j := j) (src := src) (by omega) 48 0 0 rfl
    refine ⟨49, hX _ ?_⟩
    refine yh_isStage_t hj hs (br_f (by decide) (yh_work hs ok ty (fun p' st' hp' => ⟨49, hY p' st' (ps_Eq_of hp hp' hj hs) _ ?_⟩)))
    exact ⟨rfl, ps_rel h⟩
theorem i_vc_atLeast {k : Nat} {u : SX} {v : SY} (I : i_Rel k u v) (hk : k + 4 ≤ 2048) (v1 : Int32) (v2 : Int32) : wpX_atLeast (fun r u' => wpY_atLeast (fun r' v' => r' = r ∧ i_Rel (k + 4) u' v') v v1 v2) u v1 v2 := by
  obtain ⟨s, d, K, A, L, DK, DA, src, xk, xa, xl, xw, dk, da, xp, xs, yz, yk, ya, yw, yp, ys, rfl, rfl, h⟩ := I
  obtain ⟨hs, _, ok, tx, ty, _⟩ := id h
  unfold wpX_atLeast wpY_atLeast
  dsimp only
  rcases ps_stg v1 s hs with q | ⟨j, hj, rfl⟩
  · refine xh_isStage_f q (br_t rfl ?_)
    refine yh_isStage_f q (br_t rfl ?_)
    exact ⟨rfl, ps_rel h⟩
  · refine xh_isStage_t hj hs (br_f (by decide) (xh_work hs ok tx (fun p st hp => ?_)))
    obtain ⟨r, hX, hY⟩ := ps_atLeast (sc := nI s) (dl := nI d) (df := nI (ps_H DK d)) (xk := xk) (xa := xa) (xl := xl) (xw := xw) (dk := dk) (da := da) (xp := p) (xs := st) (ns := nI s) (ht := nI (ps_H DK d)) (yz := yz) (yk := yk) (ya := ya) (yw := yw) (j := j) (src := src) v2 (by omega) 48 0 0 rfl
    refine ⟨49, hX _ ?_⟩
    refine yh_isStage_t hj hs (br_f (by decide) (yh_work hs ok ty (fun p' st' hp' => ⟨49, hY p' st' (ps_Eq_of hp hp' hj hs) _ ?_⟩)))
    exact ⟨rfl, ps_rel h⟩
theorem i_vc_changed {k : Nat} {u : SX} {v : SY} (I : i_Rel k u v) (hk : k + 4 ≤ 2048) (v1 : Int32) : wpX_changed (fun r u' => wpY_changed (fun r' v' => r' = r ∧ i_Rel (k + 4) u' v') v v1) u v1 := by
  obtain ⟨s, d, K, A, L, DK, DA, src, xk, xa, xl, xw, dk, da, xp, xs, yz, yk, ya, yw, yp, ys, rfl, rfl, h⟩ := I
  obtain ⟨hs, _, ok, tx, ty, _⟩ := id h
  unfold wpX_changed wpY_changed
  dsimp only
  rcases ps_stg v1 s hs with q | ⟨j, hj, rfl⟩
  · refine xh_isStage_f q (br_t rfl ?_)
    refine yh_isStage_f q (br_t rfl ?_)
    exact ⟨rfl, ps_rel h⟩
  · refine xh_isStage_t hj hs (br_f (by decide) (xh_work hs ok tx (fun p st hp => ?_)))
    obtain ⟨r, hX, hY⟩ := ps_changed (sc := nI s) (dl := nI d) (df := nI (ps_H DK d)) (xk := xk) (xa := xa) (xl := xl) (xw := xw) (dk := dk) (da := da) (xp := p) (xs := st) (ns := nI s) (ht := nI (ps_H DK d)) (yz := yz) (yk := yk) (ya := ya) (yw := yw) (j := j) (src := src) (by omega) 48 0 0 rfl
    refine ⟨49, hX _ ?_⟩
    refine yh_isStage_t hj hs (br_f (by decide) (yh_work hs ok ty (fun p' st' hp' => ⟨49, hY p' st' (ps_Eq_of hp hp' hj hs) _ ?_⟩)))
    exact ⟨rfl, ps_rel h⟩
theorem i_vc_peak {k : Nat} {u : SX} {v : SY} (I : i_Rel k u v) (hk : k + 4 ≤ 2048) (v1 : Int32) : wpX_peak (fun r u' => wpY_peak (fun r' v' => r' = r ∧ i_Rel (k + 4) u' v') v v1) u v1 := by
  obtain ⟨s, d, K, A, L, DK, DA, src, xk, xa, xl, xw, dk, da, xp, xs, yz, yk, ya, yw, yp, ys, rfl, rfl, h⟩ := I
  obtain ⟨hs, _, ok, tx, ty, _⟩ := id h
  unfold wpX_peak wpY_peak
  dsimp only
  rcases ps_stg v1 s hs with q | ⟨j, hj, rfl⟩
  · refine xh_isStage_f q (br_t rfl ?_)
    refine yh_isStage_f q (br_t rfl ?_)
    exact ⟨rfl, ps_rel h⟩
  · refine xh_isStage_t hj hs (br_f (by decide) (xh_work hs ok tx (fun p st hp => ?_)))
    obtain ⟨r, hX, hY⟩ := ps_peak (sc := nI s) (dl := nI d) (df := nI (ps_H DK d)) (xk := xk) (xa := xa) (xl := xl) (xw := xw) (dk := dk) (da := da) (xp := p) (xs := st) (ns := nI s) (ht := nI (ps_H DK d)) (yz := yz) (yk := yk) (ya := ya) (yw := yw) (j := j) (src := src) (by omega) 47 1 0 rfl (by omega)
    refine xh_cell j 0 (by omega) (by omega) ⟨48, hX _ ?_⟩
    refine yh_isStage_t hj hs (br_f (by decide) (yh_work hs ok ty (fun p' st' hp' => ⟨48, hY p' st' (ps_Eq_of hp hp' hj hs) _ ?_⟩)))
    exact ⟨rfl, ps_rel h⟩
theorem i_vc_differ {k : Nat} {u : SX} {v : SY} (I : i_Rel k u v) (hk : k + 4 ≤ 2048) (v1 : Int32) (v2 : Int32) : wpX_differ (fun r u' => wpY_differ (fun r' v' => r' = r ∧ i_Rel (k + 4) u' v') v v1 v2) u v1 v2 := by
  obtain ⟨s, d, K, A, L, DK, DA, src, xk, xa, xl, xw, dk, da, xp, xs, yz, yk, ya, yw, yp, ys, rfl, rfl, h⟩ := I
  obtain ⟨hs, _, ok, tx, ty, _⟩ := id h
  unfold wpX_differ wpY_differ
  dsimp only
  rcases ps_stg v1 s hs with q | ⟨j, hj, rfl⟩
  · refine xh_isStage_f q (br_t rfl ?_)
    refine yh_isStage_f q (br_t rfl ?_)
    exact ⟨rfl, ps_rel h⟩
  · rcases ps_stg v2 s hs with q | ⟨l, hl, rfl⟩
    · refine xh_isStage_t hj hs (br_f (by decide) (xh_isStage_f q (br_t rfl ?_)))
      refine yh_isStage_t hj hs (br_f (by decide) (yh_isStage_f q (br_t rfl ?_)))
      exact ⟨rfl, ps_rel h⟩
    · refine xh_isStage_t hj hs (br_f (by decide) (xh_isStage_t hl hs (br_f (by decide) (xh_work hs ok tx (fun p st hp => ?_)))))
      obtain ⟨r, hX, hY⟩ := ps_differ (sc := nI s) (dl := nI d) (df := nI (ps_H DK d)) (xk := xk) (xa := xa) (xl := xl) (xw := xw) (dk := dk) (da := da) (xp := p) (xs := st) (ns := nI s) (ht := nI (ps_H DK d)) (yz := yz) (yk := yk) (ya := ya) (yw := yw) (j := j) (l := l) (src := src) (by omega) (by omega) 48 0 0 rfl
      refine ⟨49, hX _ ?_⟩
      refine yh_isStage_t hj hs (br_f (by decide) (yh_isStage_t hl hs (br_f (by decide) (yh_work hs ok ty (fun p' st' hp' => ⟨49, hY p' st' (ps_Eq_of hp hp' hj hs) (ps_Eq_of hp hp' hl hs) _ ?_⟩)))))
      exact ⟨rfl, ps_rel h⟩
theorem i_vc_apply {k : Nat} {u : SX} {v : SY} (I : i_Rel k u v) (hk : k + 4 ≤ 2048) (v1 : Int32) : wpX_apply (fun r u' => wpY_apply (fun r' v' => r' = r ∧ i_Rel (k + 4) u' v') v v1) u v1 := by
  obtain ⟨s, d, K, A, L, DK, DA, src, xk, xa, xl, xw, dk, da, xp, xs, yz, yk, ya, yw, yp, ys, rfl, rfl, h⟩ := I
  obtain ⟨hs, _, ok, tx, ty, _⟩ := id h
  unfold wpX_apply wpY_apply
  dsimp only
  rcases ps_stg v1 s hs with q | ⟨j, hj, rfl⟩
  · refine xh_isStage_f q (br_t rfl ?_)
    refine yh_isStage_f q (br_t rfl ?_)
    exact ⟨rfl, ps_rel h⟩
  · refine xh_isStage_t hj hs (br_f (by decide) (xh_work hs ok tx (fun p st hp => ?_)))
    obtain ⟨r, src', hX, hY⟩ := ps_apply (sc := nI s) (dl := nI d) (df := nI (ps_H DK d)) (xk := xk) (xa := xa) (xl := xl) (xw := xw) (dk := dk) (da := da) (xp := p) (xs := st) (ns := nI s) (ht := nI (ps_H DK d)) (yz := yz) (yk := yk) (ya := ya) (yw := yw) (j := j) (by omega) 48 0 0 src rfl
    refine ⟨49, hX _ ?_⟩
    refine yh_isStage_t hj hs (br_f (by decide) (yh_work hs ok ty (fun p' st' hp' => ⟨49, hY p' st' (ps_Eq_of hp hp' hj hs) _ ?_⟩)))
    exact ⟨rfl, ps_rel h⟩
theorem i_vc_value {k : Nat} {u : SX} {v : SY} (I : i_Rel k u v) (hk : k + 4 ≤ 2048) (v1 : Int32) (v2 : Int32) (v3 : Int32) : wpX_value (fun r u' => wpY_value (fun r' v' => r' = r ∧ i_Rel (k + 4) u' v') v v1 v2 v3) u v1 v2 v3 := by
  obtain ⟨s, d, K, A, L, DK, DA, src, xk, xa, xl, xw, dk, da, xp, xs, yz, yk, ya, yw, yp, ys, rfl, rfl, h⟩ := I
  obtain ⟨hs, _, ok, tx, ty, _⟩ := id h
  unfold wpX_value wpY_value
  dsimp only
  rcases ps_stg v1 s hs with q | ⟨j, hj, rfl⟩
  · refine xh_isStage_f q (br_t rfl ?_)
    refine yh_isStage_f q (br_t rfl ?_)
    exact ⟨rfl, ps_rel h⟩
  · rcases ps_rng v2 (-4) 12 (by decide) (by decide) with q | q | ⟨cx, x1, x2, rfl⟩
    · refine xh_isStage_t hj hs (br_f (by decide) (br_t q ?_))
      refine yh_isStage_t hj hs (br_f (by decide) (yh_work hs ok ty (fun p' st' hp' => br_t q ?_)))
      exact ⟨rfl, ps_rel h⟩
    · have n4 : ¬ v2 < -4 := fun z => absurd (Int32.lt_of_le_of_lt q z) (by decide)
      refine xh_isStage_t hj hs (br_f (by decide) (br_f n4 (br_f (Int32.not_lt.mpr q) ?_)))
      refine yh_isStage_t hj hs (br_f (by decide) (yh_work hs ok ty (fun p' st' hp' => br_f n4 (br_t (Int32.lt_of_lt_of_le (by decide) q) ?_))))
      exact ⟨rfl, ps_rel h⟩
    · have e12 : (12 : Int32).toInt = 12 := by decide
      have x4 : ¬ nI cx - 8 < -4 := fun z => absurd ((ps_lt8 (b := 4) (by omega) (by omega)).mp z) (by omega)
      have x12 : nI cx - 8 < 12 := (ps_lt8 (b := 20) (by omega) (by omega)).mpr (by omega)
      have x11 : ¬ 11 < nI cx - 8 := fun z => absurd ((ps_lt8 (a := 19) (by omega) (by omega)).mp z) (by omega)
      rcases ps_rng v3 (-4) 10 (by decide) (by decide) with q | q | ⟨cy, y1, y2, rfl⟩
      · refine xh_isStage_t hj hs (br_f (by decide) (br_f x4 (br_t x12 (br_t q ?_))))
        refine yh_isStage_t hj hs (br_f (by decide) (yh_work hs ok ty (fun p' st' hp' => br_f x4 (br_f x11 (br_t q ?_)))))
        exact ⟨rfl, ps_rel h⟩
      · have n4 : ¬ v3 < -4 := fun z => absurd (Int32.lt_of_le_of_lt q z) (by decide)
        refine xh_isStage_t hj hs (br_f (by decide) (br_f x4 (br_t x12 (br_f n4 (br_f (Int32.not_lt.mpr q) ?_)))))
        refine yh_isStage_t hj hs (br_f (by decide) (yh_work hs ok ty (fun p' st' hp' => br_f x4 (br_f x11 (br_f n4 (br_t (Int32.lt_of_lt_of_le (by decide) q) ?_))))))
        exact ⟨rfl, ps_rel h⟩
      · have e10 : (10 : Int32).toInt = 10 := by decide
        have y4 : ¬ nI cy - 8 < -4 := fun z => absurd ((ps_lt8 (b := 4) (by omega) (by omega)).mp z) (by omega)
        have y10 : nI cy - 8 < 10 := (ps_lt8 (b := 18) (by omega) (by omega)).mpr (by omega)
        have y9 : ¬ 9 < nI cy - 8 := fun z => absurd ((ps_lt8 (a := 17) (by omega) (by omega)).mp z) (by omega)
        have rg : ps_rg j cx cy := ⟨by omega, by omega, by omega, by omega⟩
        refine xh_isStage_t hj hs (br_f (by decide) (br_f x4 (br_t x12 (br_f y4 (br_t y10 (xh_work hs ok tx (fun p st hp => ?_)))))))
        refine xh_place j cx cy (ps_p8 cx) (ps_p8 cy) ⟨vp_in_nI (by omega) (by omega), ?_⟩
        refine yh_isStage_t hj hs (br_f (by decide) (yh_work hs ok ty (fun p' st' hp' => br_f x4 (br_f x11 (br_f y4 (br_f y9 ?_))))))
        refine yh_at j cx cy (ps_p8 cx) (ps_p8 cy) (by omega) (by omega) (by omega) ?_
        exact ⟨by rw [nI_clamp (by omega)]; exact (hp' j hj _ _ rg).trans (hp j hj _ _ rg).symm, ps_rel h⟩
end PS13
