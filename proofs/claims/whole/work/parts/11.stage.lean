section PS11
section
variable {sc dl df : Int32} {src xk xa xl xw dk da xp xs : Nat → Int32}
variable {ns ht : Int32} {yz yk ya yw yp ys : Nat → Int32}
theorem xs_33 {post : Int32 → SX → Prop} {s d : Nat} (hs : s < 5) (hd : d ≤ 14) (hpost : ∀ kk aa : Nat → Int32, (∀ q, q < 14 * s → kk q = xk q ∧ aa q = xa q) → (∀ i, i < d → kk (14 * s + i) = dk i ∧ aa (14 * s + i) = da i) → post (nI s) (nI (s + 1), 0, 0, src, kk, aa, upd xl s (nI d), upd xw s 0, dk, da, xp, xs)) : ∀ (e i : Nat) (kk aa : Nat → Int32) (n : Nat), i + e = d → e < n → (∀ q, q < 14 * s → kk q = xk q ∧ aa q = xa q) → (∀ j, j < i → kk (14 * s + j) = dk j ∧ aa (14 * s + j) = da j) → wX_stage_33 post (nI s) (nI (14 * s)) (nI s) (nI d) df n (nI i) src kk aa xl xw dk da xp xs := by
  have vs : vp_in (nI s) 5 := vp_in_nI hs (by omega)
  intro e
  induction e with
  | zero =>
    intro i kk aa n hi hn h1 h2
    obtain ⟨m, rfl⟩ : ∃ m, n = m + 1 := ⟨n - 1, by omega⟩
    obtain rfl : i = d := by omega
    exact br_t (nI_le (Nat.le_refl _) (by omega)) ⟨vs, nm_r (e' := upd xl s (nI i)) (by rw [nI_clamp (by omega)]) ⟨vs, nm_r (e' := upd xw s 0) (by rw [nI_clamp (by omega)]) (nm_r (nI_1 s) (hpost kk aa h1 h2))⟩⟩
  | succ e ih =>
    intro i kk aa n hi hn h1 h2
    obtain ⟨m, rfl⟩ : ∃ m, n = m + 1 := ⟨n - 1, by omega⟩
    have vi : vp_in (nI i) 14 := vp_in_nI (by omega) (by omega)
    have v2 : vp_in (nI (14 * s) + nI i) 70 := by rw [nI_add]; exact vp_in_nI (by omega) (by omega)
    have c2 : (nI (14 * s) + nI i).toNatClampNeg = 14 * s + i := by rw [nI_add, nI_clamp (by omega)]
    have c1 : (nI i).toNatClampNeg = i := nI_clamp (by omega)
    refine br_f (nI_ge (by omega) (by omega)) ⟨vi, v2, nm_r (e' := upd kk (14 * s + i) (dk i)) (by rw [c2, c1]) ⟨vi, v2, nm_r (e' := upd aa (14 * s + i) (da i)) (by rw [c2, c1]) (nm_r (nI_1 i) ?_)⟩⟩
    refine ih (i + 1) _ _ m (by omega) (by omega) (fun q hq => ?_) (fun j hj => ?_)
    · rw [pk_un (by omega), pk_un (by omega)]
      exact h1 q hq
    · by_cases ej : j = i
      · subst ej
        rw [pk_us, pk_us]
        exact ⟨rfl, rfl⟩
      · rw [pk_un (by omega), pk_un (by omega)]
        exact h2 j (by omega)
theorem ys_38 {post : Int32 → SY → Prop} {s : Nat} (hs : s < 5) (hpost : ∀ kk aa : Nat → Int32, (∀ q, q < 14 * s ∨ 70 ≤ q → kk q = yk q ∧ aa q = ya q) → (∀ i, i < 14 → kk (14 * s + i) = yk (70 + i) ∧ aa (14 * s + i) = ya (70 + i)) → post (nI s) (nI (s + 1), 0, src, upd yz 5 0, kk, aa, upd yw s 0, yp, ys)) : ∀ (e i : Nat) (kk aa : Nat → Int32) (n : Nat), i + e = 14 → e < n → (∀ q, q < 14 * s ∨ 70 ≤ q → kk q = yk q ∧ aa q = ya q) → (∀ j, j < i → kk (14 * s + j) = yk (70 + j) ∧ aa (14 * s + j) = ya (70 + j)) → wY_stage_38 post (nI s) ht n (nI i) src yz kk aa yw yp ys := by
  have vs : vp_in (nI s) 5 := vp_in_nI hs (by omega)
  intro e
  induction e with
  | zero =>
    intro i kk aa n hi hn h1 h2
    obtain ⟨m, rfl⟩ : ∃ m, n = m + 1 := ⟨n - 1, by omega⟩
    obtain rfl : i = 14 := by omega
    refine br_t (by decide) ⟨vs, nm_r (e' := upd yw s 0) (by rw [nI_clamp (by omega)]) (nm_r (nI_1 s) ?_)⟩
    refine nm_e ?_
    show post (nI (s + 1) - 1) _
    rw [nI_pred]
    exact hpost kk aa h1 h2
  | succ e ih =>
    intro i kk aa n hi hn h1 h2
    obtain ⟨m, rfl⟩ : ∃ m, n = m + 1 := ⟨n - 1, by omega⟩
    have e70 : 70 + nI i = nI (70 + i) := nI_add 70 i
    have v1 : vp_in (70 + nI i) 84 := by rw [e70]; exact vp_in_nI (by omega) (by omega)
    have c1 : (70 + nI i).toNatClampNeg = 70 + i := by rw [e70, nI_clamp (by omega)]
    have v2 : vp_in (14 * nI s + nI i) 84 := by rw [ps_14]; exact vp_in_nI (by omega) (by omega)
    have c2 : (14 * nI s + nI i).toNatClampNeg = 14 * s + i := by rw [ps_14, nI_clamp (by omega)]
    have k70 := h1 (70 + i) (Or.inr (by omega))
    refine br_f (nI_ge (b := 14) (by omega) (by decide)) ⟨v1, v2, nm_r (e' := upd kk (14 * s + i) (yk (70 + i))) (by rw [c2, c1, k70.1]) ⟨v1, v2, nm_r (e' := upd aa (14 * s + i) (ya (70 + i))) (by rw [c2, c1, k70.2]) (nm_r (nI_1 i) ?_)⟩⟩
    refine ih (i + 1) _ _ m (by omega) (by omega) (fun q hq => ?_) (fun j hj => ?_)
    · rw [pk_un (by omega), pk_un (by omega)]
      exact h1 q hq
    · by_cases ej : j = i
      · subst ej
        rw [pk_us, pk_us]
        exact ⟨rfl, rfl⟩
      · rw [pk_un (by omega), pk_un (by omega)]
        exact h2 j (by omega)
theorem xd_2 {post : Int32 → Prop} {t d : Nat} {DK : Nat → Nat} {DA : Nat → Int32} (hd : d ≤ 14) (hK : ∀ i, i < d → DK i ≤ 12) (T : ps_Tk dk da 0 d DK DA) : ∀ (e i n : Nat), i + e = d → e < n → ((∃ j, i ≤ j ∧ j < d ∧ ps_sp t DK DA j) → post 1) → ((¬ ∃ j, i ≤ j ∧ j < d ∧ ps_sp t DK DA j) → post 0) → wX_draftSpeaksOf_2 post (nI t) sc (nI d) df src xk xa xl xw dk da xp xs n (nI i) := by
  intro e
  induction e with
  | zero =>
    intro i n hi hn h1 h0
    obtain ⟨m, rfl⟩ : ∃ m, n = m + 1 := ⟨n - 1, by omega⟩
    obtain rfl : i = d := by omega
    refine br_t (nI_le (Nat.le_refl _) (by omega)) (h0 ?_)
    rintro ⟨j, a, b, _⟩
    omega
  | succ e ih =>
    intro i n hi hn h1 h0
    obtain ⟨m, rfl⟩ : ∃ m, n = m + 1 := ⟨n - 1, by omega⟩
    have vi : vp_in (nI i) 14 := vp_in_nI (by omega) (by omega)
    have c1 : (nI i).toNatClampNeg = i := nI_clamp (by omega)
    have tk := T i (by omega)
    rw [Nat.zero_add] at tk
    have k12 := hK i (by omega)
    have nx : ¬ ps_sp t DK DA i → wX_draftSpeaksOf_2 post (nI t) sc (nI d) df src xk xa xl xw dk da xp xs m (nI (i + 1)) := by
      intro ns
      refine ih (i + 1) m (by omega) (by omega) (fun ⟨j, a, b, c⟩ => h1 ⟨j, by omega, b, c⟩) (fun z => h0 ?_)
      rintro ⟨j, a, b, c⟩
      by_cases ej : j = i
      · subst ej
        exact ns c
      · exact z ⟨j, by omega, b, c⟩
    refine br_f (nI_ge (by omega) (by omega)) ⟨vi, ?_⟩
    rw [c1, tk.1, tk.2]
    refine pk_eq (DK i) 4 (fun h4 => ⟨vi, by decide, br_c (fun h9 => h1 ⟨i, by omega, by omega, h4, h9⟩) (fun n9 => nm_r (nI_1 i) (nx (fun z => n9 z.2)))⟩) (fun n4 => nm_r (nI_1 i) (nx (fun z => n4 z.1)))
theorem yd_1 {post : Int32 → SY → Prop} {d : Nat} (hd : d ≤ 14) (h5 : yz 5 = nI d) (hp : post ns (ns, 0, src, upd yz 5 0, yk, ya, yw, yp, ys)) : ∀ (e i n : Nat), i + e = d → e < n → wY_dropStage_23 post ns ht src yz yk ya yw yp ys n 1 (nI i) := by
  intro e
  induction e with
  | zero =>
    intro i n hi hn
    obtain ⟨m, rfl⟩ : ∃ m, n = m + 1 := ⟨n - 1, by omega⟩
    obtain rfl : i = d := by omega
    exact br_t (by rw [h5]; exact nI_le (Nat.le_refl _) (by omega)) (br_f (by decide) (nm_e hp))
  | succ e ih =>
    intro i n hi hn
    obtain ⟨m, rfl⟩ : ∃ m, n = m + 1 := ⟨n - 1, by omega⟩
    exact br_f (by rw [h5]; exact nI_ge (by omega) (by omega)) (br_f (by decide) (nm_r (nI_1 i) (ih (i + 1) m (by omega) (by omega))))
theorem yd_0 {post : Int32 → SY → Prop} {t d : Nat} {DK : Nat → Nat} {DA : Nat → Int32} (hd : d ≤ 14) (h5 : yz 5 = nI d) (hK : ∀ i, i < d → DK i ≤ 12) (T : ps_Tk yk ya 70 d DK DA) : ∀ (e i n : Nat), i + e = d → e < n → ((∃ j, i ≤ j ∧ j < d ∧ ps_sp t DK DA j) → post (nI t) (nI t, 0, src, upd yz 5 0, yk, ya, yw, yp, ys)) → ((¬ ∃ j, i ≤ j ∧ j < d ∧ ps_sp t DK DA j) → post (nI t) (nI t, ht, src, yz, yk, ya, yw, yp, ys)) → wY_dropStage_23 post (nI t) ht src yz yk ya yw yp ys n 0 (nI i) := by
  intro e
  induction e with
  | zero =>
    intro i n hi hn h1 h0
    obtain ⟨m, rfl⟩ : ∃ m, n = m + 1 := ⟨n - 1, by omega⟩
    obtain rfl : i = d := by omega
    refine br_t (by rw [h5]; exact nI_le (Nat.le_refl _) (by omega)) (br_t rfl (h0 ?_))
    rintro ⟨j, a, b, _⟩
    omega
  | succ e ih =>
    intro i n hi hn h1 h0
    obtain ⟨m, rfl⟩ : ∃ m, n = m + 1 := ⟨n - 1, by omega⟩
    have e70 : 70 + nI i = nI (70 + i) := nI_add 70 i
    have v1 : vp_in (70 + nI i) 84 := by rw [e70]; exact vp_in_nI (by omega) (by omega)
    have c1 : (70 + nI i).toNatClampNeg = 70 + i := by rw [e70, nI_clamp (by omega)]
    have tk := T i (by omega)
    have k12 := hK i (by omega)
    have nx : ¬ ps_sp t DK DA i → wY_dropStage_23 post (nI t) ht src yz yk ya yw yp ys m 0 (nI (i + 1)) := by
      intro ns
      refine ih (i + 1) m (by omega) (by omega) (fun ⟨j, a, b, c⟩ => h1 ⟨j, by omega, b, c⟩) (fun z => h0 ?_)
      rintro ⟨j, a, b, c⟩
      by_cases ej : j = i
      · subst ej
        exact ns c
      · exact z ⟨j, by omega, b, c⟩
    refine br_f (by rw [h5]; exact nI_ge (by omega) (by omega)) (br_t rfl ⟨v1, ?_⟩)
    rw [c1, tk.1, tk.2]
    refine pk_eq (DK i) 4 (fun h4 => ⟨v1, by decide, br_c (fun h9 => nm_r (nI_1 i) (yd_1 hd h5 (h1 ⟨i, by omega, by omega, h4, h9⟩) e (i + 1) m (by omega) (by omega))) (fun n9 => nm_r (nI_1 i) (nx (fun z => n9 z.2)))⟩) (fun n4 => nm_r (nI_1 i) (nx (fun z => n4 z.1)))
end
theorem i_vc_stage {k : Nat} {u : SX} {v : SY} (I : i_Rel k u v) (hk : k + 4 ≤ 2048) : wpX_stage (fun r u' => wpY_stage (fun r' v' => r' = r ∧ i_Rel (k + 4) u' v') v) u := by
  obtain ⟨s, d, K, A, L, DK, DA, src, xk, xa, xl, xw, dk, da, xp, xs, yz, yk, ya, yw, yp, ys, rfl, rfl, h⟩ := I
  have hs := h.1
  have hd := h.2.1
  have h5 : yz 5 = nI d := h.2.2.2.2.2.2.2.1
  have hH : ps_H DK d ≤ 6 := ps_H_le h.2.2.2.2.2.2.2.2.1 d (Nat.le_refl _)
  unfold wpX_stage wpY_stage
  dsimp only
  by_cases c1 : ps_H DK d = 1
  · have e1 : nI (ps_H DK d) = 1 := by rw [c1]; rfl
    by_cases c5 : s = 5
    · have n5 : ¬ nI s < 5 := by rw [c5]; decide
      have e5 : nI s = 5 := by rw [c5]; rfl
      refine br_t e1 (br_f n5 ?_)
      refine br_t e1 (br_t e5 ?_)
      exact ⟨rfl, ps_rel h⟩
    · have n5 : ¬ nI s = 5 := fun z => c5 ((nI_eq (b := 5) (by omega) (by decide)).mp z)
      refine br_t e1 (br_t (nI_lt (b := 5) (by omega) (by decide)) (nm_r (e' := nI (14 * s)) (by rw [show (14 : Int32) = nI 14 from rfl, pk_mul]; exact congrArg nI (by omega)) ⟨d + 1, ?_⟩))
      refine xs_33 (by omega) hd (fun kk aa x1 x2 => ?_) d 0 xk xa (d + 1) (by omega) (by omega) (fun q hq => ⟨rfl, rfl⟩) (fun j hj => absurd hj (Nat.not_lt_zero j))
      refine br_t e1 (br_f n5 ⟨vp_in_nI (by omega) (by omega), nm_r (e' := upd yz s (nI d)) (by rw [nI_clamp (by omega), h5]) ⟨15, ?_⟩⟩)
      refine ys_38 (by omega) (fun kk' aa' y1 y2 => ?_) 14 0 yk ya 15 (by omega) (by omega) (fun q hq => ⟨rfl, rfl⟩) (fun j hj => absurd hj (Nat.not_lt_zero j))
      exact ⟨rfl, ps_rel (d := 0) (ps_Inv_stage h (by omega) c1 x1 x2 (fun q hq => y1 q (Or.inl hq)) y2)⟩
  · have n1 : ¬ nI (ps_H DK d) = 1 := fun z => c1 ((nI_eq (b := 1) (by omega) (by decide)).mp z)
    refine br_f n1 ?_
    refine br_f n1 ?_
    exact ⟨rfl, ps_rel h⟩
theorem i_vc_dropStage {k : Nat} {u : SX} {v : SY} (I : i_Rel k u v) (hk : k + 4 ≤ 2048) : wpX_dropStage (fun r u' => wpY_dropStage (fun r' v' => r' = r ∧ i_Rel (k + 4) u' v') v) u := by
  obtain ⟨s, d, K, A, L, DK, DA, src, xk, xa, xl, xw, dk, da, xp, xs, yz, yk, ya, yw, yp, ys, rfl, rfl, h⟩ := I
  have hs := h.1
  have hd := h.2.1
  have h5 : yz 5 = nI d := h.2.2.2.2.2.2.2.1
  have hK : ∀ i, i < d → DK i ≤ 12 := fun i hi => (h.2.2.2.2.2.2.2.2.1 i hi).1
  unfold wpX_dropStage wpY_dropStage
  dsimp only
  rcases s with _ | t
  · refine br_t rfl ?_
    refine br_t rfl ?_
    exact ⟨rfl, ps_rel h⟩
  · have n0 : ¬ nI (t + 1) = 0 := nI_ne0 (by omega) (by omega)
    refine br_f n0 (nm_r (nI_pred t) ⟨d + 1, ?_⟩)
    refine xd_2 (t := t) hd hK h.2.2.2.2.2.1 d 0 (d + 1) (by omega) (by omega) (fun q => ?_) (fun q => ?_)
    · refine br_f (by decide) ?_
      refine br_f n0 (nm_r (nI_pred t) ⟨d + 1, ?_⟩)
      refine yd_0 (t := t) hd h5 hK h.2.2.2.2.2.2.1 d 0 (d + 1) (by omega) (by omega) (fun _ => ?_) (fun z => absurd q z)
      exact ⟨rfl, ps_rel (d := 0) (ps_Inv_drop0 h)⟩
    · refine br_t rfl ?_
      refine br_f n0 (nm_r (nI_pred t) ⟨d + 1, ?_⟩)
      refine yd_0 (t := t) hd h5 hK h.2.2.2.2.2.2.1 d 0 (d + 1) (by omega) (by omega) (fun z => absurd z q) (fun _ => ?_)
      exact ⟨rfl, ps_rel (ps_Inv_drop h (fun ⟨j, a, b⟩ => q ⟨j, by omega, a, b⟩))⟩
end PS11
