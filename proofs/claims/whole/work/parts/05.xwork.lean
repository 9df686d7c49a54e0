section PS5
variable {sc dl df : Int32} {src xk xa xl xw dk da xp xs : Nat → Int32}
theorem ps_H_le {s n : Nat} {K : Nat → Nat} {A : Nat → Int32} (W : ps_WF s K A n) (i : Nat) (hi : i ≤ n) : ps_H K i ≤ 6 := by
  cases i with
  | zero => exact Nat.zero_le _
  | succ j => exact (W j (by omega)).2.2.1
/-- a side's tokens from place o on -/
def ps_Tk (kk aa : Nat → Int32) (o n : Nat) (K : Nat → Nat) (A : Nat → Int32) : Prop := ∀ i, i < n → kk (o + i) = nI (K i) ∧ aa (o + i) = A i
theorem xf_loop {post : Int32 → SX → Prop} {G : Nat → Nat → Nat → Int32} {K : Nat → Nat} {A : Nat → Int32} {cx cy k n0 : Nat} (hk : k < 5) (hr : ps_rg k cx cy) (hn : n0 ≤ 14) (W : ps_WF k K A n0) (H1 : ps_H K n0 = 1) (T : ps_Tk xk xa (14 * k) n0 K A) (hp : ps_Pic xp G k) (hpost : ∀ st : Nat → Int32, post (ps_S src G K A cx cy n0 0) (sc, dl, df, src, xk, xa, xl, xw, dk, da, xp, st)) : ∀ (d i : Nat) (st : Nat → Int32) (n : Nat), i + d = n0 → d < n → ps_Ag st (ps_S src G K A cx cy i) (ps_H K i) → wX_formulaAt_20 post (nI cx - 8) (nI cy - 8) (nI (14 * k)) (nI n0) sc dl df n (nI (ps_H K i)) (nI i) src xk xa xl xw dk da xp st := by
  intro d
  induction d with
  | zero =>
    intro i st n hi hd Ag
    obtain ⟨m, rfl⟩ : ∃ m, n = m + 1 := ⟨n - 1, by omega⟩
    obtain rfl : i = n0 := by omega
    refine br_t (nI_le (Nat.le_refl _) (by omega)) ?_
    rw [Ag 0 (by omega)]
    exact hpost st
  | succ d ih =>
    intro i st n hi hd Ag
    obtain ⟨m, rfl⟩ : ∃ m, n = m + 1 := ⟨n - 1, by omega⟩
    obtain ⟨w1, w2, w3, w4, w5⟩ := W i (by omega)
    obtain ⟨t1, t2⟩ := T i (by omega)
    have h6 := ps_H_le W i (by omega)
    have hs : ps_H K (i + 1) = ps_H K i - ps_tk (K i) + 1 := rfl
    have vi : vp_in (nI (14 * k) + nI i) 70 := by rw [nI_add]; exact vp_in_nI (by omega) (by omega)
    have ec : (nI (14 * k) + nI i).toNatClampNeg = 14 * k + i := by rw [nI_add, nI_clamp (by omega)]
    refine br_f (nI_ge (by omega) (by omega)) ⟨vi, nm_r (e' := nI (K i)) (by rw [ec]; exact t1) ?_⟩
    refine xh_taken (K i) w1 ?_
    refine nm_r (e' := nI (ps_H K i - ps_tk (K i))) (pk_sub w2) ?_
    refine pk_lt 4 (K i) (fun h4 => ?_) (fun h4 => ?_)
    · refine xh_joined (K i) (ps_H K i - ps_tk (K i)) (by omega) w1 (by omega) ?_
      refine ⟨vp_in_nI (by omega) (by omega), nm_r (by rw [nI_clamp (by omega)]) (nm_r (nI_1 _) (nm_r (nI_1 _) (ih (i + 1) _ m (by omega) (by omega) (ps_step Ag w1 w2 ?_))))⟩
      unfold ps_tv
      rw [if_neg (by omega)]
    · refine ⟨vi, ?_⟩
      rw [ec, t2]
      refine xh_plain (G := G) (K i) (A i) k cx cy h4 hk hr w4 w5 hp ?_
      refine ⟨vp_in_nI (by omega) (by omega), nm_r (by rw [nI_clamp (by omega)]) (nm_r (nI_1 _) (nm_r (nI_1 _) (ih (i + 1) _ m (by omega) (by omega) (ps_step Ag w1 w2 ?_))))⟩
      unfold ps_tv
      rw [if_pos h4]
theorem xh_formula {post : Int32 → SX → Prop} {G : Nat → Nat → Nat → Int32} {K : Nat → Nat} {A : Nat → Int32} {cx cy k n0 : Nat} (hk : k < 5) (hr : ps_rg k cx cy) (hn : n0 ≤ 14) (W : ps_WF k K A n0) (H1 : ps_H K n0 = 1) (T : ps_Tk xk xa (14 * k) n0 K A) (hl : xl k = nI n0) (hp : ps_Pic xp G k) (hpost : ∀ st : Nat → Int32, post (ps_S src G K A cx cy n0 0) (sc, dl, df, src, xk, xa, xl, xw, dk, da, xp, st)) : wpX_formulaAt post (sc, dl, df, src, xk, xa, xl, xw, dk, da, xp, xs) (nI k) (nI cx - 8) (nI cy - 8) := by
  refine nm_r (e' := nI (14 * k)) ?_ ⟨vp_in_nI hk (by omega), nm_r (e' := nI n0) (by rw [nI_clamp (by omega)]; exact hl) ⟨n0 + 1, ?_⟩⟩
  · rw [show (14 : Int32) = nI 14 from rfl, pk_mul]; exact congrArg nI (by omega)
  · exact xf_loop hk hr hn W H1 T hp hpost n0 0 xs (n0 + 1) (by omega) (by omega) (fun j hj => absurd hj (Nat.not_lt_zero j))
/-- a side's stages -/
def ps_Tab (kk aa ll : Nat → Int32) (s : Nat) (K : Nat → Nat → Nat) (A : Nat → Nat → Int32) (L : Nat → Nat) : Prop := ∀ j, j < s → ll j = nI (L j) ∧ ps_Tk kk aa (14 * j) (L j) (K j) (A j)
def ps_Ok (s : Nat) (K : Nat → Nat → Nat) (A : Nat → Nat → Int32) (L : Nat → Nat) : Prop := ∀ j, j < s → L j ≤ 14 ∧ ps_WF j (K j) (A j) (L j) ∧ ps_H (K j) (L j) = 1
theorem xw_30 {post : SX → Prop} {J2 J18 : Int32 → Int32 → Int32 → Int32 → (Nat → Int32) → (Nat → Int32) → (Nat → Int32) → (Nat → Int32) → (Nat → Int32) → (Nat → Int32) → (Nat → Int32) → (Nat → Int32) → (Nat → Int32) → Prop} {G : Nat → Nat → Nat → Int32} {K : Nat → Nat → Nat} {A : Nat → Nat → Int32} {L : Nat → Nat} {cy k : Nat} {x2 : Int32} (hk : k < 5) (h1 : k ≤ cy) (h2 : cy + k < 22) (hn : L k ≤ 14) (W : ps_WF k (K k) (A k) (L k)) (H1 : ps_H (K k) (L k) = 1) (T : ps_Tk xk xa (14 * k) (L k) (K k) (A k)) (hl : xl k = nI (L k)) (ex : 8 + x2 = nI (24 - k) - 8) (hJ : ∀ p st : Nat → Int32, ps_Pic p G k → ps_Dn p (ps_ev src K A L G k) k (24 * cy + (24 - k)) → J18 (nI (cy + 1) - 8) sc dl df src xk xa xl xw dk da p st) : ∀ (d cx : Nat) (p st : Nat → Int32) (n : Nat), cx + d = 24 - k → k ≤ cx → d < n → ps_Pic p G k → ps_Dn p (ps_ev src K A L G k) k (24 * cy + cx) → wX_workOutStages_30 post J2 J18 (nI k) x2 (nI cy - 8) n (nI cx - 8) sc dl df src xk xa xl xw dk da p st := by
  intro d
  induction d with
  | zero =>
    intro cx p st n hc h3 hd hp hD
    obtain ⟨m, rfl⟩ : ∃ m, n = m + 1 := ⟨n - 1, by omega⟩
    obtain rfl : cx = 24 - k := by omega
    refine br_t (by rw [ex]; exact Int32.le_refl _) (nm_r (ps_91 cy) ?_)
    exact hJ p st hp hD
  | succ d ih =>
    intro cx p st n hc h3 hd hp hD
    obtain ⟨m, rfl⟩ : ∃ m, n = m + 1 := ⟨n - 1, by omega⟩
    have hr : ps_rg k cx cy := ⟨h3, by omega, h1, h2⟩
    refine br_f (by rw [ex, ps_le8 (by omega) (by omega)]; omega) ?_
    refine xh_place k cx cy (ps_p8 cx) (ps_p8 cy) ?_
    refine xh_formula hk hr hn W H1 T hl hp (fun st' => ?_)
    refine ⟨vp_in_nI (by omega) (by omega), nm_r (by rw [nI_clamp (by omega)]) (nm_r (ps_91 cx) ?_)⟩
    exact ih (cx + 1) _ st' m (by omega) (by omega) (by omega) (ps_Pic_upd hp hr) (ps_Dn_upd hD hr)
theorem xw_18 {post : SX → Prop} {J2 : Int32 → Int32 → Int32 → Int32 → (Nat → Int32) → (Nat → Int32) → (Nat → Int32) → (Nat → Int32) → (Nat → Int32) → (Nat → Int32) → (Nat → Int32) → (Nat → Int32) → (Nat → Int32) → Prop} {G : Nat → Nat → Nat → Int32} {K : Nat → Nat → Nat} {A : Nat → Nat → Int32} {L : Nat → Nat} {k : Nat} {x2 : Int32} (hk : k < 5) (hn : L k ≤ 14) (W : ps_WF k (K k) (A k) (L k)) (H1 : ps_H (K k) (L k) = 1) (T : ps_Tk xk xa (14 * k) (L k) (K k) (A k)) (hl : xl k = nI (L k)) (e2 : x2 = 8 - nI k) (hJ : ∀ p st : Nat → Int32, ps_Pic p G k → ps_Dn p (ps_ev src K A L G k) k (24 * (22 - k) + k) → J2 (nI (k + 1)) sc dl df src xk xa xl xw dk da p st) : ∀ (d cy : Nat) (p st : Nat → Int32) (n : Nat), cy + d = 22 - k → k ≤ cy → d < n → ps_Pic p G k → ps_Dn p (ps_ev src K A L G k) k (24 * cy + k) → wX_workOutStages_18 post J2 (nI k) x2 n (nI cy - 8) sc dl df src xk xa xl xw dk da p st := by
  have e8 : 8 + x2 = nI (24 - k) - 8 := by
    rw [e2, ← pk_sub (a := 24) (b := k) (by omega), show nI 24 = 24 from rfl]; grind
  have e6 : 6 + x2 = nI (22 - k) - 8 := by
    rw [e2, ← pk_sub (a := 22) (b := k) (by omega), show nI 22 = 22 from rfl]; grind
  have en : -x2 = nI k - 8 := by rw [e2]; grind
  intro d
  induction d with
  | zero =>
    intro cy p st n hc h3 hd hp hD
    obtain ⟨m, rfl⟩ : ∃ m, n = m + 1 := ⟨n - 1, by omega⟩
    obtain rfl : cy = 22 - k := by omega
    refine br_t (by rw [e6]; exact Int32.le_refl _) (nm_r (nI_1 k) ?_)
    exact hJ p st hp hD
  | succ d ih =>
    intro cy p st n hc h3 hd hp hD
    obtain ⟨m, rfl⟩ : ∃ m, n = m + 1 := ⟨n - 1, by omega⟩
    refine br_f (by rw [e6, ps_le8 (by omega) (by omega)]; omega) (nm_r en ⟨24 - k - k + 1, ?_⟩)
    refine xw_30 hk h3 (by omega) hn W H1 T hl e8 (fun p' st' hp' hD' => ?_) (24 - k - k) k p st (24 - k - k + 1) (by omega) (by omega) (by omega) hp hD
    exact ih (cy + 1) p' st' m (by omega) (by omega) (by omega) hp' (ps_Dn_row hD' (by omega))
theorem xw_2 {post : SX → Prop} {K : Nat → Nat → Nat} {A : Nat → Nat → Int32} {L : Nat → Nat} {s : Nat} (hs : s ≤ 5) (ok : ps_Ok s K A L) (T : ps_Tab xk xa xl s K A L) (hpost : ∀ p st : Nat → Int32, ps_Pic p (ps_G src K A L s) s → post (nI s, dl, df, src, xk, xa, xl, xw, dk, da, p, st)) : ∀ (d k : Nat) (p st : Nat → Int32) (n : Nat), k + d = s → d < n → ps_Pic p (ps_G src K A L k) k → wX_workOutStages_2 post n (nI k) (nI s) dl df src xk xa xl xw dk da p st := by
  intro d
  induction d with
  | zero =>
    intro k p st n hc hd hp
    obtain ⟨m, rfl⟩ : ∃ m, n = m + 1 := ⟨n - 1, by omega⟩
    obtain rfl : k = s := by omega
    refine br_t (nI_le (Nat.le_refl _) (by omega)) ?_
    exact hpost p st hp
  | succ d ih =>
    intro k p st n hc hd hp
    obtain ⟨m, rfl⟩ : ∃ m, n = m + 1 := ⟨n - 1, by omega⟩
    obtain ⟨o1, o2, o3⟩ := ok k (by omega)
    obtain ⟨t1, t2⟩ := T k (by omega)
    refine br_f (nI_ge (by omega) (by omega)) (nm_e (nm_r (e' := nI k - 8) (by grind) ⟨22 - k - k + 1, ?_⟩))
    refine xw_18 (by omega) o1 o2 o3 t2 t1 rfl (fun p' st' hp' hD' => ?_) (22 - k - k) k p st (22 - k - k + 1) (by omega) (by omega) (by omega) hp (ps_Dn_0 _ _ _)
    exact ih (k + 1) p' st' m (by omega) (by omega) (ps_next src K A L hp' hD' (by omega))
theorem ps_Pic_0 (p : Nat → Int32) (G : Nat → Nat → Nat → Int32) : ps_Pic p G 0 := fun j hj => absurd hj (Nat.not_lt_zero j)
theorem xh_work {post : SX → Prop} {K : Nat → Nat → Nat} {A : Nat → Nat → Int32} {L : Nat → Nat} {s : Nat} (hs : s ≤ 5) (ok : ps_Ok s K A L) (T : ps_Tab xk xa xl s K A L) (hpost : ∀ p st : Nat → Int32, ps_Pic p (ps_G src K A L s) s → post (nI s, dl, df, src, xk, xa, xl, xw, dk, da, p, st)) : wpX_workOutStages post (nI s, dl, df, src, xk, xa, xl, xw, dk, da, xp, xs) :=
  ⟨s + 1, xw_2 hs ok T hpost s 0 xp xs (s + 1) (by omega) (by omega) (ps_Pic_0 _ _)⟩
end PS5
