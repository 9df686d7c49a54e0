section PS7
variable {ns ht : Int32} {src yz yk ya yw yp ys : Nat → Int32}
theorem ps_tv_hi {src : Nat → Int32} {G : Nat → Nat → Nat → Int32} {kd : Nat} {a : Int32} {cx cy : Nat} {S : Nat → Int32} {b : Nat} (h : 5 ≤ kd) : ps_tv src G kd a cx cy S b = ps_comb kd (S b) (S (b + 1)) (S (b + 2)) := if_neg (by omega)
theorem ps_tv_lo {src : Nat → Int32} {G : Nat → Nat → Nat → Int32} {kd : Nat} {a : Int32} {cx cy : Nat} {S : Nat → Int32} {b : Nat} (h : kd ≤ 4) : ps_tv src G kd a cx cy S b = ps_simple src G kd a cx cy := if_pos h
theorem ps_14 (k i : Nat) : 14 * nI k + nI i = nI (14 * k + i) := by
  rw [show (14 : Int32) = nI 14 from rfl, pk_mul, nI_add]
theorem ps_mm {h : Nat} (h1 : 1 ≤ h) : nI h + (-1) = nI (h - 1) := by
  obtain ⟨q, rfl⟩ : ∃ q, h = q + 1 := ⟨h - 1, by omega⟩
  exact pk_m1 q
theorem yf_loop {post : Int32 → SY → Prop} {G : Nat → Nat → Nat → Int32} {K : Nat → Nat} {A : Nat → Int32} {cx cy k n0 : Nat} (hk : k < 5) (hr : ps_rg k cx cy) (hn : n0 ≤ 14) (W : ps_WF k K A n0) (H1 : ps_H K n0 = 1) (T : ps_Tk yk ya (14 * k) n0 K A) (hl : yz k = nI n0) (hp : ps_Pic yp G k) (hpost : ∀ st : Nat → Int32, post (ps_S src G K A cx cy n0 0) (ns, ht, src, yz, yk, ya, yw, yp, st)) : ∀ (d i : Nat) (st : Nat → Int32) (n : Nat), i + d = n0 → d < n → ps_Ag st (ps_S src G K A cx cy i) (ps_H K i) → wY_formula_6 post (nI k) (nI cx - 8) (nI cy - 8) ns ht n (nI (ps_H K i)) (nI i) src yz yk ya yw yp st := by
  have vk : vp_in (nI k) 6 := vp_in_nI (by omega) (by omega)
  have hz : yz (nI k).toNatClampNeg = nI n0 := by rw [nI_clamp (by omega)]; exact hl
  intro d
  induction d with
  | zero =>
    intro i st n hi hd Ag
    obtain ⟨m, rfl⟩ : ∃ m, n = m + 1 := ⟨n - 1, by omega⟩
    obtain rfl : i = n0 := by omega
    refine ⟨vk, br_t (by rw [hz]; exact nI_le (Nat.le_refl _) (by omega)) ?_⟩
    rw [Ag 0 (by omega)]
    exact hpost st
  | succ d ih =>
    intro i st n hi hd Ag
    obtain ⟨m, rfl⟩ : ∃ m, n = m + 1 := ⟨n - 1, by omega⟩
    obtain ⟨w1, w2, w3, w4, w5⟩ := W i (by omega)
    obtain ⟨t1, t2⟩ := T i (by omega)
    have h6 := ps_H_le W i (by omega)
    have hs : ps_H K (i + 1) = ps_H K i - ps_tk (K i) + 1 := rfl
    have key : ∀ (v : Int32) (b h' : Nat), b = ps_H K i - ps_tk (K i) → h' = b + 1 → v = ps_tv src G (K i) (A i) cx cy st b → wY_formula_6 post (nI k) (nI cx - 8) (nI cy - 8) ns ht m (nI h') (nI (i + 1)) src yz yk ya yw yp (upd st b v) := by
      intro v b h' eb eh ev
      subst eb eh
      exact ih (i + 1) _ m (by omega) (by omega) (ps_step Ag w1 w2 ev)
    have vi : vp_in (14 * nI k + nI i) 84 := by rw [ps_14]; exact vp_in_nI (by omega) (by omega)
    have ec : (14 * nI k + nI i).toNatClampNeg = 14 * k + i := by rw [ps_14, nI_clamp (by omega)]
    refine ⟨vk, br_f (by rw [hz]; exact nI_ge (by omega) (by omega)) ⟨vi, nm_r (e' := nI (K i)) (by rw [ec]; exact t1) ?_⟩⟩
    generalize ps_H K i = h at *
    generalize hkd : K i = kd at *
    refine pk_le 5 kd (fun h5 => ?_) (fun h5 => ?_)
    · clear w4 w5
      have tp := ps_tk_pos h5
      have s1 : nI h - 1 = nI (h - 1) := pk_sub (b := 1) (by omega)
      have v1 : vp_in (nI h - 1) 14 := by rw [s1]; exact vp_in_nI (by omega) (by omega)
      have c1 : (nI h - 1).toNatClampNeg = h - 1 := by rw [s1, nI_clamp (by omega)]
      refine pk_eq kd 10 (fun h10 => ?_) (fun n10 => ?_)
      · subst h10
        have w2 : 1 ≤ h := w2
        refine ⟨v1, v1, nm_r (e' := upd st (h - 1) (st (h - 1) >>> ((1 : Int32) &&& 31))) (by rw [c1]) (nm_r (nI_1 i) ?_)⟩
        exact key _ (h - 1) h rfl (by omega) (by rw [ps_tv_hi (by omega)]; rfl)
      · refine pk_eq kd 12 (fun h12 => ?_) (fun n12 => ?_)
        · subst h12
          have w2 : 3 ≤ h := w2
          have s2 : nI h - 2 = nI (h - 2) := pk_sub (b := 2) (by omega)
          have s3 : nI h - 3 = nI (h - 3) := pk_sub (b := 3) (by omega)
          have v2 : vp_in (nI h - 2) 14 := by rw [s2]; exact vp_in_nI (by omega) (by omega)
          have c2 : (nI h - 2).toNatClampNeg = h - 2 := by rw [s2, nI_clamp (by omega)]
          have v3 : vp_in (nI h - 3) 14 := by rw [s3]; exact vp_in_nI (by omega) (by omega)
          have c3 : (nI h - 3).toNatClampNeg = h - 3 := by rw [s3, nI_clamp (by omega)]
          have et : ps_tv src G 12 (A i) cx cy st (h - 3) = if 0 < st (h - 3) then st (h - 2) else st (h - 1) := by
            rw [ps_tv_hi (by omega), show h - 2 = h - 3 + 1 from by omega, show h - 1 = h - 3 + 2 from by omega]; rfl
          refine ⟨v3, ?_⟩
          rw [c1, c2, c3]
          by_cases q : 0 < st (h - 3)
          · refine br_f (Int32.not_le.mpr q) ⟨v2, v3, nm_r (e' := upd st (h - 3) (st (h - 2))) (by rw [c3]) (nm_r s2 (nm_r (nI_1 i) ?_))⟩
            exact key _ (h - 3) (h - 2) rfl (by omega) (by rw [et, if_pos q])
          · refine br_t (Int32.not_lt.mp q) ⟨v1, v3, nm_r (e' := upd st (h - 3) (st (h - 1))) (by rw [c3]) (nm_r s2 (nm_r (nI_1 i) ?_))⟩
            exact key _ (h - 3) (h - 2) rfl (by omega) (by rw [et, if_neg q])
        · have e2 : ps_tk kd = 2 := by
            unfold ps_tk; rw [if_neg (by omega), if_neg (by omega), if_neg (by omega)]
          rw [e2] at w2
          have s2 : nI h - 2 = nI (h - 2) := pk_sub (b := 2) (by omega)
          have v2 : vp_in (nI h - 2) 14 := by rw [s2]; exact vp_in_nI (by omega) (by omega)
          have c2 : (nI h - 2).toNatClampNeg = h - 2 := by rw [s2, nI_clamp (by omega)]
          refine ⟨v2, v1, ?_⟩
          rw [c1, c2]
          refine yh_comb kd (st (h - 2)) (st (h - 1)) (st h) h5 (by omega) n10 ?_
          refine ⟨v2, nm_e (nm_r (ps_mm (by omega)) (nm_r (nI_1 i) ?_))⟩
          refine key _ (h - 2) (h - 1) (by omega) (by omega) ?_
          rw [ps_tv_hi h5, show h - 2 + 1 = h - 1 from by omega, show h - 2 + 2 = h from by omega]
    · have e0 : ps_tk kd = 0 := by
        unfold ps_tk; rw [if_pos (by omega)]
      refine ⟨vi, ?_⟩
      rw [ec, t2]
      refine yh_simple (G := G) kd (A i) k cx cy (by omega) hk hr w4 w5 hp ?_
      refine ⟨vp_in_nI (by omega) (by omega), nm_r (e' := upd st h (ps_simple src G kd (A i) cx cy)) (by rw [nI_clamp (by omega)]) (nm_r (nI_1 _) (nm_r (nI_1 _) ?_))⟩
      exact key _ h (h + 1) (by omega) rfl (by rw [ps_tv_lo (by omega)])
theorem yh_formula {post : Int32 → SY → Prop} {G : Nat → Nat → Nat → Int32} {K : Nat → Nat} {A : Nat → Int32} {cx cy k n0 : Nat} (hk : k < 5) (hr : ps_rg k cx cy) (hn : n0 ≤ 14) (W : ps_WF k K A n0) (H1 : ps_H K n0 = 1) (T : ps_Tk yk ya (14 * k) n0 K A) (hl : yz k = nI n0) (hp : ps_Pic yp G k) (hpost : ∀ st : Nat → Int32, post (ps_S src G K A cx cy n0 0) (ns, ht, src, yz, yk, ya, yw, yp, st)) : wpY_formula post (ns, ht, src, yz, yk, ya, yw, yp, ys) (nI k) (nI cx - 8) (nI cy - 8) :=
  ⟨n0 + 1, yf_loop hk hr hn W H1 T hl hp hpost n0 0 ys (n0 + 1) (by omega) (by omega) (fun j hj => absurd hj (Nat.not_lt_zero j))⟩
theorem yw_12 {post : SY → Prop} {J2 : Int32 → Int32 → Int32 → (Nat → Int32) → (Nat → Int32) → (Nat → Int32) → (Nat → Int32) → (Nat → Int32) → (Nat → Int32) → (Nat → Int32) → Prop} {G : Nat → Nat → Nat → Int32} {K : Nat → Nat → Nat} {A : Nat → Nat → Int32} {L : Nat → Nat} {k : Nat} (hk : k < 5) (hn : L k ≤ 14) (W : ps_WF k (K k) (A k) (L k)) (H1 : ps_H (K k) (L k) = 1) (T : ps_Tk yk ya (14 * k) (L k) (K k) (A k)) (hl : yz k = nI (L k)) (hJ : ∀ p st : Nat → Int32, ps_Pic p G k → ps_Dn p (ps_ev src K A L G k) k 528 → J2 (nI (k + 1)) ns ht src yz yk ya yw p st) : ∀ (d c : Nat) (p st : Nat → Int32) (n : Nat), c + d = 528 → d < n → ps_Pic p G k → ps_Dn p (ps_ev src K A L G k) k c → wY_work_12 post J2 (nI k) n (nI c) ns ht src yz yk ya yw p st := by
  have e15 : 15 - nI k = nI (23 - k) - 8 := by
    rw [← pk_sub (a := 23) (b := k) (by omega), show nI 23 = 23 from rfl]; grind
  have e13 : 13 - nI k = nI (21 - k) - 8 := by
    rw [← pk_sub (a := 21) (b := k) (by omega), show nI 21 = 21 from rfl]; grind
  intro d
  induction d with
  | zero =>
    intro c p st n hc hd hp hD
    obtain ⟨m, rfl⟩ : ∃ m, n = m + 1 := ⟨n - 1, by omega⟩
    obtain rfl : c = 528 := by omega
    refine br_t (by decide) (nm_r (nI_1 k) ?_)
    exact hJ p st hp hD
  | succ d ih =>
    intro c p st n hc hd hp hD
    obtain ⟨m, rfl⟩ : ∃ m, n = m + 1 := ⟨n - 1, by omega⟩
    obtain ⟨cx, cy, hx, rfl⟩ : ∃ cx cy, cx < 24 ∧ c = 24 * cy + cx := ⟨c % 24, c / 24, by omega, by omega⟩
    have skip : ¬ ps_rg k cx cy → wY_work_12 post J2 (nI k) m (nI (24 * cy + cx + 1)) ns ht src yz yk ya yw p st := fun hr => ih _ p st m (by omega) (by omega) hp (ps_Dn_skip hD hr hx)
    refine br_f (nI_ge (b := 528) (by omega) (by decide)) ⟨by decide, nm_r (e' := nI cx - 8) (by rw [ps_rem24 (by omega), show (24 * cy + cx) % 24 = cx from by omega]) ⟨by decide, nm_r (e' := nI cy - 8) (by rw [ps_div24 (by omega), show (24 * cy + cx) / 24 = cy from by omega]) ?_⟩⟩
    rw [e15, e13]
    refine br_c (fun q => nm_r (nI_1 _) (skip ?_)) (fun q1 => br_c (fun q => nm_r (nI_1 _) (skip ?_)) (fun q2 => br_c (fun q => nm_r (nI_1 _) (skip ?_)) (fun q3 => br_c (fun q => nm_r (nI_1 _) (skip ?_)) (fun q4 => ?_))))
    · rw [ps_lt8 (by omega) (by omega)] at q
      rintro ⟨r1, r2, r3, r4⟩; omega
    · rw [ps_lt8 (by omega) (by omega)] at q
      rintro ⟨r1, r2, r3, r4⟩; omega
    · rw [ps_lt8 (by omega) (by omega)] at q
      rintro ⟨r1, r2, r3, r4⟩; omega
    · rw [ps_lt8 (by omega) (by omega)] at q
      rintro ⟨r1, r2, r3, r4⟩; omega
    · rw [ps_lt8 (by omega) (by omega)] at q1 q2 q3 q4
      have hr : ps_rg k cx cy := ⟨by omega, by omega, by omega, by omega⟩
      have ei : 528 * nI k + nI (24 * cy + cx) = nI (528 * k + 24 * cy + cx) := by
        rw [show (528 : Int32) = nI 528 from rfl, pk_mul, nI_add]; exact congrArg nI (by omega)
      refine yh_formula hk hr hn W H1 T hl hp (fun st' => ?_)
      refine ⟨by rw [ei]; exact vp_in_nI (by omega) (by omega), nm_r (by rw [ei, nI_clamp (by omega)]) (nm_r (nI_1 _) ?_)⟩
      exact ih _ _ st' m (by omega) (by omega) (ps_Pic_upd hp hr) (ps_Dn_upd hD hr)
theorem yw_2 {post : SY → Prop} {K : Nat → Nat → Nat} {A : Nat → Nat → Int32} {L : Nat → Nat} {s : Nat} (hs : s ≤ 5) (ok : ps_Ok s K A L) (T : ps_Tab yk ya yz s K A L) (hpost : ∀ p st : Nat → Int32, ps_Pic p (ps_G src K A L s) s → post (nI s, ht, src, yz, yk, ya, yw, p, st)) : ∀ (d k : Nat) (p st : Nat → Int32) (n : Nat), k + d = s → d < n → ps_Pic p (ps_G src K A L k) k → wY_work_2 post n (nI k) (nI s) ht src yz yk ya yw p st := by
  intro d
  induction d with
  | zero =>
    intro k p st n hc hd hp
    obtain ⟨m, rfl⟩ : ∃ m, n = m + 1 := ⟨n - 1, by omega⟩
    obtain rfl : k = s := by omega
    refine br_t (nI_le (Nat.le_refl _) (by omega)) ?_
    exact hpost p st hp
  | succ d ih =>
    intro k p st n hc hd hp
    obtain ⟨m, rfl⟩ : ∃ m, n = m + 1 := ⟨n - 1, by omega⟩
    obtain ⟨o1, o2, o3⟩ := ok k (by omega)
    obtain ⟨t1, t2⟩ := T k (by omega)
    refine br_f (nI_ge (by omega) (by omega)) ⟨529, ?_⟩
    refine yw_12 (by omega) o1 o2 o3 t2 t1 (fun p' st' hp' hD' => ?_) 528 0 p st 529 (by omega) (by omega) hp (ps_Dn_00 _ _ _)
    exact ih (k + 1) p' st' m (by omega) (by omega) (ps_next src K A L hp' hD' (by omega))
theorem yh_work {post : SY → Prop} {K : Nat → Nat → Nat} {A : Nat → Nat → Int32} {L : Nat → Nat} {s : Nat} (hs : s ≤ 5) (ok : ps_Ok s K A L) (T : ps_Tab yk ya yz s K A L) (hpost : ∀ p st : Nat → Int32, ps_Pic p (ps_G src K A L s) s → post (nI s, ht, src, yz, yk, ya, yw, p, st)) : wpY_work post (nI s, ht, src, yz, yk, ya, yw, yp, ys) :=
  ⟨s + 1, yw_2 hs ok T hpost s 0 yp ys (s + 1) (by omega) (by omega) (ps_Pic_0 _ _)⟩
end PS7
