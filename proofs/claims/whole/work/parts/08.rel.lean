section PS8
/-- what both sides keep, beside their scratch -/
def ps_Inv (s d : Nat) (K : Nat → Nat → Nat) (A : Nat → Nat → Int32) (L : Nat → Nat) (DK : Nat → Nat) (DA : Nat → Int32) (xk xa xl xw dk da yz yk ya yw : Nat → Int32) : Prop :=
  s ≤ 5 ∧ d ≤ 14 ∧ ps_Ok s K A L ∧ ps_Tab xk xa xl s K A L ∧ ps_Tab yk ya yz s K A L ∧ ps_Tk dk da 0 d DK DA ∧ ps_Tk yk ya 70 d DK DA ∧ yz 5 = nI d ∧ ps_WF s DK DA d ∧ (∀ j, j < s → xw j = yw j)
def i_Rel (k : Nat) (u : SX) (v : SY) : Prop :=
  ∃ (s d : Nat) (K : Nat → Nat → Nat) (A : Nat → Nat → Int32) (L : Nat → Nat) (DK : Nat → Nat) (DA : Nat → Int32) (src xk xa xl xw dk da xp xs yz yk ya yw yp ys : Nat → Int32), u = (nI s, nI d, nI (ps_H DK d), src, xk, xa, xl, xw, dk, da, xp, xs) ∧ v = (nI s, nI (ps_H DK d), src, yz, yk, ya, yw, yp, ys) ∧ ps_Inv s d K A L DK DA xk xa xl xw dk da yz yk ya yw
theorem i_up {k : Nat} {u : SX} {v : SY} (h : i_Rel k u v) : i_Rel (k + 4) u v := h
section
variable {k s d : Nat} {K : Nat → Nat → Nat} {A : Nat → Nat → Int32} {L : Nat → Nat} {DK : Nat → Nat} {DA : Nat → Int32} {src xk xa xl xw dk da xp xs yz yk ya yw yp ys : Nat → Int32}
theorem ps_rel (h : ps_Inv s d K A L DK DA xk xa xl xw dk da yz yk ya yw) : i_Rel k (nI s, nI d, nI (ps_H DK d), src, xk, xa, xl, xw, dk, da, xp, xs) (nI s, nI (ps_H DK d), src, yz, yk, ya, yw, yp, ys) :=
  ⟨s, d, K, A, L, DK, DA, src, xk, xa, xl, xw, dk, da, xp, xs, yz, yk, ya, yw, yp, ys, rfl, rfl, h⟩
theorem ps_WF_0 (s : Nat) (K : Nat → Nat) (A : Nat → Int32) : ps_WF s K A 0 := fun i hi => absurd hi (Nat.not_lt_zero i)
theorem ps_Tk_0 (kk aa : Nat → Int32) (o : Nat) (K : Nat → Nat) (A : Nat → Int32) : ps_Tk kk aa o 0 K A := fun i hi => absurd hi (Nat.not_lt_zero i)
theorem ps_H_cg {K K' : Nat → Nat} {n : Nat} (h : ∀ i, i < n → K' i = K i) : ps_H K' n = ps_H K n := by
  induction n with
  | zero => rfl
  | succ m ih =>
    show ps_H K' m - ps_tk (K' m) + 1 = ps_H K m - ps_tk (K m) + 1
    rw [ih (fun i hi => h i (by omega)), h m (by omega)]
theorem ps_Inv_clear (h : ps_Inv s d K A L DK DA xk xa xl xw dk da yz yk ya yw) : ps_Inv s 0 K A L DK DA xk xa xl xw dk da (upd yz 5 0) yk ya yw := by
  obtain ⟨h1, h2, h3, h4, h5, h6, h7, h8, h9, h10⟩ := h
  refine ⟨h1, by omega, h3, h4, ?_, ps_Tk_0 _ _ _ _ _, ps_Tk_0 _ _ _ _ _, pk_us, ps_WF_0 _ _ _, h10⟩
  intro j hj
  rw [pk_un (by omega)]
  exact h5 j hj
/-- a token's argument fits -/
def ps_fit (s kd : Nat) (a : Int32) : Prop := (kd = 0 → -99 ≤ a ∧ a ≤ 99) ∧ (kd = 3 → ∃ b : Nat, b < 9 ∧ a = nI b) ∧ (kd = 4 → ∃ b : Nat, b < 9 * s ∧ a = nI b)
theorem ps_Inv_tok (h : ps_Inv s d K A L DK DA xk xa xl xw dk da yz yk ya yw) {kd : Nat} {a : Int32} (hd : d < 14) (hk : kd ≤ 12) (ht : ps_tk kd ≤ ps_H DK d) (h6 : ps_H DK d - ps_tk kd + 1 ≤ 6) (hf : ps_fit s kd a) : ps_Inv s (d + 1) K A L (fun i => if i = d then kd else DK i) (fun i => if i = d then a else DA i) xk xa xl xw (upd dk d (nI kd)) (upd da d a) (upd yz 5 (nI (d + 1))) (upd yk (70 + d) (nI kd)) (upd ya (70 + d) a) yw := by
  obtain ⟨h1, h2, h3, h4, h5, g6, h7, h8, h9, h10⟩ := h
  have cg : ∀ n, n ≤ d → ps_H (fun i => if i = d then kd else DK i) n = ps_H DK n := fun n hn => ps_H_cg (fun i hi => if_neg (by omega))
  refine ⟨h1, by omega, h3, h4, ?_, ?_, ?_, pk_us, ?_, h10⟩
  · intro j hj
    obtain ⟨a1, a2⟩ := h5 j hj
    have l := (h3 j hj).1
    refine ⟨by rw [pk_un (by omega)]; exact a1, ?_⟩
    intro i hi
    rw [pk_un (by omega), pk_un (by omega)]
    exact a2 i hi
  · intro i hi
    rw [Nat.zero_add]
    by_cases e : i = d
    · subst e
      rw [pk_us, pk_us]
      exact ⟨congrArg nI (if_pos rfl).symm, (if_pos rfl).symm⟩
    · have q := g6 i (by omega)
      rw [Nat.zero_add] at q
      rw [pk_un e, pk_un e]
      exact ⟨q.1.trans (congrArg nI (if_neg e).symm), q.2.trans (if_neg e).symm⟩
  · intro i hi
    by_cases e : i = d
    · subst e
      rw [pk_us, pk_us]
      exact ⟨congrArg nI (if_pos rfl).symm, (if_pos rfl).symm⟩
    · have q := h7 i (by omega)
      rw [pk_un (by omega), pk_un (by omega)]
      exact ⟨q.1.trans (congrArg nI (if_neg e).symm), q.2.trans (if_neg e).symm⟩
  · intro i hi
    by_cases e : i = d
    · subst e
      show (if i = i then kd else DK i) ≤ 12 ∧ ps_tk (if i = i then kd else DK i) ≤ ps_H _ i ∧ ps_H _ i - ps_tk (if i = i then kd else DK i) + 1 ≤ 6 ∧ ((if i = i then kd else DK i) = 3 → ∃ b : Nat, b < 9 ∧ (if i = i then a else DA i) = nI b) ∧ ((if i = i then kd else DK i) = 4 → ∃ b : Nat, b < 9 * s ∧ (if i = i then a else DA i) = nI b)
      rw [if_pos rfl, if_pos rfl, cg i (by omega)]
      exact ⟨hk, ht, h6, hf.2.1, hf.2.2⟩
    · have c1 := cg (i + 1) (by omega)
      have c2 := cg i (by omega)
      obtain ⟨w1, w2, w3, w4, w5⟩ := h9 i (by omega)
      rw [c1, c2]
      show (if i = d then kd else DK i) ≤ 12 ∧ ps_tk (if i = d then kd else DK i) ≤ ps_H DK i ∧ _ ∧ ((if i = d then kd else DK i) = 3 → ∃ b : Nat, b < 9 ∧ (if i = d then a else DA i) = nI b) ∧ ((if i = d then kd else DK i) = 4 → ∃ b : Nat, b < 9 * s ∧ (if i = d then a else DA i) = nI b)
      rw [if_neg e, if_neg e]
      exact ⟨w1, w2, w3, w4, w5⟩
theorem ps_Inv_stage (h : ps_Inv s d K A L DK DA xk xa xl xw dk da yz yk ya yw) (hs : s < 5) (h1 : ps_H DK d = 1) {xk' xa' yk' ya' : Nat → Int32} (X1 : ∀ q, q < 14 * s → xk' q = xk q ∧ xa' q = xa q) (X2 : ∀ i, i < d → xk' (14 * s + i) = dk i ∧ xa' (14 * s + i) = da i) (Y1 : ∀ q, q < 14 * s → yk' q = yk q ∧ ya' q = ya q) (Y2 : ∀ i, i < 14 → yk' (14 * s + i) = yk (70 + i) ∧ ya' (14 * s + i) = ya (70 + i)) : ps_Inv (s + 1) 0 (fun j => if j = s then DK else K j) (fun j => if j = s then DA else A j) (fun j => if j = s then d else L j) DK DA xk' xa' (upd xl s (nI d)) (upd xw s 0) dk da (upd (upd yz s (nI d)) 5 0) yk' ya' (upd yw s 0) := by
  obtain ⟨q1, q2, q3, q4, q5, q6, q7, q8, q9, q10⟩ := h
  refine ⟨by omega, by omega, ?_, ?_, ?_, ps_Tk_0 _ _ _ _ _, ps_Tk_0 _ _ _ _ _, pk_us, ps_WF_0 _ _ _, ?_⟩
  · intro j hj
    by_cases e : j = s
    · subst e
      dsimp only
      rw [if_pos rfl, if_pos rfl, if_pos rfl]
      exact ⟨q2, q9, h1⟩
    · dsimp only
      rw [if_neg e, if_neg e, if_neg e]
      exact q3 j (by omega)
  · intro j hj
    by_cases e : j = s
    · subst e
      dsimp only
      rw [if_pos rfl, if_pos rfl, if_pos rfl, pk_us]
      refine ⟨rfl, fun i hi => ?_⟩
      have a := X2 i hi
      have b := q6 i hi
      rw [Nat.zero_add] at b
      exact ⟨a.1.trans b.1, a.2.trans b.2⟩
    · dsimp only
      rw [if_neg e, if_neg e, if_neg e, pk_un e]
      obtain ⟨a1, a2⟩ := q4 j (by omega)
      have l := (q3 j (by omega)).1
      refine ⟨a1, fun i hi => ?_⟩
      have a := X1 (14 * j + i) (by omega)
      have b := a2 i hi
      exact ⟨a.1.trans b.1, a.2.trans b.2⟩
  · intro j hj
    by_cases e : j = s
    · subst e
      dsimp only
      rw [if_pos rfl, if_pos rfl, if_pos rfl, pk_un (by omega), pk_us]
      refine ⟨rfl, fun i hi => ?_⟩
      have a := Y2 i (by omega)
      have b := q7 i hi
      exact ⟨a.1.trans b.1, a.2.trans b.2⟩
    · dsimp only
      rw [if_neg e, if_neg e, if_neg e, pk_un (by omega), pk_un e]
      obtain ⟨a1, a2⟩ := q5 j (by omega)
      have l := (q3 j (by omega)).1
      refine ⟨a1, fun i hi => ?_⟩
      have a := Y1 (14 * j + i) (by omega)
      have b := a2 i hi
      exact ⟨a.1.trans b.1, a.2.trans b.2⟩
  · intro j hj
    by_cases e : j = s
    · subst e
      rw [pk_us, pk_us]
    · rw [pk_un e, pk_un e]
      exact q10 j (by omega)
/-- token i of the draft speaks of stage t -/
def ps_sp (t : Nat) (DK : Nat → Nat) (DA : Nat → Int32) (i : Nat) : Prop := DK i = 4 ∧ DA i / 9 = nI t
theorem ps_Inv_drop {t : Nat} (h : ps_Inv (t + 1) d K A L DK DA xk xa xl xw dk da yz yk ya yw) (hn : ¬ ∃ j, j < d ∧ ps_sp t DK DA j) : ps_Inv t d K A L DK DA xk xa xl xw dk da yz yk ya yw := by
  obtain ⟨q1, q2, q3, q4, q5, q6, q7, q8, q9, q10⟩ := h
  refine ⟨by omega, q2, fun j hj => q3 j (by omega), fun j hj => q4 j (by omega), fun j hj => q5 j (by omega), q6, q7, q8, ?_, fun j hj => q10 j (by omega)⟩
  intro i hi
  obtain ⟨w1, w2, w3, w4, w5⟩ := q9 i hi
  refine ⟨w1, w2, w3, w4, fun e => ?_⟩
  obtain ⟨b, hb, eb⟩ := w5 e
  refine ⟨b, ?_, eb⟩
  have z : b / 9 ≠ t := by
    intro z
    exact hn ⟨i, hi, e, by rw [eb, ps_div9 (by omega), z]⟩
  omega
theorem ps_Inv_drop0 {t : Nat} (h : ps_Inv (t + 1) d K A L DK DA xk xa xl xw dk da yz yk ya yw) : ps_Inv t 0 K A L DK DA xk xa xl xw dk da (upd yz 5 0) yk ya yw := by
  obtain ⟨q1, q2, q3, q4, q5, q6, q7, q8, q9, q10⟩ := ps_Inv_clear h
  exact ⟨by omega, q2, fun j hj => q3 j (by omega), fun j hj => q4 j (by omega), fun j hj => q5 j (by omega), q6, q7, q8, ps_WF_0 _ _ _, fun j hj => q10 j (by omega)⟩
theorem ps_Inv_way (h : ps_Inv s d K A L DK DA xk xa xl xw dk da yz yk ya yw) (j : Nat) (w : Int32) : ps_Inv s d K A L DK DA xk xa xl (upd xw j w) dk da yz yk ya (upd yw j w) := by
  obtain ⟨q1, q2, q3, q4, q5, q6, q7, q8, q9, q10⟩ := h
  refine ⟨q1, q2, q3, q4, q5, q6, q7, q8, q9, fun i hi => ?_⟩
  by_cases e : i = j
  · subst e
    rw [pk_us, pk_us]
  · rw [pk_un e, pk_un e]
    exact q10 i hi
end
theorem i_vc0 : wpX_init (fun u => wpY_init (fun v => i_Rel 0 u v)) :=
  ps_rel (k := 0) (s := 0) (d := 0) (K := fun _ _ => 0) (A := fun _ _ => 0) (L := fun _ => 0) (DK := fun _ => 0) (DA := fun _ => 0) ⟨by omega, by omega, fun j hj => absurd hj (Nat.not_lt_zero j), fun j hj => absurd hj (Nat.not_lt_zero j), fun j hj => absurd hj (Nat.not_lt_zero j), ps_Tk_0 _ _ _ _ _, ps_Tk_0 _ _ _ _ _, rfl, ps_WF_0 _ _ _, fun j hj => absurd hj (Nat.not_lt_zero j)⟩
end PS8
