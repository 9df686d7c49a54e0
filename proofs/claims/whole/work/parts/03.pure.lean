section PS3
theorem ps_tk_pos {kd : Nat} (h : 5 ≤ kd) : 1 ≤ ps_tk kd := by
  unfold ps_tk
  repeat' split
  all_goals omega
theorem ps_tk_le (kd : Nat) : ps_tk kd ≤ 3 := by
  unfold ps_tk
  repeat' split
  all_goals omega
theorem ps_comb_cg {kd b h : Nat} {st S : Nat → Int32} (hk : 5 ≤ kd) (hk2 : kd ≤ 12) (ht : b + ps_tk kd ≤ h) (H : ps_Ag st S h) : ps_comb kd (st b) (st (b + 1)) (st (b + 2)) = ps_comb kd (S b) (S (b + 1)) (S (b + 2)) := by
  have e0 : st b = S b := H b (by have := ps_tk_pos hk; omega)
  have c : kd = 5 ∨ kd = 6 ∨ kd = 7 ∨ kd = 8 ∨ kd = 9 ∨ kd = 10 ∨ kd = 11 ∨ kd = 12 := by omega
  rcases c with rfl | rfl | rfl | rfl | rfl | rfl | rfl | rfl
  · have ht : b + 2 ≤ h := ht
    simp [ps_comb, e0, H (b + 1) (by omega)]
  · have ht : b + 2 ≤ h := ht
    simp [ps_comb, e0, H (b + 1) (by omega)]
  · have ht : b + 2 ≤ h := ht
    simp [ps_comb, e0, H (b + 1) (by omega)]
  · have ht : b + 2 ≤ h := ht
    simp [ps_comb, e0, H (b + 1) (by omega)]
  · have ht : b + 2 ≤ h := ht
    simp [ps_comb, e0, H (b + 1) (by omega)]
  · simp [ps_comb, e0]
  · have ht : b + 2 ≤ h := ht
    simp [ps_comb, e0, H (b + 1) (by omega)]
  · have ht : b + 3 ≤ h := ht
    simp [ps_comb, e0, H (b + 1) (by omega), H (b + 2) (by omega)]
/-- one step of the stack -/
theorem ps_step {src : Nat → Int32} {G : Nat → Nat → Nat → Int32} {K : Nat → Nat} {A : Nat → Int32} {cx cy i : Nat} {st : Nat → Int32} {v : Int32} (H : ps_Ag st (ps_S src G K A cx cy i) (ps_H K i)) (hk : K i ≤ 12) (ht : ps_tk (K i) ≤ ps_H K i) (hv : v = ps_tv src G (K i) (A i) cx cy st (ps_H K i - ps_tk (K i))) : ps_Ag (upd st (ps_H K i - ps_tk (K i)) v) (ps_S src G K A cx cy (i + 1)) (ps_H K (i + 1)) := by
  have e : v = ps_tv src G (K i) (A i) cx cy (ps_S src G K A cx cy i) (ps_H K i - ps_tk (K i)) := by
    rw [hv]
    unfold ps_tv
    by_cases h4 : K i ≤ 4
    · rw [if_pos h4, if_pos h4]
    · rw [if_neg h4, if_neg h4]
      exact ps_comb_cg (by omega) hk (by omega) H
  rw [e, ps_H_s]
  exact ps_Ag_upd H (by omega)
theorem ps_n9 {t : Nat} (h : t < 1000) : nI t - 9 < 0 ↔ t < 9 := by
  rw [Int32.lt_iff_toInt_lt, show (nI t - 9).toInt = (t : Int) - 9 from ps_ti t 9 h (by omega), show (0 : Int32).toInt = 0 from by decide]
  omega
theorem ps_n9' {t : Nat} (h : t < 1000) : 0 ≤ nI t - 9 ↔ 9 ≤ t := by
  rw [Int32.le_iff_toInt_le, show (nI t - 9).toInt = (t : Int) - 9 from ps_ti t 9 h (by omega), show (0 : Int32).toInt = 0 from by decide]
  omega
theorem ps_n9m {t m : Nat} (h : t < 1000) (hm : m < 1000) : nI t - 9 ≤ nI m ↔ t ≤ m + 9 := by
  rw [Int32.le_iff_toInt_le, show (nI t - 9).toInt = (t : Int) - 9 from ps_ti t 9 h (by omega), nI_toInt (by omega)]
  omega
theorem ps_n9n {t m : Nat} (h : t < 1000) (hm : m < 1000) : nI m < nI t - 9 ↔ m + 9 < t := by
  rw [Int32.lt_iff_toInt_lt, show (nI t - 9).toInt = (t : Int) - 9 from ps_ti t 9 h (by omega), nI_toInt (by omega)]
  omega
theorem ps_n99 {t : Nat} (h : 9 ≤ t) : nI t - 9 = nI (t - 9) := pk_sub h
theorem ps_cl_lt (t m : Nat) : ps_cl t m ≤ m := by
  unfold ps_cl
  repeat' split
  all_goals omega
/-- a number of a range as a natural less 8 -/
theorem ps_of {x : Int32} {lo hi : Int} (h1 : lo ≤ x.toInt) (h2 : x.toInt < hi) (hlo : -8 ≤ lo) (hhi : hi ≤ 100) : ∃ c : Nat, lo + 8 ≤ (c : Int) ∧ (c : Int) < hi + 8 ∧ x = nI c - 8 := by
  refine ⟨(x.toInt + 8).toNat, by omega, by omega, ?_⟩
  apply Int32.toInt_inj.mp
  rw [show (nI (x.toInt + 8).toNat - 8).toInt = (((x.toInt + 8).toNat : Nat) : Int) - 8 from ps_ti _ 8 (by omega) (by omega)]
  omega
theorem ps_rem9 {b : Nat} (h : b < 1000) : nI b - nI b / 9 * 9 = nI (b % 9) := pk_rem (d := 9) (by omega) (by omega) (by omega)
theorem ps_rem3 {b : Nat} (h : b < 1000) : nI b - nI b / 3 * 3 = nI (b % 3) := pk_rem (d := 3) (by omega) (by omega) (by omega)
theorem ps_div9 {b : Nat} (h : b < 1000) : nI b / 9 = nI (b / 9) := pk_div (d := 9) (by omega) (by omega) (by omega)
theorem ps_div3 {b : Nat} (h : b < 1000) : nI b / 3 = nI (b / 3) := pk_div (d := 3) (by omega) (by omega) (by omega)
theorem ps_rem8 {b : Nat} (h : b < 1000) : nI b - nI b / 8 * 8 = nI (b % 8) := pk_rem (d := 8) (by omega) (by omega) (by omega)
theorem ps_div8 {b : Nat} (h : b < 1000) : nI b / 8 = nI (b / 8) := pk_div (d := 8) (by omega) (by omega) (by omega)
theorem ps_rem24 {b : Nat} (h : b < 1000) : nI b - nI b / 24 * 24 = nI (b % 24) := pk_rem (d := 24) (by omega) (by omega) (by omega)
theorem ps_div24 {b : Nat} (h : b < 1000) : nI b / 24 = nI (b / 24) := pk_div (d := 24) (by omega) (by omega) (by omega)
end PS3
