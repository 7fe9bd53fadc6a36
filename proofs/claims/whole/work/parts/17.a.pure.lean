/-! Both ways of reckoning are one: the nearest lift, the stops, who gets out, who comes in. -/
def lvK (x : Int32) : Prop := ∃ j : Nat, j < 20 ∧ x = nI j
def ldK (x : Int32) : Prop := ∃ j : Nat, j ≤ 50 ∧ x = nI j
theorem lvK_0 : lvK 0 := ⟨0, by omega, rfl⟩
theorem ldK_0 : ldK 0 := ⟨0, by omega, rfl⟩
theorem lvK_ne {x : Int32} (h : lvK x) : ¬ x = -1 := by
  obtain ⟨j, hj, rfl⟩ := h
  intro e
  have := congrArg Int32.toInt e
  rw [nI_toInt (by omega)] at this
  have h1 : (-1 : Int32).toInt = -1 := by decide
  omega
theorem nI_ne1 {j : Nat} (h : j < 2 ^ 31) : ¬ nI j = -1 := by
  intro e
  have := congrArg Int32.toInt e
  rw [nI_toInt h] at this
  have h1 : (-1 : Int32).toInt = -1 := by decide
  omega
theorem nI_sub {a b : Nat} (ha : a < 2 ^ 30) (hb : b < 2 ^ 30) : (nI a - nI b).toInt = (a : Int) - b := pk_sub_toInt ha hb
theorem t1 : (1 : Int32).toInt = 1 := by decide
theorem t0 : (0 : Int32).toInt = 0 := by decide
theorem t20 : (20 : Int32).toInt = 20 := by decide
theorem le_iff {a b : Int32} : a ≤ b ↔ a.toInt ≤ b.toInt := Int32.le_iff_toInt_le
/-- the distance -/
theorem far_abs {x y : Int32} (hx : lvK x) (hy : lvK y) : absI (x - y) = farI x y ∧ (farI x y).toInt < 20 ∧ 0 ≤ (farI x y).toInt := by
  obtain ⟨a, ha, rfl⟩ := hx
  obtain ⟨b, hb, rfl⟩ := hy
  have e0 : (0 : Int32).toInt = 0 := by decide
  have h1 := nI_sub (a := a) (b := b) (by omega) (by omega)
  have h2 := nI_sub (a := b) (b := a) (by omega) (by omega)
  have ta := nI_toInt (n := a) (by omega)
  have tb := nI_toInt (n := b) (by omega)
  unfold absI farI
  by_cases h : a ≤ b
  · rw [if_pos (show nI a ≤ nI b from le_iff.mpr (by omega))]
    refine ⟨?_, by omega, by omega⟩
    by_cases h3 : a = b
    · subst h3
      rw [if_pos (le_iff.mpr (by rw [h1, e0]; omega))]
    · rw [if_neg (fun q => by have := le_iff.mp q; rw [h1, e0] at this; omega)]
      rw [Int32.sub_eq_add_neg 0, Int32.zero_add, Int32.neg_sub]
  · rw [if_neg (show ¬ nI a ≤ nI b from fun q => by have := le_iff.mp q; omega), if_pos (le_iff.mpr (by rw [h1, e0]; omega))]
    exact ⟨rfl, by omega, by omega⟩
/-- the nearest lift is the same -/
theorem near_eq {L B : Nat → Nat → Int32} {fr ld : Int32} (hf : lvK fr) (hL : ∀ k, lvK (L 0 k)) : ∀ n, nlF L B fr ld n = (match nmF L B fr ld n with
    | none => (-1, 20)
    | some b => (nI b, farI (L 0 b) fr))
  | 0 => rfl
  | n + 1 => by
    have ih := near_eq (B := B) (ld := ld) hf hL n
    have hd := far_abs (hL n) hf
    rw [nlF, nmF, ih, hd.1]
    by_cases hg : getB L B n ld = true
    · rw [if_pos hg, hg]
      cases hm : nmF L B fr ld n with
      | none =>
        simp only [Bool.true_and]
        rw [if_pos (decide_eq_true (i32_lt.mpr (by have e20 : (20 : Int32).toInt = 20 := by decide
                                                   rw [e20]; exact hd.2.1)))]
      | some b =>
        simp only [Bool.true_and]
        by_cases hlt : farI (L 0 n) fr < farI (L 0 b) fr
        · rw [if_pos (decide_eq_true hlt), if_pos hlt]
        · rw [if_neg (by simp [hlt]), if_neg hlt]
    · rw [if_neg hg, if_neg (by simp [hg])]
theorem near_enc {L B : Nat → Nat → Int32} {fr ld : Int32} (hf : lvK fr) (hL : ∀ k, lvK (L 0 k)) (n : Nat) : (nlF L B fr ld n).1 = encO (nmF L B fr ld n) := by
  rw [near_eq hf hL n]
  cases nmF L B fr ld n <;> rfl
theorem bI_not {x : Int32} : bI (!decide (x = -1)) = if x = -1 then 0 else 1 := by
  by_cases h : x = -1 <;> simp [h, bI]
/-- calls given anew -/
theorem give_eq {L B : Nat → Nat → Int32} {nL : Nat} {lf : Int32} {C : Nat → Nat → Int32} (hL : ∀ k, lvK (L 0 k)) (hC : ∀ k, lvK (C 0 k)) : ∀ n, gaF L B nL lf C n = gmF L B nL lf C n ∧ (∀ j, j ≠ 5 → (gmF L B nL lf C n).1 j = C j)
  | 0 => ⟨rfl, fun _ _ => rfl⟩
  | n + 1 => by
    obtain ⟨ih, ih2⟩ := give_eq (B := B) (nL := nL) (lf := lf) hL hC n
    have h0 : (gmF L B nL lf C n).1 0 = C 0 := ih2 0 (by decide)
    rw [gaF, gmF, ih]
    by_cases hb : isB (gmF L B nL lf C n).1 n 0 lf = true
    · rw [if_pos hb, if_pos hb]
      have hf : lvK ((gmF L B nL lf C n).1 0 n) := by rw [h0]; exact hC n
      rw [near_enc hf hL nL, bI_not]
      exact ⟨rfl, fun j hj => (upC_n (C := (gmF L B nL lf C n).1) hj).trans (ih2 j hj)⟩
    · rw [if_neg hb, if_neg hb]
      exact ⟨rfl, ih2⟩
theorem give_5 {L B : Nat → Nat → Int32} {nL : Nat} {lf : Int32} {C : Nat → Nat → Int32} : ∀ n k, ¬ C 4 k = 0 → (∀ m, (gmF L B nL lf C m).1 4 = C 4) → (gmF L B nL lf C n).1 5 k = C 5 k
  | 0, _, _, _ => rfl
  | n + 1, k, hk, h4 => by
    have ih := give_5 (L := L) (B := B) (nL := nL) (lf := lf) n k hk h4
    rw [gmF]
    by_cases hb : isB (gmF L B nL lf C n).1 n 0 lf = true
    · rw [if_pos hb]
      have hne : k ≠ n := fun e => by
        subst e
        exact hk (by rw [← h4 k]; exact isB_st hb)
      show upC (gmF L B nL lf C n).1 5 n _ 5 k = C 5 k
      rw [show upC (gmF L B nL lf C n).1 5 n (encO (nmF L B ((gmF L B nL lf C n).1 0 n) ((gmF L B nL lf C n).1 3 n) nL)) 5 k = (gmF L B nL lf C n).1 5 k by simp [upC, upd, hne]]
      exact ih
    · rw [if_neg hb]; exact ih
