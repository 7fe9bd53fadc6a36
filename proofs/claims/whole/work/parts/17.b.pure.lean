theorem sumW_cg {f g : Nat → Bool} {h : Nat → Int32} : ∀ {n : Nat}, (∀ k, k < n → f k = g k) → sumW f h n = sumW g h n
  | 0, _ => rfl
  | n + 1, he => by
    rw [sumW, sumW, sumW_cg (n := n) (fun k hk => he k (by omega)), he n (by omega)]
theorem anyW_cg {f g : Nat → Bool} : ∀ {n : Nat}, (∀ k, k < n → f k = g k) → anyW f n = anyW g n
  | 0, _ => rfl
  | n + 1, he => by
    rw [anyW, anyW, anyW_cg (n := n) (fun k hk => he k (by omega)), he n (by omega)]
theorem anyW_no {f : Nat → Bool} {n k : Nat} (h : anyW f n = false) (hk : k < n) : f k = false := by
  cases hf : f k with
  | false => rfl
  | true => rw [anyW_of hk hf] at h; cases h
theorem abo_nat {f : Nat → Bool} {h : Nat → Int32} (hl : ∀ k, ldK (h k)) : ∀ n, ∃ s : Nat, s ≤ 50 * n ∧ sumW f h n = nI s
  | 0 => ⟨0, by omega, rfl⟩
  | n + 1 => by
    obtain ⟨s, hs, e⟩ := abo_nat (f := f) hl n
    obtain ⟨j, hj, ej⟩ := hl n
    rw [sumW]
    by_cases hf : f n = true
    · rw [if_pos hf, e, ej, nI_add]; exact ⟨s + j, by omega, rfl⟩
    · rw [if_neg hf, e]; exact ⟨s, by omega, rfl⟩
theorem fit_cmp {cp ld ab : Int32} (h1 : ldK cp) (h2 : ldK ld) (h3 : ∃ s : Nat, s ≤ 1200 ∧ ab = nI s) : decide (ld ≤ cp - ab) = !decide (cp < ab + ld) := by
  obtain ⟨a, ha, rfl⟩ := h1
  obtain ⟨b, hb, rfl⟩ := h2
  obtain ⟨s, hs, rfl⟩ := h3
  have e1 := nI_sub (a := a) (b := s) (by omega) (by omega)
  have e2 := nI_toInt (n := b) (by omega)
  have e3 := nI_toInt (n := a) (by omega)
  have e4 := nI_toInt (n := s + b) (by omega)
  rw [nI_add]
  by_cases h : (b : Int) ≤ (a : Int) - s
  · rw [decide_eq_true (le_iff.mpr (by rw [e1, e2]; exact h)), decide_eq_false (fun q => by have := i32_lt.mp q; rw [e3, e4] at this; omega)]; rfl
  · rw [decide_eq_false (fun q => by have := le_iff.mp q; rw [e1, e2] at this; omega), decide_eq_true (i32_lt.mpr (by rw [e3, e4]; omega))]; rfl
/-- whether the door opens -/
theorem opn_eq {L C : Nat → Nat → Int32} {lf nC : Nat} (hn : nC ≤ 24) (h1 : ∀ k, ldK (L 1 k)) (h3 : ∀ k, ldK (C 3 k)) : opnB L C lf nC nC = stpB L C lf nC := by
  unfold opnB stpB
  cases ha : anyW (sf1 L C lf) nC with
  | true =>
    obtain ⟨k, hk, hf⟩ := anyW_iff.mp ha
    rw [Bool.true_or]
    exact anyW_of hk (by rw [show outB C k (nI lf) (L 0 lf) = true from hf]; rfl)
  | false =>
    rw [Bool.false_or]
    have hs : sumW (fun k => isB C k 1 (nI lf) && !decide (C 1 k = L 0 lf)) (C 3) nC = aboI C (nI lf) nC := by
      unfold aboI
      refine sumW_cg (fun k hk => ?_)
      have hno : (isB C k 1 (nI lf) && decide (C 1 k = L 0 lf)) = false := anyW_no ha hk
      cases hi : isB C k 1 (nI lf) with
      | false => rfl
      | true => rw [hi, Bool.true_and] at hno; rw [hno]; rfl
    rw [hs]
    refine anyW_cg (fun k hk => ?_)
    have hno : outB C k (nI lf) (L 0 lf) = false := anyW_no ha hk
    rw [hno, Bool.false_or, fitB, sf2]
    obtain ⟨s, hs2, es⟩ := abo_nat (f := fun k => isB C k 1 (nI lf)) h3 nC
    have es' : aboI C (nI lf) nC = nI s := es
    rw [fit_cmp (h1 lf) (h3 k) ⟨s, by omega, es'⟩]
/-- both ways of telling events -/
def EvOK (C E F : Nat → Nat → Int32) (nC ne : Nat) : Prop := (E 0 = F 0 ∧ E 2 = F 2 ∧ E 3 = F 3) ∧ ∀ k, k < ne → ∃ j, j < nC ∧ F 2 k = nI j ∧ E 1 k = C 5 j ∧ ¬ C 4 j = 0
def CK (C0 C : Nat → Nat → Int32) (nC : Nat) : Prop := (∀ j, j ≠ 4 → j ≠ 7 → j ≠ 8 → C j = C0 j) ∧ (∀ k, nC ≤ k → C 4 k = 0) ∧ (∀ k, k < nC → (C 4 k = 0 ↔ C 7 k = -1))
def R3 (nC : Nat) (C0 : Nat → Nat → Int32) (z y : Z3) : Prop := z.1 = y.1 ∧ z.2.1 = y.2.1 ∧ stOK y.2.1 nC y.1 ∧ EvOK y.2.1 z.2.2 y.2.2 nC y.1 ∧ CK C0 y.2.1 nC
theorem R3_up {nC tm lf c x r : Nat} {C0 : Nat → Nat → Int32} {ne : Nat} {C E F : Nat → Nat → Int32} {kd : Int32} (hn : nC ≤ 24) (ht : tm < 2 ^ 31) (h : R3 nC C0 (ne, C, E) (ne, C, F)) (hc : c < nC) (hx : (x = 1 ∧ r = 7 ∧ isB C c 0 (nI lf) = true) ∨ (x = 2 ∧ r = 8 ∧ isB C c 1 (nI lf) = true)) :
    R3 nC C0 (evN ne, upC (upC C 4 c (nI x)) r c (nI tm), evE E ne (nI tm) (nI lf) (nI c) kd) (ne + 1, upC (upC C 4 c (nI x)) r c (nI tm), telF F ne (nI tm) (nI c) kd) := by
  obtain ⟨-, -, hst, ⟨⟨hE0, hE2, hE3⟩, hev⟩, hck1, hck2, hck3⟩ := h
  dsimp only at hst hE0 hE2 hE3 hev hck1 hck2 hck3
  have hby : C 5 c = nI lf := by
    rcases hx with ⟨-, -, hb⟩ | ⟨-, -, hb⟩ <;> (unfold isB at hb; rw [Bool.and_eq_true] at hb; exact of_decide_eq_true hb.2)
  have hs : (C 4 c).toNatClampNeg + 1 = x := by
    rcases hx with ⟨rfl, -, hb⟩ | ⟨rfl, -, hb⟩ <;> (rw [isB_st hb]; decide)
  have hr4 : r ≠ 4 := by omega
  have hr5 : r ≠ 5 := by omega
  have hx3 : x < 3 := by omega
  have hx0 : ¬ nI x = 0 := by rcases hx with ⟨rfl, -⟩ | ⟨rfl, -⟩ <;> decide
  obtain ⟨h48, hst'⟩ := stOK_up (v := nI tm) (j := r) hst hn hc hx3 hs hr4
  have e4 : ∀ k, upC (upC C 4 c (nI x)) r c (nI tm) 4 k = if k = c then nI x else C 4 k := fun k => by
    rw [upC_n (Ne.symm hr4)]; simp [upC, upd]
  have e5 : ∀ k, upC (upC C 4 c (nI x)) r c (nI tm) 5 k = C 5 k := fun k => by
    rw [upC_n (Ne.symm hr5), upC_n (by decide)]
  have hE' : evE E ne (nI tm) (nI lf) (nI c) kd = addE E ne (nI tm) (nI lf) (nI c) kd := by rw [evE, if_pos h48]
  refine ⟨by rw [evN, if_pos h48], rfl, hst', ?_, ?_⟩
  · show EvOK (upC (upC C 4 c (nI x)) r c (nI tm)) (evE E ne (nI tm) (nI lf) (nI c) kd) (telF F ne (nI tm) (nI c) kd) nC (ne + 1)
    refine ⟨⟨?_, ?_, ?_⟩, fun k hk => ?_⟩
    · rw [hE']; simp [addE, telF, upC, hE0]
    · rw [hE']; simp [addE, telF, upC, hE2]
    · rw [hE']; simp [addE, telF, upC, hE3]
    · rw [hE']
      by_cases hkn : k = ne
      · subst hkn
        refine ⟨c, hc, by simp [telF, upC, upd], ?_, ?_⟩
        · rw [e5, hby]; simp [addE, upC, upd]
        · rw [e4, if_pos rfl]; exact hx0
      · have hk' : k < ne := by omega
        obtain ⟨j, hj, a1, a2, a3⟩ := hev k hk'
        refine ⟨j, hj, ?_, ?_, ?_⟩
        · rw [← a1]; simp [telF, upC, upd, hkn]
        · rw [e5, ← a2]; simp [addE, upC, upd, hkn]
        · rw [e4]; split
          · exact hx0
          · exact a3
  · show CK C0 (upC (upC C 4 c (nI x)) r c (nI tm)) nC
    refine ⟨fun j h4 h7 h8 => ?_, fun k hk => ?_, fun k hk => ?_⟩
    · rw [upC_n (by omega), upC_n h4]; exact hck1 j h4 h7 h8
    · rw [e4, if_neg (by omega)]; exact hck2 k hk
    · rw [e4]
      by_cases hkc : k = c
      · subst hkc
        rw [if_pos rfl]
        refine ⟨fun q => absurd q hx0, fun q => ?_⟩
        exfalso
        rcases hx with ⟨-, rfl, hb⟩ | ⟨-, rfl, hb⟩
        · rw [upC_s] at q; exact nI_ne1 ht q
        · rw [upC_n (by decide), upC_n (by decide)] at q
          have := (hck3 k hk).mpr q
          rw [isB_st hb] at this
          exact absurd this (by decide)
      · rw [if_neg hkc]
        have e7 : upC (upC C 4 c (nI x)) r c (nI tm) 7 k = C 7 k := by
          by_cases hr7 : r = 7
          · subst hr7; simp [upC, upd, hkc]
          · rw [upC_n (Ne.symm hr7), upC_n (by decide)]
        rw [e7]; exact hck3 k hk
theorem out_R {nC tm lf : Nat} {hr : Int32} {C0 : Nat → Nat → Int32} (hn : nC ≤ 24) (ht : tm < 2 ^ 31) {z y : Z3} (h : R3 nC C0 z y) : ∀ {n : Nat}, n ≤ nC → R3 nC C0 (outZ tm lf hr z n) (outM tm lf hr y n)
  | 0, _ => h
  | n + 1, hle => by
    have ih := out_R (tm := tm) (lf := lf) (hr := hr) hn ht h (n := n) (by omega)
    rw [outZ, outM, outS]
    obtain ⟨a, ha⟩ : ∃ a, a = outZ tm lf hr z n := ⟨_, rfl⟩
    obtain ⟨b, hb⟩ : ∃ b, b = outM tm lf hr y n := ⟨_, rfl⟩
    rw [← ha, ← hb] at ih ⊢
    obtain ⟨an, aC, aE⟩ := a
    obtain ⟨bn, bC, bF⟩ := b
    have e1 : an = bn := ih.1
    have e2 : aC = bC := ih.2.1
    subst e1; subst e2
    by_cases ho : outB aC n (nI lf) hr = true
    · rw [if_pos ho, if_pos ho]
      have hb1 : isB aC n 1 (nI lf) = true := by unfold outB at ho; rw [Bool.and_eq_true] at ho; exact ho.1
      exact R3_up (x := 2) (r := 8) hn ht ih (by omega) (Or.inr ⟨rfl, rfl, hb1⟩)
    · rw [if_neg ho, if_neg ho]; exact ih
theorem sub_sub_i (a b c : Int32) : a - b - c = a - (b + c) := by
  rw [Int32.sub_eq_add_neg, Int32.sub_eq_add_neg, Int32.sub_eq_add_neg, Int32.neg_add, Int32.add_assoc, Int32.sub_eq_add_neg]
theorem abo_up {C : Nat → Nat → Int32} {c : Nat} {lf v : Int32} (hb : isB C c 0 lf = true) : ∀ n, aboI (upC (upC C 4 c 1) 7 c v) lf n = aboI C lf n + (if c < n then C 3 c else 0)
  | 0 => by simp [aboI, sumW]
  | n + 1 => by
    have ih := abo_up (v := v) hb n
    have e3 : upC (upC C 4 c 1) 7 c v 3 = C 3 := by rw [upC_n (by decide), upC_n (by decide)]
    unfold aboI at ih ⊢
    rw [sumW, sumW, ih, e3]
    have e4 : ∀ k, upC (upC C 4 c 1) 7 c v 4 k = if k = c then 1 else C 4 k := fun k => by rw [upC_n (by decide)]; simp [upC, upd]
    have e5 : ∀ k, upC (upC C 4 c 1) 7 c v 5 k = C 5 k := fun k => by rw [upC_n (by decide), upC_n (by decide)]
    by_cases hc : n = c
    · subst hc
      have hb5 : C 5 n = lf := by unfold isB at hb; rw [Bool.and_eq_true] at hb; exact of_decide_eq_true hb.2
      have h1 : isB (upC (upC C 4 n 1) 7 n v) n 1 lf = true := by unfold isB; rw [e4, e5, if_pos rfl, hb5]; simp
      have h2 : isB C n 1 lf = false := by unfold isB; rw [isB_st hb]; rfl
      simp only [h1, h2, if_true, if_neg (Nat.lt_irrefl n), if_pos (Nat.lt_succ_self n), Int32.add_zero, Bool.false_eq_true, if_false]
    · have h1 : isB (upC (upC C 4 c 1) 7 c v) n 1 lf = isB C n 1 lf := by unfold isB; rw [e4, e5, if_neg hc]
      rw [h1]
      by_cases hi : isB C n 1 lf = true
      · simp only [hi, if_true]
        by_cases hcn : c < n
        · rw [if_pos hcn, if_pos (by omega), Int32.add_assoc, Int32.add_comm (C 3 c), ← Int32.add_assoc]
        · rw [if_neg hcn, if_neg (by omega), Int32.add_zero, Int32.add_zero]
      · rw [if_neg hi, if_neg hi]
        by_cases hcn : c < n
        · rw [if_pos hcn, if_pos (by omega)]
        · rw [if_neg hcn, if_neg (by omega)]
