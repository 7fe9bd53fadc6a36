theorem in_R {nC tm lf : Nat} {hr cp q : Int32} {C0 : Nat → Nat → Int32} (hn : nC ≤ 24) (ht : tm < 2 ^ 31) (h1 : ldK cp) (h3 : ∀ k, ldK (C0 3 k)) {z y : Z3} {rm : Int32} (h : R3 nC C0 z y) (hrm : rm = cp - aboI y.2.1 (nI lf) nC) :
    ∀ {n : Nat}, n ≤ nC → R3 nC C0 (inZ tm lf hr q (z, rm) n).1 (inM tm lf hr cp q nC y n) ∧ (inZ tm lf hr q (z, rm) n).2 = cp - aboI (inM tm lf hr cp q nC y n).2.1 (nI lf) nC
  | 0, _ => ⟨h, hrm⟩
  | n + 1, hle => by
    obtain ⟨ih, ih2⟩ := in_R (tm := tm) (lf := lf) (hr := hr) (q := q) hn ht h1 h3 h hrm (n := n) (by omega)
    rw [inZ, inM, inS]
    obtain ⟨a, ha⟩ : ∃ a, a = inZ tm lf hr q (z, rm) n := ⟨_, rfl⟩
    obtain ⟨b, hb⟩ : ∃ b, b = inM tm lf hr cp q nC y n := ⟨_, rfl⟩
    rw [← ha, ← hb] at ih ih2 ⊢
    obtain ⟨⟨an, aC, aE⟩, ar⟩ := a
    obtain ⟨bn, bC, bF⟩ := b
    have e1 : an = bn := ih.1
    have e2 : aC = bC := ih.2.1
    subst e1; subst e2
    have e3 : ar = cp - aboI aC (nI lf) nC := ih2
    have hc3 : ∀ k, ldK (aC 3 k) := fun k => by rw [show aC 3 = C0 3 from ih.2.2.2.2.1 3 (by decide) (by decide) (by decide)]; exact h3 k
    have hcond : (decide (aC 2 n = q) && fitB aC n (nI lf) hr ar) = inMb aC lf hr cp q nC n := by
      obtain ⟨s, hs2, es⟩ := abo_nat (f := fun k => isB aC k 1 (nI lf)) hc3 nC
      have es' : aboI aC (nI lf) nC = nI s := es
      rw [fitB, inMb, e3, fit_cmp h1 (hc3 n) ⟨s, by omega, es'⟩, Bool.and_comm (decide (aC 2 n = q)), Bool.and_assoc (isB aC n 0 (nI lf) && decide (aC 0 n = hr)), Bool.and_comm (!decide (cp < aboI aC (nI lf) nC + aC 3 n)), ← Bool.and_assoc]
    show R3 nC C0 (if (decide (aC 2 n = q) && fitB aC n (nI lf) hr ar) = true then ((evN an, upC (upC aC 4 n 1) 7 n (nI tm), evE aE an (nI tm) (nI lf) (nI n) 0), ar - aC 3 n) else ((an, aC, aE), ar)).1 (if inMb aC lf hr cp q nC n = true then (an + 1, upC (upC aC 4 n 1) 7 n (nI tm), telF bF an (nI tm) (nI n) 0) else (an, aC, bF)) ∧
      (if (decide (aC 2 n = q) && fitB aC n (nI lf) hr ar) = true then ((evN an, upC (upC aC 4 n 1) 7 n (nI tm), evE aE an (nI tm) (nI lf) (nI n) 0), ar - aC 3 n) else ((an, aC, aE), ar)).2 = cp - aboI (if inMb aC lf hr cp q nC n = true then (an + 1, upC (upC aC 4 n 1) 7 n (nI tm), telF bF an (nI tm) (nI n) 0) else (an, aC, bF)).2.1 (nI lf) nC
    rw [hcond]
    by_cases ho : inMb aC lf hr cp q nC n = true
    · rw [if_pos ho, if_pos ho]
      have hb0 : isB aC n 0 (nI lf) = true := by unfold inMb at ho; rw [Bool.and_eq_true, Bool.and_eq_true, Bool.and_eq_true] at ho; exact ho.1.1.1
      refine ⟨R3_up (x := 1) (r := 7) hn ht ih (by omega) (Or.inl ⟨rfl, rfl, hb0⟩), ?_⟩
      show ar - aC 3 n = cp - aboI (upC (upC aC 4 n 1) 7 n (nI tm)) (nI lf) nC
      rw [abo_up hb0, if_pos (by omega), e3, sub_sub_i]
    · rw [if_neg ho, if_neg ho]; exact ⟨ih, e3⟩
theorem inA_R {nC tm lf : Nat} {hr cp : Int32} {C0 : Nat → Nat → Int32} (hn : nC ≤ 24) (ht : tm < 2 ^ 31) (h1 : ldK cp) (h3 : ∀ k, ldK (C0 3 k)) {z y : Z3} {rm : Int32} (h : R3 nC C0 z y) (hrm : rm = cp - aboI y.2.1 (nI lf) nC) :
    ∀ q, R3 nC C0 (inAll tm lf hr nC (z, rm) q).1 (inMA tm lf hr cp nC y q) ∧ (inAll tm lf hr nC (z, rm) q).2 = cp - aboI (inMA tm lf hr cp nC y q).2.1 (nI lf) nC
  | 0 => ⟨h, hrm⟩
  | q + 1 => by
    obtain ⟨ih, ih2⟩ := inA_R (tm := tm) (lf := lf) (hr := hr) hn ht h1 h3 h hrm q
    rw [inAll, inMA]
    exact in_R (z := (inAll tm lf hr nC (z, rm) q).1) (rm := (inAll tm lf hr nC (z, rm) q).2) hn ht h1 h3 ih ih2 (Nat.le_refl nC)
theorem ex_R {nC tm lf : Nat} {L C0 : Nat → Nat → Int32} (hn : nC ≤ 24) (ht : tm < 2 ^ 31) (h1 : ∀ k, ldK (L 1 k)) (h3 : ∀ k, ldK (C0 3 k)) (hto : ∀ k, lvK (C0 1 k)) {z y : Z3} (h : R3 nC C0 z y) : R3 nC C0 (exZ tm lf nC L z) (exM tm lf nC L y) := by
  unfold exZ exM
  have ho := out_R (tm := tm) (lf := lf) (hr := L 0 lf) hn ht h (Nat.le_refl nC)
  refine (inA_R hn ht (h1 lf) h3 ho ?_ 3).1
  congr 1
  rw [show (outZ tm lf (L 0 lf) z nC).2.1 = (outM tm lf (L 0 lf) y nC).2.1 from ho.2.1]
  unfold aboI
  refine sumW_cg (fun k hk => ?_)
  have : ¬ (outM tm lf (L 0 lf) y nC).2.1 1 k = -1 := by
    rw [show (outM tm lf (L 0 lf) y nC).2.1 1 = C0 1 from ho.2.2.2.2.1 1 (by decide) (by decide) (by decide)]
    exact lvK_ne (hto k)
  rw [decide_eq_false this, Bool.not_false, Bool.and_true]
/-! bits (family bt, as given) -/
def bt (x : Int32) (i : Nat) : Bool := x.toBitVec.getLsbD i
theorem b_ext {x y : Int32} (h : ∀ i, i < 32 → bt x i = bt y i) : x = y := Int32.toBitVec_inj.mp (BitVec.eq_of_getLsbD_eq (fun i hi => h i hi))
theorem b_or (x y : Int32) (i : Nat) : bt (x ||| y) i = (bt x i || bt y i) := by unfold bt; rw [Int32.toBitVec_or, BitVec.getLsbD_or]
theorem b_and (x y : Int32) (i : Nat) : bt (x &&& y) i = (bt x i && bt y i) := by unfold bt; rw [Int32.toBitVec_and, BitVec.getLsbD_and]
theorem b_xor (x y : Int32) (i : Nat) : bt (x ^^^ y) i = (bt x i ^^ bt y i) := by unfold bt; rw [Int32.toBitVec_xor, BitVec.getLsbD_xor]
theorem b_big {x : Int32} {i : Nat} (h : 32 ≤ i) : bt x i = false := BitVec.getLsbD_of_ge _ _ h
theorem b_255 (i : Nat) : bt 255 i = decide (i < 8) := by
  rcases Nat.lt_or_ge i 32 with h | h
  · exact (by decide +kernel : ∀ i, i < 32 → bt 255 i = decide (i < 8)) i h
  · rw [b_big h, decide_eq_false (by omega)]
theorem b_65535 (i : Nat) : bt 65535 i = decide (i < 16) := by
  rcases Nat.lt_or_ge i 32 with h | h
  · exact (by decide +kernel : ∀ i, i < 32 → bt 65535 i = decide (i < 16)) i h
  · rw [b_big h, decide_eq_false (by omega)]
theorem b_m1 : ∀ i, i < 32 → bt (-1) i = true := by decide +kernel
theorem b_0 (i : Nat) : bt 0 i = false := BitVec.getLsbD_zero
theorem s_l : ∀ n, n < 32 → ((nI n &&& 31).toBitVec.smod 32).toNat = n := by decide +kernel
theorem s_u : ∀ n, n < 32 → (((nI n).toUInt32 &&& Int32.toUInt32 31).toBitVec % 32).toNat = n := by decide +kernel
theorem b_shl (n : Nat) (hn : n < 32) (x : Int32) {i : Nat} (hi : i < 32) : bt (x <<< (nI n &&& 31)) i = (decide (n ≤ i) && bt x (i - n)) := by
  unfold bt
  rw [Int32.toBitVec_shiftLeft]
  show (x.toBitVec <<< ((nI n &&& 31).toBitVec.smod 32).toNat).getLsbD i = _
  rw [s_l n hn, BitVec.getLsbD_shiftLeft]
  rcases Nat.lt_or_ge i n with h | h
  · simp [h, Nat.not_le.mpr h]
  · simp [hi, h, Nat.not_lt.mpr h]
theorem b_ushr (n : Nat) (hn : n < 32) (x : Int32) (i : Nat) : bt ((x.toUInt32 >>> ((nI n).toUInt32 &&& Int32.toUInt32 31)).toInt32) i = bt x (n + i) := by
  show (x.toUInt32 >>> ((nI n).toUInt32 &&& Int32.toUInt32 31)).toBitVec.getLsbD i = x.toUInt32.toBitVec.getLsbD (n + i)
  rw [UInt32.toBitVec_shiftRight]
  show (x.toUInt32.toBitVec >>> (((nI n).toUInt32 &&& Int32.toUInt32 31).toBitVec % 32).toNat).getLsbD i = _
  rw [s_u n hn, BitVec.getLsbD_ushiftRight]
theorem b_sshr (n : Nat) (hn : n < 32) (x : Int32) {i : Nat} (hi : i < 32) : bt (x >>> (nI n &&& 31)) i = if n + i < 32 then bt x (n + i) else bt x 31 := by
  unfold bt
  rw [Int32.toBitVec_shiftRight]
  show (x.toBitVec.sshiftRight ((nI n &&& 31).toBitVec.smod 32).toNat).getLsbD i = _
  rw [s_l n hn, BitVec.getLsbD_sshiftRight, BitVec.msb_eq_getLsbD_last]
  simp [hi]
theorem b_1 (i : Nat) : bt 1 i = decide (i = 0) := by
  rcases Nat.lt_or_ge i 32 with h | h
  · exact (by decide +kernel : ∀ i, i < 32 → bt 1 i = decide (i = 0)) i h
  · rw [b_big h, decide_eq_false (by omega)]
theorem b_and1 (y : Int32) : decide (y &&& 1 = 1) = bt y 0 := by
  cases hb : bt y 0 with
  | true =>
    refine decide_eq_true (b_ext fun i _ => ?_)
    rw [b_and, b_1]
    by_cases h : i = 0
    · subst h; simp [hb]
    · simp [h]
  | false =>
    refine decide_eq_false (fun q => ?_)
    have := congrArg (fun x => bt x 0) q
    simp only [b_and, b_1, hb] at this
    exact absurd this (by decide)
theorem bitB_bt (x : Int32) {k : Nat} (hk : k < 32) : bitB x k = bt x k := by
  unfold bitB
  rw [b_and1, b_sshr k hk x (by omega), Nat.add_zero, if_pos hk]
theorem bt_set {f : Nat → Bool} {k : Nat} (hk : k < 32) : ∀ {n : Nat}, n ≤ 31 → bt (setG f nI n) k = (decide (k < n) && f k)
  | 0, _ => by rw [setG, b_0]; simp
  | n + 1, h => by
    have ih := bt_set (f := f) hk (n := n) (by omega)
    rw [setG]
    have e1 : bt ((1 : Int32) <<< (nI n &&& 31)) k = decide (k = n) := by
      rw [b_shl n (by omega) 1 hk, b_1]
      by_cases h1 : k = n
      · subst h1; simp
      · by_cases h2 : n ≤ k
        · simp [h1, h2]; omega
        · simp [h1, h2]
    by_cases hf : f n = true
    · rw [if_pos hf, b_or, ih, e1]
      by_cases h1 : k = n
      · subst h1; simp [hf]
      · by_cases h2 : k < n
        · simp [h1, h2, show k < n + 1 by omega]
        · simp [h1, h2, show ¬ k < n + 1 by omega]
    · rw [if_neg hf, ih]
      by_cases h1 : k = n
      · subst h1; simp [hf]
      · by_cases h2 : k < n
        · simp [h2, show k < n + 1 by omega]
        · simp [h2, show ¬ k < n + 1 by omega]
theorem bitB_set {f : Nat → Bool} {n k : Nat} (hn : n ≤ 24) (hk : k < n) : bitB (setG f nI n) k = f k := by
  rw [bitB_bt _ (by omega), bt_set (by omega) (by omega), decide_eq_true hk, Bool.true_and]
/-- the nearest stop -/
theorem nsF_spec {C : Nat → Nat → Int32} {a sd wt ab : Int32} (ac : Nat → Bool) (so : Nat → Int32) :
    ∀ {n : Nat}, (∀ k, k < n → (bitB wt k || bitB ab k) = ac k ∧ (ac k = true → (if bitB wt k = true then C 0 k else C 1 k) = so k ∧ (so k - a) * sd < 20)) →
      (nsF C a sd wt ab n = (-1, 20) ∧ ∀ k, k < n → ac k = true → ¬ 0 < (so k - a) * sd) ∨
      (∃ k, k < n ∧ ac k = true ∧ 0 < (so k - a) * sd ∧ nsF C a sd wt ab n = (so k, (so k - a) * sd) ∧ ∀ j, j < n → ac j = true → 0 < (so j - a) * sd → (so k - a) * sd ≤ (so j - a) * sd)
  | 0, _ => Or.inl ⟨rfl, fun k hk => absurd hk (Nat.not_lt_zero _)⟩
  | n + 1, h => by
    obtain ⟨ha, hs⟩ := h n (by omega)
    have ih := nsF_spec (C := C) (a := a) (sd := sd) (wt := wt) (ab := ab) ac so (n := n) (fun k hk => h k (by omega))
    rw [nsF, ha]
    by_cases hac : ac n = true
    · obtain ⟨e, hlt⟩ := hs hac
      rw [e, hac, Bool.true_and]
      by_cases hp : 0 < (so n - a) * sd
      · rw [decide_eq_true hp, Bool.true_and]
        rcases ih with ⟨e1, h1⟩ | ⟨k, hk, hak, hpk, e1, h1⟩
        · rw [e1, if_pos (decide_eq_true hlt)]
          refine Or.inr ⟨n, by omega, hac, hp, rfl, fun j hj haj hpj => ?_⟩
          by_cases hjn : j = n
          · subst hjn; exact Int32.le_refl _
          · exact absurd hpj (h1 j (by omega) haj)
        · rw [e1]
          by_cases hc : (so n - a) * sd < (so k - a) * sd
          · rw [if_pos (decide_eq_true hc)]
            refine Or.inr ⟨n, by omega, hac, hp, rfl, fun j hj haj hpj => ?_⟩
            by_cases hjn : j = n
            · subst hjn; exact Int32.le_refl _
            · exact Int32.le_trans (Int32.le_of_lt hc) (h1 j (by omega) haj hpj)
          · rw [if_neg (by simp [hc])]
            refine Or.inr ⟨k, by omega, hak, hpk, rfl, fun j hj haj hpj => ?_⟩
            by_cases hjn : j = n
            · subst hjn; exact Int32.not_lt.mp hc
            · exact h1 j (by omega) haj hpj
      · rw [decide_eq_false hp, Bool.false_and, if_neg (by simp)]
        rcases ih with ⟨e1, h1⟩ | ⟨k, hk, hak, hpk, e1, h1⟩
        · refine Or.inl ⟨e1, fun j hj haj => ?_⟩
          by_cases hjn : j = n
          · subst hjn; exact hp
          · exact h1 j (by omega) haj
        · refine Or.inr ⟨k, by omega, hak, hpk, e1, fun j hj haj hpj => ?_⟩
          by_cases hjn : j = n
          · subst hjn; exact absurd hpj hp
          · exact h1 j (by omega) haj hpj
    · have hac' : ac n = false := by simpa using hac
      rw [hac', Bool.false_and, Bool.false_and, if_neg (by simp)]
      rcases ih with ⟨e1, h1⟩ | ⟨k, hk, hak, hpk, e1, h1⟩
      · refine Or.inl ⟨e1, fun j hj haj => ?_⟩
        by_cases hjn : j = n
        · subst hjn; exact absurd haj hac
        · exact h1 j (by omega) haj
      · refine Or.inr ⟨k, by omega, hak, hpk, e1, fun j hj haj hpj => ?_⟩
        by_cases hjn : j = n
        · subst hjn; exact absurd haj hac
        · exact h1 j (by omega) haj hpj
