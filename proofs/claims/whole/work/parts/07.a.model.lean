/-! LiftRows2Model: its world, and what its methods compute. L, B, C as in LiftRows2; F: 0 eventTime, 2 eventCall, 3 eventKind; ys ways, ao about. -/
abbrev wM (cI cZ : ClassId) (h : Nat → Nat) (cd : Int32) (lev tm : Nat) (gn : Int32) (nL nC nE : Nat) (L B C F : Nat → Nat → Int32) (ys ao : Nat → Int32) : va_W :=
  [(h 0, .inr (5, [.int cd, .int (nI lev), .int (nI tm), .int gn, .int (nI nL), .ref (h 1), .ref (h 2), .ref (h 3), .ref (h 4), .ref (h 5), .ref (h 6), .ref (h 7), .int (nI nC), .ref (h 8), .ref (h 9), .ref (h 10), .ref (h 11), .ref (h 12), .ref (h 13), .ref (h 14), .ref (h 15), .ref (h 16), .int (nI nE), .ref (h 17), .ref (h 18), .ref (h 19), .ref (h 20), .ref (h 21)])),
   (h 1, .inl (cI, 4, .inl (L 0))), (h 2, .inl (cI, 4, .inl (L 1))), (h 3, .inl (cI, 4, .inl (L 2))), (h 4, .inl (cI, 4, .inl (L 3))), (h 5, .inl (cZ, 4, .inl (B 2))), (h 6, .inl (cZ, 4, .inl (B 0))), (h 7, .inl (cZ, 4, .inl (B 1))),
   (h 8, .inl (cI, 24, .inl (C 0))), (h 9, .inl (cI, 24, .inl (C 1))), (h 10, .inl (cI, 24, .inl (C 2))), (h 11, .inl (cI, 24, .inl (C 3))), (h 12, .inl (cI, 24, .inl (C 4))), (h 13, .inl (cI, 24, .inl (C 5))), (h 14, .inl (cI, 24, .inl (C 6))), (h 15, .inl (cI, 24, .inl (C 7))), (h 16, .inl (cI, 24, .inl (C 8))),
   (h 17, .inl (cI, 48, .inl (F 0))), (h 18, .inl (cI, 48, .inl (F 2))), (h 19, .inl (cI, 48, .inl (F 3))), (h 20, .inl (cI, 1620, .inl ys)), (h 21, .inl (cI, 4, .inl ao))]
theorem upC_same {C : Nat → Nat → Int32} {j k : Nat} : upC C j k (C j k) = C := by
  funext q r
  unfold upC upd
  by_cases h : q = j
  · subst h
    by_cases h2 : r = k
    · subst h2; simp
    · simp [h2]
  · simp [h]
def inB (v lo hi : Int32) : Bool := !decide (v < lo) && !decide (hi < v)
def farI (a b : Int32) : Int32 := if a ≤ b then b - a else a - b
def encO : Option Nat → Int32
  | none => -1
  | some b => nI b
theorem encO_none {bo : Option Nat} {n : Nat} (hb : ∀ b, bo = some b → b < n) (hn : n < 2 ^ 31) (h : encO bo = -1) : bo = none := by
  cases bo with
  | none => rfl
  | some b =>
    have h1 : nI b = -1 := h
    have h2 := congrArg Int32.toInt h1
    rw [nI_toInt (Nat.lt_trans (hb b rfl) hn)] at h2
    have h3 : (-1 : Int32).toInt = -1 := by decide
    omega
theorem encO_some {bo : Option Nat} (h : ¬ encO bo = -1) : ∃ b, bo = some b := by
  cases bo with
  | none => exact absurd rfl h
  | some b => exact ⟨b, rfl⟩
/-- the nearest lift of the reference, so far -/
def nmF (L B : Nat → Nat → Int32) (fr ld : Int32) : Nat → Option Nat
  | 0 => none
  | k + 1 => if getB L B k ld = true then (match nmF L B fr ld k with
      | none => some k
      | some b => if farI (L 0 k) fr < farI (L 0 b) fr then some k else some b) else nmF L B fr ld k
def telF (F : Nat → Nat → Int32) (n : Nat) (t q k : Int32) : Nat → Nat → Int32 := upC (upC (upC F 0 n t) 2 n q) 3 n k
def aboI (C : Nat → Nat → Int32) (lf : Int32) (n : Nat) : Int32 := sumW (fun k => isB C k 1 lf) (C 3) n
theorem sum_add (f : Nat → Bool) (g : Nat → Int32) (i : Nat) : sumW f g i + (if f i = true then g i else 0) = sumW f g (i + 1) := by
  by_cases h : f i = true
  · rw [sumW_t h, if_pos h]
  · have h' : f i = false := by simpa using h
    rw [sumW_f h', if_neg h, Int32.add_zero]
/-- whether it stops here -/
def sf1 (L C : Nat → Nat → Int32) (lf : Nat) : Nat → Bool := fun k => outB C k (nI lf) (L 0 lf)
def sf2 (L C : Nat → Nat → Int32) (lf nC : Nat) : Nat → Bool := fun k => (isB C k 0 (nI lf) && decide (C 0 k = L 0 lf)) && !decide (L 1 lf < aboI C (nI lf) nC + C 3 k)
def stpB (L C : Nat → Nat → Int32) (lf nC : Nat) : Bool := anyW (sf1 L C lf) nC || anyW (sf2 L C lf nC) nC
/-- work above or below -/
def lvI (L C : Nat → Nat → Int32) (lf k : Nat) : Int32 := if isB C k 1 (nI lf) = true then C 1 k else if isB C k 0 (nI lf) = true then C 0 k else L 0 lf
def wf (L C : Nat → Nat → Int32) (lf : Nat) (wy : Int32) : Nat → Bool := fun k => if wy ≤ 0 then decide (lvI L C lf k < L 0 lf) else decide (L 0 lf < lvI L C lf k)
/-- calls that get out, calls that come aboard -/
def outM (tm lf : Nat) (hr : Int32) (z : Z3) : Nat → Z3
  | 0 => z
  | c + 1 => if outB (outM tm lf hr z c).2.1 c (nI lf) hr = true then ((outM tm lf hr z c).1 + 1, upC (upC (outM tm lf hr z c).2.1 4 c 2) 8 c (nI tm), telF (outM tm lf hr z c).2.2 (outM tm lf hr z c).1 (nI tm) (nI c) 1) else outM tm lf hr z c
def inMb (C : Nat → Nat → Int32) (lf : Nat) (hr cp r : Int32) (n c : Nat) : Bool := ((isB C c 0 (nI lf) && decide (C 0 c = hr)) && decide (C 2 c = r)) && !decide (cp < aboI C (nI lf) n + C 3 c)
def inM (tm lf : Nat) (hr cp r : Int32) (n : Nat) (z : Z3) : Nat → Z3
  | 0 => z
  | c + 1 => if inMb (inM tm lf hr cp r n z c).2.1 lf hr cp r n c = true then ((inM tm lf hr cp r n z c).1 + 1, upC (upC (inM tm lf hr cp r n z c).2.1 4 c 1) 7 c (nI tm), telF (inM tm lf hr cp r n z c).2.2 (inM tm lf hr cp r n z c).1 (nI tm) (nI c) 0) else inM tm lf hr cp r n z c
def inMA (tm lf : Nat) (hr cp : Int32) (n : Nat) (z : Z3) : Nat → Z3
  | 0 => z
  | q + 1 => inM tm lf hr cp (nI (q + 1)) n (inMA tm lf hr cp n z q) n
/-- how many events there are: what the states say -/
def stS (C : Nat → Nat → Int32) : Nat → Nat
  | 0 => 0
  | k + 1 => stS C k + (C 4 k).toNatClampNeg
def stOK (C : Nat → Nat → Int32) (n ne : Nat) : Prop := (∀ k, k < n → C 4 k = 0 ∨ C 4 k = 1 ∨ C 4 k = 2) ∧ ne = stS C n
theorem stS_le {C : Nat → Nat → Int32} : ∀ {n : Nat}, (∀ k, k < n → C 4 k = 0 ∨ C 4 k = 1 ∨ C 4 k = 2) → stS C n ≤ 2 * n
  | 0, _ => by simp [stS]
  | n + 1, h => by
    have ih := stS_le (n := n) (fun k hk => h k (by omega))
    have h1 : (C 4 n).toNatClampNeg ≤ 2 := by rcases h n (by omega) with e | e | e <;> rw [e] <;> decide
    unfold stS
    omega
theorem stS_cg {C C' : Nat → Nat → Int32} : ∀ {n : Nat}, (∀ k, k < n → C' 4 k = C 4 k) → stS C' n = stS C n
  | 0, _ => rfl
  | n + 1, h => by unfold stS; rw [stS_cg (n := n) (fun k hk => h k (by omega)), h n (by omega)]
theorem stS_up {C : Nat → Nat → Int32} {c x : Nat} (hx : x < 3) : ∀ {n : Nat}, c < n → (C 4 c).toNatClampNeg + 1 = x → stS (upC C 4 c (nI x)) n = stS C n + 1
  | 0, h, _ => absurd h (Nat.not_lt_zero _)
  | n + 1, h, hc => by
    unfold stS
    by_cases e : c = n
    · subst e
      rw [upC_s, nI_clamp (by omega), stS_cg (C := C) (C' := upC C 4 c (nI x)) (fun k hk => by simp [upC, upd, show k ≠ c by omega])]
      omega
    · have e1 : upC C 4 c (nI x) 4 n = C 4 n := by simp [upC, upd, show n ≠ c by omega]
      rw [e1, stS_up hx (n := n) (by omega) hc]
      omega
/-- a call's state goes on by one: there is room for the event -/
theorem stOK_up {C : Nat → Nat → Int32} {n ne c j x : Nat} {v : Int32} (h : stOK C n ne) (hn : n ≤ 24) (hc : c < n) (hx : x < 3) (hs : (C 4 c).toNatClampNeg + 1 = x) (hj : j ≠ 4) : ne < 48 ∧ stOK (upC (upC C 4 c (nI x)) j c v) n (ne + 1) := by
  have h4 : ∀ k, upC (upC C 4 c (nI x)) j c v 4 k = upC C 4 c (nI x) 4 k := fun k => by rw [upC_n (Ne.symm hj)]
  have hst : ∀ k, k < n → upC (upC C 4 c (nI x)) j c v 4 k = 0 ∨ upC (upC C 4 c (nI x)) j c v 4 k = 1 ∨ upC (upC C 4 c (nI x)) j c v 4 k = 2 := by
    intro k hk
    rw [h4]
    by_cases e : k = c
    · subst e
      rw [upC_s]
      have : x = 0 ∨ x = 1 ∨ x = 2 := by omega
      rcases this with rfl | rfl | rfl
      · exact Or.inl rfl
      · exact Or.inr (Or.inl rfl)
      · exact Or.inr (Or.inr rfl)
    · have e1 : upC C 4 c (nI x) 4 k = C 4 k := by simp [upC, upd, e]
      rw [e1]
      exact h.1 k hk
  have hsum : stS (upC (upC C 4 c (nI x)) j c v) n = stS C n + 1 := by
    rw [stS_cg (C := upC C 4 c (nI x)) (fun k _ => h4 k), stS_up hx hc hs]
  have hle := stS_le hst
  refine ⟨by rw [h.2]; omega, hst, by rw [hsum, h.2]⟩
theorem stOK_le {C : Nat → Nat → Int32} {n ne : Nat} (h : stOK C n ne) (hn : n ≤ 24) : ne ≤ 48 := by
  have := stS_le h.1
  rw [h.2]; omega
theorem isB_st {C : Nat → Nat → Int32} {c : Nat} {a b : Int32} (h : isB C c a b = true) : C 4 c = a := by
  unfold isB at h
  rw [Bool.and_eq_true] at h
  exact of_decide_eq_true h.1
theorem stOK_1 {C : Nat → Nat → Int32} {n ne c : Nat} {a v : Int32} (h : stOK C n ne) (hn : n ≤ 24) (hc : c < n) (hs : isB C c 1 a = true) : ne < 48 ∧ stOK (upC (upC C 4 c 2) 8 c v) n (ne + 1) :=
  stOK_up (x := 2) h hn hc (by omega) (by rw [isB_st hs]; decide) (by decide)
theorem stOK_0 {C : Nat → Nat → Int32} {n ne c : Nat} {a v : Int32} (h : stOK C n ne) (hn : n ≤ 24) (hc : c < n) (hs : isB C c 0 a = true) : ne < 48 ∧ stOK (upC (upC C 4 c 1) 7 c v) n (ne + 1) :=
  stOK_up (x := 1) h hn hc (by omega) (by rw [isB_st hs]; decide) (by decide)
def exM (tm lf nC : Nat) (L : Nat → Nat → Int32) (z : Z3) : Z3 := inMA tm lf (L 0 lf) (L 1 lf) nC (outM tm lf (L 0 lf) z nC) 3
def opM (L B : Nat → Nat → Int32) (lf : Nat) : Int32 := L 3 lf - (if B 2 lf = 0 then 1 else if L 3 lf = 1 then 0 else 1)
def dirM (d : Int32) (up dn : Bool) : Int32 := if (decide (d = 1) && up) = true then d else if (!decide (d = -1) || !dn) = true then (if up = true then 1 else -1) else -1
/-- a lift's second, as the reference has it -/
def oneM (tm lf nC : Nat) (B : Nat → Nat → Int32) (z : Z5) : Z5 :=
  if z.2.2.1 3 lf ≤ 0 then
    if stpB z.2.2.1 z.2.2.2.1 lf nC = true then (z.1, (exM tm lf nC z.2.2.1 (z.2.1, z.2.2.2)).1, upC z.2.2.1 3 lf 3, (exM tm lf nC z.2.2.1 (z.2.1, z.2.2.2)).2)
    else if (!anyW (wf z.2.2.1 z.2.2.2.1 lf 1) nC && !anyW (wf z.2.2.1 z.2.2.2.1 lf (-1)) nC) = true then (z.1, z.2.1, upC z.2.2.1 2 lf 0, z.2.2.2)
    else (z.1 + 1, z.2.1, goL z.2.2.1 lf (dirM (z.2.2.1 2 lf) (anyW (wf z.2.2.1 z.2.2.2.1 lf 1) nC) (anyW (wf z.2.2.1 z.2.2.2.1 lf (-1)) nC)), z.2.2.2)
  else (z.1, z.2.1, upC z.2.2.1 3 lf (opM z.2.2.1 B lf), z.2.2.2)
