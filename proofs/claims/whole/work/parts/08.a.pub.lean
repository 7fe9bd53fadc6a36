/-! The reference's public methods: ranges of numbers, answers by 'what'. -/
theorem i32_lt {a b : Int32} : a < b ↔ a.toInt < b.toInt := Int32.lt_iff_toInt_lt
theorem nI_sub1 {n : Nat} (hn : n < 2 ^ 30) : (nI n - 1).toInt = (n : Int) - 1 := by
  have h : (1 : Int32) = nI 1 := rfl
  rw [h, pk_sub_toInt hn (by decide)]
  rfl
theorem inB_iff {v : Int32} {n : Nat} (hn : n < 2 ^ 30) : inB v 0 (nI n - 1) = true ↔ ∃ k, k < n ∧ v = nI k := by
  unfold inB
  rw [Bool.and_eq_true, Bool.not_eq_true', Bool.not_eq_true', decide_eq_false_iff_not, decide_eq_false_iff_not, i32_lt, i32_lt, nI_sub1 hn]
  have h0 : (0 : Int32).toInt = 0 := by decide
  rw [h0]
  constructor
  · rintro ⟨h1, h2⟩
    obtain ⟨j, hj, rfl⟩ := nI_of (x := v) (fun q => h1 (by rw [i32_lt, h0] at q; exact q))
    rw [nI_toInt hj] at h2
    exact ⟨j, by omega, rfl⟩
  · rintro ⟨k, hk, rfl⟩
    rw [nI_toInt (by omega)]
    omega
theorem inB_ok {k n : Nat} (h : k < n) (hn : n < 2 ^ 30) : inB (nI k) 0 (nI n - 1) = true := (inB_iff hn).mpr ⟨k, h, rfl⟩
def knI (C : Nat → Nat → Int32) (k : Nat) (w : Int32) : Int32 := if w = 0 then C 4 k else if w = 1 then C 5 k else if w = 2 then C 0 k else if w = 3 then C 1 k else if w = 4 then C 2 k else C 3 k
def evI (C F : Nat → Nat → Int32) (k j : Nat) (w : Int32) : Int32 := if w = 0 then F 0 k else if w = 1 then C 5 j else if w = 2 then F 2 k else F 3 k
def b1I (x : Int32) : Int32 := if x = 0 then 0 else 1
def tdI (L B C : Nat → Nat → Int32) (k nC : Nat) (w : Int32) : Int32 := if w = 0 then aboI C (nI k) nC else if w = 1 then L 2 k else if w = 2 then L 3 k else if w = 3 then nI (cntW (fun i => isB C i 1 (nI k)) nC) else if w = 4 then nI (cntW (fun i => isB C i 0 (nI k)) nC)
  else if w = 5 then b1I (B 0 k) else if w = 6 then b1I (B 1 k) else b1I (B 2 k)
/-- calls given anew, as the reference does it; how many found a lift -/
def gmF (L B : Nat → Nat → Int32) (nL : Nat) (lf : Int32) (C : Nat → Nat → Int32) : Nat → (Nat → Nat → Int32) × Int32
  | 0 => (C, 0)
  | k + 1 => if isB (gmF L B nL lf C k).1 k 0 lf = true then
      (upC (gmF L B nL lf C k).1 5 k (encO (nmF L B ((gmF L B nL lf C k).1 0 k) ((gmF L B nL lf C k).1 3 k) nL)), (gmF L B nL lf C k).2 + (if encO (nmF L B ((gmF L B nL lf C k).1 0 k) ((gmF L B nL lf C k).1 3 k) nL) = -1 then 0 else 1))
    else gmF L B nL lf C k
def secM (tm nC : Nat) (B : Nat → Nat → Int32) (z : Z5) : Nat → Z5
  | 0 => z
  | k + 1 => if B 0 k = 0 then oneM tm k nC B (secM tm nC B z k) else secM tm nC B z k
def stpM (tm nL nC : Nat) (B : Nat → Nat → Int32) (z : Z5) : Nat → Z5
  | 0 => z
  | k + 1 => secM (tm + k + 1) nC B (stpM tm nL nC B z k) nL
theorem outM_ok {tm lf : Nat} {hr : Int32} {z : Z3} {n : Nat} (hn : n ≤ 24) (h : stOK z.2.1 n z.1) : ∀ {c : Nat}, c ≤ n → stOK (outM tm lf hr z c).2.1 n (outM tm lf hr z c).1
  | 0, _ => h
  | c + 1, hc => by
    have ih := outM_ok (tm := tm) (lf := lf) (hr := hr) hn h (c := c) (by omega)
    unfold outM
    split
    · rename_i hb
      unfold outB at hb
      rw [Bool.and_eq_true] at hb
      exact (stOK_1 ih hn (by omega) hb.1).2
    · exact ih
theorem inM_ok {tm lf : Nat} {hr cp r : Int32} {z : Z3} {n : Nat} (hn : n ≤ 24) (h : stOK z.2.1 n z.1) : ∀ {c : Nat}, c ≤ n → stOK (inM tm lf hr cp r n z c).2.1 n (inM tm lf hr cp r n z c).1
  | 0, _ => h
  | c + 1, hc => by
    have ih := inM_ok (tm := tm) (lf := lf) (hr := hr) (cp := cp) (r := r) hn h (c := c) (by omega)
    unfold inM
    split
    · rename_i hb
      unfold inMb at hb
      rw [Bool.and_eq_true, Bool.and_eq_true, Bool.and_eq_true] at hb
      exact (stOK_0 ih hn (by omega) hb.1.1.1).2
    · exact ih
theorem inMA_ok {tm lf : Nat} {hr cp : Int32} {z : Z3} {n : Nat} (hn : n ≤ 24) (h : stOK z.2.1 n z.1) : ∀ {q : Nat}, stOK (inMA tm lf hr cp n z q).2.1 n (inMA tm lf hr cp n z q).1
  | 0 => h
  | q + 1 => inM_ok hn (inMA_ok hn h) (Nat.le_refl n)
theorem oneM_ok {tm lf n : Nat} {B : Nat → Nat → Int32} {z : Z5} (hn : n ≤ 24) (h : stOK z.2.2.2.1 n z.2.1) : stOK (oneM tm lf n B z).2.2.2.1 n (oneM tm lf n B z).2.1 := by
  unfold oneM
  split
  · split
    · exact inMA_ok hn (outM_ok hn h (Nat.le_refl n))
    · split <;> exact h
  · exact h
theorem secM_ok {tm n : Nat} {B : Nat → Nat → Int32} {z : Z5} (hn : n ≤ 24) (h : stOK z.2.2.2.1 n z.2.1) : ∀ {k : Nat}, stOK (secM tm n B z k).2.2.2.1 n (secM tm n B z k).2.1
  | 0 => h
  | k + 1 => by
    unfold secM
    split
    · exact oneM_ok hn (secM_ok hn h)
    · exact secM_ok hn h
theorem stpM_ok {tm nL n : Nat} {B : Nat → Nat → Int32} {z : Z5} (hn : n ≤ 24) (h : stOK z.2.2.2.1 n z.2.1) : ∀ {k : Nat}, stOK (stpM tm nL n B z k).2.2.2.1 n (stpM tm nL n B z k).2.1
  | 0 => h
  | k + 1 => secM_ok hn (stpM_ok hn h)
