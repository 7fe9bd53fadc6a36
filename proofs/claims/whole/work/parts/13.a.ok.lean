/-! LiftRows2's public methods where they refuse nothing. -/
theorem tsw_out {u : Int32} {n : Nat} (hn : n < 2 ^ 30) (h : ∀ j, j ≤ n → ¬ u = nI j) : u.toInt < 0 ∨ (n : Int) < u.toInt := by
  by_cases h0 : u < 0
  · exact Or.inl (by rw [Int32.lt_iff_toInt_lt] at h0; exact h0)
  · obtain ⟨j, hj, rfl⟩ := nI_of h0
    rw [nI_toInt hj]
    by_cases hjn : j ≤ n
    · exact absurd rfl (h j hjn)
    · exact Or.inr (by omega)
theorem setG_or {f f' : Nat → Bool} {g : Nat → Int32} : ∀ n, setG f g n ||| setG f' g n = setG (fun k => f k || f' k) g n
  | 0 => Int32.or_self
  | n + 1 => by
    have ih := setG_or (f := f) (f' := f') (g := g) n
    have asw : ∀ a b c : Int32, (a ||| c) ||| (b ||| c) = (a ||| b) ||| c := fun a b c => by
      rw [Int32.or_assoc, ← Int32.or_assoc c b c, Int32.or_comm c b, Int32.or_assoc b c c, Int32.or_self, ← Int32.or_assoc]
    by_cases h1 : f n = true
    · by_cases h2 : f' n = true
      · rw [setG_t h1, setG_t h2, setG_t (f := fun k => f k || f' k) (by simp [h1]), asw, ih]
      · have h2' : f' n = false := by simpa using h2
        rw [setG_t h1, setG_f h2', setG_t (f := fun k => f k || f' k) (by simp [h1]), ← ih, Int32.or_assoc, Int32.or_comm _ (setG f' g n), ← Int32.or_assoc]
    · have h1' : f n = false := by simpa using h1
      by_cases h2 : f' n = true
      · rw [setG_f h1', setG_t h2, setG_t (f := fun k => f k || f' k) (by simp [h2]), ← ih, Int32.or_assoc]
      · have h2' : f' n = false := by simpa using h2
        rw [setG_f h1', setG_f h2', setG_f (f := fun k => f k || f' k) (by simp [h1', h2']), ih]
theorem bc_ls (C : Nat → Nat → Int32) (lf : Int32) {n : Nat} (h : n ≤ 24) : bcI (setG (fun k9 => isB C k9 0 lf) nI n ||| setG (fun k9 => isB C k9 1 lf) nI n) = nI (cntW (lsB C lf) n) := by
  rw [Int32.or_comm, setG_or, bcI_setG _ h]; rfl
theorem inB_t {v lo hi : Int32} (h : inB v lo hi = true) : ¬ v < lo ∧ v ≤ hi := by
  unfold inB at h
  rw [Bool.and_eq_true, Bool.not_eq_true', Bool.not_eq_true', decide_eq_false_iff_not, decide_eq_false_iff_not] at h
  exact ⟨h.1, Int32.not_lt.mp h.2⟩
theorem inB_f {v lo hi : Int32} (h : inB v lo hi = false) : ¬ (¬ v < lo ∧ v ≤ hi) := fun q => by
  unfold inB at h
  rw [decide_eq_false q.1, decide_eq_false (Int32.not_lt.mpr q.2)] at h
  exact absurd h (by decide)
def evX (E : Nat → Nat → Int32) (k : Nat) (u : Int32) : Int32 := if u = 0 then E 0 k else if u = 1 then E 1 k else if u = 2 then E 2 k else E 3 k
def tdX (L B C : Nat → Nat → Int32) (k nC : Nat) (u : Int32) : Int32 := if u = 0 then sumW (fun k9 => isB C k9 1 (nI k) && !decide (C 1 k9 = -1)) (C 3) nC else if u = 1 then L 2 k else if u = 2 then L 3 k else if u = 3 then nI (cntW (fun k9 => isB C k9 1 (nI k)) nC) else if u = 4 then nI (cntW (fun k9 => isB C k9 0 (nI k)) nC)
  else if u = 5 then b1I (B 0 k) else if u = 6 then b1I (B 1 k) else b1I (B 2 k)
def ctX (lev tm : Nat) (gn : Int32) (nL nC nE : Nat) (C : Nat → Nat → Int32) (u : Int32) : Int32 :=
  if u = 0 then nI lev else if u = 1 then nI nL else if u = 2 then nI nC else if u = 3 then nI nE else if u = 4 then nI tm
  else if u = 5 then nI (cntW (fun k9 => decide (C 4 k9 = 0)) nC) else if u = 6 then nI (cntW (fun k9 => isB C k9 0 (-1)) nC)
  else if u = 7 then setG (fun k9 => decide (C 4 k9 = 0)) (C 0) nC else if u = 8 then gn else -1
/-- seconds -/
def stpZ (tm nL nC : Nat) (B : Nat → Nat → Int32) (z : Z5) : Nat → Z5
  | 0 => z
  | k + 1 => secZ (tm + k + 1) nC B (stpZ tm nL nC B z k) nL
theorem stpZ_le {tm nL nC : Nat} {B : Nat → Nat → Int32} {z : Z5} (h : z.2.1 ≤ 48) : ∀ {n : Nat}, (stpZ tm nL nC B z n).2.1 ≤ 48
  | 0 => h
  | n + 1 => secZ_le (stpZ_le h)
