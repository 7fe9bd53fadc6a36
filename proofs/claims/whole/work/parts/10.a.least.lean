/-! The least way, as the reference reckons it: a table of ways by states (three for each call) and levels. -/
theorem nI_subN {a b : Nat} (h : b ≤ a) : nI a - nI b = nI (a - b) := by
  have h1 : nI (a - b) + nI b = nI a := by rw [nI_add, Nat.sub_add_cancel h]
  rw [← h1, Int32.add_sub_cancel]
theorem nI_div {a b : Nat} (hb0 : 0 < b) (ha : a < 2 ^ 31) (hb : b < 2 ^ 31) : nI a / nI b = nI (a / b) := by
  have hd : a / b < 2 ^ 31 := Nat.lt_of_le_of_lt (Nat.div_le_self a b) ha
  apply Int32.toInt_inj.mp
  rw [Int32.toInt_div, nI_toInt ha, nI_toInt hb, nI_toInt hd]
  have e2 : ∀ q : Nat, q < 2 ^ 31 → Int.bmod (q : Int) (2 ^ 32) = (q : Int) := fun q hq => Int.bmod_eq_of_le (by omega) (by omega)
  exact e2 (a / b) hd
theorem nI_mod {a b : Nat} (hb0 : 0 < b) (ha : a < 2 ^ 31) (hb : b < 2 ^ 31) : nI a - nI a / nI b * nI b = nI (a % b) := by
  have h : a % b = a - a / b * b := by
    have := Nat.div_add_mod a b
    rw [Nat.mul_comm] at this
    omega
  rw [nI_div hb0 ha hb, pk_mul, nI_subN (Nat.div_mul_le_self a b), h]
section ZD
variable {p : Program} {l : Launch} {e : Env} {R : Room} {s : State} {m : MethodId} {args : Array Value} {below : List Frame} {meth : Method} {c : Code} {H : Heap} {locs : List Loc} {cells slots : Nat} {Q : State → Prop} {pc : Nat} {ls : Array Slot} {rest : List Value} {cc : ByteArray}
theorem zn_div (hx : p.tables.exec = Jvm.exec) (hb : c.code = cc) {i j : Nat} (hj0 : 0 < j) (hi : i < 2 ^ 31) (hj : j < 2 ^ 31) (hdg : decode cc pc = .ok (.idiv, 1)) (k : W p l e R s m args below meth c H locs cells slots Q (F0 m (pc + 1) ls (.int (nI (i / j)) :: rest))) : W p l e R s m args below meth c H locs cells slots Q (F0 m pc ls (.int (nI j) :: .int (nI i) :: rest)) :=
  lv_idiv hx hb hdg (nI_ne0 hj0 hj) (by rw [nI_div hj0 hi hj]; exact k)
theorem zn_rem (hx : p.tables.exec = Jvm.exec) (hb : c.code = cc) {i j : Nat} (hj0 : 0 < j) (hi : i < 2 ^ 31) (hj : j < 2 ^ 31) (hdg : decode cc pc = .ok (.irem, 1)) (k : W p l e R s m args below meth c H locs cells slots Q (F0 m (pc + 1) ls (.int (nI (i % j)) :: rest))) : W p l e R s m args below meth c H locs cells slots Q (F0 m pc ls (.int (nI j) :: .int (nI i) :: rest)) :=
  lv_irem hx hb hdg (nI_ne0 hj0 hj) (by rw [nI_mod hj0 hi hj]; exact k)
end ZD
def lowF (ys : Nat → Int32) (a : Nat) (v : Int32) : Nat → Int32 := if ys a ≤ v then ys else upd ys a v
/-- where call j of those that it is about stops next, in state s -/
def nxN (fN tN ab : Nat → Nat) (s j : Nat) : Nat := if s / 3 ^ j % 3 = 0 then fN (ab j) else tN (ab j)
def goF (fN tN ab : Nat → Nat) (s lv : Nat) (ys : Nat → Int32) : Nat → Nat → Int32
  | 0 => ys
  | j + 1 => if s / 3 ^ j % 3 < 2 then lowF (goF fN tN ab s lv ys j) (20 * (s + 3 ^ j) + nxN fN tN ab s j) (goF fN tN ab s lv ys j (20 * s + lv) + farI (nI lv) (nI (nxN fN tN ab s j))) else goF fN tN ab s lv ys j
def rowF (fN tN ab : Nat → Nat) (s n : Nat) (ys : Nat → Int32) : Nat → Nat → Int32
  | 0 => ys
  | lv + 1 => if rowF fN tN ab s n ys lv (20 * s + lv) < 1000000 then goF fN tN ab s lv (rowF fN tN ab s n ys lv) n else rowF fN tN ab s n ys lv
def dpF (fN tN ab : Nat → Nat) (fi lev n : Nat) (ys : Nat → Int32) : Nat → Nat → Int32
  | 0 => ys
  | q + 1 => rowF fN tN ab (fi + q) n (dpF fN tN ab fi lev n ys q) lev
def beF (ys : Nat → Int32) (a : Nat) : Nat → Int32
  | 0 => 1000000
  | lv + 1 => if beF ys a lv ≤ ys (20 * a + lv) then beF ys a lv else ys (20 * a + lv)
def faF (ys : Nat → Int32) (m : Nat) : Nat → Int32 := fun w => if w < m then 1000000 else ys w
theorem faF_s {ys : Nat → Int32} {m : Nat} : upd (faF ys m) m 1000000 = faF ys (m + 1) := by
  funext w
  unfold upd faF
  by_cases h : w = m
  · subst h; simp
  · by_cases h2 : w < m
    · simp [h, h2, show w < m + 1 by omega]
    · simp [h, h2, show ¬ w < m + 1 by omega]
/-- the calls that it is about -/
def lsB (C : Nat → Nat → Int32) (lf : Int32) : Nat → Bool := fun k => isB C k 1 lf || isB C k 0 lf
def fiF (C : Nat → Nat → Int32) (lf : Int32) : Nat → Nat
  | 0 => 0
  | i + 1 => if isB C i 1 lf = true then fiF C lf i + 1 * 3 ^ cntW (lsB C lf) i else fiF C lf i
def aoF (C : Nat → Nat → Int32) (lf : Int32) (ao : Nat → Int32) : Nat → Nat → Int32
  | 0 => ao
  | i + 1 => if lsB C lf i = true then upd (aoF C lf ao i) (cntW (lsB C lf) i) (nI i) else aoF C lf ao i
/-- call number j of those -/
def abN (C : Nat → Nat → Int32) (lf : Int32) : Nat → Nat → Nat
  | 0 => fun _ => 0
  | i + 1 => if lsB C lf i = true then (fun j => if j = cntW (lsB C lf) i then i else abN C lf i j) else abN C lf i
theorem cntW_mono {f : Nat → Bool} {a : Nat} : ∀ {b : Nat}, a ≤ b → cntW f a ≤ cntW f b
  | 0, h => by rw [Nat.le_zero.mp h]; exact Nat.le_refl _
  | b + 1, h => by
    by_cases e : a = b + 1
    · subst e; exact Nat.le_refl _
    · have := cntW_mono (f := f) (a := a) (b := b) (by omega)
      have h2 : cntW f b ≤ cntW f (b + 1) := by
        rw [cntW]; split <;> omega
      omega
theorem isB_01 {C : Nat → Nat → Int32} {k : Nat} {lf : Int32} (h : isB C k 1 lf = true) : isB C k 0 lf = false := by
  have := isB_st h
  unfold isB
  rw [this]
  rfl
theorem cnt_ls (C : Nat → Nat → Int32) (lf : Int32) : ∀ n, cntW (lsB C lf) n = cntW (fun k => isB C k 1 lf) n + cntW (fun k => isB C k 0 lf) n
  | 0 => rfl
  | n + 1 => by
    have ih := cnt_ls C lf n
    by_cases h1 : isB C n 1 lf = true
    · rw [cntW_t (f := lsB C lf) (by simp [lsB, h1]), cntW_t (f := fun k => isB C k 1 lf) h1, cntW_f (f := fun k => isB C k 0 lf) (isB_01 h1)]; omega
    · have h1' : isB C n 1 lf = false := by simpa using h1
      by_cases h0 : isB C n 0 lf = true
      · rw [cntW_t (f := lsB C lf) (by simp [lsB, h0]), cntW_f (f := fun k => isB C k 1 lf) h1', cntW_t (f := fun k => isB C k 0 lf) h0]; omega
      · have h0' : isB C n 0 lf = false := by simpa using h0
        rw [cntW_f (f := lsB C lf) (by simp [lsB, h0', h1']), cntW_f (f := fun k => isB C k 1 lf) h1', cntW_f (f := fun k => isB C k 0 lf) h0']; omega
theorem fiF_lt (C : Nat → Nat → Int32) (lf : Int32) : ∀ n, fiF C lf n < 3 ^ cntW (lsB C lf) n
  | 0 => by simp [fiF, cntW]
  | n + 1 => by
    have ih := fiF_lt C lf n
    unfold fiF
    by_cases h1 : isB C n 1 lf = true
    · rw [if_pos h1, cntW_t (by simp [lsB, h1]), Nat.pow_succ]; omega
    · rw [if_neg h1]
      by_cases h0 : isB C n 0 lf = true
      · rw [cntW_t (by simp [lsB, h0]), Nat.pow_succ]; omega
      · rw [cntW_f (by simp [lsB, h0, h1])]; exact ih
theorem pow3_le {n : Nat} (h : n ≤ 4) : 3 ^ n ≤ 81 := Nat.pow_le_pow_right (n := 3) (by decide) h
theorem aoF_ab (C : Nat → Nat → Int32) (lf : Int32) (ao : Nat → Int32) : ∀ n j, j < cntW (lsB C lf) n → aoF C lf ao n j = nI (abN C lf n j) ∧ abN C lf n j < n
  | 0, j, h => absurd h (Nat.not_lt_zero _)
  | n + 1, j, h => by
    have ih := aoF_ab C lf ao n
    unfold aoF abN
    by_cases hb : lsB C lf n = true
    · rw [if_pos hb, if_pos hb]
      rw [cntW_t hb] at h
      by_cases e : j = cntW (lsB C lf) n
      · subst e; simp [upd]
      · have := ih j (by omega)
        simp only [upd, if_neg e]
        exact ⟨this.1, by omega⟩
    · have hb' : lsB C lf n = false := by simpa using hb
      rw [if_neg hb, if_neg hb]
      rw [cntW_f hb'] at h
      have := ih j h
      exact ⟨this.1, by omega⟩
theorem dig_lt {n j s : Nat} (hn : n ≤ 4) (hj : j < n) (hs : s < 3 ^ n) (h2 : s / 3 ^ j % 3 < 2) : s + 3 ^ j < 3 ^ n := by
  have H : ∀ n : Fin 5, ∀ j : Fin n.val, ∀ s : Fin (3 ^ n.val), s.val / 3 ^ j.val % 3 < 2 → s.val + 3 ^ j.val < 3 ^ n.val := by decide +kernel
  exact H ⟨n, by omega⟩ ⟨j, hj⟩ ⟨s, hs⟩ h2
theorem nI_eq0 {k : Nat} (h : k < 2 ^ 31) : nI k = 0 ↔ k = 0 := by
  rw [← nI_0]; exact nI_eq h (by decide)
theorem nI_s1 {a : Nat} (h : 1 ≤ a) : nI a - 1 = nI (a - 1) := nI_subN h
def ldY (fN tN : Nat → Nat) (C : Nat → Nat → Int32) (lf : Int32) (nC lev a0 : Nat) (ys : Nat → Int32) : Nat → Int32 :=
  dpF fN tN (abN C lf nC) (fiF C lf nC) lev (cntW (lsB C lf) nC) (upd (faF ys (20 * 3 ^ cntW (lsB C lf) nC)) (20 * fiF C lf nC + a0) 0) (3 ^ cntW (lsB C lf) nC - fiF C lf nC)
def ldR (fN tN : Nat → Nat) (C : Nat → Nat → Int32) (lf : Int32) (nC lev a0 : Nat) (ys : Nat → Int32) : Int32 :=
  beF (ldY fN tN C lf nC lev a0 ys) (3 ^ cntW (lsB C lf) nC - 1) lev
