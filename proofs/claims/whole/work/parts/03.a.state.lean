/-! Own words for the state: rows of rows, the worlds, what the methods compute. -/
/-- row j gets x at place k -/
def upC (C : Nat → Nat → Int32) (j k : Nat) (x : Int32) : Nat → Nat → Int32 := fun q => if q = j then upd (C j) k x else C q
theorem upC_s {C : Nat → Nat → Int32} {j k : Nat} {x : Int32} : upC C j k x j k = x := by simp [upC, upd]
theorem upC_n {C : Nat → Nat → Int32} {j k q : Nat} {x : Int32} (h : q ≠ j) : upC C j k x q = C q := by simp [upC, h]
/-- LiftRows2$Calls: 0 from, 1 to, 2 rank, 3 load, 4 state, 5 by, 6 cameAt, 7 boardedAt, 8 servedAt -/
abbrev wC (cI : ClassId) (h : Nat → Nat) (n : Nat) (C : Nat → Nat → Int32) : va_W :=
  [(h 0, .inr (1, [.ref (h 1), .ref (h 2), .ref (h 3), .ref (h 4), .ref (h 5), .ref (h 6), .ref (h 7), .ref (h 8), .ref (h 9), .int (nI n)])),
   (h 1, .inl (cI, 24, .inl (C 0))), (h 2, .inl (cI, 24, .inl (C 1))), (h 3, .inl (cI, 24, .inl (C 2))), (h 4, .inl (cI, 24, .inl (C 3))), (h 5, .inl (cI, 24, .inl (C 4))), (h 6, .inl (cI, 24, .inl (C 5))), (h 7, .inl (cI, 24, .inl (C 6))), (h 8, .inl (cI, 24, .inl (C 7))), (h 9, .inl (cI, 24, .inl (C 8)))]
/-- LiftRows2$Lifts: L 0 at, 1 capacity, 2 direction, 3 openFor; B 0 isStuck, 1 isReserved, 2 isKept -/
abbrev wL (cI cZ : ClassId) (h : Nat → Nat) (n : Nat) (gn : Int32) (L B : Nat → Nat → Int32) : va_W :=
  [(h 0, .inr (3, [.ref (h 1), .ref (h 2), .ref (h 3), .ref (h 4), .ref (h 5), .ref (h 6), .ref (h 7), .int (nI n), .int gn])),
   (h 1, .inl (cI, 4, .inl (L 0))), (h 2, .inl (cI, 4, .inl (L 1))), (h 3, .inl (cI, 4, .inl (L 2))), (h 4, .inl (cI, 4, .inl (L 3))), (h 5, .inl (cZ, 4, .inl (B 0))), (h 6, .inl (cZ, 4, .inl (B 1))), (h 7, .inl (cZ, 4, .inl (B 2)))]
/-- LiftRows2$Events: 0 second, 1 lift, 2 call, 3 kind -/
abbrev wE (cI : ClassId) (h : Nat → Nat) (n : Nat) (E : Nat → Nat → Int32) : va_W :=
  [(h 0, .inr (2, [.ref (h 1), .ref (h 2), .ref (h 3), .ref (h 4), .int (nI n)])), (h 1, .inl (cI, 48, .inl (E 0))), (h 2, .inl (cI, 48, .inl (E 1))), (h 3, .inl (cI, 48, .inl (E 2))), (h 4, .inl (cI, 48, .inl (E 3)))]
/-- is: in a state, given to a lift -/
def isB (C : Nat → Nat → Int32) (i : Nat) (st lf : Int32) : Bool := decide (C 4 i = st) && decide (C 5 i = lf)
def outB (C : Nat → Nat → Int32) (i : Nat) (lf hr : Int32) : Bool := isB C i 1 lf && decide (C 1 i = hr)
def fitB (C : Nat → Nat → Int32) (i : Nat) (lf hr rm : Int32) : Bool := (isB C i 0 lf && decide (C 0 i = hr)) && decide (C 3 i ≤ rm)
/-- a set of bits g k, of those k below n with f k -/
def setG (f : Nat → Bool) (g : Nat → Int32) : Nat → Int32
  | 0 => 0
  | k + 1 => if f k = true then setG f g k ||| ((1 : Int32) <<< (g k &&& 31)) else setG f g k
theorem setG_t {f : Nat → Bool} {g : Nat → Int32} {k : Nat} (h : f k = true) : setG f g (k + 1) = setG f g k ||| ((1 : Int32) <<< (g k &&& 31)) := by simp [setG, h]
theorem setG_f {f : Nat → Bool} {g : Nat → Int32} {k : Nat} (h : f k = false) : setG f g (k + 1) = setG f g k := by simp [setG, h]
/-- a sum of g k, of those k below n with f k -/
def sumW (f : Nat → Bool) (g : Nat → Int32) : Nat → Int32
  | 0 => 0
  | k + 1 => if f k = true then sumW f g k + g k else sumW f g k
theorem sumW_t {f : Nat → Bool} {g : Nat → Int32} {k : Nat} (h : f k = true) : sumW f g (k + 1) = sumW f g k + g k := by simp [sumW, h]
theorem sumW_f {f : Nat → Bool} {g : Nat → Int32} {k : Nat} (h : f k = false) : sumW f g (k + 1) = sumW f g k := by simp [sumW, h]
/-- how many k below n have f k -/
def cntW (f : Nat → Bool) : Nat → Nat
  | 0 => 0
  | k + 1 => if f k = true then cntW f k + 1 else cntW f k
theorem cntW_t {f : Nat → Bool} {k : Nat} (h : f k = true) : cntW f (k + 1) = cntW f k + 1 := by simp [cntW, h]
theorem cntW_f {f : Nat → Bool} {k : Nat} (h : f k = false) : cntW f (k + 1) = cntW f k := by simp [cntW, h]
theorem cntW_le (f : Nat → Bool) : ∀ n, cntW f n ≤ n
  | 0 => Nat.le_refl 0
  | n + 1 => by
    have := cntW_le f n
    unfold cntW
    split <;> omega
/-- one of the first n has f -/
def anyW (f : Nat → Bool) : Nat → Bool
  | 0 => false
  | k + 1 => anyW f k || f k
theorem anyW_s (f : Nat → Bool) (k : Nat) : anyW f (k + 1) = (anyW f k || f k) := rfl
theorem anyW_iff {f : Nat → Bool} : ∀ {n : Nat}, anyW f n = true ↔ ∃ k, k < n ∧ f k = true
  | 0 => by simp [anyW]
  | n + 1 => by
    rw [anyW, Bool.or_eq_true, anyW_iff]
    constructor
    · rintro (⟨k, h1, h2⟩ | h)
      · exact ⟨k, by omega, h2⟩
      · exact ⟨n, by omega, h⟩
    · rintro ⟨k, h1, h2⟩
      by_cases e : k = n
      · subst e; exact Or.inr h2
      · exact Or.inl ⟨k, by omega, h2⟩
/-- bit k of a set -/
def bitB (x : Int32) (k : Nat) : Bool := decide ((x >>> (nI k &&& 31)) &&& 1 = 1)
/-- the nearest stop so far, and how far it is -/
def nsF (C : Nat → Nat → Int32) (a sd wt ab : Int32) : Nat → Int32 × Int32
  | 0 => (-1, 20)
  | k + 1 => if ((bitB wt k || bitB ab k) && decide (0 < ((if bitB wt k = true then C 0 k else C 1 k) - a) * sd) && decide (((if bitB wt k = true then C 0 k else C 1 k) - a) * sd < (nsF C a sd wt ab k).2)) = true
      then (if bitB wt k = true then C 0 k else C 1 k, ((if bitB wt k = true then C 0 k else C 1 k) - a) * sd) else nsF C a sd wt ab k
theorem nsF_s {C : Nat → Nat → Int32} {a sd wt ab x y so : Int32} {k : Nat} {bw ba : Bool} (ex : (x, y) = nsF C a sd wt ab k) (ew : bw = bitB wt k) (ea : ba = bitB ab k) (eo : so = if bw = true then C 0 k else C 1 k) :
    nsF C a sd wt ab (k + 1) = if ((bw || ba) && decide (0 < (so - a) * sd) && decide ((so - a) * sd < y)) = true then (so, (so - a) * sd) else (x, y) := by
  rw [nsF, ← ex, ← ew, ← ea, ← eo]
/-- one more call -/
def addC (C : Nat → Nat → Int32) (n : Nat) (a b r q t : Int32) : Nat → Nat → Int32 :=
  upC (upC (upC (upC (upC (upC (upC (upC (upC C 0 n a) 1 n b) 2 n r) 3 n q) 4 n 0) 5 n (-1)) 6 n t) 7 n (-1)) 8 n (-1)
/-- how far, as Math.abs says it -/
def absI (x : Int32) : Int32 := if 0 ≤ x then x else 0 - x
/-- LiftRows2$Lifts: what may get a call; a second with the door open; a second on the way -/
def getB (L B : Nat → Nat → Int32) (i : Nat) (ld : Int32) : Bool := (decide (B 0 i = 0) && decide (B 1 i = 0)) && !decide (L 1 i < ld)
def kpI (B : Nat → Nat → Int32) (i : Nat) : Int32 := if B 2 i = 0 then 0 else 1
def pasL (L B : Nat → Nat → Int32) (i : Nat) : Nat → Nat → Int32 := upC L 3 i (if kpI B i < L 3 i - 1 then L 3 i - 1 else kpI B i)
def dirF (d : Int32) (up dn : Bool) : Int32 := if (up && !(decide (d = -1) && dn)) = true then 1 else if dn = true then -1 else 0
def goL (L : Nat → Nat → Int32) (i : Nat) (d : Int32) : Nat → Nat → Int32 := upC (upC L 2 i d) 0 i (L 0 i + d)
/-- one more event -/
def addE (E : Nat → Nat → Int32) (n : Nat) (a b q k : Int32) : Nat → Nat → Int32 := upC (upC (upC (upC E 0 n a) 1 n b) 2 n q) 3 n k
def evN (n : Nat) : Nat := if n < 48 then n + 1 else n
def evE (E : Nat → Nat → Int32) (n : Nat) (a b q k : Int32) : Nat → Nat → Int32 := if n < 48 then addE E n a b q k else E
theorem cnt_add (f : Nat → Bool) (i : Nat) : nI (cntW f i) + bI (f i) = nI (cntW f (i + 1)) := by
  by_cases h : f i = true
  · rw [cntW_t h, h, bI_t]; exact nI_1 _
  · have h' : f i = false := by simpa using h
    rw [cntW_f h', h', bI_f, Int32.add_zero]
/-- Integer.bitCount, as it reckons -/
def bc1 (x : Int32) : Int32 := x - ((x.toUInt32 >>> ((1 : Int32).toUInt32 &&& Int32.toUInt32 31)).toInt32 &&& 1431655765)
def bc2 (x : Int32) : Int32 := (x &&& 858993459) + ((x.toUInt32 >>> ((2 : Int32).toUInt32 &&& Int32.toUInt32 31)).toInt32 &&& 858993459)
def bc3 (x : Int32) : Int32 := (x + (x.toUInt32 >>> ((4 : Int32).toUInt32 &&& Int32.toUInt32 31)).toInt32) &&& 252645135
def bc4 (x : Int32) : Int32 := x + (x.toUInt32 >>> ((8 : Int32).toUInt32 &&& Int32.toUInt32 31)).toInt32
def bc5 (x : Int32) : Int32 := x + (x.toUInt32 >>> ((16 : Int32).toUInt32 &&& Int32.toUInt32 31)).toInt32
def bcI (x : Int32) : Int32 := bc5 (bc4 (bc3 (bc2 (bc1 x)))) &&& 63
