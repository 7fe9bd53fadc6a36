/-! LiftRows2: its world, and what its private methods compute. -/
abbrev wX (cI cZ : ClassId) (h : Nat → Nat) (lev tm : Nat) (gn : Int32) (nL nC nE : Nat) (L B C E : Nat → Nat → Int32) : va_W :=
  [(h 0, .inr (4, [.int (nI lev), .ref (h 1), .ref (h 9), .ref (h 19), .int (nI tm)])),
   (h 1, .inr (3, [.ref (h 2), .ref (h 3), .ref (h 4), .ref (h 5), .ref (h 6), .ref (h 7), .ref (h 8), .int (nI nL), .int gn])),
   (h 2, .inl (cI, 4, .inl (L 0))), (h 3, .inl (cI, 4, .inl (L 1))), (h 4, .inl (cI, 4, .inl (L 2))), (h 5, .inl (cI, 4, .inl (L 3))), (h 6, .inl (cZ, 4, .inl (B 0))), (h 7, .inl (cZ, 4, .inl (B 1))), (h 8, .inl (cZ, 4, .inl (B 2))),
   (h 9, .inr (1, [.ref (h 10), .ref (h 11), .ref (h 12), .ref (h 13), .ref (h 14), .ref (h 15), .ref (h 16), .ref (h 17), .ref (h 18), .int (nI nC)])),
   (h 10, .inl (cI, 24, .inl (C 0))), (h 11, .inl (cI, 24, .inl (C 1))), (h 12, .inl (cI, 24, .inl (C 2))), (h 13, .inl (cI, 24, .inl (C 3))), (h 14, .inl (cI, 24, .inl (C 4))), (h 15, .inl (cI, 24, .inl (C 5))), (h 16, .inl (cI, 24, .inl (C 6))), (h 17, .inl (cI, 24, .inl (C 7))), (h 18, .inl (cI, 24, .inl (C 8))),
   (h 19, .inr (2, [.ref (h 20), .ref (h 21), .ref (h 22), .ref (h 23), .int (nI nE)])), (h 20, .inl (cI, 48, .inl (E 0))), (h 21, .inl (cI, 48, .inl (E 1))), (h 22, .inl (cI, 48, .inl (E 2))), (h 23, .inl (cI, 48, .inl (E 3)))]
/-- the nearest lift so far, and how far it is -/
def nlF (L B : Nat → Nat → Int32) (fr ld : Int32) : Nat → Int32 × Int32
  | 0 => (-1, 20)
  | k + 1 => if (getB L B k ld && decide (absI (L 0 k - fr) < (nlF L B fr ld k).2)) = true then (nI k, absI (L 0 k - fr)) else nlF L B fr ld k
/-- calls given anew, and how many found a lift -/
def gaF (L B : Nat → Nat → Int32) (nL : Nat) (lf : Int32) (C : Nat → Nat → Int32) : Nat → (Nat → Nat → Int32) × Int32
  | 0 => (C, 0)
  | k + 1 => if isB (gaF L B nL lf C k).1 k 0 lf = true then
      (upC (gaF L B nL lf C k).1 5 k (nlF L B ((gaF L B nL lf C k).1 0 k) ((gaF L B nL lf C k).1 3 k) nL).1, (gaF L B nL lf C k).2 + bI (!decide ((nlF L B ((gaF L B nL lf C k).1 0 k) ((gaF L B nL lf C k).1 3 k) nL).1 = -1)))
    else gaF L B nL lf C k
/-- events, calls, events' rows -/
abbrev Z3 : Type := Nat × (Nat → Nat → Int32) × (Nat → Nat → Int32)
/-- call c gets out, if it does -/
def outS (tm lf : Nat) (hr : Int32) (z : Z3) (c : Nat) : Z3 :=
  if outB z.2.1 c (nI lf) hr = true then (evN z.1, upC (upC z.2.1 4 c 2) 8 c (nI tm), evE z.2.2 z.1 (nI tm) (nI lf) (nI c) 1) else z
def outZ (tm lf : Nat) (hr : Int32) (z : Z3) : Nat → Z3
  | 0 => z
  | c + 1 => outS tm lf hr (outZ tm lf hr z c) c
/-- call c of rank r comes aboard, if it does -/
def inS (tm lf : Nat) (hr r : Int32) (z : Z3 × Int32) (c : Nat) : Z3 × Int32 :=
  if (decide (z.1.2.1 2 c = r) && fitB z.1.2.1 c (nI lf) hr z.2) = true then ((evN z.1.1, upC (upC z.1.2.1 4 c 1) 7 c (nI tm), evE z.1.2.2 z.1.1 (nI tm) (nI lf) (nI c) 0), z.2 - z.1.2.1 3 c) else z
def inZ (tm lf : Nat) (hr r : Int32) (z : Z3 × Int32) : Nat → Z3 × Int32
  | 0 => z
  | c + 1 => inS tm lf hr r (inZ tm lf hr r z c) c
def inAll (tm lf : Nat) (hr : Int32) (n : Nat) (z : Z3 × Int32) : Nat → Z3 × Int32
  | 0 => z
  | q + 1 => inZ tm lf hr (nI (q + 1)) (inAll tm lf hr n z q) n
/-- whether the door opens here -/
def opnB (L C : Nat → Nat → Int32) (lf nC k : Nat) : Bool :=
  anyW (fun c => outB C c (nI lf) (L 0 lf) || fitB C c (nI lf) (L 0 lf) (L 1 lf - sumW (fun k => isB C k 1 (nI lf) && !decide (C 1 k = L 0 lf)) (C 3) nC)) k
theorem anyW_of {f : Nat → Bool} {n i : Nat} (h : i < n) (hf : f i = true) : anyW f n = true := anyW_iff.mpr ⟨i, h, hf⟩
/-- work above (1) or below (-1) -/
def wrkB (L C : Nat → Nat → Int32) (lf nC : Nat) (sd : Int32) : Bool :=
  !decide ((nsF C (L 0 lf) sd (setG (fun k => isB C k 0 (nI lf)) nI nC) (setG (fun k => isB C k 1 (nI lf)) nI nC) nC).1 = -1)
/-- gone, events, lifts' rows, calls' rows, events' rows -/
abbrev Z5 : Type := Int32 × Nat × (Nat → Nat → Int32) × (Nat → Nat → Int32) × (Nat → Nat → Int32)
abbrev wZ (cI cZ : ClassId) (h : Nat → Nat) (lev tm nL nC : Nat) (B : Nat → Nat → Int32) (z : Z5) : va_W := wX cI cZ h lev tm z.1 nL nC z.2.1 z.2.2.1 B z.2.2.2.1 z.2.2.2.2
def exZ (tm lf nC : Nat) (L : Nat → Nat → Int32) (z : Z3) : Z3 :=
  (inAll tm lf (L 0 lf) nC (outZ tm lf (L 0 lf) z nC, L 1 lf - sumW (fun k => isB (outZ tm lf (L 0 lf) z nC).2.1 k 1 (nI lf) && !decide ((outZ tm lf (L 0 lf) z nC).2.1 1 k = -1)) ((outZ tm lf (L 0 lf) z nC).2.1 3) nC) 3).1
/-- a lift's second -/
def oneZ (tm lf nC : Nat) (B : Nat → Nat → Int32) (z : Z5) : Z5 :=
  if z.2.2.1 3 lf ≤ 0 then
    if opnB z.2.2.1 z.2.2.2.1 lf nC nC = true then (z.1, (exZ tm lf nC z.2.2.1 (z.2.1, z.2.2.2)).1, upC z.2.2.1 3 lf 3, (exZ tm lf nC z.2.2.1 (z.2.1, z.2.2.2)).2)
    else (z.1 + absI (dirF (z.2.2.1 2 lf) (wrkB z.2.2.1 z.2.2.2.1 lf nC 1) (wrkB z.2.2.1 z.2.2.2.1 lf nC (-1))), z.2.1, goL z.2.2.1 lf (dirF (z.2.2.1 2 lf) (wrkB z.2.2.1 z.2.2.2.1 lf nC 1) (wrkB z.2.2.1 z.2.2.2.1 lf nC (-1))), z.2.2.2)
  else (z.1, z.2.1, pasL z.2.2.1 B lf, z.2.2.2)
def secZ (tm nC : Nat) (B : Nat → Nat → Int32) (z : Z5) : Nat → Z5
  | 0 => z
  | k + 1 => if B 0 k = 0 then oneZ tm k nC B (secZ tm nC B z k) else secZ tm nC B z k
theorem evN_le {n : Nat} (h : n ≤ 48) : evN n ≤ 48 := by unfold evN; split <;> omega
theorem outZ_le {tm lf : Nat} {hr : Int32} {z : Z3} (h : z.1 ≤ 48) : ∀ {n : Nat}, (outZ tm lf hr z n).1 ≤ 48
  | 0 => h
  | n + 1 => by
    have ih := outZ_le (tm := tm) (lf := lf) (hr := hr) h (n := n)
    unfold outZ outS
    split
    · exact evN_le ih
    · exact ih
theorem inZ_le {tm lf : Nat} {hr r : Int32} {z : Z3 × Int32} (h : z.1.1 ≤ 48) : ∀ {n : Nat}, (inZ tm lf hr r z n).1.1 ≤ 48
  | 0 => h
  | n + 1 => by
    have ih := inZ_le (tm := tm) (lf := lf) (hr := hr) (r := r) h (n := n)
    unfold inZ inS
    split
    · exact evN_le ih
    · exact ih
theorem inAll_le {tm lf : Nat} {hr : Int32} {m : Nat} {z : Z3 × Int32} (h : z.1.1 ≤ 48) : ∀ {n : Nat}, (inAll tm lf hr m z n).1.1 ≤ 48
  | 0 => h
  | n + 1 => by unfold inAll; exact inZ_le (inAll_le h)
theorem oneZ_le {tm lf nC : Nat} {B : Nat → Nat → Int32} {z : Z5} (h : z.2.1 ≤ 48) : (oneZ tm lf nC B z).2.1 ≤ 48 := by
  unfold oneZ
  split
  · split
    · exact inAll_le (outZ_le h)
    · exact h
  · exact h
theorem secZ_le {tm nC : Nat} {B : Nat → Nat → Int32} {z : Z5} (h : z.2.1 ≤ 48) : ∀ {n : Nat}, (secZ tm nC B z n).2.1 ≤ 48
  | 0 => h
  | n + 1 => by
    unfold secZ
    split
    · exact oneZ_le (secZ_le h)
    · exact secZ_le h
