/-! The least way, as LiftRows2 tries it. -/
def swI (C : Nat → Nat → Int32) (n : Nat) (a wt : Int32) : Int32 := wt &&& (setG (fun k => decide (C 0 k = a)) nI n ^^^ (-1))
def saI (C : Nat → Nat → Int32) (n : Nat) (a wt ab : Int32) : Int32 := (ab ||| (wt &&& (swI C n a wt ^^^ (-1)))) &&& (setG (fun k => decide (C 1 k = a)) nI n ^^^ (-1))
def lwF (C : Nat → Nat → Int32) (n : Nat) : Nat → Int32 → Int32 → Int32 → Int32
  | 0, _, _, _ => 0
  | f + 1, a, wt, ab => if swI C n a wt ||| saI C n a wt ab = 0 then 0 else
      (if (if (nsF C a (-1) (swI C n a wt) (saI C n a wt ab) n).1 = -1 then 2147483647 else (a - (nsF C a (-1) (swI C n a wt) (saI C n a wt ab) n).1) + lwF C n f (nsF C a (-1) (swI C n a wt) (saI C n a wt ab) n).1 (swI C n a wt) (saI C n a wt ab)) < (if (nsF C a 1 (swI C n a wt) (saI C n a wt ab) n).1 = -1 then 2147483647 else ((nsF C a 1 (swI C n a wt) (saI C n a wt ab) n).1 - a) + lwF C n f (nsF C a 1 (swI C n a wt) (saI C n a wt ab) n).1 (swI C n a wt) (saI C n a wt ab))
       then (if (nsF C a (-1) (swI C n a wt) (saI C n a wt ab) n).1 = -1 then 2147483647 else (a - (nsF C a (-1) (swI C n a wt) (saI C n a wt ab) n).1) + lwF C n f (nsF C a (-1) (swI C n a wt) (saI C n a wt ab) n).1 (swI C n a wt) (saI C n a wt ab))
       else (if (nsF C a 1 (swI C n a wt) (saI C n a wt ab) n).1 = -1 then 2147483647 else ((nsF C a 1 (swI C n a wt) (saI C n a wt ab) n).1 - a) + lwF C n f (nsF C a 1 (swI C n a wt) (saI C n a wt ab) n).1 (swI C n a wt) (saI C n a wt ab)))
abbrev rmL (f : Nat) : Room := { frames := f + 2, cells := 0, slots := 0, locals := 31 * f + 80 }
