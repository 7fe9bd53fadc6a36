/-! The reference: lift, call, step, count. -/
def cnI (lev tm : Nat) (gn : Int32) (nL nC nE : Nat) (C : Nat → Nat → Int32) (u : Int32) : Int32 :=
  if u = 0 then nI lev else if u = 1 then nI nL else if u = 2 then nI nC else if u = 3 then nI nE else if u = 4 then nI tm else if u = 8 then gn
  else if u = 5 then nI (cntW (fun k => decide (C 4 k = 0) && (decide (u = 5) || decide (C 5 k = -1))) nC) else if u = 6 then nI (cntW (fun k => decide (C 4 k = 0) && (decide (u = 5) || decide (C 5 k = -1))) nC)
  else if u = 7 then setG (fun k => decide (C 4 k = 0)) (C 0) nC else -1
