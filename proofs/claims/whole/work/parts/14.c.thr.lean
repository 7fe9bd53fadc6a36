theorem inB_ge {k n : Nat} (h : n ≤ k) (hk : k < 2 ^ 30) : inB (nI k) 0 (nI n - 1) = false := by
  cases hb : inB (nI k) 0 (nI n - 1) with
  | false => rfl
  | true =>
    obtain ⟨j, h1, h2⟩ := (inB_iff (by omega)).mp hb
    rw [nI_eq (by omega) (by omega)] at h2
    omega
def wsX3_levelO : List Cond := .code yX3_level cX3_level 2 (some .int) :: (wsX3_level.tail ++ zWO.filter goodWord)
set_option maxRecDepth 100000 in
theorem kX3_refuseOutside_xI : ∀ w ∈ (zWI).filter goodWord, w ∈ wsX3_refuseOutside := by decide +kernel
theorem kX3_refuseOutside_l63 : Cond.classLink RX3 63 zIA ∈ wsX3_refuseOutside := by decide +kernel
theorem kX3_refuseOutside_iXI : Cond.initialized zIA ∈ wsX3_refuseOutside := by decide +kernel
set_option maxHeartbeats 4000000 in
set_option maxRecDepth 100000 in
theorem tX3_refuseOutside_x (l : Launch) (D : va_G) (cI cZ cJ : ClassId) (v lo hi : Int32) (hno : inB v lo hi = false) (hl9 : l.stackTraces = false) (sa : Nat → Nat)  : ∀ sz : Nat, zMX l yX3_refuseOutside wsX3_refuseOutside ({ frames := 6, cells := 1, slots := 6, locals := 82 } : Room) D cI cZ cJ ([]) sz [.int v, .int lo, .int hi] sa zIA := by
  intro sz
  refine z_headX (y := yX3_refuseOutside) (av := [.int v, .int lo, .int hi]) (w := ([])) (cc := cX3_refuseOutside) (maxL := 3) (ret := none) (by decide) rfl (Nat.le_of_ble_eq_true rfl) ?_
  intro p e s m below meth c ls A hat hX hT hP hD hS hl
  obtain ⟨hx, hb, hr, hml, hlocks, hts, hown, hin, hK, hE, hA⟩ := hat
  have hP : va_P D vwCl [] s.heap := hP
  have hD : va_D A [] := hD
  have hl : lv_has ls 3 [(0, .int v), (1, .int lo), (2, .int hi)] := hl
  refine lv_iload_n hx hb dX3_refuseOutside_0 rfl (lv_at hl 0 rfl) ?_
  refine lv_iload_n hx hb dX3_refuseOutside_1 rfl (lv_at hl 1 rfl) ?_
  refine lv_icmp_lt (x := v) (y := lo) (tgt := 10) hx hb dX3_refuseOutside_2 (by decide) (fun c2 => ?_) (fun c2 => ?_)
  · skip
    exact z_thrS (cls := zIA) (names := zRE) (ik := 63) (ic := 67) (text := "a number outside its range") (is := 204) (by decide +kernel) (by decide +kernel) zI_good zI_bad hx hb hl9 hown hts kX3_refuseOutside_l63 kX3_refuseOutside_iXI kX3_refuseOutside_xI hX (by decide) hT hP hS (hl.1.trans hml.symm) dX3_refuseOutside_10 dX3_refuseOutside_13 dX3_refuseOutside_14 dX3_refuseOutside_16 dX3_refuseOutside_19 (Nat.le_of_ble_eq_true rfl) (Nat.le_of_ble_eq_true rfl) ⟨Nat.le_of_ble_eq_true rfl, Nat.le_of_ble_eq_true rfl⟩ hlocks ⟨Nat.le_of_ble_eq_true rfl, Nat.le_of_ble_eq_true rfl⟩
  · skip
    refine lv_iload_n hx hb dX3_refuseOutside_5 rfl (lv_at hl 0 rfl) ?_
    refine lv_iload_n hx hb dX3_refuseOutside_6 rfl (lv_at hl 2 rfl) ?_
    refine lv_icmp_le (x := v) (y := hi) (tgt := 20) hx hb dX3_refuseOutside_7 (by decide) (fun c7 => ?_) (fun c7 => ?_)
    · exact absurd ⟨c2, c7⟩ (inB_f hno)
    · skip
      exact z_thrS (cls := zIA) (names := zRE) (ik := 63) (ic := 67) (text := "a number outside its range") (is := 204) (by decide +kernel) (by decide +kernel) zI_good zI_bad hx hb hl9 hown hts kX3_refuseOutside_l63 kX3_refuseOutside_iXI kX3_refuseOutside_xI hX (by decide) hT hP hS (hl.1.trans hml.symm) dX3_refuseOutside_10 dX3_refuseOutside_13 dX3_refuseOutside_14 dX3_refuseOutside_16 dX3_refuseOutside_19 (Nat.le_of_ble_eq_true rfl) (Nat.le_of_ble_eq_true rfl) ⟨Nat.le_of_ble_eq_true rfl, Nat.le_of_ble_eq_true rfl⟩ hlocks ⟨Nat.le_of_ble_eq_true rfl, Nat.le_of_ble_eq_true rfl⟩

set_option maxRecDepth 100000 in
theorem kX3_refuseUnchanged_xS : ∀ w ∈ (zWS).filter goodWord, w ∈ wsX3_refuseUnchanged := by decide +kernel
theorem kX3_refuseUnchanged_l145 : Cond.classLink RX3 145 zIS ∈ wsX3_refuseUnchanged := by decide +kernel
theorem kX3_refuseUnchanged_iXS : Cond.initialized zIS ∈ wsX3_refuseUnchanged := by decide +kernel
set_option maxHeartbeats 4000000 in
set_option maxRecDepth 100000 in
theorem tX3_refuseUnchanged_x (l : Launch) (D : va_G) (cI cZ cJ : ClassId) (x y : Int32) (hno : x = y) (hl9 : l.stackTraces = false) (sa : Nat → Nat)  : ∀ sz : Nat, zMX l yX3_refuseUnchanged wsX3_refuseUnchanged ({ frames := 6, cells := 1, slots := 6, locals := 82 } : Room) D cI cZ cJ ([]) sz [.int x, .int y] sa zIS := by
  intro sz
  refine z_headX (y := yX3_refuseUnchanged) (av := [.int x, .int y]) (w := ([])) (cc := cX3_refuseUnchanged) (maxL := 2) (ret := none) (by decide) rfl (Nat.le_of_ble_eq_true rfl) ?_
  intro p e s m below meth c ls A hat hX hT hP hD hS hl
  obtain ⟨hx, hb, hr, hml, hlocks, hts, hown, hin, hK, hE, hA⟩ := hat
  have hP : va_P D vwCl [] s.heap := hP
  have hD : va_D A [] := hD
  have hl : lv_has ls 2 [(0, .int x), (1, .int y)] := hl
  refine lv_iload_n hx hb dX3_refuseUnchanged_0 rfl (lv_at hl 0 rfl) ?_
  refine lv_iload_n hx hb dX3_refuseUnchanged_1 rfl (lv_at hl 1 rfl) ?_
  refine lv_icmp_ne (x := x) (y := y) (tgt := 15) hx hb dX3_refuseUnchanged_2 (by decide) (fun c2 => ?_) (fun c2 => ?_)
  · exact absurd hno c2
  · skip
    exact z_thrS (cls := zIS) (names := zRE) (ik := 145) (ic := 149) (text := "it is so") (is := 206) (by decide +kernel) (by decide +kernel) zS_good zS_bad hx hb hl9 hown hts kX3_refuseUnchanged_l145 kX3_refuseUnchanged_iXS kX3_refuseUnchanged_xS hX (by decide) hT hP hS (hl.1.trans hml.symm) dX3_refuseUnchanged_5 dX3_refuseUnchanged_8 dX3_refuseUnchanged_9 dX3_refuseUnchanged_11 dX3_refuseUnchanged_14 (Nat.le_of_ble_eq_true rfl) (Nat.le_of_ble_eq_true rfl) ⟨Nat.le_of_ble_eq_true rfl, Nat.le_of_ble_eq_true rfl⟩ hlocks ⟨Nat.le_of_ble_eq_true rfl, Nat.le_of_ble_eq_true rfl⟩

set_option maxRecDepth 100000 in
theorem kX3_refuseNoLift_xN : ∀ w ∈ (zAtN).filter goodWord, w ∈ wsX3_refuseNoLift := by decide +kernel
theorem kX3_refuseNoLift_l85 : Cond.classLink RX3 85 zNN ∈ wsX3_refuseNoLift := by decide +kernel
theorem kX3_refuseNoLift_iXN : Cond.initialized zNN ∈ wsX3_refuseNoLift := by decide +kernel
set_option maxHeartbeats 4000000 in
set_option maxRecDepth 100000 in
theorem tX3_refuseNoLift_x (l : Launch) (D : va_G) (cI cZ cJ : ClassId) (h : Nat → Nat) (lev tm : Nat) (gn : Int32) (nL nC nE : Nat) (L B C E : Nat → Nat → Int32) (v : Int32) (hno : inB v 0 (nI nL - 1) = false) (hL : nL ≤ 4) (hC : nC ≤ 24) (hl9 : l.stackTraces = false) (sa : Nat → Nat)  : ∀ sz : Nat, zMX l yX3_refuseNoLift wsX3_refuseNoLift ({ frames := 6, cells := 1, slots := 6, locals := 82 } : Room) D cI cZ cJ (wX cI cZ h lev tm gn nL nC nE L B C E) sz [.ref (h 0), .int v] sa zNN := by
  intro sz
  refine z_headX (y := yX3_refuseNoLift) (av := [.ref (h 0), .int v]) (w := (wX cI cZ h lev tm gn nL nC nE L B C E)) (cc := cX3_refuseNoLift) (maxL := 2) (ret := none) (by decide) rfl (Nat.le_of_ble_eq_true rfl) ?_
  intro p e s m below meth c ls A hat hX hT hP hD hS hl
  obtain ⟨hx, hb, hr, hml, hlocks, hts, hown, hin, hK, hE, hA⟩ := hat
  have hP : va_P D vwCl (wX cI cZ h lev tm gn nL nC nE L B C E) s.heap := hP
  have hD : va_D A (wX cI cZ h lev tm gn nL nC nE L B C E) := hD
  have hl : lv_has ls 2 [(0, .ref (h 0)), (1, .int v)] := hl
  refine lv_iload_n hx hb dX3_refuseNoLift_0 rfl (lv_at hl 1 rfl) ?_
  refine lv_if_lt (x := v) (tgt := 15) hx hb dX3_refuseNoLift_1 (by decide) (fun c1 => ?_) (fun c1 => ?_)
  · skip
    exact z_thrN (text := "no such lift") (is := 208) hx hb hl9 hown hts kX3_refuseNoLift_l85 kX3_refuseNoLift_iXN kX3_refuseNoLift_xN hX (by decide) hT hP hS (hl.1.trans hml.symm) dX3_refuseNoLift_15 dX3_refuseNoLift_18 dX3_refuseNoLift_19 dX3_refuseNoLift_21 dX3_refuseNoLift_24 (Nat.le_of_ble_eq_true rfl) (Nat.le_of_ble_eq_true rfl) ⟨Nat.le_of_ble_eq_true rfl, Nat.le_of_ble_eq_true rfl⟩ hlocks ⟨Nat.le_of_ble_eq_true rfl, Nat.le_of_ble_eq_true rfl⟩
  · skip
    refine lv_iload_n hx hb dX3_refuseNoLift_4 rfl (lv_at hl 1 rfl) ?_
    refine lv_aload_n hx hb dX3_refuseNoLift_5 rfl (lv_at hl 0 rfl) ?_
    refine va_get (D := D) (ci := 4) (v := .ref (h 1)) (C := RX3) (T := TX3) (N := 5) hx hb hts kX3_refuseNoLift_inX3 hown hK hP 0 rfl rfl 1 (by decide) (hts _ kX3_refuseNoLift_f25) (fun _ h9 => h9) rfl dX3_refuseNoLift_6 ?_
    refine va_getN (D := D) (ci := 3) (v := .int (nI nL)) (C := RX2) (T := TX2) (N := 9) hx hb hts kX3_refuseNoLift_inX2 hown hK hP 1 rfl rfl 7 (by decide) (va_Nw.use rfl (hE _ zl_RX3_50)) (fun _ h9 => h9) rfl dX3_refuseNoLift_9 ?_
    refine lv_icmp_lt (x := v) (y := nI nL) (tgt := 25) hx hb dX3_refuseNoLift_12 (by decide) (fun c12 => ?_) (fun c12 => ?_)
    · exact absurd hno (by rw [inB_lt (by omega) c1 c12]; decide)
    · skip
      exact z_thrN (text := "no such lift") (is := 208) hx hb hl9 hown hts kX3_refuseNoLift_l85 kX3_refuseNoLift_iXN kX3_refuseNoLift_xN hX (by decide) hT hP hS (hl.1.trans hml.symm) dX3_refuseNoLift_15 dX3_refuseNoLift_18 dX3_refuseNoLift_19 dX3_refuseNoLift_21 dX3_refuseNoLift_24 (Nat.le_of_ble_eq_true rfl) (Nat.le_of_ble_eq_true rfl) ⟨Nat.le_of_ble_eq_true rfl, Nat.le_of_ble_eq_true rfl⟩ hlocks ⟨Nat.le_of_ble_eq_true rfl, Nat.le_of_ble_eq_true rfl⟩

set_option maxRecDepth 100000 in
theorem kX3_refuseNoCall_xN : ∀ w ∈ (zAtN).filter goodWord, w ∈ wsX3_refuseNoCall := by decide +kernel
theorem kX3_refuseNoCall_l85 : Cond.classLink RX3 85 zNN ∈ wsX3_refuseNoCall := by decide +kernel
theorem kX3_refuseNoCall_iXN : Cond.initialized zNN ∈ wsX3_refuseNoCall := by decide +kernel
set_option maxHeartbeats 4000000 in
set_option maxRecDepth 100000 in
theorem tX3_refuseNoCall_x (l : Launch) (D : va_G) (cI cZ cJ : ClassId) (h : Nat → Nat) (lev tm : Nat) (gn : Int32) (nL nC nE : Nat) (L B C E : Nat → Nat → Int32) (v : Int32) (hno : inB v 0 (nI nC - 1) = false) (hL : nL ≤ 4) (hC : nC ≤ 24) (hl9 : l.stackTraces = false) (sa : Nat → Nat)  : ∀ sz : Nat, zMX l yX3_refuseNoCall wsX3_refuseNoCall ({ frames := 6, cells := 1, slots := 6, locals := 82 } : Room) D cI cZ cJ (wX cI cZ h lev tm gn nL nC nE L B C E) sz [.ref (h 0), .int v] sa zNN := by
  intro sz
  refine z_headX (y := yX3_refuseNoCall) (av := [.ref (h 0), .int v]) (w := (wX cI cZ h lev tm gn nL nC nE L B C E)) (cc := cX3_refuseNoCall) (maxL := 2) (ret := none) (by decide) rfl (Nat.le_of_ble_eq_true rfl) ?_
  intro p e s m below meth c ls A hat hX hT hP hD hS hl
  obtain ⟨hx, hb, hr, hml, hlocks, hts, hown, hin, hK, hE, hA⟩ := hat
  have hP : va_P D vwCl (wX cI cZ h lev tm gn nL nC nE L B C E) s.heap := hP
  have hD : va_D A (wX cI cZ h lev tm gn nL nC nE L B C E) := hD
  have hl : lv_has ls 2 [(0, .ref (h 0)), (1, .int v)] := hl
  refine lv_iload_n hx hb dX3_refuseNoCall_0 rfl (lv_at hl 1 rfl) ?_
  refine lv_if_lt (x := v) (tgt := 15) hx hb dX3_refuseNoCall_1 (by decide) (fun c1 => ?_) (fun c1 => ?_)
  · skip
    exact z_thrN (text := "no such call") (is := 210) hx hb hl9 hown hts kX3_refuseNoCall_l85 kX3_refuseNoCall_iXN kX3_refuseNoCall_xN hX (by decide) hT hP hS (hl.1.trans hml.symm) dX3_refuseNoCall_15 dX3_refuseNoCall_18 dX3_refuseNoCall_19 dX3_refuseNoCall_21 dX3_refuseNoCall_24 (Nat.le_of_ble_eq_true rfl) (Nat.le_of_ble_eq_true rfl) ⟨Nat.le_of_ble_eq_true rfl, Nat.le_of_ble_eq_true rfl⟩ hlocks ⟨Nat.le_of_ble_eq_true rfl, Nat.le_of_ble_eq_true rfl⟩
  · skip
    refine lv_iload_n hx hb dX3_refuseNoCall_4 rfl (lv_at hl 1 rfl) ?_
    refine lv_aload_n hx hb dX3_refuseNoCall_5 rfl (lv_at hl 0 rfl) ?_
    refine va_get (D := D) (ci := 4) (v := .ref (h 9)) (C := RX3) (T := TX3) (N := 5) hx hb hts kX3_refuseNoCall_inX3 hown hK hP 0 rfl rfl 2 (by decide) (hts _ kX3_refuseNoCall_f32) (fun _ h9 => h9) rfl dX3_refuseNoCall_6 ?_
    refine va_getN (D := D) (ci := 1) (v := .int (nI nC)) (C := RX0) (T := TX0) (N := 10) hx hb hts kX3_refuseNoCall_inX0 hown hK hP 9 rfl rfl 9 (by decide) (va_Nw.use rfl (hE _ zl_RX3_68)) (fun _ h9 => h9) rfl dX3_refuseNoCall_9 ?_
    refine lv_icmp_lt (x := v) (y := nI nC) (tgt := 25) hx hb dX3_refuseNoCall_12 (by decide) (fun c12 => ?_) (fun c12 => ?_)
    · exact absurd hno (by rw [inB_lt (by omega) c1 c12]; decide)
    · skip
      exact z_thrN (text := "no such call") (is := 210) hx hb hl9 hown hts kX3_refuseNoCall_l85 kX3_refuseNoCall_iXN kX3_refuseNoCall_xN hX (by decide) hT hP hS (hl.1.trans hml.symm) dX3_refuseNoCall_15 dX3_refuseNoCall_18 dX3_refuseNoCall_19 dX3_refuseNoCall_21 dX3_refuseNoCall_24 (Nat.le_of_ble_eq_true rfl) (Nat.le_of_ble_eq_true rfl) ⟨Nat.le_of_ble_eq_true rfl, Nat.le_of_ble_eq_true rfl⟩ hlocks ⟨Nat.le_of_ble_eq_true rfl, Nat.le_of_ble_eq_true rfl⟩


set_option maxHeartbeats 4000000 in
set_option maxRecDepth 100000 in
theorem tX3_lift_xa (l : Launch) (D : va_G) (cI cZ cJ : ClassId) (h : Nat → Nat) (lev tm : Nat) (gn : Int32) (nL nC nE : Nat) (L B C E : Nat → Nat → Int32) (v u : Int32) (hno : inB v 0 (nI lev - 1) = false) (hL : nL ≤ 4) (hC : nC ≤ 24) (hl9 : l.stackTraces = false) (sa : Nat → Nat)  : ∀ sz : Nat, zMX l yX3_lift wsX3_lift ({ frames := 7, cells := 1, slots := 6, locals := 104 } : Room) D cI cZ cJ (wX cI cZ h lev tm gn nL nC nE L B C E) sz [.ref (h 0), .int v, .int u] sa zIA := by
  intro sz
  refine z_headX (y := yX3_lift) (av := [.ref (h 0), .int v, .int u]) (w := (wX cI cZ h lev tm gn nL nC nE L B C E)) (cc := cX3_lift) (maxL := 3) (ret := (some .int)) (by decide) rfl (Nat.le_of_ble_eq_true rfl) ?_
  intro p e s m below meth c ls A hat hX hT hP hD hS hl
  obtain ⟨hx, hb, hr, hml, hlocks, hts, hown, hin, hK, hE, hA⟩ := hat
  have hP : va_P D vwCl (wX cI cZ h lev tm gn nL nC nE L B C E) s.heap := hP
  have hD : va_D A (wX cI cZ h lev tm gn nL nC nE L B C E) := hD
  have hl : lv_has ls 3 [(0, .ref (h 0)), (1, .int v), (2, .int u)] := hl
  refine lv_iload_n hx hb dX3_lift_0 rfl (lv_at hl 1 rfl) ?_
  refine lv_iconst (v := 0) hx hb dX3_lift_1 (by decide) ?_
  refine lv_aload_n hx hb dX3_lift_2 rfl (lv_at hl 0 rfl) ?_
  refine va_get (D := D) (ci := 4) (v := .int (nI lev)) (C := RX3) (T := TX3) (N := 5) hx hb hts kX3_lift_inX3 hown hK hP 0 rfl rfl 0 (by decide) (hts _ kX3_lift_f18) (fun _ h9 => h9) rfl dX3_lift_3 ?_
  refine lv_iconst (v := 1) hx hb dX3_lift_6 (by decide) ?_
  refine lv_isub (x := nI lev) (y := 1) hx hb dX3_lift_7 ?_
  refine z_backX (z_runSX (n := 3) (As := [.int v, .int 0, .int ((nI lev) - 1)]) (rest := []) hx hb hml hown hts hK hE hX hS hA (tX3_refuseOutside_x l D cI cZ cJ v 0 ((nI lev) - 1) (hno) hl9 sa _) gX3_lift_X3_refuseOutside rfl rfl rfl (by decide +kernel) ⟨Nat.le_of_ble_eq_true rfl, Nat.le_of_ble_eq_true rfl⟩ rfl hl.1 rfl (Nat.le_of_ble_eq_true rfl) dX3_lift_8 ⟨Nat.le_of_ble_eq_true rfl, Nat.le_of_ble_eq_true rfl⟩) hP hD hS hA [] rfl rfl (fun ce q9 H locs hP hS hce hcv hcl => ?_)
  exact z_outX hT hlocks hP hS hce hcv hcl ⟨Nat.le_of_ble_eq_true rfl, Nat.le_of_ble_eq_true rfl⟩


set_option maxHeartbeats 4000000 in
set_option maxRecDepth 100000 in
theorem tX3_lift_xb (l : Launch) (D : va_G) (cI cZ cJ : ClassId) (h : Nat → Nat) (lev tm : Nat) (gn : Int32) (nL nC nE : Nat) (L B C E : Nat → Nat → Int32) (v u : Int32) (h1 : inB v 0 (nI lev - 1) = true) (hno : inB u 1 50 = false) (hL : nL ≤ 4) (hC : nC ≤ 24) (hl9 : l.stackTraces = false) (sa : Nat → Nat)  : ∀ sz : Nat, zMX l yX3_lift wsX3_lift ({ frames := 7, cells := 1, slots := 6, locals := 104 } : Room) D cI cZ cJ (wX cI cZ h lev tm gn nL nC nE L B C E) sz [.ref (h 0), .int v, .int u] sa zIA := by
  intro sz
  refine z_headX (y := yX3_lift) (av := [.ref (h 0), .int v, .int u]) (w := (wX cI cZ h lev tm gn nL nC nE L B C E)) (cc := cX3_lift) (maxL := 3) (ret := (some .int)) (by decide) rfl (Nat.le_of_ble_eq_true rfl) ?_
  intro p e s m below meth c ls A hat hX hT hP hD hS hl
  obtain ⟨hx, hb, hr, hml, hlocks, hts, hown, hin, hK, hE, hA⟩ := hat
  have hP : va_P D vwCl (wX cI cZ h lev tm gn nL nC nE L B C E) s.heap := hP
  have hD : va_D A (wX cI cZ h lev tm gn nL nC nE L B C E) := hD
  have hl : lv_has ls 3 [(0, .ref (h 0)), (1, .int v), (2, .int u)] := hl
  refine lv_iload_n hx hb dX3_lift_0 rfl (lv_at hl 1 rfl) ?_
  refine lv_iconst (v := 0) hx hb dX3_lift_1 (by decide) ?_
  refine lv_aload_n hx hb dX3_lift_2 rfl (lv_at hl 0 rfl) ?_
  refine va_get (D := D) (ci := 4) (v := .int (nI lev)) (C := RX3) (T := TX3) (N := 5) hx hb hts kX3_lift_inX3 hown hK hP 0 rfl rfl 0 (by decide) (hts _ kX3_lift_f18) (fun _ h9 => h9) rfl dX3_lift_3 ?_
  refine lv_iconst (v := 1) hx hb dX3_lift_6 (by decide) ?_
  refine lv_isub (x := nI lev) (y := 1) hx hb dX3_lift_7 ?_
  refine z_backv (z_runS (n := 3) (As := [.int v, .int 0, .int ((nI lev) - 1)]) (rest := []) hx hb hml hown hts hK hE hP hD [] rfl (by decide) (tX3_refuseOutside_ok l D cI cZ cJ v 0 ((nI lev) - 1) (h1) _) gX3_lift_X3_refuseOutside rfl rfl rfl (by decide +kernel) ⟨Nat.le_of_ble_eq_true rfl, Nat.le_of_ble_eq_true rfl⟩ rfl hl.1 rfl (Nat.le_of_ble_eq_true rfl) dX3_lift_8 ⟨Nat.zero_le _, Nat.zero_le _⟩) hP hD hS hA [] rfl (fun w1 H locs hp1 hP hD hS => ?_)
  obtain rfl := hp1
  have hP : va_P D vwCl (wX cI cZ h lev tm gn nL nC nE L B C E) H := hP
  have hD : va_D A (wX cI cZ h lev tm gn nL nC nE L B C E) := hD
  refine lv_iload_n hx hb dX3_lift_11 rfl (lv_at hl 2 rfl) ?_
  refine lv_iconst (v := 1) hx hb dX3_lift_12 (by decide) ?_
  refine lv_bipush (v := 50) hx hb dX3_lift_13 (by decide) ?_
  refine z_backX (z_runSX (n := 3) (As := [.int u, .int 1, .int 50]) (rest := []) hx hb hml hown hts hK hE hX hS hA (tX3_refuseOutside_x l D cI cZ cJ u 1 50 (hno) hl9 sa _) gX3_lift_X3_refuseOutside rfl rfl rfl (by decide +kernel) ⟨Nat.le_of_ble_eq_true rfl, Nat.le_of_ble_eq_true rfl⟩ rfl hl.1 rfl (Nat.le_of_ble_eq_true rfl) dX3_lift_15 ⟨Nat.le_of_ble_eq_true rfl, Nat.le_of_ble_eq_true rfl⟩) hP hD hS hA [] rfl rfl (fun ce q9 H locs hP hS hce hcv hcl => ?_)
  exact z_outX hT hlocks hP hS hce hcv hcl ⟨Nat.le_of_ble_eq_true rfl, Nat.le_of_ble_eq_true rfl⟩

set_option maxRecDepth 100000 in
theorem kX3_lift_xU : ∀ w ∈ (zWU).filter goodWord, w ∈ wsX3_lift := by decide +kernel
theorem kX3_lift_l53 : Cond.classLink RX3 53 zUO ∈ wsX3_lift := by decide +kernel
theorem kX3_lift_iXU : Cond.initialized zUO ∈ wsX3_lift := by decide +kernel
set_option maxHeartbeats 4000000 in
set_option maxRecDepth 100000 in
theorem tX3_lift_xc (l : Launch) (D : va_G) (cI cZ cJ : ClassId) (h : Nat → Nat) (lev tm : Nat) (gn : Int32) (nL nC nE : Nat) (L B C E : Nat → Nat → Int32) (v u : Int32) (h1 : inB v 0 (nI lev - 1) = true) (h2 : inB u 1 50 = true) (h4 : nL = 4) (hL : nL ≤ 4) (hC : nC ≤ 24) (hl9 : l.stackTraces = false) (sa : Nat → Nat)  : ∀ sz : Nat, zMX l yX3_lift wsX3_lift ({ frames := 7, cells := 1, slots := 6, locals := 104 } : Room) D cI cZ cJ (wX cI cZ h lev tm gn nL nC nE L B C E) sz [.ref (h 0), .int v, .int u] sa zUO := by
  intro sz
  refine z_headX (y := yX3_lift) (av := [.ref (h 0), .int v, .int u]) (w := (wX cI cZ h lev tm gn nL nC nE L B C E)) (cc := cX3_lift) (maxL := 3) (ret := (some .int)) (by decide) rfl (Nat.le_of_ble_eq_true rfl) ?_
  intro p e s m below meth c ls A hat hX hT hP hD hS hl
  obtain ⟨hx, hb, hr, hml, hlocks, hts, hown, hin, hK, hE, hA⟩ := hat
  have hP : va_P D vwCl (wX cI cZ h lev tm gn nL nC nE L B C E) s.heap := hP
  have hD : va_D A (wX cI cZ h lev tm gn nL nC nE L B C E) := hD
  have hl : lv_has ls 3 [(0, .ref (h 0)), (1, .int v), (2, .int u)] := hl
  refine lv_iload_n hx hb dX3_lift_0 rfl (lv_at hl 1 rfl) ?_
  refine lv_iconst (v := 0) hx hb dX3_lift_1 (by decide) ?_
  refine lv_aload_n hx hb dX3_lift_2 rfl (lv_at hl 0 rfl) ?_
  refine va_get (D := D) (ci := 4) (v := .int (nI lev)) (C := RX3) (T := TX3) (N := 5) hx hb hts kX3_lift_inX3 hown hK hP 0 rfl rfl 0 (by decide) (hts _ kX3_lift_f18) (fun _ h9 => h9) rfl dX3_lift_3 ?_
  refine lv_iconst (v := 1) hx hb dX3_lift_6 (by decide) ?_
  refine lv_isub (x := nI lev) (y := 1) hx hb dX3_lift_7 ?_
  refine z_backv (z_runS (n := 3) (As := [.int v, .int 0, .int ((nI lev) - 1)]) (rest := []) hx hb hml hown hts hK hE hP hD [] rfl (by decide) (tX3_refuseOutside_ok l D cI cZ cJ v 0 ((nI lev) - 1) (h1) _) gX3_lift_X3_refuseOutside rfl rfl rfl (by decide +kernel) ⟨Nat.le_of_ble_eq_true rfl, Nat.le_of_ble_eq_true rfl⟩ rfl hl.1 rfl (Nat.le_of_ble_eq_true rfl) dX3_lift_8 ⟨Nat.zero_le _, Nat.zero_le _⟩) hP hD hS hA [] rfl (fun w1 H locs hp1 hP hD hS => ?_)
  obtain rfl := hp1
  have hP : va_P D vwCl (wX cI cZ h lev tm gn nL nC nE L B C E) H := hP
  have hD : va_D A (wX cI cZ h lev tm gn nL nC nE L B C E) := hD
  refine lv_iload_n hx hb dX3_lift_11 rfl (lv_at hl 2 rfl) ?_
  refine lv_iconst (v := 1) hx hb dX3_lift_12 (by decide) ?_
  refine lv_bipush (v := 50) hx hb dX3_lift_13 (by decide) ?_
  refine z_backv (z_runS (n := 3) (As := [.int u, .int 1, .int 50]) (rest := []) hx hb hml hown hts hK hE hP hD [] rfl (by decide) (tX3_refuseOutside_ok l D cI cZ cJ u 1 50 (h2) _) gX3_lift_X3_refuseOutside rfl rfl rfl (by decide +kernel) ⟨Nat.le_of_ble_eq_true rfl, Nat.le_of_ble_eq_true rfl⟩ rfl hl.1 rfl (Nat.le_of_ble_eq_true rfl) dX3_lift_15 ⟨Nat.zero_le _, Nat.zero_le _⟩) hP hD hS hA [] rfl (fun w1 H locs hp2 hP hD hS => ?_)
  obtain rfl := hp2
  have hP : va_P D vwCl (wX cI cZ h lev tm gn nL nC nE L B C E) H := hP
  have hD : va_D A (wX cI cZ h lev tm gn nL nC nE L B C E) := hD
  refine lv_aload_n hx hb dX3_lift_18 rfl (lv_at hl 0 rfl) ?_
  refine va_get (D := D) (ci := 4) (v := .ref (h 1)) (C := RX3) (T := TX3) (N := 5) hx hb hts kX3_lift_inX3 hown hK hP 0 rfl rfl 1 (by decide) (hts _ kX3_lift_f25) (fun _ h9 => h9) rfl dX3_lift_19 ?_
  refine va_getN (D := D) (ci := 3) (v := .int (nI nL)) (C := RX2) (T := TX2) (N := 9) hx hb hts kX3_lift_inX2 hown hK hP 1 rfl rfl 7 (by decide) (va_Nw.use rfl (hE _ zl_RX3_50)) (fun _ h9 => h9) rfl dX3_lift_22 ?_
  refine lv_iconst (v := 4) hx hb dX3_lift_25 (by decide) ?_
  refine zn_lt (i := nL) (j := 4) (tgt := 39) hx hb (by omega) (by omega) dX3_lift_26 (by decide) (fun c26 => ?_) (fun c26 => ?_)
  · exact absurd c26 (by omega)
  · skip
    exact z_thrS (cls := zUO) (names := zRE) (ik := 53) (ic := 57) (text := "no room for another lift") (is := 55) (by decide +kernel) (by decide +kernel) zU_good zU_bad hx hb hl9 hown hts kX3_lift_l53 kX3_lift_iXU kX3_lift_xU hX (by decide) hT hP hS (hl.1.trans hml.symm) dX3_lift_29 dX3_lift_32 dX3_lift_33 dX3_lift_35 dX3_lift_38 (Nat.le_of_ble_eq_true rfl) (Nat.le_of_ble_eq_true rfl) ⟨Nat.le_of_ble_eq_true rfl, Nat.le_of_ble_eq_true rfl⟩ hlocks ⟨Nat.le_of_ble_eq_true rfl, Nat.le_of_ble_eq_true rfl⟩


set_option maxHeartbeats 4000000 in
set_option maxRecDepth 100000 in
theorem tX3_call_xa (l : Launch) (D : va_G) (cI cZ cJ : ClassId) (h : Nat → Nat) (lev tm : Nat) (gn : Int32) (nL nC nE : Nat) (L B C E : Nat → Nat → Int32) (a b rk q : Int32) (hno : inB a 0 (nI lev - 1) = false) (hL : nL ≤ 4) (hC : nC ≤ 24) (hl9 : l.stackTraces = false) (sa : Nat → Nat)  : ∀ sz : Nat, zMX l yX3_call wsX3_call ({ frames := 7, cells := 1, slots := 6, locals := 104 } : Room) D cI cZ cJ (wX cI cZ h lev tm gn nL nC nE L B C E) sz [.ref (h 0), .int a, .int b, .int rk, .int q] sa zIA := by
  intro sz
  refine z_headX (y := yX3_call) (av := [.ref (h 0), .int a, .int b, .int rk, .int q]) (w := (wX cI cZ h lev tm gn nL nC nE L B C E)) (cc := cX3_call) (maxL := 6) (ret := (some .int)) (by decide) rfl (Nat.le_of_ble_eq_true rfl) ?_
  intro p e s m below meth c ls A hat hX hT hP hD hS hl
  obtain ⟨hx, hb, hr, hml, hlocks, hts, hown, hin, hK, hE, hA⟩ := hat
  have hP : va_P D vwCl (wX cI cZ h lev tm gn nL nC nE L B C E) s.heap := hP
  have hD : va_D A (wX cI cZ h lev tm gn nL nC nE L B C E) := hD
  have hl : lv_has ls 6 [(0, .ref (h 0)), (1, .int a), (2, .int b), (3, .int rk), (4, .int q)] := hl
  refine lv_iload_n hx hb dX3_call_0 rfl (lv_at hl 1 rfl) ?_
  refine lv_iconst (v := 0) hx hb dX3_call_1 (by decide) ?_
  refine lv_aload_n hx hb dX3_call_2 rfl (lv_at hl 0 rfl) ?_
  refine va_get (D := D) (ci := 4) (v := .int (nI lev)) (C := RX3) (T := TX3) (N := 5) hx hb hts kX3_call_inX3 hown hK hP 0 rfl rfl 0 (by decide) (hts _ kX3_call_f18) (fun _ h9 => h9) rfl dX3_call_3 ?_
  refine lv_iconst (v := 1) hx hb dX3_call_6 (by decide) ?_
  refine lv_isub (x := nI lev) (y := 1) hx hb dX3_call_7 ?_
  refine z_backX (z_runSX (n := 3) (As := [.int a, .int 0, .int ((nI lev) - 1)]) (rest := []) hx hb hml hown hts hK hE hX hS hA (tX3_refuseOutside_x l D cI cZ cJ a 0 ((nI lev) - 1) (hno) hl9 sa _) gX3_call_X3_refuseOutside rfl rfl rfl (by decide +kernel) ⟨Nat.le_of_ble_eq_true rfl, Nat.le_of_ble_eq_true rfl⟩ rfl hl.1 rfl (Nat.le_of_ble_eq_true rfl) dX3_call_8 ⟨Nat.le_of_ble_eq_true rfl, Nat.le_of_ble_eq_true rfl⟩) hP hD hS hA [] rfl rfl (fun ce q9 H locs hP hS hce hcv hcl => ?_)
  exact z_outX hT hlocks hP hS hce hcv hcl ⟨Nat.le_of_ble_eq_true rfl, Nat.le_of_ble_eq_true rfl⟩


set_option maxHeartbeats 4000000 in
set_option maxRecDepth 100000 in
theorem tX3_call_xb (l : Launch) (D : va_G) (cI cZ cJ : ClassId) (h : Nat → Nat) (lev tm : Nat) (gn : Int32) (nL nC nE : Nat) (L B C E : Nat → Nat → Int32) (a b rk q : Int32) (h1 : inB a 0 (nI lev - 1) = true) (hno : inB b 0 (nI lev - 1) = false) (hL : nL ≤ 4) (hC : nC ≤ 24) (hl9 : l.stackTraces = false) (sa : Nat → Nat)  : ∀ sz : Nat, zMX l yX3_call wsX3_call ({ frames := 7, cells := 1, slots := 6, locals := 104 } : Room) D cI cZ cJ (wX cI cZ h lev tm gn nL nC nE L B C E) sz [.ref (h 0), .int a, .int b, .int rk, .int q] sa zIA := by
  intro sz
  refine z_headX (y := yX3_call) (av := [.ref (h 0), .int a, .int b, .int rk, .int q]) (w := (wX cI cZ h lev tm gn nL nC nE L B C E)) (cc := cX3_call) (maxL := 6) (ret := (some .int)) (by decide) rfl (Nat.le_of_ble_eq_true rfl) ?_
  intro p e s m below meth c ls A hat hX hT hP hD hS hl
  obtain ⟨hx, hb, hr, hml, hlocks, hts, hown, hin, hK, hE, hA⟩ := hat
  have hP : va_P D vwCl (wX cI cZ h lev tm gn nL nC nE L B C E) s.heap := hP
  have hD : va_D A (wX cI cZ h lev tm gn nL nC nE L B C E) := hD
  have hl : lv_has ls 6 [(0, .ref (h 0)), (1, .int a), (2, .int b), (3, .int rk), (4, .int q)] := hl
  refine lv_iload_n hx hb dX3_call_0 rfl (lv_at hl 1 rfl) ?_
  refine lv_iconst (v := 0) hx hb dX3_call_1 (by decide) ?_
  refine lv_aload_n hx hb dX3_call_2 rfl (lv_at hl 0 rfl) ?_
  refine va_get (D := D) (ci := 4) (v := .int (nI lev)) (C := RX3) (T := TX3) (N := 5) hx hb hts kX3_call_inX3 hown hK hP 0 rfl rfl 0 (by decide) (hts _ kX3_call_f18) (fun _ h9 => h9) rfl dX3_call_3 ?_
  refine lv_iconst (v := 1) hx hb dX3_call_6 (by decide) ?_
  refine lv_isub (x := nI lev) (y := 1) hx hb dX3_call_7 ?_
  refine z_backv (z_runS (n := 3) (As := [.int a, .int 0, .int ((nI lev) - 1)]) (rest := []) hx hb hml hown hts hK hE hP hD [] rfl (by decide) (tX3_refuseOutside_ok l D cI cZ cJ a 0 ((nI lev) - 1) (h1) _) gX3_call_X3_refuseOutside rfl rfl rfl (by decide +kernel) ⟨Nat.le_of_ble_eq_true rfl, Nat.le_of_ble_eq_true rfl⟩ rfl hl.1 rfl (Nat.le_of_ble_eq_true rfl) dX3_call_8 ⟨Nat.zero_le _, Nat.zero_le _⟩) hP hD hS hA [] rfl (fun w1 H locs hp1 hP hD hS => ?_)
  obtain rfl := hp1
  have hP : va_P D vwCl (wX cI cZ h lev tm gn nL nC nE L B C E) H := hP
  have hD : va_D A (wX cI cZ h lev tm gn nL nC nE L B C E) := hD
  refine lv_iload_n hx hb dX3_call_11 rfl (lv_at hl 2 rfl) ?_
  refine lv_iconst (v := 0) hx hb dX3_call_12 (by decide) ?_
  refine lv_aload_n hx hb dX3_call_13 rfl (lv_at hl 0 rfl) ?_
  refine va_get (D := D) (ci := 4) (v := .int (nI lev)) (C := RX3) (T := TX3) (N := 5) hx hb hts kX3_call_inX3 hown hK hP 0 rfl rfl 0 (by decide) (hts _ kX3_call_f18) (fun _ h9 => h9) rfl dX3_call_14 ?_
  refine lv_iconst (v := 1) hx hb dX3_call_17 (by decide) ?_
  refine lv_isub (x := nI lev) (y := 1) hx hb dX3_call_18 ?_
  refine z_backX (z_runSX (n := 3) (As := [.int b, .int 0, .int ((nI lev) - 1)]) (rest := []) hx hb hml hown hts hK hE hX hS hA (tX3_refuseOutside_x l D cI cZ cJ b 0 ((nI lev) - 1) (hno) hl9 sa _) gX3_call_X3_refuseOutside rfl rfl rfl (by decide +kernel) ⟨Nat.le_of_ble_eq_true rfl, Nat.le_of_ble_eq_true rfl⟩ rfl hl.1 rfl (Nat.le_of_ble_eq_true rfl) dX3_call_19 ⟨Nat.le_of_ble_eq_true rfl, Nat.le_of_ble_eq_true rfl⟩) hP hD hS hA [] rfl rfl (fun ce q9 H locs hP hS hce hcv hcl => ?_)
  exact z_outX hT hlocks hP hS hce hcv hcl ⟨Nat.le_of_ble_eq_true rfl, Nat.le_of_ble_eq_true rfl⟩


set_option maxHeartbeats 4000000 in
set_option maxRecDepth 100000 in
theorem tX3_call_xc (l : Launch) (D : va_G) (cI cZ cJ : ClassId) (h : Nat → Nat) (lev tm : Nat) (gn : Int32) (nL nC nE : Nat) (L B C E : Nat → Nat → Int32) (a b rk q : Int32) (h1 : inB a 0 (nI lev - 1) = true) (h2 : inB b 0 (nI lev - 1) = true) (hno : inB rk 1 3 = false) (hL : nL ≤ 4) (hC : nC ≤ 24) (hl9 : l.stackTraces = false) (sa : Nat → Nat)  : ∀ sz : Nat, zMX l yX3_call wsX3_call ({ frames := 7, cells := 1, slots := 6, locals := 104 } : Room) D cI cZ cJ (wX cI cZ h lev tm gn nL nC nE L B C E) sz [.ref (h 0), .int a, .int b, .int rk, .int q] sa zIA := by
  intro sz
  refine z_headX (y := yX3_call) (av := [.ref (h 0), .int a, .int b, .int rk, .int q]) (w := (wX cI cZ h lev tm gn nL nC nE L B C E)) (cc := cX3_call) (maxL := 6) (ret := (some .int)) (by decide) rfl (Nat.le_of_ble_eq_true rfl) ?_
  intro p e s m below meth c ls A hat hX hT hP hD hS hl
  obtain ⟨hx, hb, hr, hml, hlocks, hts, hown, hin, hK, hE, hA⟩ := hat
  have hP : va_P D vwCl (wX cI cZ h lev tm gn nL nC nE L B C E) s.heap := hP
  have hD : va_D A (wX cI cZ h lev tm gn nL nC nE L B C E) := hD
  have hl : lv_has ls 6 [(0, .ref (h 0)), (1, .int a), (2, .int b), (3, .int rk), (4, .int q)] := hl
  refine lv_iload_n hx hb dX3_call_0 rfl (lv_at hl 1 rfl) ?_
  refine lv_iconst (v := 0) hx hb dX3_call_1 (by decide) ?_
  refine lv_aload_n hx hb dX3_call_2 rfl (lv_at hl 0 rfl) ?_
  refine va_get (D := D) (ci := 4) (v := .int (nI lev)) (C := RX3) (T := TX3) (N := 5) hx hb hts kX3_call_inX3 hown hK hP 0 rfl rfl 0 (by decide) (hts _ kX3_call_f18) (fun _ h9 => h9) rfl dX3_call_3 ?_
  refine lv_iconst (v := 1) hx hb dX3_call_6 (by decide) ?_
  refine lv_isub (x := nI lev) (y := 1) hx hb dX3_call_7 ?_
  refine z_backv (z_runS (n := 3) (As := [.int a, .int 0, .int ((nI lev) - 1)]) (rest := []) hx hb hml hown hts hK hE hP hD [] rfl (by decide) (tX3_refuseOutside_ok l D cI cZ cJ a 0 ((nI lev) - 1) (h1) _) gX3_call_X3_refuseOutside rfl rfl rfl (by decide +kernel) ⟨Nat.le_of_ble_eq_true rfl, Nat.le_of_ble_eq_true rfl⟩ rfl hl.1 rfl (Nat.le_of_ble_eq_true rfl) dX3_call_8 ⟨Nat.zero_le _, Nat.zero_le _⟩) hP hD hS hA [] rfl (fun w1 H locs hp1 hP hD hS => ?_)
  obtain rfl := hp1
  have hP : va_P D vwCl (wX cI cZ h lev tm gn nL nC nE L B C E) H := hP
  have hD : va_D A (wX cI cZ h lev tm gn nL nC nE L B C E) := hD
  refine lv_iload_n hx hb dX3_call_11 rfl (lv_at hl 2 rfl) ?_
  refine lv_iconst (v := 0) hx hb dX3_call_12 (by decide) ?_
  refine lv_aload_n hx hb dX3_call_13 rfl (lv_at hl 0 rfl) ?_
  refine va_get (D := D) (ci := 4) (v := .int (nI lev)) (C := RX3) (T := TX3) (N := 5) hx hb hts kX3_call_inX3 hown hK hP 0 rfl rfl 0 (by decide) (hts _ kX3_call_f18) (fun _ h9 => h9) rfl dX3_call_14 ?_
  refine lv_iconst (v := 1) hx hb dX3_call_17 (by decide) ?_
  refine lv_isub (x := nI lev) (y := 1) hx hb dX3_call_18 ?_
  refine z_backv (z_runS (n := 3) (As := [.int b, .int 0, .int ((nI lev) - 1)]) (rest := []) hx hb hml hown hts hK hE hP hD [] rfl (by decide) (tX3_refuseOutside_ok l D cI cZ cJ b 0 ((nI lev) - 1) (h2) _) gX3_call_X3_refuseOutside rfl rfl rfl (by decide +kernel) ⟨Nat.le_of_ble_eq_true rfl, Nat.le_of_ble_eq_true rfl⟩ rfl hl.1 rfl (Nat.le_of_ble_eq_true rfl) dX3_call_19 ⟨Nat.zero_le _, Nat.zero_le _⟩) hP hD hS hA [] rfl (fun w1 H locs hp2 hP hD hS => ?_)
  obtain rfl := hp2
  have hP : va_P D vwCl (wX cI cZ h lev tm gn nL nC nE L B C E) H := hP
  have hD : va_D A (wX cI cZ h lev tm gn nL nC nE L B C E) := hD
  refine lv_iload_n hx hb dX3_call_22 rfl (lv_at hl 3 rfl) ?_
  refine lv_iconst (v := 1) hx hb dX3_call_23 (by decide) ?_
  refine lv_iconst (v := 3) hx hb dX3_call_24 (by decide) ?_
  refine z_backX (z_runSX (n := 3) (As := [.int rk, .int 1, .int 3]) (rest := []) hx hb hml hown hts hK hE hX hS hA (tX3_refuseOutside_x l D cI cZ cJ rk 1 3 (hno) hl9 sa _) gX3_call_X3_refuseOutside rfl rfl rfl (by decide +kernel) ⟨Nat.le_of_ble_eq_true rfl, Nat.le_of_ble_eq_true rfl⟩ rfl hl.1 rfl (Nat.le_of_ble_eq_true rfl) dX3_call_25 ⟨Nat.le_of_ble_eq_true rfl, Nat.le_of_ble_eq_true rfl⟩) hP hD hS hA [] rfl rfl (fun ce q9 H locs hP hS hce hcv hcl => ?_)
  exact z_outX hT hlocks hP hS hce hcv hcl ⟨Nat.le_of_ble_eq_true rfl, Nat.le_of_ble_eq_true rfl⟩


set_option maxHeartbeats 4000000 in
set_option maxRecDepth 100000 in
theorem tX3_call_xd (l : Launch) (D : va_G) (cI cZ cJ : ClassId) (h : Nat → Nat) (lev tm : Nat) (gn : Int32) (nL nC nE : Nat) (L B C E : Nat → Nat → Int32) (a b rk q : Int32) (h1 : inB a 0 (nI lev - 1) = true) (h2 : inB b 0 (nI lev - 1) = true) (h4 : inB rk 1 3 = true) (hno : inB q 1 50 = false) (hL : nL ≤ 4) (hC : nC ≤ 24) (hl9 : l.stackTraces = false) (sa : Nat → Nat)  : ∀ sz : Nat, zMX l yX3_call wsX3_call ({ frames := 7, cells := 1, slots := 6, locals := 104 } : Room) D cI cZ cJ (wX cI cZ h lev tm gn nL nC nE L B C E) sz [.ref (h 0), .int a, .int b, .int rk, .int q] sa zIA := by
  intro sz
  refine z_headX (y := yX3_call) (av := [.ref (h 0), .int a, .int b, .int rk, .int q]) (w := (wX cI cZ h lev tm gn nL nC nE L B C E)) (cc := cX3_call) (maxL := 6) (ret := (some .int)) (by decide) rfl (Nat.le_of_ble_eq_true rfl) ?_
  intro p e s m below meth c ls A hat hX hT hP hD hS hl
  obtain ⟨hx, hb, hr, hml, hlocks, hts, hown, hin, hK, hE, hA⟩ := hat
  have hP : va_P D vwCl (wX cI cZ h lev tm gn nL nC nE L B C E) s.heap := hP
  have hD : va_D A (wX cI cZ h lev tm gn nL nC nE L B C E) := hD
  have hl : lv_has ls 6 [(0, .ref (h 0)), (1, .int a), (2, .int b), (3, .int rk), (4, .int q)] := hl
  refine lv_iload_n hx hb dX3_call_0 rfl (lv_at hl 1 rfl) ?_
  refine lv_iconst (v := 0) hx hb dX3_call_1 (by decide) ?_
  refine lv_aload_n hx hb dX3_call_2 rfl (lv_at hl 0 rfl) ?_
  refine va_get (D := D) (ci := 4) (v := .int (nI lev)) (C := RX3) (T := TX3) (N := 5) hx hb hts kX3_call_inX3 hown hK hP 0 rfl rfl 0 (by decide) (hts _ kX3_call_f18) (fun _ h9 => h9) rfl dX3_call_3 ?_
  refine lv_iconst (v := 1) hx hb dX3_call_6 (by decide) ?_
  refine lv_isub (x := nI lev) (y := 1) hx hb dX3_call_7 ?_
  refine z_backv (z_runS (n := 3) (As := [.int a, .int 0, .int ((nI lev) - 1)]) (rest := []) hx hb hml hown hts hK hE hP hD [] rfl (by decide) (tX3_refuseOutside_ok l D cI cZ cJ a 0 ((nI lev) - 1) (h1) _) gX3_call_X3_refuseOutside rfl rfl rfl (by decide +kernel) ⟨Nat.le_of_ble_eq_true rfl, Nat.le_of_ble_eq_true rfl⟩ rfl hl.1 rfl (Nat.le_of_ble_eq_true rfl) dX3_call_8 ⟨Nat.zero_le _, Nat.zero_le _⟩) hP hD hS hA [] rfl (fun w1 H locs hp1 hP hD hS => ?_)
  obtain rfl := hp1
  have hP : va_P D vwCl (wX cI cZ h lev tm gn nL nC nE L B C E) H := hP
  have hD : va_D A (wX cI cZ h lev tm gn nL nC nE L B C E) := hD
  refine lv_iload_n hx hb dX3_call_11 rfl (lv_at hl 2 rfl) ?_
  refine lv_iconst (v := 0) hx hb dX3_call_12 (by decide) ?_
  refine lv_aload_n hx hb dX3_call_13 rfl (lv_at hl 0 rfl) ?_
  refine va_get (D := D) (ci := 4) (v := .int (nI lev)) (C := RX3) (T := TX3) (N := 5) hx hb hts kX3_call_inX3 hown hK hP 0 rfl rfl 0 (by decide) (hts _ kX3_call_f18) (fun _ h9 => h9) rfl dX3_call_14 ?_
  refine lv_iconst (v := 1) hx hb dX3_call_17 (by decide) ?_
  refine lv_isub (x := nI lev) (y := 1) hx hb dX3_call_18 ?_
  refine z_backv (z_runS (n := 3) (As := [.int b, .int 0, .int ((nI lev) - 1)]) (rest := []) hx hb hml hown hts hK hE hP hD [] rfl (by decide) (tX3_refuseOutside_ok l D cI cZ cJ b 0 ((nI lev) - 1) (h2) _) gX3_call_X3_refuseOutside rfl rfl rfl (by decide +kernel) ⟨Nat.le_of_ble_eq_true rfl, Nat.le_of_ble_eq_true rfl⟩ rfl hl.1 rfl (Nat.le_of_ble_eq_true rfl) dX3_call_19 ⟨Nat.zero_le _, Nat.zero_le _⟩) hP hD hS hA [] rfl (fun w1 H locs hp2 hP hD hS => ?_)
  obtain rfl := hp2
  have hP : va_P D vwCl (wX cI cZ h lev tm gn nL nC nE L B C E) H := hP
  have hD : va_D A (wX cI cZ h lev tm gn nL nC nE L B C E) := hD
  refine lv_iload_n hx hb dX3_call_22 rfl (lv_at hl 3 rfl) ?_
  refine lv_iconst (v := 1) hx hb dX3_call_23 (by decide) ?_
  refine lv_iconst (v := 3) hx hb dX3_call_24 (by decide) ?_
  refine z_backv (z_runS (n := 3) (As := [.int rk, .int 1, .int 3]) (rest := []) hx hb hml hown hts hK hE hP hD [] rfl (by decide) (tX3_refuseOutside_ok l D cI cZ cJ rk 1 3 (h4) _) gX3_call_X3_refuseOutside rfl rfl rfl (by decide +kernel) ⟨Nat.le_of_ble_eq_true rfl, Nat.le_of_ble_eq_true rfl⟩ rfl hl.1 rfl (Nat.le_of_ble_eq_true rfl) dX3_call_25 ⟨Nat.zero_le _, Nat.zero_le _⟩) hP hD hS hA [] rfl (fun w1 H locs hp3 hP hD hS => ?_)
  obtain rfl := hp3
  have hP : va_P D vwCl (wX cI cZ h lev tm gn nL nC nE L B C E) H := hP
  have hD : va_D A (wX cI cZ h lev tm gn nL nC nE L B C E) := hD
  refine lv_iload hx hb dX3_call_28 (lv_at hl 4 rfl) ?_
  refine lv_iconst (v := 1) hx hb dX3_call_30 (by decide) ?_
  refine lv_bipush (v := 50) hx hb dX3_call_31 (by decide) ?_
  refine z_backX (z_runSX (n := 3) (As := [.int q, .int 1, .int 50]) (rest := []) hx hb hml hown hts hK hE hX hS hA (tX3_refuseOutside_x l D cI cZ cJ q 1 50 (hno) hl9 sa _) gX3_call_X3_refuseOutside rfl rfl rfl (by decide +kernel) ⟨Nat.le_of_ble_eq_true rfl, Nat.le_of_ble_eq_true rfl⟩ rfl hl.1 rfl (Nat.le_of_ble_eq_true rfl) dX3_call_33 ⟨Nat.le_of_ble_eq_true rfl, Nat.le_of_ble_eq_true rfl⟩) hP hD hS hA [] rfl rfl (fun ce q9 H locs hP hS hce hcv hcl => ?_)
  exact z_outX hT hlocks hP hS hce hcv hcl ⟨Nat.le_of_ble_eq_true rfl, Nat.le_of_ble_eq_true rfl⟩

set_option maxRecDepth 100000 in
theorem kX3_call_xI : ∀ w ∈ (zWI).filter goodWord, w ∈ wsX3_call := by decide +kernel
theorem kX3_call_l63 : Cond.classLink RX3 63 zIA ∈ wsX3_call := by decide +kernel
theorem kX3_call_iXI : Cond.initialized zIA ∈ wsX3_call := by decide +kernel
set_option maxHeartbeats 4000000 in
set_option maxRecDepth 100000 in
theorem tX3_call_xe (l : Launch) (D : va_G) (cI cZ cJ : ClassId) (h : Nat → Nat) (lev tm : Nat) (gn : Int32) (nL nC nE : Nat) (L B C E : Nat → Nat → Int32) (a b rk q : Int32) (h1 : inB a 0 (nI lev - 1) = true) (h2 : inB b 0 (nI lev - 1) = true) (h4 : inB rk 1 3 = true) (h5 : inB q 1 50 = true) (hno : a = b) (hL : nL ≤ 4) (hC : nC ≤ 24) (hl9 : l.stackTraces = false) (sa : Nat → Nat)  : ∀ sz : Nat, zMX l yX3_call wsX3_call ({ frames := 7, cells := 1, slots := 6, locals := 104 } : Room) D cI cZ cJ (wX cI cZ h lev tm gn nL nC nE L B C E) sz [.ref (h 0), .int a, .int b, .int rk, .int q] sa zIA := by
  intro sz
  refine z_headX (y := yX3_call) (av := [.ref (h 0), .int a, .int b, .int rk, .int q]) (w := (wX cI cZ h lev tm gn nL nC nE L B C E)) (cc := cX3_call) (maxL := 6) (ret := (some .int)) (by decide) rfl (Nat.le_of_ble_eq_true rfl) ?_
  intro p e s m below meth c ls A hat hX hT hP hD hS hl
  obtain ⟨hx, hb, hr, hml, hlocks, hts, hown, hin, hK, hE, hA⟩ := hat
  have hP : va_P D vwCl (wX cI cZ h lev tm gn nL nC nE L B C E) s.heap := hP
  have hD : va_D A (wX cI cZ h lev tm gn nL nC nE L B C E) := hD
  have hl : lv_has ls 6 [(0, .ref (h 0)), (1, .int a), (2, .int b), (3, .int rk), (4, .int q)] := hl
  refine lv_iload_n hx hb dX3_call_0 rfl (lv_at hl 1 rfl) ?_
  refine lv_iconst (v := 0) hx hb dX3_call_1 (by decide) ?_
  refine lv_aload_n hx hb dX3_call_2 rfl (lv_at hl 0 rfl) ?_
  refine va_get (D := D) (ci := 4) (v := .int (nI lev)) (C := RX3) (T := TX3) (N := 5) hx hb hts kX3_call_inX3 hown hK hP 0 rfl rfl 0 (by decide) (hts _ kX3_call_f18) (fun _ h9 => h9) rfl dX3_call_3 ?_
  refine lv_iconst (v := 1) hx hb dX3_call_6 (by decide) ?_
  refine lv_isub (x := nI lev) (y := 1) hx hb dX3_call_7 ?_
  refine z_backv (z_runS (n := 3) (As := [.int a, .int 0, .int ((nI lev) - 1)]) (rest := []) hx hb hml hown hts hK hE hP hD [] rfl (by decide) (tX3_refuseOutside_ok l D cI cZ cJ a 0 ((nI lev) - 1) (h1) _) gX3_call_X3_refuseOutside rfl rfl rfl (by decide +kernel) ⟨Nat.le_of_ble_eq_true rfl, Nat.le_of_ble_eq_true rfl⟩ rfl hl.1 rfl (Nat.le_of_ble_eq_true rfl) dX3_call_8 ⟨Nat.zero_le _, Nat.zero_le _⟩) hP hD hS hA [] rfl (fun w1 H locs hp1 hP hD hS => ?_)
  obtain rfl := hp1
  have hP : va_P D vwCl (wX cI cZ h lev tm gn nL nC nE L B C E) H := hP
  have hD : va_D A (wX cI cZ h lev tm gn nL nC nE L B C E) := hD
  refine lv_iload_n hx hb dX3_call_11 rfl (lv_at hl 2 rfl) ?_
  refine lv_iconst (v := 0) hx hb dX3_call_12 (by decide) ?_
  refine lv_aload_n hx hb dX3_call_13 rfl (lv_at hl 0 rfl) ?_
  refine va_get (D := D) (ci := 4) (v := .int (nI lev)) (C := RX3) (T := TX3) (N := 5) hx hb hts kX3_call_inX3 hown hK hP 0 rfl rfl 0 (by decide) (hts _ kX3_call_f18) (fun _ h9 => h9) rfl dX3_call_14 ?_
  refine lv_iconst (v := 1) hx hb dX3_call_17 (by decide) ?_
  refine lv_isub (x := nI lev) (y := 1) hx hb dX3_call_18 ?_
  refine z_backv (z_runS (n := 3) (As := [.int b, .int 0, .int ((nI lev) - 1)]) (rest := []) hx hb hml hown hts hK hE hP hD [] rfl (by decide) (tX3_refuseOutside_ok l D cI cZ cJ b 0 ((nI lev) - 1) (h2) _) gX3_call_X3_refuseOutside rfl rfl rfl (by decide +kernel) ⟨Nat.le_of_ble_eq_true rfl, Nat.le_of_ble_eq_true rfl⟩ rfl hl.1 rfl (Nat.le_of_ble_eq_true rfl) dX3_call_19 ⟨Nat.zero_le _, Nat.zero_le _⟩) hP hD hS hA [] rfl (fun w1 H locs hp2 hP hD hS => ?_)
  obtain rfl := hp2
  have hP : va_P D vwCl (wX cI cZ h lev tm gn nL nC nE L B C E) H := hP
  have hD : va_D A (wX cI cZ h lev tm gn nL nC nE L B C E) := hD
  refine lv_iload_n hx hb dX3_call_22 rfl (lv_at hl 3 rfl) ?_
  refine lv_iconst (v := 1) hx hb dX3_call_23 (by decide) ?_
  refine lv_iconst (v := 3) hx hb dX3_call_24 (by decide) ?_
  refine z_backv (z_runS (n := 3) (As := [.int rk, .int 1, .int 3]) (rest := []) hx hb hml hown hts hK hE hP hD [] rfl (by decide) (tX3_refuseOutside_ok l D cI cZ cJ rk 1 3 (h4) _) gX3_call_X3_refuseOutside rfl rfl rfl (by decide +kernel) ⟨Nat.le_of_ble_eq_true rfl, Nat.le_of_ble_eq_true rfl⟩ rfl hl.1 rfl (Nat.le_of_ble_eq_true rfl) dX3_call_25 ⟨Nat.zero_le _, Nat.zero_le _⟩) hP hD hS hA [] rfl (fun w1 H locs hp3 hP hD hS => ?_)
  obtain rfl := hp3
  have hP : va_P D vwCl (wX cI cZ h lev tm gn nL nC nE L B C E) H := hP
  have hD : va_D A (wX cI cZ h lev tm gn nL nC nE L B C E) := hD
  refine lv_iload hx hb dX3_call_28 (lv_at hl 4 rfl) ?_
  refine lv_iconst (v := 1) hx hb dX3_call_30 (by decide) ?_
  refine lv_bipush (v := 50) hx hb dX3_call_31 (by decide) ?_
  refine z_backv (z_runS (n := 3) (As := [.int q, .int 1, .int 50]) (rest := []) hx hb hml hown hts hK hE hP hD [] rfl (by decide) (tX3_refuseOutside_ok l D cI cZ cJ q 1 50 (h5) _) gX3_call_X3_refuseOutside rfl rfl rfl (by decide +kernel) ⟨Nat.le_of_ble_eq_true rfl, Nat.le_of_ble_eq_true rfl⟩ rfl hl.1 rfl (Nat.le_of_ble_eq_true rfl) dX3_call_33 ⟨Nat.zero_le _, Nat.zero_le _⟩) hP hD hS hA [] rfl (fun w1 H locs hp4 hP hD hS => ?_)
  obtain rfl := hp4
  have hP : va_P D vwCl (wX cI cZ h lev tm gn nL nC nE L B C E) H := hP
  have hD : va_D A (wX cI cZ h lev tm gn nL nC nE L B C E) := hD
  refine lv_iload_n hx hb dX3_call_36 rfl (lv_at hl 1 rfl) ?_
  refine lv_iload_n hx hb dX3_call_37 rfl (lv_at hl 2 rfl) ?_
  refine lv_icmp_ne (x := a) (y := b) (tgt := 51) hx hb dX3_call_38 (by decide) (fun c38 => ?_) (fun c38 => ?_)
  · exact absurd hno c38
  · skip
    exact z_thrS (cls := zIA) (names := zRE) (ik := 63) (ic := 67) (text := "from a level to itself") (is := 65) (by decide +kernel) (by decide +kernel) zI_good zI_bad hx hb hl9 hown hts kX3_call_l63 kX3_call_iXI kX3_call_xI hX (by decide) hT hP hS (hl.1.trans hml.symm) dX3_call_41 dX3_call_44 dX3_call_45 dX3_call_47 dX3_call_50 (Nat.le_of_ble_eq_true rfl) (Nat.le_of_ble_eq_true rfl) ⟨Nat.le_of_ble_eq_true rfl, Nat.le_of_ble_eq_true rfl⟩ hlocks ⟨Nat.le_of_ble_eq_true rfl, Nat.le_of_ble_eq_true rfl⟩

set_option maxRecDepth 100000 in
theorem kX3_call_xU : ∀ w ∈ (zWU).filter goodWord, w ∈ wsX3_call := by decide +kernel
theorem kX3_call_l53 : Cond.classLink RX3 53 zUO ∈ wsX3_call := by decide +kernel
theorem kX3_call_iXU : Cond.initialized zUO ∈ wsX3_call := by decide +kernel
set_option maxHeartbeats 4000000 in
set_option maxRecDepth 100000 in
theorem tX3_call_xf (l : Launch) (D : va_G) (cI cZ cJ : ClassId) (h : Nat → Nat) (lev tm : Nat) (gn : Int32) (nL nC nE : Nat) (L B C E : Nat → Nat → Int32) (a b rk q : Int32) (h1 : inB a 0 (nI lev - 1) = true) (h2 : inB b 0 (nI lev - 1) = true) (h4 : inB rk 1 3 = true) (h5 : inB q 1 50 = true) (h3 : ¬ a = b) (h6 : nC = 24) (hL : nL ≤ 4) (hC : nC ≤ 24) (hl9 : l.stackTraces = false) (sa : Nat → Nat)  : ∀ sz : Nat, zMX l yX3_call wsX3_call ({ frames := 7, cells := 1, slots := 6, locals := 104 } : Room) D cI cZ cJ (wX cI cZ h lev tm gn nL nC nE L B C E) sz [.ref (h 0), .int a, .int b, .int rk, .int q] sa zUO := by
  intro sz
  refine z_headX (y := yX3_call) (av := [.ref (h 0), .int a, .int b, .int rk, .int q]) (w := (wX cI cZ h lev tm gn nL nC nE L B C E)) (cc := cX3_call) (maxL := 6) (ret := (some .int)) (by decide) rfl (Nat.le_of_ble_eq_true rfl) ?_
  intro p e s m below meth c ls A hat hX hT hP hD hS hl
  obtain ⟨hx, hb, hr, hml, hlocks, hts, hown, hin, hK, hE, hA⟩ := hat
  have hP : va_P D vwCl (wX cI cZ h lev tm gn nL nC nE L B C E) s.heap := hP
  have hD : va_D A (wX cI cZ h lev tm gn nL nC nE L B C E) := hD
  have hl : lv_has ls 6 [(0, .ref (h 0)), (1, .int a), (2, .int b), (3, .int rk), (4, .int q)] := hl
  refine lv_iload_n hx hb dX3_call_0 rfl (lv_at hl 1 rfl) ?_
  refine lv_iconst (v := 0) hx hb dX3_call_1 (by decide) ?_
  refine lv_aload_n hx hb dX3_call_2 rfl (lv_at hl 0 rfl) ?_
  refine va_get (D := D) (ci := 4) (v := .int (nI lev)) (C := RX3) (T := TX3) (N := 5) hx hb hts kX3_call_inX3 hown hK hP 0 rfl rfl 0 (by decide) (hts _ kX3_call_f18) (fun _ h9 => h9) rfl dX3_call_3 ?_
  refine lv_iconst (v := 1) hx hb dX3_call_6 (by decide) ?_
  refine lv_isub (x := nI lev) (y := 1) hx hb dX3_call_7 ?_
  refine z_backv (z_runS (n := 3) (As := [.int a, .int 0, .int ((nI lev) - 1)]) (rest := []) hx hb hml hown hts hK hE hP hD [] rfl (by decide) (tX3_refuseOutside_ok l D cI cZ cJ a 0 ((nI lev) - 1) (h1) _) gX3_call_X3_refuseOutside rfl rfl rfl (by decide +kernel) ⟨Nat.le_of_ble_eq_true rfl, Nat.le_of_ble_eq_true rfl⟩ rfl hl.1 rfl (Nat.le_of_ble_eq_true rfl) dX3_call_8 ⟨Nat.zero_le _, Nat.zero_le _⟩) hP hD hS hA [] rfl (fun w1 H locs hp1 hP hD hS => ?_)
  obtain rfl := hp1
  have hP : va_P D vwCl (wX cI cZ h lev tm gn nL nC nE L B C E) H := hP
  have hD : va_D A (wX cI cZ h lev tm gn nL nC nE L B C E) := hD
  refine lv_iload_n hx hb dX3_call_11 rfl (lv_at hl 2 rfl) ?_
  refine lv_iconst (v := 0) hx hb dX3_call_12 (by decide) ?_
  refine lv_aload_n hx hb dX3_call_13 rfl (lv_at hl 0 rfl) ?_
  refine va_get (D := D) (ci := 4) (v := .int (nI lev)) (C := RX3) (T := TX3) (N := 5) hx hb hts kX3_call_inX3 hown hK hP 0 rfl rfl 0 (by decide) (hts _ kX3_call_f18) (fun _ h9 => h9) rfl dX3_call_14 ?_
  refine lv_iconst (v := 1) hx hb dX3_call_17 (by decide) ?_
  refine lv_isub (x := nI lev) (y := 1) hx hb dX3_call_18 ?_
  refine z_backv (z_runS (n := 3) (As := [.int b, .int 0, .int ((nI lev) - 1)]) (rest := []) hx hb hml hown hts hK hE hP hD [] rfl (by decide) (tX3_refuseOutside_ok l D cI cZ cJ b 0 ((nI lev) - 1) (h2) _) gX3_call_X3_refuseOutside rfl rfl rfl (by decide +kernel) ⟨Nat.le_of_ble_eq_true rfl, Nat.le_of_ble_eq_true rfl⟩ rfl hl.1 rfl (Nat.le_of_ble_eq_true rfl) dX3_call_19 ⟨Nat.zero_le _, Nat.zero_le _⟩) hP hD hS hA [] rfl (fun w1 H locs hp2 hP hD hS => ?_)
  obtain rfl := hp2
  have hP : va_P D vwCl (wX cI cZ h lev tm gn nL nC nE L B C E) H := hP
  have hD : va_D A (wX cI cZ h lev tm gn nL nC nE L B C E) := hD
  refine lv_iload_n hx hb dX3_call_22 rfl (lv_at hl 3 rfl) ?_
  refine lv_iconst (v := 1) hx hb dX3_call_23 (by decide) ?_
  refine lv_iconst (v := 3) hx hb dX3_call_24 (by decide) ?_
  refine z_backv (z_runS (n := 3) (As := [.int rk, .int 1, .int 3]) (rest := []) hx hb hml hown hts hK hE hP hD [] rfl (by decide) (tX3_refuseOutside_ok l D cI cZ cJ rk 1 3 (h4) _) gX3_call_X3_refuseOutside rfl rfl rfl (by decide +kernel) ⟨Nat.le_of_ble_eq_true rfl, Nat.le_of_ble_eq_true rfl⟩ rfl hl.1 rfl (Nat.le_of_ble_eq_true rfl) dX3_call_25 ⟨Nat.zero_le _, Nat.zero_le _⟩) hP hD hS hA [] rfl (fun w1 H locs hp3 hP hD hS => ?_)
  obtain rfl := hp3
  have hP : va_P D vwCl (wX cI cZ h lev tm gn nL nC nE L B C E) H := hP
  have hD : va_D A (wX cI cZ h lev tm gn nL nC nE L B C E) := hD
  refine lv_iload hx hb dX3_call_28 (lv_at hl 4 rfl) ?_
  refine lv_iconst (v := 1) hx hb dX3_call_30 (by decide) ?_
  refine lv_bipush (v := 50) hx hb dX3_call_31 (by decide) ?_
  refine z_backv (z_runS (n := 3) (As := [.int q, .int 1, .int 50]) (rest := []) hx hb hml hown hts hK hE hP hD [] rfl (by decide) (tX3_refuseOutside_ok l D cI cZ cJ q 1 50 (h5) _) gX3_call_X3_refuseOutside rfl rfl rfl (by decide +kernel) ⟨Nat.le_of_ble_eq_true rfl, Nat.le_of_ble_eq_true rfl⟩ rfl hl.1 rfl (Nat.le_of_ble_eq_true rfl) dX3_call_33 ⟨Nat.zero_le _, Nat.zero_le _⟩) hP hD hS hA [] rfl (fun w1 H locs hp4 hP hD hS => ?_)
  obtain rfl := hp4
  have hP : va_P D vwCl (wX cI cZ h lev tm gn nL nC nE L B C E) H := hP
  have hD : va_D A (wX cI cZ h lev tm gn nL nC nE L B C E) := hD
  refine lv_iload_n hx hb dX3_call_36 rfl (lv_at hl 1 rfl) ?_
  refine lv_iload_n hx hb dX3_call_37 rfl (lv_at hl 2 rfl) ?_
  refine lv_icmp_ne (x := a) (y := b) (tgt := 51) hx hb dX3_call_38 (by decide) (fun c38 => ?_) (fun c38 => ?_)
  · skip
    refine lv_aload_n hx hb dX3_call_51 rfl (lv_at hl 0 rfl) ?_
    refine va_get (D := D) (ci := 4) (v := .ref (h 9)) (C := RX3) (T := TX3) (N := 5) hx hb hts kX3_call_inX3 hown hK hP 0 rfl rfl 2 (by decide) (hts _ kX3_call_f32) (fun _ h9 => h9) rfl dX3_call_52 ?_
    refine va_getN (D := D) (ci := 1) (v := .int (nI nC)) (C := RX0) (T := TX0) (N := 10) hx hb hts kX3_call_inX0 hown hK hP 9 rfl rfl 9 (by decide) (va_Nw.use rfl (hE _ zl_RX3_68)) (fun _ h9 => h9) rfl dX3_call_55 ?_
    refine lv_bipush (v := 24) hx hb dX3_call_58 (by decide) ?_
    refine zn_lt (i := nC) (j := 24) (tgt := 73) hx hb (by omega) (by omega) dX3_call_60 (by decide) (fun c60 => ?_) (fun c60 => ?_)
    · exact absurd c60 (by omega)
    · skip
      exact z_thrS (cls := zUO) (names := zRE) (ik := 53) (ic := 57) (text := "no room for another call") (is := 69) (by decide +kernel) (by decide +kernel) zU_good zU_bad hx hb hl9 hown hts kX3_call_l53 kX3_call_iXU kX3_call_xU hX (by decide) hT hP hS (hl.1.trans hml.symm) dX3_call_63 dX3_call_66 dX3_call_67 dX3_call_69 dX3_call_72 (Nat.le_of_ble_eq_true rfl) (Nat.le_of_ble_eq_true rfl) ⟨Nat.le_of_ble_eq_true rfl, Nat.le_of_ble_eq_true rfl⟩ hlocks ⟨Nat.le_of_ble_eq_true rfl, Nat.le_of_ble_eq_true rfl⟩
  · exact absurd c38 h3


set_option maxHeartbeats 4000000 in
set_option maxRecDepth 100000 in
theorem tX3_step_xa (l : Launch) (D : va_G) (cI cZ cJ : ClassId) (h : Nat → Nat) (lev tm : Nat) (gn : Int32) (nL nC nE : Nat) (L B C E : Nat → Nat → Int32) (v : Int32) (hno : inB v 0 200 = false) (hL : nL ≤ 4) (hC : nC ≤ 24) (hl9 : l.stackTraces = false) (sa : Nat → Nat)  : ∀ sz : Nat, zMX l yX3_step wsX3_step ({ frames := 7, cells := 1, slots := 6, locals := 104 } : Room) D cI cZ cJ (wX cI cZ h lev tm gn nL nC nE L B C E) sz [.ref (h 0), .int v] sa zIA := by
  intro sz
  refine z_headX (y := yX3_step) (av := [.ref (h 0), .int v]) (w := (wX cI cZ h lev tm gn nL nC nE L B C E)) (cc := cX3_step) (maxL := 4) (ret := (some .int)) (by decide) rfl (Nat.le_of_ble_eq_true rfl) ?_
  intro p e s m below meth c ls A hat hX hT hP hD hS hl
  obtain ⟨hx, hb, hr, hml, hlocks, hts, hown, hin, hK, hE, hA⟩ := hat
  have hP : va_P D vwCl (wX cI cZ h lev tm gn nL nC nE L B C E) s.heap := hP
  have hD : va_D A (wX cI cZ h lev tm gn nL nC nE L B C E) := hD
  have hl : lv_has ls 4 [(0, .ref (h 0)), (1, .int v)] := hl
  refine lv_iload_n hx hb dX3_step_0 rfl (lv_at hl 1 rfl) ?_
  refine lv_iconst (v := 0) hx hb dX3_step_1 (by decide) ?_
  refine lv_sipush (v := 200) hx hb dX3_step_2 (by decide) ?_
  refine z_backX (z_runSX (n := 3) (As := [.int v, .int 0, .int 200]) (rest := []) hx hb hml hown hts hK hE hX hS hA (tX3_refuseOutside_x l D cI cZ cJ v 0 200 (hno) hl9 sa _) gX3_step_X3_refuseOutside rfl rfl rfl (by decide +kernel) ⟨Nat.le_of_ble_eq_true rfl, Nat.le_of_ble_eq_true rfl⟩ rfl hl.1 rfl (Nat.le_of_ble_eq_true rfl) dX3_step_5 ⟨Nat.le_of_ble_eq_true rfl, Nat.le_of_ble_eq_true rfl⟩) hP hD hS hA [] rfl rfl (fun ce q9 H locs hP hS hce hcv hcl => ?_)
  exact z_outX hT hlocks hP hS hce hcv hcl ⟨Nat.le_of_ble_eq_true rfl, Nat.le_of_ble_eq_true rfl⟩

set_option maxRecDepth 100000 in
theorem kX3_event_xN : ∀ w ∈ (zAtN).filter goodWord, w ∈ wsX3_event := by decide +kernel
theorem kX3_event_l85 : Cond.classLink RX3 85 zNN ∈ wsX3_event := by decide +kernel
theorem kX3_event_iXN : Cond.initialized zNN ∈ wsX3_event := by decide +kernel
set_option maxHeartbeats 4000000 in
set_option maxRecDepth 100000 in
theorem tX3_event_xa (l : Launch) (D : va_G) (cI cZ cJ : ClassId) (h : Nat → Nat) (lev tm : Nat) (gn : Int32) (nL nC nE : Nat) (L B C E : Nat → Nat → Int32) (v u : Int32) (hno : inB v 0 (nI nE - 1) = false) (hNE : nE ≤ 48) (hL : nL ≤ 4) (hC : nC ≤ 24) (hl9 : l.stackTraces = false) (sa : Nat → Nat)  : ∀ sz : Nat, zMX l yX3_event wsX3_event ({ frames := 6, cells := 1, slots := 6, locals := 82 } : Room) D cI cZ cJ (wX cI cZ h lev tm gn nL nC nE L B C E) sz [.ref (h 0), .int v, .int u] sa zNN := by
  intro sz
  refine z_headX (y := yX3_event) (av := [.ref (h 0), .int v, .int u]) (w := (wX cI cZ h lev tm gn nL nC nE L B C E)) (cc := cX3_event) (maxL := 3) (ret := (some .int)) (by decide) rfl (Nat.le_of_ble_eq_true rfl) ?_
  intro p e s m below meth c ls A hat hX hT hP hD hS hl
  obtain ⟨hx, hb, hr, hml, hlocks, hts, hown, hin, hK, hE, hA⟩ := hat
  have hP : va_P D vwCl (wX cI cZ h lev tm gn nL nC nE L B C E) s.heap := hP
  have hD : va_D A (wX cI cZ h lev tm gn nL nC nE L B C E) := hD
  have hl : lv_has ls 3 [(0, .ref (h 0)), (1, .int v), (2, .int u)] := hl
  refine lv_iload_n hx hb dX3_event_0 rfl (lv_at hl 1 rfl) ?_
  refine lv_if_lt (x := v) (tgt := 15) hx hb dX3_event_1 (by decide) (fun c1 => ?_) (fun c1 => ?_)
  · skip
    exact z_thrN (text := "no such event") (is := 87) hx hb hl9 hown hts kX3_event_l85 kX3_event_iXN kX3_event_xN hX (by decide) hT hP hS (hl.1.trans hml.symm) dX3_event_15 dX3_event_18 dX3_event_19 dX3_event_21 dX3_event_24 (Nat.le_of_ble_eq_true rfl) (Nat.le_of_ble_eq_true rfl) ⟨Nat.le_of_ble_eq_true rfl, Nat.le_of_ble_eq_true rfl⟩ hlocks ⟨Nat.le_of_ble_eq_true rfl, Nat.le_of_ble_eq_true rfl⟩
  · skip
    refine lv_iload_n hx hb dX3_event_4 rfl (lv_at hl 1 rfl) ?_
    refine lv_aload_n hx hb dX3_event_5 rfl (lv_at hl 0 rfl) ?_
    refine va_get (D := D) (ci := 4) (v := .ref (h 19)) (C := RX3) (T := TX3) (N := 5) hx hb hts kX3_event_inX3 hown hK hP 0 rfl rfl 3 (by decide) (hts _ kX3_event_f39) (fun _ h9 => h9) rfl dX3_event_6 ?_
    refine va_getN (D := D) (ci := 2) (v := .int (nI nE)) (C := RX1) (T := TX1) (N := 5) hx hb hts kX3_event_inX1 hown hK hP 19 rfl rfl 4 (by decide) (va_Nw.use rfl (hE _ zl_RX3_81)) (fun _ h9 => h9) rfl dX3_event_9 ?_
    refine lv_icmp_lt (x := v) (y := nI nE) (tgt := 25) hx hb dX3_event_12 (by decide) (fun c12 => ?_) (fun c12 => ?_)
    · exact absurd hno (by rw [inB_lt (by omega) c1 c12]; decide)
    · skip
      exact z_thrN (text := "no such event") (is := 87) hx hb hl9 hown hts kX3_event_l85 kX3_event_iXN kX3_event_xN hX (by decide) hT hP hS (hl.1.trans hml.symm) dX3_event_15 dX3_event_18 dX3_event_19 dX3_event_21 dX3_event_24 (Nat.le_of_ble_eq_true rfl) (Nat.le_of_ble_eq_true rfl) ⟨Nat.le_of_ble_eq_true rfl, Nat.le_of_ble_eq_true rfl⟩ hlocks ⟨Nat.le_of_ble_eq_true rfl, Nat.le_of_ble_eq_true rfl⟩


set_option maxHeartbeats 4000000 in
set_option maxRecDepth 100000 in
theorem tX3_event_xb (l : Launch) (D : va_G) (cI cZ cJ : ClassId) (h : Nat → Nat) (lev tm : Nat) (gn : Int32) (nL nC nE : Nat) (L B C E : Nat → Nat → Int32) (k : Nat) (hk : k < nE) (hNE : nE ≤ 48) (u : Int32) (hno : inB u 0 3 = false) (hL : nL ≤ 4) (hC : nC ≤ 24) (hl9 : l.stackTraces = false) (sa : Nat → Nat)  : ∀ sz : Nat, zMX l yX3_event wsX3_event ({ frames := 7, cells := 1, slots := 6, locals := 104 } : Room) D cI cZ cJ (wX cI cZ h lev tm gn nL nC nE L B C E) sz [.ref (h 0), .int (nI k), .int u] sa zIA := by
  intro sz
  refine z_headX (y := yX3_event) (av := [.ref (h 0), .int (nI k), .int u]) (w := (wX cI cZ h lev tm gn nL nC nE L B C E)) (cc := cX3_event) (maxL := 3) (ret := (some .int)) (by decide) rfl (Nat.le_of_ble_eq_true rfl) ?_
  intro p e s m below meth c ls A hat hX hT hP hD hS hl
  obtain ⟨hx, hb, hr, hml, hlocks, hts, hown, hin, hK, hE, hA⟩ := hat
  have hP : va_P D vwCl (wX cI cZ h lev tm gn nL nC nE L B C E) s.heap := hP
  have hD : va_D A (wX cI cZ h lev tm gn nL nC nE L B C E) := hD
  have hl : lv_has ls 3 [(0, .ref (h 0)), (1, .int (nI k)), (2, .int u)] := hl
  refine lv_iload_n hx hb dX3_event_0 rfl (lv_at hl 1 rfl) ?_
  refine lv_if_lt (x := nI k) (tgt := 15) hx hb dX3_event_1 (by decide) (fun c1 => ?_) (fun c1 => ?_)
  · exact absurd c1 (nI_pos (by omega))
  · skip
    refine lv_iload_n hx hb dX3_event_4 rfl (lv_at hl 1 rfl) ?_
    refine lv_aload_n hx hb dX3_event_5 rfl (lv_at hl 0 rfl) ?_
    refine va_get (D := D) (ci := 4) (v := .ref (h 19)) (C := RX3) (T := TX3) (N := 5) hx hb hts kX3_event_inX3 hown hK hP 0 rfl rfl 3 (by decide) (hts _ kX3_event_f39) (fun _ h9 => h9) rfl dX3_event_6 ?_
    refine va_getN (D := D) (ci := 2) (v := .int (nI nE)) (C := RX1) (T := TX1) (N := 5) hx hb hts kX3_event_inX1 hown hK hP 19 rfl rfl 4 (by decide) (va_Nw.use rfl (hE _ zl_RX3_81)) (fun _ h9 => h9) rfl dX3_event_9 ?_
    refine zn_lt (i := k) (j := nE) (tgt := 25) hx hb (by omega) (by omega) dX3_event_12 (by decide) (fun c12 => ?_) (fun c12 => ?_)
    · skip
      refine lv_iload_n hx hb dX3_event_25 rfl (lv_at hl 2 rfl) ?_
      refine lv_iconst (v := 0) hx hb dX3_event_26 (by decide) ?_
      refine lv_iconst (v := 3) hx hb dX3_event_27 (by decide) ?_
      refine z_backX (z_runSX (n := 3) (As := [.int u, .int 0, .int 3]) (rest := []) hx hb hml hown hts hK hE hX hS hA (tX3_refuseOutside_x l D cI cZ cJ u 0 3 (hno) hl9 sa _) gX3_event_X3_refuseOutside rfl rfl rfl (by decide +kernel) ⟨Nat.le_of_ble_eq_true rfl, Nat.le_of_ble_eq_true rfl⟩ rfl hl.1 rfl (Nat.le_of_ble_eq_true rfl) dX3_event_28 ⟨Nat.le_of_ble_eq_true rfl, Nat.le_of_ble_eq_true rfl⟩) hP hD hS hA [] rfl rfl (fun ce q9 H locs hP hS hce hcv hcl => ?_)
      exact z_outX hT hlocks hP hS hce hcv hcl ⟨Nat.le_of_ble_eq_true rfl, Nat.le_of_ble_eq_true rfl⟩
    · exact absurd c12 (by omega)

set_option maxRecDepth 100000 in
theorem kX3_levelO_xO : ∀ w ∈ (zWO).filter goodWord, w ∈ wsX3_levelO := by decide +kernel
theorem kX3_levelO_l102 : Cond.classLink RX3 102 zAO ∈ wsX3_levelO := by decide +kernel
theorem kX3_levelO_iXO : Cond.initialized zAO ∈ wsX3_levelO := by decide +kernel
set_option maxHeartbeats 4000000 in
set_option maxRecDepth 100000 in
theorem tX3_level_xa (l : Launch) (D : va_G) (cI cZ cJ : ClassId) (h : Nat → Nat) (lev tm : Nat) (gn : Int32) (nL nC nE : Nat) (L B C E : Nat → Nat → Int32) (v : Int32) (hno : inB v 0 3 = false) (hL : nL ≤ 4) (hC : nC ≤ 24) (hl9 : l.stackTraces = false) (sa : Nat → Nat)  : ∀ sz : Nat, zMX l yX3_level wsX3_levelO ({ frames := 7, cells := 1, slots := 6, locals := 95 } : Room) D cI cZ cJ (wX cI cZ h lev tm gn nL nC nE L B C E) sz [.ref (h 0), .int v] sa zAO := by
  intro sz
  refine z_headX (y := yX3_level) (av := [.ref (h 0), .int v]) (w := (wX cI cZ h lev tm gn nL nC nE L B C E)) (cc := cX3_level) (maxL := 2) (ret := (some .int)) (by decide) rfl (Nat.le_of_ble_eq_true rfl) ?_
  intro p e s m below meth c ls A hat hX hT hP hD hS hl
  obtain ⟨hx, hb, hr, hml, hlocks, hts, hown, hin, hK, hE, hA⟩ := hat
  have hP : va_P D vwCl (wX cI cZ h lev tm gn nL nC nE L B C E) s.heap := hP
  have hD : va_D A (wX cI cZ h lev tm gn nL nC nE L B C E) := hD
  have hl : lv_has ls 2 [(0, .ref (h 0)), (1, .int v)] := hl
  refine lv_iload_n hx hb dX3_level_0 rfl (lv_at hl 1 rfl) ?_
  refine lv_if_lt (x := v) (tgt := 9) hx hb dX3_level_1 (by decide) (fun c1 => ?_) (fun c1 => ?_)
  · skip
    exact z_thrS (cls := zAO) (names := zIRE) (ik := 102) (ic := 106) (text := "no such lift among those that there may be") (is := 104) (by decide +kernel) (by decide +kernel) zO_good zO_bad hx hb hl9 hown hts kX3_levelO_l102 kX3_levelO_iXO kX3_levelO_xO hX (by decide) hT hP hS (hl.1.trans hml.symm) dX3_level_9 dX3_level_12 dX3_level_13 dX3_level_15 dX3_level_18 (Nat.le_of_ble_eq_true rfl) (Nat.le_of_ble_eq_true rfl) ⟨Nat.le_of_ble_eq_true rfl, Nat.le_of_ble_eq_true rfl⟩ hlocks ⟨Nat.le_of_ble_eq_true rfl, Nat.le_of_ble_eq_true rfl⟩
  · skip
    refine lv_iload_n hx hb dX3_level_4 rfl (lv_at hl 1 rfl) ?_
    refine lv_iconst (v := 4) hx hb dX3_level_5 (by decide) ?_
    refine lv_icmp_lt (x := v) (y := 4) (tgt := 19) hx hb dX3_level_6 (by decide) (fun c6 => ?_) (fun c6 => ?_)
    · exact absurd hno (by rw [show (3 : Int32) = nI 4 - 1 from rfl, inB_lt (by decide) c1 c6]; decide)
    · skip
      exact z_thrS (cls := zAO) (names := zIRE) (ik := 102) (ic := 106) (text := "no such lift among those that there may be") (is := 104) (by decide +kernel) (by decide +kernel) zO_good zO_bad hx hb hl9 hown hts kX3_levelO_l102 kX3_levelO_iXO kX3_levelO_xO hX (by decide) hT hP hS (hl.1.trans hml.symm) dX3_level_9 dX3_level_12 dX3_level_13 dX3_level_15 dX3_level_18 (Nat.le_of_ble_eq_true rfl) (Nat.le_of_ble_eq_true rfl) ⟨Nat.le_of_ble_eq_true rfl, Nat.le_of_ble_eq_true rfl⟩ hlocks ⟨Nat.le_of_ble_eq_true rfl, Nat.le_of_ble_eq_true rfl⟩


set_option maxHeartbeats 4000000 in
set_option maxRecDepth 100000 in
theorem tX3_level_xb (l : Launch) (D : va_G) (cI cZ cJ : ClassId) (h : Nat → Nat) (lev tm : Nat) (gn : Int32) (nL nC nE : Nat) (L B C E : Nat → Nat → Int32) (k : Nat) (hk : k < 4) (hk2 : nL ≤ k) (hL : nL ≤ 4) (hC : nC ≤ 24) (hl9 : l.stackTraces = false) (sa : Nat → Nat)  : ∀ sz : Nat, zMX l yX3_level wsX3_level ({ frames := 7, cells := 1, slots := 6, locals := 103 } : Room) D cI cZ cJ (wX cI cZ h lev tm gn nL nC nE L B C E) sz [.ref (h 0), .int (nI k)] sa zNN := by
  intro sz
  refine z_headX (y := yX3_level) (av := [.ref (h 0), .int (nI k)]) (w := (wX cI cZ h lev tm gn nL nC nE L B C E)) (cc := cX3_level) (maxL := 2) (ret := (some .int)) (by decide) rfl (Nat.le_of_ble_eq_true rfl) ?_
  intro p e s m below meth c ls A hat hX hT hP hD hS hl
  obtain ⟨hx, hb, hr, hml, hlocks, hts, hown, hin, hK, hE, hA⟩ := hat
  have hP : va_P D vwCl (wX cI cZ h lev tm gn nL nC nE L B C E) s.heap := hP
  have hD : va_D A (wX cI cZ h lev tm gn nL nC nE L B C E) := hD
  have hl : lv_has ls 2 [(0, .ref (h 0)), (1, .int (nI k))] := hl
  refine lv_iload_n hx hb dX3_level_0 rfl (lv_at hl 1 rfl) ?_
  refine lv_if_lt (x := nI k) (tgt := 9) hx hb dX3_level_1 (by decide) (fun c1 => ?_) (fun c1 => ?_)
  · exact absurd c1 (nI_pos (by omega))
  · skip
    refine lv_iload_n hx hb dX3_level_4 rfl (lv_at hl 1 rfl) ?_
    refine lv_iconst (v := 4) hx hb dX3_level_5 (by decide) ?_
    refine zn_lt (i := k) (j := 4) (tgt := 19) hx hb (by omega) (by omega) dX3_level_6 (by decide) (fun c6 => ?_) (fun c6 => ?_)
    · skip
      refine lv_aload_n hx hb dX3_level_19 rfl (lv_at hl 0 rfl) ?_
      refine lv_iload_n hx hb dX3_level_20 rfl (lv_at hl 1 rfl) ?_
      refine z_backXA (z_runVX (n := 1) (As := [.int (nI k)]) (ci := 4) (rest := []) hx hb hml hown hts hK hE hX hS hA hP hD (tX3_refuseNoLift_x l D cI cZ cJ h lev tm gn nL nC nE L B C E (nI k) (inB_ge hk2 (by omega)) (by omega) (by omega) hl9 sa _) gX3_level_X3_refuseNoLift rfl rfl rfl (by decide +kernel) ⟨Nat.le_of_ble_eq_true rfl, Nat.le_of_ble_eq_true rfl⟩ rfl rfl rfl hl.1 rfl (Nat.le_of_ble_eq_true rfl) dX3_level_21 ⟨Nat.le_of_ble_eq_true rfl, Nat.le_of_ble_eq_true rfl⟩) hD hS hA (fun ce q9 H locs hP hS hce hcv hcl => ?_)
      exact z_outX hT hlocks hP hS hce hcv hcl ⟨Nat.le_of_ble_eq_true rfl, Nat.le_of_ble_eq_true rfl⟩
    · exact absurd c6 (by omega)


set_option maxHeartbeats 4000000 in
set_option maxRecDepth 100000 in
theorem tX3_told_xa (l : Launch) (D : va_G) (cI cZ cJ : ClassId) (h : Nat → Nat) (lev tm : Nat) (gn : Int32) (nL nC nE : Nat) (L B C E : Nat → Nat → Int32) (v u : Int32) (hno : inB v 0 (nI nL - 1) = false) (hL : nL ≤ 4) (hC : nC ≤ 24) (hl9 : l.stackTraces = false) (sa : Nat → Nat)  : ∀ sz : Nat, zMX l yX3_told wsX3_told ({ frames := 7, cells := 1, slots := 6, locals := 103 } : Room) D cI cZ cJ (wX cI cZ h lev tm gn nL nC nE L B C E) sz [.ref (h 0), .int v, .int u] sa zNN := by
  intro sz
  refine z_headX (y := yX3_told) (av := [.ref (h 0), .int v, .int u]) (w := (wX cI cZ h lev tm gn nL nC nE L B C E)) (cc := cX3_told) (maxL := 3) (ret := (some .int)) (by decide) rfl (Nat.le_of_ble_eq_true rfl) ?_
  intro p e s m below meth c ls A hat hX hT hP hD hS hl
  obtain ⟨hx, hb, hr, hml, hlocks, hts, hown, hin, hK, hE, hA⟩ := hat
  have hP : va_P D vwCl (wX cI cZ h lev tm gn nL nC nE L B C E) s.heap := hP
  have hD : va_D A (wX cI cZ h lev tm gn nL nC nE L B C E) := hD
  have hl : lv_has ls 3 [(0, .ref (h 0)), (1, .int v), (2, .int u)] := hl
  refine lv_aload_n hx hb dX3_told_0 rfl (lv_at hl 0 rfl) ?_
  refine lv_iload_n hx hb dX3_told_1 rfl (lv_at hl 1 rfl) ?_
  refine z_backXA (z_runVX (n := 1) (As := [.int v]) (ci := 4) (rest := []) hx hb hml hown hts hK hE hX hS hA hP hD (tX3_refuseNoLift_x l D cI cZ cJ h lev tm gn nL nC nE L B C E v (hno) (by omega) (by omega) hl9 sa _) gX3_told_X3_refuseNoLift rfl rfl rfl (by decide +kernel) ⟨Nat.le_of_ble_eq_true rfl, Nat.le_of_ble_eq_true rfl⟩ rfl rfl rfl hl.1 rfl (Nat.le_of_ble_eq_true rfl) dX3_told_2 ⟨Nat.le_of_ble_eq_true rfl, Nat.le_of_ble_eq_true rfl⟩) hD hS hA (fun ce q9 H locs hP hS hce hcv hcl => ?_)
  exact z_outX hT hlocks hP hS hce hcv hcl ⟨Nat.le_of_ble_eq_true rfl, Nat.le_of_ble_eq_true rfl⟩


set_option maxHeartbeats 4000000 in
set_option maxRecDepth 100000 in
theorem tX3_told_xb (l : Launch) (D : va_G) (cI cZ cJ : ClassId) (h : Nat → Nat) (lev tm : Nat) (gn : Int32) (nL nC nE : Nat) (L B C E : Nat → Nat → Int32) (k : Nat) (hk : k < nL) (hL : nL ≤ 4) (hC : nC ≤ 24) (u : Int32) (hno : inB u 0 7 = false) (hl9 : l.stackTraces = false) (sa : Nat → Nat)  : ∀ sz : Nat, zMX l yX3_told wsX3_told ({ frames := 7, cells := 1, slots := 6, locals := 104 } : Room) D cI cZ cJ (wX cI cZ h lev tm gn nL nC nE L B C E) sz [.ref (h 0), .int (nI k), .int u] sa zIA := by
  intro sz
  refine z_headX (y := yX3_told) (av := [.ref (h 0), .int (nI k), .int u]) (w := (wX cI cZ h lev tm gn nL nC nE L B C E)) (cc := cX3_told) (maxL := 3) (ret := (some .int)) (by decide) rfl (Nat.le_of_ble_eq_true rfl) ?_
  intro p e s m below meth c ls A hat hX hT hP hD hS hl
  obtain ⟨hx, hb, hr, hml, hlocks, hts, hown, hin, hK, hE, hA⟩ := hat
  have hP : va_P D vwCl (wX cI cZ h lev tm gn nL nC nE L B C E) s.heap := hP
  have hD : va_D A (wX cI cZ h lev tm gn nL nC nE L B C E) := hD
  have hl : lv_has ls 3 [(0, .ref (h 0)), (1, .int (nI k)), (2, .int u)] := hl
  refine lv_aload_n hx hb dX3_told_0 rfl (lv_at hl 0 rfl) ?_
  refine lv_iload_n hx hb dX3_told_1 rfl (lv_at hl 1 rfl) ?_
  refine z_backvA (z_runVA (n := 1) (As := [.int (nI k)]) (ci := 4) (rest := []) hx hb hml hown hts hK hE hP hD (tX3_refuseNoLift_ok l D cI cZ cJ h lev tm gn nL nC nE L B C E k (by omega) (by omega) (by omega) _) gX3_told_X3_refuseNoLift rfl rfl rfl (by decide +kernel) ⟨Nat.le_of_ble_eq_true rfl, Nat.le_of_ble_eq_true rfl⟩ rfl rfl rfl hl.1 rfl (Nat.le_of_ble_eq_true rfl) dX3_told_2 ⟨Nat.zero_le _, Nat.zero_le _⟩) hD hS hA (fun w1 H locs hp1 hP hD hS => ?_)
  obtain rfl := hp1
  have hP : va_P D vwCl (wX cI cZ h lev tm gn nL nC nE L B C E) H := hP
  have hD : va_D A (wX cI cZ h lev tm gn nL nC nE L B C E) := hD
  refine lv_iload_n hx hb dX3_told_5 rfl (lv_at hl 2 rfl) ?_
  refine lv_iconst (v := 0) hx hb dX3_told_6 (by decide) ?_
  refine lv_bipush (v := 7) hx hb dX3_told_7 (by decide) ?_
  refine z_backX (z_runSX (n := 3) (As := [.int u, .int 0, .int 7]) (rest := []) hx hb hml hown hts hK hE hX hS hA (tX3_refuseOutside_x l D cI cZ cJ u 0 7 (hno) hl9 sa _) gX3_told_X3_refuseOutside rfl rfl rfl (by decide +kernel) ⟨Nat.le_of_ble_eq_true rfl, Nat.le_of_ble_eq_true rfl⟩ rfl hl.1 rfl (Nat.le_of_ble_eq_true rfl) dX3_told_9 ⟨Nat.le_of_ble_eq_true rfl, Nat.le_of_ble_eq_true rfl⟩) hP hD hS hA [] rfl rfl (fun ce q9 H locs hP hS hce hcv hcl => ?_)
  exact z_outX hT hlocks hP hS hce hcv hcl ⟨Nat.le_of_ble_eq_true rfl, Nat.le_of_ble_eq_true rfl⟩


set_option maxHeartbeats 4000000 in
set_option maxRecDepth 100000 in
theorem tX3_door_xa (l : Launch) (D : va_G) (cI cZ cJ : ClassId) (h : Nat → Nat) (lev tm : Nat) (gn : Int32) (nL nC nE : Nat) (L B C E : Nat → Nat → Int32) (v : Int32) (on : Bool) (hno : inB v 0 (nI nL - 1) = false) (hL : nL ≤ 4) (hC : nC ≤ 24) (hl9 : l.stackTraces = false) (sa : Nat → Nat)  : ∀ sz : Nat, zMX l yX3_door wsX3_door ({ frames := 7, cells := 1, slots := 6, locals := 103 } : Room) D cI cZ cJ (wX cI cZ h lev tm gn nL nC nE L B C E) sz [.ref (h 0), .int v, .int (bI on)] sa zNN := by
  intro sz
  refine z_headX (y := yX3_door) (av := [.ref (h 0), .int v, .int (bI on)]) (w := (wX cI cZ h lev tm gn nL nC nE L B C E)) (cc := cX3_door) (maxL := 3) (ret := none) (by decide) rfl (Nat.le_of_ble_eq_true rfl) ?_
  intro p e s m below meth c ls A hat hX hT hP hD hS hl
  obtain ⟨hx, hb, hr, hml, hlocks, hts, hown, hin, hK, hE, hA⟩ := hat
  have hP : va_P D vwCl (wX cI cZ h lev tm gn nL nC nE L B C E) s.heap := hP
  have hD : va_D A (wX cI cZ h lev tm gn nL nC nE L B C E) := hD
  have hl : lv_has ls 3 [(0, .ref (h 0)), (1, .int v), (2, .int (bI on))] := hl
  refine lv_aload_n hx hb dX3_door_0 rfl (lv_at hl 0 rfl) ?_
  refine lv_iload_n hx hb dX3_door_1 rfl (lv_at hl 1 rfl) ?_
  refine z_backXA (z_runVX (n := 1) (As := [.int v]) (ci := 4) (rest := []) hx hb hml hown hts hK hE hX hS hA hP hD (tX3_refuseNoLift_x l D cI cZ cJ h lev tm gn nL nC nE L B C E v (hno) (by omega) (by omega) hl9 sa _) gX3_door_X3_refuseNoLift rfl rfl rfl (by decide +kernel) ⟨Nat.le_of_ble_eq_true rfl, Nat.le_of_ble_eq_true rfl⟩ rfl rfl rfl hl.1 rfl (Nat.le_of_ble_eq_true rfl) dX3_door_2 ⟨Nat.le_of_ble_eq_true rfl, Nat.le_of_ble_eq_true rfl⟩) hD hS hA (fun ce q9 H locs hP hS hce hcv hcl => ?_)
  exact z_outX hT hlocks hP hS hce hcv hcl ⟨Nat.le_of_ble_eq_true rfl, Nat.le_of_ble_eq_true rfl⟩


set_option maxHeartbeats 4000000 in
set_option maxRecDepth 100000 in
theorem tX3_stuck_xa (l : Launch) (D : va_G) (cI cZ cJ : ClassId) (h : Nat → Nat) (lev tm : Nat) (gn : Int32) (nL nC nE : Nat) (L B C E : Nat → Nat → Int32) (v : Int32) (on : Bool) (hno : inB v 0 (nI nL - 1) = false) (hL : nL ≤ 4) (hC : nC ≤ 24) (hl9 : l.stackTraces = false) (sa : Nat → Nat)  : ∀ sz : Nat, zMX l yX3_stuck wsX3_stuck ({ frames := 7, cells := 1, slots := 6, locals := 103 } : Room) D cI cZ cJ (wX cI cZ h lev tm gn nL nC nE L B C E) sz [.ref (h 0), .int v, .int (bI on)] sa zNN := by
  intro sz
  refine z_headX (y := yX3_stuck) (av := [.ref (h 0), .int v, .int (bI on)]) (w := (wX cI cZ h lev tm gn nL nC nE L B C E)) (cc := cX3_stuck) (maxL := 3) (ret := (some .int)) (by decide) rfl (Nat.le_of_ble_eq_true rfl) ?_
  intro p e s m below meth c ls A hat hX hT hP hD hS hl
  obtain ⟨hx, hb, hr, hml, hlocks, hts, hown, hin, hK, hE, hA⟩ := hat
  have hP : va_P D vwCl (wX cI cZ h lev tm gn nL nC nE L B C E) s.heap := hP
  have hD : va_D A (wX cI cZ h lev tm gn nL nC nE L B C E) := hD
  have hl : lv_has ls 3 [(0, .ref (h 0)), (1, .int v), (2, .int (bI on))] := hl
  refine lv_aload_n hx hb dX3_stuck_0 rfl (lv_at hl 0 rfl) ?_
  refine lv_iload_n hx hb dX3_stuck_1 rfl (lv_at hl 1 rfl) ?_
  refine z_backXA (z_runVX (n := 1) (As := [.int v]) (ci := 4) (rest := []) hx hb hml hown hts hK hE hX hS hA hP hD (tX3_refuseNoLift_x l D cI cZ cJ h lev tm gn nL nC nE L B C E v (hno) (by omega) (by omega) hl9 sa _) gX3_stuck_X3_refuseNoLift rfl rfl rfl (by decide +kernel) ⟨Nat.le_of_ble_eq_true rfl, Nat.le_of_ble_eq_true rfl⟩ rfl rfl rfl hl.1 rfl (Nat.le_of_ble_eq_true rfl) dX3_stuck_2 ⟨Nat.le_of_ble_eq_true rfl, Nat.le_of_ble_eq_true rfl⟩) hD hS hA (fun ce q9 H locs hP hS hce hcv hcl => ?_)
  exact z_outX hT hlocks hP hS hce hcv hcl ⟨Nat.le_of_ble_eq_true rfl, Nat.le_of_ble_eq_true rfl⟩


set_option maxHeartbeats 4000000 in
set_option maxRecDepth 100000 in
theorem tX3_reserved_xa (l : Launch) (D : va_G) (cI cZ cJ : ClassId) (h : Nat → Nat) (lev tm : Nat) (gn : Int32) (nL nC nE : Nat) (L B C E : Nat → Nat → Int32) (v : Int32) (on : Bool) (hno : inB v 0 (nI nL - 1) = false) (hL : nL ≤ 4) (hC : nC ≤ 24) (hl9 : l.stackTraces = false) (sa : Nat → Nat)  : ∀ sz : Nat, zMX l yX3_reserved wsX3_reserved ({ frames := 7, cells := 1, slots := 6, locals := 103 } : Room) D cI cZ cJ (wX cI cZ h lev tm gn nL nC nE L B C E) sz [.ref (h 0), .int v, .int (bI on)] sa zNN := by
  intro sz
  refine z_headX (y := yX3_reserved) (av := [.ref (h 0), .int v, .int (bI on)]) (w := (wX cI cZ h lev tm gn nL nC nE L B C E)) (cc := cX3_reserved) (maxL := 3) (ret := (some .int)) (by decide) rfl (Nat.le_of_ble_eq_true rfl) ?_
  intro p e s m below meth c ls A hat hX hT hP hD hS hl
  obtain ⟨hx, hb, hr, hml, hlocks, hts, hown, hin, hK, hE, hA⟩ := hat
  have hP : va_P D vwCl (wX cI cZ h lev tm gn nL nC nE L B C E) s.heap := hP
  have hD : va_D A (wX cI cZ h lev tm gn nL nC nE L B C E) := hD
  have hl : lv_has ls 3 [(0, .ref (h 0)), (1, .int v), (2, .int (bI on))] := hl
  refine lv_aload_n hx hb dX3_reserved_0 rfl (lv_at hl 0 rfl) ?_
  refine lv_iload_n hx hb dX3_reserved_1 rfl (lv_at hl 1 rfl) ?_
  refine z_backXA (z_runVX (n := 1) (As := [.int v]) (ci := 4) (rest := []) hx hb hml hown hts hK hE hX hS hA hP hD (tX3_refuseNoLift_x l D cI cZ cJ h lev tm gn nL nC nE L B C E v (hno) (by omega) (by omega) hl9 sa _) gX3_reserved_X3_refuseNoLift rfl rfl rfl (by decide +kernel) ⟨Nat.le_of_ble_eq_true rfl, Nat.le_of_ble_eq_true rfl⟩ rfl rfl rfl hl.1 rfl (Nat.le_of_ble_eq_true rfl) dX3_reserved_2 ⟨Nat.le_of_ble_eq_true rfl, Nat.le_of_ble_eq_true rfl⟩) hD hS hA (fun ce q9 H locs hP hS hce hcv hcl => ?_)
  exact z_outX hT hlocks hP hS hce hcv hcl ⟨Nat.le_of_ble_eq_true rfl, Nat.le_of_ble_eq_true rfl⟩


set_option maxHeartbeats 4000000 in
set_option maxRecDepth 100000 in
theorem tX3_door_xb (l : Launch) (D : va_G) (cI cZ cJ : ClassId) (h : Nat → Nat) (lev tm : Nat) (gn : Int32) (nL nC nE : Nat) (L B C E : Nat → Nat → Int32) (k : Nat) (hk : k < nL) (hL : nL ≤ 4) (hC : nC ≤ 24) (on : Bool) (hno : B 2 k = bI on) (hl9 : l.stackTraces = false) (sa : Nat → Nat)  : ∀ sz : Nat, zMX l yX3_door wsX3_door ({ frames := 7, cells := 1, slots := 6, locals := 103 } : Room) D cI cZ cJ (wX cI cZ h lev tm gn nL nC nE L B C E) sz [.ref (h 0), .int (nI k), .int (bI on)] sa zIS := by
  intro sz
  refine z_headX (y := yX3_door) (av := [.ref (h 0), .int (nI k), .int (bI on)]) (w := (wX cI cZ h lev tm gn nL nC nE L B C E)) (cc := cX3_door) (maxL := 3) (ret := none) (by decide) rfl (Nat.le_of_ble_eq_true rfl) ?_
  intro p e s m below meth c ls A hat hX hT hP hD hS hl
  obtain ⟨hx, hb, hr, hml, hlocks, hts, hown, hin, hK, hE, hA⟩ := hat
  have hP : va_P D vwCl (wX cI cZ h lev tm gn nL nC nE L B C E) s.heap := hP
  have hD : va_D A (wX cI cZ h lev tm gn nL nC nE L B C E) := hD
  have hl : lv_has ls 3 [(0, .ref (h 0)), (1, .int (nI k)), (2, .int (bI on))] := hl
  refine lv_aload_n hx hb dX3_door_0 rfl (lv_at hl 0 rfl) ?_
  refine lv_iload_n hx hb dX3_door_1 rfl (lv_at hl 1 rfl) ?_
  refine z_backvA (z_runVA (n := 1) (As := [.int (nI k)]) (ci := 4) (rest := []) hx hb hml hown hts hK hE hP hD (tX3_refuseNoLift_ok l D cI cZ cJ h lev tm gn nL nC nE L B C E k (by omega) (by omega) (by omega) _) gX3_door_X3_refuseNoLift rfl rfl rfl (by decide +kernel) ⟨Nat.le_of_ble_eq_true rfl, Nat.le_of_ble_eq_true rfl⟩ rfl rfl rfl hl.1 rfl (Nat.le_of_ble_eq_true rfl) dX3_door_2 ⟨Nat.zero_le _, Nat.zero_le _⟩) hD hS hA (fun w1 H locs hp1 hP hD hS => ?_)
  obtain rfl := hp1
  have hP : va_P D vwCl (wX cI cZ h lev tm gn nL nC nE L B C E) H := hP
  have hD : va_D A (wX cI cZ h lev tm gn nL nC nE L B C E) := hD
  refine lv_aload_n hx hb dX3_door_5 rfl (lv_at hl 0 rfl) ?_
  refine va_get (D := D) (ci := 4) (v := .ref (h 1)) (C := RX3) (T := TX3) (N := 5) hx hb hts kX3_door_inX3 hown hK hP 0 rfl rfl 1 (by decide) (hts _ kX3_door_f25) (fun _ h9 => h9) rfl dX3_door_6 ?_
  refine va_getN (D := D) (ci := 3) (v := .ref (h 8)) (C := RX2) (T := TX2) (N := 9) hx hb hts kX3_door_inX2 hown hK hP 1 rfl rfl 6 (by decide) (va_Nw.use rfl (hE _ zl_RX3_138)) (fun _ h9 => h9) rfl dX3_door_9 ?_
  refine lv_iload_n hx hb dX3_door_12 rfl (lv_at hl 1 rfl) ?_
  refine z_zald (k := k) (v := B 2 k) hx hb hK hP 8 rfl (by decide) (by omega) (rfl) dX3_door_13 ?_
  refine lv_iload_n hx hb dX3_door_14 rfl (lv_at hl 2 rfl) ?_
  refine z_backX (z_runSX (n := 2) (As := [.int (B 2 k), .int (bI on)]) (rest := []) hx hb hml hown hts hK hE hX hS hA (tX3_refuseUnchanged_x l D cI cZ cJ (B 2 k) (bI on) (hno) hl9 sa _) gX3_door_X3_refuseUnchanged rfl rfl rfl (by decide +kernel) ⟨Nat.le_of_ble_eq_true rfl, Nat.le_of_ble_eq_true rfl⟩ rfl hl.1 rfl (Nat.le_of_ble_eq_true rfl) dX3_door_15 ⟨Nat.le_of_ble_eq_true rfl, Nat.le_of_ble_eq_true rfl⟩) hP hD hS hA [] rfl rfl (fun ce q9 H locs hP hS hce hcv hcl => ?_)
  exact z_outX hT hlocks hP hS hce hcv hcl ⟨Nat.le_of_ble_eq_true rfl, Nat.le_of_ble_eq_true rfl⟩

set_option maxRecDepth 100000 in
theorem kX3_door_xS : ∀ w ∈ (zWS).filter goodWord, w ∈ wsX3_door := by decide +kernel
theorem kX3_door_l145 : Cond.classLink RX3 145 zIS ∈ wsX3_door := by decide +kernel
theorem kX3_door_iXS : Cond.initialized zIS ∈ wsX3_door := by decide +kernel
set_option maxHeartbeats 4000000 in
set_option maxRecDepth 100000 in
theorem tX3_door_xc (l : Launch) (D : va_G) (cI cZ cJ : ClassId) (h : Nat → Nat) (lev tm : Nat) (gn : Int32) (nL nC nE : Nat) (L B C E : Nat → Nat → Int32) (k : Nat) (hk : k < nL) (hL : nL ≤ 4) (hC : nC ≤ 24) (on : Bool) (hyes : ¬ B 2 k = bI on) (hon : on = true) (ho : L 3 k = 0) (hl9 : l.stackTraces = false) (sa : Nat → Nat)  : ∀ sz : Nat, zMX l yX3_door wsX3_door ({ frames := 7, cells := 1, slots := 6, locals := 103 } : Room) D cI cZ cJ (wX cI cZ h lev tm gn nL nC nE L B C E) sz [.ref (h 0), .int (nI k), .int (bI on)] sa zIS := by
  intro sz
  refine z_headX (y := yX3_door) (av := [.ref (h 0), .int (nI k), .int (bI on)]) (w := (wX cI cZ h lev tm gn nL nC nE L B C E)) (cc := cX3_door) (maxL := 3) (ret := none) (by decide) rfl (Nat.le_of_ble_eq_true rfl) ?_
  intro p e s m below meth c ls A hat hX hT hP hD hS hl
  obtain ⟨hx, hb, hr, hml, hlocks, hts, hown, hin, hK, hE, hA⟩ := hat
  have hP : va_P D vwCl (wX cI cZ h lev tm gn nL nC nE L B C E) s.heap := hP
  have hD : va_D A (wX cI cZ h lev tm gn nL nC nE L B C E) := hD
  have hl : lv_has ls 3 [(0, .ref (h 0)), (1, .int (nI k)), (2, .int (bI on))] := hl
  refine lv_aload_n hx hb dX3_door_0 rfl (lv_at hl 0 rfl) ?_
  refine lv_iload_n hx hb dX3_door_1 rfl (lv_at hl 1 rfl) ?_
  refine z_backvA (z_runVA (n := 1) (As := [.int (nI k)]) (ci := 4) (rest := []) hx hb hml hown hts hK hE hP hD (tX3_refuseNoLift_ok l D cI cZ cJ h lev tm gn nL nC nE L B C E k (by omega) (by omega) (by omega) _) gX3_door_X3_refuseNoLift rfl rfl rfl (by decide +kernel) ⟨Nat.le_of_ble_eq_true rfl, Nat.le_of_ble_eq_true rfl⟩ rfl rfl rfl hl.1 rfl (Nat.le_of_ble_eq_true rfl) dX3_door_2 ⟨Nat.zero_le _, Nat.zero_le _⟩) hD hS hA (fun w1 H locs hp1 hP hD hS => ?_)
  obtain rfl := hp1
  have hP : va_P D vwCl (wX cI cZ h lev tm gn nL nC nE L B C E) H := hP
  have hD : va_D A (wX cI cZ h lev tm gn nL nC nE L B C E) := hD
  refine lv_aload_n hx hb dX3_door_5 rfl (lv_at hl 0 rfl) ?_
  refine va_get (D := D) (ci := 4) (v := .ref (h 1)) (C := RX3) (T := TX3) (N := 5) hx hb hts kX3_door_inX3 hown hK hP 0 rfl rfl 1 (by decide) (hts _ kX3_door_f25) (fun _ h9 => h9) rfl dX3_door_6 ?_
  refine va_getN (D := D) (ci := 3) (v := .ref (h 8)) (C := RX2) (T := TX2) (N := 9) hx hb hts kX3_door_inX2 hown hK hP 1 rfl rfl 6 (by decide) (va_Nw.use rfl (hE _ zl_RX3_138)) (fun _ h9 => h9) rfl dX3_door_9 ?_
  refine lv_iload_n hx hb dX3_door_12 rfl (lv_at hl 1 rfl) ?_
  refine z_zald (k := k) (v := B 2 k) hx hb hK hP 8 rfl (by decide) (by omega) (rfl) dX3_door_13 ?_
  refine lv_iload_n hx hb dX3_door_14 rfl (lv_at hl 2 rfl) ?_
  refine z_backv (z_runS (n := 2) (As := [.int (B 2 k), .int (bI on)]) (rest := []) hx hb hml hown hts hK hE hP hD [] rfl (by decide) (tX3_refuseUnchanged_ok l D cI cZ cJ (B 2 k) (bI on) (hyes) _) gX3_door_X3_refuseUnchanged rfl rfl rfl (by decide +kernel) ⟨Nat.le_of_ble_eq_true rfl, Nat.le_of_ble_eq_true rfl⟩ rfl hl.1 rfl (Nat.le_of_ble_eq_true rfl) dX3_door_15 ⟨Nat.zero_le _, Nat.zero_le _⟩) hP hD hS hA [] rfl (fun w1 H locs hp2 hP hD hS => ?_)
  obtain rfl := hp2
  have hP : va_P D vwCl (wX cI cZ h lev tm gn nL nC nE L B C E) H := hP
  have hD : va_D A (wX cI cZ h lev tm gn nL nC nE L B C E) := hD
  refine lv_iload_n hx hb dX3_door_18 rfl (lv_at hl 2 rfl) ?_
  refine zb_eq (b := on) (tgt := 44) hx hb dX3_door_19 (by decide) (fun c19 => ?_) (fun c19 => ?_)
  · exact absurd (hon.symm.trans c19) (by decide)
  · skip
    refine lv_aload_n hx hb dX3_door_22 rfl (lv_at hl 0 rfl) ?_
    refine va_get (D := D) (ci := 4) (v := .ref (h 1)) (C := RX3) (T := TX3) (N := 5) hx hb hts kX3_door_inX3 hown hK hP 0 rfl rfl 1 (by decide) (hts _ kX3_door_f25) (fun _ h9 => h9) rfl dX3_door_23 ?_
    refine va_getN (D := D) (ci := 3) (v := .ref (h 5)) (C := RX2) (T := TX2) (N := 9) hx hb hts kX3_door_inX2 hown hK hP 1 rfl rfl 3 (by decide) (va_Nw.use rfl (hE _ zl_RX3_121)) (fun _ h9 => h9) rfl dX3_door_26 ?_
    refine lv_iload_n hx hb dX3_door_29 rfl (lv_at hl 1 rfl) ?_
    refine z_iald (k := k) (v := L 3 k) hx hb hK hP 5 rfl (by decide) (by omega) (rfl) dX3_door_30 ?_
    refine lv_if_ne (x := L 3 k) (tgt := 44) hx hb dX3_door_31 (by decide) (fun c31 => ?_) (fun c31 => ?_)
    · exact absurd ho c31
    · skip
      exact z_thrS (cls := zIS) (names := zRE) (ik := 145) (ic := 149) (text := "the door is shut") (is := 147) (by decide +kernel) (by decide +kernel) zS_good zS_bad hx hb hl9 hown hts kX3_door_l145 kX3_door_iXS kX3_door_xS hX (by decide) hT hP hS (hl.1.trans hml.symm) dX3_door_34 dX3_door_37 dX3_door_38 dX3_door_40 dX3_door_43 (Nat.le_of_ble_eq_true rfl) (Nat.le_of_ble_eq_true rfl) ⟨Nat.le_of_ble_eq_true rfl, Nat.le_of_ble_eq_true rfl⟩ hlocks ⟨Nat.le_of_ble_eq_true rfl, Nat.le_of_ble_eq_true rfl⟩


set_option maxHeartbeats 4000000 in
set_option maxRecDepth 100000 in
theorem tX3_stuck_xb (l : Launch) (D : va_G) (cI cZ cJ : ClassId) (h : Nat → Nat) (lev tm : Nat) (gn : Int32) (nL nC nE : Nat) (L B C E : Nat → Nat → Int32) (k : Nat) (hk : k < nL) (hL : nL ≤ 4) (hC : nC ≤ 24) (on : Bool) (hno : B 0 k = bI on) (hl9 : l.stackTraces = false) (sa : Nat → Nat)  : ∀ sz : Nat, zMX l yX3_stuck wsX3_stuck ({ frames := 7, cells := 1, slots := 6, locals := 103 } : Room) D cI cZ cJ (wX cI cZ h lev tm gn nL nC nE L B C E) sz [.ref (h 0), .int (nI k), .int (bI on)] sa zIS := by
  intro sz
  refine z_headX (y := yX3_stuck) (av := [.ref (h 0), .int (nI k), .int (bI on)]) (w := (wX cI cZ h lev tm gn nL nC nE L B C E)) (cc := cX3_stuck) (maxL := 3) (ret := (some .int)) (by decide) rfl (Nat.le_of_ble_eq_true rfl) ?_
  intro p e s m below meth c ls A hat hX hT hP hD hS hl
  obtain ⟨hx, hb, hr, hml, hlocks, hts, hown, hin, hK, hE, hA⟩ := hat
  have hP : va_P D vwCl (wX cI cZ h lev tm gn nL nC nE L B C E) s.heap := hP
  have hD : va_D A (wX cI cZ h lev tm gn nL nC nE L B C E) := hD
  have hl : lv_has ls 3 [(0, .ref (h 0)), (1, .int (nI k)), (2, .int (bI on))] := hl
  refine lv_aload_n hx hb dX3_stuck_0 rfl (lv_at hl 0 rfl) ?_
  refine lv_iload_n hx hb dX3_stuck_1 rfl (lv_at hl 1 rfl) ?_
  refine z_backvA (z_runVA (n := 1) (As := [.int (nI k)]) (ci := 4) (rest := []) hx hb hml hown hts hK hE hP hD (tX3_refuseNoLift_ok l D cI cZ cJ h lev tm gn nL nC nE L B C E k (by omega) (by omega) (by omega) _) gX3_stuck_X3_refuseNoLift rfl rfl rfl (by decide +kernel) ⟨Nat.le_of_ble_eq_true rfl, Nat.le_of_ble_eq_true rfl⟩ rfl rfl rfl hl.1 rfl (Nat.le_of_ble_eq_true rfl) dX3_stuck_2 ⟨Nat.zero_le _, Nat.zero_le _⟩) hD hS hA (fun w1 H locs hp1 hP hD hS => ?_)
  obtain rfl := hp1
  have hP : va_P D vwCl (wX cI cZ h lev tm gn nL nC nE L B C E) H := hP
  have hD : va_D A (wX cI cZ h lev tm gn nL nC nE L B C E) := hD
  refine lv_aload_n hx hb dX3_stuck_5 rfl (lv_at hl 0 rfl) ?_
  refine va_get (D := D) (ci := 4) (v := .ref (h 1)) (C := RX3) (T := TX3) (N := 5) hx hb hts kX3_stuck_inX3 hown hK hP 0 rfl rfl 1 (by decide) (hts _ kX3_stuck_f25) (fun _ h9 => h9) rfl dX3_stuck_6 ?_
  refine va_getN (D := D) (ci := 3) (v := .ref (h 6)) (C := RX2) (T := TX2) (N := 9) hx hb hts kX3_stuck_inX2 hown hK hP 1 rfl rfl 4 (by decide) (va_Nw.use rfl (hE _ zl_RX3_127)) (fun _ h9 => h9) rfl dX3_stuck_9 ?_
  refine lv_iload_n hx hb dX3_stuck_12 rfl (lv_at hl 1 rfl) ?_
  refine z_zald (k := k) (v := B 0 k) hx hb hK hP 6 rfl (by decide) (by omega) (rfl) dX3_stuck_13 ?_
  refine lv_iload_n hx hb dX3_stuck_14 rfl (lv_at hl 2 rfl) ?_
  refine z_backX (z_runSX (n := 2) (As := [.int (B 0 k), .int (bI on)]) (rest := []) hx hb hml hown hts hK hE hX hS hA (tX3_refuseUnchanged_x l D cI cZ cJ (B 0 k) (bI on) (hno) hl9 sa _) gX3_stuck_X3_refuseUnchanged rfl rfl rfl (by decide +kernel) ⟨Nat.le_of_ble_eq_true rfl, Nat.le_of_ble_eq_true rfl⟩ rfl hl.1 rfl (Nat.le_of_ble_eq_true rfl) dX3_stuck_15 ⟨Nat.le_of_ble_eq_true rfl, Nat.le_of_ble_eq_true rfl⟩) hP hD hS hA [] rfl rfl (fun ce q9 H locs hP hS hce hcv hcl => ?_)
  exact z_outX hT hlocks hP hS hce hcv hcl ⟨Nat.le_of_ble_eq_true rfl, Nat.le_of_ble_eq_true rfl⟩


set_option maxHeartbeats 4000000 in
set_option maxRecDepth 100000 in
theorem tX3_reserved_xb (l : Launch) (D : va_G) (cI cZ cJ : ClassId) (h : Nat → Nat) (lev tm : Nat) (gn : Int32) (nL nC nE : Nat) (L B C E : Nat → Nat → Int32) (k : Nat) (hk : k < nL) (hL : nL ≤ 4) (hC : nC ≤ 24) (on : Bool) (hno : B 1 k = bI on) (hl9 : l.stackTraces = false) (sa : Nat → Nat)  : ∀ sz : Nat, zMX l yX3_reserved wsX3_reserved ({ frames := 7, cells := 1, slots := 6, locals := 103 } : Room) D cI cZ cJ (wX cI cZ h lev tm gn nL nC nE L B C E) sz [.ref (h 0), .int (nI k), .int (bI on)] sa zIS := by
  intro sz
  refine z_headX (y := yX3_reserved) (av := [.ref (h 0), .int (nI k), .int (bI on)]) (w := (wX cI cZ h lev tm gn nL nC nE L B C E)) (cc := cX3_reserved) (maxL := 3) (ret := (some .int)) (by decide) rfl (Nat.le_of_ble_eq_true rfl) ?_
  intro p e s m below meth c ls A hat hX hT hP hD hS hl
  obtain ⟨hx, hb, hr, hml, hlocks, hts, hown, hin, hK, hE, hA⟩ := hat
  have hP : va_P D vwCl (wX cI cZ h lev tm gn nL nC nE L B C E) s.heap := hP
  have hD : va_D A (wX cI cZ h lev tm gn nL nC nE L B C E) := hD
  have hl : lv_has ls 3 [(0, .ref (h 0)), (1, .int (nI k)), (2, .int (bI on))] := hl
  refine lv_aload_n hx hb dX3_reserved_0 rfl (lv_at hl 0 rfl) ?_
  refine lv_iload_n hx hb dX3_reserved_1 rfl (lv_at hl 1 rfl) ?_
  refine z_backvA (z_runVA (n := 1) (As := [.int (nI k)]) (ci := 4) (rest := []) hx hb hml hown hts hK hE hP hD (tX3_refuseNoLift_ok l D cI cZ cJ h lev tm gn nL nC nE L B C E k (by omega) (by omega) (by omega) _) gX3_reserved_X3_refuseNoLift rfl rfl rfl (by decide +kernel) ⟨Nat.le_of_ble_eq_true rfl, Nat.le_of_ble_eq_true rfl⟩ rfl rfl rfl hl.1 rfl (Nat.le_of_ble_eq_true rfl) dX3_reserved_2 ⟨Nat.zero_le _, Nat.zero_le _⟩) hD hS hA (fun w1 H locs hp1 hP hD hS => ?_)
  obtain rfl := hp1
  have hP : va_P D vwCl (wX cI cZ h lev tm gn nL nC nE L B C E) H := hP
  have hD : va_D A (wX cI cZ h lev tm gn nL nC nE L B C E) := hD
  refine lv_aload_n hx hb dX3_reserved_5 rfl (lv_at hl 0 rfl) ?_
  refine va_get (D := D) (ci := 4) (v := .ref (h 1)) (C := RX3) (T := TX3) (N := 5) hx hb hts kX3_reserved_inX3 hown hK hP 0 rfl rfl 1 (by decide) (hts _ kX3_reserved_f25) (fun _ h9 => h9) rfl dX3_reserved_6 ?_
  refine va_getN (D := D) (ci := 3) (v := .ref (h 7)) (C := RX2) (T := TX2) (N := 9) hx hb hts kX3_reserved_inX2 hown hK hP 1 rfl rfl 5 (by decide) (va_Nw.use rfl (hE _ zl_RX3_135)) (fun _ h9 => h9) rfl dX3_reserved_9 ?_
  refine lv_iload_n hx hb dX3_reserved_12 rfl (lv_at hl 1 rfl) ?_
  refine z_zald (k := k) (v := B 1 k) hx hb hK hP 7 rfl (by decide) (by omega) (rfl) dX3_reserved_13 ?_
  refine lv_iload_n hx hb dX3_reserved_14 rfl (lv_at hl 2 rfl) ?_
  refine z_backX (z_runSX (n := 2) (As := [.int (B 1 k), .int (bI on)]) (rest := []) hx hb hml hown hts hK hE hX hS hA (tX3_refuseUnchanged_x l D cI cZ cJ (B 1 k) (bI on) (hno) hl9 sa _) gX3_reserved_X3_refuseUnchanged rfl rfl rfl (by decide +kernel) ⟨Nat.le_of_ble_eq_true rfl, Nat.le_of_ble_eq_true rfl⟩ rfl hl.1 rfl (Nat.le_of_ble_eq_true rfl) dX3_reserved_15 ⟨Nat.le_of_ble_eq_true rfl, Nat.le_of_ble_eq_true rfl⟩) hP hD hS hA [] rfl rfl (fun ce q9 H locs hP hS hce hcv hcl => ?_)
  exact z_outX hT hlocks hP hS hce hcv hcl ⟨Nat.le_of_ble_eq_true rfl, Nat.le_of_ble_eq_true rfl⟩


set_option maxHeartbeats 4000000 in
set_option maxRecDepth 100000 in
theorem tX3_served_xa (l : Launch) (D : va_G) (cI cZ cJ : ClassId) (h : Nat → Nat) (lev tm : Nat) (gn : Int32) (nL nC nE : Nat) (L B C E : Nat → Nat → Int32) (v : Int32) (hno : inB v 0 (nI nC - 1) = false) (hL : nL ≤ 4) (hC : nC ≤ 24) (hl9 : l.stackTraces = false) (sa : Nat → Nat)  : ∀ sz : Nat, zMX l yX3_served wsX3_served ({ frames := 7, cells := 1, slots := 6, locals := 103 } : Room) D cI cZ cJ (wX cI cZ h lev tm gn nL nC nE L B C E) sz [.ref (h 0), .int v] sa zNN := by
  intro sz
  refine z_headX (y := yX3_served) (av := [.ref (h 0), .int v]) (w := (wX cI cZ h lev tm gn nL nC nE L B C E)) (cc := cX3_served) (maxL := 2) (ret := (some .int)) (by decide) rfl (Nat.le_of_ble_eq_true rfl) ?_
  intro p e s m below meth c ls A hat hX hT hP hD hS hl
  obtain ⟨hx, hb, hr, hml, hlocks, hts, hown, hin, hK, hE, hA⟩ := hat
  have hP : va_P D vwCl (wX cI cZ h lev tm gn nL nC nE L B C E) s.heap := hP
  have hD : va_D A (wX cI cZ h lev tm gn nL nC nE L B C E) := hD
  have hl : lv_has ls 2 [(0, .ref (h 0)), (1, .int v)] := hl
  refine lv_aload_n hx hb dX3_served_0 rfl (lv_at hl 0 rfl) ?_
  refine lv_iload_n hx hb dX3_served_1 rfl (lv_at hl 1 rfl) ?_
  refine z_backXA (z_runVX (n := 1) (As := [.int v]) (ci := 4) (rest := []) hx hb hml hown hts hK hE hX hS hA hP hD (tX3_refuseNoCall_x l D cI cZ cJ h lev tm gn nL nC nE L B C E v (hno) (by omega) (by omega) hl9 sa _) gX3_served_X3_refuseNoCall rfl rfl rfl (by decide +kernel) ⟨Nat.le_of_ble_eq_true rfl, Nat.le_of_ble_eq_true rfl⟩ rfl rfl rfl hl.1 rfl (Nat.le_of_ble_eq_true rfl) dX3_served_2 ⟨Nat.le_of_ble_eq_true rfl, Nat.le_of_ble_eq_true rfl⟩) hD hS hA (fun ce q9 H locs hP hS hce hcv hcl => ?_)
  exact z_outX hT hlocks hP hS hce hcv hcl ⟨Nat.le_of_ble_eq_true rfl, Nat.le_of_ble_eq_true rfl⟩


set_option maxHeartbeats 4000000 in
set_option maxRecDepth 100000 in
theorem tX3_waits_xa (l : Launch) (D : va_G) (cI cZ cJ : ClassId) (h : Nat → Nat) (lev tm : Nat) (gn : Int32) (nL nC nE : Nat) (L B C E : Nat → Nat → Int32) (v : Int32) (hno : inB v 0 (nI nC - 1) = false) (hL : nL ≤ 4) (hC : nC ≤ 24) (hl9 : l.stackTraces = false) (sa : Nat → Nat)  : ∀ sz : Nat, zMX l yX3_waits wsX3_waits ({ frames := 7, cells := 1, slots := 6, locals := 103 } : Room) D cI cZ cJ (wX cI cZ h lev tm gn nL nC nE L B C E) sz [.ref (h 0), .int v] sa zNN := by
  intro sz
  refine z_headX (y := yX3_waits) (av := [.ref (h 0), .int v]) (w := (wX cI cZ h lev tm gn nL nC nE L B C E)) (cc := cX3_waits) (maxL := 3) (ret := (some .int)) (by decide) rfl (Nat.le_of_ble_eq_true rfl) ?_
  intro p e s m below meth c ls A hat hX hT hP hD hS hl
  obtain ⟨hx, hb, hr, hml, hlocks, hts, hown, hin, hK, hE, hA⟩ := hat
  have hP : va_P D vwCl (wX cI cZ h lev tm gn nL nC nE L B C E) s.heap := hP
  have hD : va_D A (wX cI cZ h lev tm gn nL nC nE L B C E) := hD
  have hl : lv_has ls 3 [(0, .ref (h 0)), (1, .int v)] := hl
  refine lv_aload_n hx hb dX3_waits_0 rfl (lv_at hl 0 rfl) ?_
  refine lv_iload_n hx hb dX3_waits_1 rfl (lv_at hl 1 rfl) ?_
  refine z_backXA (z_runVX (n := 1) (As := [.int v]) (ci := 4) (rest := []) hx hb hml hown hts hK hE hX hS hA hP hD (tX3_refuseNoCall_x l D cI cZ cJ h lev tm gn nL nC nE L B C E v (hno) (by omega) (by omega) hl9 sa _) gX3_waits_X3_refuseNoCall rfl rfl rfl (by decide +kernel) ⟨Nat.le_of_ble_eq_true rfl, Nat.le_of_ble_eq_true rfl⟩ rfl rfl rfl hl.1 rfl (Nat.le_of_ble_eq_true rfl) dX3_waits_2 ⟨Nat.le_of_ble_eq_true rfl, Nat.le_of_ble_eq_true rfl⟩) hD hS hA (fun ce q9 H locs hP hS hce hcv hcl => ?_)
  exact z_outX hT hlocks hP hS hce hcv hcl ⟨Nat.le_of_ble_eq_true rfl, Nat.le_of_ble_eq_true rfl⟩


set_option maxHeartbeats 4000000 in
set_option maxRecDepth 100000 in
theorem tX3_least_xa (l : Launch) (D : va_G) (cI cZ cJ : ClassId) (h : Nat → Nat) (lev tm : Nat) (gn : Int32) (nL nC nE : Nat) (L B C E : Nat → Nat → Int32) (v : Int32) (hno : inB v 0 (nI nL - 1) = false) (hL : nL ≤ 4) (hC : nC ≤ 24) (hl9 : l.stackTraces = false) (sa : Nat → Nat)  : ∀ sz : Nat, zMX l yX3_least wsX3_least ({ frames := 7, cells := 1, slots := 6, locals := 103 } : Room) D cI cZ cJ (wX cI cZ h lev tm gn nL nC nE L B C E) sz [.ref (h 0), .int v] sa zNN := by
  intro sz
  refine z_headX (y := yX3_least) (av := [.ref (h 0), .int v]) (w := (wX cI cZ h lev tm gn nL nC nE L B C E)) (cc := cX3_least) (maxL := 4) (ret := (some .int)) (by decide) rfl (Nat.le_of_ble_eq_true rfl) ?_
  intro p e s m below meth c ls A hat hX hT hP hD hS hl
  obtain ⟨hx, hb, hr, hml, hlocks, hts, hown, hin, hK, hE, hA⟩ := hat
  have hP : va_P D vwCl (wX cI cZ h lev tm gn nL nC nE L B C E) s.heap := hP
  have hD : va_D A (wX cI cZ h lev tm gn nL nC nE L B C E) := hD
  have hl : lv_has ls 4 [(0, .ref (h 0)), (1, .int v)] := hl
  refine lv_aload_n hx hb dX3_least_0 rfl (lv_at hl 0 rfl) ?_
  refine lv_iload_n hx hb dX3_least_1 rfl (lv_at hl 1 rfl) ?_
  refine z_backXA (z_runVX (n := 1) (As := [.int v]) (ci := 4) (rest := []) hx hb hml hown hts hK hE hX hS hA hP hD (tX3_refuseNoLift_x l D cI cZ cJ h lev tm gn nL nC nE L B C E v (hno) (by omega) (by omega) hl9 sa _) gX3_least_X3_refuseNoLift rfl rfl rfl (by decide +kernel) ⟨Nat.le_of_ble_eq_true rfl, Nat.le_of_ble_eq_true rfl⟩ rfl rfl rfl hl.1 rfl (Nat.le_of_ble_eq_true rfl) dX3_least_2 ⟨Nat.le_of_ble_eq_true rfl, Nat.le_of_ble_eq_true rfl⟩) hD hS hA (fun ce q9 H locs hP hS hce hcv hcl => ?_)
  exact z_outX hT hlocks hP hS hce hcv hcl ⟨Nat.le_of_ble_eq_true rfl, Nat.le_of_ble_eq_true rfl⟩


set_option maxHeartbeats 4000000 in
set_option maxRecDepth 100000 in
theorem tX3_known_xa (l : Launch) (D : va_G) (cI cZ cJ : ClassId) (h : Nat → Nat) (lev tm : Nat) (gn : Int32) (nL nC nE : Nat) (L B C E : Nat → Nat → Int32) (v u : Int32) (hno : inB v 0 (nI nC - 1) = false) (hL : nL ≤ 4) (hC : nC ≤ 24) (hl9 : l.stackTraces = false) (sa : Nat → Nat)  : ∀ sz : Nat, zMX l yX3_known wsX3_known ({ frames := 7, cells := 1, slots := 6, locals := 103 } : Room) D cI cZ cJ (wX cI cZ h lev tm gn nL nC nE L B C E) sz [.ref (h 0), .int v, .int u] sa zNN := by
  intro sz
  refine z_headX (y := yX3_known) (av := [.ref (h 0), .int v, .int u]) (w := (wX cI cZ h lev tm gn nL nC nE L B C E)) (cc := cX3_known) (maxL := 3) (ret := (some .int)) (by decide) rfl (Nat.le_of_ble_eq_true rfl) ?_
  intro p e s m below meth c ls A hat hX hT hP hD hS hl
  obtain ⟨hx, hb, hr, hml, hlocks, hts, hown, hin, hK, hE, hA⟩ := hat
  have hP : va_P D vwCl (wX cI cZ h lev tm gn nL nC nE L B C E) s.heap := hP
  have hD : va_D A (wX cI cZ h lev tm gn nL nC nE L B C E) := hD
  have hl : lv_has ls 3 [(0, .ref (h 0)), (1, .int v), (2, .int u)] := hl
  refine lv_aload_n hx hb dX3_known_0 rfl (lv_at hl 0 rfl) ?_
  refine lv_iload_n hx hb dX3_known_1 rfl (lv_at hl 1 rfl) ?_
  refine z_backXA (z_runVX (n := 1) (As := [.int v]) (ci := 4) (rest := []) hx hb hml hown hts hK hE hX hS hA hP hD (tX3_refuseNoCall_x l D cI cZ cJ h lev tm gn nL nC nE L B C E v (hno) (by omega) (by omega) hl9 sa _) gX3_known_X3_refuseNoCall rfl rfl rfl (by decide +kernel) ⟨Nat.le_of_ble_eq_true rfl, Nat.le_of_ble_eq_true rfl⟩ rfl rfl rfl hl.1 rfl (Nat.le_of_ble_eq_true rfl) dX3_known_2 ⟨Nat.le_of_ble_eq_true rfl, Nat.le_of_ble_eq_true rfl⟩) hD hS hA (fun ce q9 H locs hP hS hce hcv hcl => ?_)
  exact z_outX hT hlocks hP hS hce hcv hcl ⟨Nat.le_of_ble_eq_true rfl, Nat.le_of_ble_eq_true rfl⟩


set_option maxHeartbeats 4000000 in
set_option maxRecDepth 100000 in
theorem tX3_known_xb (l : Launch) (D : va_G) (cI cZ cJ : ClassId) (h : Nat → Nat) (lev tm : Nat) (gn : Int32) (nL nC nE : Nat) (L B C E : Nat → Nat → Int32) (k : Nat) (hk : k < nC) (hL : nL ≤ 4) (hC : nC ≤ 24) (u : Int32) (hno : inB u 0 5 = false) (hl9 : l.stackTraces = false) (sa : Nat → Nat)  : ∀ sz : Nat, zMX l yX3_known wsX3_known ({ frames := 7, cells := 1, slots := 6, locals := 104 } : Room) D cI cZ cJ (wX cI cZ h lev tm gn nL nC nE L B C E) sz [.ref (h 0), .int (nI k), .int u] sa zIA := by
  intro sz
  refine z_headX (y := yX3_known) (av := [.ref (h 0), .int (nI k), .int u]) (w := (wX cI cZ h lev tm gn nL nC nE L B C E)) (cc := cX3_known) (maxL := 3) (ret := (some .int)) (by decide) rfl (Nat.le_of_ble_eq_true rfl) ?_
  intro p e s m below meth c ls A hat hX hT hP hD hS hl
  obtain ⟨hx, hb, hr, hml, hlocks, hts, hown, hin, hK, hE, hA⟩ := hat
  have hP : va_P D vwCl (wX cI cZ h lev tm gn nL nC nE L B C E) s.heap := hP
  have hD : va_D A (wX cI cZ h lev tm gn nL nC nE L B C E) := hD
  have hl : lv_has ls 3 [(0, .ref (h 0)), (1, .int (nI k)), (2, .int u)] := hl
  refine lv_aload_n hx hb dX3_known_0 rfl (lv_at hl 0 rfl) ?_
  refine lv_iload_n hx hb dX3_known_1 rfl (lv_at hl 1 rfl) ?_
  refine z_backvA (z_runVA (n := 1) (As := [.int (nI k)]) (ci := 4) (rest := []) hx hb hml hown hts hK hE hP hD (tX3_refuseNoCall_ok l D cI cZ cJ h lev tm gn nL nC nE L B C E k (by omega) (by omega) (by omega) _) gX3_known_X3_refuseNoCall rfl rfl rfl (by decide +kernel) ⟨Nat.le_of_ble_eq_true rfl, Nat.le_of_ble_eq_true rfl⟩ rfl rfl rfl hl.1 rfl (Nat.le_of_ble_eq_true rfl) dX3_known_2 ⟨Nat.zero_le _, Nat.zero_le _⟩) hD hS hA (fun w1 H locs hp1 hP hD hS => ?_)
  obtain rfl := hp1
  have hP : va_P D vwCl (wX cI cZ h lev tm gn nL nC nE L B C E) H := hP
  have hD : va_D A (wX cI cZ h lev tm gn nL nC nE L B C E) := hD
  refine lv_iload_n hx hb dX3_known_5 rfl (lv_at hl 2 rfl) ?_
  refine lv_iconst (v := 0) hx hb dX3_known_6 (by decide) ?_
  refine lv_iconst (v := 5) hx hb dX3_known_7 (by decide) ?_
  refine z_backX (z_runSX (n := 3) (As := [.int u, .int 0, .int 5]) (rest := []) hx hb hml hown hts hK hE hX hS hA (tX3_refuseOutside_x l D cI cZ cJ u 0 5 (hno) hl9 sa _) gX3_known_X3_refuseOutside rfl rfl rfl (by decide +kernel) ⟨Nat.le_of_ble_eq_true rfl, Nat.le_of_ble_eq_true rfl⟩ rfl hl.1 rfl (Nat.le_of_ble_eq_true rfl) dX3_known_8 ⟨Nat.le_of_ble_eq_true rfl, Nat.le_of_ble_eq_true rfl⟩) hP hD hS hA [] rfl rfl (fun ce q9 H locs hP hS hce hcv hcl => ?_)
  exact z_outX hT hlocks hP hS hce hcv hcl ⟨Nat.le_of_ble_eq_true rfl, Nat.le_of_ble_eq_true rfl⟩


set_option maxHeartbeats 4000000 in
set_option maxRecDepth 100000 in
theorem tX3_joins_xa (l : Launch) (D : va_G) (cI cZ cJ : ClassId) (h : Nat → Nat) (lev tm : Nat) (gn : Int32) (nL nC nE : Nat) (L B C E : Nat → Nat → Int32) (v v2 : Int32) (hno : inB v 0 (nI nC - 1) = false) (hL : nL ≤ 4) (hC : nC ≤ 24) (hl9 : l.stackTraces = false) (sa : Nat → Nat)  : ∀ sz : Nat, zMX l yX3_joins wsX3_joins ({ frames := 7, cells := 1, slots := 6, locals := 103 } : Room) D cI cZ cJ (wX cI cZ h lev tm gn nL nC nE L B C E) sz [.ref (h 0), .int v, .int v2] sa zNN := by
  intro sz
  refine z_headX (y := yX3_joins) (av := [.ref (h 0), .int v, .int v2]) (w := (wX cI cZ h lev tm gn nL nC nE L B C E)) (cc := cX3_joins) (maxL := 3) (ret := (some .boolean)) (by decide) rfl (Nat.le_of_ble_eq_true rfl) ?_
  intro p e s m below meth c ls A hat hX hT hP hD hS hl
  obtain ⟨hx, hb, hr, hml, hlocks, hts, hown, hin, hK, hE, hA⟩ := hat
  have hP : va_P D vwCl (wX cI cZ h lev tm gn nL nC nE L B C E) s.heap := hP
  have hD : va_D A (wX cI cZ h lev tm gn nL nC nE L B C E) := hD
  have hl : lv_has ls 3 [(0, .ref (h 0)), (1, .int v), (2, .int v2)] := hl
  refine lv_aload_n hx hb dX3_joins_0 rfl (lv_at hl 0 rfl) ?_
  refine lv_iload_n hx hb dX3_joins_1 rfl (lv_at hl 1 rfl) ?_
  refine z_backXA (z_runVX (n := 1) (As := [.int v]) (ci := 4) (rest := []) hx hb hml hown hts hK hE hX hS hA hP hD (tX3_refuseNoCall_x l D cI cZ cJ h lev tm gn nL nC nE L B C E v (hno) (by omega) (by omega) hl9 sa _) gX3_joins_X3_refuseNoCall rfl rfl rfl (by decide +kernel) ⟨Nat.le_of_ble_eq_true rfl, Nat.le_of_ble_eq_true rfl⟩ rfl rfl rfl hl.1 rfl (Nat.le_of_ble_eq_true rfl) dX3_joins_2 ⟨Nat.le_of_ble_eq_true rfl, Nat.le_of_ble_eq_true rfl⟩) hD hS hA (fun ce q9 H locs hP hS hce hcv hcl => ?_)
  exact z_outX hT hlocks hP hS hce hcv hcl ⟨Nat.le_of_ble_eq_true rfl, Nat.le_of_ble_eq_true rfl⟩


set_option maxHeartbeats 4000000 in
set_option maxRecDepth 100000 in
theorem tX3_joins_xb (l : Launch) (D : va_G) (cI cZ cJ : ClassId) (h : Nat → Nat) (lev tm : Nat) (gn : Int32) (nL nC nE : Nat) (L B C E : Nat → Nat → Int32) (k : Nat) (hk : k < nC) (hL : nL ≤ 4) (hC : nC ≤ 24) (v2 : Int32) (hno : inB v2 0 (nI nC - 1) = false) (hl9 : l.stackTraces = false) (sa : Nat → Nat)  : ∀ sz : Nat, zMX l yX3_joins wsX3_joins ({ frames := 7, cells := 1, slots := 6, locals := 103 } : Room) D cI cZ cJ (wX cI cZ h lev tm gn nL nC nE L B C E) sz [.ref (h 0), .int (nI k), .int v2] sa zNN := by
  intro sz
  refine z_headX (y := yX3_joins) (av := [.ref (h 0), .int (nI k), .int v2]) (w := (wX cI cZ h lev tm gn nL nC nE L B C E)) (cc := cX3_joins) (maxL := 3) (ret := (some .boolean)) (by decide) rfl (Nat.le_of_ble_eq_true rfl) ?_
  intro p e s m below meth c ls A hat hX hT hP hD hS hl
  obtain ⟨hx, hb, hr, hml, hlocks, hts, hown, hin, hK, hE, hA⟩ := hat
  have hP : va_P D vwCl (wX cI cZ h lev tm gn nL nC nE L B C E) s.heap := hP
  have hD : va_D A (wX cI cZ h lev tm gn nL nC nE L B C E) := hD
  have hl : lv_has ls 3 [(0, .ref (h 0)), (1, .int (nI k)), (2, .int v2)] := hl
  refine lv_aload_n hx hb dX3_joins_0 rfl (lv_at hl 0 rfl) ?_
  refine lv_iload_n hx hb dX3_joins_1 rfl (lv_at hl 1 rfl) ?_
  refine z_backvA (z_runVA (n := 1) (As := [.int (nI k)]) (ci := 4) (rest := []) hx hb hml hown hts hK hE hP hD (tX3_refuseNoCall_ok l D cI cZ cJ h lev tm gn nL nC nE L B C E k (by omega) (by omega) (by omega) _) gX3_joins_X3_refuseNoCall rfl rfl rfl (by decide +kernel) ⟨Nat.le_of_ble_eq_true rfl, Nat.le_of_ble_eq_true rfl⟩ rfl rfl rfl hl.1 rfl (Nat.le_of_ble_eq_true rfl) dX3_joins_2 ⟨Nat.zero_le _, Nat.zero_le _⟩) hD hS hA (fun w1 H locs hp1 hP hD hS => ?_)
  obtain rfl := hp1
  have hP : va_P D vwCl (wX cI cZ h lev tm gn nL nC nE L B C E) H := hP
  have hD : va_D A (wX cI cZ h lev tm gn nL nC nE L B C E) := hD
  refine lv_aload_n hx hb dX3_joins_5 rfl (lv_at hl 0 rfl) ?_
  refine lv_iload_n hx hb dX3_joins_6 rfl (lv_at hl 2 rfl) ?_
  refine z_backXA (z_runVX (n := 1) (As := [.int v2]) (ci := 4) (rest := []) hx hb hml hown hts hK hE hX hS hA hP hD (tX3_refuseNoCall_x l D cI cZ cJ h lev tm gn nL nC nE L B C E v2 (hno) (by omega) (by omega) hl9 sa _) gX3_joins_X3_refuseNoCall rfl rfl rfl (by decide +kernel) ⟨Nat.le_of_ble_eq_true rfl, Nat.le_of_ble_eq_true rfl⟩ rfl rfl rfl hl.1 rfl (Nat.le_of_ble_eq_true rfl) dX3_joins_7 ⟨Nat.le_of_ble_eq_true rfl, Nat.le_of_ble_eq_true rfl⟩) hD hS hA (fun ce q9 H locs hP hS hce hcv hcl => ?_)
  exact z_outX hT hlocks hP hS hce hcv hcl ⟨Nat.le_of_ble_eq_true rfl, Nat.le_of_ble_eq_true rfl⟩

set_option maxRecDepth 100000 in
theorem kX3_joins_xS : ∀ w ∈ (zWS).filter goodWord, w ∈ wsX3_joins := by decide +kernel
theorem kX3_joins_l145 : Cond.classLink RX3 145 zIS ∈ wsX3_joins := by decide +kernel
theorem kX3_joins_iXS : Cond.initialized zIS ∈ wsX3_joins := by decide +kernel
set_option maxHeartbeats 4000000 in
set_option maxRecDepth 100000 in
theorem tX3_joins_xc (l : Launch) (D : va_G) (cI cZ cJ : ClassId) (h : Nat → Nat) (lev tm : Nat) (gn : Int32) (nL nC nE : Nat) (L B C E : Nat → Nat → Int32) (k k2 : Nat) (hk : k < nC) (hk2 : k2 < nC) (hL : nL ≤ 4) (hC : nC ≤ 24) (hno : ¬ (C 4 k = 0 ∧ C 4 k2 = 0)) (hl9 : l.stackTraces = false) (sa : Nat → Nat)  : ∀ sz : Nat, zMX l yX3_joins wsX3_joins ({ frames := 7, cells := 1, slots := 6, locals := 103 } : Room) D cI cZ cJ (wX cI cZ h lev tm gn nL nC nE L B C E) sz [.ref (h 0), .int (nI k), .int (nI k2)] sa zIS := by
  intro sz
  refine z_headX (y := yX3_joins) (av := [.ref (h 0), .int (nI k), .int (nI k2)]) (w := (wX cI cZ h lev tm gn nL nC nE L B C E)) (cc := cX3_joins) (maxL := 3) (ret := (some .boolean)) (by decide) rfl (Nat.le_of_ble_eq_true rfl) ?_
  intro p e s m below meth c ls A hat hX hT hP hD hS hl
  obtain ⟨hx, hb, hr, hml, hlocks, hts, hown, hin, hK, hE, hA⟩ := hat
  have hP : va_P D vwCl (wX cI cZ h lev tm gn nL nC nE L B C E) s.heap := hP
  have hD : va_D A (wX cI cZ h lev tm gn nL nC nE L B C E) := hD
  have hl : lv_has ls 3 [(0, .ref (h 0)), (1, .int (nI k)), (2, .int (nI k2))] := hl
  refine lv_aload_n hx hb dX3_joins_0 rfl (lv_at hl 0 rfl) ?_
  refine lv_iload_n hx hb dX3_joins_1 rfl (lv_at hl 1 rfl) ?_
  refine z_backvA (z_runVA (n := 1) (As := [.int (nI k)]) (ci := 4) (rest := []) hx hb hml hown hts hK hE hP hD (tX3_refuseNoCall_ok l D cI cZ cJ h lev tm gn nL nC nE L B C E k (by omega) (by omega) (by omega) _) gX3_joins_X3_refuseNoCall rfl rfl rfl (by decide +kernel) ⟨Nat.le_of_ble_eq_true rfl, Nat.le_of_ble_eq_true rfl⟩ rfl rfl rfl hl.1 rfl (Nat.le_of_ble_eq_true rfl) dX3_joins_2 ⟨Nat.zero_le _, Nat.zero_le _⟩) hD hS hA (fun w1 H locs hp1 hP hD hS => ?_)
  obtain rfl := hp1
  have hP : va_P D vwCl (wX cI cZ h lev tm gn nL nC nE L B C E) H := hP
  have hD : va_D A (wX cI cZ h lev tm gn nL nC nE L B C E) := hD
  refine lv_aload_n hx hb dX3_joins_5 rfl (lv_at hl 0 rfl) ?_
  refine lv_iload_n hx hb dX3_joins_6 rfl (lv_at hl 2 rfl) ?_
  refine z_backvA (z_runVA (n := 1) (As := [.int (nI k2)]) (ci := 4) (rest := []) hx hb hml hown hts hK hE hP hD (tX3_refuseNoCall_ok l D cI cZ cJ h lev tm gn nL nC nE L B C E k2 (by omega) (by omega) (by omega) _) gX3_joins_X3_refuseNoCall rfl rfl rfl (by decide +kernel) ⟨Nat.le_of_ble_eq_true rfl, Nat.le_of_ble_eq_true rfl⟩ rfl rfl rfl hl.1 rfl (Nat.le_of_ble_eq_true rfl) dX3_joins_7 ⟨Nat.zero_le _, Nat.zero_le _⟩) hD hS hA (fun w1 H locs hp2 hP hD hS => ?_)
  obtain rfl := hp2
  have hP : va_P D vwCl (wX cI cZ h lev tm gn nL nC nE L B C E) H := hP
  have hD : va_D A (wX cI cZ h lev tm gn nL nC nE L B C E) := hD
  refine lv_aload_n hx hb dX3_joins_10 rfl (lv_at hl 0 rfl) ?_
  refine va_get (D := D) (ci := 4) (v := .ref (h 9)) (C := RX3) (T := TX3) (N := 5) hx hb hts kX3_joins_inX3 hown hK hP 0 rfl rfl 2 (by decide) (hts _ kX3_joins_f32) (fun _ h9 => h9) rfl dX3_joins_11 ?_
  refine va_getN (D := D) (ci := 1) (v := .ref (h 14)) (C := RX0) (T := TX0) (N := 10) hx hb hts kX3_joins_inX0 hown hK hP 9 rfl rfl 4 (by decide) (va_Nw.use rfl (hE _ zl_RX3_159)) (fun _ h9 => h9) rfl dX3_joins_14 ?_
  refine lv_iload_n hx hb dX3_joins_17 rfl (lv_at hl 1 rfl) ?_
  refine z_iald (k := k) (v := C 4 k) hx hb hK hP 14 rfl (by decide) (by omega) (rfl) dX3_joins_18 ?_
  refine lv_if_ne (x := C 4 k) (tgt := 34) hx hb dX3_joins_19 (by decide) (fun c19 => ?_) (fun c19 => ?_)
  · skip
    exact z_thrS (cls := zIS) (names := zRE) (ik := 145) (ic := 149) (text := "one of them is not waiting") (is := 180) (by decide +kernel) (by decide +kernel) zS_good zS_bad hx hb hl9 hown hts kX3_joins_l145 kX3_joins_iXS kX3_joins_xS hX (by decide) hT hP hS (hl.1.trans hml.symm) dX3_joins_34 dX3_joins_37 dX3_joins_38 dX3_joins_40 dX3_joins_43 (Nat.le_of_ble_eq_true rfl) (Nat.le_of_ble_eq_true rfl) ⟨Nat.le_of_ble_eq_true rfl, Nat.le_of_ble_eq_true rfl⟩ hlocks ⟨Nat.le_of_ble_eq_true rfl, Nat.le_of_ble_eq_true rfl⟩
  · skip
    refine lv_aload_n hx hb dX3_joins_22 rfl (lv_at hl 0 rfl) ?_
    refine va_get (D := D) (ci := 4) (v := .ref (h 9)) (C := RX3) (T := TX3) (N := 5) hx hb hts kX3_joins_inX3 hown hK hP 0 rfl rfl 2 (by decide) (hts _ kX3_joins_f32) (fun _ h9 => h9) rfl dX3_joins_23 ?_
    refine va_getN (D := D) (ci := 1) (v := .ref (h 14)) (C := RX0) (T := TX0) (N := 10) hx hb hts kX3_joins_inX0 hown hK hP 9 rfl rfl 4 (by decide) (va_Nw.use rfl (hE _ zl_RX3_159)) (fun _ h9 => h9) rfl dX3_joins_26 ?_
    refine lv_iload_n hx hb dX3_joins_29 rfl (lv_at hl 2 rfl) ?_
    refine z_iald (k := k2) (v := C 4 k2) hx hb hK hP 14 rfl (by decide) (by omega) (rfl) dX3_joins_30 ?_
    refine lv_if_eq (x := C 4 k2) (tgt := 44) hx hb dX3_joins_31 (by decide) (fun c31 => ?_) (fun c31 => ?_)
    · exact absurd ⟨c19, c31⟩ hno
    · skip
      exact z_thrS (cls := zIS) (names := zRE) (ik := 145) (ic := 149) (text := "one of them is not waiting") (is := 180) (by decide +kernel) (by decide +kernel) zS_good zS_bad hx hb hl9 hown hts kX3_joins_l145 kX3_joins_iXS kX3_joins_xS hX (by decide) hT hP hS (hl.1.trans hml.symm) dX3_joins_34 dX3_joins_37 dX3_joins_38 dX3_joins_40 dX3_joins_43 (Nat.le_of_ble_eq_true rfl) (Nat.le_of_ble_eq_true rfl) ⟨Nat.le_of_ble_eq_true rfl, Nat.le_of_ble_eq_true rfl⟩ hlocks ⟨Nat.le_of_ble_eq_true rfl, Nat.le_of_ble_eq_true rfl⟩
