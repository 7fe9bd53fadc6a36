
set_option maxHeartbeats 4000000 in
set_option maxRecDepth 100000 in
theorem tX3_refuseOutside_ok (l : Launch) (D : va_G) (cI cZ cJ : ClassId) (v lo hi : Int32) (hok : inB v lo hi = true) : ∀ sz : Nat, zMv l yX3_refuseOutside wsX3_refuseOutside ({ frames := 0, cells := 0, slots := 0, locals := 0 } : Room) D cI cZ cJ ([]) sz [.int v, .int lo, .int hi] (fun w' => w' = []) := by
  intro sz
  refine z_head (y := yX3_refuseOutside) (av := [.int v, .int lo, .int hi]) (w := ([])) (Qc := fun A => zQv D ([]) (fun w' => w' = []) A) (cc := cX3_refuseOutside) (maxL := 3) (ret := none) (by decide) rfl (Nat.le_of_ble_eq_true rfl) ?_
  intro p e s m below meth c ls A hat hP hD hS hl
  obtain ⟨hx, hb, hr, hml, hlocks, hts, hown, hin, hK, hE, hA⟩ := hat
  have hP : va_P D vwCl [] s.heap := hP
  have hD : va_D A [] := hD
  have hl : lv_has ls 3 [(0, .int v), (1, .int lo), (2, .int hi)] := hl
  have hok := inB_t hok
  refine lv_iload_n hx hb dX3_refuseOutside_0 rfl (lv_at hl 0 rfl) ?_
  refine lv_iload_n hx hb dX3_refuseOutside_1 rfl (lv_at hl 1 rfl) ?_
  refine lv_icmp_lt (x := v) (y := lo) (tgt := 10) hx hb dX3_refuseOutside_2 (by decide) (fun c2 => ?_) (fun c2 => ?_)
  · exact absurd c2 hok.1
  · skip
    refine lv_iload_n hx hb dX3_refuseOutside_5 rfl (lv_at hl 0 rfl) ?_
    refine lv_iload_n hx hb dX3_refuseOutside_6 rfl (lv_at hl 2 rfl) ?_
    refine lv_icmp_le (x := v) (y := hi) (tgt := 20) hx hb dX3_refuseOutside_7 (by decide) (fun c7 => ?_) (fun c7 => ?_)
    · skip
      exact z_vret hx hb hr hlocks hS hP rfl dX3_refuseOutside_20 (rfl)
    · exact absurd hok.2 c7


set_option maxHeartbeats 4000000 in
set_option maxRecDepth 100000 in
theorem tX3_refuseUnchanged_ok (l : Launch) (D : va_G) (cI cZ cJ : ClassId) (x y : Int32) (hok : ¬ x = y) : ∀ sz : Nat, zMv l yX3_refuseUnchanged wsX3_refuseUnchanged ({ frames := 0, cells := 0, slots := 0, locals := 0 } : Room) D cI cZ cJ ([]) sz [.int x, .int y] (fun w' => w' = []) := by
  intro sz
  refine z_head (y := yX3_refuseUnchanged) (av := [.int x, .int y]) (w := ([])) (Qc := fun A => zQv D ([]) (fun w' => w' = []) A) (cc := cX3_refuseUnchanged) (maxL := 2) (ret := none) (by decide) rfl (Nat.le_of_ble_eq_true rfl) ?_
  intro p e s m below meth c ls A hat hP hD hS hl
  obtain ⟨hx, hb, hr, hml, hlocks, hts, hown, hin, hK, hE, hA⟩ := hat
  have hP : va_P D vwCl [] s.heap := hP
  have hD : va_D A [] := hD
  have hl : lv_has ls 2 [(0, .int x), (1, .int y)] := hl
  refine lv_iload_n hx hb dX3_refuseUnchanged_0 rfl (lv_at hl 0 rfl) ?_
  refine lv_iload_n hx hb dX3_refuseUnchanged_1 rfl (lv_at hl 1 rfl) ?_
  refine lv_icmp_ne (x := x) (y := y) (tgt := 15) hx hb dX3_refuseUnchanged_2 (by decide) (fun c2 => ?_) (fun c2 => ?_)
  · skip
    exact z_vret hx hb hr hlocks hS hP rfl dX3_refuseUnchanged_15 (rfl)
  · exact absurd c2 hok


set_option maxHeartbeats 4000000 in
set_option maxRecDepth 100000 in
theorem tX3_asNumber_x (l : Launch) (D : va_G) (cI cZ cJ : ClassId) (x : Int32) : ∀ sz : Nat, zMi l yX3_asNumber wsX3_asNumber ({ frames := 0, cells := 0, slots := 0, locals := 0 } : Room) D cI cZ cJ ([]) sz [.int x] (fun r w' => r = b1I x ∧ w' = []) := by
  intro sz
  refine z_head (y := yX3_asNumber) (av := [.int x]) (w := ([])) (Qc := fun A => zQi D ([]) (fun r w' => r = b1I x ∧ w' = []) A) (cc := cX3_asNumber) (maxL := 1) (ret := (some .int)) (by decide) rfl (Nat.le_of_ble_eq_true rfl) ?_
  intro p e s m below meth c ls A hat hP hD hS hl
  obtain ⟨hx, hb, hr, hml, hlocks, hts, hown, hin, hK, hE, hA⟩ := hat
  have hP : va_P D vwCl [] s.heap := hP
  have hD : va_D A [] := hD
  have hl : lv_has ls 1 [(0, .int x)] := hl
  refine lv_iload_n hx hb dX3_asNumber_0 rfl (lv_at hl 0 rfl) ?_
  refine lv_if_eq (x := x) (tgt := 8) hx hb dX3_asNumber_1 (by decide) (fun c1 => ?_) (fun c1 => ?_)
  · skip
    refine lv_iconst (v := 0) hx hb dX3_asNumber_8 (by decide) ?_
    exact z_iret hx hb hr hlocks hS hP rfl dX3_asNumber_9 (⟨by simp [b1I, c1], rfl⟩)
  · skip
    refine lv_iconst (v := 1) hx hb dX3_asNumber_4 (by decide) ?_
    refine lv_goto (tgt := 9) hx hb dX3_asNumber_5 (by decide) ?_
    exact z_iret hx hb hr hlocks hS hP rfl dX3_asNumber_9 (⟨by simp [b1I, c1], rfl⟩)

theorem kX3_refuseNoLift_inX3 : ∀ w ∈ wsX30, w ∈ wsX3_refuseNoLift := by decide +kernel
theorem kX3_refuseNoLift_f25 : Cond.fieldLink RX3 25 "LiftRows2" "lifts" "LLiftRows2$Lifts;" ∈ wsX3_refuseNoLift := by decide +kernel
theorem kX3_refuseNoLift_inX2 : ∀ w ∈ wsX20, w ∈ wsX3_refuseNoLift := by decide +kernel
set_option maxHeartbeats 4000000 in
set_option maxRecDepth 100000 in
theorem tX3_refuseNoLift_ok (l : Launch) (D : va_G) (cI cZ cJ : ClassId) (h : Nat → Nat) (lev tm : Nat) (gn : Int32) (nL nC nE : Nat) (L B C E : Nat → Nat → Int32) (k : Nat) (hk : k < nL) (hL : nL ≤ 4) (hC : nC ≤ 24)  : ∀ sz : Nat, zMv l yX3_refuseNoLift wsX3_refuseNoLift ({ frames := 0, cells := 0, slots := 0, locals := 0 } : Room) D cI cZ cJ (wX cI cZ h lev tm gn nL nC nE L B C E) sz [.ref (h 0), .int (nI k)] (fun w' => w' = wX cI cZ h lev tm gn nL nC nE L B C E) := by
  intro sz
  refine z_head (y := yX3_refuseNoLift) (av := [.ref (h 0), .int (nI k)]) (w := (wX cI cZ h lev tm gn nL nC nE L B C E)) (Qc := fun A => zQv D (wX cI cZ h lev tm gn nL nC nE L B C E) (fun w' => w' = wX cI cZ h lev tm gn nL nC nE L B C E) A) (cc := cX3_refuseNoLift) (maxL := 2) (ret := none) (by decide) rfl (Nat.le_of_ble_eq_true rfl) ?_
  intro p e s m below meth c ls A hat hP hD hS hl
  obtain ⟨hx, hb, hr, hml, hlocks, hts, hown, hin, hK, hE, hA⟩ := hat
  have hP : va_P D vwCl (wX cI cZ h lev tm gn nL nC nE L B C E) s.heap := hP
  have hD : va_D A (wX cI cZ h lev tm gn nL nC nE L B C E) := hD
  have hl : lv_has ls 2 [(0, .ref (h 0)), (1, .int (nI k))] := hl
  refine lv_iload_n hx hb dX3_refuseNoLift_0 rfl (lv_at hl 1 rfl) ?_
  refine lv_if_lt (x := nI k) (tgt := 15) hx hb dX3_refuseNoLift_1 (by decide) (fun c1 => ?_) (fun c1 => ?_)
  · exact absurd c1 (nI_pos (by omega))
  · skip
    refine lv_iload_n hx hb dX3_refuseNoLift_4 rfl (lv_at hl 1 rfl) ?_
    refine lv_aload_n hx hb dX3_refuseNoLift_5 rfl (lv_at hl 0 rfl) ?_
    refine va_get (D := D) (ci := 4) (v := .ref (h 1)) (C := RX3) (T := TX3) (N := 5) hx hb hts kX3_refuseNoLift_inX3 hown hK hP 0 rfl rfl 1 (by decide) (hts _ kX3_refuseNoLift_f25) (fun _ h9 => h9) rfl dX3_refuseNoLift_6 ?_
    refine va_getN (D := D) (ci := 3) (v := .int (nI nL)) (C := RX2) (T := TX2) (N := 9) hx hb hts kX3_refuseNoLift_inX2 hown hK hP 1 rfl rfl 7 (by decide) (va_Nw.use rfl (hE _ zl_RX3_50)) (fun _ h9 => h9) rfl dX3_refuseNoLift_9 ?_
    refine zn_lt (i := k) (j := nL) (tgt := 25) hx hb (by omega) (by omega) dX3_refuseNoLift_12 (by decide) (fun c12 => ?_) (fun c12 => ?_)
    · skip
      exact z_vret hx hb hr hlocks hS hP rfl dX3_refuseNoLift_25 (rfl)
    · exact absurd c12 (by omega)

theorem kX3_refuseNoCall_inX3 : ∀ w ∈ wsX30, w ∈ wsX3_refuseNoCall := by decide +kernel
theorem kX3_refuseNoCall_f32 : Cond.fieldLink RX3 32 "LiftRows2" "calls" "LLiftRows2$Calls;" ∈ wsX3_refuseNoCall := by decide +kernel
theorem kX3_refuseNoCall_inX0 : ∀ w ∈ wsX00, w ∈ wsX3_refuseNoCall := by decide +kernel
set_option maxHeartbeats 4000000 in
set_option maxRecDepth 100000 in
theorem tX3_refuseNoCall_ok (l : Launch) (D : va_G) (cI cZ cJ : ClassId) (h : Nat → Nat) (lev tm : Nat) (gn : Int32) (nL nC nE : Nat) (L B C E : Nat → Nat → Int32) (k : Nat) (hk : k < nC) (hL : nL ≤ 4) (hC : nC ≤ 24)  : ∀ sz : Nat, zMv l yX3_refuseNoCall wsX3_refuseNoCall ({ frames := 0, cells := 0, slots := 0, locals := 0 } : Room) D cI cZ cJ (wX cI cZ h lev tm gn nL nC nE L B C E) sz [.ref (h 0), .int (nI k)] (fun w' => w' = wX cI cZ h lev tm gn nL nC nE L B C E) := by
  intro sz
  refine z_head (y := yX3_refuseNoCall) (av := [.ref (h 0), .int (nI k)]) (w := (wX cI cZ h lev tm gn nL nC nE L B C E)) (Qc := fun A => zQv D (wX cI cZ h lev tm gn nL nC nE L B C E) (fun w' => w' = wX cI cZ h lev tm gn nL nC nE L B C E) A) (cc := cX3_refuseNoCall) (maxL := 2) (ret := none) (by decide) rfl (Nat.le_of_ble_eq_true rfl) ?_
  intro p e s m below meth c ls A hat hP hD hS hl
  obtain ⟨hx, hb, hr, hml, hlocks, hts, hown, hin, hK, hE, hA⟩ := hat
  have hP : va_P D vwCl (wX cI cZ h lev tm gn nL nC nE L B C E) s.heap := hP
  have hD : va_D A (wX cI cZ h lev tm gn nL nC nE L B C E) := hD
  have hl : lv_has ls 2 [(0, .ref (h 0)), (1, .int (nI k))] := hl
  refine lv_iload_n hx hb dX3_refuseNoCall_0 rfl (lv_at hl 1 rfl) ?_
  refine lv_if_lt (x := nI k) (tgt := 15) hx hb dX3_refuseNoCall_1 (by decide) (fun c1 => ?_) (fun c1 => ?_)
  · exact absurd c1 (nI_pos (by omega))
  · skip
    refine lv_iload_n hx hb dX3_refuseNoCall_4 rfl (lv_at hl 1 rfl) ?_
    refine lv_aload_n hx hb dX3_refuseNoCall_5 rfl (lv_at hl 0 rfl) ?_
    refine va_get (D := D) (ci := 4) (v := .ref (h 9)) (C := RX3) (T := TX3) (N := 5) hx hb hts kX3_refuseNoCall_inX3 hown hK hP 0 rfl rfl 2 (by decide) (hts _ kX3_refuseNoCall_f32) (fun _ h9 => h9) rfl dX3_refuseNoCall_6 ?_
    refine va_getN (D := D) (ci := 1) (v := .int (nI nC)) (C := RX0) (T := TX0) (N := 10) hx hb hts kX3_refuseNoCall_inX0 hown hK hP 9 rfl rfl 9 (by decide) (va_Nw.use rfl (hE _ zl_RX3_68)) (fun _ h9 => h9) rfl dX3_refuseNoCall_9 ?_
    refine zn_lt (i := k) (j := nC) (tgt := 25) hx hb (by omega) (by omega) dX3_refuseNoCall_12 (by decide) (fun c12 => ?_) (fun c12 => ?_)
    · skip
      exact z_vret hx hb hr hlocks hS hP rfl dX3_refuseNoCall_25 (rfl)
    · exact absurd c12 (by omega)

theorem kX3_lift_inX3 : ∀ w ∈ wsX30, w ∈ wsX3_lift := by decide +kernel
theorem kX3_lift_f18 : Cond.fieldLink RX3 18 "LiftRows2" "levels" "I" ∈ wsX3_lift := by decide +kernel
theorem kX3_lift_f25 : Cond.fieldLink RX3 25 "LiftRows2" "lifts" "LLiftRows2$Lifts;" ∈ wsX3_lift := by decide +kernel
theorem kX3_lift_inX2 : ∀ w ∈ wsX20, w ∈ wsX3_lift := by decide +kernel
theorem kX3_lift_iRX2 : Cond.initialized yX2_add.cls ∈ wsX3_lift := by decide +kernel
theorem kX3_lift_nX2_add : Cond.instanceMethod yX2_add ∈ wsX3_lift := by decide +kernel
theorem kX3_lift_eX2_add : Cond.selects RX2 yX2_add yX2_add ∈ wsX3_lift := by decide +kernel
set_option maxHeartbeats 4000000 in
set_option maxRecDepth 100000 in
theorem tX3_lift_ok (l : Launch) (D : va_G) (cI cZ cJ : ClassId) (h : Nat → Nat) (lev tm : Nat) (gn : Int32) (nL nC nE : Nat) (L B C E : Nat → Nat → Int32) (v u : Int32) (h1 : inB v 0 (nI lev - 1) = true) (h2 : inB u 1 50 = true) (h4 : nL < 4)  : ∀ sz : Nat, zMi l yX3_lift wsX3_lift ({ frames := 1, cells := 0, slots := 0, locals := 23 } : Room) D cI cZ cJ (wX cI cZ h lev tm gn nL nC nE L B C E) sz [.ref (h 0), .int v, .int u] (fun r w' => r = nI nL ∧ w' = wX cI cZ h lev tm gn (nL + 1) nC nE (upC (upC L 0 nL v) 1 nL u) B C E) := by
  intro sz
  refine z_head (y := yX3_lift) (av := [.ref (h 0), .int v, .int u]) (w := (wX cI cZ h lev tm gn nL nC nE L B C E)) (Qc := fun A => zQi D (wX cI cZ h lev tm gn nL nC nE L B C E) (fun r w' => r = nI nL ∧ w' = wX cI cZ h lev tm gn (nL + 1) nC nE (upC (upC L 0 nL v) 1 nL u) B C E) A) (cc := cX3_lift) (maxL := 3) (ret := (some .int)) (by decide) rfl (Nat.le_of_ble_eq_true rfl) ?_
  intro p e s m below meth c ls A hat hP hD hS hl
  obtain ⟨hx, hb, hr, hml, hlocks, hts, hown, hin, hK, hE, hA⟩ := hat
  have hP : va_P D vwCl (wX cI cZ h lev tm gn nL nC nE L B C E) s.heap := hP
  have hD : va_D A (wX cI cZ h lev tm gn nL nC nE L B C E) := hD
  have hl : lv_has ls 3 [(0, .ref (h 0)), (1, .int v), (2, .int u)] := hl
  refine lv_iload_n hx hb dX3_lift_0 rfl (lv_at hl 1 rfl) ?_
  refine lv_iconst (v := 0) hx hb dX3_lift_1 (by decide) ?_
  refine lv_aload_n hx hb dX3_lift_2 rfl (lv_at hl 0 rfl) ?_
  refine va_get (D := D) (ci := 4) (v := .int (nI lev)) (C := RX3) (T := TX3) (N := 5) hx hb hts kX3_lift_inX3 hown hK hP 0 rfl rfl 0 (by decide) (hts _ kX3_lift_f18) (fun _ h9 => h9) rfl dX3_lift_3 ?_
  refine lv_iconst (v := 1) hx hb dX3_lift_6 (by decide) ?_
  refine lv_isub (x := nI lev) (y := 1) hx hb dX3_lift_7 ?_
  refine z_backv (z_runS (n := 3) (As := [.int v, .int 0, .int ((nI lev) - 1)]) (rest := []) hx hb hml hown hts hK hE hP hD [] rfl (by decide) (tX3_refuseOutside_ok l D cI cZ cJ v 0 ((nI lev) - 1) (h1) _) gX3_lift_X3_refuseOutside rfl rfl rfl (by decide +kernel) ⟨Nat.le_of_ble_eq_true rfl, Nat.le_of_ble_eq_true rfl⟩ rfl hl.1 rfl (Nat.le_of_ble_eq_true rfl) dX3_lift_8 ⟨Nat.zero_le _, Nat.zero_le _⟩) hP hD hS hA [] rfl (fun w1 H locs hp1 hP hD hS => ?_)
  obtain rfl := hp1
  have hP : va_P D vwCl (wX cI cZ h lev tm gn nL nC nE L B C E) H := hP
  have hD : va_D A (wX cI cZ h lev tm gn nL nC nE L B C E) := hD
  refine lv_iload_n hx hb dX3_lift_11 rfl (lv_at hl 2 rfl) ?_
  refine lv_iconst (v := 1) hx hb dX3_lift_12 (by decide) ?_
  refine lv_bipush (v := 50) hx hb dX3_lift_13 (by decide) ?_
  refine z_backv (z_runS (n := 3) (As := [.int u, .int 1, .int 50]) (rest := []) hx hb hml hown hts hK hE hP hD [] rfl (by decide) (tX3_refuseOutside_ok l D cI cZ cJ u 1 50 (h2) _) gX3_lift_X3_refuseOutside rfl rfl rfl (by decide +kernel) ⟨Nat.le_of_ble_eq_true rfl, Nat.le_of_ble_eq_true rfl⟩ rfl hl.1 rfl (Nat.le_of_ble_eq_true rfl) dX3_lift_15 ⟨Nat.zero_le _, Nat.zero_le _⟩) hP hD hS hA [] rfl (fun w1 H locs hp2 hP hD hS => ?_)
  obtain rfl := hp2
  have hP : va_P D vwCl (wX cI cZ h lev tm gn nL nC nE L B C E) H := hP
  have hD : va_D A (wX cI cZ h lev tm gn nL nC nE L B C E) := hD
  refine lv_aload_n hx hb dX3_lift_18 rfl (lv_at hl 0 rfl) ?_
  refine va_get (D := D) (ci := 4) (v := .ref (h 1)) (C := RX3) (T := TX3) (N := 5) hx hb hts kX3_lift_inX3 hown hK hP 0 rfl rfl 1 (by decide) (hts _ kX3_lift_f25) (fun _ h9 => h9) rfl dX3_lift_19 ?_
  refine va_getN (D := D) (ci := 3) (v := .int (nI nL)) (C := RX2) (T := TX2) (N := 9) hx hb hts kX3_lift_inX2 hown hK hP 1 rfl rfl 7 (by decide) (va_Nw.use rfl (hE _ zl_RX3_50)) (fun _ h9 => h9) rfl dX3_lift_22 ?_
  refine lv_iconst (v := 4) hx hb dX3_lift_25 (by decide) ?_
  refine zn_lt (i := nL) (j := 4) (tgt := 39) hx hb (by omega) (by omega) dX3_lift_26 (by decide) (fun c26 => ?_) (fun c26 => ?_)
  · skip
    refine lv_aload_n hx hb dX3_lift_39 rfl (lv_at hl 0 rfl) ?_
    refine va_get (D := D) (ci := 4) (v := .ref (h 1)) (C := RX3) (T := TX3) (N := 5) hx hb hts kX3_lift_inX3 hown hK hP 0 rfl rfl 1 (by decide) (hts _ kX3_lift_f25) (fun _ h9 => h9) rfl dX3_lift_40 ?_
    refine lv_iload_n hx hb dX3_lift_43 rfl (lv_at hl 1 rfl) ?_
    refine lv_iload_n hx hb dX3_lift_44 rfl (lv_at hl 2 rfl) ?_
    refine z_backi (z_runVN (n := 2) (As := [.int v, .int u]) (ci := 3) (rest := []) hx hb hml hown hts hK hE hP hD [1, 2, 3, 4, 5, 6, 7, 8] rfl (by decide) (tX2_add l D cI cZ cJ (fun k => h (1 + k)) nL gn L B v u (by omega) _) gX3_lift_X2_add_n60 rfl rfl rfl zl_RX3_60 kX3_lift_iRX2 kX3_lift_nX2_add kX3_lift_eX2_add (by decide +kernel) ⟨Nat.le_of_ble_eq_true rfl, Nat.le_of_ble_eq_true rfl⟩ rfl rfl rfl hl.1 rfl (Nat.le_of_ble_eq_true rfl) dX3_lift_45 ⟨Nat.zero_le _, Nat.zero_le _⟩) hP hD hS hA [1, 2, 3, 4, 5, 6, 7, 8] rfl (fun r3 w1 H locs hp3 hP hD hS => ?_)
    obtain ⟨rfl, rfl⟩ := hp3
    have hP : va_P D vwCl (wX cI cZ h lev tm gn (nL + 1) nC nE (upC (upC L 0 nL v) 1 nL u) B C E) H := hP
    have hD : va_D A (wX cI cZ h lev tm gn (nL + 1) nC nE (upC (upC L 0 nL v) 1 nL u) B C E) := hD
    exact z_iret hx hb hr hlocks hS hP rfl dX3_lift_48 (⟨rfl, rfl⟩)
  · exact absurd c26 (by omega)

theorem kX3_call_inX3 : ∀ w ∈ wsX30, w ∈ wsX3_call := by decide +kernel
theorem kX3_call_f18 : Cond.fieldLink RX3 18 "LiftRows2" "levels" "I" ∈ wsX3_call := by decide +kernel
theorem kX3_call_f32 : Cond.fieldLink RX3 32 "LiftRows2" "calls" "LLiftRows2$Calls;" ∈ wsX3_call := by decide +kernel
theorem kX3_call_inX0 : ∀ w ∈ wsX00, w ∈ wsX3_call := by decide +kernel
theorem kX3_call_f43 : Cond.fieldLink RX3 43 "LiftRows2" "time" "I" ∈ wsX3_call := by decide +kernel
theorem kX3_call_iRX0 : Cond.initialized yX0_add.cls ∈ wsX3_call := by decide +kernel
theorem kX3_call_nX0_add : Cond.instanceMethod yX0_add ∈ wsX3_call := by decide +kernel
theorem kX3_call_eX0_add : Cond.selects RX0 yX0_add yX0_add ∈ wsX3_call := by decide +kernel
set_option maxHeartbeats 4000000 in
set_option maxRecDepth 100000 in
theorem tX3_call_ok (l : Launch) (D : va_G) (cI cZ cJ : ClassId) (h : Nat → Nat) (lev tm : Nat) (gn : Int32) (nL nC nE : Nat) (L B C E : Nat → Nat → Int32) (a b rk q : Int32) (h1 : inB a 0 (nI lev - 1) = true) (h2 : inB b 0 (nI lev - 1) = true) (h3 : ¬ a = b) (h4 : inB rk 1 3 = true) (h5 : inB q 1 50 = true) (h6 : nC < 24) (hL : nL ≤ 4)  : ∀ sz : Nat, zMi l yX3_call wsX3_call ({ frames := 2, cells := 0, slots := 0, locals := 48 } : Room) D cI cZ cJ (wX cI cZ h lev tm gn nL nC nE L B C E) sz [.ref (h 0), .int a, .int b, .int rk, .int q] (fun r w' => r = nI nC ∧ w' = wX cI cZ h lev tm gn nL (nC + 1) nE L B (upC (addC C nC a b rk q (nI tm)) 5 nC (nlF L B a q nL).1) E) := by
  intro sz
  refine z_head (y := yX3_call) (av := [.ref (h 0), .int a, .int b, .int rk, .int q]) (w := (wX cI cZ h lev tm gn nL nC nE L B C E)) (Qc := fun A => zQi D (wX cI cZ h lev tm gn nL nC nE L B C E) (fun r w' => r = nI nC ∧ w' = wX cI cZ h lev tm gn nL (nC + 1) nE L B (upC (addC C nC a b rk q (nI tm)) 5 nC (nlF L B a q nL).1) E) A) (cc := cX3_call) (maxL := 6) (ret := (some .int)) (by decide) rfl (Nat.le_of_ble_eq_true rfl) ?_
  intro p e s m below meth c ls A hat hP hD hS hl
  obtain ⟨hx, hb, hr, hml, hlocks, hts, hown, hin, hK, hE, hA⟩ := hat
  have hP : va_P D vwCl (wX cI cZ h lev tm gn nL nC nE L B C E) s.heap := hP
  have hD : va_D A (wX cI cZ h lev tm gn nL nC nE L B C E) := hD
  have hl : lv_has ls 6 [(0, .ref (h 0)), (1, .int a), (2, .int b), (3, .int rk), (4, .int q)] := hl
  refine lv_iload_n hx hb dX3_call_0 rfl (lv_at hl 1 rfl) ?_
  refine lv_iconst (v := 0) hx hb dX3_call_1 (by decide) ?_
  refine lv_aload_n hx hb dX3_call_2 rfl (lv_at hl 0 rfl) ?_
  refine va_get (D := D) (ci := 4) (v := .int (nI lev)) (C := RX3) (T := TX3) (N := 5) hx hb hts kX3_call_inX3 hown hK hP 0 rfl rfl 0 (by decide) (hts _ kX3_call_f18) (fun _ h9 => h9) rfl dX3_call_3 ?_
  refine lv_iconst (v := 1) hx hb dX3_call_6 (by decide) ?_
  refine lv_isub (x := nI lev) (y := 1) hx hb dX3_call_7 ?_
  refine z_backv (z_runS (n := 3) (As := [.int a, .int 0, .int ((nI lev) - 1)]) (rest := []) hx hb hml hown hts hK hE hP hD [] rfl (by decide) (tX3_refuseOutside_ok l D cI cZ cJ a 0 ((nI lev) - 1) (h1) _) gX3_call_X3_refuseOutside rfl rfl rfl (by decide +kernel) ⟨Nat.le_of_ble_eq_true rfl, Nat.le_of_ble_eq_true rfl⟩ rfl hl.1 rfl (Nat.le_of_ble_eq_true rfl) dX3_call_8 ⟨Nat.zero_le _, Nat.zero_le _⟩) hP hD hS hA [] rfl (fun w1 H locs hp1 hP hD hS => ?_)
  obtain rfl := hp1
  have hP : va_P D vwCl (wX cI cZ h lev tm gn nL nC nE L B C E) H := hP
  have hD : va_D A (wX cI cZ h lev tm gn nL nC nE L B C E) := hD
  refine lv_iload_n hx hb dX3_call_11 rfl (lv_at hl 2 rfl) ?_
  refine lv_iconst (v := 0) hx hb dX3_call_12 (by decide) ?_
  refine lv_aload_n hx hb dX3_call_13 rfl (lv_at hl 0 rfl) ?_
  refine va_get (D := D) (ci := 4) (v := .int (nI lev)) (C := RX3) (T := TX3) (N := 5) hx hb hts kX3_call_inX3 hown hK hP 0 rfl rfl 0 (by decide) (hts _ kX3_call_f18) (fun _ h9 => h9) rfl dX3_call_14 ?_
  refine lv_iconst (v := 1) hx hb dX3_call_17 (by decide) ?_
  refine lv_isub (x := nI lev) (y := 1) hx hb dX3_call_18 ?_
  refine z_backv (z_runS (n := 3) (As := [.int b, .int 0, .int ((nI lev) - 1)]) (rest := []) hx hb hml hown hts hK hE hP hD [] rfl (by decide) (tX3_refuseOutside_ok l D cI cZ cJ b 0 ((nI lev) - 1) (h2) _) gX3_call_X3_refuseOutside rfl rfl rfl (by decide +kernel) ⟨Nat.le_of_ble_eq_true rfl, Nat.le_of_ble_eq_true rfl⟩ rfl hl.1 rfl (Nat.le_of_ble_eq_true rfl) dX3_call_19 ⟨Nat.zero_le _, Nat.zero_le _⟩) hP hD hS hA [] rfl (fun w1 H locs hp2 hP hD hS => ?_)
  obtain rfl := hp2
  have hP : va_P D vwCl (wX cI cZ h lev tm gn nL nC nE L B C E) H := hP
  have hD : va_D A (wX cI cZ h lev tm gn nL nC nE L B C E) := hD
  refine lv_iload_n hx hb dX3_call_22 rfl (lv_at hl 3 rfl) ?_
  refine lv_iconst (v := 1) hx hb dX3_call_23 (by decide) ?_
  refine lv_iconst (v := 3) hx hb dX3_call_24 (by decide) ?_
  refine z_backv (z_runS (n := 3) (As := [.int rk, .int 1, .int 3]) (rest := []) hx hb hml hown hts hK hE hP hD [] rfl (by decide) (tX3_refuseOutside_ok l D cI cZ cJ rk 1 3 (h4) _) gX3_call_X3_refuseOutside rfl rfl rfl (by decide +kernel) ⟨Nat.le_of_ble_eq_true rfl, Nat.le_of_ble_eq_true rfl⟩ rfl hl.1 rfl (Nat.le_of_ble_eq_true rfl) dX3_call_25 ⟨Nat.zero_le _, Nat.zero_le _⟩) hP hD hS hA [] rfl (fun w1 H locs hp3 hP hD hS => ?_)
  obtain rfl := hp3
  have hP : va_P D vwCl (wX cI cZ h lev tm gn nL nC nE L B C E) H := hP
  have hD : va_D A (wX cI cZ h lev tm gn nL nC nE L B C E) := hD
  refine lv_iload hx hb dX3_call_28 (lv_at hl 4 rfl) ?_
  refine lv_iconst (v := 1) hx hb dX3_call_30 (by decide) ?_
  refine lv_bipush (v := 50) hx hb dX3_call_31 (by decide) ?_
  refine z_backv (z_runS (n := 3) (As := [.int q, .int 1, .int 50]) (rest := []) hx hb hml hown hts hK hE hP hD [] rfl (by decide) (tX3_refuseOutside_ok l D cI cZ cJ q 1 50 (h5) _) gX3_call_X3_refuseOutside rfl rfl rfl (by decide +kernel) ⟨Nat.le_of_ble_eq_true rfl, Nat.le_of_ble_eq_true rfl⟩ rfl hl.1 rfl (Nat.le_of_ble_eq_true rfl) dX3_call_33 ⟨Nat.zero_le _, Nat.zero_le _⟩) hP hD hS hA [] rfl (fun w1 H locs hp4 hP hD hS => ?_)
  obtain rfl := hp4
  have hP : va_P D vwCl (wX cI cZ h lev tm gn nL nC nE L B C E) H := hP
  have hD : va_D A (wX cI cZ h lev tm gn nL nC nE L B C E) := hD
  refine lv_iload_n hx hb dX3_call_36 rfl (lv_at hl 1 rfl) ?_
  refine lv_iload_n hx hb dX3_call_37 rfl (lv_at hl 2 rfl) ?_
  refine lv_icmp_ne (x := a) (y := b) (tgt := 51) hx hb dX3_call_38 (by decide) (fun c38 => ?_) (fun c38 => ?_)
  · skip
    refine lv_aload_n hx hb dX3_call_51 rfl (lv_at hl 0 rfl) ?_
    refine va_get (D := D) (ci := 4) (v := .ref (h 9)) (C := RX3) (T := TX3) (N := 5) hx hb hts kX3_call_inX3 hown hK hP 0 rfl rfl 2 (by decide) (hts _ kX3_call_f32) (fun _ h9 => h9) rfl dX3_call_52 ?_
    refine va_getN (D := D) (ci := 1) (v := .int (nI nC)) (C := RX0) (T := TX0) (N := 10) hx hb hts kX3_call_inX0 hown hK hP 9 rfl rfl 9 (by decide) (va_Nw.use rfl (hE _ zl_RX3_68)) (fun _ h9 => h9) rfl dX3_call_55 ?_
    refine lv_bipush (v := 24) hx hb dX3_call_58 (by decide) ?_
    refine zn_lt (i := nC) (j := 24) (tgt := 73) hx hb (by omega) (by omega) dX3_call_60 (by decide) (fun c60 => ?_) (fun c60 => ?_)
    · skip
      refine lv_aload_n hx hb dX3_call_73 rfl (lv_at hl 0 rfl) ?_
      refine va_get (D := D) (ci := 4) (v := .ref (h 9)) (C := RX3) (T := TX3) (N := 5) hx hb hts kX3_call_inX3 hown hK hP 0 rfl rfl 2 (by decide) (hts _ kX3_call_f32) (fun _ h9 => h9) rfl dX3_call_74 ?_
      refine lv_iload_n hx hb dX3_call_77 rfl (lv_at hl 1 rfl) ?_
      refine lv_iload_n hx hb dX3_call_78 rfl (lv_at hl 2 rfl) ?_
      refine lv_iload_n hx hb dX3_call_79 rfl (lv_at hl 3 rfl) ?_
      refine lv_iload hx hb dX3_call_80 (lv_at hl 4 rfl) ?_
      refine lv_aload_n hx hb dX3_call_82 rfl (lv_at hl 0 rfl) ?_
      refine va_get (D := D) (ci := 4) (v := .int (nI tm)) (C := RX3) (T := TX3) (N := 5) hx hb hts kX3_call_inX3 hown hK hP 0 rfl rfl 4 (by decide) (hts _ kX3_call_f43) (fun _ h9 => h9) rfl dX3_call_83 ?_
      refine z_backi (z_runVN (n := 5) (As := [.int a, .int b, .int rk, .int q, .int (nI tm)]) (ci := 1) (rest := []) hx hb hml hown hts hK hE hP hD [9, 10, 11, 12, 13, 14, 15, 16, 17, 18] rfl (by decide) (tX0_add l D cI cZ cJ (fun k => h (9 + k)) nC C a b rk q (nI tm) (by omega) _) gX3_call_X0_add_n71 rfl rfl rfl zl_RX3_71 kX3_call_iRX0 kX3_call_nX0_add kX3_call_eX0_add (by decide +kernel) ⟨Nat.le_of_ble_eq_true rfl, Nat.le_of_ble_eq_true rfl⟩ rfl rfl rfl hl.1 rfl (Nat.le_of_ble_eq_true rfl) dX3_call_86 ⟨Nat.zero_le _, Nat.zero_le _⟩) hP hD hS hA [9, 10, 11, 12, 13, 14, 15, 16, 17, 18] rfl (fun r5 w1 H locs hp5 hP hD hS => ?_)
      obtain ⟨rfl, rfl⟩ := hp5
      have hP : va_P D vwCl (wX cI cZ h lev tm gn nL (nC + 1) nE L B (addC C nC a b rk q (nI tm)) E) H := hP
      have hD : va_D A (wX cI cZ h lev tm gn nL (nC + 1) nE L B (addC C nC a b rk q (nI tm)) E) := hD
      refine lv_istore (lv' := [(5, .int (nI nC)), (0, .ref (h 0)), (1, .int a), (2, .int b), (3, .int rk), (4, .int q)]) hx hb dX3_call_89 hl (by decide) rfl (fun ls hl => ?_)
      refine lv_aload_n hx hb dX3_call_91 rfl (lv_at hl 1 rfl) ?_
      refine va_get (D := D) (ci := 4) (v := .ref (h 9)) (C := RX3) (T := TX3) (N := 5) hx hb hts kX3_call_inX3 hown hK hP 0 rfl rfl 2 (by decide) (hts _ kX3_call_f32) (fun _ h9 => h9) rfl dX3_call_92 ?_
      refine va_getN (D := D) (ci := 1) (v := .ref (h 15)) (C := RX0) (T := TX0) (N := 10) hx hb hts kX3_call_inX0 hown hK hP 9 rfl rfl 5 (by decide) (va_Nw.use rfl (hE _ zl_RX3_74)) (fun _ h9 => h9) rfl dX3_call_95 ?_
      refine lv_iload hx hb dX3_call_98 (lv_at hl 0 rfl) ?_
      refine lv_aload_n hx hb dX3_call_100 rfl (lv_at hl 1 rfl) ?_
      refine lv_iload_n hx hb dX3_call_101 rfl (lv_at hl 2 rfl) ?_
      refine lv_iload hx hb dX3_call_102 (lv_at hl 5 rfl) ?_
      refine z_backiA (z_runVA (n := 2) (As := [.int a, .int q]) (ci := 4) (rest := [.int (nI nC), .ref (h 15)]) hx hb hml hown hts hK hE hP hD (tX3_nearestLift l D cI cZ cJ h lev tm gn nL (nC + 1) nE L B (addC C nC a b rk q (nI tm)) E a q (by omega) _) gX3_call_X3_nearestLift rfl rfl rfl (by decide +kernel) ⟨Nat.le_of_ble_eq_true rfl, Nat.le_of_ble_eq_true rfl⟩ rfl rfl rfl hl.1 rfl (Nat.le_of_ble_eq_true rfl) dX3_call_104 ⟨Nat.zero_le _, Nat.zero_le _⟩) hD hS hA (fun r6 w1 H locs hp6 hP hD hS => ?_)
      obtain ⟨rfl, rfl⟩ := hp6
      have hP : va_P D vwCl (wX cI cZ h lev tm gn nL (nC + 1) nE L B (addC C nC a b rk q (nI tm)) E) H := hP
      have hD : va_D A (wX cI cZ h lev tm gn nL (nC + 1) nE L B (addC C nC a b rk q (nI tm)) E) := hD
      refine z_iast (k := nC) (x := (nlF L B a q nL).1) hx hb hK hP hD hS 15 rfl (by decide) (by omega) dX3_call_107 (fun H locs hP hD hS => ?_)
      have hP : va_P D vwCl (wX cI cZ h lev tm gn nL (nC + 1) nE L B (upC (addC C nC a b rk q (nI tm)) 5 nC ((nlF L B a q nL).1)) E) H := hP
      have hD : va_D A (wX cI cZ h lev tm gn nL (nC + 1) nE L B (upC (addC C nC a b rk q (nI tm)) 5 nC ((nlF L B a q nL).1)) E) := hD
      refine lv_iload hx hb dX3_call_108 (lv_at hl 0 rfl) ?_
      exact z_iret hx hb hr hlocks hS hP rfl dX3_call_110 (⟨rfl, rfl⟩)
    · exact absurd c60 (by omega)
  · exact absurd c38 h3

theorem kX3_step_inX3 : ∀ w ∈ wsX30, w ∈ wsX3_step := by decide +kernel
theorem kX3_step_f39 : Cond.fieldLink RX3 39 "LiftRows2" "events" "LLiftRows2$Events;" ∈ wsX3_step := by decide +kernel
theorem kX3_step_inX1 : ∀ w ∈ wsX10, w ∈ wsX3_step := by decide +kernel
set_option maxHeartbeats 4000000 in
set_option maxRecDepth 100000 in
theorem tX3_step_ok (l : Launch) (D : va_G) (cI cZ cJ : ClassId) (h : Nat → Nat) (lev tm : Nat) (gn : Int32) (nL nC nE : Nat) (L B C E : Nat → Nat → Int32) (n : Nat) (hn : n ≤ 200) (hL : nL ≤ 4) (hC : nC ≤ 24) (hNE : nE ≤ 48)  : ∀ sz : Nat, zMi l yX3_step wsX3_step ({ frames := 6, cells := 0, slots := 0, locals := 136 } : Room) D cI cZ cJ (wX cI cZ h lev tm gn nL nC nE L B C E) sz [.ref (h 0), .int (nI n)] (fun r w' => r = nI (stpZ tm nL nC B (gn, nE, L, C, E) n).2.1 - nI nE ∧ w' = wZ cI cZ h lev (tm + n) nL nC B (stpZ tm nL nC B (gn, nE, L, C, E) n)) := by
  intro sz
  refine z_head (y := yX3_step) (av := [.ref (h 0), .int (nI n)]) (w := (wX cI cZ h lev tm gn nL nC nE L B C E)) (Qc := fun A => zQi D (wX cI cZ h lev tm gn nL nC nE L B C E) (fun r w' => r = nI (stpZ tm nL nC B (gn, nE, L, C, E) n).2.1 - nI nE ∧ w' = wZ cI cZ h lev (tm + n) nL nC B (stpZ tm nL nC B (gn, nE, L, C, E) n)) A) (cc := cX3_step) (maxL := 4) (ret := (some .int)) (by decide) rfl (Nat.le_of_ble_eq_true rfl) ?_
  intro p e s m below meth c ls A hat hP hD hS hl
  obtain ⟨hx, hb, hr, hml, hlocks, hts, hown, hin, hK, hE, hA⟩ := hat
  have hP : va_P D vwCl (wX cI cZ h lev tm gn nL nC nE L B C E) s.heap := hP
  have hD : va_D A (wX cI cZ h lev tm gn nL nC nE L B C E) := hD
  have hl : lv_has ls 4 [(0, .ref (h 0)), (1, .int (nI n))] := hl
  have L18 : ∀ (fu : Nat) (i : Nat) (gn1 : Int32) (ne : Nat) (L1 : Nat → Nat → Int32) (C1 : Nat → Nat → Int32) (E1 : Nat → Nat → Int32), i ≤ n → n + 1 ≤ i + fu → ((gn1, ne, L1, C1, E1) = stpZ tm nL nC B (gn, nE, L, C, E) i) → (ne ≤ 48) → ∀ (H : Heap) (locs : List Loc) (ls : Array Slot), lv_has ls 4 [(0, .ref (h 0)), (1, .int (nI n)), (2, .int (nI nE)), (3, .int (nI i))] → va_P D vwCl (wX cI cZ h lev (tm + i) gn1 nL nC ne L1 B C1 E1) H → va_D A (wX cI cZ h lev (tm + i) gn1 nL nC ne L1 B C1 E1) → va_S A s.heap H locs → W p l e ({ frames := 6, cells := 0, slots := 0, locals := 136 } : Room) s m ([.ref (h 0), .int (nI n)] : List Value).toArray below meth c H locs 0 0 (MQ below (zQi D (wX cI cZ h lev tm gn nL nC nE L B C E) (fun r w' => r = nI (stpZ tm nL nC B (gn, nE, L, C, E) n).2.1 - nI nE ∧ w' = wZ cI cZ h lev (tm + n) nL nC B (stpZ tm nL nC B (gn, nE, L, C, E) n)) A) ([.ref (h 0), .int (nI n)] : List Value).toArray s 0 0 A) (F0 m 18 ls []) := by
    intro fu
    induction fu with
    | zero =>
      intro i gn1 ne L1 C1 E1 h1 h2
      exact absurd h2 (by omega)
    | succ fu ih18 =>
      intro i gn1 ne L1 C1 E1 hle hfu ex hne H locs ls hl hP hD hS
      refine lv_iload_n hx hb dX3_step_18 rfl (lv_at hl 3 rfl) ?_
      refine lv_iload_n hx hb dX3_step_19 rfl (lv_at hl 1 rfl) ?_
      refine zn_ge (i := i) (j := n) (tgt := 33) hx hb (by omega) (by omega) dX3_step_20 (by decide) (fun c20 => ?_) (fun c20 => ?_)
      · skip
        refine lv_aload_n hx hb dX3_step_33 rfl (lv_at hl 0 rfl) ?_
        refine va_get (D := D) (ci := 4) (v := .ref (h 19)) (C := RX3) (T := TX3) (N := 5) hx hb hts kX3_step_inX3 hown hK hP 0 rfl rfl 3 (by decide) (hts _ kX3_step_f39) (fun _ h9 => h9) rfl dX3_step_34 ?_
        refine va_getN (D := D) (ci := 2) (v := .int (nI ne)) (C := RX1) (T := TX1) (N := 5) hx hb hts kX3_step_inX1 hown hK hP 19 rfl rfl 4 (by decide) (va_Nw.use rfl (hE _ zl_RX3_81)) (fun _ h9 => h9) rfl dX3_step_37 ?_
        refine lv_iload_n hx hb dX3_step_40 rfl (lv_at hl 2 rfl) ?_
        refine lv_isub (x := nI ne) (y := nI nE) hx hb dX3_step_41 ?_
        exact z_iret hx hb hr hlocks hS hP rfl dX3_step_42 (⟨by rw [← show i = n by omega, ← ex], by rw [← show i = n by omega, ← ex]⟩)
      · skip
        refine lv_aload_n hx hb dX3_step_23 rfl (lv_at hl 0 rfl) ?_
        refine z_backvA (z_runVA (n := 0) (As := []) (ci := 4) (rest := []) hx hb hml hown hts hK hE hP hD (tX3_passSecond l D cI cZ cJ h lev (tm + i) gn1 nL nC ne L1 B C1 E1 (by omega) (by omega) (by omega) _) gX3_step_X3_passSecond rfl rfl rfl (by decide +kernel) ⟨Nat.le_of_ble_eq_true rfl, Nat.le_of_ble_eq_true rfl⟩ rfl rfl rfl hl.1 rfl (Nat.le_of_ble_eq_true rfl) dX3_step_24 ⟨Nat.zero_le _, Nat.zero_le _⟩) hD hS hA (fun w1 H locs hp2 hP hD hS => ?_)
        obtain rfl := hp2
        generalize ez1 : secZ ((tm + i) + 1) nC B (gn1, ne, L1, C1, E1) nL = z1 at hP hD
        have hP : va_P D vwCl (wX cI cZ h lev ((tm + i) + 1) z1.1 nL nC z1.2.1 z1.2.2.1 B z1.2.2.2.1 z1.2.2.2.2) H := hP
        have hD : va_D A (wX cI cZ h lev ((tm + i) + 1) z1.1 nL nC z1.2.1 z1.2.2.1 B z1.2.2.2.1 z1.2.2.2.2) := hD
        refine lv_iinc (v := nI (i + 1)) (lv' := [(3, .int (nI (i + 1))), (0, .ref (h 0)), (1, .int (nI n)), (2, .int (nI nE))]) hx hb dX3_step_27 hl (k := 3) rfl (by rw [show Int32.ofInt 1 = nI 1 from rfl, nI_add]) (by decide) rfl (fun ls hl => ?_)
        refine lv_goto (tgt := 18) hx hb dX3_step_30 (by decide) ?_
        exact ih18 (i + 1) z1.1 z1.2.1 z1.2.2.1 z1.2.2.2.1 z1.2.2.2.2 (by omega) (by omega) (by rw [stpZ, ← ex, ez1]) (by rw [← ez1]; exact secZ_le hne) H locs ls (lv_sub hl [1, 2, 3, 0] rfl) hP hD hS
  refine lv_iload_n hx hb dX3_step_0 rfl (lv_at hl 1 rfl) ?_
  refine lv_iconst (v := 0) hx hb dX3_step_1 (by decide) ?_
  refine lv_sipush (v := 200) hx hb dX3_step_2 (by decide) ?_
  refine z_backv (z_runS (n := 3) (As := [.int (nI n), .int 0, .int 200]) (rest := []) hx hb hml hown hts hK hE hP hD [] rfl (by decide) (tX3_refuseOutside_ok l D cI cZ cJ (nI n) 0 200 (inB_ok (n := 201) (by omega) (by omega)) _) gX3_step_X3_refuseOutside rfl rfl rfl (by decide +kernel) ⟨Nat.le_of_ble_eq_true rfl, Nat.le_of_ble_eq_true rfl⟩ rfl hl.1 rfl (Nat.le_of_ble_eq_true rfl) dX3_step_5 ⟨Nat.zero_le _, Nat.zero_le _⟩) hP hD hS hA [] rfl (fun w1 H locs hp3 hP hD hS => ?_)
  obtain rfl := hp3
  have hP : va_P D vwCl (wX cI cZ h lev tm gn nL nC nE L B C E) H := hP
  have hD : va_D A (wX cI cZ h lev tm gn nL nC nE L B C E) := hD
  refine lv_aload_n hx hb dX3_step_8 rfl (lv_at hl 0 rfl) ?_
  refine va_get (D := D) (ci := 4) (v := .ref (h 19)) (C := RX3) (T := TX3) (N := 5) hx hb hts kX3_step_inX3 hown hK hP 0 rfl rfl 3 (by decide) (hts _ kX3_step_f39) (fun _ h9 => h9) rfl dX3_step_9 ?_
  refine va_getN (D := D) (ci := 2) (v := .int (nI nE)) (C := RX1) (T := TX1) (N := 5) hx hb hts kX3_step_inX1 hown hK hP 19 rfl rfl 4 (by decide) (va_Nw.use rfl (hE _ zl_RX3_81)) (fun _ h9 => h9) rfl dX3_step_12 ?_
  refine lv_istore_n (lv' := [(2, .int (nI nE)), (0, .ref (h 0)), (1, .int (nI n))]) hx hb dX3_step_15 rfl hl (by decide) rfl (fun ls hl => ?_)
  refine lv_iconst (v := 0) hx hb dX3_step_16 (by decide) ?_
  refine lv_istore_n (lv' := [(3, .int 0), (2, .int (nI nE)), (0, .ref (h 0)), (1, .int (nI n))]) hx hb dX3_step_17 rfl hl (by decide) rfl (fun ls hl => ?_)
  exact L18 (n + 1) 0 gn nE L C E (by omega) (by omega) (rfl) (hNE) H locs ls (lv_sub hl [2, 3, 1, 0] rfl) hP hD hS

theorem kX3_event_inX3 : ∀ w ∈ wsX30, w ∈ wsX3_event := by decide +kernel
theorem kX3_event_f39 : Cond.fieldLink RX3 39 "LiftRows2" "events" "LLiftRows2$Events;" ∈ wsX3_event := by decide +kernel
theorem kX3_event_inX1 : ∀ w ∈ wsX10, w ∈ wsX3_event := by decide +kernel
set_option maxHeartbeats 4000000 in
set_option maxRecDepth 100000 in
theorem tX3_event_ok (l : Launch) (D : va_G) (cI cZ cJ : ClassId) (h : Nat → Nat) (lev tm : Nat) (gn : Int32) (nL nC nE : Nat) (L B C E : Nat → Nat → Int32) (k : Nat) (hk : k < nE) (hNE : nE ≤ 48) (u : Int32) (h2 : inB u 0 3 = true)  : ∀ sz : Nat, zMi l yX3_event wsX3_event ({ frames := 1, cells := 0, slots := 0, locals := 22 } : Room) D cI cZ cJ (wX cI cZ h lev tm gn nL nC nE L B C E) sz [.ref (h 0), .int (nI k), .int u] (fun r w' => r = evX E k u ∧ w' = wX cI cZ h lev tm gn nL nC nE L B C E) := by
  intro sz
  refine z_head (y := yX3_event) (av := [.ref (h 0), .int (nI k), .int u]) (w := (wX cI cZ h lev tm gn nL nC nE L B C E)) (Qc := fun A => zQi D (wX cI cZ h lev tm gn nL nC nE L B C E) (fun r w' => r = evX E k u ∧ w' = wX cI cZ h lev tm gn nL nC nE L B C E) A) (cc := cX3_event) (maxL := 3) (ret := (some .int)) (by decide) rfl (Nat.le_of_ble_eq_true rfl) ?_
  intro p e s m below meth c ls A hat hP hD hS hl
  obtain ⟨hx, hb, hr, hml, hlocks, hts, hown, hin, hK, hE, hA⟩ := hat
  have hP : va_P D vwCl (wX cI cZ h lev tm gn nL nC nE L B C E) s.heap := hP
  have hD : va_D A (wX cI cZ h lev tm gn nL nC nE L B C E) := hD
  have hl : lv_has ls 3 [(0, .ref (h 0)), (1, .int (nI k)), (2, .int u)] := hl
  refine lv_iload_n hx hb dX3_event_0 rfl (lv_at hl 1 rfl) ?_
  refine lv_if_lt (x := nI k) (tgt := 15) hx hb dX3_event_1 (by decide) (fun c1 => ?_) (fun c1 => ?_)
  · exact absurd c1 (nI_pos (by omega))
  · skip
    refine lv_iload_n hx hb dX3_event_4 rfl (lv_at hl 1 rfl) ?_
    refine lv_aload_n hx hb dX3_event_5 rfl (lv_at hl 0 rfl) ?_
    refine va_get (D := D) (ci := 4) (v := .ref (h 19)) (C := RX3) (T := TX3) (N := 5) hx hb hts kX3_event_inX3 hown hK hP 0 rfl rfl 3 (by decide) (hts _ kX3_event_f39) (fun _ h9 => h9) rfl dX3_event_6 ?_
    refine va_getN (D := D) (ci := 2) (v := .int (nI nE)) (C := RX1) (T := TX1) (N := 5) hx hb hts kX3_event_inX1 hown hK hP 19 rfl rfl 4 (by decide) (va_Nw.use rfl (hE _ zl_RX3_81)) (fun _ h9 => h9) rfl dX3_event_9 ?_
    refine zn_lt (i := k) (j := nE) (tgt := 25) hx hb (by omega) (by omega) dX3_event_12 (by decide) (fun c12 => ?_) (fun c12 => ?_)
    · skip
      refine lv_iload_n hx hb dX3_event_25 rfl (lv_at hl 2 rfl) ?_
      refine lv_iconst (v := 0) hx hb dX3_event_26 (by decide) ?_
      refine lv_iconst (v := 3) hx hb dX3_event_27 (by decide) ?_
      refine z_backv (z_runS (n := 3) (As := [.int u, .int 0, .int 3]) (rest := []) hx hb hml hown hts hK hE hP hD [] rfl (by decide) (tX3_refuseOutside_ok l D cI cZ cJ u 0 3 (h2) _) gX3_event_X3_refuseOutside rfl rfl rfl (by decide +kernel) ⟨Nat.le_of_ble_eq_true rfl, Nat.le_of_ble_eq_true rfl⟩ rfl hl.1 rfl (Nat.le_of_ble_eq_true rfl) dX3_event_28 ⟨Nat.zero_le _, Nat.zero_le _⟩) hP hD hS hA [] rfl (fun w1 H locs hp1 hP hD hS => ?_)
      obtain rfl := hp1
      have hP : va_P D vwCl (wX cI cZ h lev tm gn nL nC nE L B C E) H := hP
      have hD : va_D A (wX cI cZ h lev tm gn nL nC nE L B C E) := hD
      refine lv_iload_n hx hb dX3_event_31 rfl (lv_at hl 2 rfl) ?_
      by_cases s32_0 : u = 0
      · refine z_top s32_0 ?_
        refine lv_tableIn (x := 0) (tgt := 60) hx hb dX3_event_32 (by decide) (by decide) rfl (by decide) ?_
        refine lv_aload_n hx hb dX3_event_60 rfl (lv_at hl 0 rfl) ?_
        refine va_get (D := D) (ci := 4) (v := .ref (h 19)) (C := RX3) (T := TX3) (N := 5) hx hb hts kX3_event_inX3 hown hK hP 0 rfl rfl 3 (by decide) (hts _ kX3_event_f39) (fun _ h9 => h9) rfl dX3_event_61 ?_
        refine va_getN (D := D) (ci := 2) (v := .ref (h 20)) (C := RX1) (T := TX1) (N := 5) hx hb hts kX3_event_inX1 hown hK hP 19 rfl rfl 0 (by decide) (va_Nw.use rfl (hE _ zl_RX3_90)) (fun _ h9 => h9) rfl dX3_event_64 ?_
        refine lv_iload_n hx hb dX3_event_67 rfl (lv_at hl 1 rfl) ?_
        refine z_iald (k := k) (v := E 0 k) hx hb hK hP 20 rfl (by decide) (by omega) (rfl) dX3_event_68 ?_
        exact z_iret hx hb hr hlocks hS hP rfl dX3_event_69 (⟨by simp [evX, c1, c12, s32_0], rfl⟩)
      by_cases s32_1 : u = 1
      · refine z_top s32_1 ?_
        refine lv_tableIn (x := 1) (tgt := 70) hx hb dX3_event_32 (by decide) (by decide) rfl (by decide) ?_
        refine lv_aload_n hx hb dX3_event_70 rfl (lv_at hl 0 rfl) ?_
        refine va_get (D := D) (ci := 4) (v := .ref (h 19)) (C := RX3) (T := TX3) (N := 5) hx hb hts kX3_event_inX3 hown hK hP 0 rfl rfl 3 (by decide) (hts _ kX3_event_f39) (fun _ h9 => h9) rfl dX3_event_71 ?_
        refine va_getN (D := D) (ci := 2) (v := .ref (h 21)) (C := RX1) (T := TX1) (N := 5) hx hb hts kX3_event_inX1 hown hK hP 19 rfl rfl 1 (by decide) (va_Nw.use rfl (hE _ zl_RX3_93)) (fun _ h9 => h9) rfl dX3_event_74 ?_
        refine lv_iload_n hx hb dX3_event_77 rfl (lv_at hl 1 rfl) ?_
        refine z_iald (k := k) (v := E 1 k) hx hb hK hP 21 rfl (by decide) (by omega) (rfl) dX3_event_78 ?_
        exact z_iret hx hb hr hlocks hS hP rfl dX3_event_79 (⟨by simp [evX, c1, c12, s32_0, s32_1], rfl⟩)
      by_cases s32_2 : u = 2
      · refine z_top s32_2 ?_
        refine lv_tableIn (x := 2) (tgt := 80) hx hb dX3_event_32 (by decide) (by decide) rfl (by decide) ?_
        refine lv_aload_n hx hb dX3_event_80 rfl (lv_at hl 0 rfl) ?_
        refine va_get (D := D) (ci := 4) (v := .ref (h 19)) (C := RX3) (T := TX3) (N := 5) hx hb hts kX3_event_inX3 hown hK hP 0 rfl rfl 3 (by decide) (hts _ kX3_event_f39) (fun _ h9 => h9) rfl dX3_event_81 ?_
        refine va_getN (D := D) (ci := 2) (v := .ref (h 22)) (C := RX1) (T := TX1) (N := 5) hx hb hts kX3_event_inX1 hown hK hP 19 rfl rfl 2 (by decide) (va_Nw.use rfl (hE _ zl_RX3_96)) (fun _ h9 => h9) rfl dX3_event_84 ?_
        refine lv_iload_n hx hb dX3_event_87 rfl (lv_at hl 1 rfl) ?_
        refine z_iald (k := k) (v := E 2 k) hx hb hK hP 22 rfl (by decide) (by omega) (rfl) dX3_event_88 ?_
        exact z_iret hx hb hr hlocks hS hP rfl dX3_event_89 (⟨by simp [evX, c1, c12, s32_0, s32_1, s32_2], rfl⟩)
      refine lv_tableOut (tgt := 90) hx hb dX3_event_32 (tsw_out (n := 2) (by decide) (fun j hj => by rcases (show j = 0 ∨ j = 1 ∨ j = 2 by omega) with rfl | rfl | rfl <;> assumption)) (by decide) ?_
      refine lv_aload_n hx hb dX3_event_90 rfl (lv_at hl 0 rfl) ?_
      refine va_get (D := D) (ci := 4) (v := .ref (h 19)) (C := RX3) (T := TX3) (N := 5) hx hb hts kX3_event_inX3 hown hK hP 0 rfl rfl 3 (by decide) (hts _ kX3_event_f39) (fun _ h9 => h9) rfl dX3_event_91 ?_
      refine va_getN (D := D) (ci := 2) (v := .ref (h 23)) (C := RX1) (T := TX1) (N := 5) hx hb hts kX3_event_inX1 hown hK hP 19 rfl rfl 3 (by decide) (va_Nw.use rfl (hE _ zl_RX3_99)) (fun _ h9 => h9) rfl dX3_event_94 ?_
      refine lv_iload_n hx hb dX3_event_97 rfl (lv_at hl 1 rfl) ?_
      refine z_iald (k := k) (v := E 3 k) hx hb hK hP 23 rfl (by decide) (by omega) (rfl) dX3_event_98 ?_
      exact z_iret hx hb hr hlocks hS hP rfl dX3_event_99 (⟨by simp [evX, c1, c12, s32_0, s32_1, s32_2], rfl⟩)
    · exact absurd c12 (by omega)

theorem kX3_level_inX3 : ∀ w ∈ wsX30, w ∈ wsX3_level := by decide +kernel
theorem kX3_level_f25 : Cond.fieldLink RX3 25 "LiftRows2" "lifts" "LLiftRows2$Lifts;" ∈ wsX3_level := by decide +kernel
theorem kX3_level_inX2 : ∀ w ∈ wsX20, w ∈ wsX3_level := by decide +kernel
set_option maxHeartbeats 4000000 in
set_option maxRecDepth 100000 in
theorem tX3_level_ok (l : Launch) (D : va_G) (cI cZ cJ : ClassId) (h : Nat → Nat) (lev tm : Nat) (gn : Int32) (nL nC nE : Nat) (L B C E : Nat → Nat → Int32) (k : Nat) (hk : k < nL) (hL : nL ≤ 4) (hC : nC ≤ 24)  : ∀ sz : Nat, zMi l yX3_level wsX3_level ({ frames := 1, cells := 0, slots := 0, locals := 21 } : Room) D cI cZ cJ (wX cI cZ h lev tm gn nL nC nE L B C E) sz [.ref (h 0), .int (nI k)] (fun r w' => r = L 0 k ∧ w' = wX cI cZ h lev tm gn nL nC nE L B C E) := by
  intro sz
  refine z_head (y := yX3_level) (av := [.ref (h 0), .int (nI k)]) (w := (wX cI cZ h lev tm gn nL nC nE L B C E)) (Qc := fun A => zQi D (wX cI cZ h lev tm gn nL nC nE L B C E) (fun r w' => r = L 0 k ∧ w' = wX cI cZ h lev tm gn nL nC nE L B C E) A) (cc := cX3_level) (maxL := 2) (ret := (some .int)) (by decide) rfl (Nat.le_of_ble_eq_true rfl) ?_
  intro p e s m below meth c ls A hat hP hD hS hl
  obtain ⟨hx, hb, hr, hml, hlocks, hts, hown, hin, hK, hE, hA⟩ := hat
  have hP : va_P D vwCl (wX cI cZ h lev tm gn nL nC nE L B C E) s.heap := hP
  have hD : va_D A (wX cI cZ h lev tm gn nL nC nE L B C E) := hD
  have hl : lv_has ls 2 [(0, .ref (h 0)), (1, .int (nI k))] := hl
  refine lv_iload_n hx hb dX3_level_0 rfl (lv_at hl 1 rfl) ?_
  refine lv_if_lt (x := nI k) (tgt := 9) hx hb dX3_level_1 (by decide) (fun c1 => ?_) (fun c1 => ?_)
  · exact absurd c1 (nI_pos (by omega))
  · skip
    refine lv_iload_n hx hb dX3_level_4 rfl (lv_at hl 1 rfl) ?_
    refine lv_iconst (v := 4) hx hb dX3_level_5 (by decide) ?_
    refine zn_lt (i := k) (j := 4) (tgt := 19) hx hb (by omega) (by omega) dX3_level_6 (by decide) (fun c6 => ?_) (fun c6 => ?_)
    · skip
      refine lv_aload_n hx hb dX3_level_19 rfl (lv_at hl 0 rfl) ?_
      refine lv_iload_n hx hb dX3_level_20 rfl (lv_at hl 1 rfl) ?_
      refine z_backvA (z_runVA (n := 1) (As := [.int (nI k)]) (ci := 4) (rest := []) hx hb hml hown hts hK hE hP hD (tX3_refuseNoLift_ok l D cI cZ cJ h lev tm gn nL nC nE L B C E k (by omega) (by omega) (by omega) _) gX3_level_X3_refuseNoLift rfl rfl rfl (by decide +kernel) ⟨Nat.le_of_ble_eq_true rfl, Nat.le_of_ble_eq_true rfl⟩ rfl rfl rfl hl.1 rfl (Nat.le_of_ble_eq_true rfl) dX3_level_21 ⟨Nat.zero_le _, Nat.zero_le _⟩) hD hS hA (fun w1 H locs hp1 hP hD hS => ?_)
      obtain rfl := hp1
      have hP : va_P D vwCl (wX cI cZ h lev tm gn nL nC nE L B C E) H := hP
      have hD : va_D A (wX cI cZ h lev tm gn nL nC nE L B C E) := hD
      refine lv_aload_n hx hb dX3_level_24 rfl (lv_at hl 0 rfl) ?_
      refine va_get (D := D) (ci := 4) (v := .ref (h 1)) (C := RX3) (T := TX3) (N := 5) hx hb hts kX3_level_inX3 hown hK hP 0 rfl rfl 1 (by decide) (hts _ kX3_level_f25) (fun _ h9 => h9) rfl dX3_level_25 ?_
      refine va_getN (D := D) (ci := 3) (v := .ref (h 2)) (C := RX2) (T := TX2) (N := 9) hx hb hts kX3_level_inX2 hown hK hP 1 rfl rfl 0 (by decide) (va_Nw.use rfl (hE _ zl_RX3_111)) (fun _ h9 => h9) rfl dX3_level_28 ?_
      refine lv_iload_n hx hb dX3_level_31 rfl (lv_at hl 1 rfl) ?_
      refine z_iald (k := k) (v := L 0 k) hx hb hK hP 2 rfl (by decide) (by omega) (rfl) dX3_level_32 ?_
      exact z_iret hx hb hr hlocks hS hP rfl dX3_level_33 (⟨rfl, rfl⟩)
    · exact absurd c6 (by omega)

theorem kX3_told_inX3 : ∀ w ∈ wsX30, w ∈ wsX3_told := by decide +kernel
theorem kX3_told_f32 : Cond.fieldLink RX3 32 "LiftRows2" "calls" "LLiftRows2$Calls;" ∈ wsX3_told := by decide +kernel
theorem kX3_told_iRX0 : Cond.initialized yX0_loadAboard.cls ∈ wsX3_told := by decide +kernel
theorem kX3_told_nX0_loadAboard : Cond.instanceMethod yX0_loadAboard ∈ wsX3_told := by decide +kernel
theorem kX3_told_eX0_loadAboard : Cond.selects RX0 yX0_loadAboard yX0_loadAboard ∈ wsX3_told := by decide +kernel
theorem kX3_told_f25 : Cond.fieldLink RX3 25 "LiftRows2" "lifts" "LLiftRows2$Lifts;" ∈ wsX3_told := by decide +kernel
theorem kX3_told_inX2 : ∀ w ∈ wsX20, w ∈ wsX3_told := by decide +kernel
theorem kX3_told_nX0_number : Cond.instanceMethod yX0_number ∈ wsX3_told := by decide +kernel
theorem kX3_told_eX0_number : Cond.selects RX0 yX0_number yX0_number ∈ wsX3_told := by decide +kernel
set_option maxHeartbeats 4000000 in
set_option maxRecDepth 100000 in
theorem tX3_told_ok (l : Launch) (D : va_G) (cI cZ cJ : ClassId) (h : Nat → Nat) (lev tm : Nat) (gn : Int32) (nL nC nE : Nat) (L B C E : Nat → Nat → Int32) (k : Nat) (hk : k < nL) (hL : nL ≤ 4) (hC : nC ≤ 24) (u : Int32) (h2 : inB u 0 7 = true)  : ∀ sz : Nat, zMi l yX3_told wsX3_told ({ frames := 3, cells := 0, slots := 0, locals := 69 } : Room) D cI cZ cJ (wX cI cZ h lev tm gn nL nC nE L B C E) sz [.ref (h 0), .int (nI k), .int u] (fun r w' => r = tdX L B C k nC u ∧ w' = wX cI cZ h lev tm gn nL nC nE L B C E) := by
  intro sz
  refine z_head (y := yX3_told) (av := [.ref (h 0), .int (nI k), .int u]) (w := (wX cI cZ h lev tm gn nL nC nE L B C E)) (Qc := fun A => zQi D (wX cI cZ h lev tm gn nL nC nE L B C E) (fun r w' => r = tdX L B C k nC u ∧ w' = wX cI cZ h lev tm gn nL nC nE L B C E) A) (cc := cX3_told) (maxL := 3) (ret := (some .int)) (by decide) rfl (Nat.le_of_ble_eq_true rfl) ?_
  intro p e s m below meth c ls A hat hP hD hS hl
  obtain ⟨hx, hb, hr, hml, hlocks, hts, hown, hin, hK, hE, hA⟩ := hat
  have hP : va_P D vwCl (wX cI cZ h lev tm gn nL nC nE L B C E) s.heap := hP
  have hD : va_D A (wX cI cZ h lev tm gn nL nC nE L B C E) := hD
  have hl : lv_has ls 3 [(0, .ref (h 0)), (1, .int (nI k)), (2, .int u)] := hl
  refine lv_aload_n hx hb dX3_told_0 rfl (lv_at hl 0 rfl) ?_
  refine lv_iload_n hx hb dX3_told_1 rfl (lv_at hl 1 rfl) ?_
  refine z_backvA (z_runVA (n := 1) (As := [.int (nI k)]) (ci := 4) (rest := []) hx hb hml hown hts hK hE hP hD (tX3_refuseNoLift_ok l D cI cZ cJ h lev tm gn nL nC nE L B C E k (by omega) (by omega) (by omega) _) gX3_told_X3_refuseNoLift rfl rfl rfl (by decide +kernel) ⟨Nat.le_of_ble_eq_true rfl, Nat.le_of_ble_eq_true rfl⟩ rfl rfl rfl hl.1 rfl (Nat.le_of_ble_eq_true rfl) dX3_told_2 ⟨Nat.zero_le _, Nat.zero_le _⟩) hD hS hA (fun w1 H locs hp1 hP hD hS => ?_)
  obtain rfl := hp1
  have hP : va_P D vwCl (wX cI cZ h lev tm gn nL nC nE L B C E) H := hP
  have hD : va_D A (wX cI cZ h lev tm gn nL nC nE L B C E) := hD
  refine lv_iload_n hx hb dX3_told_5 rfl (lv_at hl 2 rfl) ?_
  refine lv_iconst (v := 0) hx hb dX3_told_6 (by decide) ?_
  refine lv_bipush (v := 7) hx hb dX3_told_7 (by decide) ?_
  refine z_backv (z_runS (n := 3) (As := [.int u, .int 0, .int 7]) (rest := []) hx hb hml hown hts hK hE hP hD [] rfl (by decide) (tX3_refuseOutside_ok l D cI cZ cJ u 0 7 (h2) _) gX3_told_X3_refuseOutside rfl rfl rfl (by decide +kernel) ⟨Nat.le_of_ble_eq_true rfl, Nat.le_of_ble_eq_true rfl⟩ rfl hl.1 rfl (Nat.le_of_ble_eq_true rfl) dX3_told_9 ⟨Nat.zero_le _, Nat.zero_le _⟩) hP hD hS hA [] rfl (fun w1 H locs hp2 hP hD hS => ?_)
  obtain rfl := hp2
  have hP : va_P D vwCl (wX cI cZ h lev tm gn nL nC nE L B C E) H := hP
  have hD : va_D A (wX cI cZ h lev tm gn nL nC nE L B C E) := hD
  refine lv_iload_n hx hb dX3_told_12 rfl (lv_at hl 2 rfl) ?_
  by_cases s13_0 : u = 0
  · refine z_top s13_0 ?_
    refine lv_tableIn (x := 0) (tgt := 56) hx hb dX3_told_13 (by decide) (by decide) rfl (by decide) ?_
    refine lv_aload_n hx hb dX3_told_56 rfl (lv_at hl 0 rfl) ?_
    refine va_get (D := D) (ci := 4) (v := .ref (h 9)) (C := RX3) (T := TX3) (N := 5) hx hb hts kX3_told_inX3 hown hK hP 0 rfl rfl 2 (by decide) (hts _ kX3_told_f32) (fun _ h9 => h9) rfl dX3_told_57 ?_
    refine lv_iload_n hx hb dX3_told_60 rfl (lv_at hl 1 rfl) ?_
    refine z_backi (z_runVN (n := 1) (As := [.int (nI k)]) (ci := 1) (rest := []) hx hb hml hown hts hK hE hP hD [9, 10, 11, 12, 13, 14, 15, 16, 17, 18] rfl (by decide) (tX0_loadAboard l D cI cZ cJ (fun k => h (9 + k)) nC C (nI k) (by omega) _) gX3_told_X0_loadAboard_n114 rfl rfl rfl zl_RX3_114 kX3_told_iRX0 kX3_told_nX0_loadAboard kX3_told_eX0_loadAboard (by decide +kernel) ⟨Nat.le_of_ble_eq_true rfl, Nat.le_of_ble_eq_true rfl⟩ rfl rfl rfl hl.1 rfl (Nat.le_of_ble_eq_true rfl) dX3_told_61 ⟨Nat.zero_le _, Nat.zero_le _⟩) hP hD hS hA [9, 10, 11, 12, 13, 14, 15, 16, 17, 18] rfl (fun r3 w1 H locs hp3 hP hD hS => ?_)
    obtain ⟨rfl, rfl⟩ := hp3
    have hP : va_P D vwCl (wX cI cZ h lev tm gn nL nC nE L B C E) H := hP
    have hD : va_D A (wX cI cZ h lev tm gn nL nC nE L B C E) := hD
    exact z_iret hx hb hr hlocks hS hP rfl dX3_told_64 (⟨by simp [tdX, s13_0], rfl⟩)
  by_cases s13_1 : u = 1
  · refine z_top s13_1 ?_
    refine lv_tableIn (x := 1) (tgt := 65) hx hb dX3_told_13 (by decide) (by decide) rfl (by decide) ?_
    refine lv_aload_n hx hb dX3_told_65 rfl (lv_at hl 0 rfl) ?_
    refine va_get (D := D) (ci := 4) (v := .ref (h 1)) (C := RX3) (T := TX3) (N := 5) hx hb hts kX3_told_inX3 hown hK hP 0 rfl rfl 1 (by decide) (hts _ kX3_told_f25) (fun _ h9 => h9) rfl dX3_told_66 ?_
    refine va_getN (D := D) (ci := 3) (v := .ref (h 4)) (C := RX2) (T := TX2) (N := 9) hx hb hts kX3_told_inX2 hown hK hP 1 rfl rfl 2 (by decide) (va_Nw.use rfl (hE _ zl_RX3_118)) (fun _ h9 => h9) rfl dX3_told_69 ?_
    refine lv_iload_n hx hb dX3_told_72 rfl (lv_at hl 1 rfl) ?_
    refine z_iald (k := k) (v := L 2 k) hx hb hK hP 4 rfl (by decide) (by omega) (rfl) dX3_told_73 ?_
    exact z_iret hx hb hr hlocks hS hP rfl dX3_told_74 (⟨by simp [tdX, s13_0, s13_1], rfl⟩)
  by_cases s13_2 : u = 2
  · refine z_top s13_2 ?_
    refine lv_tableIn (x := 2) (tgt := 75) hx hb dX3_told_13 (by decide) (by decide) rfl (by decide) ?_
    refine lv_aload_n hx hb dX3_told_75 rfl (lv_at hl 0 rfl) ?_
    refine va_get (D := D) (ci := 4) (v := .ref (h 1)) (C := RX3) (T := TX3) (N := 5) hx hb hts kX3_told_inX3 hown hK hP 0 rfl rfl 1 (by decide) (hts _ kX3_told_f25) (fun _ h9 => h9) rfl dX3_told_76 ?_
    refine va_getN (D := D) (ci := 3) (v := .ref (h 5)) (C := RX2) (T := TX2) (N := 9) hx hb hts kX3_told_inX2 hown hK hP 1 rfl rfl 3 (by decide) (va_Nw.use rfl (hE _ zl_RX3_121)) (fun _ h9 => h9) rfl dX3_told_79 ?_
    refine lv_iload_n hx hb dX3_told_82 rfl (lv_at hl 1 rfl) ?_
    refine z_iald (k := k) (v := L 3 k) hx hb hK hP 5 rfl (by decide) (by omega) (rfl) dX3_told_83 ?_
    exact z_iret hx hb hr hlocks hS hP rfl dX3_told_84 (⟨by simp [tdX, s13_0, s13_1, s13_2], rfl⟩)
  by_cases s13_3 : u = 3
  · refine z_top s13_3 ?_
    refine lv_tableIn (x := 3) (tgt := 85) hx hb dX3_told_13 (by decide) (by decide) rfl (by decide) ?_
    refine lv_aload_n hx hb dX3_told_85 rfl (lv_at hl 0 rfl) ?_
    refine va_get (D := D) (ci := 4) (v := .ref (h 9)) (C := RX3) (T := TX3) (N := 5) hx hb hts kX3_told_inX3 hown hK hP 0 rfl rfl 2 (by decide) (hts _ kX3_told_f32) (fun _ h9 => h9) rfl dX3_told_86 ?_
    refine lv_iconst (v := 1) hx hb dX3_told_89 (by decide) ?_
    refine lv_iload_n hx hb dX3_told_90 rfl (lv_at hl 1 rfl) ?_
    refine z_backi (z_runVN (n := 2) (As := [.int 1, .int (nI k)]) (ci := 1) (rest := []) hx hb hml hown hts hK hE hP hD [9, 10, 11, 12, 13, 14, 15, 16, 17, 18] rfl (by decide) (tX0_number l D cI cZ cJ (fun k => h (9 + k)) nC C 1 (nI k) (by omega) _) gX3_told_X0_number_n124 rfl rfl rfl zl_RX3_124 kX3_told_iRX0 kX3_told_nX0_number kX3_told_eX0_number (by decide +kernel) ⟨Nat.le_of_ble_eq_true rfl, Nat.le_of_ble_eq_true rfl⟩ rfl rfl rfl hl.1 rfl (Nat.le_of_ble_eq_true rfl) dX3_told_91 ⟨Nat.zero_le _, Nat.zero_le _⟩) hP hD hS hA [9, 10, 11, 12, 13, 14, 15, 16, 17, 18] rfl (fun r4 w1 H locs hp4 hP hD hS => ?_)
    obtain ⟨rfl, rfl⟩ := hp4
    have hP : va_P D vwCl (wX cI cZ h lev tm gn nL nC nE L B C E) H := hP
    have hD : va_D A (wX cI cZ h lev tm gn nL nC nE L B C E) := hD
    exact z_iret hx hb hr hlocks hS hP rfl dX3_told_94 (⟨by simp [tdX, s13_0, s13_1, s13_2, s13_3], rfl⟩)
  by_cases s13_4 : u = 4
  · refine z_top s13_4 ?_
    refine lv_tableIn (x := 4) (tgt := 95) hx hb dX3_told_13 (by decide) (by decide) rfl (by decide) ?_
    refine lv_aload_n hx hb dX3_told_95 rfl (lv_at hl 0 rfl) ?_
    refine va_get (D := D) (ci := 4) (v := .ref (h 9)) (C := RX3) (T := TX3) (N := 5) hx hb hts kX3_told_inX3 hown hK hP 0 rfl rfl 2 (by decide) (hts _ kX3_told_f32) (fun _ h9 => h9) rfl dX3_told_96 ?_
    refine lv_iconst (v := 0) hx hb dX3_told_99 (by decide) ?_
    refine lv_iload_n hx hb dX3_told_100 rfl (lv_at hl 1 rfl) ?_
    refine z_backi (z_runVN (n := 2) (As := [.int 0, .int (nI k)]) (ci := 1) (rest := []) hx hb hml hown hts hK hE hP hD [9, 10, 11, 12, 13, 14, 15, 16, 17, 18] rfl (by decide) (tX0_number l D cI cZ cJ (fun k => h (9 + k)) nC C 0 (nI k) (by omega) _) gX3_told_X0_number_n124 rfl rfl rfl zl_RX3_124 kX3_told_iRX0 kX3_told_nX0_number kX3_told_eX0_number (by decide +kernel) ⟨Nat.le_of_ble_eq_true rfl, Nat.le_of_ble_eq_true rfl⟩ rfl rfl rfl hl.1 rfl (Nat.le_of_ble_eq_true rfl) dX3_told_101 ⟨Nat.zero_le _, Nat.zero_le _⟩) hP hD hS hA [9, 10, 11, 12, 13, 14, 15, 16, 17, 18] rfl (fun r5 w1 H locs hp5 hP hD hS => ?_)
    obtain ⟨rfl, rfl⟩ := hp5
    have hP : va_P D vwCl (wX cI cZ h lev tm gn nL nC nE L B C E) H := hP
    have hD : va_D A (wX cI cZ h lev tm gn nL nC nE L B C E) := hD
    exact z_iret hx hb hr hlocks hS hP rfl dX3_told_104 (⟨by simp [tdX, s13_0, s13_1, s13_2, s13_3, s13_4], rfl⟩)
  by_cases s13_5 : u = 5
  · refine z_top s13_5 ?_
    refine lv_tableIn (x := 5) (tgt := 105) hx hb dX3_told_13 (by decide) (by decide) rfl (by decide) ?_
    refine lv_aload_n hx hb dX3_told_105 rfl (lv_at hl 0 rfl) ?_
    refine va_get (D := D) (ci := 4) (v := .ref (h 1)) (C := RX3) (T := TX3) (N := 5) hx hb hts kX3_told_inX3 hown hK hP 0 rfl rfl 1 (by decide) (hts _ kX3_told_f25) (fun _ h9 => h9) rfl dX3_told_106 ?_
    refine va_getN (D := D) (ci := 3) (v := .ref (h 6)) (C := RX2) (T := TX2) (N := 9) hx hb hts kX3_told_inX2 hown hK hP 1 rfl rfl 4 (by decide) (va_Nw.use rfl (hE _ zl_RX3_127)) (fun _ h9 => h9) rfl dX3_told_109 ?_
    refine lv_iload_n hx hb dX3_told_112 rfl (lv_at hl 1 rfl) ?_
    refine z_zald (k := k) (v := B 0 k) hx hb hK hP 6 rfl (by decide) (by omega) (rfl) dX3_told_113 ?_
    refine z_backi (z_runS (n := 1) (As := [.int (B 0 k)]) (rest := []) hx hb hml hown hts hK hE hP hD [] rfl (by decide) (tX3_asNumber_x l D cI cZ cJ (B 0 k) _) gX3_told_X3_asNumber rfl rfl rfl (by decide +kernel) ⟨Nat.le_of_ble_eq_true rfl, Nat.le_of_ble_eq_true rfl⟩ rfl hl.1 rfl (Nat.le_of_ble_eq_true rfl) dX3_told_114 ⟨Nat.zero_le _, Nat.zero_le _⟩) hP hD hS hA [] rfl (fun r6 w1 H locs hp6 hP hD hS => ?_)
    obtain ⟨rfl, rfl⟩ := hp6
    have hP : va_P D vwCl (wX cI cZ h lev tm gn nL nC nE L B C E) H := hP
    have hD : va_D A (wX cI cZ h lev tm gn nL nC nE L B C E) := hD
    exact z_iret hx hb hr hlocks hS hP rfl dX3_told_117 (⟨by simp [tdX, s13_0, s13_1, s13_2, s13_3, s13_4, s13_5], rfl⟩)
  by_cases s13_6 : u = 6
  · refine z_top s13_6 ?_
    refine lv_tableIn (x := 6) (tgt := 118) hx hb dX3_told_13 (by decide) (by decide) rfl (by decide) ?_
    refine lv_aload_n hx hb dX3_told_118 rfl (lv_at hl 0 rfl) ?_
    refine va_get (D := D) (ci := 4) (v := .ref (h 1)) (C := RX3) (T := TX3) (N := 5) hx hb hts kX3_told_inX3 hown hK hP 0 rfl rfl 1 (by decide) (hts _ kX3_told_f25) (fun _ h9 => h9) rfl dX3_told_119 ?_
    refine va_getN (D := D) (ci := 3) (v := .ref (h 7)) (C := RX2) (T := TX2) (N := 9) hx hb hts kX3_told_inX2 hown hK hP 1 rfl rfl 5 (by decide) (va_Nw.use rfl (hE _ zl_RX3_135)) (fun _ h9 => h9) rfl dX3_told_122 ?_
    refine lv_iload_n hx hb dX3_told_125 rfl (lv_at hl 1 rfl) ?_
    refine z_zald (k := k) (v := B 1 k) hx hb hK hP 7 rfl (by decide) (by omega) (rfl) dX3_told_126 ?_
    refine z_backi (z_runS (n := 1) (As := [.int (B 1 k)]) (rest := []) hx hb hml hown hts hK hE hP hD [] rfl (by decide) (tX3_asNumber_x l D cI cZ cJ (B 1 k) _) gX3_told_X3_asNumber rfl rfl rfl (by decide +kernel) ⟨Nat.le_of_ble_eq_true rfl, Nat.le_of_ble_eq_true rfl⟩ rfl hl.1 rfl (Nat.le_of_ble_eq_true rfl) dX3_told_127 ⟨Nat.zero_le _, Nat.zero_le _⟩) hP hD hS hA [] rfl (fun r7 w1 H locs hp7 hP hD hS => ?_)
    obtain ⟨rfl, rfl⟩ := hp7
    have hP : va_P D vwCl (wX cI cZ h lev tm gn nL nC nE L B C E) H := hP
    have hD : va_D A (wX cI cZ h lev tm gn nL nC nE L B C E) := hD
    exact z_iret hx hb hr hlocks hS hP rfl dX3_told_130 (⟨by simp [tdX, s13_0, s13_1, s13_2, s13_3, s13_4, s13_5, s13_6], rfl⟩)
  refine lv_tableOut (tgt := 131) hx hb dX3_told_13 (tsw_out (n := 6) (by decide) (fun j hj => by rcases (show j = 0 ∨ j = 1 ∨ j = 2 ∨ j = 3 ∨ j = 4 ∨ j = 5 ∨ j = 6 by omega) with rfl | rfl | rfl | rfl | rfl | rfl | rfl <;> assumption)) (by decide) ?_
  refine lv_aload_n hx hb dX3_told_131 rfl (lv_at hl 0 rfl) ?_
  refine va_get (D := D) (ci := 4) (v := .ref (h 1)) (C := RX3) (T := TX3) (N := 5) hx hb hts kX3_told_inX3 hown hK hP 0 rfl rfl 1 (by decide) (hts _ kX3_told_f25) (fun _ h9 => h9) rfl dX3_told_132 ?_
  refine va_getN (D := D) (ci := 3) (v := .ref (h 8)) (C := RX2) (T := TX2) (N := 9) hx hb hts kX3_told_inX2 hown hK hP 1 rfl rfl 6 (by decide) (va_Nw.use rfl (hE _ zl_RX3_138)) (fun _ h9 => h9) rfl dX3_told_135 ?_
  refine lv_iload_n hx hb dX3_told_138 rfl (lv_at hl 1 rfl) ?_
  refine z_zald (k := k) (v := B 2 k) hx hb hK hP 8 rfl (by decide) (by omega) (rfl) dX3_told_139 ?_
  refine z_backi (z_runS (n := 1) (As := [.int (B 2 k)]) (rest := []) hx hb hml hown hts hK hE hP hD [] rfl (by decide) (tX3_asNumber_x l D cI cZ cJ (B 2 k) _) gX3_told_X3_asNumber rfl rfl rfl (by decide +kernel) ⟨Nat.le_of_ble_eq_true rfl, Nat.le_of_ble_eq_true rfl⟩ rfl hl.1 rfl (Nat.le_of_ble_eq_true rfl) dX3_told_140 ⟨Nat.zero_le _, Nat.zero_le _⟩) hP hD hS hA [] rfl (fun r8 w1 H locs hp8 hP hD hS => ?_)
  obtain ⟨rfl, rfl⟩ := hp8
  have hP : va_P D vwCl (wX cI cZ h lev tm gn nL nC nE L B C E) H := hP
  have hD : va_D A (wX cI cZ h lev tm gn nL nC nE L B C E) := hD
  exact z_iret hx hb hr hlocks hS hP rfl dX3_told_143 (⟨by simp [tdX, s13_0, s13_1, s13_2, s13_3, s13_4, s13_5, s13_6], rfl⟩)

theorem kX3_door_inX3 : ∀ w ∈ wsX30, w ∈ wsX3_door := by decide +kernel
theorem kX3_door_f25 : Cond.fieldLink RX3 25 "LiftRows2" "lifts" "LLiftRows2$Lifts;" ∈ wsX3_door := by decide +kernel
theorem kX3_door_inX2 : ∀ w ∈ wsX20, w ∈ wsX3_door := by decide +kernel
set_option maxHeartbeats 4000000 in
set_option maxRecDepth 100000 in
theorem tX3_door_ok (l : Launch) (D : va_G) (cI cZ cJ : ClassId) (h : Nat → Nat) (lev tm : Nat) (gn : Int32) (nL nC nE : Nat) (L B C E : Nat → Nat → Int32) (k : Nat) (hk : k < nL) (hL : nL ≤ 4) (hC : nC ≤ 24) (on : Bool) (hyes : ¬ (B 2 k = bI on ∨ (on = true ∧ L 3 k = 0)))  : ∀ sz : Nat, zMv l yX3_door wsX3_door ({ frames := 1, cells := 0, slots := 0, locals := 21 } : Room) D cI cZ cJ (wX cI cZ h lev tm gn nL nC nE L B C E) sz [.ref (h 0), .int (nI k), .int (bI on)] (fun w' => w' = wX cI cZ h lev tm gn nL nC nE L (upC B 2 k (bI on)) C E) := by
  intro sz
  refine z_head (y := yX3_door) (av := [.ref (h 0), .int (nI k), .int (bI on)]) (w := (wX cI cZ h lev tm gn nL nC nE L B C E)) (Qc := fun A => zQv D (wX cI cZ h lev tm gn nL nC nE L B C E) (fun w' => w' = wX cI cZ h lev tm gn nL nC nE L (upC B 2 k (bI on)) C E) A) (cc := cX3_door) (maxL := 3) (ret := none) (by decide) rfl (Nat.le_of_ble_eq_true rfl) ?_
  intro p e s m below meth c ls A hat hP hD hS hl
  obtain ⟨hx, hb, hr, hml, hlocks, hts, hown, hin, hK, hE, hA⟩ := hat
  have hP : va_P D vwCl (wX cI cZ h lev tm gn nL nC nE L B C E) s.heap := hP
  have hD : va_D A (wX cI cZ h lev tm gn nL nC nE L B C E) := hD
  have hl : lv_has ls 3 [(0, .ref (h 0)), (1, .int (nI k)), (2, .int (bI on))] := hl
  refine lv_aload_n hx hb dX3_door_0 rfl (lv_at hl 0 rfl) ?_
  refine lv_iload_n hx hb dX3_door_1 rfl (lv_at hl 1 rfl) ?_
  refine z_backvA (z_runVA (n := 1) (As := [.int (nI k)]) (ci := 4) (rest := []) hx hb hml hown hts hK hE hP hD (tX3_refuseNoLift_ok l D cI cZ cJ h lev tm gn nL nC nE L B C E k (by omega) (by omega) (by omega) _) gX3_door_X3_refuseNoLift rfl rfl rfl (by decide +kernel) ⟨Nat.le_of_ble_eq_true rfl, Nat.le_of_ble_eq_true rfl⟩ rfl rfl rfl hl.1 rfl (Nat.le_of_ble_eq_true rfl) dX3_door_2 ⟨Nat.zero_le _, Nat.zero_le _⟩) hD hS hA (fun w1 H locs hp1 hP hD hS => ?_)
  obtain rfl := hp1
  have hP : va_P D vwCl (wX cI cZ h lev tm gn nL nC nE L B C E) H := hP
  have hD : va_D A (wX cI cZ h lev tm gn nL nC nE L B C E) := hD
  refine lv_aload_n hx hb dX3_door_5 rfl (lv_at hl 0 rfl) ?_
  refine va_get (D := D) (ci := 4) (v := .ref (h 1)) (C := RX3) (T := TX3) (N := 5) hx hb hts kX3_door_inX3 hown hK hP 0 rfl rfl 1 (by decide) (hts _ kX3_door_f25) (fun _ h9 => h9) rfl dX3_door_6 ?_
  refine va_getN (D := D) (ci := 3) (v := .ref (h 8)) (C := RX2) (T := TX2) (N := 9) hx hb hts kX3_door_inX2 hown hK hP 1 rfl rfl 6 (by decide) (va_Nw.use rfl (hE _ zl_RX3_138)) (fun _ h9 => h9) rfl dX3_door_9 ?_
  refine lv_iload_n hx hb dX3_door_12 rfl (lv_at hl 1 rfl) ?_
  refine z_zald (k := k) (v := B 2 k) hx hb hK hP 8 rfl (by decide) (by omega) (rfl) dX3_door_13 ?_
  refine lv_iload_n hx hb dX3_door_14 rfl (lv_at hl 2 rfl) ?_
  refine z_backv (z_runS (n := 2) (As := [.int (B 2 k), .int (bI on)]) (rest := []) hx hb hml hown hts hK hE hP hD [] rfl (by decide) (tX3_refuseUnchanged_ok l D cI cZ cJ (B 2 k) (bI on) (fun q => hyes (Or.inl q)) _) gX3_door_X3_refuseUnchanged rfl rfl rfl (by decide +kernel) ⟨Nat.le_of_ble_eq_true rfl, Nat.le_of_ble_eq_true rfl⟩ rfl hl.1 rfl (Nat.le_of_ble_eq_true rfl) dX3_door_15 ⟨Nat.zero_le _, Nat.zero_le _⟩) hP hD hS hA [] rfl (fun w1 H locs hp2 hP hD hS => ?_)
  obtain rfl := hp2
  have hP : va_P D vwCl (wX cI cZ h lev tm gn nL nC nE L B C E) H := hP
  have hD : va_D A (wX cI cZ h lev tm gn nL nC nE L B C E) := hD
  refine lv_iload_n hx hb dX3_door_18 rfl (lv_at hl 2 rfl) ?_
  refine zb_eq (b := on) (tgt := 44) hx hb dX3_door_19 (by decide) (fun c19 => ?_) (fun c19 => ?_)
  · skip
    refine lv_aload_n hx hb dX3_door_44 rfl (lv_at hl 0 rfl) ?_
    refine va_get (D := D) (ci := 4) (v := .ref (h 1)) (C := RX3) (T := TX3) (N := 5) hx hb hts kX3_door_inX3 hown hK hP 0 rfl rfl 1 (by decide) (hts _ kX3_door_f25) (fun _ h9 => h9) rfl dX3_door_45 ?_
    refine va_getN (D := D) (ci := 3) (v := .ref (h 8)) (C := RX2) (T := TX2) (N := 9) hx hb hts kX3_door_inX2 hown hK hP 1 rfl rfl 6 (by decide) (va_Nw.use rfl (hE _ zl_RX3_138)) (fun _ h9 => h9) rfl dX3_door_48 ?_
    refine lv_iload_n hx hb dX3_door_51 rfl (lv_at hl 1 rfl) ?_
    refine lv_iload_n hx hb dX3_door_52 rfl (lv_at hl 2 rfl) ?_
    refine z_zast (k := k) (x := bI on) hx hb hK hP hD hS 8 rfl (by decide) (by omega) (bI_01 _) dX3_door_53 (fun H locs hP hD hS => ?_)
    have hP : va_P D vwCl (wX cI cZ h lev tm gn nL nC nE L (upC B 2 k (bI on)) C E) H := hP
    have hD : va_D A (wX cI cZ h lev tm gn nL nC nE L (upC B 2 k (bI on)) C E) := hD
    exact z_vret hx hb hr hlocks hS hP rfl dX3_door_54 (rfl)
  · skip
    refine lv_aload_n hx hb dX3_door_22 rfl (lv_at hl 0 rfl) ?_
    refine va_get (D := D) (ci := 4) (v := .ref (h 1)) (C := RX3) (T := TX3) (N := 5) hx hb hts kX3_door_inX3 hown hK hP 0 rfl rfl 1 (by decide) (hts _ kX3_door_f25) (fun _ h9 => h9) rfl dX3_door_23 ?_
    refine va_getN (D := D) (ci := 3) (v := .ref (h 5)) (C := RX2) (T := TX2) (N := 9) hx hb hts kX3_door_inX2 hown hK hP 1 rfl rfl 3 (by decide) (va_Nw.use rfl (hE _ zl_RX3_121)) (fun _ h9 => h9) rfl dX3_door_26 ?_
    refine lv_iload_n hx hb dX3_door_29 rfl (lv_at hl 1 rfl) ?_
    refine z_iald (k := k) (v := L 3 k) hx hb hK hP 5 rfl (by decide) (by omega) (rfl) dX3_door_30 ?_
    refine lv_if_ne (x := L 3 k) (tgt := 44) hx hb dX3_door_31 (by decide) (fun c31 => ?_) (fun c31 => ?_)
    · skip
      refine lv_aload_n hx hb dX3_door_44 rfl (lv_at hl 0 rfl) ?_
      refine va_get (D := D) (ci := 4) (v := .ref (h 1)) (C := RX3) (T := TX3) (N := 5) hx hb hts kX3_door_inX3 hown hK hP 0 rfl rfl 1 (by decide) (hts _ kX3_door_f25) (fun _ h9 => h9) rfl dX3_door_45 ?_
      refine va_getN (D := D) (ci := 3) (v := .ref (h 8)) (C := RX2) (T := TX2) (N := 9) hx hb hts kX3_door_inX2 hown hK hP 1 rfl rfl 6 (by decide) (va_Nw.use rfl (hE _ zl_RX3_138)) (fun _ h9 => h9) rfl dX3_door_48 ?_
      refine lv_iload_n hx hb dX3_door_51 rfl (lv_at hl 1 rfl) ?_
      refine lv_iload_n hx hb dX3_door_52 rfl (lv_at hl 2 rfl) ?_
      refine z_zast (k := k) (x := bI on) hx hb hK hP hD hS 8 rfl (by decide) (by omega) (bI_01 _) dX3_door_53 (fun H locs hP hD hS => ?_)
      have hP : va_P D vwCl (wX cI cZ h lev tm gn nL nC nE L (upC B 2 k (bI on)) C E) H := hP
      have hD : va_D A (wX cI cZ h lev tm gn nL nC nE L (upC B 2 k (bI on)) C E) := hD
      exact z_vret hx hb hr hlocks hS hP rfl dX3_door_54 (rfl)
    · exact absurd (Or.inr ⟨c19, c31⟩) hyes

theorem kX3_stuck_inX3 : ∀ w ∈ wsX30, w ∈ wsX3_stuck := by decide +kernel
theorem kX3_stuck_f25 : Cond.fieldLink RX3 25 "LiftRows2" "lifts" "LLiftRows2$Lifts;" ∈ wsX3_stuck := by decide +kernel
theorem kX3_stuck_inX2 : ∀ w ∈ wsX20, w ∈ wsX3_stuck := by decide +kernel
theorem kX3_stuck_f32 : Cond.fieldLink RX3 32 "LiftRows2" "calls" "LLiftRows2$Calls;" ∈ wsX3_stuck := by decide +kernel
theorem kX3_stuck_iRX0 : Cond.initialized yX0_number.cls ∈ wsX3_stuck := by decide +kernel
theorem kX3_stuck_nX0_number : Cond.instanceMethod yX0_number ∈ wsX3_stuck := by decide +kernel
theorem kX3_stuck_eX0_number : Cond.selects RX0 yX0_number yX0_number ∈ wsX3_stuck := by decide +kernel
set_option maxHeartbeats 4000000 in
set_option maxRecDepth 100000 in
theorem tX3_stuck_of (l : Launch) (D : va_G) (cI cZ cJ : ClassId) (h : Nat → Nat) (lev tm : Nat) (gn : Int32) (nL nC nE : Nat) (L B C E : Nat → Nat → Int32) (k : Nat) (hk : k < nL) (hL : nL ≤ 4) (hC : nC ≤ 24) (hyes : ¬ B 0 k = 0)  : ∀ sz : Nat, zMi l yX3_stuck wsX3_stuck ({ frames := 3, cells := 0, slots := 0, locals := 71 } : Room) D cI cZ cJ (wX cI cZ h lev tm gn nL nC nE L B C E) sz [.ref (h 0), .int (nI k), .int (bI false)] (fun r w' => r = nI (cntW (fun i => isB C i 1 (nI k)) nC) ∧ w' = wX cI cZ h lev tm gn nL nC nE L (upC B 0 k 0) C E) := by
  intro sz
  refine z_head (y := yX3_stuck) (av := [.ref (h 0), .int (nI k), .int (bI false)]) (w := (wX cI cZ h lev tm gn nL nC nE L B C E)) (Qc := fun A => zQi D (wX cI cZ h lev tm gn nL nC nE L B C E) (fun r w' => r = nI (cntW (fun i => isB C i 1 (nI k)) nC) ∧ w' = wX cI cZ h lev tm gn nL nC nE L (upC B 0 k 0) C E) A) (cc := cX3_stuck) (maxL := 3) (ret := (some .int)) (by decide) rfl (Nat.le_of_ble_eq_true rfl) ?_
  intro p e s m below meth c ls A hat hP hD hS hl
  obtain ⟨hx, hb, hr, hml, hlocks, hts, hown, hin, hK, hE, hA⟩ := hat
  have hP : va_P D vwCl (wX cI cZ h lev tm gn nL nC nE L B C E) s.heap := hP
  have hD : va_D A (wX cI cZ h lev tm gn nL nC nE L B C E) := hD
  have hl : lv_has ls 3 [(0, .ref (h 0)), (1, .int (nI k)), (2, .int (bI false))] := hl
  refine lv_aload_n hx hb dX3_stuck_0 rfl (lv_at hl 0 rfl) ?_
  refine lv_iload_n hx hb dX3_stuck_1 rfl (lv_at hl 1 rfl) ?_
  refine z_backvA (z_runVA (n := 1) (As := [.int (nI k)]) (ci := 4) (rest := []) hx hb hml hown hts hK hE hP hD (tX3_refuseNoLift_ok l D cI cZ cJ h lev tm gn nL nC nE L B C E k (by omega) (by omega) (by omega) _) gX3_stuck_X3_refuseNoLift rfl rfl rfl (by decide +kernel) ⟨Nat.le_of_ble_eq_true rfl, Nat.le_of_ble_eq_true rfl⟩ rfl rfl rfl hl.1 rfl (Nat.le_of_ble_eq_true rfl) dX3_stuck_2 ⟨Nat.zero_le _, Nat.zero_le _⟩) hD hS hA (fun w1 H locs hp1 hP hD hS => ?_)
  obtain rfl := hp1
  have hP : va_P D vwCl (wX cI cZ h lev tm gn nL nC nE L B C E) H := hP
  have hD : va_D A (wX cI cZ h lev tm gn nL nC nE L B C E) := hD
  refine lv_aload_n hx hb dX3_stuck_5 rfl (lv_at hl 0 rfl) ?_
  refine va_get (D := D) (ci := 4) (v := .ref (h 1)) (C := RX3) (T := TX3) (N := 5) hx hb hts kX3_stuck_inX3 hown hK hP 0 rfl rfl 1 (by decide) (hts _ kX3_stuck_f25) (fun _ h9 => h9) rfl dX3_stuck_6 ?_
  refine va_getN (D := D) (ci := 3) (v := .ref (h 6)) (C := RX2) (T := TX2) (N := 9) hx hb hts kX3_stuck_inX2 hown hK hP 1 rfl rfl 4 (by decide) (va_Nw.use rfl (hE _ zl_RX3_127)) (fun _ h9 => h9) rfl dX3_stuck_9 ?_
  refine lv_iload_n hx hb dX3_stuck_12 rfl (lv_at hl 1 rfl) ?_
  refine z_zald (k := k) (v := B 0 k) hx hb hK hP 6 rfl (by decide) (by omega) (rfl) dX3_stuck_13 ?_
  refine lv_iload_n hx hb dX3_stuck_14 rfl (lv_at hl 2 rfl) ?_
  refine z_backv (z_runS (n := 2) (As := [.int (B 0 k), .int (bI false)]) (rest := []) hx hb hml hown hts hK hE hP hD [] rfl (by decide) (tX3_refuseUnchanged_ok l D cI cZ cJ (B 0 k) (bI false) (hyes) _) gX3_stuck_X3_refuseUnchanged rfl rfl rfl (by decide +kernel) ⟨Nat.le_of_ble_eq_true rfl, Nat.le_of_ble_eq_true rfl⟩ rfl hl.1 rfl (Nat.le_of_ble_eq_true rfl) dX3_stuck_15 ⟨Nat.zero_le _, Nat.zero_le _⟩) hP hD hS hA [] rfl (fun w1 H locs hp2 hP hD hS => ?_)
  obtain rfl := hp2
  have hP : va_P D vwCl (wX cI cZ h lev tm gn nL nC nE L B C E) H := hP
  have hD : va_D A (wX cI cZ h lev tm gn nL nC nE L B C E) := hD
  refine lv_aload_n hx hb dX3_stuck_18 rfl (lv_at hl 0 rfl) ?_
  refine va_get (D := D) (ci := 4) (v := .ref (h 1)) (C := RX3) (T := TX3) (N := 5) hx hb hts kX3_stuck_inX3 hown hK hP 0 rfl rfl 1 (by decide) (hts _ kX3_stuck_f25) (fun _ h9 => h9) rfl dX3_stuck_19 ?_
  refine va_getN (D := D) (ci := 3) (v := .ref (h 6)) (C := RX2) (T := TX2) (N := 9) hx hb hts kX3_stuck_inX2 hown hK hP 1 rfl rfl 4 (by decide) (va_Nw.use rfl (hE _ zl_RX3_127)) (fun _ h9 => h9) rfl dX3_stuck_22 ?_
  refine lv_iload_n hx hb dX3_stuck_25 rfl (lv_at hl 1 rfl) ?_
  refine lv_iload_n hx hb dX3_stuck_26 rfl (lv_at hl 2 rfl) ?_
  refine z_zast (k := k) (x := bI false) hx hb hK hP hD hS 6 rfl (by decide) (by omega) (bI_01 _) dX3_stuck_27 (fun H locs hP hD hS => ?_)
  have hP : va_P D vwCl (wX cI cZ h lev tm gn nL nC nE L (upC B 0 k (bI false)) C E) H := hP
  have hD : va_D A (wX cI cZ h lev tm gn nL nC nE L (upC B 0 k (bI false)) C E) := hD
  refine lv_iload_n hx hb dX3_stuck_28 rfl (lv_at hl 2 rfl) ?_
  refine zb_eq (b := false) (tgt := 38) hx hb dX3_stuck_29 (by decide) (fun c29 => ?_) (fun c29 => ?_)
  · skip
    refine lv_aload_n hx hb dX3_stuck_38 rfl (lv_at hl 0 rfl) ?_
    refine va_get (D := D) (ci := 4) (v := .ref (h 9)) (C := RX3) (T := TX3) (N := 5) hx hb hts kX3_stuck_inX3 hown hK hP 0 rfl rfl 2 (by decide) (hts _ kX3_stuck_f32) (fun _ h9 => h9) rfl dX3_stuck_39 ?_
    refine lv_iconst (v := 1) hx hb dX3_stuck_42 (by decide) ?_
    refine lv_iload_n hx hb dX3_stuck_43 rfl (lv_at hl 1 rfl) ?_
    refine z_backi (z_runVN (n := 2) (As := [.int 1, .int (nI k)]) (ci := 1) (rest := []) hx hb hml hown hts hK hE hP hD [9, 10, 11, 12, 13, 14, 15, 16, 17, 18] rfl (by decide) (tX0_number l D cI cZ cJ (fun k => h (9 + k)) nC C 1 (nI k) (by omega) _) gX3_stuck_X0_number_n124 rfl rfl rfl zl_RX3_124 kX3_stuck_iRX0 kX3_stuck_nX0_number kX3_stuck_eX0_number (by decide +kernel) ⟨Nat.le_of_ble_eq_true rfl, Nat.le_of_ble_eq_true rfl⟩ rfl rfl rfl hl.1 rfl (Nat.le_of_ble_eq_true rfl) dX3_stuck_44 ⟨Nat.zero_le _, Nat.zero_le _⟩) hP hD hS hA [9, 10, 11, 12, 13, 14, 15, 16, 17, 18] rfl (fun r3 w1 H locs hp3 hP hD hS => ?_)
    obtain ⟨rfl, rfl⟩ := hp3
    have hP : va_P D vwCl (wX cI cZ h lev tm gn nL nC nE L (upC B 0 k (bI false)) C E) H := hP
    have hD : va_D A (wX cI cZ h lev tm gn nL nC nE L (upC B 0 k (bI false)) C E) := hD
    exact z_iret hx hb hr hlocks hS hP rfl dX3_stuck_47 (⟨rfl, rfl⟩)
  · exact absurd c29 (by decide)


set_option maxHeartbeats 4000000 in
set_option maxRecDepth 100000 in
theorem tX3_stuck_on (l : Launch) (D : va_G) (cI cZ cJ : ClassId) (h : Nat → Nat) (lev tm : Nat) (gn : Int32) (nL nC nE : Nat) (L B C E : Nat → Nat → Int32) (k : Nat) (hk : k < nL) (hL : nL ≤ 4) (hC : nC ≤ 24) (hyes : ¬ B 0 k = 1)  : ∀ sz : Nat, zMi l yX3_stuck wsX3_stuck ({ frames := 3, cells := 0, slots := 0, locals := 71 } : Room) D cI cZ cJ (wX cI cZ h lev tm gn nL nC nE L B C E) sz [.ref (h 0), .int (nI k), .int (bI true)] (fun r w' => r = nI (cntW (fun i => isB (gaF L (upC B 0 k 1) nL (nI k) C nC).1 i 1 (nI k)) nC) ∧ w' = wX cI cZ h lev tm gn nL nC nE L (upC B 0 k 1) ((gaF L (upC B 0 k 1) nL (nI k) C nC).1) E) := by
  intro sz
  refine z_head (y := yX3_stuck) (av := [.ref (h 0), .int (nI k), .int (bI true)]) (w := (wX cI cZ h lev tm gn nL nC nE L B C E)) (Qc := fun A => zQi D (wX cI cZ h lev tm gn nL nC nE L B C E) (fun r w' => r = nI (cntW (fun i => isB (gaF L (upC B 0 k 1) nL (nI k) C nC).1 i 1 (nI k)) nC) ∧ w' = wX cI cZ h lev tm gn nL nC nE L (upC B 0 k 1) ((gaF L (upC B 0 k 1) nL (nI k) C nC).1) E) A) (cc := cX3_stuck) (maxL := 3) (ret := (some .int)) (by decide) rfl (Nat.le_of_ble_eq_true rfl) ?_
  intro p e s m below meth c ls A hat hP hD hS hl
  obtain ⟨hx, hb, hr, hml, hlocks, hts, hown, hin, hK, hE, hA⟩ := hat
  have hP : va_P D vwCl (wX cI cZ h lev tm gn nL nC nE L B C E) s.heap := hP
  have hD : va_D A (wX cI cZ h lev tm gn nL nC nE L B C E) := hD
  have hl : lv_has ls 3 [(0, .ref (h 0)), (1, .int (nI k)), (2, .int (bI true))] := hl
  refine lv_aload_n hx hb dX3_stuck_0 rfl (lv_at hl 0 rfl) ?_
  refine lv_iload_n hx hb dX3_stuck_1 rfl (lv_at hl 1 rfl) ?_
  refine z_backvA (z_runVA (n := 1) (As := [.int (nI k)]) (ci := 4) (rest := []) hx hb hml hown hts hK hE hP hD (tX3_refuseNoLift_ok l D cI cZ cJ h lev tm gn nL nC nE L B C E k (by omega) (by omega) (by omega) _) gX3_stuck_X3_refuseNoLift rfl rfl rfl (by decide +kernel) ⟨Nat.le_of_ble_eq_true rfl, Nat.le_of_ble_eq_true rfl⟩ rfl rfl rfl hl.1 rfl (Nat.le_of_ble_eq_true rfl) dX3_stuck_2 ⟨Nat.zero_le _, Nat.zero_le _⟩) hD hS hA (fun w1 H locs hp1 hP hD hS => ?_)
  obtain rfl := hp1
  have hP : va_P D vwCl (wX cI cZ h lev tm gn nL nC nE L B C E) H := hP
  have hD : va_D A (wX cI cZ h lev tm gn nL nC nE L B C E) := hD
  refine lv_aload_n hx hb dX3_stuck_5 rfl (lv_at hl 0 rfl) ?_
  refine va_get (D := D) (ci := 4) (v := .ref (h 1)) (C := RX3) (T := TX3) (N := 5) hx hb hts kX3_stuck_inX3 hown hK hP 0 rfl rfl 1 (by decide) (hts _ kX3_stuck_f25) (fun _ h9 => h9) rfl dX3_stuck_6 ?_
  refine va_getN (D := D) (ci := 3) (v := .ref (h 6)) (C := RX2) (T := TX2) (N := 9) hx hb hts kX3_stuck_inX2 hown hK hP 1 rfl rfl 4 (by decide) (va_Nw.use rfl (hE _ zl_RX3_127)) (fun _ h9 => h9) rfl dX3_stuck_9 ?_
  refine lv_iload_n hx hb dX3_stuck_12 rfl (lv_at hl 1 rfl) ?_
  refine z_zald (k := k) (v := B 0 k) hx hb hK hP 6 rfl (by decide) (by omega) (rfl) dX3_stuck_13 ?_
  refine lv_iload_n hx hb dX3_stuck_14 rfl (lv_at hl 2 rfl) ?_
  refine z_backv (z_runS (n := 2) (As := [.int (B 0 k), .int (bI true)]) (rest := []) hx hb hml hown hts hK hE hP hD [] rfl (by decide) (tX3_refuseUnchanged_ok l D cI cZ cJ (B 0 k) (bI true) (hyes) _) gX3_stuck_X3_refuseUnchanged rfl rfl rfl (by decide +kernel) ⟨Nat.le_of_ble_eq_true rfl, Nat.le_of_ble_eq_true rfl⟩ rfl hl.1 rfl (Nat.le_of_ble_eq_true rfl) dX3_stuck_15 ⟨Nat.zero_le _, Nat.zero_le _⟩) hP hD hS hA [] rfl (fun w1 H locs hp2 hP hD hS => ?_)
  obtain rfl := hp2
  have hP : va_P D vwCl (wX cI cZ h lev tm gn nL nC nE L B C E) H := hP
  have hD : va_D A (wX cI cZ h lev tm gn nL nC nE L B C E) := hD
  refine lv_aload_n hx hb dX3_stuck_18 rfl (lv_at hl 0 rfl) ?_
  refine va_get (D := D) (ci := 4) (v := .ref (h 1)) (C := RX3) (T := TX3) (N := 5) hx hb hts kX3_stuck_inX3 hown hK hP 0 rfl rfl 1 (by decide) (hts _ kX3_stuck_f25) (fun _ h9 => h9) rfl dX3_stuck_19 ?_
  refine va_getN (D := D) (ci := 3) (v := .ref (h 6)) (C := RX2) (T := TX2) (N := 9) hx hb hts kX3_stuck_inX2 hown hK hP 1 rfl rfl 4 (by decide) (va_Nw.use rfl (hE _ zl_RX3_127)) (fun _ h9 => h9) rfl dX3_stuck_22 ?_
  refine lv_iload_n hx hb dX3_stuck_25 rfl (lv_at hl 1 rfl) ?_
  refine lv_iload_n hx hb dX3_stuck_26 rfl (lv_at hl 2 rfl) ?_
  refine z_zast (k := k) (x := bI true) hx hb hK hP hD hS 6 rfl (by decide) (by omega) (bI_01 _) dX3_stuck_27 (fun H locs hP hD hS => ?_)
  have hP : va_P D vwCl (wX cI cZ h lev tm gn nL nC nE L (upC B 0 k (bI true)) C E) H := hP
  have hD : va_D A (wX cI cZ h lev tm gn nL nC nE L (upC B 0 k (bI true)) C E) := hD
  refine lv_iload_n hx hb dX3_stuck_28 rfl (lv_at hl 2 rfl) ?_
  refine zb_eq (b := true) (tgt := 38) hx hb dX3_stuck_29 (by decide) (fun c29 => ?_) (fun c29 => ?_)
  · exact absurd c29 (by decide)
  · skip
    refine lv_aload_n hx hb dX3_stuck_32 rfl (lv_at hl 0 rfl) ?_
    refine lv_iload_n hx hb dX3_stuck_33 rfl (lv_at hl 1 rfl) ?_
    refine z_backiA (z_runVA (n := 1) (As := [.int (nI k)]) (ci := 4) (rest := []) hx hb hml hown hts hK hE hP hD (tX3_giveAnew l D cI cZ cJ h lev tm gn nL nC nE L (upC B 0 k (bI true)) C E (nI k) (by omega) (by omega) _) gX3_stuck_X3_giveAnew rfl rfl rfl (by decide +kernel) ⟨Nat.le_of_ble_eq_true rfl, Nat.le_of_ble_eq_true rfl⟩ rfl rfl rfl hl.1 rfl (Nat.le_of_ble_eq_true rfl) dX3_stuck_34 ⟨Nat.zero_le _, Nat.zero_le _⟩) hD hS hA (fun r3 w1 H locs hp3 hP hD hS => ?_)
    obtain ⟨rfl, rfl⟩ := hp3
    have hP : va_P D vwCl (wX cI cZ h lev tm gn nL nC nE L (upC B 0 k (bI true)) ((gaF L (upC B 0 k (bI true)) nL (nI k) C nC).1) E) H := hP
    have hD : va_D A (wX cI cZ h lev tm gn nL nC nE L (upC B 0 k (bI true)) ((gaF L (upC B 0 k (bI true)) nL (nI k) C nC).1) E) := hD
    refine lv_pop hx hb dX3_stuck_37 rfl ?_
    refine lv_aload_n hx hb dX3_stuck_38 rfl (lv_at hl 0 rfl) ?_
    refine va_get (D := D) (ci := 4) (v := .ref (h 9)) (C := RX3) (T := TX3) (N := 5) hx hb hts kX3_stuck_inX3 hown hK hP 0 rfl rfl 2 (by decide) (hts _ kX3_stuck_f32) (fun _ h9 => h9) rfl dX3_stuck_39 ?_
    refine lv_iconst (v := 1) hx hb dX3_stuck_42 (by decide) ?_
    refine lv_iload_n hx hb dX3_stuck_43 rfl (lv_at hl 1 rfl) ?_
    refine z_backi (z_runVN (n := 2) (As := [.int 1, .int (nI k)]) (ci := 1) (rest := []) hx hb hml hown hts hK hE hP hD [9, 10, 11, 12, 13, 14, 15, 16, 17, 18] rfl (by decide) (tX0_number l D cI cZ cJ (fun k => h (9 + k)) nC ((gaF L (upC B 0 k (bI true)) nL (nI k) C nC).1) 1 (nI k) (by omega) _) gX3_stuck_X0_number_n124 rfl rfl rfl zl_RX3_124 kX3_stuck_iRX0 kX3_stuck_nX0_number kX3_stuck_eX0_number (by decide +kernel) ⟨Nat.le_of_ble_eq_true rfl, Nat.le_of_ble_eq_true rfl⟩ rfl rfl rfl hl.1 rfl (Nat.le_of_ble_eq_true rfl) dX3_stuck_44 ⟨Nat.zero_le _, Nat.zero_le _⟩) hP hD hS hA [9, 10, 11, 12, 13, 14, 15, 16, 17, 18] rfl (fun r4 w1 H locs hp4 hP hD hS => ?_)
    obtain ⟨rfl, rfl⟩ := hp4
    have hP : va_P D vwCl (wX cI cZ h lev tm gn nL nC nE L (upC B 0 k (bI true)) ((gaF L (upC B 0 k (bI true)) nL (nI k) C nC).1) E) H := hP
    have hD : va_D A (wX cI cZ h lev tm gn nL nC nE L (upC B 0 k (bI true)) ((gaF L (upC B 0 k (bI true)) nL (nI k) C nC).1) E) := hD
    exact z_iret hx hb hr hlocks hS hP rfl dX3_stuck_47 (⟨rfl, rfl⟩)

theorem kX3_reserved_inX3 : ∀ w ∈ wsX30, w ∈ wsX3_reserved := by decide +kernel
theorem kX3_reserved_f25 : Cond.fieldLink RX3 25 "LiftRows2" "lifts" "LLiftRows2$Lifts;" ∈ wsX3_reserved := by decide +kernel
theorem kX3_reserved_inX2 : ∀ w ∈ wsX20, w ∈ wsX3_reserved := by decide +kernel
theorem kX3_reserved_f32 : Cond.fieldLink RX3 32 "LiftRows2" "calls" "LLiftRows2$Calls;" ∈ wsX3_reserved := by decide +kernel
theorem kX3_reserved_iRX0 : Cond.initialized yX0_number.cls ∈ wsX3_reserved := by decide +kernel
theorem kX3_reserved_nX0_number : Cond.instanceMethod yX0_number ∈ wsX3_reserved := by decide +kernel
theorem kX3_reserved_eX0_number : Cond.selects RX0 yX0_number yX0_number ∈ wsX3_reserved := by decide +kernel
set_option maxHeartbeats 4000000 in
set_option maxRecDepth 100000 in
theorem tX3_reserved_ok (l : Launch) (D : va_G) (cI cZ cJ : ClassId) (h : Nat → Nat) (lev tm : Nat) (gn : Int32) (nL nC nE : Nat) (L B C E : Nat → Nat → Int32) (k : Nat) (hk : k < nL) (hL : nL ≤ 4) (hC : nC ≤ 24) (on : Bool) (hyes : ¬ B 1 k = bI on)  : ∀ sz : Nat, zMi l yX3_reserved wsX3_reserved ({ frames := 3, cells := 0, slots := 0, locals := 69 } : Room) D cI cZ cJ (wX cI cZ h lev tm gn nL nC nE L B C E) sz [.ref (h 0), .int (nI k), .int (bI on)] (fun r w' => r = nI (cntW (fun i => isB C i 1 (nI k)) nC + cntW (fun i => isB C i 0 (nI k)) nC) ∧ w' = wX cI cZ h lev tm gn nL nC nE L (upC B 1 k (bI on)) C E) := by
  intro sz
  refine z_head (y := yX3_reserved) (av := [.ref (h 0), .int (nI k), .int (bI on)]) (w := (wX cI cZ h lev tm gn nL nC nE L B C E)) (Qc := fun A => zQi D (wX cI cZ h lev tm gn nL nC nE L B C E) (fun r w' => r = nI (cntW (fun i => isB C i 1 (nI k)) nC + cntW (fun i => isB C i 0 (nI k)) nC) ∧ w' = wX cI cZ h lev tm gn nL nC nE L (upC B 1 k (bI on)) C E) A) (cc := cX3_reserved) (maxL := 3) (ret := (some .int)) (by decide) rfl (Nat.le_of_ble_eq_true rfl) ?_
  intro p e s m below meth c ls A hat hP hD hS hl
  obtain ⟨hx, hb, hr, hml, hlocks, hts, hown, hin, hK, hE, hA⟩ := hat
  have hP : va_P D vwCl (wX cI cZ h lev tm gn nL nC nE L B C E) s.heap := hP
  have hD : va_D A (wX cI cZ h lev tm gn nL nC nE L B C E) := hD
  have hl : lv_has ls 3 [(0, .ref (h 0)), (1, .int (nI k)), (2, .int (bI on))] := hl
  refine lv_aload_n hx hb dX3_reserved_0 rfl (lv_at hl 0 rfl) ?_
  refine lv_iload_n hx hb dX3_reserved_1 rfl (lv_at hl 1 rfl) ?_
  refine z_backvA (z_runVA (n := 1) (As := [.int (nI k)]) (ci := 4) (rest := []) hx hb hml hown hts hK hE hP hD (tX3_refuseNoLift_ok l D cI cZ cJ h lev tm gn nL nC nE L B C E k (by omega) (by omega) (by omega) _) gX3_reserved_X3_refuseNoLift rfl rfl rfl (by decide +kernel) ⟨Nat.le_of_ble_eq_true rfl, Nat.le_of_ble_eq_true rfl⟩ rfl rfl rfl hl.1 rfl (Nat.le_of_ble_eq_true rfl) dX3_reserved_2 ⟨Nat.zero_le _, Nat.zero_le _⟩) hD hS hA (fun w1 H locs hp1 hP hD hS => ?_)
  obtain rfl := hp1
  have hP : va_P D vwCl (wX cI cZ h lev tm gn nL nC nE L B C E) H := hP
  have hD : va_D A (wX cI cZ h lev tm gn nL nC nE L B C E) := hD
  refine lv_aload_n hx hb dX3_reserved_5 rfl (lv_at hl 0 rfl) ?_
  refine va_get (D := D) (ci := 4) (v := .ref (h 1)) (C := RX3) (T := TX3) (N := 5) hx hb hts kX3_reserved_inX3 hown hK hP 0 rfl rfl 1 (by decide) (hts _ kX3_reserved_f25) (fun _ h9 => h9) rfl dX3_reserved_6 ?_
  refine va_getN (D := D) (ci := 3) (v := .ref (h 7)) (C := RX2) (T := TX2) (N := 9) hx hb hts kX3_reserved_inX2 hown hK hP 1 rfl rfl 5 (by decide) (va_Nw.use rfl (hE _ zl_RX3_135)) (fun _ h9 => h9) rfl dX3_reserved_9 ?_
  refine lv_iload_n hx hb dX3_reserved_12 rfl (lv_at hl 1 rfl) ?_
  refine z_zald (k := k) (v := B 1 k) hx hb hK hP 7 rfl (by decide) (by omega) (rfl) dX3_reserved_13 ?_
  refine lv_iload_n hx hb dX3_reserved_14 rfl (lv_at hl 2 rfl) ?_
  refine z_backv (z_runS (n := 2) (As := [.int (B 1 k), .int (bI on)]) (rest := []) hx hb hml hown hts hK hE hP hD [] rfl (by decide) (tX3_refuseUnchanged_ok l D cI cZ cJ (B 1 k) (bI on) (hyes) _) gX3_reserved_X3_refuseUnchanged rfl rfl rfl (by decide +kernel) ⟨Nat.le_of_ble_eq_true rfl, Nat.le_of_ble_eq_true rfl⟩ rfl hl.1 rfl (Nat.le_of_ble_eq_true rfl) dX3_reserved_15 ⟨Nat.zero_le _, Nat.zero_le _⟩) hP hD hS hA [] rfl (fun w1 H locs hp2 hP hD hS => ?_)
  obtain rfl := hp2
  have hP : va_P D vwCl (wX cI cZ h lev tm gn nL nC nE L B C E) H := hP
  have hD : va_D A (wX cI cZ h lev tm gn nL nC nE L B C E) := hD
  refine lv_aload_n hx hb dX3_reserved_18 rfl (lv_at hl 0 rfl) ?_
  refine va_get (D := D) (ci := 4) (v := .ref (h 1)) (C := RX3) (T := TX3) (N := 5) hx hb hts kX3_reserved_inX3 hown hK hP 0 rfl rfl 1 (by decide) (hts _ kX3_reserved_f25) (fun _ h9 => h9) rfl dX3_reserved_19 ?_
  refine va_getN (D := D) (ci := 3) (v := .ref (h 7)) (C := RX2) (T := TX2) (N := 9) hx hb hts kX3_reserved_inX2 hown hK hP 1 rfl rfl 5 (by decide) (va_Nw.use rfl (hE _ zl_RX3_135)) (fun _ h9 => h9) rfl dX3_reserved_22 ?_
  refine lv_iload_n hx hb dX3_reserved_25 rfl (lv_at hl 1 rfl) ?_
  refine lv_iload_n hx hb dX3_reserved_26 rfl (lv_at hl 2 rfl) ?_
  refine z_zast (k := k) (x := bI on) hx hb hK hP hD hS 7 rfl (by decide) (by omega) (bI_01 _) dX3_reserved_27 (fun H locs hP hD hS => ?_)
  have hP : va_P D vwCl (wX cI cZ h lev tm gn nL nC nE L (upC B 1 k (bI on)) C E) H := hP
  have hD : va_D A (wX cI cZ h lev tm gn nL nC nE L (upC B 1 k (bI on)) C E) := hD
  refine lv_aload_n hx hb dX3_reserved_28 rfl (lv_at hl 0 rfl) ?_
  refine va_get (D := D) (ci := 4) (v := .ref (h 9)) (C := RX3) (T := TX3) (N := 5) hx hb hts kX3_reserved_inX3 hown hK hP 0 rfl rfl 2 (by decide) (hts _ kX3_reserved_f32) (fun _ h9 => h9) rfl dX3_reserved_29 ?_
  refine lv_iconst (v := 1) hx hb dX3_reserved_32 (by decide) ?_
  refine lv_iload_n hx hb dX3_reserved_33 rfl (lv_at hl 1 rfl) ?_
  refine z_backi (z_runVN (n := 2) (As := [.int 1, .int (nI k)]) (ci := 1) (rest := []) hx hb hml hown hts hK hE hP hD [9, 10, 11, 12, 13, 14, 15, 16, 17, 18] rfl (by decide) (tX0_number l D cI cZ cJ (fun k => h (9 + k)) nC C 1 (nI k) (by omega) _) gX3_reserved_X0_number_n124 rfl rfl rfl zl_RX3_124 kX3_reserved_iRX0 kX3_reserved_nX0_number kX3_reserved_eX0_number (by decide +kernel) ⟨Nat.le_of_ble_eq_true rfl, Nat.le_of_ble_eq_true rfl⟩ rfl rfl rfl hl.1 rfl (Nat.le_of_ble_eq_true rfl) dX3_reserved_34 ⟨Nat.zero_le _, Nat.zero_le _⟩) hP hD hS hA [9, 10, 11, 12, 13, 14, 15, 16, 17, 18] rfl (fun r3 w1 H locs hp3 hP hD hS => ?_)
  obtain ⟨rfl, rfl⟩ := hp3
  have hP : va_P D vwCl (wX cI cZ h lev tm gn nL nC nE L (upC B 1 k (bI on)) C E) H := hP
  have hD : va_D A (wX cI cZ h lev tm gn nL nC nE L (upC B 1 k (bI on)) C E) := hD
  refine lv_aload_n hx hb dX3_reserved_37 rfl (lv_at hl 0 rfl) ?_
  refine va_get (D := D) (ci := 4) (v := .ref (h 9)) (C := RX3) (T := TX3) (N := 5) hx hb hts kX3_reserved_inX3 hown hK hP 0 rfl rfl 2 (by decide) (hts _ kX3_reserved_f32) (fun _ h9 => h9) rfl dX3_reserved_38 ?_
  refine lv_iconst (v := 0) hx hb dX3_reserved_41 (by decide) ?_
  refine lv_iload_n hx hb dX3_reserved_42 rfl (lv_at hl 1 rfl) ?_
  refine z_backi (z_runVN (n := 2) (As := [.int 0, .int (nI k)]) (ci := 1) (rest := [.int (nI (cntW (fun k9 => isB C k9 1 (nI k)) nC))]) hx hb hml hown hts hK hE hP hD [9, 10, 11, 12, 13, 14, 15, 16, 17, 18] rfl (by decide) (tX0_number l D cI cZ cJ (fun k => h (9 + k)) nC C 0 (nI k) (by omega) _) gX3_reserved_X0_number_n124 rfl rfl rfl zl_RX3_124 kX3_reserved_iRX0 kX3_reserved_nX0_number kX3_reserved_eX0_number (by decide +kernel) ⟨Nat.le_of_ble_eq_true rfl, Nat.le_of_ble_eq_true rfl⟩ rfl rfl rfl hl.1 rfl (Nat.le_of_ble_eq_true rfl) dX3_reserved_43 ⟨Nat.zero_le _, Nat.zero_le _⟩) hP hD hS hA [9, 10, 11, 12, 13, 14, 15, 16, 17, 18] rfl (fun r4 w1 H locs hp4 hP hD hS => ?_)
  obtain ⟨rfl, rfl⟩ := hp4
  have hP : va_P D vwCl (wX cI cZ h lev tm gn nL nC nE L (upC B 1 k (bI on)) C E) H := hP
  have hD : va_D A (wX cI cZ h lev tm gn nL nC nE L (upC B 1 k (bI on)) C E) := hD
  refine zn_add (i := cntW (fun k9 => isB C k9 1 (nI k)) nC) (j := cntW (fun k9 => isB C k9 0 (nI k)) nC) hx hb dX3_reserved_46 ?_
  exact z_iret hx hb hr hlocks hS hP rfl dX3_reserved_47 (⟨rfl, rfl⟩)


set_option maxHeartbeats 4000000 in
set_option maxRecDepth 100000 in
theorem tX3_freed (l : Launch) (D : va_G) (cI cZ cJ : ClassId) (h : Nat → Nat) (lev tm : Nat) (gn : Int32) (nL nC nE : Nat) (L B C E : Nat → Nat → Int32) (hL : nL ≤ 4) (hC : nC ≤ 24)  : ∀ sz : Nat, zMi l yX3_freed wsX3_freed ({ frames := 3, cells := 0, slots := 0, locals := 71 } : Room) D cI cZ cJ (wX cI cZ h lev tm gn nL nC nE L B C E) sz [.ref (h 0)] (fun r w' => r = (gaF L B nL (-1) C nC).2 ∧ w' = wX cI cZ h lev tm gn nL nC nE L B ((gaF L B nL (-1) C nC).1) E) := by
  intro sz
  refine z_head (y := yX3_freed) (av := [.ref (h 0)]) (w := (wX cI cZ h lev tm gn nL nC nE L B C E)) (Qc := fun A => zQi D (wX cI cZ h lev tm gn nL nC nE L B C E) (fun r w' => r = (gaF L B nL (-1) C nC).2 ∧ w' = wX cI cZ h lev tm gn nL nC nE L B ((gaF L B nL (-1) C nC).1) E) A) (cc := cX3_freed) (maxL := 1) (ret := (some .int)) (by decide) rfl (Nat.le_of_ble_eq_true rfl) ?_
  intro p e s m below meth c ls A hat hP hD hS hl
  obtain ⟨hx, hb, hr, hml, hlocks, hts, hown, hin, hK, hE, hA⟩ := hat
  have hP : va_P D vwCl (wX cI cZ h lev tm gn nL nC nE L B C E) s.heap := hP
  have hD : va_D A (wX cI cZ h lev tm gn nL nC nE L B C E) := hD
  have hl : lv_has ls 1 [(0, .ref (h 0))] := hl
  refine lv_aload_n hx hb dX3_freed_0 rfl (lv_at hl 0 rfl) ?_
  refine lv_iconst (v := (-1)) hx hb dX3_freed_1 (by decide) ?_
  refine z_backiA (z_runVA (n := 1) (As := [.int (-1)]) (ci := 4) (rest := []) hx hb hml hown hts hK hE hP hD (tX3_giveAnew l D cI cZ cJ h lev tm gn nL nC nE L B C E (-1) (by omega) (by omega) _) gX3_freed_X3_giveAnew rfl rfl rfl (by decide +kernel) ⟨Nat.le_of_ble_eq_true rfl, Nat.le_of_ble_eq_true rfl⟩ rfl rfl rfl hl.1 rfl (Nat.le_of_ble_eq_true rfl) dX3_freed_2 ⟨Nat.zero_le _, Nat.zero_le _⟩) hD hS hA (fun r1 w1 H locs hp1 hP hD hS => ?_)
  obtain ⟨rfl, rfl⟩ := hp1
  have hP : va_P D vwCl (wX cI cZ h lev tm gn nL nC nE L B ((gaF L B nL (-1) C nC).1) E) H := hP
  have hD : va_D A (wX cI cZ h lev tm gn nL nC nE L B ((gaF L B nL (-1) C nC).1) E) := hD
  exact z_iret hx hb hr hlocks hS hP rfl dX3_freed_5 (⟨rfl, rfl⟩)

theorem kX3_served_inX3 : ∀ w ∈ wsX30, w ∈ wsX3_served := by decide +kernel
theorem kX3_served_f32 : Cond.fieldLink RX3 32 "LiftRows2" "calls" "LLiftRows2$Calls;" ∈ wsX3_served := by decide +kernel
theorem kX3_served_inX0 : ∀ w ∈ wsX00, w ∈ wsX3_served := by decide +kernel
set_option maxHeartbeats 4000000 in
set_option maxRecDepth 100000 in
theorem tX3_served_ok (l : Launch) (D : va_G) (cI cZ cJ : ClassId) (h : Nat → Nat) (lev tm : Nat) (gn : Int32) (nL nC nE : Nat) (L B C E : Nat → Nat → Int32) (k : Nat) (hk : k < nC) (hL : nL ≤ 4) (hC : nC ≤ 24)  : ∀ sz : Nat, zMi l yX3_served wsX3_served ({ frames := 1, cells := 0, slots := 0, locals := 21 } : Room) D cI cZ cJ (wX cI cZ h lev tm gn nL nC nE L B C E) sz [.ref (h 0), .int (nI k)] (fun r w' => r = C 8 k ∧ w' = wX cI cZ h lev tm gn nL nC nE L B C E) := by
  intro sz
  refine z_head (y := yX3_served) (av := [.ref (h 0), .int (nI k)]) (w := (wX cI cZ h lev tm gn nL nC nE L B C E)) (Qc := fun A => zQi D (wX cI cZ h lev tm gn nL nC nE L B C E) (fun r w' => r = C 8 k ∧ w' = wX cI cZ h lev tm gn nL nC nE L B C E) A) (cc := cX3_served) (maxL := 2) (ret := (some .int)) (by decide) rfl (Nat.le_of_ble_eq_true rfl) ?_
  intro p e s m below meth c ls A hat hP hD hS hl
  obtain ⟨hx, hb, hr, hml, hlocks, hts, hown, hin, hK, hE, hA⟩ := hat
  have hP : va_P D vwCl (wX cI cZ h lev tm gn nL nC nE L B C E) s.heap := hP
  have hD : va_D A (wX cI cZ h lev tm gn nL nC nE L B C E) := hD
  have hl : lv_has ls 2 [(0, .ref (h 0)), (1, .int (nI k))] := hl
  refine lv_aload_n hx hb dX3_served_0 rfl (lv_at hl 0 rfl) ?_
  refine lv_iload_n hx hb dX3_served_1 rfl (lv_at hl 1 rfl) ?_
  refine z_backvA (z_runVA (n := 1) (As := [.int (nI k)]) (ci := 4) (rest := []) hx hb hml hown hts hK hE hP hD (tX3_refuseNoCall_ok l D cI cZ cJ h lev tm gn nL nC nE L B C E k (by omega) (by omega) (by omega) _) gX3_served_X3_refuseNoCall rfl rfl rfl (by decide +kernel) ⟨Nat.le_of_ble_eq_true rfl, Nat.le_of_ble_eq_true rfl⟩ rfl rfl rfl hl.1 rfl (Nat.le_of_ble_eq_true rfl) dX3_served_2 ⟨Nat.zero_le _, Nat.zero_le _⟩) hD hS hA (fun w1 H locs hp1 hP hD hS => ?_)
  obtain rfl := hp1
  have hP : va_P D vwCl (wX cI cZ h lev tm gn nL nC nE L B C E) H := hP
  have hD : va_D A (wX cI cZ h lev tm gn nL nC nE L B C E) := hD
  refine lv_aload_n hx hb dX3_served_5 rfl (lv_at hl 0 rfl) ?_
  refine va_get (D := D) (ci := 4) (v := .ref (h 9)) (C := RX3) (T := TX3) (N := 5) hx hb hts kX3_served_inX3 hown hK hP 0 rfl rfl 2 (by decide) (hts _ kX3_served_f32) (fun _ h9 => h9) rfl dX3_served_6 ?_
  refine va_getN (D := D) (ci := 1) (v := .ref (h 18)) (C := RX0) (T := TX0) (N := 10) hx hb hts kX3_served_inX0 hown hK hP 9 rfl rfl 8 (by decide) (va_Nw.use rfl (hE _ zl_RX3_156)) (fun _ h9 => h9) rfl dX3_served_9 ?_
  refine lv_iload_n hx hb dX3_served_12 rfl (lv_at hl 1 rfl) ?_
  refine z_iald (k := k) (v := C 8 k) hx hb hK hP 18 rfl (by decide) (by omega) (rfl) dX3_served_13 ?_
  exact z_iret hx hb hr hlocks hS hP rfl dX3_served_14 (⟨rfl, rfl⟩)

theorem kX3_waits_inX3 : ∀ w ∈ wsX30, w ∈ wsX3_waits := by decide +kernel
theorem kX3_waits_f32 : Cond.fieldLink RX3 32 "LiftRows2" "calls" "LLiftRows2$Calls;" ∈ wsX3_waits := by decide +kernel
theorem kX3_waits_inX0 : ∀ w ∈ wsX00, w ∈ wsX3_waits := by decide +kernel
theorem kX3_waits_f43 : Cond.fieldLink RX3 43 "LiftRows2" "time" "I" ∈ wsX3_waits := by decide +kernel
set_option maxHeartbeats 4000000 in
set_option maxRecDepth 100000 in
theorem tX3_waits_ok (l : Launch) (D : va_G) (cI cZ cJ : ClassId) (h : Nat → Nat) (lev tm : Nat) (gn : Int32) (nL nC nE : Nat) (L B C E : Nat → Nat → Int32) (k : Nat) (hk : k < nC) (hL : nL ≤ 4) (hC : nC ≤ 24)  : ∀ sz : Nat, zMi l yX3_waits wsX3_waits ({ frames := 1, cells := 0, slots := 0, locals := 21 } : Room) D cI cZ cJ (wX cI cZ h lev tm gn nL nC nE L B C E) sz [.ref (h 0), .int (nI k)] (fun r w' => r = (if C 4 k = 0 then nI tm else C 7 k) - C 6 k ∧ w' = wX cI cZ h lev tm gn nL nC nE L B C E) := by
  intro sz
  refine z_head (y := yX3_waits) (av := [.ref (h 0), .int (nI k)]) (w := (wX cI cZ h lev tm gn nL nC nE L B C E)) (Qc := fun A => zQi D (wX cI cZ h lev tm gn nL nC nE L B C E) (fun r w' => r = (if C 4 k = 0 then nI tm else C 7 k) - C 6 k ∧ w' = wX cI cZ h lev tm gn nL nC nE L B C E) A) (cc := cX3_waits) (maxL := 3) (ret := (some .int)) (by decide) rfl (Nat.le_of_ble_eq_true rfl) ?_
  intro p e s m below meth c ls A hat hP hD hS hl
  obtain ⟨hx, hb, hr, hml, hlocks, hts, hown, hin, hK, hE, hA⟩ := hat
  have hP : va_P D vwCl (wX cI cZ h lev tm gn nL nC nE L B C E) s.heap := hP
  have hD : va_D A (wX cI cZ h lev tm gn nL nC nE L B C E) := hD
  have hl : lv_has ls 3 [(0, .ref (h 0)), (1, .int (nI k))] := hl
  refine lv_aload_n hx hb dX3_waits_0 rfl (lv_at hl 0 rfl) ?_
  refine lv_iload_n hx hb dX3_waits_1 rfl (lv_at hl 1 rfl) ?_
  refine z_backvA (z_runVA (n := 1) (As := [.int (nI k)]) (ci := 4) (rest := []) hx hb hml hown hts hK hE hP hD (tX3_refuseNoCall_ok l D cI cZ cJ h lev tm gn nL nC nE L B C E k (by omega) (by omega) (by omega) _) gX3_waits_X3_refuseNoCall rfl rfl rfl (by decide +kernel) ⟨Nat.le_of_ble_eq_true rfl, Nat.le_of_ble_eq_true rfl⟩ rfl rfl rfl hl.1 rfl (Nat.le_of_ble_eq_true rfl) dX3_waits_2 ⟨Nat.zero_le _, Nat.zero_le _⟩) hD hS hA (fun w1 H locs hp1 hP hD hS => ?_)
  obtain rfl := hp1
  have hP : va_P D vwCl (wX cI cZ h lev tm gn nL nC nE L B C E) H := hP
  have hD : va_D A (wX cI cZ h lev tm gn nL nC nE L B C E) := hD
  refine lv_aload_n hx hb dX3_waits_5 rfl (lv_at hl 0 rfl) ?_
  refine va_get (D := D) (ci := 4) (v := .ref (h 9)) (C := RX3) (T := TX3) (N := 5) hx hb hts kX3_waits_inX3 hown hK hP 0 rfl rfl 2 (by decide) (hts _ kX3_waits_f32) (fun _ h9 => h9) rfl dX3_waits_6 ?_
  refine va_getN (D := D) (ci := 1) (v := .ref (h 14)) (C := RX0) (T := TX0) (N := 10) hx hb hts kX3_waits_inX0 hown hK hP 9 rfl rfl 4 (by decide) (va_Nw.use rfl (hE _ zl_RX3_159)) (fun _ h9 => h9) rfl dX3_waits_9 ?_
  refine lv_iload_n hx hb dX3_waits_12 rfl (lv_at hl 1 rfl) ?_
  refine z_iald (k := k) (v := C 4 k) hx hb hK hP 14 rfl (by decide) (by omega) (rfl) dX3_waits_13 ?_
  refine lv_if_ne (x := C 4 k) (tgt := 24) hx hb dX3_waits_14 (by decide) (fun c14 => ?_) (fun c14 => ?_)
  · skip
    refine lv_aload_n hx hb dX3_waits_24 rfl (lv_at hl 0 rfl) ?_
    refine va_get (D := D) (ci := 4) (v := .ref (h 9)) (C := RX3) (T := TX3) (N := 5) hx hb hts kX3_waits_inX3 hown hK hP 0 rfl rfl 2 (by decide) (hts _ kX3_waits_f32) (fun _ h9 => h9) rfl dX3_waits_25 ?_
    refine va_getN (D := D) (ci := 1) (v := .ref (h 17)) (C := RX0) (T := TX0) (N := 10) hx hb hts kX3_waits_inX0 hown hK hP 9 rfl rfl 7 (by decide) (va_Nw.use rfl (hE _ zl_RX3_162)) (fun _ h9 => h9) rfl dX3_waits_28 ?_
    refine lv_iload_n hx hb dX3_waits_31 rfl (lv_at hl 1 rfl) ?_
    refine z_iald (k := k) (v := C 7 k) hx hb hK hP 17 rfl (by decide) (by omega) (rfl) dX3_waits_32 ?_
    refine lv_istore_n (lv' := [(2, .int (C 7 k)), (0, .ref (h 0)), (1, .int (nI k))]) hx hb dX3_waits_33 rfl hl (by decide) rfl (fun ls hl => ?_)
    refine lv_iload_n hx hb dX3_waits_34 rfl (lv_at hl 0 rfl) ?_
    refine lv_aload_n hx hb dX3_waits_35 rfl (lv_at hl 1 rfl) ?_
    refine va_get (D := D) (ci := 4) (v := .ref (h 9)) (C := RX3) (T := TX3) (N := 5) hx hb hts kX3_waits_inX3 hown hK hP 0 rfl rfl 2 (by decide) (hts _ kX3_waits_f32) (fun _ h9 => h9) rfl dX3_waits_36 ?_
    refine va_getN (D := D) (ci := 1) (v := .ref (h 16)) (C := RX0) (T := TX0) (N := 10) hx hb hts kX3_waits_inX0 hown hK hP 9 rfl rfl 6 (by decide) (va_Nw.use rfl (hE _ zl_RX3_165)) (fun _ h9 => h9) rfl dX3_waits_39 ?_
    refine lv_iload_n hx hb dX3_waits_42 rfl (lv_at hl 2 rfl) ?_
    refine z_iald (k := k) (v := C 6 k) hx hb hK hP 16 rfl (by decide) (by omega) (rfl) dX3_waits_43 ?_
    refine lv_isub (x := C 7 k) (y := C 6 k) hx hb dX3_waits_44 ?_
    exact z_iret hx hb hr hlocks hS hP rfl dX3_waits_45 (⟨by simp [c14], rfl⟩)
  · skip
    refine lv_aload_n hx hb dX3_waits_17 rfl (lv_at hl 0 rfl) ?_
    refine va_get (D := D) (ci := 4) (v := .int (nI tm)) (C := RX3) (T := TX3) (N := 5) hx hb hts kX3_waits_inX3 hown hK hP 0 rfl rfl 4 (by decide) (hts _ kX3_waits_f43) (fun _ h9 => h9) rfl dX3_waits_18 ?_
    refine lv_goto (tgt := 33) hx hb dX3_waits_21 (by decide) ?_
    refine lv_istore_n (lv' := [(2, .int (nI tm)), (0, .ref (h 0)), (1, .int (nI k))]) hx hb dX3_waits_33 rfl hl (by decide) rfl (fun ls hl => ?_)
    refine lv_iload_n hx hb dX3_waits_34 rfl (lv_at hl 0 rfl) ?_
    refine lv_aload_n hx hb dX3_waits_35 rfl (lv_at hl 1 rfl) ?_
    refine va_get (D := D) (ci := 4) (v := .ref (h 9)) (C := RX3) (T := TX3) (N := 5) hx hb hts kX3_waits_inX3 hown hK hP 0 rfl rfl 2 (by decide) (hts _ kX3_waits_f32) (fun _ h9 => h9) rfl dX3_waits_36 ?_
    refine va_getN (D := D) (ci := 1) (v := .ref (h 16)) (C := RX0) (T := TX0) (N := 10) hx hb hts kX3_waits_inX0 hown hK hP 9 rfl rfl 6 (by decide) (va_Nw.use rfl (hE _ zl_RX3_165)) (fun _ h9 => h9) rfl dX3_waits_39 ?_
    refine lv_iload_n hx hb dX3_waits_42 rfl (lv_at hl 2 rfl) ?_
    refine z_iald (k := k) (v := C 6 k) hx hb hK hP 16 rfl (by decide) (by omega) (rfl) dX3_waits_43 ?_
    refine lv_isub (x := nI tm) (y := C 6 k) hx hb dX3_waits_44 ?_
    exact z_iret hx hb hr hlocks hS hP rfl dX3_waits_45 (⟨by simp [c14], rfl⟩)

theorem kX3_least_inX3 : ∀ w ∈ wsX30, w ∈ wsX3_least := by decide +kernel
theorem kX3_least_f32 : Cond.fieldLink RX3 32 "LiftRows2" "calls" "LLiftRows2$Calls;" ∈ wsX3_least := by decide +kernel
theorem kX3_least_iRX0 : Cond.initialized yX0_setOf.cls ∈ wsX3_least := by decide +kernel
theorem kX3_least_nX0_setOf : Cond.instanceMethod yX0_setOf ∈ wsX3_least := by decide +kernel
theorem kX3_least_eX0_setOf : Cond.selects RX0 yX0_setOf yX0_setOf ∈ wsX3_least := by decide +kernel
set_option maxHeartbeats 4000000 in
set_option maxRecDepth 100000 in
theorem tX3_least_many (l : Launch) (D : va_G) (cI cZ cJ : ClassId) (h : Nat → Nat) (lev tm : Nat) (gn : Int32) (nL nC nE : Nat) (L B C E : Nat → Nat → Int32) (k : Nat) (hk : k < nL) (hL : nL ≤ 4) (hC : nC ≤ 24) (hn : 4 < cntW (lsB C (nI k)) nC)  : ∀ sz : Nat, zMi l yX3_least wsX3_least ({ frames := 11, cells := 0, slots := 0, locals := 359 } : Room) D cI cZ cJ (wX cI cZ h lev tm gn nL nC nE L B C E) sz [.ref (h 0), .int (nI k)] (fun r w' => r = -1 ∧ w' = wX cI cZ h lev tm gn nL nC nE L B C E) := by
  intro sz
  refine z_head (y := yX3_least) (av := [.ref (h 0), .int (nI k)]) (w := (wX cI cZ h lev tm gn nL nC nE L B C E)) (Qc := fun A => zQi D (wX cI cZ h lev tm gn nL nC nE L B C E) (fun r w' => r = -1 ∧ w' = wX cI cZ h lev tm gn nL nC nE L B C E) A) (cc := cX3_least) (maxL := 4) (ret := (some .int)) (by decide) rfl (Nat.le_of_ble_eq_true rfl) ?_
  intro p e s m below meth c ls A hat hP hD hS hl
  obtain ⟨hx, hb, hr, hml, hlocks, hts, hown, hin, hK, hE, hA⟩ := hat
  have hP : va_P D vwCl (wX cI cZ h lev tm gn nL nC nE L B C E) s.heap := hP
  have hD : va_D A (wX cI cZ h lev tm gn nL nC nE L B C E) := hD
  have hl : lv_has ls 4 [(0, .ref (h 0)), (1, .int (nI k))] := hl
  have hcl := cntW_le (lsB C (nI k)) nC
  refine lv_aload_n hx hb dX3_least_0 rfl (lv_at hl 0 rfl) ?_
  refine lv_iload_n hx hb dX3_least_1 rfl (lv_at hl 1 rfl) ?_
  refine z_backvA (z_runVA (n := 1) (As := [.int (nI k)]) (ci := 4) (rest := []) hx hb hml hown hts hK hE hP hD (tX3_refuseNoLift_ok l D cI cZ cJ h lev tm gn nL nC nE L B C E k (by omega) (by omega) (by omega) _) gX3_least_X3_refuseNoLift rfl rfl rfl (by decide +kernel) ⟨Nat.le_of_ble_eq_true rfl, Nat.le_of_ble_eq_true rfl⟩ rfl rfl rfl hl.1 rfl (Nat.le_of_ble_eq_true rfl) dX3_least_2 ⟨Nat.zero_le _, Nat.zero_le _⟩) hD hS hA (fun w1 H locs hp1 hP hD hS => ?_)
  obtain rfl := hp1
  have hP : va_P D vwCl (wX cI cZ h lev tm gn nL nC nE L B C E) H := hP
  have hD : va_D A (wX cI cZ h lev tm gn nL nC nE L B C E) := hD
  refine lv_aload_n hx hb dX3_least_5 rfl (lv_at hl 0 rfl) ?_
  refine va_get (D := D) (ci := 4) (v := .ref (h 9)) (C := RX3) (T := TX3) (N := 5) hx hb hts kX3_least_inX3 hown hK hP 0 rfl rfl 2 (by decide) (hts _ kX3_least_f32) (fun _ h9 => h9) rfl dX3_least_6 ?_
  refine lv_iconst (v := 0) hx hb dX3_least_9 (by decide) ?_
  refine lv_iload_n hx hb dX3_least_10 rfl (lv_at hl 1 rfl) ?_
  refine z_backi (z_runVN (n := 2) (As := [.int 0, .int (nI k)]) (ci := 1) (rest := []) hx hb hml hown hts hK hE hP hD [9, 10, 11, 12, 13, 14, 15, 16, 17, 18] rfl (by decide) (tX0_setOf l D cI cZ cJ (fun k => h (9 + k)) nC C 0 (nI k) (by omega) _) gX3_least_X0_setOf_n168 rfl rfl rfl zl_RX3_168 kX3_least_iRX0 kX3_least_nX0_setOf kX3_least_eX0_setOf (by decide +kernel) ⟨Nat.le_of_ble_eq_true rfl, Nat.le_of_ble_eq_true rfl⟩ rfl rfl rfl hl.1 rfl (Nat.le_of_ble_eq_true rfl) dX3_least_11 ⟨Nat.zero_le _, Nat.zero_le _⟩) hP hD hS hA [9, 10, 11, 12, 13, 14, 15, 16, 17, 18] rfl (fun r2 w1 H locs hp2 hP hD hS => ?_)
  obtain ⟨rfl, rfl⟩ := hp2
  have hP : va_P D vwCl (wX cI cZ h lev tm gn nL nC nE L B C E) H := hP
  have hD : va_D A (wX cI cZ h lev tm gn nL nC nE L B C E) := hD
  refine lv_istore_n (lv' := [(2, .int (setG (fun k9 => isB C k9 0 (nI k)) nI nC)), (0, .ref (h 0)), (1, .int (nI k))]) hx hb dX3_least_14 rfl hl (by decide) rfl (fun ls hl => ?_)
  refine lv_aload_n hx hb dX3_least_15 rfl (lv_at hl 1 rfl) ?_
  refine va_get (D := D) (ci := 4) (v := .ref (h 9)) (C := RX3) (T := TX3) (N := 5) hx hb hts kX3_least_inX3 hown hK hP 0 rfl rfl 2 (by decide) (hts _ kX3_least_f32) (fun _ h9 => h9) rfl dX3_least_16 ?_
  refine lv_iconst (v := 1) hx hb dX3_least_19 (by decide) ?_
  refine lv_iload_n hx hb dX3_least_20 rfl (lv_at hl 2 rfl) ?_
  refine z_backi (z_runVN (n := 2) (As := [.int 1, .int (nI k)]) (ci := 1) (rest := []) hx hb hml hown hts hK hE hP hD [9, 10, 11, 12, 13, 14, 15, 16, 17, 18] rfl (by decide) (tX0_setOf l D cI cZ cJ (fun k => h (9 + k)) nC C 1 (nI k) (by omega) _) gX3_least_X0_setOf_n168 rfl rfl rfl zl_RX3_168 kX3_least_iRX0 kX3_least_nX0_setOf kX3_least_eX0_setOf (by decide +kernel) ⟨Nat.le_of_ble_eq_true rfl, Nat.le_of_ble_eq_true rfl⟩ rfl rfl rfl hl.1 rfl (Nat.le_of_ble_eq_true rfl) dX3_least_21 ⟨Nat.zero_le _, Nat.zero_le _⟩) hP hD hS hA [9, 10, 11, 12, 13, 14, 15, 16, 17, 18] rfl (fun r3 w1 H locs hp3 hP hD hS => ?_)
  obtain ⟨rfl, rfl⟩ := hp3
  have hP : va_P D vwCl (wX cI cZ h lev tm gn nL nC nE L B C E) H := hP
  have hD : va_D A (wX cI cZ h lev tm gn nL nC nE L B C E) := hD
  refine lv_istore_n (lv' := [(3, .int (setG (fun k9 => isB C k9 1 (nI k)) nI nC)), (2, .int (setG (fun k9 => isB C k9 0 (nI k)) nI nC)), (0, .ref (h 0)), (1, .int (nI k))]) hx hb dX3_least_24 rfl hl (by decide) rfl (fun ls hl => ?_)
  refine lv_iload_n hx hb dX3_least_25 rfl (lv_at hl 1 rfl) ?_
  refine lv_iload_n hx hb dX3_least_26 rfl (lv_at hl 0 rfl) ?_
  refine lv_ior (x := setG (fun k9 => isB C k9 0 (nI k)) nI nC) (y := setG (fun k9 => isB C k9 1 (nI k)) nI nC) hx hb dX3_least_27 ?_
  refine z_backi (z_runS (n := 1) (As := [.int ((setG (fun k9 => isB C k9 0 (nI k)) nI nC) ||| (setG (fun k9 => isB C k9 1 (nI k)) nI nC))]) (rest := []) hx hb hml hown hts hK hE hP hD [] rfl (by decide) (tJ6_bitCount_0f7a4 l D cI cZ cJ ((setG (fun k9 => isB C k9 0 (nI k)) nI nC) ||| (setG (fun k9 => isB C k9 1 (nI k)) nI nC)) _) gX3_least_J6_bitCount_0f7a4 rfl rfl rfl (by decide +kernel) ⟨Nat.le_of_ble_eq_true rfl, Nat.le_of_ble_eq_true rfl⟩ rfl hl.1 rfl (Nat.le_of_ble_eq_true rfl) dX3_least_28 ⟨Nat.zero_le _, Nat.zero_le _⟩) hP hD hS hA [] rfl (fun r4 w1 H locs hp4 hP hD hS => ?_)
  obtain ⟨rfl, rfl⟩ := hp4
  have hP : va_P D vwCl (wX cI cZ h lev tm gn nL nC nE L B C E) H := hP
  have hD : va_D A (wX cI cZ h lev tm gn nL nC nE L B C E) := hD
  refine z_top (bc_ls C (nI k) hC) ?_
  refine lv_iconst (v := 4) hx hb dX3_least_31 (by decide) ?_
  refine zn_le (i := cntW (lsB C (nI k)) nC) (j := 4) (tgt := 37) hx hb (by omega) (by omega) dX3_least_32 (by decide) (fun c32 => ?_) (fun c32 => ?_)
  · exact absurd c32 (by omega)
  · skip
    refine lv_iconst (v := (-1)) hx hb dX3_least_35 (by decide) ?_
    exact z_iret hx hb hr hlocks hS hP rfl dX3_least_36 (⟨rfl, rfl⟩)

theorem kX3_least_f25 : Cond.fieldLink RX3 25 "LiftRows2" "lifts" "LLiftRows2$Lifts;" ∈ wsX3_least := by decide +kernel
theorem kX3_least_inX2 : ∀ w ∈ wsX20, w ∈ wsX3_least := by decide +kernel
set_option maxHeartbeats 4000000 in
set_option maxRecDepth 100000 in
theorem tX3_least_ok (l : Launch) (D : va_G) (cI cZ cJ : ClassId) (h : Nat → Nat) (lev tm : Nat) (gn : Int32) (nL nC nE : Nat) (L B C E : Nat → Nat → Int32) (k : Nat) (hk : k < nL) (hL : nL ≤ 4) (hC : nC ≤ 24) (hn : cntW (lsB C (nI k)) nC ≤ 4)  : ∀ sz : Nat, zMi l yX3_least wsX3_least ({ frames := 11, cells := 0, slots := 0, locals := 359 } : Room) D cI cZ cJ (wX cI cZ h lev tm gn nL nC nE L B C E) sz [.ref (h 0), .int (nI k)] (fun r w' => r = lwF C nC 8 (L 0 k) (setG (fun k9 => isB C k9 0 (nI k)) nI nC) (setG (fun k9 => isB C k9 1 (nI k)) nI nC) ∧ w' = wX cI cZ h lev tm gn nL nC nE L B C E) := by
  intro sz
  refine z_head (y := yX3_least) (av := [.ref (h 0), .int (nI k)]) (w := (wX cI cZ h lev tm gn nL nC nE L B C E)) (Qc := fun A => zQi D (wX cI cZ h lev tm gn nL nC nE L B C E) (fun r w' => r = lwF C nC 8 (L 0 k) (setG (fun k9 => isB C k9 0 (nI k)) nI nC) (setG (fun k9 => isB C k9 1 (nI k)) nI nC) ∧ w' = wX cI cZ h lev tm gn nL nC nE L B C E) A) (cc := cX3_least) (maxL := 4) (ret := (some .int)) (by decide) rfl (Nat.le_of_ble_eq_true rfl) ?_
  intro p e s m below meth c ls A hat hP hD hS hl
  obtain ⟨hx, hb, hr, hml, hlocks, hts, hown, hin, hK, hE, hA⟩ := hat
  have hP : va_P D vwCl (wX cI cZ h lev tm gn nL nC nE L B C E) s.heap := hP
  have hD : va_D A (wX cI cZ h lev tm gn nL nC nE L B C E) := hD
  have hl : lv_has ls 4 [(0, .ref (h 0)), (1, .int (nI k))] := hl
  have hcl := cntW_le (lsB C (nI k)) nC
  refine lv_aload_n hx hb dX3_least_0 rfl (lv_at hl 0 rfl) ?_
  refine lv_iload_n hx hb dX3_least_1 rfl (lv_at hl 1 rfl) ?_
  refine z_backvA (z_runVA (n := 1) (As := [.int (nI k)]) (ci := 4) (rest := []) hx hb hml hown hts hK hE hP hD (tX3_refuseNoLift_ok l D cI cZ cJ h lev tm gn nL nC nE L B C E k (by omega) (by omega) (by omega) _) gX3_least_X3_refuseNoLift rfl rfl rfl (by decide +kernel) ⟨Nat.le_of_ble_eq_true rfl, Nat.le_of_ble_eq_true rfl⟩ rfl rfl rfl hl.1 rfl (Nat.le_of_ble_eq_true rfl) dX3_least_2 ⟨Nat.zero_le _, Nat.zero_le _⟩) hD hS hA (fun w1 H locs hp1 hP hD hS => ?_)
  obtain rfl := hp1
  have hP : va_P D vwCl (wX cI cZ h lev tm gn nL nC nE L B C E) H := hP
  have hD : va_D A (wX cI cZ h lev tm gn nL nC nE L B C E) := hD
  refine lv_aload_n hx hb dX3_least_5 rfl (lv_at hl 0 rfl) ?_
  refine va_get (D := D) (ci := 4) (v := .ref (h 9)) (C := RX3) (T := TX3) (N := 5) hx hb hts kX3_least_inX3 hown hK hP 0 rfl rfl 2 (by decide) (hts _ kX3_least_f32) (fun _ h9 => h9) rfl dX3_least_6 ?_
  refine lv_iconst (v := 0) hx hb dX3_least_9 (by decide) ?_
  refine lv_iload_n hx hb dX3_least_10 rfl (lv_at hl 1 rfl) ?_
  refine z_backi (z_runVN (n := 2) (As := [.int 0, .int (nI k)]) (ci := 1) (rest := []) hx hb hml hown hts hK hE hP hD [9, 10, 11, 12, 13, 14, 15, 16, 17, 18] rfl (by decide) (tX0_setOf l D cI cZ cJ (fun k => h (9 + k)) nC C 0 (nI k) (by omega) _) gX3_least_X0_setOf_n168 rfl rfl rfl zl_RX3_168 kX3_least_iRX0 kX3_least_nX0_setOf kX3_least_eX0_setOf (by decide +kernel) ⟨Nat.le_of_ble_eq_true rfl, Nat.le_of_ble_eq_true rfl⟩ rfl rfl rfl hl.1 rfl (Nat.le_of_ble_eq_true rfl) dX3_least_11 ⟨Nat.zero_le _, Nat.zero_le _⟩) hP hD hS hA [9, 10, 11, 12, 13, 14, 15, 16, 17, 18] rfl (fun r2 w1 H locs hp2 hP hD hS => ?_)
  obtain ⟨rfl, rfl⟩ := hp2
  have hP : va_P D vwCl (wX cI cZ h lev tm gn nL nC nE L B C E) H := hP
  have hD : va_D A (wX cI cZ h lev tm gn nL nC nE L B C E) := hD
  refine lv_istore_n (lv' := [(2, .int (setG (fun k9 => isB C k9 0 (nI k)) nI nC)), (0, .ref (h 0)), (1, .int (nI k))]) hx hb dX3_least_14 rfl hl (by decide) rfl (fun ls hl => ?_)
  refine lv_aload_n hx hb dX3_least_15 rfl (lv_at hl 1 rfl) ?_
  refine va_get (D := D) (ci := 4) (v := .ref (h 9)) (C := RX3) (T := TX3) (N := 5) hx hb hts kX3_least_inX3 hown hK hP 0 rfl rfl 2 (by decide) (hts _ kX3_least_f32) (fun _ h9 => h9) rfl dX3_least_16 ?_
  refine lv_iconst (v := 1) hx hb dX3_least_19 (by decide) ?_
  refine lv_iload_n hx hb dX3_least_20 rfl (lv_at hl 2 rfl) ?_
  refine z_backi (z_runVN (n := 2) (As := [.int 1, .int (nI k)]) (ci := 1) (rest := []) hx hb hml hown hts hK hE hP hD [9, 10, 11, 12, 13, 14, 15, 16, 17, 18] rfl (by decide) (tX0_setOf l D cI cZ cJ (fun k => h (9 + k)) nC C 1 (nI k) (by omega) _) gX3_least_X0_setOf_n168 rfl rfl rfl zl_RX3_168 kX3_least_iRX0 kX3_least_nX0_setOf kX3_least_eX0_setOf (by decide +kernel) ⟨Nat.le_of_ble_eq_true rfl, Nat.le_of_ble_eq_true rfl⟩ rfl rfl rfl hl.1 rfl (Nat.le_of_ble_eq_true rfl) dX3_least_21 ⟨Nat.zero_le _, Nat.zero_le _⟩) hP hD hS hA [9, 10, 11, 12, 13, 14, 15, 16, 17, 18] rfl (fun r3 w1 H locs hp3 hP hD hS => ?_)
  obtain ⟨rfl, rfl⟩ := hp3
  have hP : va_P D vwCl (wX cI cZ h lev tm gn nL nC nE L B C E) H := hP
  have hD : va_D A (wX cI cZ h lev tm gn nL nC nE L B C E) := hD
  refine lv_istore_n (lv' := [(3, .int (setG (fun k9 => isB C k9 1 (nI k)) nI nC)), (2, .int (setG (fun k9 => isB C k9 0 (nI k)) nI nC)), (0, .ref (h 0)), (1, .int (nI k))]) hx hb dX3_least_24 rfl hl (by decide) rfl (fun ls hl => ?_)
  refine lv_iload_n hx hb dX3_least_25 rfl (lv_at hl 1 rfl) ?_
  refine lv_iload_n hx hb dX3_least_26 rfl (lv_at hl 0 rfl) ?_
  refine lv_ior (x := setG (fun k9 => isB C k9 0 (nI k)) nI nC) (y := setG (fun k9 => isB C k9 1 (nI k)) nI nC) hx hb dX3_least_27 ?_
  refine z_backi (z_runS (n := 1) (As := [.int ((setG (fun k9 => isB C k9 0 (nI k)) nI nC) ||| (setG (fun k9 => isB C k9 1 (nI k)) nI nC))]) (rest := []) hx hb hml hown hts hK hE hP hD [] rfl (by decide) (tJ6_bitCount_0f7a4 l D cI cZ cJ ((setG (fun k9 => isB C k9 0 (nI k)) nI nC) ||| (setG (fun k9 => isB C k9 1 (nI k)) nI nC)) _) gX3_least_J6_bitCount_0f7a4 rfl rfl rfl (by decide +kernel) ⟨Nat.le_of_ble_eq_true rfl, Nat.le_of_ble_eq_true rfl⟩ rfl hl.1 rfl (Nat.le_of_ble_eq_true rfl) dX3_least_28 ⟨Nat.zero_le _, Nat.zero_le _⟩) hP hD hS hA [] rfl (fun r4 w1 H locs hp4 hP hD hS => ?_)
  obtain ⟨rfl, rfl⟩ := hp4
  have hP : va_P D vwCl (wX cI cZ h lev tm gn nL nC nE L B C E) H := hP
  have hD : va_D A (wX cI cZ h lev tm gn nL nC nE L B C E) := hD
  refine z_top (bc_ls C (nI k) hC) ?_
  refine lv_iconst (v := 4) hx hb dX3_least_31 (by decide) ?_
  refine zn_le (i := cntW (lsB C (nI k)) nC) (j := 4) (tgt := 37) hx hb (by omega) (by omega) dX3_least_32 (by decide) (fun c32 => ?_) (fun c32 => ?_)
  · skip
    refine lv_aload_n hx hb dX3_least_37 rfl (lv_at hl 2 rfl) ?_
    refine va_get (D := D) (ci := 4) (v := .ref (h 9)) (C := RX3) (T := TX3) (N := 5) hx hb hts kX3_least_inX3 hown hK hP 0 rfl rfl 2 (by decide) (hts _ kX3_least_f32) (fun _ h9 => h9) rfl dX3_least_38 ?_
    refine lv_aload_n hx hb dX3_least_41 rfl (lv_at hl 2 rfl) ?_
    refine va_get (D := D) (ci := 4) (v := .ref (h 1)) (C := RX3) (T := TX3) (N := 5) hx hb hts kX3_least_inX3 hown hK hP 0 rfl rfl 1 (by decide) (hts _ kX3_least_f25) (fun _ h9 => h9) rfl dX3_least_42 ?_
    refine va_getN (D := D) (ci := 3) (v := .ref (h 2)) (C := RX2) (T := TX2) (N := 9) hx hb hts kX3_least_inX2 hown hK hP 1 rfl rfl 0 (by decide) (va_Nw.use rfl (hE _ zl_RX3_111)) (fun _ h9 => h9) rfl dX3_least_45 ?_
    refine lv_iload_n hx hb dX3_least_48 rfl (lv_at hl 3 rfl) ?_
    refine z_iald (k := k) (v := L 0 k) hx hb hK hP 2 rfl (by decide) (by omega) (rfl) dX3_least_49 ?_
    refine lv_iload_n hx hb dX3_least_50 rfl (lv_at hl 1 rfl) ?_
    refine lv_iload_n hx hb dX3_least_51 rfl (lv_at hl 0 rfl) ?_
    refine lv_iconst (v := 0) hx hb dX3_least_52 (by decide) ?_
    refine z_backi (z_runS (n := 5) (As := [.ref (h 9), .int (L 0 k), .int (setG (fun k9 => isB C k9 0 (nI k)) nI nC), .int (setG (fun k9 => isB C k9 1 (nI k)) nI nC), .int 0]) (rest := []) hx hb hml hown hts hK hE hP hD [9, 10, 11, 12, 13, 14, 15, 16, 17, 18] rfl (by decide) (tX3_leastWay l D cI cZ cJ (fun k => h (9 + k)) nC C (by omega) (L 0 k) (setG (fun k9 => isB C k9 0 (nI k)) nI nC) (setG (fun k9 => isB C k9 1 (nI k)) nI nC) _) gX3_least_X3_leastWay rfl rfl rfl (by decide +kernel) ⟨Nat.le_of_ble_eq_true rfl, Nat.le_of_ble_eq_true rfl⟩ rfl hl.1 rfl (Nat.le_of_ble_eq_true rfl) dX3_least_53 ⟨Nat.zero_le _, Nat.zero_le _⟩) hP hD hS hA [9, 10, 11, 12, 13, 14, 15, 16, 17, 18] rfl (fun r5 w1 H locs hp5 hP hD hS => ?_)
    obtain ⟨rfl, rfl⟩ := hp5
    have hP : va_P D vwCl (wX cI cZ h lev tm gn nL nC nE L B C E) H := hP
    have hD : va_D A (wX cI cZ h lev tm gn nL nC nE L B C E) := hD
    exact z_iret hx hb hr hlocks hS hP rfl dX3_least_56 (⟨rfl, rfl⟩)
  · exact absurd c32 (by omega)

theorem kX3_joins_inX3 : ∀ w ∈ wsX30, w ∈ wsX3_joins := by decide +kernel
theorem kX3_joins_f32 : Cond.fieldLink RX3 32 "LiftRows2" "calls" "LLiftRows2$Calls;" ∈ wsX3_joins := by decide +kernel
theorem kX3_joins_inX0 : ∀ w ∈ wsX00, w ∈ wsX3_joins := by decide +kernel
set_option maxHeartbeats 4000000 in
set_option maxRecDepth 100000 in
theorem tX3_joins_ok (l : Launch) (D : va_G) (cI cZ cJ : ClassId) (h : Nat → Nat) (lev tm : Nat) (gn : Int32) (nL nC nE : Nat) (L B C E : Nat → Nat → Int32) (k k2 : Nat) (hk : k < nC) (hk2 : k2 < nC) (hL : nL ≤ 4) (hC : nC ≤ 24) (hy : C 4 k = 0) (hy2 : C 4 k2 = 0)  : ∀ sz : Nat, zMi l yX3_joins wsX3_joins ({ frames := 1, cells := 0, slots := 0, locals := 21 } : Room) D cI cZ cJ (wX cI cZ h lev tm gn nL nC nE L B C E) sz [.ref (h 0), .int (nI k), .int (nI k2)] (fun r w' => r = bI (decide (C 0 k = C 0 k2) && decide (C 1 k = C 1 k2)) ∧ w' = wX cI cZ h lev tm gn nL nC nE L B C E) := by
  intro sz
  refine z_head (y := yX3_joins) (av := [.ref (h 0), .int (nI k), .int (nI k2)]) (w := (wX cI cZ h lev tm gn nL nC nE L B C E)) (Qc := fun A => zQi D (wX cI cZ h lev tm gn nL nC nE L B C E) (fun r w' => r = bI (decide (C 0 k = C 0 k2) && decide (C 1 k = C 1 k2)) ∧ w' = wX cI cZ h lev tm gn nL nC nE L B C E) A) (cc := cX3_joins) (maxL := 3) (ret := (some .boolean)) (by decide) rfl (Nat.le_of_ble_eq_true rfl) ?_
  intro p e s m below meth c ls A hat hP hD hS hl
  obtain ⟨hx, hb, hr, hml, hlocks, hts, hown, hin, hK, hE, hA⟩ := hat
  have hP : va_P D vwCl (wX cI cZ h lev tm gn nL nC nE L B C E) s.heap := hP
  have hD : va_D A (wX cI cZ h lev tm gn nL nC nE L B C E) := hD
  have hl : lv_has ls 3 [(0, .ref (h 0)), (1, .int (nI k)), (2, .int (nI k2))] := hl
  refine lv_aload_n hx hb dX3_joins_0 rfl (lv_at hl 0 rfl) ?_
  refine lv_iload_n hx hb dX3_joins_1 rfl (lv_at hl 1 rfl) ?_
  refine z_backvA (z_runVA (n := 1) (As := [.int (nI k)]) (ci := 4) (rest := []) hx hb hml hown hts hK hE hP hD (tX3_refuseNoCall_ok l D cI cZ cJ h lev tm gn nL nC nE L B C E k (by omega) (by omega) (by omega) _) gX3_joins_X3_refuseNoCall rfl rfl rfl (by decide +kernel) ⟨Nat.le_of_ble_eq_true rfl, Nat.le_of_ble_eq_true rfl⟩ rfl rfl rfl hl.1 rfl (Nat.le_of_ble_eq_true rfl) dX3_joins_2 ⟨Nat.zero_le _, Nat.zero_le _⟩) hD hS hA (fun w1 H locs hp1 hP hD hS => ?_)
  obtain rfl := hp1
  have hP : va_P D vwCl (wX cI cZ h lev tm gn nL nC nE L B C E) H := hP
  have hD : va_D A (wX cI cZ h lev tm gn nL nC nE L B C E) := hD
  refine lv_aload_n hx hb dX3_joins_5 rfl (lv_at hl 0 rfl) ?_
  refine lv_iload_n hx hb dX3_joins_6 rfl (lv_at hl 2 rfl) ?_
  refine z_backvA (z_runVA (n := 1) (As := [.int (nI k2)]) (ci := 4) (rest := []) hx hb hml hown hts hK hE hP hD (tX3_refuseNoCall_ok l D cI cZ cJ h lev tm gn nL nC nE L B C E k2 (by omega) (by omega) (by omega) _) gX3_joins_X3_refuseNoCall rfl rfl rfl (by decide +kernel) ⟨Nat.le_of_ble_eq_true rfl, Nat.le_of_ble_eq_true rfl⟩ rfl rfl rfl hl.1 rfl (Nat.le_of_ble_eq_true rfl) dX3_joins_7 ⟨Nat.zero_le _, Nat.zero_le _⟩) hD hS hA (fun w1 H locs hp2 hP hD hS => ?_)
  obtain rfl := hp2
  have hP : va_P D vwCl (wX cI cZ h lev tm gn nL nC nE L B C E) H := hP
  have hD : va_D A (wX cI cZ h lev tm gn nL nC nE L B C E) := hD
  refine lv_aload_n hx hb dX3_joins_10 rfl (lv_at hl 0 rfl) ?_
  refine va_get (D := D) (ci := 4) (v := .ref (h 9)) (C := RX3) (T := TX3) (N := 5) hx hb hts kX3_joins_inX3 hown hK hP 0 rfl rfl 2 (by decide) (hts _ kX3_joins_f32) (fun _ h9 => h9) rfl dX3_joins_11 ?_
  refine va_getN (D := D) (ci := 1) (v := .ref (h 14)) (C := RX0) (T := TX0) (N := 10) hx hb hts kX3_joins_inX0 hown hK hP 9 rfl rfl 4 (by decide) (va_Nw.use rfl (hE _ zl_RX3_159)) (fun _ h9 => h9) rfl dX3_joins_14 ?_
  refine lv_iload_n hx hb dX3_joins_17 rfl (lv_at hl 1 rfl) ?_
  refine z_iald (k := k) (v := C 4 k) hx hb hK hP 14 rfl (by decide) (by omega) (rfl) dX3_joins_18 ?_
  refine lv_if_ne (x := C 4 k) (tgt := 34) hx hb dX3_joins_19 (by decide) (fun c19 => ?_) (fun c19 => ?_)
  · exact absurd hy c19
  · skip
    refine lv_aload_n hx hb dX3_joins_22 rfl (lv_at hl 0 rfl) ?_
    refine va_get (D := D) (ci := 4) (v := .ref (h 9)) (C := RX3) (T := TX3) (N := 5) hx hb hts kX3_joins_inX3 hown hK hP 0 rfl rfl 2 (by decide) (hts _ kX3_joins_f32) (fun _ h9 => h9) rfl dX3_joins_23 ?_
    refine va_getN (D := D) (ci := 1) (v := .ref (h 14)) (C := RX0) (T := TX0) (N := 10) hx hb hts kX3_joins_inX0 hown hK hP 9 rfl rfl 4 (by decide) (va_Nw.use rfl (hE _ zl_RX3_159)) (fun _ h9 => h9) rfl dX3_joins_26 ?_
    refine lv_iload_n hx hb dX3_joins_29 rfl (lv_at hl 2 rfl) ?_
    refine z_iald (k := k2) (v := C 4 k2) hx hb hK hP 14 rfl (by decide) (by omega) (rfl) dX3_joins_30 ?_
    refine lv_if_eq (x := C 4 k2) (tgt := 44) hx hb dX3_joins_31 (by decide) (fun c31 => ?_) (fun c31 => ?_)
    · skip
      refine lv_aload_n hx hb dX3_joins_44 rfl (lv_at hl 0 rfl) ?_
      refine va_get (D := D) (ci := 4) (v := .ref (h 9)) (C := RX3) (T := TX3) (N := 5) hx hb hts kX3_joins_inX3 hown hK hP 0 rfl rfl 2 (by decide) (hts _ kX3_joins_f32) (fun _ h9 => h9) rfl dX3_joins_45 ?_
      refine va_getN (D := D) (ci := 1) (v := .ref (h 10)) (C := RX0) (T := TX0) (N := 10) hx hb hts kX3_joins_inX0 hown hK hP 9 rfl rfl 0 (by decide) (va_Nw.use rfl (hE _ zl_RX3_182)) (fun _ h9 => h9) rfl dX3_joins_48 ?_
      refine lv_iload_n hx hb dX3_joins_51 rfl (lv_at hl 1 rfl) ?_
      refine z_iald (k := k) (v := C 0 k) hx hb hK hP 10 rfl (by decide) (by omega) (rfl) dX3_joins_52 ?_
      refine lv_aload_n hx hb dX3_joins_53 rfl (lv_at hl 0 rfl) ?_
      refine va_get (D := D) (ci := 4) (v := .ref (h 9)) (C := RX3) (T := TX3) (N := 5) hx hb hts kX3_joins_inX3 hown hK hP 0 rfl rfl 2 (by decide) (hts _ kX3_joins_f32) (fun _ h9 => h9) rfl dX3_joins_54 ?_
      refine va_getN (D := D) (ci := 1) (v := .ref (h 10)) (C := RX0) (T := TX0) (N := 10) hx hb hts kX3_joins_inX0 hown hK hP 9 rfl rfl 0 (by decide) (va_Nw.use rfl (hE _ zl_RX3_182)) (fun _ h9 => h9) rfl dX3_joins_57 ?_
      refine lv_iload_n hx hb dX3_joins_60 rfl (lv_at hl 2 rfl) ?_
      refine z_iald (k := k2) (v := C 0 k2) hx hb hK hP 10 rfl (by decide) (by omega) (rfl) dX3_joins_61 ?_
      refine lv_icmp_ne (x := C 0 k) (y := C 0 k2) (tgt := 90) hx hb dX3_joins_62 (by decide) (fun c62 => ?_) (fun c62 => ?_)
      · skip
        refine lv_iconst (v := 0) hx hb dX3_joins_90 (by decide) ?_
        exact z_zret hx hb hr hlocks hS hP rfl (Or.inl rfl) dX3_joins_91 (⟨by simp [bI, c19, c31, c62], rfl⟩)
      · skip
        refine lv_aload_n hx hb dX3_joins_65 rfl (lv_at hl 0 rfl) ?_
        refine va_get (D := D) (ci := 4) (v := .ref (h 9)) (C := RX3) (T := TX3) (N := 5) hx hb hts kX3_joins_inX3 hown hK hP 0 rfl rfl 2 (by decide) (hts _ kX3_joins_f32) (fun _ h9 => h9) rfl dX3_joins_66 ?_
        refine va_getN (D := D) (ci := 1) (v := .ref (h 11)) (C := RX0) (T := TX0) (N := 10) hx hb hts kX3_joins_inX0 hown hK hP 9 rfl rfl 1 (by decide) (va_Nw.use rfl (hE _ zl_RX3_185)) (fun _ h9 => h9) rfl dX3_joins_69 ?_
        refine lv_iload_n hx hb dX3_joins_72 rfl (lv_at hl 1 rfl) ?_
        refine z_iald (k := k) (v := C 1 k) hx hb hK hP 11 rfl (by decide) (by omega) (rfl) dX3_joins_73 ?_
        refine lv_aload_n hx hb dX3_joins_74 rfl (lv_at hl 0 rfl) ?_
        refine va_get (D := D) (ci := 4) (v := .ref (h 9)) (C := RX3) (T := TX3) (N := 5) hx hb hts kX3_joins_inX3 hown hK hP 0 rfl rfl 2 (by decide) (hts _ kX3_joins_f32) (fun _ h9 => h9) rfl dX3_joins_75 ?_
        refine va_getN (D := D) (ci := 1) (v := .ref (h 11)) (C := RX0) (T := TX0) (N := 10) hx hb hts kX3_joins_inX0 hown hK hP 9 rfl rfl 1 (by decide) (va_Nw.use rfl (hE _ zl_RX3_185)) (fun _ h9 => h9) rfl dX3_joins_78 ?_
        refine lv_iload_n hx hb dX3_joins_81 rfl (lv_at hl 2 rfl) ?_
        refine z_iald (k := k2) (v := C 1 k2) hx hb hK hP 11 rfl (by decide) (by omega) (rfl) dX3_joins_82 ?_
        refine lv_icmp_ne (x := C 1 k) (y := C 1 k2) (tgt := 90) hx hb dX3_joins_83 (by decide) (fun c83 => ?_) (fun c83 => ?_)
        · skip
          refine lv_iconst (v := 0) hx hb dX3_joins_90 (by decide) ?_
          exact z_zret hx hb hr hlocks hS hP rfl (Or.inl rfl) dX3_joins_91 (⟨by simp [bI, c19, c31, c62, c83], rfl⟩)
        · skip
          refine lv_iconst (v := 1) hx hb dX3_joins_86 (by decide) ?_
          refine lv_goto (tgt := 91) hx hb dX3_joins_87 (by decide) ?_
          exact z_zret hx hb hr hlocks hS hP rfl (Or.inr rfl) dX3_joins_91 (⟨by simp [bI, c19, c31, c62, c83], rfl⟩)
    · exact absurd hy2 c31

theorem kX3_known_inX3 : ∀ w ∈ wsX30, w ∈ wsX3_known := by decide +kernel
theorem kX3_known_f32 : Cond.fieldLink RX3 32 "LiftRows2" "calls" "LLiftRows2$Calls;" ∈ wsX3_known := by decide +kernel
theorem kX3_known_inX0 : ∀ w ∈ wsX00, w ∈ wsX3_known := by decide +kernel
set_option maxHeartbeats 4000000 in
set_option maxRecDepth 100000 in
theorem tX3_known_ok (l : Launch) (D : va_G) (cI cZ cJ : ClassId) (h : Nat → Nat) (lev tm : Nat) (gn : Int32) (nL nC nE : Nat) (L B C E : Nat → Nat → Int32) (k : Nat) (hk : k < nC) (hL : nL ≤ 4) (hC : nC ≤ 24) (u : Int32) (h2 : inB u 0 5 = true)  : ∀ sz : Nat, zMi l yX3_known wsX3_known ({ frames := 1, cells := 0, slots := 0, locals := 22 } : Room) D cI cZ cJ (wX cI cZ h lev tm gn nL nC nE L B C E) sz [.ref (h 0), .int (nI k), .int u] (fun r w' => r = knI C k u ∧ w' = wX cI cZ h lev tm gn nL nC nE L B C E) := by
  intro sz
  refine z_head (y := yX3_known) (av := [.ref (h 0), .int (nI k), .int u]) (w := (wX cI cZ h lev tm gn nL nC nE L B C E)) (Qc := fun A => zQi D (wX cI cZ h lev tm gn nL nC nE L B C E) (fun r w' => r = knI C k u ∧ w' = wX cI cZ h lev tm gn nL nC nE L B C E) A) (cc := cX3_known) (maxL := 3) (ret := (some .int)) (by decide) rfl (Nat.le_of_ble_eq_true rfl) ?_
  intro p e s m below meth c ls A hat hP hD hS hl
  obtain ⟨hx, hb, hr, hml, hlocks, hts, hown, hin, hK, hE, hA⟩ := hat
  have hP : va_P D vwCl (wX cI cZ h lev tm gn nL nC nE L B C E) s.heap := hP
  have hD : va_D A (wX cI cZ h lev tm gn nL nC nE L B C E) := hD
  have hl : lv_has ls 3 [(0, .ref (h 0)), (1, .int (nI k)), (2, .int u)] := hl
  refine lv_aload_n hx hb dX3_known_0 rfl (lv_at hl 0 rfl) ?_
  refine lv_iload_n hx hb dX3_known_1 rfl (lv_at hl 1 rfl) ?_
  refine z_backvA (z_runVA (n := 1) (As := [.int (nI k)]) (ci := 4) (rest := []) hx hb hml hown hts hK hE hP hD (tX3_refuseNoCall_ok l D cI cZ cJ h lev tm gn nL nC nE L B C E k (by omega) (by omega) (by omega) _) gX3_known_X3_refuseNoCall rfl rfl rfl (by decide +kernel) ⟨Nat.le_of_ble_eq_true rfl, Nat.le_of_ble_eq_true rfl⟩ rfl rfl rfl hl.1 rfl (Nat.le_of_ble_eq_true rfl) dX3_known_2 ⟨Nat.zero_le _, Nat.zero_le _⟩) hD hS hA (fun w1 H locs hp1 hP hD hS => ?_)
  obtain rfl := hp1
  have hP : va_P D vwCl (wX cI cZ h lev tm gn nL nC nE L B C E) H := hP
  have hD : va_D A (wX cI cZ h lev tm gn nL nC nE L B C E) := hD
  refine lv_iload_n hx hb dX3_known_5 rfl (lv_at hl 2 rfl) ?_
  refine lv_iconst (v := 0) hx hb dX3_known_6 (by decide) ?_
  refine lv_iconst (v := 5) hx hb dX3_known_7 (by decide) ?_
  refine z_backv (z_runS (n := 3) (As := [.int u, .int 0, .int 5]) (rest := []) hx hb hml hown hts hK hE hP hD [] rfl (by decide) (tX3_refuseOutside_ok l D cI cZ cJ u 0 5 (h2) _) gX3_known_X3_refuseOutside rfl rfl rfl (by decide +kernel) ⟨Nat.le_of_ble_eq_true rfl, Nat.le_of_ble_eq_true rfl⟩ rfl hl.1 rfl (Nat.le_of_ble_eq_true rfl) dX3_known_8 ⟨Nat.zero_le _, Nat.zero_le _⟩) hP hD hS hA [] rfl (fun w1 H locs hp2 hP hD hS => ?_)
  obtain rfl := hp2
  have hP : va_P D vwCl (wX cI cZ h lev tm gn nL nC nE L B C E) H := hP
  have hD : va_D A (wX cI cZ h lev tm gn nL nC nE L B C E) := hD
  refine lv_iload_n hx hb dX3_known_11 rfl (lv_at hl 2 rfl) ?_
  by_cases s12_0 : u = 0
  · refine z_top s12_0 ?_
    refine lv_tableIn (x := 0) (tgt := 48) hx hb dX3_known_12 (by decide) (by decide) rfl (by decide) ?_
    refine lv_aload_n hx hb dX3_known_48 rfl (lv_at hl 0 rfl) ?_
    refine va_get (D := D) (ci := 4) (v := .ref (h 9)) (C := RX3) (T := TX3) (N := 5) hx hb hts kX3_known_inX3 hown hK hP 0 rfl rfl 2 (by decide) (hts _ kX3_known_f32) (fun _ h9 => h9) rfl dX3_known_49 ?_
    refine va_getN (D := D) (ci := 1) (v := .ref (h 14)) (C := RX0) (T := TX0) (N := 10) hx hb hts kX3_known_inX0 hown hK hP 9 rfl rfl 4 (by decide) (va_Nw.use rfl (hE _ zl_RX3_159)) (fun _ h9 => h9) rfl dX3_known_52 ?_
    refine lv_iload_n hx hb dX3_known_55 rfl (lv_at hl 1 rfl) ?_
    refine z_iald (k := k) (v := C 4 k) hx hb hK hP 14 rfl (by decide) (by omega) (rfl) dX3_known_56 ?_
    exact z_iret hx hb hr hlocks hS hP rfl dX3_known_57 (⟨by simp [knI, s12_0], rfl⟩)
  by_cases s12_1 : u = 1
  · refine z_top s12_1 ?_
    refine lv_tableIn (x := 1) (tgt := 58) hx hb dX3_known_12 (by decide) (by decide) rfl (by decide) ?_
    refine lv_aload_n hx hb dX3_known_58 rfl (lv_at hl 0 rfl) ?_
    refine va_get (D := D) (ci := 4) (v := .ref (h 9)) (C := RX3) (T := TX3) (N := 5) hx hb hts kX3_known_inX3 hown hK hP 0 rfl rfl 2 (by decide) (hts _ kX3_known_f32) (fun _ h9 => h9) rfl dX3_known_59 ?_
    refine va_getN (D := D) (ci := 1) (v := .ref (h 15)) (C := RX0) (T := TX0) (N := 10) hx hb hts kX3_known_inX0 hown hK hP 9 rfl rfl 5 (by decide) (va_Nw.use rfl (hE _ zl_RX3_74)) (fun _ h9 => h9) rfl dX3_known_62 ?_
    refine lv_iload_n hx hb dX3_known_65 rfl (lv_at hl 1 rfl) ?_
    refine z_iald (k := k) (v := C 5 k) hx hb hK hP 15 rfl (by decide) (by omega) (rfl) dX3_known_66 ?_
    exact z_iret hx hb hr hlocks hS hP rfl dX3_known_67 (⟨by simp [knI, s12_0, s12_1], rfl⟩)
  by_cases s12_2 : u = 2
  · refine z_top s12_2 ?_
    refine lv_tableIn (x := 2) (tgt := 68) hx hb dX3_known_12 (by decide) (by decide) rfl (by decide) ?_
    refine lv_aload_n hx hb dX3_known_68 rfl (lv_at hl 0 rfl) ?_
    refine va_get (D := D) (ci := 4) (v := .ref (h 9)) (C := RX3) (T := TX3) (N := 5) hx hb hts kX3_known_inX3 hown hK hP 0 rfl rfl 2 (by decide) (hts _ kX3_known_f32) (fun _ h9 => h9) rfl dX3_known_69 ?_
    refine va_getN (D := D) (ci := 1) (v := .ref (h 10)) (C := RX0) (T := TX0) (N := 10) hx hb hts kX3_known_inX0 hown hK hP 9 rfl rfl 0 (by decide) (va_Nw.use rfl (hE _ zl_RX3_182)) (fun _ h9 => h9) rfl dX3_known_72 ?_
    refine lv_iload_n hx hb dX3_known_75 rfl (lv_at hl 1 rfl) ?_
    refine z_iald (k := k) (v := C 0 k) hx hb hK hP 10 rfl (by decide) (by omega) (rfl) dX3_known_76 ?_
    exact z_iret hx hb hr hlocks hS hP rfl dX3_known_77 (⟨by simp [knI, s12_0, s12_1, s12_2], rfl⟩)
  by_cases s12_3 : u = 3
  · refine z_top s12_3 ?_
    refine lv_tableIn (x := 3) (tgt := 78) hx hb dX3_known_12 (by decide) (by decide) rfl (by decide) ?_
    refine lv_aload_n hx hb dX3_known_78 rfl (lv_at hl 0 rfl) ?_
    refine va_get (D := D) (ci := 4) (v := .ref (h 9)) (C := RX3) (T := TX3) (N := 5) hx hb hts kX3_known_inX3 hown hK hP 0 rfl rfl 2 (by decide) (hts _ kX3_known_f32) (fun _ h9 => h9) rfl dX3_known_79 ?_
    refine va_getN (D := D) (ci := 1) (v := .ref (h 11)) (C := RX0) (T := TX0) (N := 10) hx hb hts kX3_known_inX0 hown hK hP 9 rfl rfl 1 (by decide) (va_Nw.use rfl (hE _ zl_RX3_185)) (fun _ h9 => h9) rfl dX3_known_82 ?_
    refine lv_iload_n hx hb dX3_known_85 rfl (lv_at hl 1 rfl) ?_
    refine z_iald (k := k) (v := C 1 k) hx hb hK hP 11 rfl (by decide) (by omega) (rfl) dX3_known_86 ?_
    exact z_iret hx hb hr hlocks hS hP rfl dX3_known_87 (⟨by simp [knI, s12_0, s12_1, s12_2, s12_3], rfl⟩)
  by_cases s12_4 : u = 4
  · refine z_top s12_4 ?_
    refine lv_tableIn (x := 4) (tgt := 88) hx hb dX3_known_12 (by decide) (by decide) rfl (by decide) ?_
    refine lv_aload_n hx hb dX3_known_88 rfl (lv_at hl 0 rfl) ?_
    refine va_get (D := D) (ci := 4) (v := .ref (h 9)) (C := RX3) (T := TX3) (N := 5) hx hb hts kX3_known_inX3 hown hK hP 0 rfl rfl 2 (by decide) (hts _ kX3_known_f32) (fun _ h9 => h9) rfl dX3_known_89 ?_
    refine va_getN (D := D) (ci := 1) (v := .ref (h 12)) (C := RX0) (T := TX0) (N := 10) hx hb hts kX3_known_inX0 hown hK hP 9 rfl rfl 2 (by decide) (va_Nw.use rfl (hE _ zl_RX3_188)) (fun _ h9 => h9) rfl dX3_known_92 ?_
    refine lv_iload_n hx hb dX3_known_95 rfl (lv_at hl 1 rfl) ?_
    refine z_iald (k := k) (v := C 2 k) hx hb hK hP 12 rfl (by decide) (by omega) (rfl) dX3_known_96 ?_
    exact z_iret hx hb hr hlocks hS hP rfl dX3_known_97 (⟨by simp [knI, s12_0, s12_1, s12_2, s12_3, s12_4], rfl⟩)
  refine lv_tableOut (tgt := 98) hx hb dX3_known_12 (tsw_out (n := 4) (by decide) (fun j hj => by rcases (show j = 0 ∨ j = 1 ∨ j = 2 ∨ j = 3 ∨ j = 4 by omega) with rfl | rfl | rfl | rfl | rfl <;> assumption)) (by decide) ?_
  refine lv_aload_n hx hb dX3_known_98 rfl (lv_at hl 0 rfl) ?_
  refine va_get (D := D) (ci := 4) (v := .ref (h 9)) (C := RX3) (T := TX3) (N := 5) hx hb hts kX3_known_inX3 hown hK hP 0 rfl rfl 2 (by decide) (hts _ kX3_known_f32) (fun _ h9 => h9) rfl dX3_known_99 ?_
  refine va_getN (D := D) (ci := 1) (v := .ref (h 13)) (C := RX0) (T := TX0) (N := 10) hx hb hts kX3_known_inX0 hown hK hP 9 rfl rfl 3 (by decide) (va_Nw.use rfl (hE _ zl_RX3_191)) (fun _ h9 => h9) rfl dX3_known_102 ?_
  refine lv_iload_n hx hb dX3_known_105 rfl (lv_at hl 1 rfl) ?_
  refine z_iald (k := k) (v := C 3 k) hx hb hK hP 13 rfl (by decide) (by omega) (rfl) dX3_known_106 ?_
  exact z_iret hx hb hr hlocks hS hP rfl dX3_known_107 (⟨by simp [knI, s12_0, s12_1, s12_2, s12_3, s12_4], rfl⟩)

theorem kX3_count_inX3 : ∀ w ∈ wsX30, w ∈ wsX3_count := by decide +kernel
theorem kX3_count_f18 : Cond.fieldLink RX3 18 "LiftRows2" "levels" "I" ∈ wsX3_count := by decide +kernel
theorem kX3_count_f25 : Cond.fieldLink RX3 25 "LiftRows2" "lifts" "LLiftRows2$Lifts;" ∈ wsX3_count := by decide +kernel
theorem kX3_count_inX2 : ∀ w ∈ wsX20, w ∈ wsX3_count := by decide +kernel
theorem kX3_count_f32 : Cond.fieldLink RX3 32 "LiftRows2" "calls" "LLiftRows2$Calls;" ∈ wsX3_count := by decide +kernel
theorem kX3_count_inX0 : ∀ w ∈ wsX00, w ∈ wsX3_count := by decide +kernel
theorem kX3_count_f39 : Cond.fieldLink RX3 39 "LiftRows2" "events" "LLiftRows2$Events;" ∈ wsX3_count := by decide +kernel
theorem kX3_count_inX1 : ∀ w ∈ wsX10, w ∈ wsX3_count := by decide +kernel
theorem kX3_count_f43 : Cond.fieldLink RX3 43 "LiftRows2" "time" "I" ∈ wsX3_count := by decide +kernel
theorem kX3_count_iRX0 : Cond.initialized yX0_numberWaiting.cls ∈ wsX3_count := by decide +kernel
theorem kX3_count_nX0_numberWaiting : Cond.instanceMethod yX0_numberWaiting ∈ wsX3_count := by decide +kernel
theorem kX3_count_eX0_numberWaiting : Cond.selects RX0 yX0_numberWaiting yX0_numberWaiting ∈ wsX3_count := by decide +kernel
theorem kX3_count_nX0_number : Cond.instanceMethod yX0_number ∈ wsX3_count := by decide +kernel
theorem kX3_count_eX0_number : Cond.selects RX0 yX0_number yX0_number ∈ wsX3_count := by decide +kernel
theorem kX3_count_nX0_levelsWithWaiting : Cond.instanceMethod yX0_levelsWithWaiting ∈ wsX3_count := by decide +kernel
theorem kX3_count_eX0_levelsWithWaiting : Cond.selects RX0 yX0_levelsWithWaiting yX0_levelsWithWaiting ∈ wsX3_count := by decide +kernel
set_option maxHeartbeats 4000000 in
set_option maxRecDepth 100000 in
theorem tX3_count (l : Launch) (D : va_G) (cI cZ cJ : ClassId) (h : Nat → Nat) (lev tm : Nat) (gn : Int32) (nL nC nE : Nat) (L B C E : Nat → Nat → Int32) (u : Int32) (hL : nL ≤ 4) (hC : nC ≤ 24)  : ∀ sz : Nat, zMi l yX3_count wsX3_count ({ frames := 3, cells := 0, slots := 0, locals := 69 } : Room) D cI cZ cJ (wX cI cZ h lev tm gn nL nC nE L B C E) sz [.ref (h 0), .int u] (fun r w' => r = ctX lev tm gn nL nC nE C u ∧ w' = wX cI cZ h lev tm gn nL nC nE L B C E) := by
  intro sz
  refine z_head (y := yX3_count) (av := [.ref (h 0), .int u]) (w := (wX cI cZ h lev tm gn nL nC nE L B C E)) (Qc := fun A => zQi D (wX cI cZ h lev tm gn nL nC nE L B C E) (fun r w' => r = ctX lev tm gn nL nC nE C u ∧ w' = wX cI cZ h lev tm gn nL nC nE L B C E) A) (cc := cX3_count) (maxL := 2) (ret := (some .int)) (by decide) rfl (Nat.le_of_ble_eq_true rfl) ?_
  intro p e s m below meth c ls A hat hP hD hS hl
  obtain ⟨hx, hb, hr, hml, hlocks, hts, hown, hin, hK, hE, hA⟩ := hat
  have hP : va_P D vwCl (wX cI cZ h lev tm gn nL nC nE L B C E) s.heap := hP
  have hD : va_D A (wX cI cZ h lev tm gn nL nC nE L B C E) := hD
  have hl : lv_has ls 2 [(0, .ref (h 0)), (1, .int u)] := hl
  refine lv_iload_n hx hb dX3_count_0 rfl (lv_at hl 1 rfl) ?_
  by_cases s1_0 : u = 0
  · refine z_top s1_0 ?_
    refine lv_tableIn (x := 0) (tgt := 52) hx hb dX3_count_1 (by decide) (by decide) rfl (by decide) ?_
    refine lv_aload_n hx hb dX3_count_52 rfl (lv_at hl 0 rfl) ?_
    refine va_get (D := D) (ci := 4) (v := .int (nI lev)) (C := RX3) (T := TX3) (N := 5) hx hb hts kX3_count_inX3 hown hK hP 0 rfl rfl 0 (by decide) (hts _ kX3_count_f18) (fun _ h9 => h9) rfl dX3_count_53 ?_
    exact z_iret hx hb hr hlocks hS hP rfl dX3_count_56 (⟨by simp [ctX, s1_0], rfl⟩)
  by_cases s1_1 : u = 1
  · refine z_top s1_1 ?_
    refine lv_tableIn (x := 1) (tgt := 57) hx hb dX3_count_1 (by decide) (by decide) rfl (by decide) ?_
    refine lv_aload_n hx hb dX3_count_57 rfl (lv_at hl 0 rfl) ?_
    refine va_get (D := D) (ci := 4) (v := .ref (h 1)) (C := RX3) (T := TX3) (N := 5) hx hb hts kX3_count_inX3 hown hK hP 0 rfl rfl 1 (by decide) (hts _ kX3_count_f25) (fun _ h9 => h9) rfl dX3_count_58 ?_
    refine va_getN (D := D) (ci := 3) (v := .int (nI nL)) (C := RX2) (T := TX2) (N := 9) hx hb hts kX3_count_inX2 hown hK hP 1 rfl rfl 7 (by decide) (va_Nw.use rfl (hE _ zl_RX3_50)) (fun _ h9 => h9) rfl dX3_count_61 ?_
    exact z_iret hx hb hr hlocks hS hP rfl dX3_count_64 (⟨by simp [ctX, s1_0, s1_1], rfl⟩)
  by_cases s1_2 : u = 2
  · refine z_top s1_2 ?_
    refine lv_tableIn (x := 2) (tgt := 65) hx hb dX3_count_1 (by decide) (by decide) rfl (by decide) ?_
    refine lv_aload_n hx hb dX3_count_65 rfl (lv_at hl 0 rfl) ?_
    refine va_get (D := D) (ci := 4) (v := .ref (h 9)) (C := RX3) (T := TX3) (N := 5) hx hb hts kX3_count_inX3 hown hK hP 0 rfl rfl 2 (by decide) (hts _ kX3_count_f32) (fun _ h9 => h9) rfl dX3_count_66 ?_
    refine va_getN (D := D) (ci := 1) (v := .int (nI nC)) (C := RX0) (T := TX0) (N := 10) hx hb hts kX3_count_inX0 hown hK hP 9 rfl rfl 9 (by decide) (va_Nw.use rfl (hE _ zl_RX3_68)) (fun _ h9 => h9) rfl dX3_count_69 ?_
    exact z_iret hx hb hr hlocks hS hP rfl dX3_count_72 (⟨by simp [ctX, s1_0, s1_1, s1_2], rfl⟩)
  by_cases s1_3 : u = 3
  · refine z_top s1_3 ?_
    refine lv_tableIn (x := 3) (tgt := 73) hx hb dX3_count_1 (by decide) (by decide) rfl (by decide) ?_
    refine lv_aload_n hx hb dX3_count_73 rfl (lv_at hl 0 rfl) ?_
    refine va_get (D := D) (ci := 4) (v := .ref (h 19)) (C := RX3) (T := TX3) (N := 5) hx hb hts kX3_count_inX3 hown hK hP 0 rfl rfl 3 (by decide) (hts _ kX3_count_f39) (fun _ h9 => h9) rfl dX3_count_74 ?_
    refine va_getN (D := D) (ci := 2) (v := .int (nI nE)) (C := RX1) (T := TX1) (N := 5) hx hb hts kX3_count_inX1 hown hK hP 19 rfl rfl 4 (by decide) (va_Nw.use rfl (hE _ zl_RX3_81)) (fun _ h9 => h9) rfl dX3_count_77 ?_
    exact z_iret hx hb hr hlocks hS hP rfl dX3_count_80 (⟨by simp [ctX, s1_0, s1_1, s1_2, s1_3], rfl⟩)
  by_cases s1_4 : u = 4
  · refine z_top s1_4 ?_
    refine lv_tableIn (x := 4) (tgt := 81) hx hb dX3_count_1 (by decide) (by decide) rfl (by decide) ?_
    refine lv_aload_n hx hb dX3_count_81 rfl (lv_at hl 0 rfl) ?_
    refine va_get (D := D) (ci := 4) (v := .int (nI tm)) (C := RX3) (T := TX3) (N := 5) hx hb hts kX3_count_inX3 hown hK hP 0 rfl rfl 4 (by decide) (hts _ kX3_count_f43) (fun _ h9 => h9) rfl dX3_count_82 ?_
    exact z_iret hx hb hr hlocks hS hP rfl dX3_count_85 (⟨by simp [ctX, s1_0, s1_1, s1_2, s1_3, s1_4], rfl⟩)
  by_cases s1_5 : u = 5
  · refine z_top s1_5 ?_
    refine lv_tableIn (x := 5) (tgt := 86) hx hb dX3_count_1 (by decide) (by decide) rfl (by decide) ?_
    refine lv_aload_n hx hb dX3_count_86 rfl (lv_at hl 0 rfl) ?_
    refine va_get (D := D) (ci := 4) (v := .ref (h 9)) (C := RX3) (T := TX3) (N := 5) hx hb hts kX3_count_inX3 hown hK hP 0 rfl rfl 2 (by decide) (hts _ kX3_count_f32) (fun _ h9 => h9) rfl dX3_count_87 ?_
    refine z_backi (z_runVN (n := 0) (As := []) (ci := 1) (rest := []) hx hb hml hown hts hK hE hP hD [9, 10, 11, 12, 13, 14, 15, 16, 17, 18] rfl (by decide) (tX0_numberWaiting l D cI cZ cJ (fun k => h (9 + k)) nC C (by omega) _) gX3_count_X0_numberWaiting_n194 rfl rfl rfl zl_RX3_194 kX3_count_iRX0 kX3_count_nX0_numberWaiting kX3_count_eX0_numberWaiting (by decide +kernel) ⟨Nat.le_of_ble_eq_true rfl, Nat.le_of_ble_eq_true rfl⟩ rfl rfl rfl hl.1 rfl (Nat.le_of_ble_eq_true rfl) dX3_count_90 ⟨Nat.zero_le _, Nat.zero_le _⟩) hP hD hS hA [9, 10, 11, 12, 13, 14, 15, 16, 17, 18] rfl (fun r1 w1 H locs hp1 hP hD hS => ?_)
    obtain ⟨rfl, rfl⟩ := hp1
    have hP : va_P D vwCl (wX cI cZ h lev tm gn nL nC nE L B C E) H := hP
    have hD : va_D A (wX cI cZ h lev tm gn nL nC nE L B C E) := hD
    exact z_iret hx hb hr hlocks hS hP rfl dX3_count_93 (⟨by simp [ctX, s1_0, s1_1, s1_2, s1_3, s1_4, s1_5], rfl⟩)
  by_cases s1_6 : u = 6
  · refine z_top s1_6 ?_
    refine lv_tableIn (x := 6) (tgt := 94) hx hb dX3_count_1 (by decide) (by decide) rfl (by decide) ?_
    refine lv_aload_n hx hb dX3_count_94 rfl (lv_at hl 0 rfl) ?_
    refine va_get (D := D) (ci := 4) (v := .ref (h 9)) (C := RX3) (T := TX3) (N := 5) hx hb hts kX3_count_inX3 hown hK hP 0 rfl rfl 2 (by decide) (hts _ kX3_count_f32) (fun _ h9 => h9) rfl dX3_count_95 ?_
    refine lv_iconst (v := 0) hx hb dX3_count_98 (by decide) ?_
    refine lv_iconst (v := (-1)) hx hb dX3_count_99 (by decide) ?_
    refine z_backi (z_runVN (n := 2) (As := [.int 0, .int (-1)]) (ci := 1) (rest := []) hx hb hml hown hts hK hE hP hD [9, 10, 11, 12, 13, 14, 15, 16, 17, 18] rfl (by decide) (tX0_number l D cI cZ cJ (fun k => h (9 + k)) nC C 0 (-1) (by omega) _) gX3_count_X0_number_n124 rfl rfl rfl zl_RX3_124 kX3_count_iRX0 kX3_count_nX0_number kX3_count_eX0_number (by decide +kernel) ⟨Nat.le_of_ble_eq_true rfl, Nat.le_of_ble_eq_true rfl⟩ rfl rfl rfl hl.1 rfl (Nat.le_of_ble_eq_true rfl) dX3_count_100 ⟨Nat.zero_le _, Nat.zero_le _⟩) hP hD hS hA [9, 10, 11, 12, 13, 14, 15, 16, 17, 18] rfl (fun r2 w1 H locs hp2 hP hD hS => ?_)
    obtain ⟨rfl, rfl⟩ := hp2
    have hP : va_P D vwCl (wX cI cZ h lev tm gn nL nC nE L B C E) H := hP
    have hD : va_D A (wX cI cZ h lev tm gn nL nC nE L B C E) := hD
    exact z_iret hx hb hr hlocks hS hP rfl dX3_count_103 (⟨by simp [ctX, s1_0, s1_1, s1_2, s1_3, s1_4, s1_5, s1_6], rfl⟩)
  by_cases s1_7 : u = 7
  · refine z_top s1_7 ?_
    refine lv_tableIn (x := 7) (tgt := 104) hx hb dX3_count_1 (by decide) (by decide) rfl (by decide) ?_
    refine lv_aload_n hx hb dX3_count_104 rfl (lv_at hl 0 rfl) ?_
    refine va_get (D := D) (ci := 4) (v := .ref (h 9)) (C := RX3) (T := TX3) (N := 5) hx hb hts kX3_count_inX3 hown hK hP 0 rfl rfl 2 (by decide) (hts _ kX3_count_f32) (fun _ h9 => h9) rfl dX3_count_105 ?_
    refine z_backi (z_runVN (n := 0) (As := []) (ci := 1) (rest := []) hx hb hml hown hts hK hE hP hD [9, 10, 11, 12, 13, 14, 15, 16, 17, 18] rfl (by decide) (tX0_levelsWithWaiting l D cI cZ cJ (fun k => h (9 + k)) nC C (by omega) _) gX3_count_X0_levelsWithWaiting_n198 rfl rfl rfl zl_RX3_198 kX3_count_iRX0 kX3_count_nX0_levelsWithWaiting kX3_count_eX0_levelsWithWaiting (by decide +kernel) ⟨Nat.le_of_ble_eq_true rfl, Nat.le_of_ble_eq_true rfl⟩ rfl rfl rfl hl.1 rfl (Nat.le_of_ble_eq_true rfl) dX3_count_108 ⟨Nat.zero_le _, Nat.zero_le _⟩) hP hD hS hA [9, 10, 11, 12, 13, 14, 15, 16, 17, 18] rfl (fun r3 w1 H locs hp3 hP hD hS => ?_)
    obtain ⟨rfl, rfl⟩ := hp3
    have hP : va_P D vwCl (wX cI cZ h lev tm gn nL nC nE L B C E) H := hP
    have hD : va_D A (wX cI cZ h lev tm gn nL nC nE L B C E) := hD
    exact z_iret hx hb hr hlocks hS hP rfl dX3_count_111 (⟨by simp [ctX, s1_0, s1_1, s1_2, s1_3, s1_4, s1_5, s1_6, s1_7], rfl⟩)
  by_cases s1_8 : u = 8
  · refine z_top s1_8 ?_
    refine lv_tableIn (x := 8) (tgt := 112) hx hb dX3_count_1 (by decide) (by decide) rfl (by decide) ?_
    refine lv_aload_n hx hb dX3_count_112 rfl (lv_at hl 0 rfl) ?_
    refine va_get (D := D) (ci := 4) (v := .ref (h 1)) (C := RX3) (T := TX3) (N := 5) hx hb hts kX3_count_inX3 hown hK hP 0 rfl rfl 1 (by decide) (hts _ kX3_count_f25) (fun _ h9 => h9) rfl dX3_count_113 ?_
    refine va_getN (D := D) (ci := 3) (v := .int gn) (C := RX2) (T := TX2) (N := 9) hx hb hts kX3_count_inX2 hown hK hP 1 rfl rfl 8 (by decide) (va_Nw.use rfl (hE _ zl_RX3_201)) (fun _ h9 => h9) rfl dX3_count_116 ?_
    exact z_iret hx hb hr hlocks hS hP rfl dX3_count_119 (⟨by simp [ctX, s1_0, s1_1, s1_2, s1_3, s1_4, s1_5, s1_6, s1_7, s1_8], rfl⟩)
  refine lv_tableOut (tgt := 120) hx hb dX3_count_1 (tsw_out (n := 8) (by decide) (fun j hj => by rcases (show j = 0 ∨ j = 1 ∨ j = 2 ∨ j = 3 ∨ j = 4 ∨ j = 5 ∨ j = 6 ∨ j = 7 ∨ j = 8 by omega) with rfl | rfl | rfl | rfl | rfl | rfl | rfl | rfl | rfl <;> assumption)) (by decide) ?_
  refine lv_iconst (v := (-1)) hx hb dX3_count_120 (by decide) ?_
  exact z_iret hx hb hr hlocks hS hP rfl dX3_count_121 (⟨by simp [ctX, s1_0, s1_1, s1_2, s1_3, s1_4, s1_5, s1_6, s1_7, s1_8], rfl⟩)
