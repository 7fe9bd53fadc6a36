theorem kX4_lift_f78 : Cond.fieldLink RX4 78 "LiftRows2Model" "code" "I" ∈ wsX4_lift := by decide +kernel
theorem kX4_lift_inX4 : ∀ w ∈ wsX40, w ∈ wsX4_lift := by decide +kernel
set_option maxHeartbeats 4000000 in
set_option maxRecDepth 100000 in
theorem tX4_lift_n1 (l : Launch) (D : va_G) (cI cZ cJ : ClassId) (h : Nat → Nat) (cd : Int32) (lev tm : Nat) (gn : Int32) (nL nC nE : Nat) (L B C F : Nat → Nat → Int32) (ys ao : Nat → Int32) (v u : Int32) (hno : (inB v 0 (nI lev - 1) && inB u 1 50) = false)  : ∀ sz : Nat, zMi l yX4_lift wsX4_lift ({ frames := 2, cells := 0, slots := 0, locals := 43 } : Room) D cI cZ cJ (wM cI cZ h cd lev tm gn nL nC nE L B C F ys ao) sz [.ref (h 0), .int v, .int u] (fun r w' => r = 0 ∧ w' = wM cI cZ h 1 lev tm gn nL nC nE L B C F ys ao) := by
  intro sz
  refine z_head (y := yX4_lift) (av := [.ref (h 0), .int v, .int u]) (w := (wM cI cZ h cd lev tm gn nL nC nE L B C F ys ao)) (Qc := fun A => zQi D (wM cI cZ h cd lev tm gn nL nC nE L B C F ys ao) (fun r w' => r = 0 ∧ w' = wM cI cZ h 1 lev tm gn nL nC nE L B C F ys ao) A) (cc := cX4_lift) (maxL := 3) (ret := (some .int)) (by decide) rfl (Nat.le_of_ble_eq_true rfl) ?_
  intro p e s m below meth c ls A hat hP hD hS hl
  obtain ⟨hx, hb, hr, hml, hlocks, hts, hown, hin, hK, hE, hA⟩ := hat
  have hP : va_P D vwCl (wM cI cZ h cd lev tm gn nL nC nE L B C F ys ao) s.heap := hP
  have hD : va_D A (wM cI cZ h cd lev tm gn nL nC nE L B C F ys ao) := hD
  have hl : lv_has ls 3 [(0, .ref (h 0)), (1, .int v), (2, .int u)] := hl
  refine lv_aload_n hx hb dX4_lift_0 rfl (lv_at hl 0 rfl) ?_
  refine lv_aload_n hx hb dX4_lift_1 rfl (lv_at hl 0 rfl) ?_
  refine lv_iload_n hx hb dX4_lift_2 rfl (lv_at hl 1 rfl) ?_
  refine z_backiA (z_runVA (n := 1) (As := [.int v]) (ci := 5) (rest := [.ref (h 0)]) hx hb hml hown hts hK hE hP hD (tX4_isLevel l D cI cZ cJ h cd lev tm gn nL nC nE L B C F ys ao v  _) gX4_lift_X4_isLevel rfl rfl rfl (by decide +kernel) ⟨Nat.le_of_ble_eq_true rfl, Nat.le_of_ble_eq_true rfl⟩ rfl rfl rfl hl.1 rfl (Nat.le_of_ble_eq_true rfl) dX4_lift_3 ⟨Nat.zero_le _, Nat.zero_le _⟩) hD hS hA (fun r1 w1 H locs hp1 hP hD hS => ?_)
  obtain ⟨rfl, rfl⟩ := hp1
  have hP : va_P D vwCl (wM cI cZ h cd lev tm gn nL nC nE L B C F ys ao) H := hP
  have hD : va_D A (wM cI cZ h cd lev tm gn nL nC nE L B C F ys ao) := hD
  refine zb_eq (b := (inB v 0 (nI lev - 1))) (tgt := 19) hx hb dX4_lift_6 (by decide) (fun c6 => ?_) (fun c6 => ?_)
  · skip
    refine lv_iconst (v := 1) hx hb dX4_lift_19 (by decide) ?_
    refine lv_goto (tgt := 36) hx hb dX4_lift_20 (by decide) ?_
    refine va_put (D := D) (ci := 5) (v := .int 1) (ty := .int) (C := RX4) (T := TX4) (N := 28) hx hb hts kX4_lift_inX4 tyX4 tyX4_ok nmX4 hown hK hP hD hS 0 rfl rfl 0 (by decide) (hts _ kX4_lift_f78) (fun _ h9 => h9) rfl (by decide +kernel) rfl rfl (Nat.le_of_ble_eq_true rfl) dX4_lift_36 (fun H locs hP hD hS => ?_)
    have hP : va_P D vwCl (wM cI cZ h 1 lev tm gn nL nC nE L B C F ys ao) H := hP
    have hD : va_D A (wM cI cZ h 1 lev tm gn nL nC nE L B C F ys ao) := hD
    refine lv_aload_n hx hb dX4_lift_39 rfl (lv_at hl 0 rfl) ?_
    refine va_get (D := D) (ci := 5) (v := .int 1) (C := RX4) (T := TX4) (N := 28) hx hb hts kX4_lift_inX4 hown hK hP 0 rfl rfl 0 (by decide) (hts _ kX4_lift_f78) (fun _ h9 => h9) rfl dX4_lift_40 ?_
    refine lv_if_le (x := 1) (tgt := 48) hx hb dX4_lift_43 (by decide) (fun c43 => ?_) (fun c43 => ?_)
    · exact absurd c43 (by decide)
    · skip
      refine lv_iconst (v := 0) hx hb dX4_lift_46 (by decide) ?_
      exact z_iret hx hb hr hlocks hS hP rfl dX4_lift_47 (⟨rfl, rfl⟩)
  · skip
    refine lv_iload_n hx hb dX4_lift_9 rfl (lv_at hl 2 rfl) ?_
    refine lv_iconst (v := 1) hx hb dX4_lift_10 (by decide) ?_
    refine lv_bipush (v := 50) hx hb dX4_lift_11 (by decide) ?_
    refine z_backi (z_runS (n := 3) (As := [.int u, .int 1, .int 50]) (rest := [.ref (h 0)]) hx hb hml hown hts hK hE hP hD [] rfl (by decide) (tX4_in l D cI cZ cJ u 1 50 _) gX4_lift_X4_in rfl rfl rfl (by decide +kernel) ⟨Nat.le_of_ble_eq_true rfl, Nat.le_of_ble_eq_true rfl⟩ rfl hl.1 rfl (Nat.le_of_ble_eq_true rfl) dX4_lift_13 ⟨Nat.zero_le _, Nat.zero_le _⟩) hP hD hS hA [] rfl (fun r2 w1 H locs hp2 hP hD hS => ?_)
    obtain ⟨rfl, rfl⟩ := hp2
    have hP : va_P D vwCl (wM cI cZ h cd lev tm gn nL nC nE L B C F ys ao) H := hP
    have hD : va_D A (wM cI cZ h cd lev tm gn nL nC nE L B C F ys ao) := hD
    refine zb_ne (b := (inB u 1 50)) (tgt := 23) hx hb dX4_lift_16 (by decide) (fun c16 => ?_) (fun c16 => ?_)
    · exact absurd hno (by rw [c6, c16]; decide)
    · skip
      refine lv_iconst (v := 1) hx hb dX4_lift_19 (by decide) ?_
      refine lv_goto (tgt := 36) hx hb dX4_lift_20 (by decide) ?_
      refine va_put (D := D) (ci := 5) (v := .int 1) (ty := .int) (C := RX4) (T := TX4) (N := 28) hx hb hts kX4_lift_inX4 tyX4 tyX4_ok nmX4 hown hK hP hD hS 0 rfl rfl 0 (by decide) (hts _ kX4_lift_f78) (fun _ h9 => h9) rfl (by decide +kernel) rfl rfl (Nat.le_of_ble_eq_true rfl) dX4_lift_36 (fun H locs hP hD hS => ?_)
      have hP : va_P D vwCl (wM cI cZ h 1 lev tm gn nL nC nE L B C F ys ao) H := hP
      have hD : va_D A (wM cI cZ h 1 lev tm gn nL nC nE L B C F ys ao) := hD
      refine lv_aload_n hx hb dX4_lift_39 rfl (lv_at hl 0 rfl) ?_
      refine va_get (D := D) (ci := 5) (v := .int 1) (C := RX4) (T := TX4) (N := 28) hx hb hts kX4_lift_inX4 hown hK hP 0 rfl rfl 0 (by decide) (hts _ kX4_lift_f78) (fun _ h9 => h9) rfl dX4_lift_40 ?_
      refine lv_if_le (x := 1) (tgt := 48) hx hb dX4_lift_43 (by decide) (fun c43 => ?_) (fun c43 => ?_)
      · exact absurd c43 (by decide)
      · skip
        refine lv_iconst (v := 0) hx hb dX4_lift_46 (by decide) ?_
        exact z_iret hx hb hr hlocks hS hP rfl dX4_lift_47 (⟨rfl, rfl⟩)

theorem kX4_lift_f85 : Cond.fieldLink RX4 85 "LiftRows2Model" "lifts" "I" ∈ wsX4_lift := by decide +kernel
set_option maxHeartbeats 4000000 in
set_option maxRecDepth 100000 in
theorem tX4_lift_n2 (l : Launch) (D : va_G) (cI cZ cJ : ClassId) (h : Nat → Nat) (cd : Int32) (lev tm : Nat) (gn : Int32) (nL nC nE : Nat) (L B C F : Nat → Nat → Int32) (ys ao : Nat → Int32) (v u : Int32) (h1 : inB v 0 (nI lev - 1) = true) (h2 : inB u 1 50 = true) (h4 : nL = 4)  : ∀ sz : Nat, zMi l yX4_lift wsX4_lift ({ frames := 2, cells := 0, slots := 0, locals := 43 } : Room) D cI cZ cJ (wM cI cZ h cd lev tm gn nL nC nE L B C F ys ao) sz [.ref (h 0), .int v, .int u] (fun r w' => r = 0 ∧ w' = wM cI cZ h 2 lev tm gn nL nC nE L B C F ys ao) := by
  intro sz
  refine z_head (y := yX4_lift) (av := [.ref (h 0), .int v, .int u]) (w := (wM cI cZ h cd lev tm gn nL nC nE L B C F ys ao)) (Qc := fun A => zQi D (wM cI cZ h cd lev tm gn nL nC nE L B C F ys ao) (fun r w' => r = 0 ∧ w' = wM cI cZ h 2 lev tm gn nL nC nE L B C F ys ao) A) (cc := cX4_lift) (maxL := 3) (ret := (some .int)) (by decide) rfl (Nat.le_of_ble_eq_true rfl) ?_
  intro p e s m below meth c ls A hat hP hD hS hl
  obtain ⟨hx, hb, hr, hml, hlocks, hts, hown, hin, hK, hE, hA⟩ := hat
  have hP : va_P D vwCl (wM cI cZ h cd lev tm gn nL nC nE L B C F ys ao) s.heap := hP
  have hD : va_D A (wM cI cZ h cd lev tm gn nL nC nE L B C F ys ao) := hD
  have hl : lv_has ls 3 [(0, .ref (h 0)), (1, .int v), (2, .int u)] := hl
  refine lv_aload_n hx hb dX4_lift_0 rfl (lv_at hl 0 rfl) ?_
  refine lv_aload_n hx hb dX4_lift_1 rfl (lv_at hl 0 rfl) ?_
  refine lv_iload_n hx hb dX4_lift_2 rfl (lv_at hl 1 rfl) ?_
  refine z_backiA (z_runVA (n := 1) (As := [.int v]) (ci := 5) (rest := [.ref (h 0)]) hx hb hml hown hts hK hE hP hD (tX4_isLevel l D cI cZ cJ h cd lev tm gn nL nC nE L B C F ys ao v  _) gX4_lift_X4_isLevel rfl rfl rfl (by decide +kernel) ⟨Nat.le_of_ble_eq_true rfl, Nat.le_of_ble_eq_true rfl⟩ rfl rfl rfl hl.1 rfl (Nat.le_of_ble_eq_true rfl) dX4_lift_3 ⟨Nat.zero_le _, Nat.zero_le _⟩) hD hS hA (fun r1 w1 H locs hp1 hP hD hS => ?_)
  obtain ⟨rfl, rfl⟩ := hp1
  have hP : va_P D vwCl (wM cI cZ h cd lev tm gn nL nC nE L B C F ys ao) H := hP
  have hD : va_D A (wM cI cZ h cd lev tm gn nL nC nE L B C F ys ao) := hD
  refine zb_eq (b := (inB v 0 (nI lev - 1))) (tgt := 19) hx hb dX4_lift_6 (by decide) (fun c6 => ?_) (fun c6 => ?_)
  · exact absurd (h1.symm.trans c6) (by decide)
  · skip
    refine lv_iload_n hx hb dX4_lift_9 rfl (lv_at hl 2 rfl) ?_
    refine lv_iconst (v := 1) hx hb dX4_lift_10 (by decide) ?_
    refine lv_bipush (v := 50) hx hb dX4_lift_11 (by decide) ?_
    refine z_backi (z_runS (n := 3) (As := [.int u, .int 1, .int 50]) (rest := [.ref (h 0)]) hx hb hml hown hts hK hE hP hD [] rfl (by decide) (tX4_in l D cI cZ cJ u 1 50 _) gX4_lift_X4_in rfl rfl rfl (by decide +kernel) ⟨Nat.le_of_ble_eq_true rfl, Nat.le_of_ble_eq_true rfl⟩ rfl hl.1 rfl (Nat.le_of_ble_eq_true rfl) dX4_lift_13 ⟨Nat.zero_le _, Nat.zero_le _⟩) hP hD hS hA [] rfl (fun r2 w1 H locs hp2 hP hD hS => ?_)
    obtain ⟨rfl, rfl⟩ := hp2
    have hP : va_P D vwCl (wM cI cZ h cd lev tm gn nL nC nE L B C F ys ao) H := hP
    have hD : va_D A (wM cI cZ h cd lev tm gn nL nC nE L B C F ys ao) := hD
    refine zb_ne (b := (inB u 1 50)) (tgt := 23) hx hb dX4_lift_16 (by decide) (fun c16 => ?_) (fun c16 => ?_)
    · skip
      refine lv_aload_n hx hb dX4_lift_23 rfl (lv_at hl 0 rfl) ?_
      refine va_get (D := D) (ci := 5) (v := .int (nI nL)) (C := RX4) (T := TX4) (N := 28) hx hb hts kX4_lift_inX4 hown hK hP 0 rfl rfl 4 (by decide) (hts _ kX4_lift_f85) (fun _ h9 => h9) rfl dX4_lift_24 ?_
      refine lv_iconst (v := 4) hx hb dX4_lift_27 (by decide) ?_
      refine zn_ne (i := nL) (j := 4) (tgt := 35) hx hb (by omega) (by omega) dX4_lift_28 (by decide) (fun c28 => ?_) (fun c28 => ?_)
      · exact absurd h4 c28
      · skip
        refine lv_iconst (v := 2) hx hb dX4_lift_31 (by decide) ?_
        refine lv_goto (tgt := 36) hx hb dX4_lift_32 (by decide) ?_
        refine va_put (D := D) (ci := 5) (v := .int 2) (ty := .int) (C := RX4) (T := TX4) (N := 28) hx hb hts kX4_lift_inX4 tyX4 tyX4_ok nmX4 hown hK hP hD hS 0 rfl rfl 0 (by decide) (hts _ kX4_lift_f78) (fun _ h9 => h9) rfl (by decide +kernel) rfl rfl (Nat.le_of_ble_eq_true rfl) dX4_lift_36 (fun H locs hP hD hS => ?_)
        have hP : va_P D vwCl (wM cI cZ h 2 lev tm gn nL nC nE L B C F ys ao) H := hP
        have hD : va_D A (wM cI cZ h 2 lev tm gn nL nC nE L B C F ys ao) := hD
        refine lv_aload_n hx hb dX4_lift_39 rfl (lv_at hl 0 rfl) ?_
        refine va_get (D := D) (ci := 5) (v := .int 2) (C := RX4) (T := TX4) (N := 28) hx hb hts kX4_lift_inX4 hown hK hP 0 rfl rfl 0 (by decide) (hts _ kX4_lift_f78) (fun _ h9 => h9) rfl dX4_lift_40 ?_
        refine lv_if_le (x := 2) (tgt := 48) hx hb dX4_lift_43 (by decide) (fun c43 => ?_) (fun c43 => ?_)
        · exact absurd c43 (by decide)
        · skip
          refine lv_iconst (v := 0) hx hb dX4_lift_46 (by decide) ?_
          exact z_iret hx hb hr hlocks hS hP rfl dX4_lift_47 (⟨rfl, rfl⟩)
    · exact absurd (h2.symm.trans c16) (by decide)

theorem kX4_lift_f7 : Cond.fieldLink RX4 7 "LiftRows2Model" "at" "[I" ∈ wsX4_lift := by decide +kernel
theorem kX4_lift_f13 : Cond.fieldLink RX4 13 "LiftRows2Model" "capacity" "[I" ∈ wsX4_lift := by decide +kernel
set_option maxHeartbeats 4000000 in
set_option maxRecDepth 100000 in
theorem tX4_lift_ok (l : Launch) (D : va_G) (cI cZ cJ : ClassId) (h : Nat → Nat) (cd : Int32) (lev tm : Nat) (gn : Int32) (nL nC nE : Nat) (L B C F : Nat → Nat → Int32) (ys ao : Nat → Int32) (v u : Int32) (h1 : inB v 0 (nI lev - 1) = true) (h2 : inB u 1 50 = true) (h4 : nL < 4)  : ∀ sz : Nat, zMi l yX4_lift wsX4_lift ({ frames := 2, cells := 0, slots := 0, locals := 43 } : Room) D cI cZ cJ (wM cI cZ h cd lev tm gn nL nC nE L B C F ys ao) sz [.ref (h 0), .int v, .int u] (fun r w' => r = nI nL ∧ w' = wM cI cZ h 0 lev tm gn (nL + 1) nC nE (upC (upC L 0 nL v) 1 nL u) B C F ys ao) := by
  intro sz
  refine z_head (y := yX4_lift) (av := [.ref (h 0), .int v, .int u]) (w := (wM cI cZ h cd lev tm gn nL nC nE L B C F ys ao)) (Qc := fun A => zQi D (wM cI cZ h cd lev tm gn nL nC nE L B C F ys ao) (fun r w' => r = nI nL ∧ w' = wM cI cZ h 0 lev tm gn (nL + 1) nC nE (upC (upC L 0 nL v) 1 nL u) B C F ys ao) A) (cc := cX4_lift) (maxL := 3) (ret := (some .int)) (by decide) rfl (Nat.le_of_ble_eq_true rfl) ?_
  intro p e s m below meth c ls A hat hP hD hS hl
  obtain ⟨hx, hb, hr, hml, hlocks, hts, hown, hin, hK, hE, hA⟩ := hat
  have hP : va_P D vwCl (wM cI cZ h cd lev tm gn nL nC nE L B C F ys ao) s.heap := hP
  have hD : va_D A (wM cI cZ h cd lev tm gn nL nC nE L B C F ys ao) := hD
  have hl : lv_has ls 3 [(0, .ref (h 0)), (1, .int v), (2, .int u)] := hl
  refine lv_aload_n hx hb dX4_lift_0 rfl (lv_at hl 0 rfl) ?_
  refine lv_aload_n hx hb dX4_lift_1 rfl (lv_at hl 0 rfl) ?_
  refine lv_iload_n hx hb dX4_lift_2 rfl (lv_at hl 1 rfl) ?_
  refine z_backiA (z_runVA (n := 1) (As := [.int v]) (ci := 5) (rest := [.ref (h 0)]) hx hb hml hown hts hK hE hP hD (tX4_isLevel l D cI cZ cJ h cd lev tm gn nL nC nE L B C F ys ao v  _) gX4_lift_X4_isLevel rfl rfl rfl (by decide +kernel) ⟨Nat.le_of_ble_eq_true rfl, Nat.le_of_ble_eq_true rfl⟩ rfl rfl rfl hl.1 rfl (Nat.le_of_ble_eq_true rfl) dX4_lift_3 ⟨Nat.zero_le _, Nat.zero_le _⟩) hD hS hA (fun r1 w1 H locs hp1 hP hD hS => ?_)
  obtain ⟨rfl, rfl⟩ := hp1
  have hP : va_P D vwCl (wM cI cZ h cd lev tm gn nL nC nE L B C F ys ao) H := hP
  have hD : va_D A (wM cI cZ h cd lev tm gn nL nC nE L B C F ys ao) := hD
  refine zb_eq (b := (inB v 0 (nI lev - 1))) (tgt := 19) hx hb dX4_lift_6 (by decide) (fun c6 => ?_) (fun c6 => ?_)
  · exact absurd (h1.symm.trans c6) (by decide)
  · skip
    refine lv_iload_n hx hb dX4_lift_9 rfl (lv_at hl 2 rfl) ?_
    refine lv_iconst (v := 1) hx hb dX4_lift_10 (by decide) ?_
    refine lv_bipush (v := 50) hx hb dX4_lift_11 (by decide) ?_
    refine z_backi (z_runS (n := 3) (As := [.int u, .int 1, .int 50]) (rest := [.ref (h 0)]) hx hb hml hown hts hK hE hP hD [] rfl (by decide) (tX4_in l D cI cZ cJ u 1 50 _) gX4_lift_X4_in rfl rfl rfl (by decide +kernel) ⟨Nat.le_of_ble_eq_true rfl, Nat.le_of_ble_eq_true rfl⟩ rfl hl.1 rfl (Nat.le_of_ble_eq_true rfl) dX4_lift_13 ⟨Nat.zero_le _, Nat.zero_le _⟩) hP hD hS hA [] rfl (fun r2 w1 H locs hp2 hP hD hS => ?_)
    obtain ⟨rfl, rfl⟩ := hp2
    have hP : va_P D vwCl (wM cI cZ h cd lev tm gn nL nC nE L B C F ys ao) H := hP
    have hD : va_D A (wM cI cZ h cd lev tm gn nL nC nE L B C F ys ao) := hD
    refine zb_ne (b := (inB u 1 50)) (tgt := 23) hx hb dX4_lift_16 (by decide) (fun c16 => ?_) (fun c16 => ?_)
    · skip
      refine lv_aload_n hx hb dX4_lift_23 rfl (lv_at hl 0 rfl) ?_
      refine va_get (D := D) (ci := 5) (v := .int (nI nL)) (C := RX4) (T := TX4) (N := 28) hx hb hts kX4_lift_inX4 hown hK hP 0 rfl rfl 4 (by decide) (hts _ kX4_lift_f85) (fun _ h9 => h9) rfl dX4_lift_24 ?_
      refine lv_iconst (v := 4) hx hb dX4_lift_27 (by decide) ?_
      refine zn_ne (i := nL) (j := 4) (tgt := 35) hx hb (by omega) (by omega) dX4_lift_28 (by decide) (fun c28 => ?_) (fun c28 => ?_)
      · skip
        refine lv_iconst (v := 0) hx hb dX4_lift_35 (by decide) ?_
        refine va_put (D := D) (ci := 5) (v := .int 0) (ty := .int) (C := RX4) (T := TX4) (N := 28) hx hb hts kX4_lift_inX4 tyX4 tyX4_ok nmX4 hown hK hP hD hS 0 rfl rfl 0 (by decide) (hts _ kX4_lift_f78) (fun _ h9 => h9) rfl (by decide +kernel) rfl rfl (Nat.le_of_ble_eq_true rfl) dX4_lift_36 (fun H locs hP hD hS => ?_)
        have hP : va_P D vwCl (wM cI cZ h 0 lev tm gn nL nC nE L B C F ys ao) H := hP
        have hD : va_D A (wM cI cZ h 0 lev tm gn nL nC nE L B C F ys ao) := hD
        refine lv_aload_n hx hb dX4_lift_39 rfl (lv_at hl 0 rfl) ?_
        refine va_get (D := D) (ci := 5) (v := .int 0) (C := RX4) (T := TX4) (N := 28) hx hb hts kX4_lift_inX4 hown hK hP 0 rfl rfl 0 (by decide) (hts _ kX4_lift_f78) (fun _ h9 => h9) rfl dX4_lift_40 ?_
        refine lv_if_le (x := 0) (tgt := 48) hx hb dX4_lift_43 (by decide) (fun c43 => ?_) (fun c43 => ?_)
        · skip
          refine lv_aload_n hx hb dX4_lift_48 rfl (lv_at hl 0 rfl) ?_
          refine va_get (D := D) (ci := 5) (v := .ref (h 1)) (C := RX4) (T := TX4) (N := 28) hx hb hts kX4_lift_inX4 hown hK hP 0 rfl rfl 5 (by decide) (hts _ kX4_lift_f7) (fun _ h9 => h9) rfl dX4_lift_49 ?_
          refine lv_aload_n hx hb dX4_lift_52 rfl (lv_at hl 0 rfl) ?_
          refine va_get (D := D) (ci := 5) (v := .int (nI nL)) (C := RX4) (T := TX4) (N := 28) hx hb hts kX4_lift_inX4 hown hK hP 0 rfl rfl 4 (by decide) (hts _ kX4_lift_f85) (fun _ h9 => h9) rfl dX4_lift_53 ?_
          refine lv_iload_n hx hb dX4_lift_56 rfl (lv_at hl 1 rfl) ?_
          refine z_iast (k := nL) (x := v) hx hb hK hP hD hS 1 rfl (by decide) (by omega) dX4_lift_57 (fun H locs hP hD hS => ?_)
          have hP : va_P D vwCl (wM cI cZ h 0 lev tm gn nL nC nE (upC L 0 nL v) B C F ys ao) H := hP
          have hD : va_D A (wM cI cZ h 0 lev tm gn nL nC nE (upC L 0 nL v) B C F ys ao) := hD
          refine lv_aload_n hx hb dX4_lift_58 rfl (lv_at hl 0 rfl) ?_
          refine va_get (D := D) (ci := 5) (v := .ref (h 2)) (C := RX4) (T := TX4) (N := 28) hx hb hts kX4_lift_inX4 hown hK hP 0 rfl rfl 6 (by decide) (hts _ kX4_lift_f13) (fun _ h9 => h9) rfl dX4_lift_59 ?_
          refine lv_aload_n hx hb dX4_lift_62 rfl (lv_at hl 0 rfl) ?_
          refine va_get (D := D) (ci := 5) (v := .int (nI nL)) (C := RX4) (T := TX4) (N := 28) hx hb hts kX4_lift_inX4 hown hK hP 0 rfl rfl 4 (by decide) (hts _ kX4_lift_f85) (fun _ h9 => h9) rfl dX4_lift_63 ?_
          refine lv_iload_n hx hb dX4_lift_66 rfl (lv_at hl 2 rfl) ?_
          refine z_iast (k := nL) (x := u) hx hb hK hP hD hS 2 rfl (by decide) (by omega) dX4_lift_67 (fun H locs hP hD hS => ?_)
          have hP : va_P D vwCl (wM cI cZ h 0 lev tm gn nL nC nE (upC (upC L 0 nL v) 1 nL u) B C F ys ao) H := hP
          have hD : va_D A (wM cI cZ h 0 lev tm gn nL nC nE (upC (upC L 0 nL v) 1 nL u) B C F ys ao) := hD
          refine lv_aload_n hx hb dX4_lift_68 rfl (lv_at hl 0 rfl) ?_
          refine lv_dup hx hb dX4_lift_69 rfl ?_
          refine va_get (D := D) (ci := 5) (v := .int (nI nL)) (C := RX4) (T := TX4) (N := 28) hx hb hts kX4_lift_inX4 hown hK hP 0 rfl rfl 4 (by decide) (hts _ kX4_lift_f85) (fun _ h9 => h9) rfl dX4_lift_70 ?_
          refine lv_iconst (v := 1) hx hb dX4_lift_73 (by decide) ?_
          refine zn_add (i := nL) (j := 1) hx hb dX4_lift_74 ?_
          refine va_put (D := D) (ci := 5) (v := .int (nI (nL + 1))) (ty := .int) (C := RX4) (T := TX4) (N := 28) hx hb hts kX4_lift_inX4 tyX4 tyX4_ok nmX4 hown hK hP hD hS 0 rfl rfl 4 (by decide) (hts _ kX4_lift_f85) (fun _ h9 => h9) rfl (by decide +kernel) rfl rfl (Nat.le_of_ble_eq_true rfl) dX4_lift_75 (fun H locs hP hD hS => ?_)
          have hP : va_P D vwCl (wM cI cZ h 0 lev tm gn (nL + 1) nC nE (upC (upC L 0 nL v) 1 nL u) B C F ys ao) H := hP
          have hD : va_D A (wM cI cZ h 0 lev tm gn (nL + 1) nC nE (upC (upC L 0 nL v) 1 nL u) B C F ys ao) := hD
          refine lv_aload_n hx hb dX4_lift_78 rfl (lv_at hl 0 rfl) ?_
          refine va_get (D := D) (ci := 5) (v := .int (nI (nL + 1))) (C := RX4) (T := TX4) (N := 28) hx hb hts kX4_lift_inX4 hown hK hP 0 rfl rfl 4 (by decide) (hts _ kX4_lift_f85) (fun _ h9 => h9) rfl dX4_lift_79 ?_
          refine lv_iconst (v := 1) hx hb dX4_lift_82 (by decide) ?_
          refine lv_isub (x := nI (nL + 1)) (y := 1) hx hb dX4_lift_83 ?_
          exact z_iret hx hb hr hlocks hS hP rfl dX4_lift_84 (⟨nI_pred nL, rfl⟩)
        · exact absurd c43 (by decide)
      · exact absurd c28 (by omega)
    · exact absurd (h2.symm.trans c16) (by decide)

theorem kX4_call_f78 : Cond.fieldLink RX4 78 "LiftRows2Model" "code" "I" ∈ wsX4_call := by decide +kernel
theorem kX4_call_inX4 : ∀ w ∈ wsX40, w ∈ wsX4_call := by decide +kernel
set_option maxHeartbeats 4000000 in
set_option maxRecDepth 100000 in
theorem tX4_call_n1 (l : Launch) (D : va_G) (cI cZ cJ : ClassId) (h : Nat → Nat) (cd : Int32) (lev tm : Nat) (gn : Int32) (nL nC nE : Nat) (L B C F : Nat → Nat → Int32) (ys ao : Nat → Int32) (a b rk q : Int32) (hno : ((((inB a 0 (nI lev - 1) && inB b 0 (nI lev - 1)) && !decide (a = b)) && inB rk 1 3) && inB q 1 50) = false)  : ∀ sz : Nat, zMi l yX4_call wsX4_call ({ frames := 2, cells := 0, slots := 0, locals := 44 } : Room) D cI cZ cJ (wM cI cZ h cd lev tm gn nL nC nE L B C F ys ao) sz [.ref (h 0), .int a, .int b, .int rk, .int q] (fun r w' => r = 0 ∧ w' = wM cI cZ h 1 lev tm gn nL nC nE L B C F ys ao) := by
  intro sz
  refine z_head (y := yX4_call) (av := [.ref (h 0), .int a, .int b, .int rk, .int q]) (w := (wM cI cZ h cd lev tm gn nL nC nE L B C F ys ao)) (Qc := fun A => zQi D (wM cI cZ h cd lev tm gn nL nC nE L B C F ys ao) (fun r w' => r = 0 ∧ w' = wM cI cZ h 1 lev tm gn nL nC nE L B C F ys ao) A) (cc := cX4_call) (maxL := 6) (ret := (some .int)) (by decide) rfl (Nat.le_of_ble_eq_true rfl) ?_
  intro p e s m below meth c ls A hat hP hD hS hl
  obtain ⟨hx, hb, hr, hml, hlocks, hts, hown, hin, hK, hE, hA⟩ := hat
  have hP : va_P D vwCl (wM cI cZ h cd lev tm gn nL nC nE L B C F ys ao) s.heap := hP
  have hD : va_D A (wM cI cZ h cd lev tm gn nL nC nE L B C F ys ao) := hD
  have hl : lv_has ls 6 [(0, .ref (h 0)), (1, .int a), (2, .int b), (3, .int rk), (4, .int q)] := hl
  refine lv_aload_n hx hb dX4_call_0 rfl (lv_at hl 0 rfl) ?_
  refine lv_aload_n hx hb dX4_call_1 rfl (lv_at hl 0 rfl) ?_
  refine lv_iload_n hx hb dX4_call_2 rfl (lv_at hl 1 rfl) ?_
  refine z_backiA (z_runVA (n := 1) (As := [.int a]) (ci := 5) (rest := [.ref (h 0)]) hx hb hml hown hts hK hE hP hD (tX4_isLevel l D cI cZ cJ h cd lev tm gn nL nC nE L B C F ys ao a  _) gX4_call_X4_isLevel rfl rfl rfl (by decide +kernel) ⟨Nat.le_of_ble_eq_true rfl, Nat.le_of_ble_eq_true rfl⟩ rfl rfl rfl hl.1 rfl (Nat.le_of_ble_eq_true rfl) dX4_call_3 ⟨Nat.zero_le _, Nat.zero_le _⟩) hD hS hA (fun r1 w1 H locs hp1 hP hD hS => ?_)
  obtain ⟨rfl, rfl⟩ := hp1
  have hP : va_P D vwCl (wM cI cZ h cd lev tm gn nL nC nE L B C F ys ao) H := hP
  have hD : va_D A (wM cI cZ h cd lev tm gn nL nC nE L B C F ys ao) := hD
  refine zb_eq (b := (inB a 0 (nI lev - 1))) (tgt := 42) hx hb dX4_call_6 (by decide) (fun c6 => ?_) (fun c6 => ?_)
  · skip
    refine lv_iconst (v := 1) hx hb dX4_call_42 (by decide) ?_
    refine lv_goto (tgt := 60) hx hb dX4_call_43 (by decide) ?_
    refine va_put (D := D) (ci := 5) (v := .int 1) (ty := .int) (C := RX4) (T := TX4) (N := 28) hx hb hts kX4_call_inX4 tyX4 tyX4_ok nmX4 hown hK hP hD hS 0 rfl rfl 0 (by decide) (hts _ kX4_call_f78) (fun _ h9 => h9) rfl (by decide +kernel) rfl rfl (Nat.le_of_ble_eq_true rfl) dX4_call_60 (fun H locs hP hD hS => ?_)
    have hP : va_P D vwCl (wM cI cZ h 1 lev tm gn nL nC nE L B C F ys ao) H := hP
    have hD : va_D A (wM cI cZ h 1 lev tm gn nL nC nE L B C F ys ao) := hD
    refine lv_aload_n hx hb dX4_call_63 rfl (lv_at hl 0 rfl) ?_
    refine va_get (D := D) (ci := 5) (v := .int 1) (C := RX4) (T := TX4) (N := 28) hx hb hts kX4_call_inX4 hown hK hP 0 rfl rfl 0 (by decide) (hts _ kX4_call_f78) (fun _ h9 => h9) rfl dX4_call_64 ?_
    refine lv_if_le (x := 1) (tgt := 72) hx hb dX4_call_67 (by decide) (fun c67 => ?_) (fun c67 => ?_)
    · exact absurd c67 (by decide)
    · skip
      refine lv_iconst (v := 0) hx hb dX4_call_70 (by decide) ?_
      exact z_iret hx hb hr hlocks hS hP rfl dX4_call_71 (⟨rfl, rfl⟩)
  · skip
    refine lv_aload_n hx hb dX4_call_9 rfl (lv_at hl 0 rfl) ?_
    refine lv_iload_n hx hb dX4_call_10 rfl (lv_at hl 2 rfl) ?_
    refine z_backiA (z_runVA (n := 1) (As := [.int b]) (ci := 5) (rest := [.ref (h 0)]) hx hb hml hown hts hK hE hP hD (tX4_isLevel l D cI cZ cJ h cd lev tm gn nL nC nE L B C F ys ao b  _) gX4_call_X4_isLevel rfl rfl rfl (by decide +kernel) ⟨Nat.le_of_ble_eq_true rfl, Nat.le_of_ble_eq_true rfl⟩ rfl rfl rfl hl.1 rfl (Nat.le_of_ble_eq_true rfl) dX4_call_11 ⟨Nat.zero_le _, Nat.zero_le _⟩) hD hS hA (fun r2 w1 H locs hp2 hP hD hS => ?_)
    obtain ⟨rfl, rfl⟩ := hp2
    have hP : va_P D vwCl (wM cI cZ h cd lev tm gn nL nC nE L B C F ys ao) H := hP
    have hD : va_D A (wM cI cZ h cd lev tm gn nL nC nE L B C F ys ao) := hD
    refine zb_eq (b := (inB b 0 (nI lev - 1))) (tgt := 42) hx hb dX4_call_14 (by decide) (fun c14 => ?_) (fun c14 => ?_)
    · skip
      refine lv_iconst (v := 1) hx hb dX4_call_42 (by decide) ?_
      refine lv_goto (tgt := 60) hx hb dX4_call_43 (by decide) ?_
      refine va_put (D := D) (ci := 5) (v := .int 1) (ty := .int) (C := RX4) (T := TX4) (N := 28) hx hb hts kX4_call_inX4 tyX4 tyX4_ok nmX4 hown hK hP hD hS 0 rfl rfl 0 (by decide) (hts _ kX4_call_f78) (fun _ h9 => h9) rfl (by decide +kernel) rfl rfl (Nat.le_of_ble_eq_true rfl) dX4_call_60 (fun H locs hP hD hS => ?_)
      have hP : va_P D vwCl (wM cI cZ h 1 lev tm gn nL nC nE L B C F ys ao) H := hP
      have hD : va_D A (wM cI cZ h 1 lev tm gn nL nC nE L B C F ys ao) := hD
      refine lv_aload_n hx hb dX4_call_63 rfl (lv_at hl 0 rfl) ?_
      refine va_get (D := D) (ci := 5) (v := .int 1) (C := RX4) (T := TX4) (N := 28) hx hb hts kX4_call_inX4 hown hK hP 0 rfl rfl 0 (by decide) (hts _ kX4_call_f78) (fun _ h9 => h9) rfl dX4_call_64 ?_
      refine lv_if_le (x := 1) (tgt := 72) hx hb dX4_call_67 (by decide) (fun c67 => ?_) (fun c67 => ?_)
      · exact absurd c67 (by decide)
      · skip
        refine lv_iconst (v := 0) hx hb dX4_call_70 (by decide) ?_
        exact z_iret hx hb hr hlocks hS hP rfl dX4_call_71 (⟨rfl, rfl⟩)
    · skip
      refine lv_iload_n hx hb dX4_call_17 rfl (lv_at hl 1 rfl) ?_
      refine lv_iload_n hx hb dX4_call_18 rfl (lv_at hl 2 rfl) ?_
      refine lv_icmp_eq (x := a) (y := b) (tgt := 42) hx hb dX4_call_19 (by decide) (fun c19 => ?_) (fun c19 => ?_)
      · skip
        refine lv_iconst (v := 1) hx hb dX4_call_42 (by decide) ?_
        refine lv_goto (tgt := 60) hx hb dX4_call_43 (by decide) ?_
        refine va_put (D := D) (ci := 5) (v := .int 1) (ty := .int) (C := RX4) (T := TX4) (N := 28) hx hb hts kX4_call_inX4 tyX4 tyX4_ok nmX4 hown hK hP hD hS 0 rfl rfl 0 (by decide) (hts _ kX4_call_f78) (fun _ h9 => h9) rfl (by decide +kernel) rfl rfl (Nat.le_of_ble_eq_true rfl) dX4_call_60 (fun H locs hP hD hS => ?_)
        have hP : va_P D vwCl (wM cI cZ h 1 lev tm gn nL nC nE L B C F ys ao) H := hP
        have hD : va_D A (wM cI cZ h 1 lev tm gn nL nC nE L B C F ys ao) := hD
        refine lv_aload_n hx hb dX4_call_63 rfl (lv_at hl 0 rfl) ?_
        refine va_get (D := D) (ci := 5) (v := .int 1) (C := RX4) (T := TX4) (N := 28) hx hb hts kX4_call_inX4 hown hK hP 0 rfl rfl 0 (by decide) (hts _ kX4_call_f78) (fun _ h9 => h9) rfl dX4_call_64 ?_
        refine lv_if_le (x := 1) (tgt := 72) hx hb dX4_call_67 (by decide) (fun c67 => ?_) (fun c67 => ?_)
        · exact absurd c67 (by decide)
        · skip
          refine lv_iconst (v := 0) hx hb dX4_call_70 (by decide) ?_
          exact z_iret hx hb hr hlocks hS hP rfl dX4_call_71 (⟨rfl, rfl⟩)
      · skip
        refine lv_iload_n hx hb dX4_call_22 rfl (lv_at hl 3 rfl) ?_
        refine lv_iconst (v := 1) hx hb dX4_call_23 (by decide) ?_
        refine lv_iconst (v := 3) hx hb dX4_call_24 (by decide) ?_
        refine z_backi (z_runS (n := 3) (As := [.int rk, .int 1, .int 3]) (rest := [.ref (h 0)]) hx hb hml hown hts hK hE hP hD [] rfl (by decide) (tX4_in l D cI cZ cJ rk 1 3 _) gX4_call_X4_in rfl rfl rfl (by decide +kernel) ⟨Nat.le_of_ble_eq_true rfl, Nat.le_of_ble_eq_true rfl⟩ rfl hl.1 rfl (Nat.le_of_ble_eq_true rfl) dX4_call_25 ⟨Nat.zero_le _, Nat.zero_le _⟩) hP hD hS hA [] rfl (fun r3 w1 H locs hp3 hP hD hS => ?_)
        obtain ⟨rfl, rfl⟩ := hp3
        have hP : va_P D vwCl (wM cI cZ h cd lev tm gn nL nC nE L B C F ys ao) H := hP
        have hD : va_D A (wM cI cZ h cd lev tm gn nL nC nE L B C F ys ao) := hD
        refine zb_eq (b := (inB rk 1 3)) (tgt := 42) hx hb dX4_call_28 (by decide) (fun c28 => ?_) (fun c28 => ?_)
        · skip
          refine lv_iconst (v := 1) hx hb dX4_call_42 (by decide) ?_
          refine lv_goto (tgt := 60) hx hb dX4_call_43 (by decide) ?_
          refine va_put (D := D) (ci := 5) (v := .int 1) (ty := .int) (C := RX4) (T := TX4) (N := 28) hx hb hts kX4_call_inX4 tyX4 tyX4_ok nmX4 hown hK hP hD hS 0 rfl rfl 0 (by decide) (hts _ kX4_call_f78) (fun _ h9 => h9) rfl (by decide +kernel) rfl rfl (Nat.le_of_ble_eq_true rfl) dX4_call_60 (fun H locs hP hD hS => ?_)
          have hP : va_P D vwCl (wM cI cZ h 1 lev tm gn nL nC nE L B C F ys ao) H := hP
          have hD : va_D A (wM cI cZ h 1 lev tm gn nL nC nE L B C F ys ao) := hD
          refine lv_aload_n hx hb dX4_call_63 rfl (lv_at hl 0 rfl) ?_
          refine va_get (D := D) (ci := 5) (v := .int 1) (C := RX4) (T := TX4) (N := 28) hx hb hts kX4_call_inX4 hown hK hP 0 rfl rfl 0 (by decide) (hts _ kX4_call_f78) (fun _ h9 => h9) rfl dX4_call_64 ?_
          refine lv_if_le (x := 1) (tgt := 72) hx hb dX4_call_67 (by decide) (fun c67 => ?_) (fun c67 => ?_)
          · exact absurd c67 (by decide)
          · skip
            refine lv_iconst (v := 0) hx hb dX4_call_70 (by decide) ?_
            exact z_iret hx hb hr hlocks hS hP rfl dX4_call_71 (⟨rfl, rfl⟩)
        · skip
          refine lv_iload hx hb dX4_call_31 (lv_at hl 4 rfl) ?_
          refine lv_iconst (v := 1) hx hb dX4_call_33 (by decide) ?_
          refine lv_bipush (v := 50) hx hb dX4_call_34 (by decide) ?_
          refine z_backi (z_runS (n := 3) (As := [.int q, .int 1, .int 50]) (rest := [.ref (h 0)]) hx hb hml hown hts hK hE hP hD [] rfl (by decide) (tX4_in l D cI cZ cJ q 1 50 _) gX4_call_X4_in rfl rfl rfl (by decide +kernel) ⟨Nat.le_of_ble_eq_true rfl, Nat.le_of_ble_eq_true rfl⟩ rfl hl.1 rfl (Nat.le_of_ble_eq_true rfl) dX4_call_36 ⟨Nat.zero_le _, Nat.zero_le _⟩) hP hD hS hA [] rfl (fun r4 w1 H locs hp4 hP hD hS => ?_)
          obtain ⟨rfl, rfl⟩ := hp4
          have hP : va_P D vwCl (wM cI cZ h cd lev tm gn nL nC nE L B C F ys ao) H := hP
          have hD : va_D A (wM cI cZ h cd lev tm gn nL nC nE L B C F ys ao) := hD
          refine zb_ne (b := (inB q 1 50)) (tgt := 46) hx hb dX4_call_39 (by decide) (fun c39 => ?_) (fun c39 => ?_)
          · exact absurd hno (by simp [c6, c14, c19, c28, c39])
          · skip
            refine lv_iconst (v := 1) hx hb dX4_call_42 (by decide) ?_
            refine lv_goto (tgt := 60) hx hb dX4_call_43 (by decide) ?_
            refine va_put (D := D) (ci := 5) (v := .int 1) (ty := .int) (C := RX4) (T := TX4) (N := 28) hx hb hts kX4_call_inX4 tyX4 tyX4_ok nmX4 hown hK hP hD hS 0 rfl rfl 0 (by decide) (hts _ kX4_call_f78) (fun _ h9 => h9) rfl (by decide +kernel) rfl rfl (Nat.le_of_ble_eq_true rfl) dX4_call_60 (fun H locs hP hD hS => ?_)
            have hP : va_P D vwCl (wM cI cZ h 1 lev tm gn nL nC nE L B C F ys ao) H := hP
            have hD : va_D A (wM cI cZ h 1 lev tm gn nL nC nE L B C F ys ao) := hD
            refine lv_aload_n hx hb dX4_call_63 rfl (lv_at hl 0 rfl) ?_
            refine va_get (D := D) (ci := 5) (v := .int 1) (C := RX4) (T := TX4) (N := 28) hx hb hts kX4_call_inX4 hown hK hP 0 rfl rfl 0 (by decide) (hts _ kX4_call_f78) (fun _ h9 => h9) rfl dX4_call_64 ?_
            refine lv_if_le (x := 1) (tgt := 72) hx hb dX4_call_67 (by decide) (fun c67 => ?_) (fun c67 => ?_)
            · exact absurd c67 (by decide)
            · skip
              refine lv_iconst (v := 0) hx hb dX4_call_70 (by decide) ?_
              exact z_iret hx hb hr hlocks hS hP rfl dX4_call_71 (⟨rfl, rfl⟩)

theorem kX4_call_f88 : Cond.fieldLink RX4 88 "LiftRows2Model" "calls" "I" ∈ wsX4_call := by decide +kernel
set_option maxHeartbeats 4000000 in
set_option maxRecDepth 100000 in
theorem tX4_call_n2 (l : Launch) (D : va_G) (cI cZ cJ : ClassId) (h : Nat → Nat) (cd : Int32) (lev tm : Nat) (gn : Int32) (nL nC nE : Nat) (L B C F : Nat → Nat → Int32) (ys ao : Nat → Int32) (a b rk q : Int32) (h1 : inB a 0 (nI lev - 1) = true) (h2 : inB b 0 (nI lev - 1) = true) (h3 : ¬ a = b) (h4 : inB rk 1 3 = true) (h5 : inB q 1 50 = true) (h6 : nC = 24)  : ∀ sz : Nat, zMi l yX4_call wsX4_call ({ frames := 2, cells := 0, slots := 0, locals := 44 } : Room) D cI cZ cJ (wM cI cZ h cd lev tm gn nL nC nE L B C F ys ao) sz [.ref (h 0), .int a, .int b, .int rk, .int q] (fun r w' => r = 0 ∧ w' = wM cI cZ h 2 lev tm gn nL nC nE L B C F ys ao) := by
  intro sz
  refine z_head (y := yX4_call) (av := [.ref (h 0), .int a, .int b, .int rk, .int q]) (w := (wM cI cZ h cd lev tm gn nL nC nE L B C F ys ao)) (Qc := fun A => zQi D (wM cI cZ h cd lev tm gn nL nC nE L B C F ys ao) (fun r w' => r = 0 ∧ w' = wM cI cZ h 2 lev tm gn nL nC nE L B C F ys ao) A) (cc := cX4_call) (maxL := 6) (ret := (some .int)) (by decide) rfl (Nat.le_of_ble_eq_true rfl) ?_
  intro p e s m below meth c ls A hat hP hD hS hl
  obtain ⟨hx, hb, hr, hml, hlocks, hts, hown, hin, hK, hE, hA⟩ := hat
  have hP : va_P D vwCl (wM cI cZ h cd lev tm gn nL nC nE L B C F ys ao) s.heap := hP
  have hD : va_D A (wM cI cZ h cd lev tm gn nL nC nE L B C F ys ao) := hD
  have hl : lv_has ls 6 [(0, .ref (h 0)), (1, .int a), (2, .int b), (3, .int rk), (4, .int q)] := hl
  refine lv_aload_n hx hb dX4_call_0 rfl (lv_at hl 0 rfl) ?_
  refine lv_aload_n hx hb dX4_call_1 rfl (lv_at hl 0 rfl) ?_
  refine lv_iload_n hx hb dX4_call_2 rfl (lv_at hl 1 rfl) ?_
  refine z_backiA (z_runVA (n := 1) (As := [.int a]) (ci := 5) (rest := [.ref (h 0)]) hx hb hml hown hts hK hE hP hD (tX4_isLevel l D cI cZ cJ h cd lev tm gn nL nC nE L B C F ys ao a  _) gX4_call_X4_isLevel rfl rfl rfl (by decide +kernel) ⟨Nat.le_of_ble_eq_true rfl, Nat.le_of_ble_eq_true rfl⟩ rfl rfl rfl hl.1 rfl (Nat.le_of_ble_eq_true rfl) dX4_call_3 ⟨Nat.zero_le _, Nat.zero_le _⟩) hD hS hA (fun r1 w1 H locs hp1 hP hD hS => ?_)
  obtain ⟨rfl, rfl⟩ := hp1
  have hP : va_P D vwCl (wM cI cZ h cd lev tm gn nL nC nE L B C F ys ao) H := hP
  have hD : va_D A (wM cI cZ h cd lev tm gn nL nC nE L B C F ys ao) := hD
  refine zb_eq (b := (inB a 0 (nI lev - 1))) (tgt := 42) hx hb dX4_call_6 (by decide) (fun c6 => ?_) (fun c6 => ?_)
  · exact absurd (h1.symm.trans c6) (by decide)
  · skip
    refine lv_aload_n hx hb dX4_call_9 rfl (lv_at hl 0 rfl) ?_
    refine lv_iload_n hx hb dX4_call_10 rfl (lv_at hl 2 rfl) ?_
    refine z_backiA (z_runVA (n := 1) (As := [.int b]) (ci := 5) (rest := [.ref (h 0)]) hx hb hml hown hts hK hE hP hD (tX4_isLevel l D cI cZ cJ h cd lev tm gn nL nC nE L B C F ys ao b  _) gX4_call_X4_isLevel rfl rfl rfl (by decide +kernel) ⟨Nat.le_of_ble_eq_true rfl, Nat.le_of_ble_eq_true rfl⟩ rfl rfl rfl hl.1 rfl (Nat.le_of_ble_eq_true rfl) dX4_call_11 ⟨Nat.zero_le _, Nat.zero_le _⟩) hD hS hA (fun r2 w1 H locs hp2 hP hD hS => ?_)
    obtain ⟨rfl, rfl⟩ := hp2
    have hP : va_P D vwCl (wM cI cZ h cd lev tm gn nL nC nE L B C F ys ao) H := hP
    have hD : va_D A (wM cI cZ h cd lev tm gn nL nC nE L B C F ys ao) := hD
    refine zb_eq (b := (inB b 0 (nI lev - 1))) (tgt := 42) hx hb dX4_call_14 (by decide) (fun c14 => ?_) (fun c14 => ?_)
    · exact absurd (h2.symm.trans c14) (by decide)
    · skip
      refine lv_iload_n hx hb dX4_call_17 rfl (lv_at hl 1 rfl) ?_
      refine lv_iload_n hx hb dX4_call_18 rfl (lv_at hl 2 rfl) ?_
      refine lv_icmp_eq (x := a) (y := b) (tgt := 42) hx hb dX4_call_19 (by decide) (fun c19 => ?_) (fun c19 => ?_)
      · exact absurd c19 h3
      · skip
        refine lv_iload_n hx hb dX4_call_22 rfl (lv_at hl 3 rfl) ?_
        refine lv_iconst (v := 1) hx hb dX4_call_23 (by decide) ?_
        refine lv_iconst (v := 3) hx hb dX4_call_24 (by decide) ?_
        refine z_backi (z_runS (n := 3) (As := [.int rk, .int 1, .int 3]) (rest := [.ref (h 0)]) hx hb hml hown hts hK hE hP hD [] rfl (by decide) (tX4_in l D cI cZ cJ rk 1 3 _) gX4_call_X4_in rfl rfl rfl (by decide +kernel) ⟨Nat.le_of_ble_eq_true rfl, Nat.le_of_ble_eq_true rfl⟩ rfl hl.1 rfl (Nat.le_of_ble_eq_true rfl) dX4_call_25 ⟨Nat.zero_le _, Nat.zero_le _⟩) hP hD hS hA [] rfl (fun r3 w1 H locs hp3 hP hD hS => ?_)
        obtain ⟨rfl, rfl⟩ := hp3
        have hP : va_P D vwCl (wM cI cZ h cd lev tm gn nL nC nE L B C F ys ao) H := hP
        have hD : va_D A (wM cI cZ h cd lev tm gn nL nC nE L B C F ys ao) := hD
        refine zb_eq (b := (inB rk 1 3)) (tgt := 42) hx hb dX4_call_28 (by decide) (fun c28 => ?_) (fun c28 => ?_)
        · exact absurd (h4.symm.trans c28) (by decide)
        · skip
          refine lv_iload hx hb dX4_call_31 (lv_at hl 4 rfl) ?_
          refine lv_iconst (v := 1) hx hb dX4_call_33 (by decide) ?_
          refine lv_bipush (v := 50) hx hb dX4_call_34 (by decide) ?_
          refine z_backi (z_runS (n := 3) (As := [.int q, .int 1, .int 50]) (rest := [.ref (h 0)]) hx hb hml hown hts hK hE hP hD [] rfl (by decide) (tX4_in l D cI cZ cJ q 1 50 _) gX4_call_X4_in rfl rfl rfl (by decide +kernel) ⟨Nat.le_of_ble_eq_true rfl, Nat.le_of_ble_eq_true rfl⟩ rfl hl.1 rfl (Nat.le_of_ble_eq_true rfl) dX4_call_36 ⟨Nat.zero_le _, Nat.zero_le _⟩) hP hD hS hA [] rfl (fun r4 w1 H locs hp4 hP hD hS => ?_)
          obtain ⟨rfl, rfl⟩ := hp4
          have hP : va_P D vwCl (wM cI cZ h cd lev tm gn nL nC nE L B C F ys ao) H := hP
          have hD : va_D A (wM cI cZ h cd lev tm gn nL nC nE L B C F ys ao) := hD
          refine zb_ne (b := (inB q 1 50)) (tgt := 46) hx hb dX4_call_39 (by decide) (fun c39 => ?_) (fun c39 => ?_)
          · skip
            refine lv_aload_n hx hb dX4_call_46 rfl (lv_at hl 0 rfl) ?_
            refine va_get (D := D) (ci := 5) (v := .int (nI nC)) (C := RX4) (T := TX4) (N := 28) hx hb hts kX4_call_inX4 hown hK hP 0 rfl rfl 12 (by decide) (hts _ kX4_call_f88) (fun _ h9 => h9) rfl dX4_call_47 ?_
            refine lv_bipush (v := 24) hx hb dX4_call_50 (by decide) ?_
            refine zn_ne (i := nC) (j := 24) (tgt := 59) hx hb (by omega) (by omega) dX4_call_52 (by decide) (fun c52 => ?_) (fun c52 => ?_)
            · exact absurd h6 c52
            · skip
              refine lv_iconst (v := 2) hx hb dX4_call_55 (by decide) ?_
              refine lv_goto (tgt := 60) hx hb dX4_call_56 (by decide) ?_
              refine va_put (D := D) (ci := 5) (v := .int 2) (ty := .int) (C := RX4) (T := TX4) (N := 28) hx hb hts kX4_call_inX4 tyX4 tyX4_ok nmX4 hown hK hP hD hS 0 rfl rfl 0 (by decide) (hts _ kX4_call_f78) (fun _ h9 => h9) rfl (by decide +kernel) rfl rfl (Nat.le_of_ble_eq_true rfl) dX4_call_60 (fun H locs hP hD hS => ?_)
              have hP : va_P D vwCl (wM cI cZ h 2 lev tm gn nL nC nE L B C F ys ao) H := hP
              have hD : va_D A (wM cI cZ h 2 lev tm gn nL nC nE L B C F ys ao) := hD
              refine lv_aload_n hx hb dX4_call_63 rfl (lv_at hl 0 rfl) ?_
              refine va_get (D := D) (ci := 5) (v := .int 2) (C := RX4) (T := TX4) (N := 28) hx hb hts kX4_call_inX4 hown hK hP 0 rfl rfl 0 (by decide) (hts _ kX4_call_f78) (fun _ h9 => h9) rfl dX4_call_64 ?_
              refine lv_if_le (x := 2) (tgt := 72) hx hb dX4_call_67 (by decide) (fun c67 => ?_) (fun c67 => ?_)
              · exact absurd c67 (by decide)
              · skip
                refine lv_iconst (v := 0) hx hb dX4_call_70 (by decide) ?_
                exact z_iret hx hb hr hlocks hS hP rfl dX4_call_71 (⟨rfl, rfl⟩)
          · exact absurd (h5.symm.trans c39) (by decide)

theorem kX4_call_f32 : Cond.fieldLink RX4 32 "LiftRows2Model" "from" "[I" ∈ wsX4_call := by decide +kernel
theorem kX4_call_f35 : Cond.fieldLink RX4 35 "LiftRows2Model" "to" "[I" ∈ wsX4_call := by decide +kernel
theorem kX4_call_f38 : Cond.fieldLink RX4 38 "LiftRows2Model" "rank" "[I" ∈ wsX4_call := by decide +kernel
theorem kX4_call_f41 : Cond.fieldLink RX4 41 "LiftRows2Model" "load" "[I" ∈ wsX4_call := by decide +kernel
theorem kX4_call_f50 : Cond.fieldLink RX4 50 "LiftRows2Model" "came" "[I" ∈ wsX4_call := by decide +kernel
theorem kX4_call_f99 : Cond.fieldLink RX4 99 "LiftRows2Model" "time" "I" ∈ wsX4_call := by decide +kernel
theorem kX4_call_f53 : Cond.fieldLink RX4 53 "LiftRows2Model" "boarded" "[I" ∈ wsX4_call := by decide +kernel
theorem kX4_call_f56 : Cond.fieldLink RX4 56 "LiftRows2Model" "servedAt" "[I" ∈ wsX4_call := by decide +kernel
theorem kX4_call_f47 : Cond.fieldLink RX4 47 "LiftRows2Model" "liftOf" "[I" ∈ wsX4_call := by decide +kernel
set_option maxHeartbeats 4000000 in
set_option maxRecDepth 100000 in
theorem tX4_call_ok (l : Launch) (D : va_G) (cI cZ cJ : ClassId) (h : Nat → Nat) (cd : Int32) (lev tm : Nat) (gn : Int32) (nL nC nE : Nat) (L B C F : Nat → Nat → Int32) (ys ao : Nat → Int32) (a b rk q : Int32) (h1 : inB a 0 (nI lev - 1) = true) (h2 : inB b 0 (nI lev - 1) = true) (h3 : ¬ a = b) (h4 : inB rk 1 3 = true) (h5 : inB q 1 50 = true) (h6 : nC < 24) (hL : nL ≤ 4)  : ∀ sz : Nat, zMi l yX4_call wsX4_call ({ frames := 2, cells := 0, slots := 0, locals := 44 } : Room) D cI cZ cJ (wM cI cZ h cd lev tm gn nL nC nE L B C F ys ao) sz [.ref (h 0), .int a, .int b, .int rk, .int q] (fun r w' => r = nI nC ∧ w' = wM cI cZ h 0 lev tm gn nL (nC + 1) nE L B (upC (upC (upC (upC (upC (upC (upC (upC C 0 nC a) 1 nC b) 2 nC rk) 3 nC q) 6 nC (nI tm)) 7 nC (-1)) 8 nC (-1)) 5 nC (encO (nmF L B a q nL))) F ys ao) := by
  intro sz
  refine z_head (y := yX4_call) (av := [.ref (h 0), .int a, .int b, .int rk, .int q]) (w := (wM cI cZ h cd lev tm gn nL nC nE L B C F ys ao)) (Qc := fun A => zQi D (wM cI cZ h cd lev tm gn nL nC nE L B C F ys ao) (fun r w' => r = nI nC ∧ w' = wM cI cZ h 0 lev tm gn nL (nC + 1) nE L B (upC (upC (upC (upC (upC (upC (upC (upC C 0 nC a) 1 nC b) 2 nC rk) 3 nC q) 6 nC (nI tm)) 7 nC (-1)) 8 nC (-1)) 5 nC (encO (nmF L B a q nL))) F ys ao) A) (cc := cX4_call) (maxL := 6) (ret := (some .int)) (by decide) rfl (Nat.le_of_ble_eq_true rfl) ?_
  intro p e s m below meth c ls A hat hP hD hS hl
  obtain ⟨hx, hb, hr, hml, hlocks, hts, hown, hin, hK, hE, hA⟩ := hat
  have hP : va_P D vwCl (wM cI cZ h cd lev tm gn nL nC nE L B C F ys ao) s.heap := hP
  have hD : va_D A (wM cI cZ h cd lev tm gn nL nC nE L B C F ys ao) := hD
  have hl : lv_has ls 6 [(0, .ref (h 0)), (1, .int a), (2, .int b), (3, .int rk), (4, .int q)] := hl
  refine lv_aload_n hx hb dX4_call_0 rfl (lv_at hl 0 rfl) ?_
  refine lv_aload_n hx hb dX4_call_1 rfl (lv_at hl 0 rfl) ?_
  refine lv_iload_n hx hb dX4_call_2 rfl (lv_at hl 1 rfl) ?_
  refine z_backiA (z_runVA (n := 1) (As := [.int a]) (ci := 5) (rest := [.ref (h 0)]) hx hb hml hown hts hK hE hP hD (tX4_isLevel l D cI cZ cJ h cd lev tm gn nL nC nE L B C F ys ao a  _) gX4_call_X4_isLevel rfl rfl rfl (by decide +kernel) ⟨Nat.le_of_ble_eq_true rfl, Nat.le_of_ble_eq_true rfl⟩ rfl rfl rfl hl.1 rfl (Nat.le_of_ble_eq_true rfl) dX4_call_3 ⟨Nat.zero_le _, Nat.zero_le _⟩) hD hS hA (fun r1 w1 H locs hp1 hP hD hS => ?_)
  obtain ⟨rfl, rfl⟩ := hp1
  have hP : va_P D vwCl (wM cI cZ h cd lev tm gn nL nC nE L B C F ys ao) H := hP
  have hD : va_D A (wM cI cZ h cd lev tm gn nL nC nE L B C F ys ao) := hD
  refine zb_eq (b := (inB a 0 (nI lev - 1))) (tgt := 42) hx hb dX4_call_6 (by decide) (fun c6 => ?_) (fun c6 => ?_)
  · exact absurd (h1.symm.trans c6) (by decide)
  · skip
    refine lv_aload_n hx hb dX4_call_9 rfl (lv_at hl 0 rfl) ?_
    refine lv_iload_n hx hb dX4_call_10 rfl (lv_at hl 2 rfl) ?_
    refine z_backiA (z_runVA (n := 1) (As := [.int b]) (ci := 5) (rest := [.ref (h 0)]) hx hb hml hown hts hK hE hP hD (tX4_isLevel l D cI cZ cJ h cd lev tm gn nL nC nE L B C F ys ao b  _) gX4_call_X4_isLevel rfl rfl rfl (by decide +kernel) ⟨Nat.le_of_ble_eq_true rfl, Nat.le_of_ble_eq_true rfl⟩ rfl rfl rfl hl.1 rfl (Nat.le_of_ble_eq_true rfl) dX4_call_11 ⟨Nat.zero_le _, Nat.zero_le _⟩) hD hS hA (fun r2 w1 H locs hp2 hP hD hS => ?_)
    obtain ⟨rfl, rfl⟩ := hp2
    have hP : va_P D vwCl (wM cI cZ h cd lev tm gn nL nC nE L B C F ys ao) H := hP
    have hD : va_D A (wM cI cZ h cd lev tm gn nL nC nE L B C F ys ao) := hD
    refine zb_eq (b := (inB b 0 (nI lev - 1))) (tgt := 42) hx hb dX4_call_14 (by decide) (fun c14 => ?_) (fun c14 => ?_)
    · exact absurd (h2.symm.trans c14) (by decide)
    · skip
      refine lv_iload_n hx hb dX4_call_17 rfl (lv_at hl 1 rfl) ?_
      refine lv_iload_n hx hb dX4_call_18 rfl (lv_at hl 2 rfl) ?_
      refine lv_icmp_eq (x := a) (y := b) (tgt := 42) hx hb dX4_call_19 (by decide) (fun c19 => ?_) (fun c19 => ?_)
      · exact absurd c19 h3
      · skip
        refine lv_iload_n hx hb dX4_call_22 rfl (lv_at hl 3 rfl) ?_
        refine lv_iconst (v := 1) hx hb dX4_call_23 (by decide) ?_
        refine lv_iconst (v := 3) hx hb dX4_call_24 (by decide) ?_
        refine z_backi (z_runS (n := 3) (As := [.int rk, .int 1, .int 3]) (rest := [.ref (h 0)]) hx hb hml hown hts hK hE hP hD [] rfl (by decide) (tX4_in l D cI cZ cJ rk 1 3 _) gX4_call_X4_in rfl rfl rfl (by decide +kernel) ⟨Nat.le_of_ble_eq_true rfl, Nat.le_of_ble_eq_true rfl⟩ rfl hl.1 rfl (Nat.le_of_ble_eq_true rfl) dX4_call_25 ⟨Nat.zero_le _, Nat.zero_le _⟩) hP hD hS hA [] rfl (fun r3 w1 H locs hp3 hP hD hS => ?_)
        obtain ⟨rfl, rfl⟩ := hp3
        have hP : va_P D vwCl (wM cI cZ h cd lev tm gn nL nC nE L B C F ys ao) H := hP
        have hD : va_D A (wM cI cZ h cd lev tm gn nL nC nE L B C F ys ao) := hD
        refine zb_eq (b := (inB rk 1 3)) (tgt := 42) hx hb dX4_call_28 (by decide) (fun c28 => ?_) (fun c28 => ?_)
        · exact absurd (h4.symm.trans c28) (by decide)
        · skip
          refine lv_iload hx hb dX4_call_31 (lv_at hl 4 rfl) ?_
          refine lv_iconst (v := 1) hx hb dX4_call_33 (by decide) ?_
          refine lv_bipush (v := 50) hx hb dX4_call_34 (by decide) ?_
          refine z_backi (z_runS (n := 3) (As := [.int q, .int 1, .int 50]) (rest := [.ref (h 0)]) hx hb hml hown hts hK hE hP hD [] rfl (by decide) (tX4_in l D cI cZ cJ q 1 50 _) gX4_call_X4_in rfl rfl rfl (by decide +kernel) ⟨Nat.le_of_ble_eq_true rfl, Nat.le_of_ble_eq_true rfl⟩ rfl hl.1 rfl (Nat.le_of_ble_eq_true rfl) dX4_call_36 ⟨Nat.zero_le _, Nat.zero_le _⟩) hP hD hS hA [] rfl (fun r4 w1 H locs hp4 hP hD hS => ?_)
          obtain ⟨rfl, rfl⟩ := hp4
          have hP : va_P D vwCl (wM cI cZ h cd lev tm gn nL nC nE L B C F ys ao) H := hP
          have hD : va_D A (wM cI cZ h cd lev tm gn nL nC nE L B C F ys ao) := hD
          refine zb_ne (b := (inB q 1 50)) (tgt := 46) hx hb dX4_call_39 (by decide) (fun c39 => ?_) (fun c39 => ?_)
          · skip
            refine lv_aload_n hx hb dX4_call_46 rfl (lv_at hl 0 rfl) ?_
            refine va_get (D := D) (ci := 5) (v := .int (nI nC)) (C := RX4) (T := TX4) (N := 28) hx hb hts kX4_call_inX4 hown hK hP 0 rfl rfl 12 (by decide) (hts _ kX4_call_f88) (fun _ h9 => h9) rfl dX4_call_47 ?_
            refine lv_bipush (v := 24) hx hb dX4_call_50 (by decide) ?_
            refine zn_ne (i := nC) (j := 24) (tgt := 59) hx hb (by omega) (by omega) dX4_call_52 (by decide) (fun c52 => ?_) (fun c52 => ?_)
            · skip
              refine lv_iconst (v := 0) hx hb dX4_call_59 (by decide) ?_
              refine va_put (D := D) (ci := 5) (v := .int 0) (ty := .int) (C := RX4) (T := TX4) (N := 28) hx hb hts kX4_call_inX4 tyX4 tyX4_ok nmX4 hown hK hP hD hS 0 rfl rfl 0 (by decide) (hts _ kX4_call_f78) (fun _ h9 => h9) rfl (by decide +kernel) rfl rfl (Nat.le_of_ble_eq_true rfl) dX4_call_60 (fun H locs hP hD hS => ?_)
              have hP : va_P D vwCl (wM cI cZ h 0 lev tm gn nL nC nE L B C F ys ao) H := hP
              have hD : va_D A (wM cI cZ h 0 lev tm gn nL nC nE L B C F ys ao) := hD
              refine lv_aload_n hx hb dX4_call_63 rfl (lv_at hl 0 rfl) ?_
              refine va_get (D := D) (ci := 5) (v := .int 0) (C := RX4) (T := TX4) (N := 28) hx hb hts kX4_call_inX4 hown hK hP 0 rfl rfl 0 (by decide) (hts _ kX4_call_f78) (fun _ h9 => h9) rfl dX4_call_64 ?_
              refine lv_if_le (x := 0) (tgt := 72) hx hb dX4_call_67 (by decide) (fun c67 => ?_) (fun c67 => ?_)
              · skip
                refine lv_aload_n hx hb dX4_call_72 rfl (lv_at hl 0 rfl) ?_
                refine va_get (D := D) (ci := 5) (v := .int (nI nC)) (C := RX4) (T := TX4) (N := 28) hx hb hts kX4_call_inX4 hown hK hP 0 rfl rfl 12 (by decide) (hts _ kX4_call_f88) (fun _ h9 => h9) rfl dX4_call_73 ?_
                refine lv_istore (lv' := [(5, .int (nI nC)), (0, .ref (h 0)), (1, .int a), (2, .int b), (3, .int rk), (4, .int q)]) hx hb dX4_call_76 hl (by decide) rfl (fun ls hl => ?_)
                refine lv_aload_n hx hb dX4_call_78 rfl (lv_at hl 1 rfl) ?_
                refine lv_dup hx hb dX4_call_79 rfl ?_
                refine va_get (D := D) (ci := 5) (v := .int (nI nC)) (C := RX4) (T := TX4) (N := 28) hx hb hts kX4_call_inX4 hown hK hP 0 rfl rfl 12 (by decide) (hts _ kX4_call_f88) (fun _ h9 => h9) rfl dX4_call_80 ?_
                refine lv_iconst (v := 1) hx hb dX4_call_83 (by decide) ?_
                refine zn_add (i := nC) (j := 1) hx hb dX4_call_84 ?_
                refine va_put (D := D) (ci := 5) (v := .int (nI (nC + 1))) (ty := .int) (C := RX4) (T := TX4) (N := 28) hx hb hts kX4_call_inX4 tyX4 tyX4_ok nmX4 hown hK hP hD hS 0 rfl rfl 12 (by decide) (hts _ kX4_call_f88) (fun _ h9 => h9) rfl (by decide +kernel) rfl rfl (Nat.le_of_ble_eq_true rfl) dX4_call_85 (fun H locs hP hD hS => ?_)
                have hP : va_P D vwCl (wM cI cZ h 0 lev tm gn nL (nC + 1) nE L B C F ys ao) H := hP
                have hD : va_D A (wM cI cZ h 0 lev tm gn nL (nC + 1) nE L B C F ys ao) := hD
                refine lv_aload_n hx hb dX4_call_88 rfl (lv_at hl 1 rfl) ?_
                refine va_get (D := D) (ci := 5) (v := .ref (h 8)) (C := RX4) (T := TX4) (N := 28) hx hb hts kX4_call_inX4 hown hK hP 0 rfl rfl 13 (by decide) (hts _ kX4_call_f32) (fun _ h9 => h9) rfl dX4_call_89 ?_
                refine lv_iload hx hb dX4_call_92 (lv_at hl 0 rfl) ?_
                refine lv_iload_n hx hb dX4_call_94 rfl (lv_at hl 2 rfl) ?_
                refine z_iast (k := nC) (x := a) hx hb hK hP hD hS 8 rfl (by decide) (by omega) dX4_call_95 (fun H locs hP hD hS => ?_)
                have hP : va_P D vwCl (wM cI cZ h 0 lev tm gn nL (nC + 1) nE L B (upC C 0 nC a) F ys ao) H := hP
                have hD : va_D A (wM cI cZ h 0 lev tm gn nL (nC + 1) nE L B (upC C 0 nC a) F ys ao) := hD
                refine lv_aload_n hx hb dX4_call_96 rfl (lv_at hl 1 rfl) ?_
                refine va_get (D := D) (ci := 5) (v := .ref (h 9)) (C := RX4) (T := TX4) (N := 28) hx hb hts kX4_call_inX4 hown hK hP 0 rfl rfl 14 (by decide) (hts _ kX4_call_f35) (fun _ h9 => h9) rfl dX4_call_97 ?_
                refine lv_iload hx hb dX4_call_100 (lv_at hl 0 rfl) ?_
                refine lv_iload_n hx hb dX4_call_102 rfl (lv_at hl 3 rfl) ?_
                refine z_iast (k := nC) (x := b) hx hb hK hP hD hS 9 rfl (by decide) (by omega) dX4_call_103 (fun H locs hP hD hS => ?_)
                have hP : va_P D vwCl (wM cI cZ h 0 lev tm gn nL (nC + 1) nE L B (upC (upC C 0 nC a) 1 nC b) F ys ao) H := hP
                have hD : va_D A (wM cI cZ h 0 lev tm gn nL (nC + 1) nE L B (upC (upC C 0 nC a) 1 nC b) F ys ao) := hD
                refine lv_aload_n hx hb dX4_call_104 rfl (lv_at hl 1 rfl) ?_
                refine va_get (D := D) (ci := 5) (v := .ref (h 10)) (C := RX4) (T := TX4) (N := 28) hx hb hts kX4_call_inX4 hown hK hP 0 rfl rfl 15 (by decide) (hts _ kX4_call_f38) (fun _ h9 => h9) rfl dX4_call_105 ?_
                refine lv_iload hx hb dX4_call_108 (lv_at hl 0 rfl) ?_
                refine lv_iload_n hx hb dX4_call_110 rfl (lv_at hl 4 rfl) ?_
                refine z_iast (k := nC) (x := rk) hx hb hK hP hD hS 10 rfl (by decide) (by omega) dX4_call_111 (fun H locs hP hD hS => ?_)
                have hP : va_P D vwCl (wM cI cZ h 0 lev tm gn nL (nC + 1) nE L B (upC (upC (upC C 0 nC a) 1 nC b) 2 nC rk) F ys ao) H := hP
                have hD : va_D A (wM cI cZ h 0 lev tm gn nL (nC + 1) nE L B (upC (upC (upC C 0 nC a) 1 nC b) 2 nC rk) F ys ao) := hD
                refine lv_aload_n hx hb dX4_call_112 rfl (lv_at hl 1 rfl) ?_
                refine va_get (D := D) (ci := 5) (v := .ref (h 11)) (C := RX4) (T := TX4) (N := 28) hx hb hts kX4_call_inX4 hown hK hP 0 rfl rfl 16 (by decide) (hts _ kX4_call_f41) (fun _ h9 => h9) rfl dX4_call_113 ?_
                refine lv_iload hx hb dX4_call_116 (lv_at hl 0 rfl) ?_
                refine lv_iload hx hb dX4_call_118 (lv_at hl 5 rfl) ?_
                refine z_iast (k := nC) (x := q) hx hb hK hP hD hS 11 rfl (by decide) (by omega) dX4_call_120 (fun H locs hP hD hS => ?_)
                have hP : va_P D vwCl (wM cI cZ h 0 lev tm gn nL (nC + 1) nE L B (upC (upC (upC (upC C 0 nC a) 1 nC b) 2 nC rk) 3 nC q) F ys ao) H := hP
                have hD : va_D A (wM cI cZ h 0 lev tm gn nL (nC + 1) nE L B (upC (upC (upC (upC C 0 nC a) 1 nC b) 2 nC rk) 3 nC q) F ys ao) := hD
                refine lv_aload_n hx hb dX4_call_121 rfl (lv_at hl 1 rfl) ?_
                refine va_get (D := D) (ci := 5) (v := .ref (h 14)) (C := RX4) (T := TX4) (N := 28) hx hb hts kX4_call_inX4 hown hK hP 0 rfl rfl 19 (by decide) (hts _ kX4_call_f50) (fun _ h9 => h9) rfl dX4_call_122 ?_
                refine lv_iload hx hb dX4_call_125 (lv_at hl 0 rfl) ?_
                refine lv_aload_n hx hb dX4_call_127 rfl (lv_at hl 1 rfl) ?_
                refine va_get (D := D) (ci := 5) (v := .int (nI tm)) (C := RX4) (T := TX4) (N := 28) hx hb hts kX4_call_inX4 hown hK hP 0 rfl rfl 2 (by decide) (hts _ kX4_call_f99) (fun _ h9 => h9) rfl dX4_call_128 ?_
                refine z_iast (k := nC) (x := nI tm) hx hb hK hP hD hS 14 rfl (by decide) (by omega) dX4_call_131 (fun H locs hP hD hS => ?_)
                have hP : va_P D vwCl (wM cI cZ h 0 lev tm gn nL (nC + 1) nE L B (upC (upC (upC (upC (upC C 0 nC a) 1 nC b) 2 nC rk) 3 nC q) 6 nC (nI tm)) F ys ao) H := hP
                have hD : va_D A (wM cI cZ h 0 lev tm gn nL (nC + 1) nE L B (upC (upC (upC (upC (upC C 0 nC a) 1 nC b) 2 nC rk) 3 nC q) 6 nC (nI tm)) F ys ao) := hD
                refine lv_aload_n hx hb dX4_call_132 rfl (lv_at hl 1 rfl) ?_
                refine va_get (D := D) (ci := 5) (v := .ref (h 15)) (C := RX4) (T := TX4) (N := 28) hx hb hts kX4_call_inX4 hown hK hP 0 rfl rfl 20 (by decide) (hts _ kX4_call_f53) (fun _ h9 => h9) rfl dX4_call_133 ?_
                refine lv_iload hx hb dX4_call_136 (lv_at hl 0 rfl) ?_
                refine lv_iconst (v := (-1)) hx hb dX4_call_138 (by decide) ?_
                refine z_iast (k := nC) (x := (-1)) hx hb hK hP hD hS 15 rfl (by decide) (by omega) dX4_call_139 (fun H locs hP hD hS => ?_)
                have hP : va_P D vwCl (wM cI cZ h 0 lev tm gn nL (nC + 1) nE L B (upC (upC (upC (upC (upC (upC C 0 nC a) 1 nC b) 2 nC rk) 3 nC q) 6 nC (nI tm)) 7 nC (-1)) F ys ao) H := hP
                have hD : va_D A (wM cI cZ h 0 lev tm gn nL (nC + 1) nE L B (upC (upC (upC (upC (upC (upC C 0 nC a) 1 nC b) 2 nC rk) 3 nC q) 6 nC (nI tm)) 7 nC (-1)) F ys ao) := hD
                refine lv_aload_n hx hb dX4_call_140 rfl (lv_at hl 1 rfl) ?_
                refine va_get (D := D) (ci := 5) (v := .ref (h 16)) (C := RX4) (T := TX4) (N := 28) hx hb hts kX4_call_inX4 hown hK hP 0 rfl rfl 21 (by decide) (hts _ kX4_call_f56) (fun _ h9 => h9) rfl dX4_call_141 ?_
                refine lv_iload hx hb dX4_call_144 (lv_at hl 0 rfl) ?_
                refine lv_iconst (v := (-1)) hx hb dX4_call_146 (by decide) ?_
                refine z_iast (k := nC) (x := (-1)) hx hb hK hP hD hS 16 rfl (by decide) (by omega) dX4_call_147 (fun H locs hP hD hS => ?_)
                have hP : va_P D vwCl (wM cI cZ h 0 lev tm gn nL (nC + 1) nE L B (upC (upC (upC (upC (upC (upC (upC C 0 nC a) 1 nC b) 2 nC rk) 3 nC q) 6 nC (nI tm)) 7 nC (-1)) 8 nC (-1)) F ys ao) H := hP
                have hD : va_D A (wM cI cZ h 0 lev tm gn nL (nC + 1) nE L B (upC (upC (upC (upC (upC (upC (upC C 0 nC a) 1 nC b) 2 nC rk) 3 nC q) 6 nC (nI tm)) 7 nC (-1)) 8 nC (-1)) F ys ao) := hD
                refine lv_aload_n hx hb dX4_call_148 rfl (lv_at hl 1 rfl) ?_
                refine va_get (D := D) (ci := 5) (v := .ref (h 13)) (C := RX4) (T := TX4) (N := 28) hx hb hts kX4_call_inX4 hown hK hP 0 rfl rfl 18 (by decide) (hts _ kX4_call_f47) (fun _ h9 => h9) rfl dX4_call_149 ?_
                refine lv_iload hx hb dX4_call_152 (lv_at hl 0 rfl) ?_
                refine lv_aload_n hx hb dX4_call_154 rfl (lv_at hl 1 rfl) ?_
                refine lv_iload hx hb dX4_call_155 (lv_at hl 0 rfl) ?_
                refine z_backiA (z_runVA (n := 1) (As := [.int (nI nC)]) (ci := 5) (rest := [.int (nI nC), .ref (h 13)]) hx hb hml hown hts hK hE hP hD (tX4_nearest l D cI cZ cJ h 0 lev tm gn nL (nC + 1) nE L B (upC (upC (upC (upC (upC (upC (upC C 0 nC a) 1 nC b) 2 nC rk) 3 nC q) 6 nC (nI tm)) 7 nC (-1)) 8 nC (-1)) F ys ao nC (by omega) (by omega) _) gX4_call_X4_nearest rfl rfl rfl (by decide +kernel) ⟨Nat.le_of_ble_eq_true rfl, Nat.le_of_ble_eq_true rfl⟩ rfl rfl rfl hl.1 rfl (Nat.le_of_ble_eq_true rfl) dX4_call_157 ⟨Nat.zero_le _, Nat.zero_le _⟩) hD hS hA (fun r5 w1 H locs hp5 hP hD hS => ?_)
                obtain ⟨rfl, rfl⟩ := hp5
                have hP : va_P D vwCl (wM cI cZ h 0 lev tm gn nL (nC + 1) nE L B (upC (upC (upC (upC (upC (upC (upC C 0 nC a) 1 nC b) 2 nC rk) 3 nC q) 6 nC (nI tm)) 7 nC (-1)) 8 nC (-1)) F ys ao) H := hP
                have hD : va_D A (wM cI cZ h 0 lev tm gn nL (nC + 1) nE L B (upC (upC (upC (upC (upC (upC (upC C 0 nC a) 1 nC b) 2 nC rk) 3 nC q) 6 nC (nI tm)) 7 nC (-1)) 8 nC (-1)) F ys ao) := hD
                rw [show (upC (upC (upC (upC (upC (upC (upC C 0 nC a) 1 nC b) 2 nC rk) 3 nC q) 6 nC (nI tm)) 7 nC (-1)) 8 nC (-1)) 0 nC = a by simp [upC, upd], show (upC (upC (upC (upC (upC (upC (upC C 0 nC a) 1 nC b) 2 nC rk) 3 nC q) 6 nC (nI tm)) 7 nC (-1)) 8 nC (-1)) 3 nC = q by simp [upC, upd]]
                refine z_iast (k := nC) (x := encO (nmF L B a q nL)) hx hb hK hP hD hS 13 rfl (by decide) (by omega) dX4_call_160 (fun H locs hP hD hS => ?_)
                have hP : va_P D vwCl (wM cI cZ h 0 lev tm gn nL (nC + 1) nE L B (upC (upC (upC (upC (upC (upC (upC (upC C 0 nC a) 1 nC b) 2 nC rk) 3 nC q) 6 nC (nI tm)) 7 nC (-1)) 8 nC (-1)) 5 nC (encO (nmF L B a q nL))) F ys ao) H := hP
                have hD : va_D A (wM cI cZ h 0 lev tm gn nL (nC + 1) nE L B (upC (upC (upC (upC (upC (upC (upC (upC C 0 nC a) 1 nC b) 2 nC rk) 3 nC q) 6 nC (nI tm)) 7 nC (-1)) 8 nC (-1)) 5 nC (encO (nmF L B a q nL))) F ys ao) := hD
                refine lv_iload hx hb dX4_call_161 (lv_at hl 0 rfl) ?_
                exact z_iret hx hb hr hlocks hS hP rfl dX4_call_163 (⟨rfl, rfl⟩)
              · exact absurd c67 (by decide)
            · exact absurd c52 (by omega)
          · exact absurd (h5.symm.trans c39) (by decide)

theorem kX4_step_f78 : Cond.fieldLink RX4 78 "LiftRows2Model" "code" "I" ∈ wsX4_step := by decide +kernel
theorem kX4_step_inX4 : ∀ w ∈ wsX40, w ∈ wsX4_step := by decide +kernel
set_option maxHeartbeats 4000000 in
set_option maxRecDepth 100000 in
theorem tX4_step_no (l : Launch) (D : va_G) (cI cZ cJ : ClassId) (h : Nat → Nat) (cd : Int32) (lev tm : Nat) (gn : Int32) (nL nC nE : Nat) (L B C F : Nat → Nat → Int32) (ys ao : Nat → Int32) (v : Int32) (hno : inB v 0 200 = false)  : ∀ sz : Nat, zMi l yX4_step wsX4_step ({ frames := 4, cells := 0, slots := 0, locals := 92 } : Room) D cI cZ cJ (wM cI cZ h cd lev tm gn nL nC nE L B C F ys ao) sz [.ref (h 0), .int v] (fun r w' => r = 0 ∧ w' = wM cI cZ h 1 lev tm gn nL nC nE L B C F ys ao) := by
  intro sz
  refine z_head (y := yX4_step) (av := [.ref (h 0), .int v]) (w := (wM cI cZ h cd lev tm gn nL nC nE L B C F ys ao)) (Qc := fun A => zQi D (wM cI cZ h cd lev tm gn nL nC nE L B C F ys ao) (fun r w' => r = 0 ∧ w' = wM cI cZ h 1 lev tm gn nL nC nE L B C F ys ao) A) (cc := cX4_step) (maxL := 5) (ret := (some .int)) (by decide) rfl (Nat.le_of_ble_eq_true rfl) ?_
  intro p e s m below meth c ls A hat hP hD hS hl
  obtain ⟨hx, hb, hr, hml, hlocks, hts, hown, hin, hK, hE, hA⟩ := hat
  have hP : va_P D vwCl (wM cI cZ h cd lev tm gn nL nC nE L B C F ys ao) s.heap := hP
  have hD : va_D A (wM cI cZ h cd lev tm gn nL nC nE L B C F ys ao) := hD
  have hl : lv_has ls 5 [(0, .ref (h 0)), (1, .int v)] := hl
  refine lv_aload_n hx hb dX4_step_0 rfl (lv_at hl 0 rfl) ?_
  refine lv_iload_n hx hb dX4_step_1 rfl (lv_at hl 1 rfl) ?_
  refine lv_iconst (v := 0) hx hb dX4_step_2 (by decide) ?_
  refine lv_sipush (v := 200) hx hb dX4_step_3 (by decide) ?_
  refine z_backi (z_runS (n := 3) (As := [.int v, .int 0, .int 200]) (rest := [.ref (h 0)]) hx hb hml hown hts hK hE hP hD [] rfl (by decide) (tX4_in l D cI cZ cJ v 0 200 _) gX4_step_X4_in rfl rfl rfl (by decide +kernel) ⟨Nat.le_of_ble_eq_true rfl, Nat.le_of_ble_eq_true rfl⟩ rfl hl.1 rfl (Nat.le_of_ble_eq_true rfl) dX4_step_6 ⟨Nat.zero_le _, Nat.zero_le _⟩) hP hD hS hA [] rfl (fun r1 w1 H locs hp1 hP hD hS => ?_)
  obtain ⟨rfl, rfl⟩ := hp1
  have hP : va_P D vwCl (wM cI cZ h cd lev tm gn nL nC nE L B C F ys ao) H := hP
  have hD : va_D A (wM cI cZ h cd lev tm gn nL nC nE L B C F ys ao) := hD
  refine zb_eq (b := (inB v 0 200)) (tgt := 16) hx hb dX4_step_9 (by decide) (fun c9 => ?_) (fun c9 => ?_)
  · skip
    refine lv_iconst (v := 1) hx hb dX4_step_16 (by decide) ?_
    refine va_put (D := D) (ci := 5) (v := .int 1) (ty := .int) (C := RX4) (T := TX4) (N := 28) hx hb hts kX4_step_inX4 tyX4 tyX4_ok nmX4 hown hK hP hD hS 0 rfl rfl 0 (by decide) (hts _ kX4_step_f78) (fun _ h9 => h9) rfl (by decide +kernel) rfl rfl (Nat.le_of_ble_eq_true rfl) dX4_step_17 (fun H locs hP hD hS => ?_)
    have hP : va_P D vwCl (wM cI cZ h 1 lev tm gn nL nC nE L B C F ys ao) H := hP
    have hD : va_D A (wM cI cZ h 1 lev tm gn nL nC nE L B C F ys ao) := hD
    refine lv_aload_n hx hb dX4_step_20 rfl (lv_at hl 0 rfl) ?_
    refine va_get (D := D) (ci := 5) (v := .int 1) (C := RX4) (T := TX4) (N := 28) hx hb hts kX4_step_inX4 hown hK hP 0 rfl rfl 0 (by decide) (hts _ kX4_step_f78) (fun _ h9 => h9) rfl dX4_step_21 ?_
    refine lv_if_le (x := 1) (tgt := 29) hx hb dX4_step_24 (by decide) (fun c24 => ?_) (fun c24 => ?_)
    · exact absurd c24 (by decide)
    · skip
      refine lv_iconst (v := 0) hx hb dX4_step_27 (by decide) ?_
      exact z_iret hx hb hr hlocks hS hP rfl dX4_step_28 (⟨rfl, rfl⟩)
  · exact absurd (hno.symm.trans c9) (by decide)

theorem kX4_step_f85 : Cond.fieldLink RX4 85 "LiftRows2Model" "lifts" "I" ∈ wsX4_step := by decide +kernel
theorem kX4_step_f26 : Cond.fieldLink RX4 26 "LiftRows2Model" "stuck" "[Z" ∈ wsX4_step := by decide +kernel
theorem kX4_step_f109 : Cond.fieldLink RX4 109 "LiftRows2Model" "events" "I" ∈ wsX4_step := by decide +kernel
theorem kX4_step_f99 : Cond.fieldLink RX4 99 "LiftRows2Model" "time" "I" ∈ wsX4_step := by decide +kernel
set_option maxHeartbeats 4000000 in
set_option maxRecDepth 100000 in
theorem tX4_step_ok (l : Launch) (D : va_G) (cI cZ cJ : ClassId) (h : Nat → Nat) (cd : Int32) (lev tm : Nat) (gn : Int32) (nL nC nE : Nat) (L B C F : Nat → Nat → Int32) (ys ao : Nat → Int32) (n : Nat) (hn : n ≤ 200) (hL : nL ≤ 4) (hC : nC ≤ 24) (hok : stOK C nC nE)  : ∀ sz : Nat, zMi l yX4_step wsX4_step ({ frames := 4, cells := 0, slots := 0, locals := 92 } : Room) D cI cZ cJ (wM cI cZ h cd lev tm gn nL nC nE L B C F ys ao) sz [.ref (h 0), .int (nI n)] (fun r w' => r = nI (stpM tm nL nC B (gn, nE, L, C, F) n).2.1 - nI nE ∧ w' = wM cI cZ h 0 lev (tm + n) (stpM tm nL nC B (gn, nE, L, C, F) n).1 nL nC (stpM tm nL nC B (gn, nE, L, C, F) n).2.1 (stpM tm nL nC B (gn, nE, L, C, F) n).2.2.1 B (stpM tm nL nC B (gn, nE, L, C, F) n).2.2.2.1 (stpM tm nL nC B (gn, nE, L, C, F) n).2.2.2.2 ys ao) := by
  intro sz
  refine z_head (y := yX4_step) (av := [.ref (h 0), .int (nI n)]) (w := (wM cI cZ h cd lev tm gn nL nC nE L B C F ys ao)) (Qc := fun A => zQi D (wM cI cZ h cd lev tm gn nL nC nE L B C F ys ao) (fun r w' => r = nI (stpM tm nL nC B (gn, nE, L, C, F) n).2.1 - nI nE ∧ w' = wM cI cZ h 0 lev (tm + n) (stpM tm nL nC B (gn, nE, L, C, F) n).1 nL nC (stpM tm nL nC B (gn, nE, L, C, F) n).2.1 (stpM tm nL nC B (gn, nE, L, C, F) n).2.2.1 B (stpM tm nL nC B (gn, nE, L, C, F) n).2.2.2.1 (stpM tm nL nC B (gn, nE, L, C, F) n).2.2.2.2 ys ao) A) (cc := cX4_step) (maxL := 5) (ret := (some .int)) (by decide) rfl (Nat.le_of_ble_eq_true rfl) ?_
  intro p e s m below meth c ls A hat hP hD hS hl
  obtain ⟨hx, hb, hr, hml, hlocks, hts, hown, hin, hK, hE, hA⟩ := hat
  have hP : va_P D vwCl (wM cI cZ h cd lev tm gn nL nC nE L B C F ys ao) s.heap := hP
  have hD : va_D A (wM cI cZ h cd lev tm gn nL nC nE L B C F ys ao) := hD
  have hl : lv_has ls 5 [(0, .ref (h 0)), (1, .int (nI n))] := hl
  have h1 : inB (nI n) 0 200 = true := inB_ok (n := 201) (by omega) (by omega)
  have L36 : ∀ (fu : Nat) (k : Nat) (og : Int32) (on : Nat) (oL : Nat → Nat → Int32) (oC : Nat → Nat → Int32) (oF : Nat → Nat → Int32), k ≤ n → n + 1 ≤ k + fu → ((og, on, oL, oC, oF) = stpM tm nL nC B (gn, nE, L, C, F) k) → (stOK oC nC on) → ∀ (H : Heap) (locs : List Loc) (ls : Array Slot), lv_has ls 5 [(0, .ref (h 0)), (1, .int (nI n)), (2, .int (nI nE)), (3, .int (nI k))] → va_P D vwCl (wM cI cZ h 0 lev (tm + k) og nL nC on oL B oC oF ys ao) H → va_D A (wM cI cZ h 0 lev (tm + k) og nL nC on oL B oC oF ys ao) → va_S A s.heap H locs → W p l e ({ frames := 4, cells := 0, slots := 0, locals := 92 } : Room) s m ([.ref (h 0), .int (nI n)] : List Value).toArray below meth c H locs 0 0 (MQ below (zQi D (wM cI cZ h cd lev tm gn nL nC nE L B C F ys ao) (fun r w' => r = nI (stpM tm nL nC B (gn, nE, L, C, F) n).2.1 - nI nE ∧ w' = wM cI cZ h 0 lev (tm + n) (stpM tm nL nC B (gn, nE, L, C, F) n).1 nL nC (stpM tm nL nC B (gn, nE, L, C, F) n).2.1 (stpM tm nL nC B (gn, nE, L, C, F) n).2.2.1 B (stpM tm nL nC B (gn, nE, L, C, F) n).2.2.2.1 (stpM tm nL nC B (gn, nE, L, C, F) n).2.2.2.2 ys ao) A) ([.ref (h 0), .int (nI n)] : List Value).toArray s 0 0 A) (F0 m 36 ls []) := by
    intro fu
    induction fu with
    | zero =>
      intro k og on oL oC oF h1 h2
      exact absurd h2 (by omega)
    | succ fu ih36 =>
      intro k og on oL oC oF hle hfu ex hk1 H locs ls hl hP hD hS
      have L54 : ∀ (fu : Nat) (j : Nat) (qg : Int32) (qn : Nat) (qL : Nat → Nat → Int32) (qC : Nat → Nat → Int32) (qF : Nat → Nat → Int32), j ≤ nL → nL + 1 ≤ j + fu → (k < n) → ((qg, qn, qL, qC, qF) = secM (tm + k + 1) nC B (og, on, oL, oC, oF) j) → (stOK qC nC qn) → ∀ (H : Heap) (locs : List Loc) (ls : Array Slot), lv_has ls 5 [(0, .ref (h 0)), (1, .int (nI n)), (2, .int (nI nE)), (3, .int (nI k)), (4, .int (nI j))] → va_P D vwCl (wM cI cZ h 0 lev (tm + k + 1) qg nL nC qn qL B qC qF ys ao) H → va_D A (wM cI cZ h 0 lev (tm + k + 1) qg nL nC qn qL B qC qF ys ao) → va_S A s.heap H locs → W p l e ({ frames := 4, cells := 0, slots := 0, locals := 92 } : Room) s m ([.ref (h 0), .int (nI n)] : List Value).toArray below meth c H locs 0 0 (MQ below (zQi D (wM cI cZ h cd lev tm gn nL nC nE L B C F ys ao) (fun r w' => r = nI (stpM tm nL nC B (gn, nE, L, C, F) n).2.1 - nI nE ∧ w' = wM cI cZ h 0 lev (tm + n) (stpM tm nL nC B (gn, nE, L, C, F) n).1 nL nC (stpM tm nL nC B (gn, nE, L, C, F) n).2.1 (stpM tm nL nC B (gn, nE, L, C, F) n).2.2.1 B (stpM tm nL nC B (gn, nE, L, C, F) n).2.2.2.1 (stpM tm nL nC B (gn, nE, L, C, F) n).2.2.2.2 ys ao) A) ([.ref (h 0), .int (nI n)] : List Value).toArray s 0 0 A) (F0 m 54 ls []) := by
        intro fu
        induction fu with
        | zero =>
          intro j qg qn qL qC qF h1 h2
          exact absurd h2 (by omega)
        | succ fu ih54 =>
          intro j qg qn qL qC qF hle hfu hlt ey hk2 H locs ls hl hP hD hS
          refine lv_iload hx hb dX4_step_54 (lv_at hl 4 rfl) ?_
          refine lv_aload_n hx hb dX4_step_56 rfl (lv_at hl 0 rfl) ?_
          refine va_get (D := D) (ci := 5) (v := .int (nI nL)) (C := RX4) (T := TX4) (N := 28) hx hb hts kX4_step_inX4 hown hK hP 0 rfl rfl 4 (by decide) (hts _ kX4_step_f85) (fun _ h9 => h9) rfl dX4_step_57 ?_
          refine zn_ge (i := j) (j := nL) (tgt := 85) hx hb (by omega) (by omega) dX4_step_60 (by decide) (fun c60 => ?_) (fun c60 => ?_)
          · skip
            refine lv_iinc (v := nI (k + 1)) (lv' := [(3, .int (nI (k + 1))), (0, .ref (h 0)), (1, .int (nI n)), (2, .int (nI nE)), (4, .int (nI j))]) hx hb dX4_step_85 hl (k := 3) rfl (by rw [show Int32.ofInt 1 = nI 1 from rfl, nI_add]) (by decide) rfl (fun ls hl => ?_)
            refine lv_goto (tgt := 36) hx hb dX4_step_88 (by decide) ?_
            exact ih36 (k + 1) qg qn qL qC qF (by omega) (by omega) (by rw [stpM, ← ex, ey, show j = nL by omega]) (hk2) H locs ls (lv_sub hl [1, 2, 3, 0] rfl) hP hD hS
          · skip
            refine lv_aload_n hx hb dX4_step_63 rfl (lv_at hl 0 rfl) ?_
            refine va_get (D := D) (ci := 5) (v := .ref (h 6)) (C := RX4) (T := TX4) (N := 28) hx hb hts kX4_step_inX4 hown hK hP 0 rfl rfl 10 (by decide) (hts _ kX4_step_f26) (fun _ h9 => h9) rfl dX4_step_64 ?_
            refine lv_iload hx hb dX4_step_67 (lv_at hl 4 rfl) ?_
            refine z_zald (k := j) (v := B 0 j) hx hb hK hP 6 rfl (by decide) (by omega) (rfl) dX4_step_69 ?_
            refine lv_if_ne (x := B 0 j) (tgt := 79) hx hb dX4_step_70 (by decide) (fun c70 => ?_) (fun c70 => ?_)
            · skip
              refine lv_iinc (v := nI (j + 1)) (lv' := [(4, .int (nI (j + 1))), (0, .ref (h 0)), (1, .int (nI n)), (2, .int (nI nE)), (3, .int (nI k))]) hx hb dX4_step_79 hl (k := 4) rfl (by rw [show Int32.ofInt 1 = nI 1 from rfl, nI_add]) (by decide) rfl (fun ls hl => ?_)
              refine lv_goto (tgt := 54) hx hb dX4_step_82 (by decide) ?_
              exact ih54 (j + 1) qg qn qL qC qF (by omega) (by omega) (by omega) (by rw [secM, ← ey, if_neg c70]) (hk2) H locs ls (lv_sub hl [1, 2, 3, 4, 0] rfl) hP hD hS
            · skip
              refine lv_aload_n hx hb dX4_step_73 rfl (lv_at hl 0 rfl) ?_
              refine lv_iload hx hb dX4_step_74 (lv_at hl 4 rfl) ?_
              refine z_backvA (z_runVA (n := 1) (As := [.int (nI j)]) (ci := 5) (rest := []) hx hb hml hown hts hK hE hP hD (tX4_second l D cI cZ cJ h 0 lev (tm + k + 1) qg nL nC qn qL B qC qF ys ao j (by omega) (by omega) hk2 _) gX4_step_X4_second rfl rfl rfl (by decide +kernel) ⟨Nat.le_of_ble_eq_true rfl, Nat.le_of_ble_eq_true rfl⟩ rfl rfl rfl hl.1 rfl (Nat.le_of_ble_eq_true rfl) dX4_step_76 ⟨Nat.zero_le _, Nat.zero_le _⟩) hD hS hA (fun w1 H locs hp2 hP hD hS => ?_)
              obtain rfl := hp2
              generalize ez1 : oneM (tm + k + 1) j nC B (qg, qn, qL, qC, qF) = z1 at hP hD
              have hP : va_P D vwCl (wM cI cZ h 0 lev (tm + k + 1) z1.1 nL nC z1.2.1 z1.2.2.1 B z1.2.2.2.1 z1.2.2.2.2 ys ao) H := hP
              have hD : va_D A (wM cI cZ h 0 lev (tm + k + 1) z1.1 nL nC z1.2.1 z1.2.2.1 B z1.2.2.2.1 z1.2.2.2.2 ys ao) := hD
              refine lv_iinc (v := nI (j + 1)) (lv' := [(4, .int (nI (j + 1))), (0, .ref (h 0)), (1, .int (nI n)), (2, .int (nI nE)), (3, .int (nI k))]) hx hb dX4_step_79 hl (k := 4) rfl (by rw [show Int32.ofInt 1 = nI 1 from rfl, nI_add]) (by decide) rfl (fun ls hl => ?_)
              refine lv_goto (tgt := 54) hx hb dX4_step_82 (by decide) ?_
              exact ih54 (j + 1) z1.1 z1.2.1 z1.2.2.1 z1.2.2.2.1 z1.2.2.2.2 (by omega) (by omega) (by omega) (by rw [secM, ← ey, if_pos c70, ez1]) (by rw [← ez1]; exact oneM_ok hC hk2) H locs ls (lv_sub hl [1, 2, 3, 4, 0] rfl) hP hD hS
      refine lv_iload_n hx hb dX4_step_36 rfl (lv_at hl 3 rfl) ?_
      refine lv_iload_n hx hb dX4_step_37 rfl (lv_at hl 1 rfl) ?_
      refine zn_ge (i := k) (j := n) (tgt := 91) hx hb (by omega) (by omega) dX4_step_38 (by decide) (fun c38 => ?_) (fun c38 => ?_)
      · skip
        refine lv_aload_n hx hb dX4_step_91 rfl (lv_at hl 0 rfl) ?_
        refine va_get (D := D) (ci := 5) (v := .int (nI on)) (C := RX4) (T := TX4) (N := 28) hx hb hts kX4_step_inX4 hown hK hP 0 rfl rfl 22 (by decide) (hts _ kX4_step_f109) (fun _ h9 => h9) rfl dX4_step_92 ?_
        refine lv_iload_n hx hb dX4_step_95 rfl (lv_at hl 2 rfl) ?_
        refine lv_isub (x := nI on) (y := nI nE) hx hb dX4_step_96 ?_
        exact z_iret hx hb hr hlocks hS hP rfl dX4_step_97 (⟨by rw [← show k = n by omega, ← ex], by rw [← show k = n by omega, ← ex]⟩)
      · skip
        refine lv_aload_n hx hb dX4_step_41 rfl (lv_at hl 0 rfl) ?_
        refine lv_dup hx hb dX4_step_42 rfl ?_
        refine va_get (D := D) (ci := 5) (v := .int (nI (tm + k))) (C := RX4) (T := TX4) (N := 28) hx hb hts kX4_step_inX4 hown hK hP 0 rfl rfl 2 (by decide) (hts _ kX4_step_f99) (fun _ h9 => h9) rfl dX4_step_43 ?_
        refine lv_iconst (v := 1) hx hb dX4_step_46 (by decide) ?_
        refine zn_add (i := tm + k) (j := 1) hx hb dX4_step_47 ?_
        refine va_put (D := D) (ci := 5) (v := .int (nI (tm + k + 1))) (ty := .int) (C := RX4) (T := TX4) (N := 28) hx hb hts kX4_step_inX4 tyX4 tyX4_ok nmX4 hown hK hP hD hS 0 rfl rfl 2 (by decide) (hts _ kX4_step_f99) (fun _ h9 => h9) rfl (by decide +kernel) rfl rfl (Nat.le_of_ble_eq_true rfl) dX4_step_48 (fun H locs hP hD hS => ?_)
        have hP : va_P D vwCl (wM cI cZ h 0 lev (tm + k + 1) og nL nC on oL B oC oF ys ao) H := hP
        have hD : va_D A (wM cI cZ h 0 lev (tm + k + 1) og nL nC on oL B oC oF ys ao) := hD
        refine lv_iconst (v := 0) hx hb dX4_step_51 (by decide) ?_
        refine lv_istore (lv' := [(4, .int 0), (0, .ref (h 0)), (1, .int (nI n)), (2, .int (nI nE)), (3, .int (nI k))]) hx hb dX4_step_52 hl (by decide) rfl (fun ls hl => ?_)
        exact L54 (nL + 1) 0 og on oL oC oF (by omega) (by omega) (by omega) (rfl) (hk1) H locs ls (lv_sub hl [1, 2, 3, 4, 0] rfl) hP hD hS
  refine lv_aload_n hx hb dX4_step_0 rfl (lv_at hl 0 rfl) ?_
  refine lv_iload_n hx hb dX4_step_1 rfl (lv_at hl 1 rfl) ?_
  refine lv_iconst (v := 0) hx hb dX4_step_2 (by decide) ?_
  refine lv_sipush (v := 200) hx hb dX4_step_3 (by decide) ?_
  refine z_backi (z_runS (n := 3) (As := [.int (nI n), .int 0, .int 200]) (rest := [.ref (h 0)]) hx hb hml hown hts hK hE hP hD [] rfl (by decide) (tX4_in l D cI cZ cJ (nI n) 0 200 _) gX4_step_X4_in rfl rfl rfl (by decide +kernel) ⟨Nat.le_of_ble_eq_true rfl, Nat.le_of_ble_eq_true rfl⟩ rfl hl.1 rfl (Nat.le_of_ble_eq_true rfl) dX4_step_6 ⟨Nat.zero_le _, Nat.zero_le _⟩) hP hD hS hA [] rfl (fun r3 w1 H locs hp3 hP hD hS => ?_)
  obtain ⟨rfl, rfl⟩ := hp3
  have hP : va_P D vwCl (wM cI cZ h cd lev tm gn nL nC nE L B C F ys ao) H := hP
  have hD : va_D A (wM cI cZ h cd lev tm gn nL nC nE L B C F ys ao) := hD
  refine zb_eq (b := (inB (nI n) 0 200)) (tgt := 16) hx hb dX4_step_9 (by decide) (fun c9 => ?_) (fun c9 => ?_)
  · exact absurd (h1.symm.trans c9) (by decide)
  · skip
    refine lv_iconst (v := 0) hx hb dX4_step_12 (by decide) ?_
    refine lv_goto (tgt := 17) hx hb dX4_step_13 (by decide) ?_
    refine va_put (D := D) (ci := 5) (v := .int 0) (ty := .int) (C := RX4) (T := TX4) (N := 28) hx hb hts kX4_step_inX4 tyX4 tyX4_ok nmX4 hown hK hP hD hS 0 rfl rfl 0 (by decide) (hts _ kX4_step_f78) (fun _ h9 => h9) rfl (by decide +kernel) rfl rfl (Nat.le_of_ble_eq_true rfl) dX4_step_17 (fun H locs hP hD hS => ?_)
    have hP : va_P D vwCl (wM cI cZ h 0 lev tm gn nL nC nE L B C F ys ao) H := hP
    have hD : va_D A (wM cI cZ h 0 lev tm gn nL nC nE L B C F ys ao) := hD
    refine lv_aload_n hx hb dX4_step_20 rfl (lv_at hl 0 rfl) ?_
    refine va_get (D := D) (ci := 5) (v := .int 0) (C := RX4) (T := TX4) (N := 28) hx hb hts kX4_step_inX4 hown hK hP 0 rfl rfl 0 (by decide) (hts _ kX4_step_f78) (fun _ h9 => h9) rfl dX4_step_21 ?_
    refine lv_if_le (x := 0) (tgt := 29) hx hb dX4_step_24 (by decide) (fun c24 => ?_) (fun c24 => ?_)
    · skip
      refine lv_aload_n hx hb dX4_step_29 rfl (lv_at hl 0 rfl) ?_
      refine va_get (D := D) (ci := 5) (v := .int (nI nE)) (C := RX4) (T := TX4) (N := 28) hx hb hts kX4_step_inX4 hown hK hP 0 rfl rfl 22 (by decide) (hts _ kX4_step_f109) (fun _ h9 => h9) rfl dX4_step_30 ?_
      refine lv_istore_n (lv' := [(2, .int (nI nE)), (0, .ref (h 0)), (1, .int (nI n))]) hx hb dX4_step_33 rfl hl (by decide) rfl (fun ls hl => ?_)
      refine lv_iconst (v := 0) hx hb dX4_step_34 (by decide) ?_
      refine lv_istore_n (lv' := [(3, .int 0), (2, .int (nI nE)), (0, .ref (h 0)), (1, .int (nI n))]) hx hb dX4_step_35 rfl hl (by decide) rfl (fun ls hl => ?_)
      exact L36 (n + 1) 0 gn nE L C F (by omega) (by omega) (rfl) (hok) H locs ls (lv_sub hl [2, 3, 1, 0] rfl) hP hD hS
    · exact absurd c24 (by decide)

theorem kX4_count_inX4 : ∀ w ∈ wsX40, w ∈ wsX4_count := by decide +kernel
theorem kX4_count_f32 : Cond.fieldLink RX4 32 "LiftRows2Model" "from" "[I" ∈ wsX4_count := by decide +kernel
theorem kX4_count_f88 : Cond.fieldLink RX4 88 "LiftRows2Model" "calls" "I" ∈ wsX4_count := by decide +kernel
theorem kX4_count_f44 : Cond.fieldLink RX4 44 "LiftRows2Model" "state" "[I" ∈ wsX4_count := by decide +kernel
theorem kX4_count_f47 : Cond.fieldLink RX4 47 "LiftRows2Model" "liftOf" "[I" ∈ wsX4_count := by decide +kernel
theorem kX4_count_f78 : Cond.fieldLink RX4 78 "LiftRows2Model" "code" "I" ∈ wsX4_count := by decide +kernel
theorem kX4_count_f130 : Cond.fieldLink RX4 130 "LiftRows2Model" "gone" "I" ∈ wsX4_count := by decide +kernel
theorem kX4_count_f99 : Cond.fieldLink RX4 99 "LiftRows2Model" "time" "I" ∈ wsX4_count := by decide +kernel
theorem kX4_count_f109 : Cond.fieldLink RX4 109 "LiftRows2Model" "events" "I" ∈ wsX4_count := by decide +kernel
theorem kX4_count_f85 : Cond.fieldLink RX4 85 "LiftRows2Model" "lifts" "I" ∈ wsX4_count := by decide +kernel
theorem kX4_count_f74 : Cond.fieldLink RX4 74 "LiftRows2Model" "levels" "I" ∈ wsX4_count := by decide +kernel
set_option maxHeartbeats 4000000 in
set_option maxRecDepth 100000 in
theorem tX4_count (l : Launch) (D : va_G) (cI cZ cJ : ClassId) (h : Nat → Nat) (cd : Int32) (lev tm : Nat) (gn : Int32) (nL nC nE : Nat) (L B C F : Nat → Nat → Int32) (ys ao : Nat → Int32) (u : Int32) (hC : nC ≤ 24)  : ∀ sz : Nat, zMi l yX4_count wsX4_count ({ frames := 0, cells := 0, slots := 0, locals := 0 } : Room) D cI cZ cJ (wM cI cZ h cd lev tm gn nL nC nE L B C F ys ao) sz [.ref (h 0), .int u] (fun r w' => r = cnI lev tm gn nL nC nE C u ∧ w' = wM cI cZ h 0 lev tm gn nL nC nE L B C F ys ao) := by
  intro sz
  refine z_head (y := yX4_count) (av := [.ref (h 0), .int u]) (w := (wM cI cZ h cd lev tm gn nL nC nE L B C F ys ao)) (Qc := fun A => zQi D (wM cI cZ h cd lev tm gn nL nC nE L B C F ys ao) (fun r w' => r = cnI lev tm gn nL nC nE C u ∧ w' = wM cI cZ h 0 lev tm gn nL nC nE L B C F ys ao) A) (cc := cX4_count) (maxL := 5) (ret := (some .int)) (by decide) rfl (Nat.le_of_ble_eq_true rfl) ?_
  intro p e s m below meth c ls A hat hP hD hS hl
  obtain ⟨hx, hb, hr, hml, hlocks, hts, hown, hin, hK, hE, hA⟩ := hat
  have hP : va_P D vwCl (wM cI cZ h cd lev tm gn nL nC nE L B C F ys ao) s.heap := hP
  have hD : va_D A (wM cI cZ h cd lev tm gn nL nC nE L B C F ys ao) := hD
  have hl : lv_has ls 5 [(0, .ref (h 0)), (1, .int u)] := hl
  have L72 : ∀ (fu : Nat) (i : Nat) (x : Int32) (y : Int32), i ≤ nC → nC + 1 ≤ i + fu → (¬ u = 0 ∧ ¬ u = 1 ∧ ¬ u = 2 ∧ ¬ u = 3 ∧ ¬ u = 4 ∧ ¬ u = 8) → (x = nI (cntW (fun k => decide (C 4 k = 0) && (decide (u = 5) || decide (C 5 k = -1))) i)) → (y = setG (fun k => decide (C 4 k = 0)) (C 0) i) → ∀ (H : Heap) (locs : List Loc) (ls : Array Slot), lv_has ls 5 [(0, .ref (h 0)), (1, .int u), (2, .int x), (3, .int y), (4, .int (nI i))] → va_P D vwCl (wM cI cZ h 0 lev tm gn nL nC nE L B C F ys ao) H → va_D A (wM cI cZ h 0 lev tm gn nL nC nE L B C F ys ao) → va_S A s.heap H locs → W p l e ({ frames := 0, cells := 0, slots := 0, locals := 0 } : Room) s m ([.ref (h 0), .int u] : List Value).toArray below meth c H locs 0 0 (MQ below (zQi D (wM cI cZ h cd lev tm gn nL nC nE L B C F ys ao) (fun r w' => r = cnI lev tm gn nL nC nE C u ∧ w' = wM cI cZ h 0 lev tm gn nL nC nE L B C F ys ao) A) ([.ref (h 0), .int u] : List Value).toArray s 0 0 A) (F0 m 72 ls []) := by
    intro fu
    induction fu with
    | zero =>
      intro i x y h1 h2
      exact absurd h2 (by omega)
    | succ fu ih72 =>
      intro i x y hle hfu hu ex ey H locs ls hl hP hD hS
      have L116 : ∀ (bz : Bool), (i < nC) → (C 4 i = 0) → (bz = (fun k => decide (C 4 k = 0) && (decide (u = 5) || decide (C 5 k = -1))) i) → ∀ (H : Heap) (locs : List Loc) (ls : Array Slot), lv_has ls 5 [(0, .ref (h 0)), (1, .int u), (2, .int x), (3, .int y), (4, .int (nI i))] → va_P D vwCl (wM cI cZ h 0 lev tm gn nL nC nE L B C F ys ao) H → va_D A (wM cI cZ h 0 lev tm gn nL nC nE L B C F ys ao) → va_S A s.heap H locs → W p l e ({ frames := 0, cells := 0, slots := 0, locals := 0 } : Room) s m ([.ref (h 0), .int u] : List Value).toArray below meth c H locs 0 0 (MQ below (zQi D (wM cI cZ h cd lev tm gn nL nC nE L B C F ys ao) (fun r w' => r = cnI lev tm gn nL nC nE C u ∧ w' = wM cI cZ h 0 lev tm gn nL nC nE L B C F ys ao) A) ([.ref (h 0), .int u] : List Value).toArray s 0 0 A) (F0 m 116 ls [.int (bI bz), .int x]) := by
        intro bz hlt c88 eb H locs ls hl hP hD hS
        refine lv_iadd (x := x) (y := bI bz) hx hb dX4_count_116 ?_
        refine lv_istore_n (lv' := [(2, .int (x + (bI bz))), (0, .ref (h 0)), (1, .int u), (3, .int y), (4, .int (nI i))]) hx hb dX4_count_117 rfl hl (by decide) rfl (fun ls hl => ?_)
        refine lv_iload_n hx hb dX4_count_118 rfl (lv_at hl 3 rfl) ?_
        refine lv_iconst (v := 1) hx hb dX4_count_119 (by decide) ?_
        refine lv_aload_n hx hb dX4_count_120 rfl (lv_at hl 1 rfl) ?_
        refine va_get (D := D) (ci := 5) (v := .ref (h 8)) (C := RX4) (T := TX4) (N := 28) hx hb hts kX4_count_inX4 hown hK hP 0 rfl rfl 13 (by decide) (hts _ kX4_count_f32) (fun _ h9 => h9) rfl dX4_count_121 ?_
        refine lv_iload hx hb dX4_count_124 (lv_at hl 4 rfl) ?_
        refine z_iald (k := i) (v := C 0 i) hx hb hK hP 8 rfl (by decide) (by omega) (rfl) dX4_count_126 ?_
        refine lv_ishl hx hb dX4_count_127 ?_
        refine lv_ior (x := y) (y := 1 <<< ((C 0 i) &&& 31)) hx hb dX4_count_128 ?_
        refine lv_istore_n (lv' := [(3, .int (y ||| (1 <<< ((C 0 i) &&& 31)))), (2, .int (x + (bI bz))), (0, .ref (h 0)), (1, .int u), (4, .int (nI i))]) hx hb dX4_count_129 rfl hl (by decide) rfl (fun ls hl => ?_)
        refine lv_iinc (v := nI (i + 1)) (lv' := [(4, .int (nI (i + 1))), (3, .int (y ||| (1 <<< ((C 0 i) &&& 31)))), (2, .int (x + (bI bz))), (0, .ref (h 0)), (1, .int u)]) hx hb dX4_count_130 hl (k := 4) rfl (by rw [show Int32.ofInt 1 = nI 1 from rfl, nI_add]) (by decide) rfl (fun ls hl => ?_)
        refine lv_goto (tgt := 72) hx hb dX4_count_133 (by decide) ?_
        exact ih72 (i + 1) (x + (bI bz)) (y ||| (1 <<< ((C 0 i) &&& 31))) (by omega) (by omega) (hu) (by rw [ex, eb]; exact cnt_add (fun k => decide (C 4 k = 0) && (decide (u = 5) || decide (C 5 k = -1))) i) (by rw [ey, setG_t (f := (fun k => decide (C 4 k = 0))) (by simp [c88])]) H locs ls (lv_sub hl [3, 4, 2, 1, 0] rfl) hP hD hS
      refine lv_iload hx hb dX4_count_72 (lv_at hl 4 rfl) ?_
      refine lv_aload_n hx hb dX4_count_74 rfl (lv_at hl 0 rfl) ?_
      refine va_get (D := D) (ci := 5) (v := .int (nI nC)) (C := RX4) (T := TX4) (N := 28) hx hb hts kX4_count_inX4 hown hK hP 0 rfl rfl 12 (by decide) (hts _ kX4_count_f88) (fun _ h9 => h9) rfl dX4_count_75 ?_
      refine zn_ge (i := i) (j := nC) (tgt := 136) hx hb (by omega) (by omega) dX4_count_78 (by decide) (fun c78 => ?_) (fun c78 => ?_)
      · skip
        refine lv_iload_n hx hb dX4_count_136 rfl (lv_at hl 1 rfl) ?_
        refine lv_iconst (v := 5) hx hb dX4_count_137 (by decide) ?_
        refine lv_icmp_eq (x := u) (y := 5) (tgt := 147) hx hb dX4_count_138 (by decide) (fun c138 => ?_) (fun c138 => ?_)
        · skip
          refine lv_iload_n hx hb dX4_count_147 rfl (lv_at hl 2 rfl) ?_
          refine lv_goto (tgt := 162) hx hb dX4_count_148 (by decide) ?_
          exact z_iret hx hb hr hlocks hS hP rfl dX4_count_162 (⟨by rw [ex, show i = nC by omega]; simp only [cnI, if_neg hu.1, if_neg hu.2.1, if_neg hu.2.2.1, if_neg hu.2.2.2.1, if_neg hu.2.2.2.2.1, if_neg hu.2.2.2.2.2]; simp only [if_pos c138], rfl⟩)
        · skip
          refine lv_iload_n hx hb dX4_count_141 rfl (lv_at hl 1 rfl) ?_
          refine lv_bipush (v := 6) hx hb dX4_count_142 (by decide) ?_
          refine lv_icmp_ne (x := u) (y := 6) (tgt := 151) hx hb dX4_count_144 (by decide) (fun c144 => ?_) (fun c144 => ?_)
          · skip
            refine lv_iload_n hx hb dX4_count_151 rfl (lv_at hl 1 rfl) ?_
            refine lv_bipush (v := 7) hx hb dX4_count_152 (by decide) ?_
            refine lv_icmp_ne (x := u) (y := 7) (tgt := 161) hx hb dX4_count_154 (by decide) (fun c154 => ?_) (fun c154 => ?_)
            · skip
              refine lv_iconst (v := (-1)) hx hb dX4_count_161 (by decide) ?_
              exact z_iret hx hb hr hlocks hS hP rfl dX4_count_162 (⟨by simp only [cnI, if_neg hu.1, if_neg hu.2.1, if_neg hu.2.2.1, if_neg hu.2.2.2.1, if_neg hu.2.2.2.2.1, if_neg hu.2.2.2.2.2]; simp only [if_neg c138, if_neg c144, if_neg c154], rfl⟩)
            · skip
              refine lv_iload_n hx hb dX4_count_157 rfl (lv_at hl 3 rfl) ?_
              refine lv_goto (tgt := 162) hx hb dX4_count_158 (by decide) ?_
              exact z_iret hx hb hr hlocks hS hP rfl dX4_count_162 (⟨by rw [ey, show i = nC by omega]; simp only [cnI, if_neg hu.1, if_neg hu.2.1, if_neg hu.2.2.1, if_neg hu.2.2.2.1, if_neg hu.2.2.2.2.1, if_neg hu.2.2.2.2.2]; simp only [if_neg c138, if_neg c144, if_pos c154], rfl⟩)
          · skip
            refine lv_iload_n hx hb dX4_count_147 rfl (lv_at hl 2 rfl) ?_
            refine lv_goto (tgt := 162) hx hb dX4_count_148 (by decide) ?_
            exact z_iret hx hb hr hlocks hS hP rfl dX4_count_162 (⟨by rw [ex, show i = nC by omega]; simp only [cnI, if_neg hu.1, if_neg hu.2.1, if_neg hu.2.2.1, if_neg hu.2.2.2.1, if_neg hu.2.2.2.2.1, if_neg hu.2.2.2.2.2]; simp only [if_neg c138, if_pos c144], rfl⟩)
      · skip
        refine lv_aload_n hx hb dX4_count_81 rfl (lv_at hl 0 rfl) ?_
        refine va_get (D := D) (ci := 5) (v := .ref (h 12)) (C := RX4) (T := TX4) (N := 28) hx hb hts kX4_count_inX4 hown hK hP 0 rfl rfl 17 (by decide) (hts _ kX4_count_f44) (fun _ h9 => h9) rfl dX4_count_82 ?_
        refine lv_iload hx hb dX4_count_85 (lv_at hl 4 rfl) ?_
        refine z_iald (k := i) (v := C 4 i) hx hb hK hP 12 rfl (by decide) (by omega) (rfl) dX4_count_87 ?_
        refine lv_if_eq (x := C 4 i) (tgt := 94) hx hb dX4_count_88 (by decide) (fun c88 => ?_) (fun c88 => ?_)
        · skip
          refine lv_iload_n hx hb dX4_count_94 rfl (lv_at hl 2 rfl) ?_
          refine lv_iload_n hx hb dX4_count_95 rfl (lv_at hl 1 rfl) ?_
          refine lv_iconst (v := 5) hx hb dX4_count_96 (by decide) ?_
          refine lv_icmp_eq (x := u) (y := 5) (tgt := 111) hx hb dX4_count_97 (by decide) (fun c97 => ?_) (fun c97 => ?_)
          · skip
            refine lv_iconst (v := 1) hx hb dX4_count_111 (by decide) ?_
            refine lv_goto (tgt := 116) hx hb dX4_count_112 (by decide) ?_
            exact L116 true (by omega) (c88) (by simp [c78, c88, c97]) H locs ls (lv_sub hl [0, 1, 2, 3, 4] rfl) hP hD hS
          · skip
            refine lv_aload_n hx hb dX4_count_100 rfl (lv_at hl 0 rfl) ?_
            refine va_get (D := D) (ci := 5) (v := .ref (h 13)) (C := RX4) (T := TX4) (N := 28) hx hb hts kX4_count_inX4 hown hK hP 0 rfl rfl 18 (by decide) (hts _ kX4_count_f47) (fun _ h9 => h9) rfl dX4_count_101 ?_
            refine lv_iload hx hb dX4_count_104 (lv_at hl 4 rfl) ?_
            refine z_iald (k := i) (v := C 5 i) hx hb hK hP 13 rfl (by decide) (by omega) (rfl) dX4_count_106 ?_
            refine lv_iconst (v := (-1)) hx hb dX4_count_107 (by decide) ?_
            refine lv_icmp_ne (x := C 5 i) (y := (-1)) (tgt := 115) hx hb dX4_count_108 (by decide) (fun c108 => ?_) (fun c108 => ?_)
            · skip
              refine lv_iconst (v := 0) hx hb dX4_count_115 (by decide) ?_
              exact L116 false (by omega) (c88) (by simp [c78, c88, c97, c108]) H locs ls (lv_sub hl [0, 1, 2, 3, 4] rfl) hP hD hS
            · skip
              refine lv_iconst (v := 1) hx hb dX4_count_111 (by decide) ?_
              refine lv_goto (tgt := 116) hx hb dX4_count_112 (by decide) ?_
              exact L116 true (by omega) (c88) (by simp [c78, c88, c97, c108]) H locs ls (lv_sub hl [0, 1, 2, 3, 4] rfl) hP hD hS
        · skip
          refine lv_goto (tgt := 130) hx hb dX4_count_91 (by decide) ?_
          refine lv_iinc (v := nI (i + 1)) (lv' := [(4, .int (nI (i + 1))), (0, .ref (h 0)), (1, .int u), (2, .int x), (3, .int y)]) hx hb dX4_count_130 hl (k := 4) rfl (by rw [show Int32.ofInt 1 = nI 1 from rfl, nI_add]) (by decide) rfl (fun ls hl => ?_)
          refine lv_goto (tgt := 72) hx hb dX4_count_133 (by decide) ?_
          exact ih72 (i + 1) x y (by omega) (by omega) (hu) (by rw [ex, cntW_f (by simp [c88])]) (by rw [ey, setG_f (by simp [c88])]) H locs ls (lv_sub hl [1, 2, 3, 4, 0] rfl) hP hD hS
  refine lv_aload_n hx hb dX4_count_0 rfl (lv_at hl 0 rfl) ?_
  refine lv_iconst (v := 0) hx hb dX4_count_1 (by decide) ?_
  refine va_put (D := D) (ci := 5) (v := .int 0) (ty := .int) (C := RX4) (T := TX4) (N := 28) hx hb hts kX4_count_inX4 tyX4 tyX4_ok nmX4 hown hK hP hD hS 0 rfl rfl 0 (by decide) (hts _ kX4_count_f78) (fun _ h9 => h9) rfl (by decide +kernel) rfl rfl (Nat.le_of_ble_eq_true rfl) dX4_count_2 (fun H locs hP hD hS => ?_)
  have hP : va_P D vwCl (wM cI cZ h 0 lev tm gn nL nC nE L B C F ys ao) H := hP
  have hD : va_D A (wM cI cZ h 0 lev tm gn nL nC nE L B C F ys ao) := hD
  refine lv_iload_n hx hb dX4_count_5 rfl (lv_at hl 1 rfl) ?_
  refine lv_if_ne (x := u) (tgt := 14) hx hb dX4_count_6 (by decide) (fun c6 => ?_) (fun c6 => ?_)
  · skip
    refine lv_iload_n hx hb dX4_count_14 rfl (lv_at hl 1 rfl) ?_
    refine lv_iconst (v := 1) hx hb dX4_count_15 (by decide) ?_
    refine lv_icmp_ne (x := u) (y := 1) (tgt := 24) hx hb dX4_count_16 (by decide) (fun c16 => ?_) (fun c16 => ?_)
    · skip
      refine lv_iload_n hx hb dX4_count_24 rfl (lv_at hl 1 rfl) ?_
      refine lv_iconst (v := 2) hx hb dX4_count_25 (by decide) ?_
      refine lv_icmp_ne (x := u) (y := 2) (tgt := 34) hx hb dX4_count_26 (by decide) (fun c26 => ?_) (fun c26 => ?_)
      · skip
        refine lv_iload_n hx hb dX4_count_34 rfl (lv_at hl 1 rfl) ?_
        refine lv_iconst (v := 3) hx hb dX4_count_35 (by decide) ?_
        refine lv_icmp_ne (x := u) (y := 3) (tgt := 44) hx hb dX4_count_36 (by decide) (fun c36 => ?_) (fun c36 => ?_)
        · skip
          refine lv_iload_n hx hb dX4_count_44 rfl (lv_at hl 1 rfl) ?_
          refine lv_iconst (v := 4) hx hb dX4_count_45 (by decide) ?_
          refine lv_icmp_ne (x := u) (y := 4) (tgt := 54) hx hb dX4_count_46 (by decide) (fun c46 => ?_) (fun c46 => ?_)
          · skip
            refine lv_iload_n hx hb dX4_count_54 rfl (lv_at hl 1 rfl) ?_
            refine lv_bipush (v := 8) hx hb dX4_count_55 (by decide) ?_
            refine lv_icmp_ne (x := u) (y := 8) (tgt := 65) hx hb dX4_count_57 (by decide) (fun c57 => ?_) (fun c57 => ?_)
            · skip
              refine lv_iconst (v := 0) hx hb dX4_count_65 (by decide) ?_
              refine lv_istore_n (lv' := [(2, .int 0), (0, .ref (h 0)), (1, .int u)]) hx hb dX4_count_66 rfl hl (by decide) rfl (fun ls hl => ?_)
              refine lv_iconst (v := 0) hx hb dX4_count_67 (by decide) ?_
              refine lv_istore_n (lv' := [(3, .int 0), (2, .int 0), (0, .ref (h 0)), (1, .int u)]) hx hb dX4_count_68 rfl hl (by decide) rfl (fun ls hl => ?_)
              refine lv_iconst (v := 0) hx hb dX4_count_69 (by decide) ?_
              refine lv_istore (lv' := [(4, .int 0), (3, .int 0), (2, .int 0), (0, .ref (h 0)), (1, .int u)]) hx hb dX4_count_70 hl (by decide) rfl (fun ls hl => ?_)
              exact L72 (nC + 1) 0 0 0 (by omega) (by omega) (⟨c6, c16, c26, c36, c46, c57⟩) (rfl) (rfl) H locs ls (lv_sub hl [3, 4, 2, 1, 0] rfl) hP hD hS
            · skip
              refine lv_aload_n hx hb dX4_count_60 rfl (lv_at hl 0 rfl) ?_
              refine va_get (D := D) (ci := 5) (v := .int gn) (C := RX4) (T := TX4) (N := 28) hx hb hts kX4_count_inX4 hown hK hP 0 rfl rfl 3 (by decide) (hts _ kX4_count_f130) (fun _ h9 => h9) rfl dX4_count_61 ?_
              exact z_iret hx hb hr hlocks hS hP rfl dX4_count_64 (⟨by simp [cnI, c6, c16, c26, c36, c46, c57], rfl⟩)
          · skip
            refine lv_aload_n hx hb dX4_count_49 rfl (lv_at hl 0 rfl) ?_
            refine va_get (D := D) (ci := 5) (v := .int (nI tm)) (C := RX4) (T := TX4) (N := 28) hx hb hts kX4_count_inX4 hown hK hP 0 rfl rfl 2 (by decide) (hts _ kX4_count_f99) (fun _ h9 => h9) rfl dX4_count_50 ?_
            exact z_iret hx hb hr hlocks hS hP rfl dX4_count_53 (⟨by simp [cnI, c6, c16, c26, c36, c46], rfl⟩)
        · skip
          refine lv_aload_n hx hb dX4_count_39 rfl (lv_at hl 0 rfl) ?_
          refine va_get (D := D) (ci := 5) (v := .int (nI nE)) (C := RX4) (T := TX4) (N := 28) hx hb hts kX4_count_inX4 hown hK hP 0 rfl rfl 22 (by decide) (hts _ kX4_count_f109) (fun _ h9 => h9) rfl dX4_count_40 ?_
          exact z_iret hx hb hr hlocks hS hP rfl dX4_count_43 (⟨by simp [cnI, c6, c16, c26, c36], rfl⟩)
      · skip
        refine lv_aload_n hx hb dX4_count_29 rfl (lv_at hl 0 rfl) ?_
        refine va_get (D := D) (ci := 5) (v := .int (nI nC)) (C := RX4) (T := TX4) (N := 28) hx hb hts kX4_count_inX4 hown hK hP 0 rfl rfl 12 (by decide) (hts _ kX4_count_f88) (fun _ h9 => h9) rfl dX4_count_30 ?_
        exact z_iret hx hb hr hlocks hS hP rfl dX4_count_33 (⟨by simp [cnI, c6, c16, c26], rfl⟩)
    · skip
      refine lv_aload_n hx hb dX4_count_19 rfl (lv_at hl 0 rfl) ?_
      refine va_get (D := D) (ci := 5) (v := .int (nI nL)) (C := RX4) (T := TX4) (N := 28) hx hb hts kX4_count_inX4 hown hK hP 0 rfl rfl 4 (by decide) (hts _ kX4_count_f85) (fun _ h9 => h9) rfl dX4_count_20 ?_
      exact z_iret hx hb hr hlocks hS hP rfl dX4_count_23 (⟨by simp [cnI, c6, c16], rfl⟩)
  · skip
    refine lv_aload_n hx hb dX4_count_9 rfl (lv_at hl 0 rfl) ?_
    refine va_get (D := D) (ci := 5) (v := .int (nI lev)) (C := RX4) (T := TX4) (N := 28) hx hb hts kX4_count_inX4 hown hK hP 0 rfl rfl 1 (by decide) (hts _ kX4_count_f74) (fun _ h9 => h9) rfl dX4_count_10 ?_
    exact z_iret hx hb hr hlocks hS hP rfl dX4_count_13 (⟨by simp [cnI, c6], rfl⟩)
