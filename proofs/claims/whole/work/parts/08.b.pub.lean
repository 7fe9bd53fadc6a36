theorem kX4_thrown_inX4 : ∀ w ∈ wsX40, w ∈ wsX4_thrown := by decide +kernel
theorem kX4_thrown_f78 : Cond.fieldLink RX4 78 "LiftRows2Model" "code" "I" ∈ wsX4_thrown := by decide +kernel
set_option maxHeartbeats 4000000 in
set_option maxRecDepth 100000 in
theorem tX4_thrown (l : Launch) (D : va_G) (cI cZ cJ : ClassId) (h : Nat → Nat) (cd : Int32) (lev tm : Nat) (gn : Int32) (nL nC nE : Nat) (L B C F : Nat → Nat → Int32) (ys ao : Nat → Int32)  : ∀ sz : Nat, zMi l yX4_thrown wsX4_thrown ({ frames := 0, cells := 0, slots := 0, locals := 0 } : Room) D cI cZ cJ (wM cI cZ h cd lev tm gn nL nC nE L B C F ys ao) sz [.ref (h 0)] (fun r w' => r = cd ∧ w' = wM cI cZ h cd lev tm gn nL nC nE L B C F ys ao) := by
  intro sz
  refine z_head (y := yX4_thrown) (av := [.ref (h 0)]) (w := (wM cI cZ h cd lev tm gn nL nC nE L B C F ys ao)) (Qc := fun A => zQi D (wM cI cZ h cd lev tm gn nL nC nE L B C F ys ao) (fun r w' => r = cd ∧ w' = wM cI cZ h cd lev tm gn nL nC nE L B C F ys ao) A) (cc := cX4_thrown) (maxL := 1) (ret := (some .int)) (by decide) rfl (Nat.le_of_ble_eq_true rfl) ?_
  intro p e s m below meth c ls A hat hP hD hS hl
  obtain ⟨hx, hb, hr, hml, hlocks, hts, hown, hin, hK, hE, hA⟩ := hat
  have hP : va_P D vwCl (wM cI cZ h cd lev tm gn nL nC nE L B C F ys ao) s.heap := hP
  have hD : va_D A (wM cI cZ h cd lev tm gn nL nC nE L B C F ys ao) := hD
  have hl : lv_has ls 1 [(0, .ref (h 0))] := hl
  refine lv_aload_n hx hb dX4_thrown_0 rfl (lv_at hl 0 rfl) ?_
  refine va_get (D := D) (ci := 5) (v := .int cd) (C := RX4) (T := TX4) (N := 28) hx hb hts kX4_thrown_inX4 hown hK hP 0 rfl rfl 0 (by decide) (hts _ kX4_thrown_f78) (fun _ h9 => h9) rfl dX4_thrown_1 ?_
  exact z_iret hx hb hr hlocks hS hP rfl dX4_thrown_4 (⟨rfl, rfl⟩)

theorem kX4_served_f78 : Cond.fieldLink RX4 78 "LiftRows2Model" "code" "I" ∈ wsX4_served := by decide +kernel
theorem kX4_served_inX4 : ∀ w ∈ wsX40, w ∈ wsX4_served := by decide +kernel
set_option maxHeartbeats 4000000 in
set_option maxRecDepth 100000 in
theorem tX4_served_no (l : Launch) (D : va_G) (cI cZ cJ : ClassId) (h : Nat → Nat) (cd : Int32) (lev tm : Nat) (gn : Int32) (nL nC nE : Nat) (L B C F : Nat → Nat → Int32) (ys ao : Nat → Int32) (v : Int32) (hno : inB v 0 (nI nC - 1) = false)  : ∀ sz : Nat, zMi l yX4_served wsX4_served ({ frames := 2, cells := 0, slots := 0, locals := 43 } : Room) D cI cZ cJ (wM cI cZ h cd lev tm gn nL nC nE L B C F ys ao) sz [.ref (h 0), .int v] (fun r w' => r = 0 ∧ w' = wM cI cZ h 1 lev tm gn nL nC nE L B C F ys ao) := by
  intro sz
  refine z_head (y := yX4_served) (av := [.ref (h 0), .int v]) (w := (wM cI cZ h cd lev tm gn nL nC nE L B C F ys ao)) (Qc := fun A => zQi D (wM cI cZ h cd lev tm gn nL nC nE L B C F ys ao) (fun r w' => r = 0 ∧ w' = wM cI cZ h 1 lev tm gn nL nC nE L B C F ys ao) A) (cc := cX4_served) (maxL := 2) (ret := (some .int)) (by decide) rfl (Nat.le_of_ble_eq_true rfl) ?_
  intro p e s m below meth c ls A hat hP hD hS hl
  obtain ⟨hx, hb, hr, hml, hlocks, hts, hown, hin, hK, hE, hA⟩ := hat
  have hP : va_P D vwCl (wM cI cZ h cd lev tm gn nL nC nE L B C F ys ao) s.heap := hP
  have hD : va_D A (wM cI cZ h cd lev tm gn nL nC nE L B C F ys ao) := hD
  have hl : lv_has ls 2 [(0, .ref (h 0)), (1, .int v)] := hl
  refine lv_aload_n hx hb dX4_served_0 rfl (lv_at hl 0 rfl) ?_
  refine lv_aload_n hx hb dX4_served_1 rfl (lv_at hl 0 rfl) ?_
  refine lv_iload_n hx hb dX4_served_2 rfl (lv_at hl 1 rfl) ?_
  refine z_backiA (z_runVA (n := 1) (As := [.int v]) (ci := 5) (rest := [.ref (h 0)]) hx hb hml hown hts hK hE hP hD (tX4_isCall l D cI cZ cJ h cd lev tm gn nL nC nE L B C F ys ao v  _) gX4_served_X4_isCall rfl rfl rfl (by decide +kernel) ⟨Nat.le_of_ble_eq_true rfl, Nat.le_of_ble_eq_true rfl⟩ rfl rfl rfl hl.1 rfl (Nat.le_of_ble_eq_true rfl) dX4_served_3 ⟨Nat.zero_le _, Nat.zero_le _⟩) hD hS hA (fun r1 w1 H locs hp1 hP hD hS => ?_)
  obtain ⟨rfl, rfl⟩ := hp1
  have hP : va_P D vwCl (wM cI cZ h cd lev tm gn nL nC nE L B C F ys ao) H := hP
  have hD : va_D A (wM cI cZ h cd lev tm gn nL nC nE L B C F ys ao) := hD
  refine zb_eq (b := (inB v 0 (nI nC - 1))) (tgt := 13) hx hb dX4_served_6 (by decide) (fun c6 => ?_) (fun c6 => ?_)
  · skip
    refine lv_iconst (v := 1) hx hb dX4_served_13 (by decide) ?_
    refine va_put (D := D) (ci := 5) (v := .int 1) (ty := .int) (C := RX4) (T := TX4) (N := 28) hx hb hts kX4_served_inX4 tyX4 tyX4_ok nmX4 hown hK hP hD hS 0 rfl rfl 0 (by decide) (hts _ kX4_served_f78) (fun _ h9 => h9) rfl (by decide +kernel) rfl rfl (Nat.le_of_ble_eq_true rfl) dX4_served_14 (fun H locs hP hD hS => ?_)
    have hP : va_P D vwCl (wM cI cZ h 1 lev tm gn nL nC nE L B C F ys ao) H := hP
    have hD : va_D A (wM cI cZ h 1 lev tm gn nL nC nE L B C F ys ao) := hD
    refine lv_aload_n hx hb dX4_served_17 rfl (lv_at hl 0 rfl) ?_
    refine va_get (D := D) (ci := 5) (v := .int 1) (C := RX4) (T := TX4) (N := 28) hx hb hts kX4_served_inX4 hown hK hP 0 rfl rfl 0 (by decide) (hts _ kX4_served_f78) (fun _ h9 => h9) rfl dX4_served_18 ?_
    refine lv_if_le (x := 1) (tgt := 28) hx hb dX4_served_21 (by decide) (fun c21 => ?_) (fun c21 => ?_)
    · exact absurd c21 (by decide)
    · skip
      refine lv_iconst (v := 0) hx hb dX4_served_24 (by decide) ?_
      refine lv_goto (tgt := 34) hx hb dX4_served_25 (by decide) ?_
      exact z_iret hx hb hr hlocks hS hP rfl dX4_served_34 (⟨rfl, rfl⟩)
  · exact absurd (hno.symm.trans c6) (by decide)

theorem kX4_served_f56 : Cond.fieldLink RX4 56 "LiftRows2Model" "servedAt" "[I" ∈ wsX4_served := by decide +kernel
set_option maxHeartbeats 4000000 in
set_option maxRecDepth 100000 in
theorem tX4_served_ok (l : Launch) (D : va_G) (cI cZ cJ : ClassId) (h : Nat → Nat) (cd : Int32) (lev tm : Nat) (gn : Int32) (nL nC nE : Nat) (L B C F : Nat → Nat → Int32) (ys ao : Nat → Int32) (k : Nat) (hk : k < nC) (hC : nC ≤ 24)  : ∀ sz : Nat, zMi l yX4_served wsX4_served ({ frames := 2, cells := 0, slots := 0, locals := 43 } : Room) D cI cZ cJ (wM cI cZ h cd lev tm gn nL nC nE L B C F ys ao) sz [.ref (h 0), .int (nI k)] (fun r w' => r = C 8 k ∧ w' = wM cI cZ h 0 lev tm gn nL nC nE L B C F ys ao) := by
  intro sz
  refine z_head (y := yX4_served) (av := [.ref (h 0), .int (nI k)]) (w := (wM cI cZ h cd lev tm gn nL nC nE L B C F ys ao)) (Qc := fun A => zQi D (wM cI cZ h cd lev tm gn nL nC nE L B C F ys ao) (fun r w' => r = C 8 k ∧ w' = wM cI cZ h 0 lev tm gn nL nC nE L B C F ys ao) A) (cc := cX4_served) (maxL := 2) (ret := (some .int)) (by decide) rfl (Nat.le_of_ble_eq_true rfl) ?_
  intro p e s m below meth c ls A hat hP hD hS hl
  obtain ⟨hx, hb, hr, hml, hlocks, hts, hown, hin, hK, hE, hA⟩ := hat
  have hP : va_P D vwCl (wM cI cZ h cd lev tm gn nL nC nE L B C F ys ao) s.heap := hP
  have hD : va_D A (wM cI cZ h cd lev tm gn nL nC nE L B C F ys ao) := hD
  have hl : lv_has ls 2 [(0, .ref (h 0)), (1, .int (nI k))] := hl
  have h1 : inB (nI k) 0 (nI nC - 1) = true := inB_ok hk (by omega)
  refine lv_aload_n hx hb dX4_served_0 rfl (lv_at hl 0 rfl) ?_
  refine lv_aload_n hx hb dX4_served_1 rfl (lv_at hl 0 rfl) ?_
  refine lv_iload_n hx hb dX4_served_2 rfl (lv_at hl 1 rfl) ?_
  refine z_backiA (z_runVA (n := 1) (As := [.int (nI k)]) (ci := 5) (rest := [.ref (h 0)]) hx hb hml hown hts hK hE hP hD (tX4_isCall l D cI cZ cJ h cd lev tm gn nL nC nE L B C F ys ao (nI k)  _) gX4_served_X4_isCall rfl rfl rfl (by decide +kernel) ⟨Nat.le_of_ble_eq_true rfl, Nat.le_of_ble_eq_true rfl⟩ rfl rfl rfl hl.1 rfl (Nat.le_of_ble_eq_true rfl) dX4_served_3 ⟨Nat.zero_le _, Nat.zero_le _⟩) hD hS hA (fun r1 w1 H locs hp1 hP hD hS => ?_)
  obtain ⟨rfl, rfl⟩ := hp1
  have hP : va_P D vwCl (wM cI cZ h cd lev tm gn nL nC nE L B C F ys ao) H := hP
  have hD : va_D A (wM cI cZ h cd lev tm gn nL nC nE L B C F ys ao) := hD
  refine zb_eq (b := (inB (nI k) 0 (nI nC - 1))) (tgt := 13) hx hb dX4_served_6 (by decide) (fun c6 => ?_) (fun c6 => ?_)
  · exact absurd (h1.symm.trans c6) (by decide)
  · skip
    refine lv_iconst (v := 0) hx hb dX4_served_9 (by decide) ?_
    refine lv_goto (tgt := 14) hx hb dX4_served_10 (by decide) ?_
    refine va_put (D := D) (ci := 5) (v := .int 0) (ty := .int) (C := RX4) (T := TX4) (N := 28) hx hb hts kX4_served_inX4 tyX4 tyX4_ok nmX4 hown hK hP hD hS 0 rfl rfl 0 (by decide) (hts _ kX4_served_f78) (fun _ h9 => h9) rfl (by decide +kernel) rfl rfl (Nat.le_of_ble_eq_true rfl) dX4_served_14 (fun H locs hP hD hS => ?_)
    have hP : va_P D vwCl (wM cI cZ h 0 lev tm gn nL nC nE L B C F ys ao) H := hP
    have hD : va_D A (wM cI cZ h 0 lev tm gn nL nC nE L B C F ys ao) := hD
    refine lv_aload_n hx hb dX4_served_17 rfl (lv_at hl 0 rfl) ?_
    refine va_get (D := D) (ci := 5) (v := .int 0) (C := RX4) (T := TX4) (N := 28) hx hb hts kX4_served_inX4 hown hK hP 0 rfl rfl 0 (by decide) (hts _ kX4_served_f78) (fun _ h9 => h9) rfl dX4_served_18 ?_
    refine lv_if_le (x := 0) (tgt := 28) hx hb dX4_served_21 (by decide) (fun c21 => ?_) (fun c21 => ?_)
    · skip
      refine lv_aload_n hx hb dX4_served_28 rfl (lv_at hl 0 rfl) ?_
      refine va_get (D := D) (ci := 5) (v := .ref (h 16)) (C := RX4) (T := TX4) (N := 28) hx hb hts kX4_served_inX4 hown hK hP 0 rfl rfl 21 (by decide) (hts _ kX4_served_f56) (fun _ h9 => h9) rfl dX4_served_29 ?_
      refine lv_iload_n hx hb dX4_served_32 rfl (lv_at hl 1 rfl) ?_
      refine z_iald (k := k) (v := C 8 k) hx hb hK hP 16 rfl (by decide) (by omega) (rfl) dX4_served_33 ?_
      exact z_iret hx hb hr hlocks hS hP rfl dX4_served_34 (⟨rfl, rfl⟩)
    · exact absurd c21 (by decide)

theorem kX4_waits_f78 : Cond.fieldLink RX4 78 "LiftRows2Model" "code" "I" ∈ wsX4_waits := by decide +kernel
theorem kX4_waits_inX4 : ∀ w ∈ wsX40, w ∈ wsX4_waits := by decide +kernel
set_option maxHeartbeats 4000000 in
set_option maxRecDepth 100000 in
theorem tX4_waits_no (l : Launch) (D : va_G) (cI cZ cJ : ClassId) (h : Nat → Nat) (cd : Int32) (lev tm : Nat) (gn : Int32) (nL nC nE : Nat) (L B C F : Nat → Nat → Int32) (ys ao : Nat → Int32) (v : Int32) (hno : inB v 0 (nI nC - 1) = false)  : ∀ sz : Nat, zMi l yX4_waits wsX4_waits ({ frames := 2, cells := 0, slots := 0, locals := 43 } : Room) D cI cZ cJ (wM cI cZ h cd lev tm gn nL nC nE L B C F ys ao) sz [.ref (h 0), .int v] (fun r w' => r = 0 ∧ w' = wM cI cZ h 1 lev tm gn nL nC nE L B C F ys ao) := by
  intro sz
  refine z_head (y := yX4_waits) (av := [.ref (h 0), .int v]) (w := (wM cI cZ h cd lev tm gn nL nC nE L B C F ys ao)) (Qc := fun A => zQi D (wM cI cZ h cd lev tm gn nL nC nE L B C F ys ao) (fun r w' => r = 0 ∧ w' = wM cI cZ h 1 lev tm gn nL nC nE L B C F ys ao) A) (cc := cX4_waits) (maxL := 2) (ret := (some .int)) (by decide) rfl (Nat.le_of_ble_eq_true rfl) ?_
  intro p e s m below meth c ls A hat hP hD hS hl
  obtain ⟨hx, hb, hr, hml, hlocks, hts, hown, hin, hK, hE, hA⟩ := hat
  have hP : va_P D vwCl (wM cI cZ h cd lev tm gn nL nC nE L B C F ys ao) s.heap := hP
  have hD : va_D A (wM cI cZ h cd lev tm gn nL nC nE L B C F ys ao) := hD
  have hl : lv_has ls 2 [(0, .ref (h 0)), (1, .int v)] := hl
  refine lv_aload_n hx hb dX4_waits_0 rfl (lv_at hl 0 rfl) ?_
  refine lv_aload_n hx hb dX4_waits_1 rfl (lv_at hl 0 rfl) ?_
  refine lv_iload_n hx hb dX4_waits_2 rfl (lv_at hl 1 rfl) ?_
  refine z_backiA (z_runVA (n := 1) (As := [.int v]) (ci := 5) (rest := [.ref (h 0)]) hx hb hml hown hts hK hE hP hD (tX4_isCall l D cI cZ cJ h cd lev tm gn nL nC nE L B C F ys ao v  _) gX4_waits_X4_isCall rfl rfl rfl (by decide +kernel) ⟨Nat.le_of_ble_eq_true rfl, Nat.le_of_ble_eq_true rfl⟩ rfl rfl rfl hl.1 rfl (Nat.le_of_ble_eq_true rfl) dX4_waits_3 ⟨Nat.zero_le _, Nat.zero_le _⟩) hD hS hA (fun r1 w1 H locs hp1 hP hD hS => ?_)
  obtain ⟨rfl, rfl⟩ := hp1
  have hP : va_P D vwCl (wM cI cZ h cd lev tm gn nL nC nE L B C F ys ao) H := hP
  have hD : va_D A (wM cI cZ h cd lev tm gn nL nC nE L B C F ys ao) := hD
  refine zb_eq (b := (inB v 0 (nI nC - 1))) (tgt := 13) hx hb dX4_waits_6 (by decide) (fun c6 => ?_) (fun c6 => ?_)
  · skip
    refine lv_iconst (v := 1) hx hb dX4_waits_13 (by decide) ?_
    refine va_put (D := D) (ci := 5) (v := .int 1) (ty := .int) (C := RX4) (T := TX4) (N := 28) hx hb hts kX4_waits_inX4 tyX4 tyX4_ok nmX4 hown hK hP hD hS 0 rfl rfl 0 (by decide) (hts _ kX4_waits_f78) (fun _ h9 => h9) rfl (by decide +kernel) rfl rfl (Nat.le_of_ble_eq_true rfl) dX4_waits_14 (fun H locs hP hD hS => ?_)
    have hP : va_P D vwCl (wM cI cZ h 1 lev tm gn nL nC nE L B C F ys ao) H := hP
    have hD : va_D A (wM cI cZ h 1 lev tm gn nL nC nE L B C F ys ao) := hD
    refine lv_aload_n hx hb dX4_waits_17 rfl (lv_at hl 0 rfl) ?_
    refine va_get (D := D) (ci := 5) (v := .int 1) (C := RX4) (T := TX4) (N := 28) hx hb hts kX4_waits_inX4 hown hK hP 0 rfl rfl 0 (by decide) (hts _ kX4_waits_f78) (fun _ h9 => h9) rfl dX4_waits_18 ?_
    refine lv_if_le (x := 1) (tgt := 26) hx hb dX4_waits_21 (by decide) (fun c21 => ?_) (fun c21 => ?_)
    · exact absurd c21 (by decide)
    · skip
      refine lv_iconst (v := 0) hx hb dX4_waits_24 (by decide) ?_
      exact z_iret hx hb hr hlocks hS hP rfl dX4_waits_25 (⟨rfl, rfl⟩)
  · exact absurd (hno.symm.trans c6) (by decide)

theorem kX4_waits_f53 : Cond.fieldLink RX4 53 "LiftRows2Model" "boarded" "[I" ∈ wsX4_waits := by decide +kernel
theorem kX4_waits_f50 : Cond.fieldLink RX4 50 "LiftRows2Model" "came" "[I" ∈ wsX4_waits := by decide +kernel
theorem kX4_waits_f99 : Cond.fieldLink RX4 99 "LiftRows2Model" "time" "I" ∈ wsX4_waits := by decide +kernel
set_option maxHeartbeats 4000000 in
set_option maxRecDepth 100000 in
theorem tX4_waits_ok (l : Launch) (D : va_G) (cI cZ cJ : ClassId) (h : Nat → Nat) (cd : Int32) (lev tm : Nat) (gn : Int32) (nL nC nE : Nat) (L B C F : Nat → Nat → Int32) (ys ao : Nat → Int32) (k : Nat) (hk : k < nC) (hC : nC ≤ 24)  : ∀ sz : Nat, zMi l yX4_waits wsX4_waits ({ frames := 2, cells := 0, slots := 0, locals := 43 } : Room) D cI cZ cJ (wM cI cZ h cd lev tm gn nL nC nE L B C F ys ao) sz [.ref (h 0), .int (nI k)] (fun r w' => r = (if C 7 k = -1 then nI tm else C 7 k) - C 6 k ∧ w' = wM cI cZ h 0 lev tm gn nL nC nE L B C F ys ao) := by
  intro sz
  refine z_head (y := yX4_waits) (av := [.ref (h 0), .int (nI k)]) (w := (wM cI cZ h cd lev tm gn nL nC nE L B C F ys ao)) (Qc := fun A => zQi D (wM cI cZ h cd lev tm gn nL nC nE L B C F ys ao) (fun r w' => r = (if C 7 k = -1 then nI tm else C 7 k) - C 6 k ∧ w' = wM cI cZ h 0 lev tm gn nL nC nE L B C F ys ao) A) (cc := cX4_waits) (maxL := 2) (ret := (some .int)) (by decide) rfl (Nat.le_of_ble_eq_true rfl) ?_
  intro p e s m below meth c ls A hat hP hD hS hl
  obtain ⟨hx, hb, hr, hml, hlocks, hts, hown, hin, hK, hE, hA⟩ := hat
  have hP : va_P D vwCl (wM cI cZ h cd lev tm gn nL nC nE L B C F ys ao) s.heap := hP
  have hD : va_D A (wM cI cZ h cd lev tm gn nL nC nE L B C F ys ao) := hD
  have hl : lv_has ls 2 [(0, .ref (h 0)), (1, .int (nI k))] := hl
  have h1 : inB (nI k) 0 (nI nC - 1) = true := inB_ok hk (by omega)
  refine lv_aload_n hx hb dX4_waits_0 rfl (lv_at hl 0 rfl) ?_
  refine lv_aload_n hx hb dX4_waits_1 rfl (lv_at hl 0 rfl) ?_
  refine lv_iload_n hx hb dX4_waits_2 rfl (lv_at hl 1 rfl) ?_
  refine z_backiA (z_runVA (n := 1) (As := [.int (nI k)]) (ci := 5) (rest := [.ref (h 0)]) hx hb hml hown hts hK hE hP hD (tX4_isCall l D cI cZ cJ h cd lev tm gn nL nC nE L B C F ys ao (nI k)  _) gX4_waits_X4_isCall rfl rfl rfl (by decide +kernel) ⟨Nat.le_of_ble_eq_true rfl, Nat.le_of_ble_eq_true rfl⟩ rfl rfl rfl hl.1 rfl (Nat.le_of_ble_eq_true rfl) dX4_waits_3 ⟨Nat.zero_le _, Nat.zero_le _⟩) hD hS hA (fun r1 w1 H locs hp1 hP hD hS => ?_)
  obtain ⟨rfl, rfl⟩ := hp1
  have hP : va_P D vwCl (wM cI cZ h cd lev tm gn nL nC nE L B C F ys ao) H := hP
  have hD : va_D A (wM cI cZ h cd lev tm gn nL nC nE L B C F ys ao) := hD
  refine zb_eq (b := (inB (nI k) 0 (nI nC - 1))) (tgt := 13) hx hb dX4_waits_6 (by decide) (fun c6 => ?_) (fun c6 => ?_)
  · exact absurd (h1.symm.trans c6) (by decide)
  · skip
    refine lv_iconst (v := 0) hx hb dX4_waits_9 (by decide) ?_
    refine lv_goto (tgt := 14) hx hb dX4_waits_10 (by decide) ?_
    refine va_put (D := D) (ci := 5) (v := .int 0) (ty := .int) (C := RX4) (T := TX4) (N := 28) hx hb hts kX4_waits_inX4 tyX4 tyX4_ok nmX4 hown hK hP hD hS 0 rfl rfl 0 (by decide) (hts _ kX4_waits_f78) (fun _ h9 => h9) rfl (by decide +kernel) rfl rfl (Nat.le_of_ble_eq_true rfl) dX4_waits_14 (fun H locs hP hD hS => ?_)
    have hP : va_P D vwCl (wM cI cZ h 0 lev tm gn nL nC nE L B C F ys ao) H := hP
    have hD : va_D A (wM cI cZ h 0 lev tm gn nL nC nE L B C F ys ao) := hD
    refine lv_aload_n hx hb dX4_waits_17 rfl (lv_at hl 0 rfl) ?_
    refine va_get (D := D) (ci := 5) (v := .int 0) (C := RX4) (T := TX4) (N := 28) hx hb hts kX4_waits_inX4 hown hK hP 0 rfl rfl 0 (by decide) (hts _ kX4_waits_f78) (fun _ h9 => h9) rfl dX4_waits_18 ?_
    refine lv_if_le (x := 0) (tgt := 26) hx hb dX4_waits_21 (by decide) (fun c21 => ?_) (fun c21 => ?_)
    · skip
      refine lv_aload_n hx hb dX4_waits_26 rfl (lv_at hl 0 rfl) ?_
      refine va_get (D := D) (ci := 5) (v := .ref (h 15)) (C := RX4) (T := TX4) (N := 28) hx hb hts kX4_waits_inX4 hown hK hP 0 rfl rfl 20 (by decide) (hts _ kX4_waits_f53) (fun _ h9 => h9) rfl dX4_waits_27 ?_
      refine lv_iload_n hx hb dX4_waits_30 rfl (lv_at hl 1 rfl) ?_
      refine z_iald (k := k) (v := C 7 k) hx hb hK hP 15 rfl (by decide) (by omega) (rfl) dX4_waits_31 ?_
      refine lv_iconst (v := (-1)) hx hb dX4_waits_32 (by decide) ?_
      refine lv_icmp_ne (x := C 7 k) (y := (-1)) (tgt := 43) hx hb dX4_waits_33 (by decide) (fun c33 => ?_) (fun c33 => ?_)
      · skip
        refine lv_aload_n hx hb dX4_waits_43 rfl (lv_at hl 0 rfl) ?_
        refine va_get (D := D) (ci := 5) (v := .ref (h 15)) (C := RX4) (T := TX4) (N := 28) hx hb hts kX4_waits_inX4 hown hK hP 0 rfl rfl 20 (by decide) (hts _ kX4_waits_f53) (fun _ h9 => h9) rfl dX4_waits_44 ?_
        refine lv_iload_n hx hb dX4_waits_47 rfl (lv_at hl 1 rfl) ?_
        refine z_iald (k := k) (v := C 7 k) hx hb hK hP 15 rfl (by decide) (by omega) (rfl) dX4_waits_48 ?_
        refine lv_aload_n hx hb dX4_waits_49 rfl (lv_at hl 0 rfl) ?_
        refine va_get (D := D) (ci := 5) (v := .ref (h 14)) (C := RX4) (T := TX4) (N := 28) hx hb hts kX4_waits_inX4 hown hK hP 0 rfl rfl 19 (by decide) (hts _ kX4_waits_f50) (fun _ h9 => h9) rfl dX4_waits_50 ?_
        refine lv_iload_n hx hb dX4_waits_53 rfl (lv_at hl 1 rfl) ?_
        refine z_iald (k := k) (v := C 6 k) hx hb hK hP 14 rfl (by decide) (by omega) (rfl) dX4_waits_54 ?_
        refine lv_isub (x := C 7 k) (y := C 6 k) hx hb dX4_waits_55 ?_
        exact z_iret hx hb hr hlocks hS hP rfl dX4_waits_56 (⟨by simp [c6, c21, c33], rfl⟩)
      · skip
        refine lv_aload_n hx hb dX4_waits_36 rfl (lv_at hl 0 rfl) ?_
        refine va_get (D := D) (ci := 5) (v := .int (nI tm)) (C := RX4) (T := TX4) (N := 28) hx hb hts kX4_waits_inX4 hown hK hP 0 rfl rfl 2 (by decide) (hts _ kX4_waits_f99) (fun _ h9 => h9) rfl dX4_waits_37 ?_
        refine lv_goto (tgt := 49) hx hb dX4_waits_40 (by decide) ?_
        refine lv_aload_n hx hb dX4_waits_49 rfl (lv_at hl 0 rfl) ?_
        refine va_get (D := D) (ci := 5) (v := .ref (h 14)) (C := RX4) (T := TX4) (N := 28) hx hb hts kX4_waits_inX4 hown hK hP 0 rfl rfl 19 (by decide) (hts _ kX4_waits_f50) (fun _ h9 => h9) rfl dX4_waits_50 ?_
        refine lv_iload_n hx hb dX4_waits_53 rfl (lv_at hl 1 rfl) ?_
        refine z_iald (k := k) (v := C 6 k) hx hb hK hP 14 rfl (by decide) (by omega) (rfl) dX4_waits_54 ?_
        refine lv_isub (x := nI tm) (y := C 6 k) hx hb dX4_waits_55 ?_
        exact z_iret hx hb hr hlocks hS hP rfl dX4_waits_56 (⟨by simp [c6, c21, c33], rfl⟩)
    · exact absurd c21 (by decide)

theorem kX4_known_f78 : Cond.fieldLink RX4 78 "LiftRows2Model" "code" "I" ∈ wsX4_known := by decide +kernel
theorem kX4_known_inX4 : ∀ w ∈ wsX40, w ∈ wsX4_known := by decide +kernel
set_option maxHeartbeats 4000000 in
set_option maxRecDepth 100000 in
theorem tX4_known_n1 (l : Launch) (D : va_G) (cI cZ cJ : ClassId) (h : Nat → Nat) (cd : Int32) (lev tm : Nat) (gn : Int32) (nL nC nE : Nat) (L B C F : Nat → Nat → Int32) (ys ao : Nat → Int32) (v : Int32) (hno : inB v 0 (nI nC - 1) = false) (u : Int32)  : ∀ sz : Nat, zMi l yX4_known wsX4_known ({ frames := 2, cells := 0, slots := 0, locals := 43 } : Room) D cI cZ cJ (wM cI cZ h cd lev tm gn nL nC nE L B C F ys ao) sz [.ref (h 0), .int v, .int u] (fun r w' => r = 0 ∧ w' = wM cI cZ h 1 lev tm gn nL nC nE L B C F ys ao) := by
  intro sz
  refine z_head (y := yX4_known) (av := [.ref (h 0), .int v, .int u]) (w := (wM cI cZ h cd lev tm gn nL nC nE L B C F ys ao)) (Qc := fun A => zQi D (wM cI cZ h cd lev tm gn nL nC nE L B C F ys ao) (fun r w' => r = 0 ∧ w' = wM cI cZ h 1 lev tm gn nL nC nE L B C F ys ao) A) (cc := cX4_known) (maxL := 3) (ret := (some .int)) (by decide) rfl (Nat.le_of_ble_eq_true rfl) ?_
  intro p e s m below meth c ls A hat hP hD hS hl
  obtain ⟨hx, hb, hr, hml, hlocks, hts, hown, hin, hK, hE, hA⟩ := hat
  have hP : va_P D vwCl (wM cI cZ h cd lev tm gn nL nC nE L B C F ys ao) s.heap := hP
  have hD : va_D A (wM cI cZ h cd lev tm gn nL nC nE L B C F ys ao) := hD
  have hl : lv_has ls 3 [(0, .ref (h 0)), (1, .int v), (2, .int u)] := hl
  refine lv_aload_n hx hb dX4_known_0 rfl (lv_at hl 0 rfl) ?_
  refine lv_aload_n hx hb dX4_known_1 rfl (lv_at hl 0 rfl) ?_
  refine lv_iload_n hx hb dX4_known_2 rfl (lv_at hl 1 rfl) ?_
  refine z_backiA (z_runVA (n := 1) (As := [.int v]) (ci := 5) (rest := [.ref (h 0)]) hx hb hml hown hts hK hE hP hD (tX4_isCall l D cI cZ cJ h cd lev tm gn nL nC nE L B C F ys ao v  _) gX4_known_X4_isCall rfl rfl rfl (by decide +kernel) ⟨Nat.le_of_ble_eq_true rfl, Nat.le_of_ble_eq_true rfl⟩ rfl rfl rfl hl.1 rfl (Nat.le_of_ble_eq_true rfl) dX4_known_3 ⟨Nat.zero_le _, Nat.zero_le _⟩) hD hS hA (fun r1 w1 H locs hp1 hP hD hS => ?_)
  obtain ⟨rfl, rfl⟩ := hp1
  have hP : va_P D vwCl (wM cI cZ h cd lev tm gn nL nC nE L B C F ys ao) H := hP
  have hD : va_D A (wM cI cZ h cd lev tm gn nL nC nE L B C F ys ao) := hD
  refine zb_ne (b := (inB v 0 (nI nC - 1))) (tgt := 13) hx hb dX4_known_6 (by decide) (fun c6 => ?_) (fun c6 => ?_)
  · exact absurd (hno.symm.trans c6) (by decide)
  · skip
    refine lv_iconst (v := 1) hx hb dX4_known_9 (by decide) ?_
    refine lv_goto (tgt := 27) hx hb dX4_known_10 (by decide) ?_
    refine va_put (D := D) (ci := 5) (v := .int 1) (ty := .int) (C := RX4) (T := TX4) (N := 28) hx hb hts kX4_known_inX4 tyX4 tyX4_ok nmX4 hown hK hP hD hS 0 rfl rfl 0 (by decide) (hts _ kX4_known_f78) (fun _ h9 => h9) rfl (by decide +kernel) rfl rfl (Nat.le_of_ble_eq_true rfl) dX4_known_27 (fun H locs hP hD hS => ?_)
    have hP : va_P D vwCl (wM cI cZ h 1 lev tm gn nL nC nE L B C F ys ao) H := hP
    have hD : va_D A (wM cI cZ h 1 lev tm gn nL nC nE L B C F ys ao) := hD
    refine lv_aload_n hx hb dX4_known_30 rfl (lv_at hl 0 rfl) ?_
    refine va_get (D := D) (ci := 5) (v := .int 1) (C := RX4) (T := TX4) (N := 28) hx hb hts kX4_known_inX4 hown hK hP 0 rfl rfl 0 (by decide) (hts _ kX4_known_f78) (fun _ h9 => h9) rfl dX4_known_31 ?_
    refine lv_if_le (x := 1) (tgt := 39) hx hb dX4_known_34 (by decide) (fun c34 => ?_) (fun c34 => ?_)
    · exact absurd c34 (by decide)
    · skip
      refine lv_iconst (v := 0) hx hb dX4_known_37 (by decide) ?_
      exact z_iret hx hb hr hlocks hS hP rfl dX4_known_38 (⟨rfl, rfl⟩)


set_option maxHeartbeats 4000000 in
set_option maxRecDepth 100000 in
theorem tX4_known_n2 (l : Launch) (D : va_G) (cI cZ cJ : ClassId) (h : Nat → Nat) (cd : Int32) (lev tm : Nat) (gn : Int32) (nL nC nE : Nat) (L B C F : Nat → Nat → Int32) (ys ao : Nat → Int32) (k : Nat) (hk : k < nC) (hC : nC ≤ 24) (u : Int32) (hno : inB u 0 5 = false)  : ∀ sz : Nat, zMi l yX4_known wsX4_known ({ frames := 2, cells := 0, slots := 0, locals := 43 } : Room) D cI cZ cJ (wM cI cZ h cd lev tm gn nL nC nE L B C F ys ao) sz [.ref (h 0), .int (nI k), .int u] (fun r w' => r = 0 ∧ w' = wM cI cZ h 2 lev tm gn nL nC nE L B C F ys ao) := by
  intro sz
  refine z_head (y := yX4_known) (av := [.ref (h 0), .int (nI k), .int u]) (w := (wM cI cZ h cd lev tm gn nL nC nE L B C F ys ao)) (Qc := fun A => zQi D (wM cI cZ h cd lev tm gn nL nC nE L B C F ys ao) (fun r w' => r = 0 ∧ w' = wM cI cZ h 2 lev tm gn nL nC nE L B C F ys ao) A) (cc := cX4_known) (maxL := 3) (ret := (some .int)) (by decide) rfl (Nat.le_of_ble_eq_true rfl) ?_
  intro p e s m below meth c ls A hat hP hD hS hl
  obtain ⟨hx, hb, hr, hml, hlocks, hts, hown, hin, hK, hE, hA⟩ := hat
  have hP : va_P D vwCl (wM cI cZ h cd lev tm gn nL nC nE L B C F ys ao) s.heap := hP
  have hD : va_D A (wM cI cZ h cd lev tm gn nL nC nE L B C F ys ao) := hD
  have hl : lv_has ls 3 [(0, .ref (h 0)), (1, .int (nI k)), (2, .int u)] := hl
  have h1 : inB (nI k) 0 (nI nC - 1) = true := inB_ok hk (by omega)
  refine lv_aload_n hx hb dX4_known_0 rfl (lv_at hl 0 rfl) ?_
  refine lv_aload_n hx hb dX4_known_1 rfl (lv_at hl 0 rfl) ?_
  refine lv_iload_n hx hb dX4_known_2 rfl (lv_at hl 1 rfl) ?_
  refine z_backiA (z_runVA (n := 1) (As := [.int (nI k)]) (ci := 5) (rest := [.ref (h 0)]) hx hb hml hown hts hK hE hP hD (tX4_isCall l D cI cZ cJ h cd lev tm gn nL nC nE L B C F ys ao (nI k)  _) gX4_known_X4_isCall rfl rfl rfl (by decide +kernel) ⟨Nat.le_of_ble_eq_true rfl, Nat.le_of_ble_eq_true rfl⟩ rfl rfl rfl hl.1 rfl (Nat.le_of_ble_eq_true rfl) dX4_known_3 ⟨Nat.zero_le _, Nat.zero_le _⟩) hD hS hA (fun r1 w1 H locs hp1 hP hD hS => ?_)
  obtain ⟨rfl, rfl⟩ := hp1
  have hP : va_P D vwCl (wM cI cZ h cd lev tm gn nL nC nE L B C F ys ao) H := hP
  have hD : va_D A (wM cI cZ h cd lev tm gn nL nC nE L B C F ys ao) := hD
  refine zb_ne (b := (inB (nI k) 0 (nI nC - 1))) (tgt := 13) hx hb dX4_known_6 (by decide) (fun c6 => ?_) (fun c6 => ?_)
  · skip
    refine lv_iload_n hx hb dX4_known_13 rfl (lv_at hl 2 rfl) ?_
    refine lv_iconst (v := 0) hx hb dX4_known_14 (by decide) ?_
    refine lv_iconst (v := 5) hx hb dX4_known_15 (by decide) ?_
    refine z_backi (z_runS (n := 3) (As := [.int u, .int 0, .int 5]) (rest := [.ref (h 0)]) hx hb hml hown hts hK hE hP hD [] rfl (by decide) (tX4_in l D cI cZ cJ u 0 5 _) gX4_known_X4_in rfl rfl rfl (by decide +kernel) ⟨Nat.le_of_ble_eq_true rfl, Nat.le_of_ble_eq_true rfl⟩ rfl hl.1 rfl (Nat.le_of_ble_eq_true rfl) dX4_known_16 ⟨Nat.zero_le _, Nat.zero_le _⟩) hP hD hS hA [] rfl (fun r2 w1 H locs hp2 hP hD hS => ?_)
    obtain ⟨rfl, rfl⟩ := hp2
    have hP : va_P D vwCl (wM cI cZ h cd lev tm gn nL nC nE L B C F ys ao) H := hP
    have hD : va_D A (wM cI cZ h cd lev tm gn nL nC nE L B C F ys ao) := hD
    refine zb_ne (b := (inB u 0 5)) (tgt := 26) hx hb dX4_known_19 (by decide) (fun c19 => ?_) (fun c19 => ?_)
    · exact absurd (hno.symm.trans c19) (by decide)
    · skip
      refine lv_iconst (v := 2) hx hb dX4_known_22 (by decide) ?_
      refine lv_goto (tgt := 27) hx hb dX4_known_23 (by decide) ?_
      refine va_put (D := D) (ci := 5) (v := .int 2) (ty := .int) (C := RX4) (T := TX4) (N := 28) hx hb hts kX4_known_inX4 tyX4 tyX4_ok nmX4 hown hK hP hD hS 0 rfl rfl 0 (by decide) (hts _ kX4_known_f78) (fun _ h9 => h9) rfl (by decide +kernel) rfl rfl (Nat.le_of_ble_eq_true rfl) dX4_known_27 (fun H locs hP hD hS => ?_)
      have hP : va_P D vwCl (wM cI cZ h 2 lev tm gn nL nC nE L B C F ys ao) H := hP
      have hD : va_D A (wM cI cZ h 2 lev tm gn nL nC nE L B C F ys ao) := hD
      refine lv_aload_n hx hb dX4_known_30 rfl (lv_at hl 0 rfl) ?_
      refine va_get (D := D) (ci := 5) (v := .int 2) (C := RX4) (T := TX4) (N := 28) hx hb hts kX4_known_inX4 hown hK hP 0 rfl rfl 0 (by decide) (hts _ kX4_known_f78) (fun _ h9 => h9) rfl dX4_known_31 ?_
      refine lv_if_le (x := 2) (tgt := 39) hx hb dX4_known_34 (by decide) (fun c34 => ?_) (fun c34 => ?_)
      · exact absurd c34 (by decide)
      · skip
        refine lv_iconst (v := 0) hx hb dX4_known_37 (by decide) ?_
        exact z_iret hx hb hr hlocks hS hP rfl dX4_known_38 (⟨rfl, rfl⟩)
  · exact absurd (h1.symm.trans c6) (by decide)

theorem kX4_known_f41 : Cond.fieldLink RX4 41 "LiftRows2Model" "load" "[I" ∈ wsX4_known := by decide +kernel
theorem kX4_known_f38 : Cond.fieldLink RX4 38 "LiftRows2Model" "rank" "[I" ∈ wsX4_known := by decide +kernel
theorem kX4_known_f35 : Cond.fieldLink RX4 35 "LiftRows2Model" "to" "[I" ∈ wsX4_known := by decide +kernel
theorem kX4_known_f32 : Cond.fieldLink RX4 32 "LiftRows2Model" "from" "[I" ∈ wsX4_known := by decide +kernel
theorem kX4_known_f47 : Cond.fieldLink RX4 47 "LiftRows2Model" "liftOf" "[I" ∈ wsX4_known := by decide +kernel
theorem kX4_known_f44 : Cond.fieldLink RX4 44 "LiftRows2Model" "state" "[I" ∈ wsX4_known := by decide +kernel
set_option maxHeartbeats 4000000 in
set_option maxRecDepth 100000 in
theorem tX4_known_ok (l : Launch) (D : va_G) (cI cZ cJ : ClassId) (h : Nat → Nat) (cd : Int32) (lev tm : Nat) (gn : Int32) (nL nC nE : Nat) (L B C F : Nat → Nat → Int32) (ys ao : Nat → Int32) (k : Nat) (hk : k < nC) (hC : nC ≤ 24) (u : Int32) (h2 : inB u 0 5 = true)  : ∀ sz : Nat, zMi l yX4_known wsX4_known ({ frames := 2, cells := 0, slots := 0, locals := 43 } : Room) D cI cZ cJ (wM cI cZ h cd lev tm gn nL nC nE L B C F ys ao) sz [.ref (h 0), .int (nI k), .int u] (fun r w' => r = knI C k u ∧ w' = wM cI cZ h 0 lev tm gn nL nC nE L B C F ys ao) := by
  intro sz
  refine z_head (y := yX4_known) (av := [.ref (h 0), .int (nI k), .int u]) (w := (wM cI cZ h cd lev tm gn nL nC nE L B C F ys ao)) (Qc := fun A => zQi D (wM cI cZ h cd lev tm gn nL nC nE L B C F ys ao) (fun r w' => r = knI C k u ∧ w' = wM cI cZ h 0 lev tm gn nL nC nE L B C F ys ao) A) (cc := cX4_known) (maxL := 3) (ret := (some .int)) (by decide) rfl (Nat.le_of_ble_eq_true rfl) ?_
  intro p e s m below meth c ls A hat hP hD hS hl
  obtain ⟨hx, hb, hr, hml, hlocks, hts, hown, hin, hK, hE, hA⟩ := hat
  have hP : va_P D vwCl (wM cI cZ h cd lev tm gn nL nC nE L B C F ys ao) s.heap := hP
  have hD : va_D A (wM cI cZ h cd lev tm gn nL nC nE L B C F ys ao) := hD
  have hl : lv_has ls 3 [(0, .ref (h 0)), (1, .int (nI k)), (2, .int u)] := hl
  have h1 : inB (nI k) 0 (nI nC - 1) = true := inB_ok hk (by omega)
  refine lv_aload_n hx hb dX4_known_0 rfl (lv_at hl 0 rfl) ?_
  refine lv_aload_n hx hb dX4_known_1 rfl (lv_at hl 0 rfl) ?_
  refine lv_iload_n hx hb dX4_known_2 rfl (lv_at hl 1 rfl) ?_
  refine z_backiA (z_runVA (n := 1) (As := [.int (nI k)]) (ci := 5) (rest := [.ref (h 0)]) hx hb hml hown hts hK hE hP hD (tX4_isCall l D cI cZ cJ h cd lev tm gn nL nC nE L B C F ys ao (nI k)  _) gX4_known_X4_isCall rfl rfl rfl (by decide +kernel) ⟨Nat.le_of_ble_eq_true rfl, Nat.le_of_ble_eq_true rfl⟩ rfl rfl rfl hl.1 rfl (Nat.le_of_ble_eq_true rfl) dX4_known_3 ⟨Nat.zero_le _, Nat.zero_le _⟩) hD hS hA (fun r1 w1 H locs hp1 hP hD hS => ?_)
  obtain ⟨rfl, rfl⟩ := hp1
  have hP : va_P D vwCl (wM cI cZ h cd lev tm gn nL nC nE L B C F ys ao) H := hP
  have hD : va_D A (wM cI cZ h cd lev tm gn nL nC nE L B C F ys ao) := hD
  refine zb_ne (b := (inB (nI k) 0 (nI nC - 1))) (tgt := 13) hx hb dX4_known_6 (by decide) (fun c6 => ?_) (fun c6 => ?_)
  · skip
    refine lv_iload_n hx hb dX4_known_13 rfl (lv_at hl 2 rfl) ?_
    refine lv_iconst (v := 0) hx hb dX4_known_14 (by decide) ?_
    refine lv_iconst (v := 5) hx hb dX4_known_15 (by decide) ?_
    refine z_backi (z_runS (n := 3) (As := [.int u, .int 0, .int 5]) (rest := [.ref (h 0)]) hx hb hml hown hts hK hE hP hD [] rfl (by decide) (tX4_in l D cI cZ cJ u 0 5 _) gX4_known_X4_in rfl rfl rfl (by decide +kernel) ⟨Nat.le_of_ble_eq_true rfl, Nat.le_of_ble_eq_true rfl⟩ rfl hl.1 rfl (Nat.le_of_ble_eq_true rfl) dX4_known_16 ⟨Nat.zero_le _, Nat.zero_le _⟩) hP hD hS hA [] rfl (fun r2 w1 H locs hp2 hP hD hS => ?_)
    obtain ⟨rfl, rfl⟩ := hp2
    have hP : va_P D vwCl (wM cI cZ h cd lev tm gn nL nC nE L B C F ys ao) H := hP
    have hD : va_D A (wM cI cZ h cd lev tm gn nL nC nE L B C F ys ao) := hD
    refine zb_ne (b := (inB u 0 5)) (tgt := 26) hx hb dX4_known_19 (by decide) (fun c19 => ?_) (fun c19 => ?_)
    · skip
      refine lv_iconst (v := 0) hx hb dX4_known_26 (by decide) ?_
      refine va_put (D := D) (ci := 5) (v := .int 0) (ty := .int) (C := RX4) (T := TX4) (N := 28) hx hb hts kX4_known_inX4 tyX4 tyX4_ok nmX4 hown hK hP hD hS 0 rfl rfl 0 (by decide) (hts _ kX4_known_f78) (fun _ h9 => h9) rfl (by decide +kernel) rfl rfl (Nat.le_of_ble_eq_true rfl) dX4_known_27 (fun H locs hP hD hS => ?_)
      have hP : va_P D vwCl (wM cI cZ h 0 lev tm gn nL nC nE L B C F ys ao) H := hP
      have hD : va_D A (wM cI cZ h 0 lev tm gn nL nC nE L B C F ys ao) := hD
      refine lv_aload_n hx hb dX4_known_30 rfl (lv_at hl 0 rfl) ?_
      refine va_get (D := D) (ci := 5) (v := .int 0) (C := RX4) (T := TX4) (N := 28) hx hb hts kX4_known_inX4 hown hK hP 0 rfl rfl 0 (by decide) (hts _ kX4_known_f78) (fun _ h9 => h9) rfl dX4_known_31 ?_
      refine lv_if_le (x := 0) (tgt := 39) hx hb dX4_known_34 (by decide) (fun c34 => ?_) (fun c34 => ?_)
      · skip
        refine lv_iload_n hx hb dX4_known_39 rfl (lv_at hl 2 rfl) ?_
        refine lv_if_ne (x := u) (tgt := 50) hx hb dX4_known_40 (by decide) (fun c40 => ?_) (fun c40 => ?_)
        · skip
          refine lv_iload_n hx hb dX4_known_50 rfl (lv_at hl 2 rfl) ?_
          refine lv_iconst (v := 1) hx hb dX4_known_51 (by decide) ?_
          refine lv_icmp_ne (x := u) (y := 1) (tgt := 62) hx hb dX4_known_52 (by decide) (fun c52 => ?_) (fun c52 => ?_)
          · skip
            refine lv_iload_n hx hb dX4_known_62 rfl (lv_at hl 2 rfl) ?_
            refine lv_iconst (v := 2) hx hb dX4_known_63 (by decide) ?_
            refine lv_icmp_ne (x := u) (y := 2) (tgt := 74) hx hb dX4_known_64 (by decide) (fun c64 => ?_) (fun c64 => ?_)
            · skip
              refine lv_iload_n hx hb dX4_known_74 rfl (lv_at hl 2 rfl) ?_
              refine lv_iconst (v := 3) hx hb dX4_known_75 (by decide) ?_
              refine lv_icmp_ne (x := u) (y := 3) (tgt := 88) hx hb dX4_known_76 (by decide) (fun c76 => ?_) (fun c76 => ?_)
              · skip
                refine lv_iload_n hx hb dX4_known_88 rfl (lv_at hl 2 rfl) ?_
                refine lv_iconst (v := 4) hx hb dX4_known_89 (by decide) ?_
                refine lv_icmp_ne (x := u) (y := 4) (tgt := 102) hx hb dX4_known_90 (by decide) (fun c90 => ?_) (fun c90 => ?_)
                · skip
                  refine lv_aload_n hx hb dX4_known_102 rfl (lv_at hl 0 rfl) ?_
                  refine va_get (D := D) (ci := 5) (v := .ref (h 11)) (C := RX4) (T := TX4) (N := 28) hx hb hts kX4_known_inX4 hown hK hP 0 rfl rfl 16 (by decide) (hts _ kX4_known_f41) (fun _ h9 => h9) rfl dX4_known_103 ?_
                  refine lv_iload_n hx hb dX4_known_106 rfl (lv_at hl 1 rfl) ?_
                  refine z_iald (k := k) (v := C 3 k) hx hb hK hP 11 rfl (by decide) (by omega) (rfl) dX4_known_107 ?_
                  exact z_iret hx hb hr hlocks hS hP rfl dX4_known_108 (⟨by simp [knI, c6, c19, c34, c40, c52, c64, c76, c90], rfl⟩)
                · skip
                  refine lv_aload_n hx hb dX4_known_93 rfl (lv_at hl 0 rfl) ?_
                  refine va_get (D := D) (ci := 5) (v := .ref (h 10)) (C := RX4) (T := TX4) (N := 28) hx hb hts kX4_known_inX4 hown hK hP 0 rfl rfl 15 (by decide) (hts _ kX4_known_f38) (fun _ h9 => h9) rfl dX4_known_94 ?_
                  refine lv_iload_n hx hb dX4_known_97 rfl (lv_at hl 1 rfl) ?_
                  refine z_iald (k := k) (v := C 2 k) hx hb hK hP 10 rfl (by decide) (by omega) (rfl) dX4_known_98 ?_
                  refine lv_goto (tgt := 108) hx hb dX4_known_99 (by decide) ?_
                  exact z_iret hx hb hr hlocks hS hP rfl dX4_known_108 (⟨by simp [knI, c6, c19, c34, c40, c52, c64, c76, c90], rfl⟩)
              · skip
                refine lv_aload_n hx hb dX4_known_79 rfl (lv_at hl 0 rfl) ?_
                refine va_get (D := D) (ci := 5) (v := .ref (h 9)) (C := RX4) (T := TX4) (N := 28) hx hb hts kX4_known_inX4 hown hK hP 0 rfl rfl 14 (by decide) (hts _ kX4_known_f35) (fun _ h9 => h9) rfl dX4_known_80 ?_
                refine lv_iload_n hx hb dX4_known_83 rfl (lv_at hl 1 rfl) ?_
                refine z_iald (k := k) (v := C 1 k) hx hb hK hP 9 rfl (by decide) (by omega) (rfl) dX4_known_84 ?_
                refine lv_goto (tgt := 108) hx hb dX4_known_85 (by decide) ?_
                exact z_iret hx hb hr hlocks hS hP rfl dX4_known_108 (⟨by simp [knI, c6, c19, c34, c40, c52, c64, c76], rfl⟩)
            · skip
              refine lv_aload_n hx hb dX4_known_67 rfl (lv_at hl 0 rfl) ?_
              refine va_get (D := D) (ci := 5) (v := .ref (h 8)) (C := RX4) (T := TX4) (N := 28) hx hb hts kX4_known_inX4 hown hK hP 0 rfl rfl 13 (by decide) (hts _ kX4_known_f32) (fun _ h9 => h9) rfl dX4_known_68 ?_
              refine lv_iload_n hx hb dX4_known_71 rfl (lv_at hl 1 rfl) ?_
              refine z_iald (k := k) (v := C 0 k) hx hb hK hP 8 rfl (by decide) (by omega) (rfl) dX4_known_72 ?_
              exact z_iret hx hb hr hlocks hS hP rfl dX4_known_73 (⟨by simp [knI, c6, c19, c34, c40, c52, c64], rfl⟩)
          · skip
            refine lv_aload_n hx hb dX4_known_55 rfl (lv_at hl 0 rfl) ?_
            refine va_get (D := D) (ci := 5) (v := .ref (h 13)) (C := RX4) (T := TX4) (N := 28) hx hb hts kX4_known_inX4 hown hK hP 0 rfl rfl 18 (by decide) (hts _ kX4_known_f47) (fun _ h9 => h9) rfl dX4_known_56 ?_
            refine lv_iload_n hx hb dX4_known_59 rfl (lv_at hl 1 rfl) ?_
            refine z_iald (k := k) (v := C 5 k) hx hb hK hP 13 rfl (by decide) (by omega) (rfl) dX4_known_60 ?_
            exact z_iret hx hb hr hlocks hS hP rfl dX4_known_61 (⟨by simp [knI, c6, c19, c34, c40, c52], rfl⟩)
        · skip
          refine lv_aload_n hx hb dX4_known_43 rfl (lv_at hl 0 rfl) ?_
          refine va_get (D := D) (ci := 5) (v := .ref (h 12)) (C := RX4) (T := TX4) (N := 28) hx hb hts kX4_known_inX4 hown hK hP 0 rfl rfl 17 (by decide) (hts _ kX4_known_f44) (fun _ h9 => h9) rfl dX4_known_44 ?_
          refine lv_iload_n hx hb dX4_known_47 rfl (lv_at hl 1 rfl) ?_
          refine z_iald (k := k) (v := C 4 k) hx hb hK hP 12 rfl (by decide) (by omega) (rfl) dX4_known_48 ?_
          exact z_iret hx hb hr hlocks hS hP rfl dX4_known_49 (⟨by simp [knI, c6, c19, c34, c40], rfl⟩)
      · exact absurd c34 (by decide)
    · exact absurd (h2.symm.trans c19) (by decide)
  · exact absurd (h1.symm.trans c6) (by decide)

theorem kX4_event_inX4 : ∀ w ∈ wsX40, w ∈ wsX4_event := by decide +kernel
theorem kX4_event_f109 : Cond.fieldLink RX4 109 "LiftRows2Model" "events" "I" ∈ wsX4_event := by decide +kernel
theorem kX4_event_f78 : Cond.fieldLink RX4 78 "LiftRows2Model" "code" "I" ∈ wsX4_event := by decide +kernel
set_option maxHeartbeats 4000000 in
set_option maxRecDepth 100000 in
theorem tX4_event_n1 (l : Launch) (D : va_G) (cI cZ cJ : ClassId) (h : Nat → Nat) (cd : Int32) (lev tm : Nat) (gn : Int32) (nL nC nE : Nat) (L B C F : Nat → Nat → Int32) (ys ao : Nat → Int32) (v : Int32) (hno : inB v 0 (nI nE - 1) = false) (u : Int32)  : ∀ sz : Nat, zMi l yX4_event wsX4_event ({ frames := 1, cells := 0, slots := 0, locals := 22 } : Room) D cI cZ cJ (wM cI cZ h cd lev tm gn nL nC nE L B C F ys ao) sz [.ref (h 0), .int v, .int u] (fun r w' => r = 0 ∧ w' = wM cI cZ h 1 lev tm gn nL nC nE L B C F ys ao) := by
  intro sz
  refine z_head (y := yX4_event) (av := [.ref (h 0), .int v, .int u]) (w := (wM cI cZ h cd lev tm gn nL nC nE L B C F ys ao)) (Qc := fun A => zQi D (wM cI cZ h cd lev tm gn nL nC nE L B C F ys ao) (fun r w' => r = 0 ∧ w' = wM cI cZ h 1 lev tm gn nL nC nE L B C F ys ao) A) (cc := cX4_event) (maxL := 3) (ret := (some .int)) (by decide) rfl (Nat.le_of_ble_eq_true rfl) ?_
  intro p e s m below meth c ls A hat hP hD hS hl
  obtain ⟨hx, hb, hr, hml, hlocks, hts, hown, hin, hK, hE, hA⟩ := hat
  have hP : va_P D vwCl (wM cI cZ h cd lev tm gn nL nC nE L B C F ys ao) s.heap := hP
  have hD : va_D A (wM cI cZ h cd lev tm gn nL nC nE L B C F ys ao) := hD
  have hl : lv_has ls 3 [(0, .ref (h 0)), (1, .int v), (2, .int u)] := hl
  refine lv_aload_n hx hb dX4_event_0 rfl (lv_at hl 0 rfl) ?_
  refine lv_iload_n hx hb dX4_event_1 rfl (lv_at hl 1 rfl) ?_
  refine lv_iconst (v := 0) hx hb dX4_event_2 (by decide) ?_
  refine lv_aload_n hx hb dX4_event_3 rfl (lv_at hl 0 rfl) ?_
  refine va_get (D := D) (ci := 5) (v := .int (nI nE)) (C := RX4) (T := TX4) (N := 28) hx hb hts kX4_event_inX4 hown hK hP 0 rfl rfl 22 (by decide) (hts _ kX4_event_f109) (fun _ h9 => h9) rfl dX4_event_4 ?_
  refine lv_iconst (v := 1) hx hb dX4_event_7 (by decide) ?_
  refine lv_isub (x := nI nE) (y := 1) hx hb dX4_event_8 ?_
  refine z_backi (z_runS (n := 3) (As := [.int v, .int 0, .int ((nI nE) - 1)]) (rest := [.ref (h 0)]) hx hb hml hown hts hK hE hP hD [] rfl (by decide) (tX4_in l D cI cZ cJ v 0 ((nI nE) - 1) _) gX4_event_X4_in rfl rfl rfl (by decide +kernel) ⟨Nat.le_of_ble_eq_true rfl, Nat.le_of_ble_eq_true rfl⟩ rfl hl.1 rfl (Nat.le_of_ble_eq_true rfl) dX4_event_9 ⟨Nat.zero_le _, Nat.zero_le _⟩) hP hD hS hA [] rfl (fun r1 w1 H locs hp1 hP hD hS => ?_)
  obtain ⟨rfl, rfl⟩ := hp1
  have hP : va_P D vwCl (wM cI cZ h cd lev tm gn nL nC nE L B C F ys ao) H := hP
  have hD : va_D A (wM cI cZ h cd lev tm gn nL nC nE L B C F ys ao) := hD
  refine zb_ne (b := (inB v 0 ((nI nE) - 1))) (tgt := 19) hx hb dX4_event_12 (by decide) (fun c12 => ?_) (fun c12 => ?_)
  · exact absurd (hno.symm.trans c12) (by decide)
  · skip
    refine lv_iconst (v := 1) hx hb dX4_event_15 (by decide) ?_
    refine lv_goto (tgt := 33) hx hb dX4_event_16 (by decide) ?_
    refine va_put (D := D) (ci := 5) (v := .int 1) (ty := .int) (C := RX4) (T := TX4) (N := 28) hx hb hts kX4_event_inX4 tyX4 tyX4_ok nmX4 hown hK hP hD hS 0 rfl rfl 0 (by decide) (hts _ kX4_event_f78) (fun _ h9 => h9) rfl (by decide +kernel) rfl rfl (Nat.le_of_ble_eq_true rfl) dX4_event_33 (fun H locs hP hD hS => ?_)
    have hP : va_P D vwCl (wM cI cZ h 1 lev tm gn nL nC nE L B C F ys ao) H := hP
    have hD : va_D A (wM cI cZ h 1 lev tm gn nL nC nE L B C F ys ao) := hD
    refine lv_aload_n hx hb dX4_event_36 rfl (lv_at hl 0 rfl) ?_
    refine va_get (D := D) (ci := 5) (v := .int 1) (C := RX4) (T := TX4) (N := 28) hx hb hts kX4_event_inX4 hown hK hP 0 rfl rfl 0 (by decide) (hts _ kX4_event_f78) (fun _ h9 => h9) rfl dX4_event_37 ?_
    refine lv_if_le (x := 1) (tgt := 45) hx hb dX4_event_40 (by decide) (fun c40 => ?_) (fun c40 => ?_)
    · exact absurd c40 (by decide)
    · skip
      refine lv_iconst (v := 0) hx hb dX4_event_43 (by decide) ?_
      exact z_iret hx hb hr hlocks hS hP rfl dX4_event_44 (⟨rfl, rfl⟩)


set_option maxHeartbeats 4000000 in
set_option maxRecDepth 100000 in
theorem tX4_event_n2 (l : Launch) (D : va_G) (cI cZ cJ : ClassId) (h : Nat → Nat) (cd : Int32) (lev tm : Nat) (gn : Int32) (nL nC nE : Nat) (L B C F : Nat → Nat → Int32) (ys ao : Nat → Int32) (k : Nat) (hk : k < nE) (hE9 : nE ≤ 48) (u : Int32) (hno : inB u 0 3 = false)  : ∀ sz : Nat, zMi l yX4_event wsX4_event ({ frames := 1, cells := 0, slots := 0, locals := 22 } : Room) D cI cZ cJ (wM cI cZ h cd lev tm gn nL nC nE L B C F ys ao) sz [.ref (h 0), .int (nI k), .int u] (fun r w' => r = 0 ∧ w' = wM cI cZ h 2 lev tm gn nL nC nE L B C F ys ao) := by
  intro sz
  refine z_head (y := yX4_event) (av := [.ref (h 0), .int (nI k), .int u]) (w := (wM cI cZ h cd lev tm gn nL nC nE L B C F ys ao)) (Qc := fun A => zQi D (wM cI cZ h cd lev tm gn nL nC nE L B C F ys ao) (fun r w' => r = 0 ∧ w' = wM cI cZ h 2 lev tm gn nL nC nE L B C F ys ao) A) (cc := cX4_event) (maxL := 3) (ret := (some .int)) (by decide) rfl (Nat.le_of_ble_eq_true rfl) ?_
  intro p e s m below meth c ls A hat hP hD hS hl
  obtain ⟨hx, hb, hr, hml, hlocks, hts, hown, hin, hK, hE, hA⟩ := hat
  have hP : va_P D vwCl (wM cI cZ h cd lev tm gn nL nC nE L B C F ys ao) s.heap := hP
  have hD : va_D A (wM cI cZ h cd lev tm gn nL nC nE L B C F ys ao) := hD
  have hl : lv_has ls 3 [(0, .ref (h 0)), (1, .int (nI k)), (2, .int u)] := hl
  have h1 : inB (nI k) 0 (nI nE - 1) = true := inB_ok hk (by omega)
  refine lv_aload_n hx hb dX4_event_0 rfl (lv_at hl 0 rfl) ?_
  refine lv_iload_n hx hb dX4_event_1 rfl (lv_at hl 1 rfl) ?_
  refine lv_iconst (v := 0) hx hb dX4_event_2 (by decide) ?_
  refine lv_aload_n hx hb dX4_event_3 rfl (lv_at hl 0 rfl) ?_
  refine va_get (D := D) (ci := 5) (v := .int (nI nE)) (C := RX4) (T := TX4) (N := 28) hx hb hts kX4_event_inX4 hown hK hP 0 rfl rfl 22 (by decide) (hts _ kX4_event_f109) (fun _ h9 => h9) rfl dX4_event_4 ?_
  refine lv_iconst (v := 1) hx hb dX4_event_7 (by decide) ?_
  refine lv_isub (x := nI nE) (y := 1) hx hb dX4_event_8 ?_
  refine z_backi (z_runS (n := 3) (As := [.int (nI k), .int 0, .int ((nI nE) - 1)]) (rest := [.ref (h 0)]) hx hb hml hown hts hK hE hP hD [] rfl (by decide) (tX4_in l D cI cZ cJ (nI k) 0 ((nI nE) - 1) _) gX4_event_X4_in rfl rfl rfl (by decide +kernel) ⟨Nat.le_of_ble_eq_true rfl, Nat.le_of_ble_eq_true rfl⟩ rfl hl.1 rfl (Nat.le_of_ble_eq_true rfl) dX4_event_9 ⟨Nat.zero_le _, Nat.zero_le _⟩) hP hD hS hA [] rfl (fun r1 w1 H locs hp1 hP hD hS => ?_)
  obtain ⟨rfl, rfl⟩ := hp1
  have hP : va_P D vwCl (wM cI cZ h cd lev tm gn nL nC nE L B C F ys ao) H := hP
  have hD : va_D A (wM cI cZ h cd lev tm gn nL nC nE L B C F ys ao) := hD
  refine zb_ne (b := (inB (nI k) 0 ((nI nE) - 1))) (tgt := 19) hx hb dX4_event_12 (by decide) (fun c12 => ?_) (fun c12 => ?_)
  · skip
    refine lv_iload_n hx hb dX4_event_19 rfl (lv_at hl 2 rfl) ?_
    refine lv_iconst (v := 0) hx hb dX4_event_20 (by decide) ?_
    refine lv_iconst (v := 3) hx hb dX4_event_21 (by decide) ?_
    refine z_backi (z_runS (n := 3) (As := [.int u, .int 0, .int 3]) (rest := [.ref (h 0)]) hx hb hml hown hts hK hE hP hD [] rfl (by decide) (tX4_in l D cI cZ cJ u 0 3 _) gX4_event_X4_in rfl rfl rfl (by decide +kernel) ⟨Nat.le_of_ble_eq_true rfl, Nat.le_of_ble_eq_true rfl⟩ rfl hl.1 rfl (Nat.le_of_ble_eq_true rfl) dX4_event_22 ⟨Nat.zero_le _, Nat.zero_le _⟩) hP hD hS hA [] rfl (fun r2 w1 H locs hp2 hP hD hS => ?_)
    obtain ⟨rfl, rfl⟩ := hp2
    have hP : va_P D vwCl (wM cI cZ h cd lev tm gn nL nC nE L B C F ys ao) H := hP
    have hD : va_D A (wM cI cZ h cd lev tm gn nL nC nE L B C F ys ao) := hD
    refine zb_ne (b := (inB u 0 3)) (tgt := 32) hx hb dX4_event_25 (by decide) (fun c25 => ?_) (fun c25 => ?_)
    · exact absurd (hno.symm.trans c25) (by decide)
    · skip
      refine lv_iconst (v := 2) hx hb dX4_event_28 (by decide) ?_
      refine lv_goto (tgt := 33) hx hb dX4_event_29 (by decide) ?_
      refine va_put (D := D) (ci := 5) (v := .int 2) (ty := .int) (C := RX4) (T := TX4) (N := 28) hx hb hts kX4_event_inX4 tyX4 tyX4_ok nmX4 hown hK hP hD hS 0 rfl rfl 0 (by decide) (hts _ kX4_event_f78) (fun _ h9 => h9) rfl (by decide +kernel) rfl rfl (Nat.le_of_ble_eq_true rfl) dX4_event_33 (fun H locs hP hD hS => ?_)
      have hP : va_P D vwCl (wM cI cZ h 2 lev tm gn nL nC nE L B C F ys ao) H := hP
      have hD : va_D A (wM cI cZ h 2 lev tm gn nL nC nE L B C F ys ao) := hD
      refine lv_aload_n hx hb dX4_event_36 rfl (lv_at hl 0 rfl) ?_
      refine va_get (D := D) (ci := 5) (v := .int 2) (C := RX4) (T := TX4) (N := 28) hx hb hts kX4_event_inX4 hown hK hP 0 rfl rfl 0 (by decide) (hts _ kX4_event_f78) (fun _ h9 => h9) rfl dX4_event_37 ?_
      refine lv_if_le (x := 2) (tgt := 45) hx hb dX4_event_40 (by decide) (fun c40 => ?_) (fun c40 => ?_)
      · exact absurd c40 (by decide)
      · skip
        refine lv_iconst (v := 0) hx hb dX4_event_43 (by decide) ?_
        exact z_iret hx hb hr hlocks hS hP rfl dX4_event_44 (⟨rfl, rfl⟩)
  · exact absurd (h1.symm.trans c12) (by decide)

theorem kX4_event_f65 : Cond.fieldLink RX4 65 "LiftRows2Model" "eventKind" "[I" ∈ wsX4_event := by decide +kernel
theorem kX4_event_f62 : Cond.fieldLink RX4 62 "LiftRows2Model" "eventCall" "[I" ∈ wsX4_event := by decide +kernel
theorem kX4_event_f47 : Cond.fieldLink RX4 47 "LiftRows2Model" "liftOf" "[I" ∈ wsX4_event := by decide +kernel
theorem kX4_event_f59 : Cond.fieldLink RX4 59 "LiftRows2Model" "eventTime" "[I" ∈ wsX4_event := by decide +kernel
set_option maxHeartbeats 4000000 in
set_option maxRecDepth 100000 in
theorem tX4_event_ok (l : Launch) (D : va_G) (cI cZ cJ : ClassId) (h : Nat → Nat) (cd : Int32) (lev tm : Nat) (gn : Int32) (nL nC nE : Nat) (L B C F : Nat → Nat → Int32) (ys ao : Nat → Int32) (k : Nat) (hk : k < nE) (hE9 : nE ≤ 48) (u : Int32) (h2 : inB u 0 3 = true) (j : Nat) (hj : F 2 k = nI j) (hj4 : j < 24)  : ∀ sz : Nat, zMi l yX4_event wsX4_event ({ frames := 1, cells := 0, slots := 0, locals := 22 } : Room) D cI cZ cJ (wM cI cZ h cd lev tm gn nL nC nE L B C F ys ao) sz [.ref (h 0), .int (nI k), .int u] (fun r w' => r = evI C F k j u ∧ w' = wM cI cZ h 0 lev tm gn nL nC nE L B C F ys ao) := by
  intro sz
  refine z_head (y := yX4_event) (av := [.ref (h 0), .int (nI k), .int u]) (w := (wM cI cZ h cd lev tm gn nL nC nE L B C F ys ao)) (Qc := fun A => zQi D (wM cI cZ h cd lev tm gn nL nC nE L B C F ys ao) (fun r w' => r = evI C F k j u ∧ w' = wM cI cZ h 0 lev tm gn nL nC nE L B C F ys ao) A) (cc := cX4_event) (maxL := 3) (ret := (some .int)) (by decide) rfl (Nat.le_of_ble_eq_true rfl) ?_
  intro p e s m below meth c ls A hat hP hD hS hl
  obtain ⟨hx, hb, hr, hml, hlocks, hts, hown, hin, hK, hE, hA⟩ := hat
  have hP : va_P D vwCl (wM cI cZ h cd lev tm gn nL nC nE L B C F ys ao) s.heap := hP
  have hD : va_D A (wM cI cZ h cd lev tm gn nL nC nE L B C F ys ao) := hD
  have hl : lv_has ls 3 [(0, .ref (h 0)), (1, .int (nI k)), (2, .int u)] := hl
  have h1 : inB (nI k) 0 (nI nE - 1) = true := inB_ok hk (by omega)
  refine lv_aload_n hx hb dX4_event_0 rfl (lv_at hl 0 rfl) ?_
  refine lv_iload_n hx hb dX4_event_1 rfl (lv_at hl 1 rfl) ?_
  refine lv_iconst (v := 0) hx hb dX4_event_2 (by decide) ?_
  refine lv_aload_n hx hb dX4_event_3 rfl (lv_at hl 0 rfl) ?_
  refine va_get (D := D) (ci := 5) (v := .int (nI nE)) (C := RX4) (T := TX4) (N := 28) hx hb hts kX4_event_inX4 hown hK hP 0 rfl rfl 22 (by decide) (hts _ kX4_event_f109) (fun _ h9 => h9) rfl dX4_event_4 ?_
  refine lv_iconst (v := 1) hx hb dX4_event_7 (by decide) ?_
  refine lv_isub (x := nI nE) (y := 1) hx hb dX4_event_8 ?_
  refine z_backi (z_runS (n := 3) (As := [.int (nI k), .int 0, .int ((nI nE) - 1)]) (rest := [.ref (h 0)]) hx hb hml hown hts hK hE hP hD [] rfl (by decide) (tX4_in l D cI cZ cJ (nI k) 0 ((nI nE) - 1) _) gX4_event_X4_in rfl rfl rfl (by decide +kernel) ⟨Nat.le_of_ble_eq_true rfl, Nat.le_of_ble_eq_true rfl⟩ rfl hl.1 rfl (Nat.le_of_ble_eq_true rfl) dX4_event_9 ⟨Nat.zero_le _, Nat.zero_le _⟩) hP hD hS hA [] rfl (fun r1 w1 H locs hp1 hP hD hS => ?_)
  obtain ⟨rfl, rfl⟩ := hp1
  have hP : va_P D vwCl (wM cI cZ h cd lev tm gn nL nC nE L B C F ys ao) H := hP
  have hD : va_D A (wM cI cZ h cd lev tm gn nL nC nE L B C F ys ao) := hD
  refine zb_ne (b := (inB (nI k) 0 ((nI nE) - 1))) (tgt := 19) hx hb dX4_event_12 (by decide) (fun c12 => ?_) (fun c12 => ?_)
  · skip
    refine lv_iload_n hx hb dX4_event_19 rfl (lv_at hl 2 rfl) ?_
    refine lv_iconst (v := 0) hx hb dX4_event_20 (by decide) ?_
    refine lv_iconst (v := 3) hx hb dX4_event_21 (by decide) ?_
    refine z_backi (z_runS (n := 3) (As := [.int u, .int 0, .int 3]) (rest := [.ref (h 0)]) hx hb hml hown hts hK hE hP hD [] rfl (by decide) (tX4_in l D cI cZ cJ u 0 3 _) gX4_event_X4_in rfl rfl rfl (by decide +kernel) ⟨Nat.le_of_ble_eq_true rfl, Nat.le_of_ble_eq_true rfl⟩ rfl hl.1 rfl (Nat.le_of_ble_eq_true rfl) dX4_event_22 ⟨Nat.zero_le _, Nat.zero_le _⟩) hP hD hS hA [] rfl (fun r2 w1 H locs hp2 hP hD hS => ?_)
    obtain ⟨rfl, rfl⟩ := hp2
    have hP : va_P D vwCl (wM cI cZ h cd lev tm gn nL nC nE L B C F ys ao) H := hP
    have hD : va_D A (wM cI cZ h cd lev tm gn nL nC nE L B C F ys ao) := hD
    refine zb_ne (b := (inB u 0 3)) (tgt := 32) hx hb dX4_event_25 (by decide) (fun c25 => ?_) (fun c25 => ?_)
    · skip
      refine lv_iconst (v := 0) hx hb dX4_event_32 (by decide) ?_
      refine va_put (D := D) (ci := 5) (v := .int 0) (ty := .int) (C := RX4) (T := TX4) (N := 28) hx hb hts kX4_event_inX4 tyX4 tyX4_ok nmX4 hown hK hP hD hS 0 rfl rfl 0 (by decide) (hts _ kX4_event_f78) (fun _ h9 => h9) rfl (by decide +kernel) rfl rfl (Nat.le_of_ble_eq_true rfl) dX4_event_33 (fun H locs hP hD hS => ?_)
      have hP : va_P D vwCl (wM cI cZ h 0 lev tm gn nL nC nE L B C F ys ao) H := hP
      have hD : va_D A (wM cI cZ h 0 lev tm gn nL nC nE L B C F ys ao) := hD
      refine lv_aload_n hx hb dX4_event_36 rfl (lv_at hl 0 rfl) ?_
      refine va_get (D := D) (ci := 5) (v := .int 0) (C := RX4) (T := TX4) (N := 28) hx hb hts kX4_event_inX4 hown hK hP 0 rfl rfl 0 (by decide) (hts _ kX4_event_f78) (fun _ h9 => h9) rfl dX4_event_37 ?_
      refine lv_if_le (x := 0) (tgt := 45) hx hb dX4_event_40 (by decide) (fun c40 => ?_) (fun c40 => ?_)
      · skip
        refine lv_iload_n hx hb dX4_event_45 rfl (lv_at hl 2 rfl) ?_
        refine lv_if_ne (x := u) (tgt := 58) hx hb dX4_event_46 (by decide) (fun c46 => ?_) (fun c46 => ?_)
        · skip
          refine lv_iload_n hx hb dX4_event_58 rfl (lv_at hl 2 rfl) ?_
          refine lv_iconst (v := 1) hx hb dX4_event_59 (by decide) ?_
          refine lv_icmp_ne (x := u) (y := 1) (tgt := 77) hx hb dX4_event_60 (by decide) (fun c60 => ?_) (fun c60 => ?_)
          · skip
            refine lv_iload_n hx hb dX4_event_77 rfl (lv_at hl 2 rfl) ?_
            refine lv_iconst (v := 2) hx hb dX4_event_78 (by decide) ?_
            refine lv_icmp_ne (x := u) (y := 2) (tgt := 91) hx hb dX4_event_79 (by decide) (fun c79 => ?_) (fun c79 => ?_)
            · skip
              refine lv_aload_n hx hb dX4_event_91 rfl (lv_at hl 0 rfl) ?_
              refine va_get (D := D) (ci := 5) (v := .ref (h 19)) (C := RX4) (T := TX4) (N := 28) hx hb hts kX4_event_inX4 hown hK hP 0 rfl rfl 25 (by decide) (hts _ kX4_event_f65) (fun _ h9 => h9) rfl dX4_event_92 ?_
              refine lv_iload_n hx hb dX4_event_95 rfl (lv_at hl 1 rfl) ?_
              refine z_iald (k := k) (v := F 3 k) hx hb hK hP 19 rfl (by decide) (by omega) (rfl) dX4_event_96 ?_
              exact z_iret hx hb hr hlocks hS hP rfl dX4_event_97 (⟨by simp [evI, c12, c25, c40, c46, c60, c79], rfl⟩)
            · skip
              refine lv_aload_n hx hb dX4_event_82 rfl (lv_at hl 0 rfl) ?_
              refine va_get (D := D) (ci := 5) (v := .ref (h 18)) (C := RX4) (T := TX4) (N := 28) hx hb hts kX4_event_inX4 hown hK hP 0 rfl rfl 24 (by decide) (hts _ kX4_event_f62) (fun _ h9 => h9) rfl dX4_event_83 ?_
              refine lv_iload_n hx hb dX4_event_86 rfl (lv_at hl 1 rfl) ?_
              refine z_iald (k := k) (v := F 2 k) hx hb hK hP 18 rfl (by decide) (by omega) (rfl) dX4_event_87 ?_
              refine lv_goto (tgt := 97) hx hb dX4_event_88 (by decide) ?_
              exact z_iret hx hb hr hlocks hS hP rfl dX4_event_97 (⟨by simp [evI, c12, c25, c40, c46, c60, c79], rfl⟩)
          · skip
            refine lv_aload_n hx hb dX4_event_63 rfl (lv_at hl 0 rfl) ?_
            refine va_get (D := D) (ci := 5) (v := .ref (h 13)) (C := RX4) (T := TX4) (N := 28) hx hb hts kX4_event_inX4 hown hK hP 0 rfl rfl 18 (by decide) (hts _ kX4_event_f47) (fun _ h9 => h9) rfl dX4_event_64 ?_
            refine lv_aload_n hx hb dX4_event_67 rfl (lv_at hl 0 rfl) ?_
            refine va_get (D := D) (ci := 5) (v := .ref (h 18)) (C := RX4) (T := TX4) (N := 28) hx hb hts kX4_event_inX4 hown hK hP 0 rfl rfl 24 (by decide) (hts _ kX4_event_f62) (fun _ h9 => h9) rfl dX4_event_68 ?_
            refine lv_iload_n hx hb dX4_event_71 rfl (lv_at hl 1 rfl) ?_
            refine z_iald (k := k) (v := F 2 k) hx hb hK hP 18 rfl (by decide) (by omega) (rfl) dX4_event_72 ?_
            rw [hj]
            refine z_iald (k := j) (v := C 5 j) hx hb hK hP 13 rfl (by decide) (by omega) (rfl) dX4_event_73 ?_
            refine lv_goto (tgt := 97) hx hb dX4_event_74 (by decide) ?_
            exact z_iret hx hb hr hlocks hS hP rfl dX4_event_97 (⟨by simp [evI, c12, c25, c40, c46, c60], rfl⟩)
        · skip
          refine lv_aload_n hx hb dX4_event_49 rfl (lv_at hl 0 rfl) ?_
          refine va_get (D := D) (ci := 5) (v := .ref (h 17)) (C := RX4) (T := TX4) (N := 28) hx hb hts kX4_event_inX4 hown hK hP 0 rfl rfl 23 (by decide) (hts _ kX4_event_f59) (fun _ h9 => h9) rfl dX4_event_50 ?_
          refine lv_iload_n hx hb dX4_event_53 rfl (lv_at hl 1 rfl) ?_
          refine z_iald (k := k) (v := F 0 k) hx hb hK hP 17 rfl (by decide) (by omega) (rfl) dX4_event_54 ?_
          refine lv_goto (tgt := 97) hx hb dX4_event_55 (by decide) ?_
          exact z_iret hx hb hr hlocks hS hP rfl dX4_event_97 (⟨by simp [evI, c12, c25, c40, c46], rfl⟩)
      · exact absurd c40 (by decide)
    · exact absurd (h2.symm.trans c25) (by decide)
  · exact absurd (h1.symm.trans c12) (by decide)

theorem kX4_level_f78 : Cond.fieldLink RX4 78 "LiftRows2Model" "code" "I" ∈ wsX4_level := by decide +kernel
theorem kX4_level_inX4 : ∀ w ∈ wsX40, w ∈ wsX4_level := by decide +kernel
set_option maxHeartbeats 4000000 in
set_option maxRecDepth 100000 in
theorem tX4_level_n2 (l : Launch) (D : va_G) (cI cZ cJ : ClassId) (h : Nat → Nat) (cd : Int32) (lev tm : Nat) (gn : Int32) (nL nC nE : Nat) (L B C F : Nat → Nat → Int32) (ys ao : Nat → Int32) (v : Int32) (hno : inB v 0 3 = false)  : ∀ sz : Nat, zMi l yX4_level wsX4_level ({ frames := 1, cells := 0, slots := 0, locals := 22 } : Room) D cI cZ cJ (wM cI cZ h cd lev tm gn nL nC nE L B C F ys ao) sz [.ref (h 0), .int v] (fun r w' => r = 0 ∧ w' = wM cI cZ h 2 lev tm gn nL nC nE L B C F ys ao) := by
  intro sz
  refine z_head (y := yX4_level) (av := [.ref (h 0), .int v]) (w := (wM cI cZ h cd lev tm gn nL nC nE L B C F ys ao)) (Qc := fun A => zQi D (wM cI cZ h cd lev tm gn nL nC nE L B C F ys ao) (fun r w' => r = 0 ∧ w' = wM cI cZ h 2 lev tm gn nL nC nE L B C F ys ao) A) (cc := cX4_level) (maxL := 2) (ret := (some .int)) (by decide) rfl (Nat.le_of_ble_eq_true rfl) ?_
  intro p e s m below meth c ls A hat hP hD hS hl
  obtain ⟨hx, hb, hr, hml, hlocks, hts, hown, hin, hK, hE, hA⟩ := hat
  have hP : va_P D vwCl (wM cI cZ h cd lev tm gn nL nC nE L B C F ys ao) s.heap := hP
  have hD : va_D A (wM cI cZ h cd lev tm gn nL nC nE L B C F ys ao) := hD
  have hl : lv_has ls 2 [(0, .ref (h 0)), (1, .int v)] := hl
  refine lv_aload_n hx hb dX4_level_0 rfl (lv_at hl 0 rfl) ?_
  refine lv_iload_n hx hb dX4_level_1 rfl (lv_at hl 1 rfl) ?_
  refine lv_iconst (v := 0) hx hb dX4_level_2 (by decide) ?_
  refine lv_iconst (v := 3) hx hb dX4_level_3 (by decide) ?_
  refine z_backi (z_runS (n := 3) (As := [.int v, .int 0, .int 3]) (rest := [.ref (h 0)]) hx hb hml hown hts hK hE hP hD [] rfl (by decide) (tX4_in l D cI cZ cJ v 0 3 _) gX4_level_X4_in rfl rfl rfl (by decide +kernel) ⟨Nat.le_of_ble_eq_true rfl, Nat.le_of_ble_eq_true rfl⟩ rfl hl.1 rfl (Nat.le_of_ble_eq_true rfl) dX4_level_4 ⟨Nat.zero_le _, Nat.zero_le _⟩) hP hD hS hA [] rfl (fun r1 w1 H locs hp1 hP hD hS => ?_)
  obtain ⟨rfl, rfl⟩ := hp1
  have hP : va_P D vwCl (wM cI cZ h cd lev tm gn nL nC nE L B C F ys ao) H := hP
  have hD : va_D A (wM cI cZ h cd lev tm gn nL nC nE L B C F ys ao) := hD
  refine zb_ne (b := (inB v 0 3)) (tgt := 14) hx hb dX4_level_7 (by decide) (fun c7 => ?_) (fun c7 => ?_)
  · exact absurd (hno.symm.trans c7) (by decide)
  · skip
    refine lv_iconst (v := 2) hx hb dX4_level_10 (by decide) ?_
    refine lv_goto (tgt := 27) hx hb dX4_level_11 (by decide) ?_
    refine va_put (D := D) (ci := 5) (v := .int 2) (ty := .int) (C := RX4) (T := TX4) (N := 28) hx hb hts kX4_level_inX4 tyX4 tyX4_ok nmX4 hown hK hP hD hS 0 rfl rfl 0 (by decide) (hts _ kX4_level_f78) (fun _ h9 => h9) rfl (by decide +kernel) rfl rfl (Nat.le_of_ble_eq_true rfl) dX4_level_27 (fun H locs hP hD hS => ?_)
    have hP : va_P D vwCl (wM cI cZ h 2 lev tm gn nL nC nE L B C F ys ao) H := hP
    have hD : va_D A (wM cI cZ h 2 lev tm gn nL nC nE L B C F ys ao) := hD
    refine lv_aload_n hx hb dX4_level_30 rfl (lv_at hl 0 rfl) ?_
    refine va_get (D := D) (ci := 5) (v := .int 2) (C := RX4) (T := TX4) (N := 28) hx hb hts kX4_level_inX4 hown hK hP 0 rfl rfl 0 (by decide) (hts _ kX4_level_f78) (fun _ h9 => h9) rfl dX4_level_31 ?_
    refine lv_if_le (x := 2) (tgt := 41) hx hb dX4_level_34 (by decide) (fun c34 => ?_) (fun c34 => ?_)
    · exact absurd c34 (by decide)
    · skip
      refine lv_iconst (v := 0) hx hb dX4_level_37 (by decide) ?_
      refine lv_goto (tgt := 47) hx hb dX4_level_38 (by decide) ?_
      exact z_iret hx hb hr hlocks hS hP rfl dX4_level_47 (⟨rfl, rfl⟩)

theorem kX4_level_f85 : Cond.fieldLink RX4 85 "LiftRows2Model" "lifts" "I" ∈ wsX4_level := by decide +kernel
set_option maxHeartbeats 4000000 in
set_option maxRecDepth 100000 in
theorem tX4_level_n1 (l : Launch) (D : va_G) (cI cZ cJ : ClassId) (h : Nat → Nat) (cd : Int32) (lev tm : Nat) (gn : Int32) (nL nC nE : Nat) (L B C F : Nat → Nat → Int32) (ys ao : Nat → Int32) (k : Nat) (hk : k < 4) (hk2 : nL ≤ k)  : ∀ sz : Nat, zMi l yX4_level wsX4_level ({ frames := 1, cells := 0, slots := 0, locals := 22 } : Room) D cI cZ cJ (wM cI cZ h cd lev tm gn nL nC nE L B C F ys ao) sz [.ref (h 0), .int (nI k)] (fun r w' => r = 0 ∧ w' = wM cI cZ h 1 lev tm gn nL nC nE L B C F ys ao) := by
  intro sz
  refine z_head (y := yX4_level) (av := [.ref (h 0), .int (nI k)]) (w := (wM cI cZ h cd lev tm gn nL nC nE L B C F ys ao)) (Qc := fun A => zQi D (wM cI cZ h cd lev tm gn nL nC nE L B C F ys ao) (fun r w' => r = 0 ∧ w' = wM cI cZ h 1 lev tm gn nL nC nE L B C F ys ao) A) (cc := cX4_level) (maxL := 2) (ret := (some .int)) (by decide) rfl (Nat.le_of_ble_eq_true rfl) ?_
  intro p e s m below meth c ls A hat hP hD hS hl
  obtain ⟨hx, hb, hr, hml, hlocks, hts, hown, hin, hK, hE, hA⟩ := hat
  have hP : va_P D vwCl (wM cI cZ h cd lev tm gn nL nC nE L B C F ys ao) s.heap := hP
  have hD : va_D A (wM cI cZ h cd lev tm gn nL nC nE L B C F ys ao) := hD
  have hl : lv_has ls 2 [(0, .ref (h 0)), (1, .int (nI k))] := hl
  have h1 : inB (nI k) 0 3 = true := inB_ok (n := 4) (by omega) (by omega)
  refine lv_aload_n hx hb dX4_level_0 rfl (lv_at hl 0 rfl) ?_
  refine lv_iload_n hx hb dX4_level_1 rfl (lv_at hl 1 rfl) ?_
  refine lv_iconst (v := 0) hx hb dX4_level_2 (by decide) ?_
  refine lv_iconst (v := 3) hx hb dX4_level_3 (by decide) ?_
  refine z_backi (z_runS (n := 3) (As := [.int (nI k), .int 0, .int 3]) (rest := [.ref (h 0)]) hx hb hml hown hts hK hE hP hD [] rfl (by decide) (tX4_in l D cI cZ cJ (nI k) 0 3 _) gX4_level_X4_in rfl rfl rfl (by decide +kernel) ⟨Nat.le_of_ble_eq_true rfl, Nat.le_of_ble_eq_true rfl⟩ rfl hl.1 rfl (Nat.le_of_ble_eq_true rfl) dX4_level_4 ⟨Nat.zero_le _, Nat.zero_le _⟩) hP hD hS hA [] rfl (fun r1 w1 H locs hp1 hP hD hS => ?_)
  obtain ⟨rfl, rfl⟩ := hp1
  have hP : va_P D vwCl (wM cI cZ h cd lev tm gn nL nC nE L B C F ys ao) H := hP
  have hD : va_D A (wM cI cZ h cd lev tm gn nL nC nE L B C F ys ao) := hD
  refine zb_ne (b := (inB (nI k) 0 3)) (tgt := 14) hx hb dX4_level_7 (by decide) (fun c7 => ?_) (fun c7 => ?_)
  · skip
    refine lv_iload_n hx hb dX4_level_14 rfl (lv_at hl 1 rfl) ?_
    refine lv_aload_n hx hb dX4_level_15 rfl (lv_at hl 0 rfl) ?_
    refine va_get (D := D) (ci := 5) (v := .int (nI nL)) (C := RX4) (T := TX4) (N := 28) hx hb hts kX4_level_inX4 hown hK hP 0 rfl rfl 4 (by decide) (hts _ kX4_level_f85) (fun _ h9 => h9) rfl dX4_level_16 ?_
    refine zn_lt (i := k) (j := nL) (tgt := 26) hx hb (by omega) (by omega) dX4_level_19 (by decide) (fun c19 => ?_) (fun c19 => ?_)
    · exact absurd c19 (by omega)
    · skip
      refine lv_iconst (v := 1) hx hb dX4_level_22 (by decide) ?_
      refine lv_goto (tgt := 27) hx hb dX4_level_23 (by decide) ?_
      refine va_put (D := D) (ci := 5) (v := .int 1) (ty := .int) (C := RX4) (T := TX4) (N := 28) hx hb hts kX4_level_inX4 tyX4 tyX4_ok nmX4 hown hK hP hD hS 0 rfl rfl 0 (by decide) (hts _ kX4_level_f78) (fun _ h9 => h9) rfl (by decide +kernel) rfl rfl (Nat.le_of_ble_eq_true rfl) dX4_level_27 (fun H locs hP hD hS => ?_)
      have hP : va_P D vwCl (wM cI cZ h 1 lev tm gn nL nC nE L B C F ys ao) H := hP
      have hD : va_D A (wM cI cZ h 1 lev tm gn nL nC nE L B C F ys ao) := hD
      refine lv_aload_n hx hb dX4_level_30 rfl (lv_at hl 0 rfl) ?_
      refine va_get (D := D) (ci := 5) (v := .int 1) (C := RX4) (T := TX4) (N := 28) hx hb hts kX4_level_inX4 hown hK hP 0 rfl rfl 0 (by decide) (hts _ kX4_level_f78) (fun _ h9 => h9) rfl dX4_level_31 ?_
      refine lv_if_le (x := 1) (tgt := 41) hx hb dX4_level_34 (by decide) (fun c34 => ?_) (fun c34 => ?_)
      · exact absurd c34 (by decide)
      · skip
        refine lv_iconst (v := 0) hx hb dX4_level_37 (by decide) ?_
        refine lv_goto (tgt := 47) hx hb dX4_level_38 (by decide) ?_
        exact z_iret hx hb hr hlocks hS hP rfl dX4_level_47 (⟨rfl, rfl⟩)
  · exact absurd (h1.symm.trans c7) (by decide)

theorem kX4_level_f7 : Cond.fieldLink RX4 7 "LiftRows2Model" "at" "[I" ∈ wsX4_level := by decide +kernel
set_option maxHeartbeats 4000000 in
set_option maxRecDepth 100000 in
theorem tX4_level_ok (l : Launch) (D : va_G) (cI cZ cJ : ClassId) (h : Nat → Nat) (cd : Int32) (lev tm : Nat) (gn : Int32) (nL nC nE : Nat) (L B C F : Nat → Nat → Int32) (ys ao : Nat → Int32) (k : Nat) (hk : k < nL) (hL : nL ≤ 4)  : ∀ sz : Nat, zMi l yX4_level wsX4_level ({ frames := 1, cells := 0, slots := 0, locals := 22 } : Room) D cI cZ cJ (wM cI cZ h cd lev tm gn nL nC nE L B C F ys ao) sz [.ref (h 0), .int (nI k)] (fun r w' => r = L 0 k ∧ w' = wM cI cZ h 0 lev tm gn nL nC nE L B C F ys ao) := by
  intro sz
  refine z_head (y := yX4_level) (av := [.ref (h 0), .int (nI k)]) (w := (wM cI cZ h cd lev tm gn nL nC nE L B C F ys ao)) (Qc := fun A => zQi D (wM cI cZ h cd lev tm gn nL nC nE L B C F ys ao) (fun r w' => r = L 0 k ∧ w' = wM cI cZ h 0 lev tm gn nL nC nE L B C F ys ao) A) (cc := cX4_level) (maxL := 2) (ret := (some .int)) (by decide) rfl (Nat.le_of_ble_eq_true rfl) ?_
  intro p e s m below meth c ls A hat hP hD hS hl
  obtain ⟨hx, hb, hr, hml, hlocks, hts, hown, hin, hK, hE, hA⟩ := hat
  have hP : va_P D vwCl (wM cI cZ h cd lev tm gn nL nC nE L B C F ys ao) s.heap := hP
  have hD : va_D A (wM cI cZ h cd lev tm gn nL nC nE L B C F ys ao) := hD
  have hl : lv_has ls 2 [(0, .ref (h 0)), (1, .int (nI k))] := hl
  have h1 : inB (nI k) 0 3 = true := inB_ok (n := 4) (by omega) (by omega)
  refine lv_aload_n hx hb dX4_level_0 rfl (lv_at hl 0 rfl) ?_
  refine lv_iload_n hx hb dX4_level_1 rfl (lv_at hl 1 rfl) ?_
  refine lv_iconst (v := 0) hx hb dX4_level_2 (by decide) ?_
  refine lv_iconst (v := 3) hx hb dX4_level_3 (by decide) ?_
  refine z_backi (z_runS (n := 3) (As := [.int (nI k), .int 0, .int 3]) (rest := [.ref (h 0)]) hx hb hml hown hts hK hE hP hD [] rfl (by decide) (tX4_in l D cI cZ cJ (nI k) 0 3 _) gX4_level_X4_in rfl rfl rfl (by decide +kernel) ⟨Nat.le_of_ble_eq_true rfl, Nat.le_of_ble_eq_true rfl⟩ rfl hl.1 rfl (Nat.le_of_ble_eq_true rfl) dX4_level_4 ⟨Nat.zero_le _, Nat.zero_le _⟩) hP hD hS hA [] rfl (fun r1 w1 H locs hp1 hP hD hS => ?_)
  obtain ⟨rfl, rfl⟩ := hp1
  have hP : va_P D vwCl (wM cI cZ h cd lev tm gn nL nC nE L B C F ys ao) H := hP
  have hD : va_D A (wM cI cZ h cd lev tm gn nL nC nE L B C F ys ao) := hD
  refine zb_ne (b := (inB (nI k) 0 3)) (tgt := 14) hx hb dX4_level_7 (by decide) (fun c7 => ?_) (fun c7 => ?_)
  · skip
    refine lv_iload_n hx hb dX4_level_14 rfl (lv_at hl 1 rfl) ?_
    refine lv_aload_n hx hb dX4_level_15 rfl (lv_at hl 0 rfl) ?_
    refine va_get (D := D) (ci := 5) (v := .int (nI nL)) (C := RX4) (T := TX4) (N := 28) hx hb hts kX4_level_inX4 hown hK hP 0 rfl rfl 4 (by decide) (hts _ kX4_level_f85) (fun _ h9 => h9) rfl dX4_level_16 ?_
    refine zn_lt (i := k) (j := nL) (tgt := 26) hx hb (by omega) (by omega) dX4_level_19 (by decide) (fun c19 => ?_) (fun c19 => ?_)
    · skip
      refine lv_iconst (v := 0) hx hb dX4_level_26 (by decide) ?_
      refine va_put (D := D) (ci := 5) (v := .int 0) (ty := .int) (C := RX4) (T := TX4) (N := 28) hx hb hts kX4_level_inX4 tyX4 tyX4_ok nmX4 hown hK hP hD hS 0 rfl rfl 0 (by decide) (hts _ kX4_level_f78) (fun _ h9 => h9) rfl (by decide +kernel) rfl rfl (Nat.le_of_ble_eq_true rfl) dX4_level_27 (fun H locs hP hD hS => ?_)
      have hP : va_P D vwCl (wM cI cZ h 0 lev tm gn nL nC nE L B C F ys ao) H := hP
      have hD : va_D A (wM cI cZ h 0 lev tm gn nL nC nE L B C F ys ao) := hD
      refine lv_aload_n hx hb dX4_level_30 rfl (lv_at hl 0 rfl) ?_
      refine va_get (D := D) (ci := 5) (v := .int 0) (C := RX4) (T := TX4) (N := 28) hx hb hts kX4_level_inX4 hown hK hP 0 rfl rfl 0 (by decide) (hts _ kX4_level_f78) (fun _ h9 => h9) rfl dX4_level_31 ?_
      refine lv_if_le (x := 0) (tgt := 41) hx hb dX4_level_34 (by decide) (fun c34 => ?_) (fun c34 => ?_)
      · skip
        refine lv_aload_n hx hb dX4_level_41 rfl (lv_at hl 0 rfl) ?_
        refine va_get (D := D) (ci := 5) (v := .ref (h 1)) (C := RX4) (T := TX4) (N := 28) hx hb hts kX4_level_inX4 hown hK hP 0 rfl rfl 5 (by decide) (hts _ kX4_level_f7) (fun _ h9 => h9) rfl dX4_level_42 ?_
        refine lv_iload_n hx hb dX4_level_45 rfl (lv_at hl 1 rfl) ?_
        refine z_iald (k := k) (v := L 0 k) hx hb hK hP 1 rfl (by decide) (by omega) (rfl) dX4_level_46 ?_
        exact z_iret hx hb hr hlocks hS hP rfl dX4_level_47 (⟨rfl, rfl⟩)
      · exact absurd c34 (by decide)
    · exact absurd c19 (by omega)
  · exact absurd (h1.symm.trans c7) (by decide)

theorem kX4_told_f78 : Cond.fieldLink RX4 78 "LiftRows2Model" "code" "I" ∈ wsX4_told := by decide +kernel
theorem kX4_told_inX4 : ∀ w ∈ wsX40, w ∈ wsX4_told := by decide +kernel
set_option maxHeartbeats 4000000 in
set_option maxRecDepth 100000 in
theorem tX4_told_n1 (l : Launch) (D : va_G) (cI cZ cJ : ClassId) (h : Nat → Nat) (cd : Int32) (lev tm : Nat) (gn : Int32) (nL nC nE : Nat) (L B C F : Nat → Nat → Int32) (ys ao : Nat → Int32) (v : Int32) (hno : inB v 0 (nI nL - 1) = false) (u : Int32)  : ∀ sz : Nat, zMi l yX4_told wsX4_told ({ frames := 2, cells := 0, slots := 0, locals := 47 } : Room) D cI cZ cJ (wM cI cZ h cd lev tm gn nL nC nE L B C F ys ao) sz [.ref (h 0), .int v, .int u] (fun r w' => r = 0 ∧ w' = wM cI cZ h 1 lev tm gn nL nC nE L B C F ys ao) := by
  intro sz
  refine z_head (y := yX4_told) (av := [.ref (h 0), .int v, .int u]) (w := (wM cI cZ h cd lev tm gn nL nC nE L B C F ys ao)) (Qc := fun A => zQi D (wM cI cZ h cd lev tm gn nL nC nE L B C F ys ao) (fun r w' => r = 0 ∧ w' = wM cI cZ h 1 lev tm gn nL nC nE L B C F ys ao) A) (cc := cX4_told) (maxL := 3) (ret := (some .int)) (by decide) rfl (Nat.le_of_ble_eq_true rfl) ?_
  intro p e s m below meth c ls A hat hP hD hS hl
  obtain ⟨hx, hb, hr, hml, hlocks, hts, hown, hin, hK, hE, hA⟩ := hat
  have hP : va_P D vwCl (wM cI cZ h cd lev tm gn nL nC nE L B C F ys ao) s.heap := hP
  have hD : va_D A (wM cI cZ h cd lev tm gn nL nC nE L B C F ys ao) := hD
  have hl : lv_has ls 3 [(0, .ref (h 0)), (1, .int v), (2, .int u)] := hl
  refine lv_aload_n hx hb dX4_told_0 rfl (lv_at hl 0 rfl) ?_
  refine lv_aload_n hx hb dX4_told_1 rfl (lv_at hl 0 rfl) ?_
  refine lv_iload_n hx hb dX4_told_2 rfl (lv_at hl 1 rfl) ?_
  refine z_backiA (z_runVA (n := 1) (As := [.int v]) (ci := 5) (rest := [.ref (h 0)]) hx hb hml hown hts hK hE hP hD (tX4_isLift l D cI cZ cJ h cd lev tm gn nL nC nE L B C F ys ao v  _) gX4_told_X4_isLift rfl rfl rfl (by decide +kernel) ⟨Nat.le_of_ble_eq_true rfl, Nat.le_of_ble_eq_true rfl⟩ rfl rfl rfl hl.1 rfl (Nat.le_of_ble_eq_true rfl) dX4_told_3 ⟨Nat.zero_le _, Nat.zero_le _⟩) hD hS hA (fun r1 w1 H locs hp1 hP hD hS => ?_)
  obtain ⟨rfl, rfl⟩ := hp1
  have hP : va_P D vwCl (wM cI cZ h cd lev tm gn nL nC nE L B C F ys ao) H := hP
  have hD : va_D A (wM cI cZ h cd lev tm gn nL nC nE L B C F ys ao) := hD
  refine zb_ne (b := (inB v 0 (nI nL - 1))) (tgt := 13) hx hb dX4_told_6 (by decide) (fun c6 => ?_) (fun c6 => ?_)
  · exact absurd (hno.symm.trans c6) (by decide)
  · skip
    refine lv_iconst (v := 1) hx hb dX4_told_9 (by decide) ?_
    refine lv_goto (tgt := 28) hx hb dX4_told_10 (by decide) ?_
    refine va_put (D := D) (ci := 5) (v := .int 1) (ty := .int) (C := RX4) (T := TX4) (N := 28) hx hb hts kX4_told_inX4 tyX4 tyX4_ok nmX4 hown hK hP hD hS 0 rfl rfl 0 (by decide) (hts _ kX4_told_f78) (fun _ h9 => h9) rfl (by decide +kernel) rfl rfl (Nat.le_of_ble_eq_true rfl) dX4_told_28 (fun H locs hP hD hS => ?_)
    have hP : va_P D vwCl (wM cI cZ h 1 lev tm gn nL nC nE L B C F ys ao) H := hP
    have hD : va_D A (wM cI cZ h 1 lev tm gn nL nC nE L B C F ys ao) := hD
    refine lv_aload_n hx hb dX4_told_31 rfl (lv_at hl 0 rfl) ?_
    refine va_get (D := D) (ci := 5) (v := .int 1) (C := RX4) (T := TX4) (N := 28) hx hb hts kX4_told_inX4 hown hK hP 0 rfl rfl 0 (by decide) (hts _ kX4_told_f78) (fun _ h9 => h9) rfl dX4_told_32 ?_
    refine lv_if_le (x := 1) (tgt := 40) hx hb dX4_told_35 (by decide) (fun c35 => ?_) (fun c35 => ?_)
    · exact absurd c35 (by decide)
    · skip
      refine lv_iconst (v := 0) hx hb dX4_told_38 (by decide) ?_
      exact z_iret hx hb hr hlocks hS hP rfl dX4_told_39 (⟨rfl, rfl⟩)


set_option maxHeartbeats 4000000 in
set_option maxRecDepth 100000 in
theorem tX4_told_n2 (l : Launch) (D : va_G) (cI cZ cJ : ClassId) (h : Nat → Nat) (cd : Int32) (lev tm : Nat) (gn : Int32) (nL nC nE : Nat) (L B C F : Nat → Nat → Int32) (ys ao : Nat → Int32) (k : Nat) (hk : k < nL) (hL : nL ≤ 4) (hC : nC ≤ 24) (u : Int32) (hno : inB u 0 7 = false)  : ∀ sz : Nat, zMi l yX4_told wsX4_told ({ frames := 2, cells := 0, slots := 0, locals := 47 } : Room) D cI cZ cJ (wM cI cZ h cd lev tm gn nL nC nE L B C F ys ao) sz [.ref (h 0), .int (nI k), .int u] (fun r w' => r = 0 ∧ w' = wM cI cZ h 2 lev tm gn nL nC nE L B C F ys ao) := by
  intro sz
  refine z_head (y := yX4_told) (av := [.ref (h 0), .int (nI k), .int u]) (w := (wM cI cZ h cd lev tm gn nL nC nE L B C F ys ao)) (Qc := fun A => zQi D (wM cI cZ h cd lev tm gn nL nC nE L B C F ys ao) (fun r w' => r = 0 ∧ w' = wM cI cZ h 2 lev tm gn nL nC nE L B C F ys ao) A) (cc := cX4_told) (maxL := 3) (ret := (some .int)) (by decide) rfl (Nat.le_of_ble_eq_true rfl) ?_
  intro p e s m below meth c ls A hat hP hD hS hl
  obtain ⟨hx, hb, hr, hml, hlocks, hts, hown, hin, hK, hE, hA⟩ := hat
  have hP : va_P D vwCl (wM cI cZ h cd lev tm gn nL nC nE L B C F ys ao) s.heap := hP
  have hD : va_D A (wM cI cZ h cd lev tm gn nL nC nE L B C F ys ao) := hD
  have hl : lv_has ls 3 [(0, .ref (h 0)), (1, .int (nI k)), (2, .int u)] := hl
  have h1 : inB (nI k) 0 (nI nL - 1) = true := inB_ok hk (by omega)
  refine lv_aload_n hx hb dX4_told_0 rfl (lv_at hl 0 rfl) ?_
  refine lv_aload_n hx hb dX4_told_1 rfl (lv_at hl 0 rfl) ?_
  refine lv_iload_n hx hb dX4_told_2 rfl (lv_at hl 1 rfl) ?_
  refine z_backiA (z_runVA (n := 1) (As := [.int (nI k)]) (ci := 5) (rest := [.ref (h 0)]) hx hb hml hown hts hK hE hP hD (tX4_isLift l D cI cZ cJ h cd lev tm gn nL nC nE L B C F ys ao (nI k)  _) gX4_told_X4_isLift rfl rfl rfl (by decide +kernel) ⟨Nat.le_of_ble_eq_true rfl, Nat.le_of_ble_eq_true rfl⟩ rfl rfl rfl hl.1 rfl (Nat.le_of_ble_eq_true rfl) dX4_told_3 ⟨Nat.zero_le _, Nat.zero_le _⟩) hD hS hA (fun r1 w1 H locs hp1 hP hD hS => ?_)
  obtain ⟨rfl, rfl⟩ := hp1
  have hP : va_P D vwCl (wM cI cZ h cd lev tm gn nL nC nE L B C F ys ao) H := hP
  have hD : va_D A (wM cI cZ h cd lev tm gn nL nC nE L B C F ys ao) := hD
  refine zb_ne (b := (inB (nI k) 0 (nI nL - 1))) (tgt := 13) hx hb dX4_told_6 (by decide) (fun c6 => ?_) (fun c6 => ?_)
  · skip
    refine lv_iload_n hx hb dX4_told_13 rfl (lv_at hl 2 rfl) ?_
    refine lv_iconst (v := 0) hx hb dX4_told_14 (by decide) ?_
    refine lv_bipush (v := 7) hx hb dX4_told_15 (by decide) ?_
    refine z_backi (z_runS (n := 3) (As := [.int u, .int 0, .int 7]) (rest := [.ref (h 0)]) hx hb hml hown hts hK hE hP hD [] rfl (by decide) (tX4_in l D cI cZ cJ u 0 7 _) gX4_told_X4_in rfl rfl rfl (by decide +kernel) ⟨Nat.le_of_ble_eq_true rfl, Nat.le_of_ble_eq_true rfl⟩ rfl hl.1 rfl (Nat.le_of_ble_eq_true rfl) dX4_told_17 ⟨Nat.zero_le _, Nat.zero_le _⟩) hP hD hS hA [] rfl (fun r2 w1 H locs hp2 hP hD hS => ?_)
    obtain ⟨rfl, rfl⟩ := hp2
    have hP : va_P D vwCl (wM cI cZ h cd lev tm gn nL nC nE L B C F ys ao) H := hP
    have hD : va_D A (wM cI cZ h cd lev tm gn nL nC nE L B C F ys ao) := hD
    refine zb_ne (b := (inB u 0 7)) (tgt := 27) hx hb dX4_told_20 (by decide) (fun c20 => ?_) (fun c20 => ?_)
    · exact absurd (hno.symm.trans c20) (by decide)
    · skip
      refine lv_iconst (v := 2) hx hb dX4_told_23 (by decide) ?_
      refine lv_goto (tgt := 28) hx hb dX4_told_24 (by decide) ?_
      refine va_put (D := D) (ci := 5) (v := .int 2) (ty := .int) (C := RX4) (T := TX4) (N := 28) hx hb hts kX4_told_inX4 tyX4 tyX4_ok nmX4 hown hK hP hD hS 0 rfl rfl 0 (by decide) (hts _ kX4_told_f78) (fun _ h9 => h9) rfl (by decide +kernel) rfl rfl (Nat.le_of_ble_eq_true rfl) dX4_told_28 (fun H locs hP hD hS => ?_)
      have hP : va_P D vwCl (wM cI cZ h 2 lev tm gn nL nC nE L B C F ys ao) H := hP
      have hD : va_D A (wM cI cZ h 2 lev tm gn nL nC nE L B C F ys ao) := hD
      refine lv_aload_n hx hb dX4_told_31 rfl (lv_at hl 0 rfl) ?_
      refine va_get (D := D) (ci := 5) (v := .int 2) (C := RX4) (T := TX4) (N := 28) hx hb hts kX4_told_inX4 hown hK hP 0 rfl rfl 0 (by decide) (hts _ kX4_told_f78) (fun _ h9 => h9) rfl dX4_told_32 ?_
      refine lv_if_le (x := 2) (tgt := 40) hx hb dX4_told_35 (by decide) (fun c35 => ?_) (fun c35 => ?_)
      · exact absurd c35 (by decide)
      · skip
        refine lv_iconst (v := 0) hx hb dX4_told_38 (by decide) ?_
        exact z_iret hx hb hr hlocks hS hP rfl dX4_told_39 (⟨rfl, rfl⟩)
  · exact absurd (h1.symm.trans c6) (by decide)

theorem kX4_told_f22 : Cond.fieldLink RX4 22 "LiftRows2Model" "kept" "[Z" ∈ wsX4_told := by decide +kernel
theorem kX4_told_f29 : Cond.fieldLink RX4 29 "LiftRows2Model" "reserved" "[Z" ∈ wsX4_told := by decide +kernel
theorem kX4_told_f26 : Cond.fieldLink RX4 26 "LiftRows2Model" "stuck" "[Z" ∈ wsX4_told := by decide +kernel
theorem kX4_told_f19 : Cond.fieldLink RX4 19 "LiftRows2Model" "open" "[I" ∈ wsX4_told := by decide +kernel
theorem kX4_told_f16 : Cond.fieldLink RX4 16 "LiftRows2Model" "direction" "[I" ∈ wsX4_told := by decide +kernel
set_option maxHeartbeats 4000000 in
set_option maxRecDepth 100000 in
theorem tX4_told_ok (l : Launch) (D : va_G) (cI cZ cJ : ClassId) (h : Nat → Nat) (cd : Int32) (lev tm : Nat) (gn : Int32) (nL nC nE : Nat) (L B C F : Nat → Nat → Int32) (ys ao : Nat → Int32) (k : Nat) (hk : k < nL) (hL : nL ≤ 4) (hC : nC ≤ 24) (u : Int32) (h2 : inB u 0 7 = true)  : ∀ sz : Nat, zMi l yX4_told wsX4_told ({ frames := 2, cells := 0, slots := 0, locals := 47 } : Room) D cI cZ cJ (wM cI cZ h cd lev tm gn nL nC nE L B C F ys ao) sz [.ref (h 0), .int (nI k), .int u] (fun r w' => r = tdI L B C k nC u ∧ w' = wM cI cZ h 0 lev tm gn nL nC nE L B C F ys ao) := by
  intro sz
  refine z_head (y := yX4_told) (av := [.ref (h 0), .int (nI k), .int u]) (w := (wM cI cZ h cd lev tm gn nL nC nE L B C F ys ao)) (Qc := fun A => zQi D (wM cI cZ h cd lev tm gn nL nC nE L B C F ys ao) (fun r w' => r = tdI L B C k nC u ∧ w' = wM cI cZ h 0 lev tm gn nL nC nE L B C F ys ao) A) (cc := cX4_told) (maxL := 3) (ret := (some .int)) (by decide) rfl (Nat.le_of_ble_eq_true rfl) ?_
  intro p e s m below meth c ls A hat hP hD hS hl
  obtain ⟨hx, hb, hr, hml, hlocks, hts, hown, hin, hK, hE, hA⟩ := hat
  have hP : va_P D vwCl (wM cI cZ h cd lev tm gn nL nC nE L B C F ys ao) s.heap := hP
  have hD : va_D A (wM cI cZ h cd lev tm gn nL nC nE L B C F ys ao) := hD
  have hl : lv_has ls 3 [(0, .ref (h 0)), (1, .int (nI k)), (2, .int u)] := hl
  have h1 : inB (nI k) 0 (nI nL - 1) = true := inB_ok hk (by omega)
  refine lv_aload_n hx hb dX4_told_0 rfl (lv_at hl 0 rfl) ?_
  refine lv_aload_n hx hb dX4_told_1 rfl (lv_at hl 0 rfl) ?_
  refine lv_iload_n hx hb dX4_told_2 rfl (lv_at hl 1 rfl) ?_
  refine z_backiA (z_runVA (n := 1) (As := [.int (nI k)]) (ci := 5) (rest := [.ref (h 0)]) hx hb hml hown hts hK hE hP hD (tX4_isLift l D cI cZ cJ h cd lev tm gn nL nC nE L B C F ys ao (nI k)  _) gX4_told_X4_isLift rfl rfl rfl (by decide +kernel) ⟨Nat.le_of_ble_eq_true rfl, Nat.le_of_ble_eq_true rfl⟩ rfl rfl rfl hl.1 rfl (Nat.le_of_ble_eq_true rfl) dX4_told_3 ⟨Nat.zero_le _, Nat.zero_le _⟩) hD hS hA (fun r1 w1 H locs hp1 hP hD hS => ?_)
  obtain ⟨rfl, rfl⟩ := hp1
  have hP : va_P D vwCl (wM cI cZ h cd lev tm gn nL nC nE L B C F ys ao) H := hP
  have hD : va_D A (wM cI cZ h cd lev tm gn nL nC nE L B C F ys ao) := hD
  refine zb_ne (b := (inB (nI k) 0 (nI nL - 1))) (tgt := 13) hx hb dX4_told_6 (by decide) (fun c6 => ?_) (fun c6 => ?_)
  · skip
    refine lv_iload_n hx hb dX4_told_13 rfl (lv_at hl 2 rfl) ?_
    refine lv_iconst (v := 0) hx hb dX4_told_14 (by decide) ?_
    refine lv_bipush (v := 7) hx hb dX4_told_15 (by decide) ?_
    refine z_backi (z_runS (n := 3) (As := [.int u, .int 0, .int 7]) (rest := [.ref (h 0)]) hx hb hml hown hts hK hE hP hD [] rfl (by decide) (tX4_in l D cI cZ cJ u 0 7 _) gX4_told_X4_in rfl rfl rfl (by decide +kernel) ⟨Nat.le_of_ble_eq_true rfl, Nat.le_of_ble_eq_true rfl⟩ rfl hl.1 rfl (Nat.le_of_ble_eq_true rfl) dX4_told_17 ⟨Nat.zero_le _, Nat.zero_le _⟩) hP hD hS hA [] rfl (fun r2 w1 H locs hp2 hP hD hS => ?_)
    obtain ⟨rfl, rfl⟩ := hp2
    have hP : va_P D vwCl (wM cI cZ h cd lev tm gn nL nC nE L B C F ys ao) H := hP
    have hD : va_D A (wM cI cZ h cd lev tm gn nL nC nE L B C F ys ao) := hD
    refine zb_ne (b := (inB u 0 7)) (tgt := 27) hx hb dX4_told_20 (by decide) (fun c20 => ?_) (fun c20 => ?_)
    · skip
      refine lv_iconst (v := 0) hx hb dX4_told_27 (by decide) ?_
      refine va_put (D := D) (ci := 5) (v := .int 0) (ty := .int) (C := RX4) (T := TX4) (N := 28) hx hb hts kX4_told_inX4 tyX4 tyX4_ok nmX4 hown hK hP hD hS 0 rfl rfl 0 (by decide) (hts _ kX4_told_f78) (fun _ h9 => h9) rfl (by decide +kernel) rfl rfl (Nat.le_of_ble_eq_true rfl) dX4_told_28 (fun H locs hP hD hS => ?_)
      have hP : va_P D vwCl (wM cI cZ h 0 lev tm gn nL nC nE L B C F ys ao) H := hP
      have hD : va_D A (wM cI cZ h 0 lev tm gn nL nC nE L B C F ys ao) := hD
      refine lv_aload_n hx hb dX4_told_31 rfl (lv_at hl 0 rfl) ?_
      refine va_get (D := D) (ci := 5) (v := .int 0) (C := RX4) (T := TX4) (N := 28) hx hb hts kX4_told_inX4 hown hK hP 0 rfl rfl 0 (by decide) (hts _ kX4_told_f78) (fun _ h9 => h9) rfl dX4_told_32 ?_
      refine lv_if_le (x := 0) (tgt := 40) hx hb dX4_told_35 (by decide) (fun c35 => ?_) (fun c35 => ?_)
      · skip
        refine lv_iload_n hx hb dX4_told_40 rfl (lv_at hl 2 rfl) ?_
        refine lv_if_ne (x := u) (tgt := 50) hx hb dX4_told_41 (by decide) (fun c41 => ?_) (fun c41 => ?_)
        · skip
          refine lv_iload_n hx hb dX4_told_50 rfl (lv_at hl 2 rfl) ?_
          refine lv_iconst (v := 1) hx hb dX4_told_51 (by decide) ?_
          refine lv_icmp_ne (x := u) (y := 1) (tgt := 62) hx hb dX4_told_52 (by decide) (fun c52 => ?_) (fun c52 => ?_)
          · skip
            refine lv_iload_n hx hb dX4_told_62 rfl (lv_at hl 2 rfl) ?_
            refine lv_iconst (v := 2) hx hb dX4_told_63 (by decide) ?_
            refine lv_icmp_ne (x := u) (y := 2) (tgt := 74) hx hb dX4_told_64 (by decide) (fun c64 => ?_) (fun c64 => ?_)
            · skip
              refine lv_iload_n hx hb dX4_told_74 rfl (lv_at hl 2 rfl) ?_
              refine lv_iconst (v := 3) hx hb dX4_told_75 (by decide) ?_
              refine lv_icmp_ne (x := u) (y := 3) (tgt := 86) hx hb dX4_told_76 (by decide) (fun c76 => ?_) (fun c76 => ?_)
              · skip
                refine lv_iload_n hx hb dX4_told_86 rfl (lv_at hl 2 rfl) ?_
                refine lv_iconst (v := 4) hx hb dX4_told_87 (by decide) ?_
                refine lv_icmp_ne (x := u) (y := 4) (tgt := 98) hx hb dX4_told_88 (by decide) (fun c88 => ?_) (fun c88 => ?_)
                · skip
                  refine lv_iload_n hx hb dX4_told_98 rfl (lv_at hl 2 rfl) ?_
                  refine lv_iconst (v := 5) hx hb dX4_told_99 (by decide) ?_
                  refine lv_icmp_ne (x := u) (y := 5) (tgt := 115) hx hb dX4_told_100 (by decide) (fun c100 => ?_) (fun c100 => ?_)
                  · skip
                    refine lv_iload_n hx hb dX4_told_115 rfl (lv_at hl 2 rfl) ?_
                    refine lv_bipush (v := 6) hx hb dX4_told_116 (by decide) ?_
                    refine lv_icmp_ne (x := u) (y := 6) (tgt := 133) hx hb dX4_told_118 (by decide) (fun c118 => ?_) (fun c118 => ?_)
                    · skip
                      refine lv_aload_n hx hb dX4_told_133 rfl (lv_at hl 0 rfl) ?_
                      refine va_get (D := D) (ci := 5) (v := .ref (h 5)) (C := RX4) (T := TX4) (N := 28) hx hb hts kX4_told_inX4 hown hK hP 0 rfl rfl 9 (by decide) (hts _ kX4_told_f22) (fun _ h9 => h9) rfl dX4_told_134 ?_
                      refine lv_iload_n hx hb dX4_told_137 rfl (lv_at hl 1 rfl) ?_
                      refine z_zald (k := k) (v := B 2 k) hx hb hK hP 5 rfl (by decide) (by omega) (rfl) dX4_told_138 ?_
                      refine lv_if_eq (x := B 2 k) (tgt := 146) hx hb dX4_told_139 (by decide) (fun c139 => ?_) (fun c139 => ?_)
                      · skip
                        refine lv_iconst (v := 0) hx hb dX4_told_146 (by decide) ?_
                        exact z_iret hx hb hr hlocks hS hP rfl dX4_told_147 (⟨by simp [tdI, b1I, c6, c20, c35, c41, c52, c64, c76, c88, c100, c118, c139], rfl⟩)
                      · skip
                        refine lv_iconst (v := 1) hx hb dX4_told_142 (by decide) ?_
                        refine lv_goto (tgt := 147) hx hb dX4_told_143 (by decide) ?_
                        exact z_iret hx hb hr hlocks hS hP rfl dX4_told_147 (⟨by simp [tdI, b1I, c6, c20, c35, c41, c52, c64, c76, c88, c100, c118, c139], rfl⟩)
                    · skip
                      refine lv_aload_n hx hb dX4_told_121 rfl (lv_at hl 0 rfl) ?_
                      refine va_get (D := D) (ci := 5) (v := .ref (h 7)) (C := RX4) (T := TX4) (N := 28) hx hb hts kX4_told_inX4 hown hK hP 0 rfl rfl 11 (by decide) (hts _ kX4_told_f29) (fun _ h9 => h9) rfl dX4_told_122 ?_
                      refine lv_iload_n hx hb dX4_told_125 rfl (lv_at hl 1 rfl) ?_
                      refine z_zald (k := k) (v := B 1 k) hx hb hK hP 7 rfl (by decide) (by omega) (rfl) dX4_told_126 ?_
                      refine lv_if_eq (x := B 1 k) (tgt := 146) hx hb dX4_told_127 (by decide) (fun c127 => ?_) (fun c127 => ?_)
                      · skip
                        refine lv_iconst (v := 0) hx hb dX4_told_146 (by decide) ?_
                        exact z_iret hx hb hr hlocks hS hP rfl dX4_told_147 (⟨by simp [tdI, b1I, c6, c20, c35, c41, c52, c64, c76, c88, c100, c118, c127], rfl⟩)
                      · skip
                        refine lv_goto (tgt := 142) hx hb dX4_told_130 (by decide) ?_
                        refine lv_iconst (v := 1) hx hb dX4_told_142 (by decide) ?_
                        refine lv_goto (tgt := 147) hx hb dX4_told_143 (by decide) ?_
                        exact z_iret hx hb hr hlocks hS hP rfl dX4_told_147 (⟨by simp [tdI, b1I, c6, c20, c35, c41, c52, c64, c76, c88, c100, c118, c127], rfl⟩)
                  · skip
                    refine lv_aload_n hx hb dX4_told_103 rfl (lv_at hl 0 rfl) ?_
                    refine va_get (D := D) (ci := 5) (v := .ref (h 6)) (C := RX4) (T := TX4) (N := 28) hx hb hts kX4_told_inX4 hown hK hP 0 rfl rfl 10 (by decide) (hts _ kX4_told_f26) (fun _ h9 => h9) rfl dX4_told_104 ?_
                    refine lv_iload_n hx hb dX4_told_107 rfl (lv_at hl 1 rfl) ?_
                    refine z_zald (k := k) (v := B 0 k) hx hb hK hP 6 rfl (by decide) (by omega) (rfl) dX4_told_108 ?_
                    refine lv_if_eq (x := B 0 k) (tgt := 146) hx hb dX4_told_109 (by decide) (fun c109 => ?_) (fun c109 => ?_)
                    · skip
                      refine lv_iconst (v := 0) hx hb dX4_told_146 (by decide) ?_
                      exact z_iret hx hb hr hlocks hS hP rfl dX4_told_147 (⟨by simp [tdI, b1I, c6, c20, c35, c41, c52, c64, c76, c88, c100, c109], rfl⟩)
                    · skip
                      refine lv_goto (tgt := 142) hx hb dX4_told_112 (by decide) ?_
                      refine lv_iconst (v := 1) hx hb dX4_told_142 (by decide) ?_
                      refine lv_goto (tgt := 147) hx hb dX4_told_143 (by decide) ?_
                      exact z_iret hx hb hr hlocks hS hP rfl dX4_told_147 (⟨by simp [tdI, b1I, c6, c20, c35, c41, c52, c64, c76, c88, c100, c109], rfl⟩)
                · skip
                  refine lv_aload_n hx hb dX4_told_91 rfl (lv_at hl 0 rfl) ?_
                  refine lv_iload_n hx hb dX4_told_92 rfl (lv_at hl 1 rfl) ?_
                  refine lv_iconst (v := 0) hx hb dX4_told_93 (by decide) ?_
                  refine z_backiA (z_runVA (n := 2) (As := [.int (nI k), .int 0]) (ci := 5) (rest := []) hx hb hml hown hts hK hE hP hD (tX4_many l D cI cZ cJ h 0 lev tm gn nL nC nE L B C F ys ao (nI k) 0 (by omega) _) gX4_told_X4_many rfl rfl rfl (by decide +kernel) ⟨Nat.le_of_ble_eq_true rfl, Nat.le_of_ble_eq_true rfl⟩ rfl rfl rfl hl.1 rfl (Nat.le_of_ble_eq_true rfl) dX4_told_94 ⟨Nat.zero_le _, Nat.zero_le _⟩) hD hS hA (fun r3 w1 H locs hp3 hP hD hS => ?_)
                  obtain ⟨rfl, rfl⟩ := hp3
                  have hP : va_P D vwCl (wM cI cZ h 0 lev tm gn nL nC nE L B C F ys ao) H := hP
                  have hD : va_D A (wM cI cZ h 0 lev tm gn nL nC nE L B C F ys ao) := hD
                  exact z_iret hx hb hr hlocks hS hP rfl dX4_told_97 (⟨by simp [tdI, b1I, c6, c20, c35, c41, c52, c64, c76, c88], rfl⟩)
              · skip
                refine lv_aload_n hx hb dX4_told_79 rfl (lv_at hl 0 rfl) ?_
                refine lv_iload_n hx hb dX4_told_80 rfl (lv_at hl 1 rfl) ?_
                refine lv_iconst (v := 1) hx hb dX4_told_81 (by decide) ?_
                refine z_backiA (z_runVA (n := 2) (As := [.int (nI k), .int 1]) (ci := 5) (rest := []) hx hb hml hown hts hK hE hP hD (tX4_many l D cI cZ cJ h 0 lev tm gn nL nC nE L B C F ys ao (nI k) 1 (by omega) _) gX4_told_X4_many rfl rfl rfl (by decide +kernel) ⟨Nat.le_of_ble_eq_true rfl, Nat.le_of_ble_eq_true rfl⟩ rfl rfl rfl hl.1 rfl (Nat.le_of_ble_eq_true rfl) dX4_told_82 ⟨Nat.zero_le _, Nat.zero_le _⟩) hD hS hA (fun r4 w1 H locs hp4 hP hD hS => ?_)
                obtain ⟨rfl, rfl⟩ := hp4
                have hP : va_P D vwCl (wM cI cZ h 0 lev tm gn nL nC nE L B C F ys ao) H := hP
                have hD : va_D A (wM cI cZ h 0 lev tm gn nL nC nE L B C F ys ao) := hD
                exact z_iret hx hb hr hlocks hS hP rfl dX4_told_85 (⟨by simp [tdI, b1I, c6, c20, c35, c41, c52, c64, c76], rfl⟩)
            · skip
              refine lv_aload_n hx hb dX4_told_67 rfl (lv_at hl 0 rfl) ?_
              refine va_get (D := D) (ci := 5) (v := .ref (h 4)) (C := RX4) (T := TX4) (N := 28) hx hb hts kX4_told_inX4 hown hK hP 0 rfl rfl 8 (by decide) (hts _ kX4_told_f19) (fun _ h9 => h9) rfl dX4_told_68 ?_
              refine lv_iload_n hx hb dX4_told_71 rfl (lv_at hl 1 rfl) ?_
              refine z_iald (k := k) (v := L 3 k) hx hb hK hP 4 rfl (by decide) (by omega) (rfl) dX4_told_72 ?_
              exact z_iret hx hb hr hlocks hS hP rfl dX4_told_73 (⟨by simp [tdI, b1I, c6, c20, c35, c41, c52, c64], rfl⟩)
          · skip
            refine lv_aload_n hx hb dX4_told_55 rfl (lv_at hl 0 rfl) ?_
            refine va_get (D := D) (ci := 5) (v := .ref (h 3)) (C := RX4) (T := TX4) (N := 28) hx hb hts kX4_told_inX4 hown hK hP 0 rfl rfl 7 (by decide) (hts _ kX4_told_f16) (fun _ h9 => h9) rfl dX4_told_56 ?_
            refine lv_iload_n hx hb dX4_told_59 rfl (lv_at hl 1 rfl) ?_
            refine z_iald (k := k) (v := L 2 k) hx hb hK hP 3 rfl (by decide) (by omega) (rfl) dX4_told_60 ?_
            exact z_iret hx hb hr hlocks hS hP rfl dX4_told_61 (⟨by simp [tdI, b1I, c6, c20, c35, c41, c52], rfl⟩)
        · skip
          refine lv_aload_n hx hb dX4_told_44 rfl (lv_at hl 0 rfl) ?_
          refine lv_iload_n hx hb dX4_told_45 rfl (lv_at hl 1 rfl) ?_
          refine z_backiA (z_runVA (n := 1) (As := [.int (nI k)]) (ci := 5) (rest := []) hx hb hml hown hts hK hE hP hD (tX4_aboard l D cI cZ cJ h 0 lev tm gn nL nC nE L B C F ys ao (nI k) (by omega) _) gX4_told_X4_aboard rfl rfl rfl (by decide +kernel) ⟨Nat.le_of_ble_eq_true rfl, Nat.le_of_ble_eq_true rfl⟩ rfl rfl rfl hl.1 rfl (Nat.le_of_ble_eq_true rfl) dX4_told_46 ⟨Nat.zero_le _, Nat.zero_le _⟩) hD hS hA (fun r5 w1 H locs hp5 hP hD hS => ?_)
          obtain ⟨rfl, rfl⟩ := hp5
          have hP : va_P D vwCl (wM cI cZ h 0 lev tm gn nL nC nE L B C F ys ao) H := hP
          have hD : va_D A (wM cI cZ h 0 lev tm gn nL nC nE L B C F ys ao) := hD
          exact z_iret hx hb hr hlocks hS hP rfl dX4_told_49 (⟨by simp [tdI, b1I, c6, c20, c35, c41], rfl⟩)
      · exact absurd c35 (by decide)
    · exact absurd (h2.symm.trans c20) (by decide)
  · exact absurd (h1.symm.trans c6) (by decide)

theorem kX4_door_f78 : Cond.fieldLink RX4 78 "LiftRows2Model" "code" "I" ∈ wsX4_door := by decide +kernel
theorem kX4_door_inX4 : ∀ w ∈ wsX40, w ∈ wsX4_door := by decide +kernel
set_option maxHeartbeats 4000000 in
set_option maxRecDepth 100000 in
theorem tX4_door_n1 (l : Launch) (D : va_G) (cI cZ cJ : ClassId) (h : Nat → Nat) (cd : Int32) (lev tm : Nat) (gn : Int32) (nL nC nE : Nat) (L B C F : Nat → Nat → Int32) (ys ao : Nat → Int32) (v : Int32) (hno : inB v 0 (nI nL - 1) = false) (on : Bool)  : ∀ sz : Nat, zMv l yX4_door wsX4_door ({ frames := 2, cells := 0, slots := 0, locals := 43 } : Room) D cI cZ cJ (wM cI cZ h cd lev tm gn nL nC nE L B C F ys ao) sz [.ref (h 0), .int v, .int (bI on)] (fun w' => w' = wM cI cZ h 1 lev tm gn nL nC nE L B C F ys ao) := by
  intro sz
  refine z_head (y := yX4_door) (av := [.ref (h 0), .int v, .int (bI on)]) (w := (wM cI cZ h cd lev tm gn nL nC nE L B C F ys ao)) (Qc := fun A => zQv D (wM cI cZ h cd lev tm gn nL nC nE L B C F ys ao) (fun w' => w' = wM cI cZ h 1 lev tm gn nL nC nE L B C F ys ao) A) (cc := cX4_door) (maxL := 3) (ret := none) (by decide) rfl (Nat.le_of_ble_eq_true rfl) ?_
  intro p e s m below meth c ls A hat hP hD hS hl
  obtain ⟨hx, hb, hr, hml, hlocks, hts, hown, hin, hK, hE, hA⟩ := hat
  have hP : va_P D vwCl (wM cI cZ h cd lev tm gn nL nC nE L B C F ys ao) s.heap := hP
  have hD : va_D A (wM cI cZ h cd lev tm gn nL nC nE L B C F ys ao) := hD
  have hl : lv_has ls 3 [(0, .ref (h 0)), (1, .int v), (2, .int (bI on))] := hl
  refine lv_aload_n hx hb dX4_door_0 rfl (lv_at hl 0 rfl) ?_
  refine lv_aload_n hx hb dX4_door_1 rfl (lv_at hl 0 rfl) ?_
  refine lv_iload_n hx hb dX4_door_2 rfl (lv_at hl 1 rfl) ?_
  refine z_backiA (z_runVA (n := 1) (As := [.int v]) (ci := 5) (rest := [.ref (h 0)]) hx hb hml hown hts hK hE hP hD (tX4_isLift l D cI cZ cJ h cd lev tm gn nL nC nE L B C F ys ao v  _) gX4_door_X4_isLift rfl rfl rfl (by decide +kernel) ⟨Nat.le_of_ble_eq_true rfl, Nat.le_of_ble_eq_true rfl⟩ rfl rfl rfl hl.1 rfl (Nat.le_of_ble_eq_true rfl) dX4_door_3 ⟨Nat.zero_le _, Nat.zero_le _⟩) hD hS hA (fun r1 w1 H locs hp1 hP hD hS => ?_)
  obtain ⟨rfl, rfl⟩ := hp1
  have hP : va_P D vwCl (wM cI cZ h cd lev tm gn nL nC nE L B C F ys ao) H := hP
  have hD : va_D A (wM cI cZ h cd lev tm gn nL nC nE L B C F ys ao) := hD
  refine zb_ne (b := (inB v 0 (nI nL - 1))) (tgt := 13) hx hb dX4_door_6 (by decide) (fun c6 => ?_) (fun c6 => ?_)
  · exact absurd (hno.symm.trans c6) (by decide)
  · skip
    refine lv_iconst (v := 1) hx hb dX4_door_9 (by decide) ?_
    refine lv_goto (tgt := 14) hx hb dX4_door_10 (by decide) ?_
    refine va_put (D := D) (ci := 5) (v := .int 1) (ty := .int) (C := RX4) (T := TX4) (N := 28) hx hb hts kX4_door_inX4 tyX4 tyX4_ok nmX4 hown hK hP hD hS 0 rfl rfl 0 (by decide) (hts _ kX4_door_f78) (fun _ h9 => h9) rfl (by decide +kernel) rfl rfl (Nat.le_of_ble_eq_true rfl) dX4_door_14 (fun H locs hP hD hS => ?_)
    have hP : va_P D vwCl (wM cI cZ h 1 lev tm gn nL nC nE L B C F ys ao) H := hP
    have hD : va_D A (wM cI cZ h 1 lev tm gn nL nC nE L B C F ys ao) := hD
    refine lv_aload_n hx hb dX4_door_17 rfl (lv_at hl 0 rfl) ?_
    refine va_get (D := D) (ci := 5) (v := .int 1) (C := RX4) (T := TX4) (N := 28) hx hb hts kX4_door_inX4 hown hK hP 0 rfl rfl 0 (by decide) (hts _ kX4_door_f78) (fun _ h9 => h9) rfl dX4_door_18 ?_
    refine lv_if_ne (x := 1) (tgt := 56) hx hb dX4_door_21 (by decide) (fun c21 => ?_) (fun c21 => ?_)
    · skip
      refine lv_aload_n hx hb dX4_door_56 rfl (lv_at hl 0 rfl) ?_
      refine va_get (D := D) (ci := 5) (v := .int 1) (C := RX4) (T := TX4) (N := 28) hx hb hts kX4_door_inX4 hown hK hP 0 rfl rfl 0 (by decide) (hts _ kX4_door_f78) (fun _ h9 => h9) rfl dX4_door_57 ?_
      refine lv_if_ne (x := 1) (tgt := 70) hx hb dX4_door_60 (by decide) (fun c60 => ?_) (fun c60 => ?_)
      · skip
        exact z_vret hx hb hr hlocks hS hP rfl dX4_door_70 (rfl)
      · exact absurd c60 (by decide)
    · exact absurd c21 (by decide)

theorem kX4_door_f22 : Cond.fieldLink RX4 22 "LiftRows2Model" "kept" "[Z" ∈ wsX4_door := by decide +kernel
theorem kX4_door_f19 : Cond.fieldLink RX4 19 "LiftRows2Model" "open" "[I" ∈ wsX4_door := by decide +kernel
set_option maxHeartbeats 4000000 in
set_option maxRecDepth 100000 in
theorem tX4_door_n2 (l : Launch) (D : va_G) (cI cZ cJ : ClassId) (h : Nat → Nat) (cd : Int32) (lev tm : Nat) (gn : Int32) (nL nC nE : Nat) (L B C F : Nat → Nat → Int32) (ys ao : Nat → Int32) (k : Nat) (hk : k < nL) (hL : nL ≤ 4) (hC : nC ≤ 24) (on : Bool) (hno : B 2 k = bI on ∨ (on = true ∧ L 3 k = 0))  : ∀ sz : Nat, zMv l yX4_door wsX4_door ({ frames := 2, cells := 0, slots := 0, locals := 43 } : Room) D cI cZ cJ (wM cI cZ h cd lev tm gn nL nC nE L B C F ys ao) sz [.ref (h 0), .int (nI k), .int (bI on)] (fun w' => w' = wM cI cZ h 2 lev tm gn nL nC nE L B C F ys ao) := by
  intro sz
  refine z_head (y := yX4_door) (av := [.ref (h 0), .int (nI k), .int (bI on)]) (w := (wM cI cZ h cd lev tm gn nL nC nE L B C F ys ao)) (Qc := fun A => zQv D (wM cI cZ h cd lev tm gn nL nC nE L B C F ys ao) (fun w' => w' = wM cI cZ h 2 lev tm gn nL nC nE L B C F ys ao) A) (cc := cX4_door) (maxL := 3) (ret := none) (by decide) rfl (Nat.le_of_ble_eq_true rfl) ?_
  intro p e s m below meth c ls A hat hP hD hS hl
  obtain ⟨hx, hb, hr, hml, hlocks, hts, hown, hin, hK, hE, hA⟩ := hat
  have hP : va_P D vwCl (wM cI cZ h cd lev tm gn nL nC nE L B C F ys ao) s.heap := hP
  have hD : va_D A (wM cI cZ h cd lev tm gn nL nC nE L B C F ys ao) := hD
  have hl : lv_has ls 3 [(0, .ref (h 0)), (1, .int (nI k)), (2, .int (bI on))] := hl
  have h1 : inB (nI k) 0 (nI nL - 1) = true := inB_ok hk (by omega)
  refine lv_aload_n hx hb dX4_door_0 rfl (lv_at hl 0 rfl) ?_
  refine lv_aload_n hx hb dX4_door_1 rfl (lv_at hl 0 rfl) ?_
  refine lv_iload_n hx hb dX4_door_2 rfl (lv_at hl 1 rfl) ?_
  refine z_backiA (z_runVA (n := 1) (As := [.int (nI k)]) (ci := 5) (rest := [.ref (h 0)]) hx hb hml hown hts hK hE hP hD (tX4_isLift l D cI cZ cJ h cd lev tm gn nL nC nE L B C F ys ao (nI k)  _) gX4_door_X4_isLift rfl rfl rfl (by decide +kernel) ⟨Nat.le_of_ble_eq_true rfl, Nat.le_of_ble_eq_true rfl⟩ rfl rfl rfl hl.1 rfl (Nat.le_of_ble_eq_true rfl) dX4_door_3 ⟨Nat.zero_le _, Nat.zero_le _⟩) hD hS hA (fun r1 w1 H locs hp1 hP hD hS => ?_)
  obtain ⟨rfl, rfl⟩ := hp1
  have hP : va_P D vwCl (wM cI cZ h cd lev tm gn nL nC nE L B C F ys ao) H := hP
  have hD : va_D A (wM cI cZ h cd lev tm gn nL nC nE L B C F ys ao) := hD
  refine zb_ne (b := (inB (nI k) 0 (nI nL - 1))) (tgt := 13) hx hb dX4_door_6 (by decide) (fun c6 => ?_) (fun c6 => ?_)
  · skip
    refine lv_iconst (v := 0) hx hb dX4_door_13 (by decide) ?_
    refine va_put (D := D) (ci := 5) (v := .int 0) (ty := .int) (C := RX4) (T := TX4) (N := 28) hx hb hts kX4_door_inX4 tyX4 tyX4_ok nmX4 hown hK hP hD hS 0 rfl rfl 0 (by decide) (hts _ kX4_door_f78) (fun _ h9 => h9) rfl (by decide +kernel) rfl rfl (Nat.le_of_ble_eq_true rfl) dX4_door_14 (fun H locs hP hD hS => ?_)
    have hP : va_P D vwCl (wM cI cZ h 0 lev tm gn nL nC nE L B C F ys ao) H := hP
    have hD : va_D A (wM cI cZ h 0 lev tm gn nL nC nE L B C F ys ao) := hD
    refine lv_aload_n hx hb dX4_door_17 rfl (lv_at hl 0 rfl) ?_
    refine va_get (D := D) (ci := 5) (v := .int 0) (C := RX4) (T := TX4) (N := 28) hx hb hts kX4_door_inX4 hown hK hP 0 rfl rfl 0 (by decide) (hts _ kX4_door_f78) (fun _ h9 => h9) rfl dX4_door_18 ?_
    refine lv_if_ne (x := 0) (tgt := 56) hx hb dX4_door_21 (by decide) (fun c21 => ?_) (fun c21 => ?_)
    · exact absurd c21 (by decide)
    · skip
      refine lv_aload_n hx hb dX4_door_24 rfl (lv_at hl 0 rfl) ?_
      refine lv_aload_n hx hb dX4_door_25 rfl (lv_at hl 0 rfl) ?_
      refine va_get (D := D) (ci := 5) (v := .ref (h 5)) (C := RX4) (T := TX4) (N := 28) hx hb hts kX4_door_inX4 hown hK hP 0 rfl rfl 9 (by decide) (hts _ kX4_door_f22) (fun _ h9 => h9) rfl dX4_door_26 ?_
      refine lv_iload_n hx hb dX4_door_29 rfl (lv_at hl 1 rfl) ?_
      refine z_zald (k := k) (v := B 2 k) hx hb hK hP 5 rfl (by decide) (by omega) (rfl) dX4_door_30 ?_
      refine lv_iload_n hx hb dX4_door_31 rfl (lv_at hl 2 rfl) ?_
      refine lv_icmp_eq (x := B 2 k) (y := bI on) (tgt := 48) hx hb dX4_door_32 (by decide) (fun c32 => ?_) (fun c32 => ?_)
      · skip
        refine lv_iconst (v := 2) hx hb dX4_door_48 (by decide) ?_
        refine lv_goto (tgt := 53) hx hb dX4_door_49 (by decide) ?_
        refine va_put (D := D) (ci := 5) (v := .int 2) (ty := .int) (C := RX4) (T := TX4) (N := 28) hx hb hts kX4_door_inX4 tyX4 tyX4_ok nmX4 hown hK hP hD hS 0 rfl rfl 0 (by decide) (hts _ kX4_door_f78) (fun _ h9 => h9) rfl (by decide +kernel) rfl rfl (Nat.le_of_ble_eq_true rfl) dX4_door_53 (fun H locs hP hD hS => ?_)
        have hP : va_P D vwCl (wM cI cZ h 2 lev tm gn nL nC nE L B C F ys ao) H := hP
        have hD : va_D A (wM cI cZ h 2 lev tm gn nL nC nE L B C F ys ao) := hD
        refine lv_aload_n hx hb dX4_door_56 rfl (lv_at hl 0 rfl) ?_
        refine va_get (D := D) (ci := 5) (v := .int 2) (C := RX4) (T := TX4) (N := 28) hx hb hts kX4_door_inX4 hown hK hP 0 rfl rfl 0 (by decide) (hts _ kX4_door_f78) (fun _ h9 => h9) rfl dX4_door_57 ?_
        refine lv_if_ne (x := 2) (tgt := 70) hx hb dX4_door_60 (by decide) (fun c60 => ?_) (fun c60 => ?_)
        · skip
          exact z_vret hx hb hr hlocks hS hP rfl dX4_door_70 (rfl)
        · exact absurd c60 (by decide)
      · skip
        refine lv_iload_n hx hb dX4_door_35 rfl (lv_at hl 2 rfl) ?_
        refine zb_eq (b := on) (tgt := 52) hx hb dX4_door_36 (by decide) (fun c36 => ?_) (fun c36 => ?_)
        · exact hno.elim (fun q => absurd q c32) (fun q => absurd (q.1.symm.trans c36) (by decide))
        · skip
          refine lv_aload_n hx hb dX4_door_39 rfl (lv_at hl 0 rfl) ?_
          refine va_get (D := D) (ci := 5) (v := .ref (h 4)) (C := RX4) (T := TX4) (N := 28) hx hb hts kX4_door_inX4 hown hK hP 0 rfl rfl 8 (by decide) (hts _ kX4_door_f19) (fun _ h9 => h9) rfl dX4_door_40 ?_
          refine lv_iload_n hx hb dX4_door_43 rfl (lv_at hl 1 rfl) ?_
          refine z_iald (k := k) (v := L 3 k) hx hb hK hP 4 rfl (by decide) (by omega) (rfl) dX4_door_44 ?_
          refine lv_if_ne (x := L 3 k) (tgt := 52) hx hb dX4_door_45 (by decide) (fun c45 => ?_) (fun c45 => ?_)
          · exact hno.elim (fun q => absurd q c32) (fun q => absurd q.2 c45)
          · skip
            refine lv_iconst (v := 2) hx hb dX4_door_48 (by decide) ?_
            refine lv_goto (tgt := 53) hx hb dX4_door_49 (by decide) ?_
            refine va_put (D := D) (ci := 5) (v := .int 2) (ty := .int) (C := RX4) (T := TX4) (N := 28) hx hb hts kX4_door_inX4 tyX4 tyX4_ok nmX4 hown hK hP hD hS 0 rfl rfl 0 (by decide) (hts _ kX4_door_f78) (fun _ h9 => h9) rfl (by decide +kernel) rfl rfl (Nat.le_of_ble_eq_true rfl) dX4_door_53 (fun H locs hP hD hS => ?_)
            have hP : va_P D vwCl (wM cI cZ h 2 lev tm gn nL nC nE L B C F ys ao) H := hP
            have hD : va_D A (wM cI cZ h 2 lev tm gn nL nC nE L B C F ys ao) := hD
            refine lv_aload_n hx hb dX4_door_56 rfl (lv_at hl 0 rfl) ?_
            refine va_get (D := D) (ci := 5) (v := .int 2) (C := RX4) (T := TX4) (N := 28) hx hb hts kX4_door_inX4 hown hK hP 0 rfl rfl 0 (by decide) (hts _ kX4_door_f78) (fun _ h9 => h9) rfl dX4_door_57 ?_
            refine lv_if_ne (x := 2) (tgt := 70) hx hb dX4_door_60 (by decide) (fun c60 => ?_) (fun c60 => ?_)
            · skip
              exact z_vret hx hb hr hlocks hS hP rfl dX4_door_70 (rfl)
            · exact absurd c60 (by decide)
  · exact absurd (h1.symm.trans c6) (by decide)


set_option maxHeartbeats 4000000 in
set_option maxRecDepth 100000 in
theorem tX4_door_ok (l : Launch) (D : va_G) (cI cZ cJ : ClassId) (h : Nat → Nat) (cd : Int32) (lev tm : Nat) (gn : Int32) (nL nC nE : Nat) (L B C F : Nat → Nat → Int32) (ys ao : Nat → Int32) (k : Nat) (hk : k < nL) (hL : nL ≤ 4) (hC : nC ≤ 24) (on : Bool) (hyes : ¬ (B 2 k = bI on ∨ (on = true ∧ L 3 k = 0)))  : ∀ sz : Nat, zMv l yX4_door wsX4_door ({ frames := 2, cells := 0, slots := 0, locals := 43 } : Room) D cI cZ cJ (wM cI cZ h cd lev tm gn nL nC nE L B C F ys ao) sz [.ref (h 0), .int (nI k), .int (bI on)] (fun w' => w' = wM cI cZ h 0 lev tm gn nL nC nE L (upC B 2 k (bI on)) C F ys ao) := by
  intro sz
  refine z_head (y := yX4_door) (av := [.ref (h 0), .int (nI k), .int (bI on)]) (w := (wM cI cZ h cd lev tm gn nL nC nE L B C F ys ao)) (Qc := fun A => zQv D (wM cI cZ h cd lev tm gn nL nC nE L B C F ys ao) (fun w' => w' = wM cI cZ h 0 lev tm gn nL nC nE L (upC B 2 k (bI on)) C F ys ao) A) (cc := cX4_door) (maxL := 3) (ret := none) (by decide) rfl (Nat.le_of_ble_eq_true rfl) ?_
  intro p e s m below meth c ls A hat hP hD hS hl
  obtain ⟨hx, hb, hr, hml, hlocks, hts, hown, hin, hK, hE, hA⟩ := hat
  have hP : va_P D vwCl (wM cI cZ h cd lev tm gn nL nC nE L B C F ys ao) s.heap := hP
  have hD : va_D A (wM cI cZ h cd lev tm gn nL nC nE L B C F ys ao) := hD
  have hl : lv_has ls 3 [(0, .ref (h 0)), (1, .int (nI k)), (2, .int (bI on))] := hl
  have h1 : inB (nI k) 0 (nI nL - 1) = true := inB_ok hk (by omega)
  refine lv_aload_n hx hb dX4_door_0 rfl (lv_at hl 0 rfl) ?_
  refine lv_aload_n hx hb dX4_door_1 rfl (lv_at hl 0 rfl) ?_
  refine lv_iload_n hx hb dX4_door_2 rfl (lv_at hl 1 rfl) ?_
  refine z_backiA (z_runVA (n := 1) (As := [.int (nI k)]) (ci := 5) (rest := [.ref (h 0)]) hx hb hml hown hts hK hE hP hD (tX4_isLift l D cI cZ cJ h cd lev tm gn nL nC nE L B C F ys ao (nI k)  _) gX4_door_X4_isLift rfl rfl rfl (by decide +kernel) ⟨Nat.le_of_ble_eq_true rfl, Nat.le_of_ble_eq_true rfl⟩ rfl rfl rfl hl.1 rfl (Nat.le_of_ble_eq_true rfl) dX4_door_3 ⟨Nat.zero_le _, Nat.zero_le _⟩) hD hS hA (fun r1 w1 H locs hp1 hP hD hS => ?_)
  obtain ⟨rfl, rfl⟩ := hp1
  have hP : va_P D vwCl (wM cI cZ h cd lev tm gn nL nC nE L B C F ys ao) H := hP
  have hD : va_D A (wM cI cZ h cd lev tm gn nL nC nE L B C F ys ao) := hD
  refine zb_ne (b := (inB (nI k) 0 (nI nL - 1))) (tgt := 13) hx hb dX4_door_6 (by decide) (fun c6 => ?_) (fun c6 => ?_)
  · skip
    refine lv_iconst (v := 0) hx hb dX4_door_13 (by decide) ?_
    refine va_put (D := D) (ci := 5) (v := .int 0) (ty := .int) (C := RX4) (T := TX4) (N := 28) hx hb hts kX4_door_inX4 tyX4 tyX4_ok nmX4 hown hK hP hD hS 0 rfl rfl 0 (by decide) (hts _ kX4_door_f78) (fun _ h9 => h9) rfl (by decide +kernel) rfl rfl (Nat.le_of_ble_eq_true rfl) dX4_door_14 (fun H locs hP hD hS => ?_)
    have hP : va_P D vwCl (wM cI cZ h 0 lev tm gn nL nC nE L B C F ys ao) H := hP
    have hD : va_D A (wM cI cZ h 0 lev tm gn nL nC nE L B C F ys ao) := hD
    refine lv_aload_n hx hb dX4_door_17 rfl (lv_at hl 0 rfl) ?_
    refine va_get (D := D) (ci := 5) (v := .int 0) (C := RX4) (T := TX4) (N := 28) hx hb hts kX4_door_inX4 hown hK hP 0 rfl rfl 0 (by decide) (hts _ kX4_door_f78) (fun _ h9 => h9) rfl dX4_door_18 ?_
    refine lv_if_ne (x := 0) (tgt := 56) hx hb dX4_door_21 (by decide) (fun c21 => ?_) (fun c21 => ?_)
    · exact absurd c21 (by decide)
    · skip
      refine lv_aload_n hx hb dX4_door_24 rfl (lv_at hl 0 rfl) ?_
      refine lv_aload_n hx hb dX4_door_25 rfl (lv_at hl 0 rfl) ?_
      refine va_get (D := D) (ci := 5) (v := .ref (h 5)) (C := RX4) (T := TX4) (N := 28) hx hb hts kX4_door_inX4 hown hK hP 0 rfl rfl 9 (by decide) (hts _ kX4_door_f22) (fun _ h9 => h9) rfl dX4_door_26 ?_
      refine lv_iload_n hx hb dX4_door_29 rfl (lv_at hl 1 rfl) ?_
      refine z_zald (k := k) (v := B 2 k) hx hb hK hP 5 rfl (by decide) (by omega) (rfl) dX4_door_30 ?_
      refine lv_iload_n hx hb dX4_door_31 rfl (lv_at hl 2 rfl) ?_
      refine lv_icmp_eq (x := B 2 k) (y := bI on) (tgt := 48) hx hb dX4_door_32 (by decide) (fun c32 => ?_) (fun c32 => ?_)
      · exact absurd (Or.inl c32) hyes
      · skip
        refine lv_iload_n hx hb dX4_door_35 rfl (lv_at hl 2 rfl) ?_
        refine zb_eq (b := on) (tgt := 52) hx hb dX4_door_36 (by decide) (fun c36 => ?_) (fun c36 => ?_)
        · skip
          refine lv_iconst (v := 0) hx hb dX4_door_52 (by decide) ?_
          refine va_put (D := D) (ci := 5) (v := .int 0) (ty := .int) (C := RX4) (T := TX4) (N := 28) hx hb hts kX4_door_inX4 tyX4 tyX4_ok nmX4 hown hK hP hD hS 0 rfl rfl 0 (by decide) (hts _ kX4_door_f78) (fun _ h9 => h9) rfl (by decide +kernel) rfl rfl (Nat.le_of_ble_eq_true rfl) dX4_door_53 (fun H locs hP hD hS => ?_)
          have hP : va_P D vwCl (wM cI cZ h 0 lev tm gn nL nC nE L B C F ys ao) H := hP
          have hD : va_D A (wM cI cZ h 0 lev tm gn nL nC nE L B C F ys ao) := hD
          refine lv_aload_n hx hb dX4_door_56 rfl (lv_at hl 0 rfl) ?_
          refine va_get (D := D) (ci := 5) (v := .int 0) (C := RX4) (T := TX4) (N := 28) hx hb hts kX4_door_inX4 hown hK hP 0 rfl rfl 0 (by decide) (hts _ kX4_door_f78) (fun _ h9 => h9) rfl dX4_door_57 ?_
          refine lv_if_ne (x := 0) (tgt := 70) hx hb dX4_door_60 (by decide) (fun c60 => ?_) (fun c60 => ?_)
          · exact absurd c60 (by decide)
          · skip
            refine lv_aload_n hx hb dX4_door_63 rfl (lv_at hl 0 rfl) ?_
            refine va_get (D := D) (ci := 5) (v := .ref (h 5)) (C := RX4) (T := TX4) (N := 28) hx hb hts kX4_door_inX4 hown hK hP 0 rfl rfl 9 (by decide) (hts _ kX4_door_f22) (fun _ h9 => h9) rfl dX4_door_64 ?_
            refine lv_iload_n hx hb dX4_door_67 rfl (lv_at hl 1 rfl) ?_
            refine lv_iload_n hx hb dX4_door_68 rfl (lv_at hl 2 rfl) ?_
            refine z_zast (k := k) (x := bI on) hx hb hK hP hD hS 5 rfl (by decide) (by omega) (bI_01 _) dX4_door_69 (fun H locs hP hD hS => ?_)
            have hP : va_P D vwCl (wM cI cZ h 0 lev tm gn nL nC nE L (upC B 2 k (bI on)) C F ys ao) H := hP
            have hD : va_D A (wM cI cZ h 0 lev tm gn nL nC nE L (upC B 2 k (bI on)) C F ys ao) := hD
            exact z_vret hx hb hr hlocks hS hP rfl dX4_door_70 (rfl)
        · skip
          refine lv_aload_n hx hb dX4_door_39 rfl (lv_at hl 0 rfl) ?_
          refine va_get (D := D) (ci := 5) (v := .ref (h 4)) (C := RX4) (T := TX4) (N := 28) hx hb hts kX4_door_inX4 hown hK hP 0 rfl rfl 8 (by decide) (hts _ kX4_door_f19) (fun _ h9 => h9) rfl dX4_door_40 ?_
          refine lv_iload_n hx hb dX4_door_43 rfl (lv_at hl 1 rfl) ?_
          refine z_iald (k := k) (v := L 3 k) hx hb hK hP 4 rfl (by decide) (by omega) (rfl) dX4_door_44 ?_
          refine lv_if_ne (x := L 3 k) (tgt := 52) hx hb dX4_door_45 (by decide) (fun c45 => ?_) (fun c45 => ?_)
          · skip
            refine lv_iconst (v := 0) hx hb dX4_door_52 (by decide) ?_
            refine va_put (D := D) (ci := 5) (v := .int 0) (ty := .int) (C := RX4) (T := TX4) (N := 28) hx hb hts kX4_door_inX4 tyX4 tyX4_ok nmX4 hown hK hP hD hS 0 rfl rfl 0 (by decide) (hts _ kX4_door_f78) (fun _ h9 => h9) rfl (by decide +kernel) rfl rfl (Nat.le_of_ble_eq_true rfl) dX4_door_53 (fun H locs hP hD hS => ?_)
            have hP : va_P D vwCl (wM cI cZ h 0 lev tm gn nL nC nE L B C F ys ao) H := hP
            have hD : va_D A (wM cI cZ h 0 lev tm gn nL nC nE L B C F ys ao) := hD
            refine lv_aload_n hx hb dX4_door_56 rfl (lv_at hl 0 rfl) ?_
            refine va_get (D := D) (ci := 5) (v := .int 0) (C := RX4) (T := TX4) (N := 28) hx hb hts kX4_door_inX4 hown hK hP 0 rfl rfl 0 (by decide) (hts _ kX4_door_f78) (fun _ h9 => h9) rfl dX4_door_57 ?_
            refine lv_if_ne (x := 0) (tgt := 70) hx hb dX4_door_60 (by decide) (fun c60 => ?_) (fun c60 => ?_)
            · exact absurd c60 (by decide)
            · skip
              refine lv_aload_n hx hb dX4_door_63 rfl (lv_at hl 0 rfl) ?_
              refine va_get (D := D) (ci := 5) (v := .ref (h 5)) (C := RX4) (T := TX4) (N := 28) hx hb hts kX4_door_inX4 hown hK hP 0 rfl rfl 9 (by decide) (hts _ kX4_door_f22) (fun _ h9 => h9) rfl dX4_door_64 ?_
              refine lv_iload_n hx hb dX4_door_67 rfl (lv_at hl 1 rfl) ?_
              refine lv_iload_n hx hb dX4_door_68 rfl (lv_at hl 2 rfl) ?_
              refine z_zast (k := k) (x := bI on) hx hb hK hP hD hS 5 rfl (by decide) (by omega) (bI_01 _) dX4_door_69 (fun H locs hP hD hS => ?_)
              have hP : va_P D vwCl (wM cI cZ h 0 lev tm gn nL nC nE L (upC B 2 k (bI on)) C F ys ao) H := hP
              have hD : va_D A (wM cI cZ h 0 lev tm gn nL nC nE L (upC B 2 k (bI on)) C F ys ao) := hD
              exact z_vret hx hb hr hlocks hS hP rfl dX4_door_70 (rfl)
          · exact absurd (Or.inr ⟨c36, c45⟩) hyes
  · exact absurd (h1.symm.trans c6) (by decide)

theorem kX4_reserved_f78 : Cond.fieldLink RX4 78 "LiftRows2Model" "code" "I" ∈ wsX4_reserved := by decide +kernel
theorem kX4_reserved_inX4 : ∀ w ∈ wsX40, w ∈ wsX4_reserved := by decide +kernel
set_option maxHeartbeats 4000000 in
set_option maxRecDepth 100000 in
theorem tX4_reserved_n1 (l : Launch) (D : va_G) (cI cZ cJ : ClassId) (h : Nat → Nat) (cd : Int32) (lev tm : Nat) (gn : Int32) (nL nC nE : Nat) (L B C F : Nat → Nat → Int32) (ys ao : Nat → Int32) (v : Int32) (hno : inB v 0 (nI nL - 1) = false) (on : Bool)  : ∀ sz : Nat, zMi l yX4_reserved wsX4_reserved ({ frames := 2, cells := 0, slots := 0, locals := 47 } : Room) D cI cZ cJ (wM cI cZ h cd lev tm gn nL nC nE L B C F ys ao) sz [.ref (h 0), .int v, .int (bI on)] (fun r w' => r = 0 ∧ w' = wM cI cZ h 1 lev tm gn nL nC nE L B C F ys ao) := by
  intro sz
  refine z_head (y := yX4_reserved) (av := [.ref (h 0), .int v, .int (bI on)]) (w := (wM cI cZ h cd lev tm gn nL nC nE L B C F ys ao)) (Qc := fun A => zQi D (wM cI cZ h cd lev tm gn nL nC nE L B C F ys ao) (fun r w' => r = 0 ∧ w' = wM cI cZ h 1 lev tm gn nL nC nE L B C F ys ao) A) (cc := cX4_reserved) (maxL := 3) (ret := (some .int)) (by decide) rfl (Nat.le_of_ble_eq_true rfl) ?_
  intro p e s m below meth c ls A hat hP hD hS hl
  obtain ⟨hx, hb, hr, hml, hlocks, hts, hown, hin, hK, hE, hA⟩ := hat
  have hP : va_P D vwCl (wM cI cZ h cd lev tm gn nL nC nE L B C F ys ao) s.heap := hP
  have hD : va_D A (wM cI cZ h cd lev tm gn nL nC nE L B C F ys ao) := hD
  have hl : lv_has ls 3 [(0, .ref (h 0)), (1, .int v), (2, .int (bI on))] := hl
  refine lv_aload_n hx hb dX4_reserved_0 rfl (lv_at hl 0 rfl) ?_
  refine lv_aload_n hx hb dX4_reserved_1 rfl (lv_at hl 0 rfl) ?_
  refine lv_iload_n hx hb dX4_reserved_2 rfl (lv_at hl 1 rfl) ?_
  refine z_backiA (z_runVA (n := 1) (As := [.int v]) (ci := 5) (rest := [.ref (h 0)]) hx hb hml hown hts hK hE hP hD (tX4_isLift l D cI cZ cJ h cd lev tm gn nL nC nE L B C F ys ao v  _) gX4_reserved_X4_isLift rfl rfl rfl (by decide +kernel) ⟨Nat.le_of_ble_eq_true rfl, Nat.le_of_ble_eq_true rfl⟩ rfl rfl rfl hl.1 rfl (Nat.le_of_ble_eq_true rfl) dX4_reserved_3 ⟨Nat.zero_le _, Nat.zero_le _⟩) hD hS hA (fun r1 w1 H locs hp1 hP hD hS => ?_)
  obtain ⟨rfl, rfl⟩ := hp1
  have hP : va_P D vwCl (wM cI cZ h cd lev tm gn nL nC nE L B C F ys ao) H := hP
  have hD : va_D A (wM cI cZ h cd lev tm gn nL nC nE L B C F ys ao) := hD
  refine zb_ne (b := (inB v 0 (nI nL - 1))) (tgt := 13) hx hb dX4_reserved_6 (by decide) (fun c6 => ?_) (fun c6 => ?_)
  · exact absurd (hno.symm.trans c6) (by decide)
  · skip
    refine lv_iconst (v := 1) hx hb dX4_reserved_9 (by decide) ?_
    refine lv_goto (tgt := 14) hx hb dX4_reserved_10 (by decide) ?_
    refine va_put (D := D) (ci := 5) (v := .int 1) (ty := .int) (C := RX4) (T := TX4) (N := 28) hx hb hts kX4_reserved_inX4 tyX4 tyX4_ok nmX4 hown hK hP hD hS 0 rfl rfl 0 (by decide) (hts _ kX4_reserved_f78) (fun _ h9 => h9) rfl (by decide +kernel) rfl rfl (Nat.le_of_ble_eq_true rfl) dX4_reserved_14 (fun H locs hP hD hS => ?_)
    have hP : va_P D vwCl (wM cI cZ h 1 lev tm gn nL nC nE L B C F ys ao) H := hP
    have hD : va_D A (wM cI cZ h 1 lev tm gn nL nC nE L B C F ys ao) := hD
    refine lv_aload_n hx hb dX4_reserved_17 rfl (lv_at hl 0 rfl) ?_
    refine va_get (D := D) (ci := 5) (v := .int 1) (C := RX4) (T := TX4) (N := 28) hx hb hts kX4_reserved_inX4 hown hK hP 0 rfl rfl 0 (by decide) (hts _ kX4_reserved_f78) (fun _ h9 => h9) rfl dX4_reserved_18 ?_
    refine lv_if_ne (x := 1) (tgt := 43) hx hb dX4_reserved_21 (by decide) (fun c21 => ?_) (fun c21 => ?_)
    · skip
      refine lv_aload_n hx hb dX4_reserved_43 rfl (lv_at hl 0 rfl) ?_
      refine va_get (D := D) (ci := 5) (v := .int 1) (C := RX4) (T := TX4) (N := 28) hx hb hts kX4_reserved_inX4 hown hK hP 0 rfl rfl 0 (by decide) (hts _ kX4_reserved_f78) (fun _ h9 => h9) rfl dX4_reserved_44 ?_
      refine lv_if_le (x := 1) (tgt := 52) hx hb dX4_reserved_47 (by decide) (fun c47 => ?_) (fun c47 => ?_)
      · exact absurd c47 (by decide)
      · skip
        refine lv_iconst (v := 0) hx hb dX4_reserved_50 (by decide) ?_
        exact z_iret hx hb hr hlocks hS hP rfl dX4_reserved_51 (⟨rfl, rfl⟩)
    · exact absurd c21 (by decide)

theorem kX4_reserved_f29 : Cond.fieldLink RX4 29 "LiftRows2Model" "reserved" "[Z" ∈ wsX4_reserved := by decide +kernel
set_option maxHeartbeats 4000000 in
set_option maxRecDepth 100000 in
theorem tX4_reserved_n2 (l : Launch) (D : va_G) (cI cZ cJ : ClassId) (h : Nat → Nat) (cd : Int32) (lev tm : Nat) (gn : Int32) (nL nC nE : Nat) (L B C F : Nat → Nat → Int32) (ys ao : Nat → Int32) (k : Nat) (hk : k < nL) (hL : nL ≤ 4) (hC : nC ≤ 24) (on : Bool) (hno : B 1 k = bI on)  : ∀ sz : Nat, zMi l yX4_reserved wsX4_reserved ({ frames := 2, cells := 0, slots := 0, locals := 47 } : Room) D cI cZ cJ (wM cI cZ h cd lev tm gn nL nC nE L B C F ys ao) sz [.ref (h 0), .int (nI k), .int (bI on)] (fun r w' => r = 0 ∧ w' = wM cI cZ h 2 lev tm gn nL nC nE L B C F ys ao) := by
  intro sz
  refine z_head (y := yX4_reserved) (av := [.ref (h 0), .int (nI k), .int (bI on)]) (w := (wM cI cZ h cd lev tm gn nL nC nE L B C F ys ao)) (Qc := fun A => zQi D (wM cI cZ h cd lev tm gn nL nC nE L B C F ys ao) (fun r w' => r = 0 ∧ w' = wM cI cZ h 2 lev tm gn nL nC nE L B C F ys ao) A) (cc := cX4_reserved) (maxL := 3) (ret := (some .int)) (by decide) rfl (Nat.le_of_ble_eq_true rfl) ?_
  intro p e s m below meth c ls A hat hP hD hS hl
  obtain ⟨hx, hb, hr, hml, hlocks, hts, hown, hin, hK, hE, hA⟩ := hat
  have hP : va_P D vwCl (wM cI cZ h cd lev tm gn nL nC nE L B C F ys ao) s.heap := hP
  have hD : va_D A (wM cI cZ h cd lev tm gn nL nC nE L B C F ys ao) := hD
  have hl : lv_has ls 3 [(0, .ref (h 0)), (1, .int (nI k)), (2, .int (bI on))] := hl
  have h1 : inB (nI k) 0 (nI nL - 1) = true := inB_ok hk (by omega)
  refine lv_aload_n hx hb dX4_reserved_0 rfl (lv_at hl 0 rfl) ?_
  refine lv_aload_n hx hb dX4_reserved_1 rfl (lv_at hl 0 rfl) ?_
  refine lv_iload_n hx hb dX4_reserved_2 rfl (lv_at hl 1 rfl) ?_
  refine z_backiA (z_runVA (n := 1) (As := [.int (nI k)]) (ci := 5) (rest := [.ref (h 0)]) hx hb hml hown hts hK hE hP hD (tX4_isLift l D cI cZ cJ h cd lev tm gn nL nC nE L B C F ys ao (nI k)  _) gX4_reserved_X4_isLift rfl rfl rfl (by decide +kernel) ⟨Nat.le_of_ble_eq_true rfl, Nat.le_of_ble_eq_true rfl⟩ rfl rfl rfl hl.1 rfl (Nat.le_of_ble_eq_true rfl) dX4_reserved_3 ⟨Nat.zero_le _, Nat.zero_le _⟩) hD hS hA (fun r1 w1 H locs hp1 hP hD hS => ?_)
  obtain ⟨rfl, rfl⟩ := hp1
  have hP : va_P D vwCl (wM cI cZ h cd lev tm gn nL nC nE L B C F ys ao) H := hP
  have hD : va_D A (wM cI cZ h cd lev tm gn nL nC nE L B C F ys ao) := hD
  refine zb_ne (b := (inB (nI k) 0 (nI nL - 1))) (tgt := 13) hx hb dX4_reserved_6 (by decide) (fun c6 => ?_) (fun c6 => ?_)
  · skip
    refine lv_iconst (v := 0) hx hb dX4_reserved_13 (by decide) ?_
    refine va_put (D := D) (ci := 5) (v := .int 0) (ty := .int) (C := RX4) (T := TX4) (N := 28) hx hb hts kX4_reserved_inX4 tyX4 tyX4_ok nmX4 hown hK hP hD hS 0 rfl rfl 0 (by decide) (hts _ kX4_reserved_f78) (fun _ h9 => h9) rfl (by decide +kernel) rfl rfl (Nat.le_of_ble_eq_true rfl) dX4_reserved_14 (fun H locs hP hD hS => ?_)
    have hP : va_P D vwCl (wM cI cZ h 0 lev tm gn nL nC nE L B C F ys ao) H := hP
    have hD : va_D A (wM cI cZ h 0 lev tm gn nL nC nE L B C F ys ao) := hD
    refine lv_aload_n hx hb dX4_reserved_17 rfl (lv_at hl 0 rfl) ?_
    refine va_get (D := D) (ci := 5) (v := .int 0) (C := RX4) (T := TX4) (N := 28) hx hb hts kX4_reserved_inX4 hown hK hP 0 rfl rfl 0 (by decide) (hts _ kX4_reserved_f78) (fun _ h9 => h9) rfl dX4_reserved_18 ?_
    refine lv_if_ne (x := 0) (tgt := 43) hx hb dX4_reserved_21 (by decide) (fun c21 => ?_) (fun c21 => ?_)
    · exact absurd c21 (by decide)
    · skip
      refine lv_aload_n hx hb dX4_reserved_24 rfl (lv_at hl 0 rfl) ?_
      refine lv_aload_n hx hb dX4_reserved_25 rfl (lv_at hl 0 rfl) ?_
      refine va_get (D := D) (ci := 5) (v := .ref (h 7)) (C := RX4) (T := TX4) (N := 28) hx hb hts kX4_reserved_inX4 hown hK hP 0 rfl rfl 11 (by decide) (hts _ kX4_reserved_f29) (fun _ h9 => h9) rfl dX4_reserved_26 ?_
      refine lv_iload_n hx hb dX4_reserved_29 rfl (lv_at hl 1 rfl) ?_
      refine z_zald (k := k) (v := B 1 k) hx hb hK hP 7 rfl (by decide) (by omega) (rfl) dX4_reserved_30 ?_
      refine lv_iload_n hx hb dX4_reserved_31 rfl (lv_at hl 2 rfl) ?_
      refine lv_icmp_ne (x := B 1 k) (y := bI on) (tgt := 39) hx hb dX4_reserved_32 (by decide) (fun c32 => ?_) (fun c32 => ?_)
      · exact absurd hno c32
      · skip
        refine lv_iconst (v := 2) hx hb dX4_reserved_35 (by decide) ?_
        refine lv_goto (tgt := 40) hx hb dX4_reserved_36 (by decide) ?_
        refine va_put (D := D) (ci := 5) (v := .int 2) (ty := .int) (C := RX4) (T := TX4) (N := 28) hx hb hts kX4_reserved_inX4 tyX4 tyX4_ok nmX4 hown hK hP hD hS 0 rfl rfl 0 (by decide) (hts _ kX4_reserved_f78) (fun _ h9 => h9) rfl (by decide +kernel) rfl rfl (Nat.le_of_ble_eq_true rfl) dX4_reserved_40 (fun H locs hP hD hS => ?_)
        have hP : va_P D vwCl (wM cI cZ h 2 lev tm gn nL nC nE L B C F ys ao) H := hP
        have hD : va_D A (wM cI cZ h 2 lev tm gn nL nC nE L B C F ys ao) := hD
        refine lv_aload_n hx hb dX4_reserved_43 rfl (lv_at hl 0 rfl) ?_
        refine va_get (D := D) (ci := 5) (v := .int 2) (C := RX4) (T := TX4) (N := 28) hx hb hts kX4_reserved_inX4 hown hK hP 0 rfl rfl 0 (by decide) (hts _ kX4_reserved_f78) (fun _ h9 => h9) rfl dX4_reserved_44 ?_
        refine lv_if_le (x := 2) (tgt := 52) hx hb dX4_reserved_47 (by decide) (fun c47 => ?_) (fun c47 => ?_)
        · exact absurd c47 (by decide)
        · skip
          refine lv_iconst (v := 0) hx hb dX4_reserved_50 (by decide) ?_
          exact z_iret hx hb hr hlocks hS hP rfl dX4_reserved_51 (⟨rfl, rfl⟩)
  · exact absurd (h1.symm.trans c6) (by decide)


set_option maxHeartbeats 4000000 in
set_option maxRecDepth 100000 in
theorem tX4_reserved_ok (l : Launch) (D : va_G) (cI cZ cJ : ClassId) (h : Nat → Nat) (cd : Int32) (lev tm : Nat) (gn : Int32) (nL nC nE : Nat) (L B C F : Nat → Nat → Int32) (ys ao : Nat → Int32) (k : Nat) (hk : k < nL) (hL : nL ≤ 4) (hC : nC ≤ 24) (on : Bool) (hyes : ¬ B 1 k = bI on)  : ∀ sz : Nat, zMi l yX4_reserved wsX4_reserved ({ frames := 2, cells := 0, slots := 0, locals := 47 } : Room) D cI cZ cJ (wM cI cZ h cd lev tm gn nL nC nE L B C F ys ao) sz [.ref (h 0), .int (nI k), .int (bI on)] (fun r w' => r = nI (cntW (fun i => isB C i 1 (nI k)) nC + cntW (fun i => isB C i 0 (nI k)) nC) ∧ w' = wM cI cZ h 0 lev tm gn nL nC nE L (upC B 1 k (bI on)) C F ys ao) := by
  intro sz
  refine z_head (y := yX4_reserved) (av := [.ref (h 0), .int (nI k), .int (bI on)]) (w := (wM cI cZ h cd lev tm gn nL nC nE L B C F ys ao)) (Qc := fun A => zQi D (wM cI cZ h cd lev tm gn nL nC nE L B C F ys ao) (fun r w' => r = nI (cntW (fun i => isB C i 1 (nI k)) nC + cntW (fun i => isB C i 0 (nI k)) nC) ∧ w' = wM cI cZ h 0 lev tm gn nL nC nE L (upC B 1 k (bI on)) C F ys ao) A) (cc := cX4_reserved) (maxL := 3) (ret := (some .int)) (by decide) rfl (Nat.le_of_ble_eq_true rfl) ?_
  intro p e s m below meth c ls A hat hP hD hS hl
  obtain ⟨hx, hb, hr, hml, hlocks, hts, hown, hin, hK, hE, hA⟩ := hat
  have hP : va_P D vwCl (wM cI cZ h cd lev tm gn nL nC nE L B C F ys ao) s.heap := hP
  have hD : va_D A (wM cI cZ h cd lev tm gn nL nC nE L B C F ys ao) := hD
  have hl : lv_has ls 3 [(0, .ref (h 0)), (1, .int (nI k)), (2, .int (bI on))] := hl
  have h1 : inB (nI k) 0 (nI nL - 1) = true := inB_ok hk (by omega)
  refine lv_aload_n hx hb dX4_reserved_0 rfl (lv_at hl 0 rfl) ?_
  refine lv_aload_n hx hb dX4_reserved_1 rfl (lv_at hl 0 rfl) ?_
  refine lv_iload_n hx hb dX4_reserved_2 rfl (lv_at hl 1 rfl) ?_
  refine z_backiA (z_runVA (n := 1) (As := [.int (nI k)]) (ci := 5) (rest := [.ref (h 0)]) hx hb hml hown hts hK hE hP hD (tX4_isLift l D cI cZ cJ h cd lev tm gn nL nC nE L B C F ys ao (nI k)  _) gX4_reserved_X4_isLift rfl rfl rfl (by decide +kernel) ⟨Nat.le_of_ble_eq_true rfl, Nat.le_of_ble_eq_true rfl⟩ rfl rfl rfl hl.1 rfl (Nat.le_of_ble_eq_true rfl) dX4_reserved_3 ⟨Nat.zero_le _, Nat.zero_le _⟩) hD hS hA (fun r1 w1 H locs hp1 hP hD hS => ?_)
  obtain ⟨rfl, rfl⟩ := hp1
  have hP : va_P D vwCl (wM cI cZ h cd lev tm gn nL nC nE L B C F ys ao) H := hP
  have hD : va_D A (wM cI cZ h cd lev tm gn nL nC nE L B C F ys ao) := hD
  refine zb_ne (b := (inB (nI k) 0 (nI nL - 1))) (tgt := 13) hx hb dX4_reserved_6 (by decide) (fun c6 => ?_) (fun c6 => ?_)
  · skip
    refine lv_iconst (v := 0) hx hb dX4_reserved_13 (by decide) ?_
    refine va_put (D := D) (ci := 5) (v := .int 0) (ty := .int) (C := RX4) (T := TX4) (N := 28) hx hb hts kX4_reserved_inX4 tyX4 tyX4_ok nmX4 hown hK hP hD hS 0 rfl rfl 0 (by decide) (hts _ kX4_reserved_f78) (fun _ h9 => h9) rfl (by decide +kernel) rfl rfl (Nat.le_of_ble_eq_true rfl) dX4_reserved_14 (fun H locs hP hD hS => ?_)
    have hP : va_P D vwCl (wM cI cZ h 0 lev tm gn nL nC nE L B C F ys ao) H := hP
    have hD : va_D A (wM cI cZ h 0 lev tm gn nL nC nE L B C F ys ao) := hD
    refine lv_aload_n hx hb dX4_reserved_17 rfl (lv_at hl 0 rfl) ?_
    refine va_get (D := D) (ci := 5) (v := .int 0) (C := RX4) (T := TX4) (N := 28) hx hb hts kX4_reserved_inX4 hown hK hP 0 rfl rfl 0 (by decide) (hts _ kX4_reserved_f78) (fun _ h9 => h9) rfl dX4_reserved_18 ?_
    refine lv_if_ne (x := 0) (tgt := 43) hx hb dX4_reserved_21 (by decide) (fun c21 => ?_) (fun c21 => ?_)
    · exact absurd c21 (by decide)
    · skip
      refine lv_aload_n hx hb dX4_reserved_24 rfl (lv_at hl 0 rfl) ?_
      refine lv_aload_n hx hb dX4_reserved_25 rfl (lv_at hl 0 rfl) ?_
      refine va_get (D := D) (ci := 5) (v := .ref (h 7)) (C := RX4) (T := TX4) (N := 28) hx hb hts kX4_reserved_inX4 hown hK hP 0 rfl rfl 11 (by decide) (hts _ kX4_reserved_f29) (fun _ h9 => h9) rfl dX4_reserved_26 ?_
      refine lv_iload_n hx hb dX4_reserved_29 rfl (lv_at hl 1 rfl) ?_
      refine z_zald (k := k) (v := B 1 k) hx hb hK hP 7 rfl (by decide) (by omega) (rfl) dX4_reserved_30 ?_
      refine lv_iload_n hx hb dX4_reserved_31 rfl (lv_at hl 2 rfl) ?_
      refine lv_icmp_ne (x := B 1 k) (y := bI on) (tgt := 39) hx hb dX4_reserved_32 (by decide) (fun c32 => ?_) (fun c32 => ?_)
      · skip
        refine lv_iconst (v := 0) hx hb dX4_reserved_39 (by decide) ?_
        refine va_put (D := D) (ci := 5) (v := .int 0) (ty := .int) (C := RX4) (T := TX4) (N := 28) hx hb hts kX4_reserved_inX4 tyX4 tyX4_ok nmX4 hown hK hP hD hS 0 rfl rfl 0 (by decide) (hts _ kX4_reserved_f78) (fun _ h9 => h9) rfl (by decide +kernel) rfl rfl (Nat.le_of_ble_eq_true rfl) dX4_reserved_40 (fun H locs hP hD hS => ?_)
        have hP : va_P D vwCl (wM cI cZ h 0 lev tm gn nL nC nE L B C F ys ao) H := hP
        have hD : va_D A (wM cI cZ h 0 lev tm gn nL nC nE L B C F ys ao) := hD
        refine lv_aload_n hx hb dX4_reserved_43 rfl (lv_at hl 0 rfl) ?_
        refine va_get (D := D) (ci := 5) (v := .int 0) (C := RX4) (T := TX4) (N := 28) hx hb hts kX4_reserved_inX4 hown hK hP 0 rfl rfl 0 (by decide) (hts _ kX4_reserved_f78) (fun _ h9 => h9) rfl dX4_reserved_44 ?_
        refine lv_if_le (x := 0) (tgt := 52) hx hb dX4_reserved_47 (by decide) (fun c47 => ?_) (fun c47 => ?_)
        · skip
          refine lv_aload_n hx hb dX4_reserved_52 rfl (lv_at hl 0 rfl) ?_
          refine va_get (D := D) (ci := 5) (v := .ref (h 7)) (C := RX4) (T := TX4) (N := 28) hx hb hts kX4_reserved_inX4 hown hK hP 0 rfl rfl 11 (by decide) (hts _ kX4_reserved_f29) (fun _ h9 => h9) rfl dX4_reserved_53 ?_
          refine lv_iload_n hx hb dX4_reserved_56 rfl (lv_at hl 1 rfl) ?_
          refine lv_iload_n hx hb dX4_reserved_57 rfl (lv_at hl 2 rfl) ?_
          refine z_zast (k := k) (x := bI on) hx hb hK hP hD hS 7 rfl (by decide) (by omega) (bI_01 _) dX4_reserved_58 (fun H locs hP hD hS => ?_)
          have hP : va_P D vwCl (wM cI cZ h 0 lev tm gn nL nC nE L (upC B 1 k (bI on)) C F ys ao) H := hP
          have hD : va_D A (wM cI cZ h 0 lev tm gn nL nC nE L (upC B 1 k (bI on)) C F ys ao) := hD
          refine lv_aload_n hx hb dX4_reserved_59 rfl (lv_at hl 0 rfl) ?_
          refine lv_iload_n hx hb dX4_reserved_60 rfl (lv_at hl 1 rfl) ?_
          refine lv_iconst (v := 1) hx hb dX4_reserved_61 (by decide) ?_
          refine z_backiA (z_runVA (n := 2) (As := [.int (nI k), .int 1]) (ci := 5) (rest := []) hx hb hml hown hts hK hE hP hD (tX4_many l D cI cZ cJ h 0 lev tm gn nL nC nE L (upC B 1 k (bI on)) C F ys ao (nI k) 1 (by omega) _) gX4_reserved_X4_many rfl rfl rfl (by decide +kernel) ⟨Nat.le_of_ble_eq_true rfl, Nat.le_of_ble_eq_true rfl⟩ rfl rfl rfl hl.1 rfl (Nat.le_of_ble_eq_true rfl) dX4_reserved_62 ⟨Nat.zero_le _, Nat.zero_le _⟩) hD hS hA (fun r2 w1 H locs hp2 hP hD hS => ?_)
          obtain ⟨rfl, rfl⟩ := hp2
          have hP : va_P D vwCl (wM cI cZ h 0 lev tm gn nL nC nE L (upC B 1 k (bI on)) C F ys ao) H := hP
          have hD : va_D A (wM cI cZ h 0 lev tm gn nL nC nE L (upC B 1 k (bI on)) C F ys ao) := hD
          refine lv_aload_n hx hb dX4_reserved_65 rfl (lv_at hl 0 rfl) ?_
          refine lv_iload_n hx hb dX4_reserved_66 rfl (lv_at hl 1 rfl) ?_
          refine lv_iconst (v := 0) hx hb dX4_reserved_67 (by decide) ?_
          refine z_backiA (z_runVA (n := 2) (As := [.int (nI k), .int 0]) (ci := 5) (rest := [.int (nI (cntW (fun k9 => isB C k9 1 (nI k)) nC))]) hx hb hml hown hts hK hE hP hD (tX4_many l D cI cZ cJ h 0 lev tm gn nL nC nE L (upC B 1 k (bI on)) C F ys ao (nI k) 0 (by omega) _) gX4_reserved_X4_many rfl rfl rfl (by decide +kernel) ⟨Nat.le_of_ble_eq_true rfl, Nat.le_of_ble_eq_true rfl⟩ rfl rfl rfl hl.1 rfl (Nat.le_of_ble_eq_true rfl) dX4_reserved_68 ⟨Nat.zero_le _, Nat.zero_le _⟩) hD hS hA (fun r3 w1 H locs hp3 hP hD hS => ?_)
          obtain ⟨rfl, rfl⟩ := hp3
          have hP : va_P D vwCl (wM cI cZ h 0 lev tm gn nL nC nE L (upC B 1 k (bI on)) C F ys ao) H := hP
          have hD : va_D A (wM cI cZ h 0 lev tm gn nL nC nE L (upC B 1 k (bI on)) C F ys ao) := hD
          refine zn_add (i := cntW (fun k9 => isB C k9 1 (nI k)) nC) (j := cntW (fun k9 => isB C k9 0 (nI k)) nC) hx hb dX4_reserved_71 ?_
          exact z_iret hx hb hr hlocks hS hP rfl dX4_reserved_72 (⟨rfl, rfl⟩)
        · exact absurd c47 (by decide)
      · exact absurd c32 hyes
  · exact absurd (h1.symm.trans c6) (by decide)

theorem kX4_stuck_f78 : Cond.fieldLink RX4 78 "LiftRows2Model" "code" "I" ∈ wsX4_stuck := by decide +kernel
theorem kX4_stuck_inX4 : ∀ w ∈ wsX40, w ∈ wsX4_stuck := by decide +kernel
set_option maxHeartbeats 4000000 in
set_option maxRecDepth 100000 in
theorem tX4_stuck_n1 (l : Launch) (D : va_G) (cI cZ cJ : ClassId) (h : Nat → Nat) (cd : Int32) (lev tm : Nat) (gn : Int32) (nL nC nE : Nat) (L B C F : Nat → Nat → Int32) (ys ao : Nat → Int32) (v : Int32) (hno : inB v 0 (nI nL - 1) = false) (on : Bool)  : ∀ sz : Nat, zMi l yX4_stuck wsX4_stuck ({ frames := 2, cells := 0, slots := 0, locals := 47 } : Room) D cI cZ cJ (wM cI cZ h cd lev tm gn nL nC nE L B C F ys ao) sz [.ref (h 0), .int v, .int (bI on)] (fun r w' => r = 0 ∧ w' = wM cI cZ h 1 lev tm gn nL nC nE L B C F ys ao) := by
  intro sz
  refine z_head (y := yX4_stuck) (av := [.ref (h 0), .int v, .int (bI on)]) (w := (wM cI cZ h cd lev tm gn nL nC nE L B C F ys ao)) (Qc := fun A => zQi D (wM cI cZ h cd lev tm gn nL nC nE L B C F ys ao) (fun r w' => r = 0 ∧ w' = wM cI cZ h 1 lev tm gn nL nC nE L B C F ys ao) A) (cc := cX4_stuck) (maxL := 4) (ret := (some .int)) (by decide) rfl (Nat.le_of_ble_eq_true rfl) ?_
  intro p e s m below meth c ls A hat hP hD hS hl
  obtain ⟨hx, hb, hr, hml, hlocks, hts, hown, hin, hK, hE, hA⟩ := hat
  have hP : va_P D vwCl (wM cI cZ h cd lev tm gn nL nC nE L B C F ys ao) s.heap := hP
  have hD : va_D A (wM cI cZ h cd lev tm gn nL nC nE L B C F ys ao) := hD
  have hl : lv_has ls 4 [(0, .ref (h 0)), (1, .int v), (2, .int (bI on))] := hl
  refine lv_aload_n hx hb dX4_stuck_0 rfl (lv_at hl 0 rfl) ?_
  refine lv_aload_n hx hb dX4_stuck_1 rfl (lv_at hl 0 rfl) ?_
  refine lv_iload_n hx hb dX4_stuck_2 rfl (lv_at hl 1 rfl) ?_
  refine z_backiA (z_runVA (n := 1) (As := [.int v]) (ci := 5) (rest := [.ref (h 0)]) hx hb hml hown hts hK hE hP hD (tX4_isLift l D cI cZ cJ h cd lev tm gn nL nC nE L B C F ys ao v  _) gX4_stuck_X4_isLift rfl rfl rfl (by decide +kernel) ⟨Nat.le_of_ble_eq_true rfl, Nat.le_of_ble_eq_true rfl⟩ rfl rfl rfl hl.1 rfl (Nat.le_of_ble_eq_true rfl) dX4_stuck_3 ⟨Nat.zero_le _, Nat.zero_le _⟩) hD hS hA (fun r1 w1 H locs hp1 hP hD hS => ?_)
  obtain ⟨rfl, rfl⟩ := hp1
  have hP : va_P D vwCl (wM cI cZ h cd lev tm gn nL nC nE L B C F ys ao) H := hP
  have hD : va_D A (wM cI cZ h cd lev tm gn nL nC nE L B C F ys ao) := hD
  refine zb_ne (b := (inB v 0 (nI nL - 1))) (tgt := 13) hx hb dX4_stuck_6 (by decide) (fun c6 => ?_) (fun c6 => ?_)
  · exact absurd (hno.symm.trans c6) (by decide)
  · skip
    refine lv_iconst (v := 1) hx hb dX4_stuck_9 (by decide) ?_
    refine lv_goto (tgt := 14) hx hb dX4_stuck_10 (by decide) ?_
    refine va_put (D := D) (ci := 5) (v := .int 1) (ty := .int) (C := RX4) (T := TX4) (N := 28) hx hb hts kX4_stuck_inX4 tyX4 tyX4_ok nmX4 hown hK hP hD hS 0 rfl rfl 0 (by decide) (hts _ kX4_stuck_f78) (fun _ h9 => h9) rfl (by decide +kernel) rfl rfl (Nat.le_of_ble_eq_true rfl) dX4_stuck_14 (fun H locs hP hD hS => ?_)
    have hP : va_P D vwCl (wM cI cZ h 1 lev tm gn nL nC nE L B C F ys ao) H := hP
    have hD : va_D A (wM cI cZ h 1 lev tm gn nL nC nE L B C F ys ao) := hD
    refine lv_aload_n hx hb dX4_stuck_17 rfl (lv_at hl 0 rfl) ?_
    refine va_get (D := D) (ci := 5) (v := .int 1) (C := RX4) (T := TX4) (N := 28) hx hb hts kX4_stuck_inX4 hown hK hP 0 rfl rfl 0 (by decide) (hts _ kX4_stuck_f78) (fun _ h9 => h9) rfl dX4_stuck_18 ?_
    refine lv_if_ne (x := 1) (tgt := 43) hx hb dX4_stuck_21 (by decide) (fun c21 => ?_) (fun c21 => ?_)
    · skip
      refine lv_aload_n hx hb dX4_stuck_43 rfl (lv_at hl 0 rfl) ?_
      refine va_get (D := D) (ci := 5) (v := .int 1) (C := RX4) (T := TX4) (N := 28) hx hb hts kX4_stuck_inX4 hown hK hP 0 rfl rfl 0 (by decide) (hts _ kX4_stuck_f78) (fun _ h9 => h9) rfl dX4_stuck_44 ?_
      refine lv_if_le (x := 1) (tgt := 52) hx hb dX4_stuck_47 (by decide) (fun c47 => ?_) (fun c47 => ?_)
      · exact absurd c47 (by decide)
      · skip
        refine lv_iconst (v := 0) hx hb dX4_stuck_50 (by decide) ?_
        exact z_iret hx hb hr hlocks hS hP rfl dX4_stuck_51 (⟨rfl, rfl⟩)
    · exact absurd c21 (by decide)

theorem kX4_stuck_f26 : Cond.fieldLink RX4 26 "LiftRows2Model" "stuck" "[Z" ∈ wsX4_stuck := by decide +kernel
set_option maxHeartbeats 4000000 in
set_option maxRecDepth 100000 in
theorem tX4_stuck_n2 (l : Launch) (D : va_G) (cI cZ cJ : ClassId) (h : Nat → Nat) (cd : Int32) (lev tm : Nat) (gn : Int32) (nL nC nE : Nat) (L B C F : Nat → Nat → Int32) (ys ao : Nat → Int32) (k : Nat) (hk : k < nL) (hL : nL ≤ 4) (hC : nC ≤ 24) (on : Bool) (hno : B 0 k = bI on)  : ∀ sz : Nat, zMi l yX4_stuck wsX4_stuck ({ frames := 2, cells := 0, slots := 0, locals := 47 } : Room) D cI cZ cJ (wM cI cZ h cd lev tm gn nL nC nE L B C F ys ao) sz [.ref (h 0), .int (nI k), .int (bI on)] (fun r w' => r = 0 ∧ w' = wM cI cZ h 2 lev tm gn nL nC nE L B C F ys ao) := by
  intro sz
  refine z_head (y := yX4_stuck) (av := [.ref (h 0), .int (nI k), .int (bI on)]) (w := (wM cI cZ h cd lev tm gn nL nC nE L B C F ys ao)) (Qc := fun A => zQi D (wM cI cZ h cd lev tm gn nL nC nE L B C F ys ao) (fun r w' => r = 0 ∧ w' = wM cI cZ h 2 lev tm gn nL nC nE L B C F ys ao) A) (cc := cX4_stuck) (maxL := 4) (ret := (some .int)) (by decide) rfl (Nat.le_of_ble_eq_true rfl) ?_
  intro p e s m below meth c ls A hat hP hD hS hl
  obtain ⟨hx, hb, hr, hml, hlocks, hts, hown, hin, hK, hE, hA⟩ := hat
  have hP : va_P D vwCl (wM cI cZ h cd lev tm gn nL nC nE L B C F ys ao) s.heap := hP
  have hD : va_D A (wM cI cZ h cd lev tm gn nL nC nE L B C F ys ao) := hD
  have hl : lv_has ls 4 [(0, .ref (h 0)), (1, .int (nI k)), (2, .int (bI on))] := hl
  have h1 : inB (nI k) 0 (nI nL - 1) = true := inB_ok hk (by omega)
  refine lv_aload_n hx hb dX4_stuck_0 rfl (lv_at hl 0 rfl) ?_
  refine lv_aload_n hx hb dX4_stuck_1 rfl (lv_at hl 0 rfl) ?_
  refine lv_iload_n hx hb dX4_stuck_2 rfl (lv_at hl 1 rfl) ?_
  refine z_backiA (z_runVA (n := 1) (As := [.int (nI k)]) (ci := 5) (rest := [.ref (h 0)]) hx hb hml hown hts hK hE hP hD (tX4_isLift l D cI cZ cJ h cd lev tm gn nL nC nE L B C F ys ao (nI k)  _) gX4_stuck_X4_isLift rfl rfl rfl (by decide +kernel) ⟨Nat.le_of_ble_eq_true rfl, Nat.le_of_ble_eq_true rfl⟩ rfl rfl rfl hl.1 rfl (Nat.le_of_ble_eq_true rfl) dX4_stuck_3 ⟨Nat.zero_le _, Nat.zero_le _⟩) hD hS hA (fun r1 w1 H locs hp1 hP hD hS => ?_)
  obtain ⟨rfl, rfl⟩ := hp1
  have hP : va_P D vwCl (wM cI cZ h cd lev tm gn nL nC nE L B C F ys ao) H := hP
  have hD : va_D A (wM cI cZ h cd lev tm gn nL nC nE L B C F ys ao) := hD
  refine zb_ne (b := (inB (nI k) 0 (nI nL - 1))) (tgt := 13) hx hb dX4_stuck_6 (by decide) (fun c6 => ?_) (fun c6 => ?_)
  · skip
    refine lv_iconst (v := 0) hx hb dX4_stuck_13 (by decide) ?_
    refine va_put (D := D) (ci := 5) (v := .int 0) (ty := .int) (C := RX4) (T := TX4) (N := 28) hx hb hts kX4_stuck_inX4 tyX4 tyX4_ok nmX4 hown hK hP hD hS 0 rfl rfl 0 (by decide) (hts _ kX4_stuck_f78) (fun _ h9 => h9) rfl (by decide +kernel) rfl rfl (Nat.le_of_ble_eq_true rfl) dX4_stuck_14 (fun H locs hP hD hS => ?_)
    have hP : va_P D vwCl (wM cI cZ h 0 lev tm gn nL nC nE L B C F ys ao) H := hP
    have hD : va_D A (wM cI cZ h 0 lev tm gn nL nC nE L B C F ys ao) := hD
    refine lv_aload_n hx hb dX4_stuck_17 rfl (lv_at hl 0 rfl) ?_
    refine va_get (D := D) (ci := 5) (v := .int 0) (C := RX4) (T := TX4) (N := 28) hx hb hts kX4_stuck_inX4 hown hK hP 0 rfl rfl 0 (by decide) (hts _ kX4_stuck_f78) (fun _ h9 => h9) rfl dX4_stuck_18 ?_
    refine lv_if_ne (x := 0) (tgt := 43) hx hb dX4_stuck_21 (by decide) (fun c21 => ?_) (fun c21 => ?_)
    · exact absurd c21 (by decide)
    · skip
      refine lv_aload_n hx hb dX4_stuck_24 rfl (lv_at hl 0 rfl) ?_
      refine lv_aload_n hx hb dX4_stuck_25 rfl (lv_at hl 0 rfl) ?_
      refine va_get (D := D) (ci := 5) (v := .ref (h 6)) (C := RX4) (T := TX4) (N := 28) hx hb hts kX4_stuck_inX4 hown hK hP 0 rfl rfl 10 (by decide) (hts _ kX4_stuck_f26) (fun _ h9 => h9) rfl dX4_stuck_26 ?_
      refine lv_iload_n hx hb dX4_stuck_29 rfl (lv_at hl 1 rfl) ?_
      refine z_zald (k := k) (v := B 0 k) hx hb hK hP 6 rfl (by decide) (by omega) (rfl) dX4_stuck_30 ?_
      refine lv_iload_n hx hb dX4_stuck_31 rfl (lv_at hl 2 rfl) ?_
      refine lv_icmp_ne (x := B 0 k) (y := bI on) (tgt := 39) hx hb dX4_stuck_32 (by decide) (fun c32 => ?_) (fun c32 => ?_)
      · exact absurd hno c32
      · skip
        refine lv_iconst (v := 2) hx hb dX4_stuck_35 (by decide) ?_
        refine lv_goto (tgt := 40) hx hb dX4_stuck_36 (by decide) ?_
        refine va_put (D := D) (ci := 5) (v := .int 2) (ty := .int) (C := RX4) (T := TX4) (N := 28) hx hb hts kX4_stuck_inX4 tyX4 tyX4_ok nmX4 hown hK hP hD hS 0 rfl rfl 0 (by decide) (hts _ kX4_stuck_f78) (fun _ h9 => h9) rfl (by decide +kernel) rfl rfl (Nat.le_of_ble_eq_true rfl) dX4_stuck_40 (fun H locs hP hD hS => ?_)
        have hP : va_P D vwCl (wM cI cZ h 2 lev tm gn nL nC nE L B C F ys ao) H := hP
        have hD : va_D A (wM cI cZ h 2 lev tm gn nL nC nE L B C F ys ao) := hD
        refine lv_aload_n hx hb dX4_stuck_43 rfl (lv_at hl 0 rfl) ?_
        refine va_get (D := D) (ci := 5) (v := .int 2) (C := RX4) (T := TX4) (N := 28) hx hb hts kX4_stuck_inX4 hown hK hP 0 rfl rfl 0 (by decide) (hts _ kX4_stuck_f78) (fun _ h9 => h9) rfl dX4_stuck_44 ?_
        refine lv_if_le (x := 2) (tgt := 52) hx hb dX4_stuck_47 (by decide) (fun c47 => ?_) (fun c47 => ?_)
        · exact absurd c47 (by decide)
        · skip
          refine lv_iconst (v := 0) hx hb dX4_stuck_50 (by decide) ?_
          exact z_iret hx hb hr hlocks hS hP rfl dX4_stuck_51 (⟨rfl, rfl⟩)
  · exact absurd (h1.symm.trans c6) (by decide)

theorem kX4_stuck_f88 : Cond.fieldLink RX4 88 "LiftRows2Model" "calls" "I" ∈ wsX4_stuck := by decide +kernel
set_option maxHeartbeats 4000000 in
set_option maxRecDepth 100000 in
theorem tX4_stuck_of (l : Launch) (D : va_G) (cI cZ cJ : ClassId) (h : Nat → Nat) (cd : Int32) (lev tm : Nat) (gn : Int32) (nL nC nE : Nat) (L B C F : Nat → Nat → Int32) (ys ao : Nat → Int32) (k : Nat) (hk : k < nL) (hL : nL ≤ 4) (hC : nC ≤ 24) (hyes : ¬ B 0 k = 0)  : ∀ sz : Nat, zMi l yX4_stuck wsX4_stuck ({ frames := 2, cells := 0, slots := 0, locals := 47 } : Room) D cI cZ cJ (wM cI cZ h cd lev tm gn nL nC nE L B C F ys ao) sz [.ref (h 0), .int (nI k), .int (bI false)] (fun r w' => r = nI (cntW (fun i => isB C i 1 (nI k)) nC) ∧ w' = wM cI cZ h 0 lev tm gn nL nC nE L (upC B 0 k 0) C F ys ao) := by
  intro sz
  refine z_head (y := yX4_stuck) (av := [.ref (h 0), .int (nI k), .int (bI false)]) (w := (wM cI cZ h cd lev tm gn nL nC nE L B C F ys ao)) (Qc := fun A => zQi D (wM cI cZ h cd lev tm gn nL nC nE L B C F ys ao) (fun r w' => r = nI (cntW (fun i => isB C i 1 (nI k)) nC) ∧ w' = wM cI cZ h 0 lev tm gn nL nC nE L (upC B 0 k 0) C F ys ao) A) (cc := cX4_stuck) (maxL := 4) (ret := (some .int)) (by decide) rfl (Nat.le_of_ble_eq_true rfl) ?_
  intro p e s m below meth c ls A hat hP hD hS hl
  obtain ⟨hx, hb, hr, hml, hlocks, hts, hown, hin, hK, hE, hA⟩ := hat
  have hP : va_P D vwCl (wM cI cZ h cd lev tm gn nL nC nE L B C F ys ao) s.heap := hP
  have hD : va_D A (wM cI cZ h cd lev tm gn nL nC nE L B C F ys ao) := hD
  have hl : lv_has ls 4 [(0, .ref (h 0)), (1, .int (nI k)), (2, .int (bI false))] := hl
  have h1 : inB (nI k) 0 (nI nL - 1) = true := inB_ok hk (by omega)
  have L61 : ∀ (fu : Nat) (i : Nat), i ≤ nC → nC + 1 ≤ i + fu → ∀ (H : Heap) (locs : List Loc) (ls : Array Slot), lv_has ls 4 [(0, .ref (h 0)), (1, .int (nI k)), (2, .int (bI false)), (3, .int (nI i))] → va_P D vwCl (wM cI cZ h 0 lev tm gn nL nC nE L (upC B 0 k (bI false)) C F ys ao) H → va_D A (wM cI cZ h 0 lev tm gn nL nC nE L (upC B 0 k (bI false)) C F ys ao) → va_S A s.heap H locs → W p l e ({ frames := 2, cells := 0, slots := 0, locals := 47 } : Room) s m ([.ref (h 0), .int (nI k), .int (bI false)] : List Value).toArray below meth c H locs 0 0 (MQ below (zQi D (wM cI cZ h cd lev tm gn nL nC nE L B C F ys ao) (fun r w' => r = nI (cntW (fun i => isB C i 1 (nI k)) nC) ∧ w' = wM cI cZ h 0 lev tm gn nL nC nE L (upC B 0 k 0) C F ys ao) A) ([.ref (h 0), .int (nI k), .int (bI false)] : List Value).toArray s 0 0 A) (F0 m 61 ls []) := by
    intro fu
    induction fu with
    | zero =>
      intro i h1 h2
      exact absurd h2 (by omega)
    | succ fu ih61 =>
      intro i hle hfu  H locs ls hl hP hD hS
      refine lv_iload_n hx hb dX4_stuck_61 rfl (lv_at hl 3 rfl) ?_
      refine lv_aload_n hx hb dX4_stuck_62 rfl (lv_at hl 0 rfl) ?_
      refine va_get (D := D) (ci := 5) (v := .int (nI nC)) (C := RX4) (T := TX4) (N := 28) hx hb hts kX4_stuck_inX4 hown hK hP 0 rfl rfl 12 (by decide) (hts _ kX4_stuck_f88) (fun _ h9 => h9) rfl dX4_stuck_63 ?_
      refine zn_ge (i := i) (j := nC) (tgt := 100) hx hb (by omega) (by omega) dX4_stuck_66 (by decide) (fun c66 => ?_) (fun c66 => ?_)
      · skip
        refine lv_aload_n hx hb dX4_stuck_100 rfl (lv_at hl 0 rfl) ?_
        refine lv_iload_n hx hb dX4_stuck_101 rfl (lv_at hl 1 rfl) ?_
        refine lv_iconst (v := 1) hx hb dX4_stuck_102 (by decide) ?_
        refine z_backiA (z_runVA (n := 2) (As := [.int (nI k), .int 1]) (ci := 5) (rest := []) hx hb hml hown hts hK hE hP hD (tX4_many l D cI cZ cJ h 0 lev tm gn nL nC nE L (upC B 0 k (bI false)) C F ys ao (nI k) 1 (by omega) _) gX4_stuck_X4_many rfl rfl rfl (by decide +kernel) ⟨Nat.le_of_ble_eq_true rfl, Nat.le_of_ble_eq_true rfl⟩ rfl rfl rfl hl.1 rfl (Nat.le_of_ble_eq_true rfl) dX4_stuck_103 ⟨Nat.zero_le _, Nat.zero_le _⟩) hD hS hA (fun r1 w1 H locs hp1 hP hD hS => ?_)
        obtain ⟨rfl, rfl⟩ := hp1
        have hP : va_P D vwCl (wM cI cZ h 0 lev tm gn nL nC nE L (upC B 0 k (bI false)) C F ys ao) H := hP
        have hD : va_D A (wM cI cZ h 0 lev tm gn nL nC nE L (upC B 0 k (bI false)) C F ys ao) := hD
        exact z_iret hx hb hr hlocks hS hP rfl dX4_stuck_106 (⟨rfl, rfl⟩)
      · skip
        refine lv_iload_n hx hb dX4_stuck_69 rfl (lv_at hl 2 rfl) ?_
        refine zb_eq (b := false) (tgt := 100) hx hb dX4_stuck_70 (by decide) (fun c70 => ?_) (fun c70 => ?_)
        · skip
          refine lv_aload_n hx hb dX4_stuck_100 rfl (lv_at hl 0 rfl) ?_
          refine lv_iload_n hx hb dX4_stuck_101 rfl (lv_at hl 1 rfl) ?_
          refine lv_iconst (v := 1) hx hb dX4_stuck_102 (by decide) ?_
          refine z_backiA (z_runVA (n := 2) (As := [.int (nI k), .int 1]) (ci := 5) (rest := []) hx hb hml hown hts hK hE hP hD (tX4_many l D cI cZ cJ h 0 lev tm gn nL nC nE L (upC B 0 k (bI false)) C F ys ao (nI k) 1 (by omega) _) gX4_stuck_X4_many rfl rfl rfl (by decide +kernel) ⟨Nat.le_of_ble_eq_true rfl, Nat.le_of_ble_eq_true rfl⟩ rfl rfl rfl hl.1 rfl (Nat.le_of_ble_eq_true rfl) dX4_stuck_103 ⟨Nat.zero_le _, Nat.zero_le _⟩) hD hS hA (fun r2 w1 H locs hp2 hP hD hS => ?_)
          obtain ⟨rfl, rfl⟩ := hp2
          have hP : va_P D vwCl (wM cI cZ h 0 lev tm gn nL nC nE L (upC B 0 k (bI false)) C F ys ao) H := hP
          have hD : va_D A (wM cI cZ h 0 lev tm gn nL nC nE L (upC B 0 k (bI false)) C F ys ao) := hD
          exact z_iret hx hb hr hlocks hS hP rfl dX4_stuck_106 (⟨rfl, rfl⟩)
        · exact absurd c70 (by decide)
  refine lv_aload_n hx hb dX4_stuck_0 rfl (lv_at hl 0 rfl) ?_
  refine lv_aload_n hx hb dX4_stuck_1 rfl (lv_at hl 0 rfl) ?_
  refine lv_iload_n hx hb dX4_stuck_2 rfl (lv_at hl 1 rfl) ?_
  refine z_backiA (z_runVA (n := 1) (As := [.int (nI k)]) (ci := 5) (rest := [.ref (h 0)]) hx hb hml hown hts hK hE hP hD (tX4_isLift l D cI cZ cJ h cd lev tm gn nL nC nE L B C F ys ao (nI k)  _) gX4_stuck_X4_isLift rfl rfl rfl (by decide +kernel) ⟨Nat.le_of_ble_eq_true rfl, Nat.le_of_ble_eq_true rfl⟩ rfl rfl rfl hl.1 rfl (Nat.le_of_ble_eq_true rfl) dX4_stuck_3 ⟨Nat.zero_le _, Nat.zero_le _⟩) hD hS hA (fun r3 w1 H locs hp3 hP hD hS => ?_)
  obtain ⟨rfl, rfl⟩ := hp3
  have hP : va_P D vwCl (wM cI cZ h cd lev tm gn nL nC nE L B C F ys ao) H := hP
  have hD : va_D A (wM cI cZ h cd lev tm gn nL nC nE L B C F ys ao) := hD
  refine zb_ne (b := (inB (nI k) 0 (nI nL - 1))) (tgt := 13) hx hb dX4_stuck_6 (by decide) (fun c6 => ?_) (fun c6 => ?_)
  · skip
    refine lv_iconst (v := 0) hx hb dX4_stuck_13 (by decide) ?_
    refine va_put (D := D) (ci := 5) (v := .int 0) (ty := .int) (C := RX4) (T := TX4) (N := 28) hx hb hts kX4_stuck_inX4 tyX4 tyX4_ok nmX4 hown hK hP hD hS 0 rfl rfl 0 (by decide) (hts _ kX4_stuck_f78) (fun _ h9 => h9) rfl (by decide +kernel) rfl rfl (Nat.le_of_ble_eq_true rfl) dX4_stuck_14 (fun H locs hP hD hS => ?_)
    have hP : va_P D vwCl (wM cI cZ h 0 lev tm gn nL nC nE L B C F ys ao) H := hP
    have hD : va_D A (wM cI cZ h 0 lev tm gn nL nC nE L B C F ys ao) := hD
    refine lv_aload_n hx hb dX4_stuck_17 rfl (lv_at hl 0 rfl) ?_
    refine va_get (D := D) (ci := 5) (v := .int 0) (C := RX4) (T := TX4) (N := 28) hx hb hts kX4_stuck_inX4 hown hK hP 0 rfl rfl 0 (by decide) (hts _ kX4_stuck_f78) (fun _ h9 => h9) rfl dX4_stuck_18 ?_
    refine lv_if_ne (x := 0) (tgt := 43) hx hb dX4_stuck_21 (by decide) (fun c21 => ?_) (fun c21 => ?_)
    · exact absurd c21 (by decide)
    · skip
      refine lv_aload_n hx hb dX4_stuck_24 rfl (lv_at hl 0 rfl) ?_
      refine lv_aload_n hx hb dX4_stuck_25 rfl (lv_at hl 0 rfl) ?_
      refine va_get (D := D) (ci := 5) (v := .ref (h 6)) (C := RX4) (T := TX4) (N := 28) hx hb hts kX4_stuck_inX4 hown hK hP 0 rfl rfl 10 (by decide) (hts _ kX4_stuck_f26) (fun _ h9 => h9) rfl dX4_stuck_26 ?_
      refine lv_iload_n hx hb dX4_stuck_29 rfl (lv_at hl 1 rfl) ?_
      refine z_zald (k := k) (v := B 0 k) hx hb hK hP 6 rfl (by decide) (by omega) (rfl) dX4_stuck_30 ?_
      refine lv_iload_n hx hb dX4_stuck_31 rfl (lv_at hl 2 rfl) ?_
      refine lv_icmp_ne (x := B 0 k) (y := bI false) (tgt := 39) hx hb dX4_stuck_32 (by decide) (fun c32 => ?_) (fun c32 => ?_)
      · skip
        refine lv_iconst (v := 0) hx hb dX4_stuck_39 (by decide) ?_
        refine va_put (D := D) (ci := 5) (v := .int 0) (ty := .int) (C := RX4) (T := TX4) (N := 28) hx hb hts kX4_stuck_inX4 tyX4 tyX4_ok nmX4 hown hK hP hD hS 0 rfl rfl 0 (by decide) (hts _ kX4_stuck_f78) (fun _ h9 => h9) rfl (by decide +kernel) rfl rfl (Nat.le_of_ble_eq_true rfl) dX4_stuck_40 (fun H locs hP hD hS => ?_)
        have hP : va_P D vwCl (wM cI cZ h 0 lev tm gn nL nC nE L B C F ys ao) H := hP
        have hD : va_D A (wM cI cZ h 0 lev tm gn nL nC nE L B C F ys ao) := hD
        refine lv_aload_n hx hb dX4_stuck_43 rfl (lv_at hl 0 rfl) ?_
        refine va_get (D := D) (ci := 5) (v := .int 0) (C := RX4) (T := TX4) (N := 28) hx hb hts kX4_stuck_inX4 hown hK hP 0 rfl rfl 0 (by decide) (hts _ kX4_stuck_f78) (fun _ h9 => h9) rfl dX4_stuck_44 ?_
        refine lv_if_le (x := 0) (tgt := 52) hx hb dX4_stuck_47 (by decide) (fun c47 => ?_) (fun c47 => ?_)
        · skip
          refine lv_aload_n hx hb dX4_stuck_52 rfl (lv_at hl 0 rfl) ?_
          refine va_get (D := D) (ci := 5) (v := .ref (h 6)) (C := RX4) (T := TX4) (N := 28) hx hb hts kX4_stuck_inX4 hown hK hP 0 rfl rfl 10 (by decide) (hts _ kX4_stuck_f26) (fun _ h9 => h9) rfl dX4_stuck_53 ?_
          refine lv_iload_n hx hb dX4_stuck_56 rfl (lv_at hl 1 rfl) ?_
          refine lv_iload_n hx hb dX4_stuck_57 rfl (lv_at hl 2 rfl) ?_
          refine z_zast (k := k) (x := bI false) hx hb hK hP hD hS 6 rfl (by decide) (by omega) (bI_01 _) dX4_stuck_58 (fun H locs hP hD hS => ?_)
          have hP : va_P D vwCl (wM cI cZ h 0 lev tm gn nL nC nE L (upC B 0 k (bI false)) C F ys ao) H := hP
          have hD : va_D A (wM cI cZ h 0 lev tm gn nL nC nE L (upC B 0 k (bI false)) C F ys ao) := hD
          refine lv_iconst (v := 0) hx hb dX4_stuck_59 (by decide) ?_
          refine lv_istore_n (lv' := [(3, .int 0), (0, .ref (h 0)), (1, .int (nI k)), (2, .int (bI false))]) hx hb dX4_stuck_60 rfl hl (by decide) rfl (fun ls hl => ?_)
          exact L61 (nC + 1) 0 (by omega) (by omega)  H locs ls (lv_sub hl [1, 2, 3, 0] rfl) hP hD hS
        · exact absurd c47 (by decide)
      · exact absurd c32 hyes
  · exact absurd (h1.symm.trans c6) (by decide)

theorem kX4_stuck_f47 : Cond.fieldLink RX4 47 "LiftRows2Model" "liftOf" "[I" ∈ wsX4_stuck := by decide +kernel
set_option maxHeartbeats 4000000 in
set_option maxRecDepth 100000 in
theorem tX4_stuck_on (l : Launch) (D : va_G) (cI cZ cJ : ClassId) (h : Nat → Nat) (cd : Int32) (lev tm : Nat) (gn : Int32) (nL nC nE : Nat) (L B C F : Nat → Nat → Int32) (ys ao : Nat → Int32) (k : Nat) (hk : k < nL) (hL : nL ≤ 4) (hC : nC ≤ 24) (hyes : ¬ B 0 k = 1)  : ∀ sz : Nat, zMi l yX4_stuck wsX4_stuck ({ frames := 2, cells := 0, slots := 0, locals := 47 } : Room) D cI cZ cJ (wM cI cZ h cd lev tm gn nL nC nE L B C F ys ao) sz [.ref (h 0), .int (nI k), .int (bI true)] (fun r w' => r = nI (cntW (fun i => isB (gmF L (upC B 0 k 1) nL (nI k) C nC).1 i 1 (nI k)) nC) ∧ w' = wM cI cZ h 0 lev tm gn nL nC nE L (upC B 0 k 1) ((gmF L (upC B 0 k 1) nL (nI k) C nC).1) F ys ao) := by
  intro sz
  refine z_head (y := yX4_stuck) (av := [.ref (h 0), .int (nI k), .int (bI true)]) (w := (wM cI cZ h cd lev tm gn nL nC nE L B C F ys ao)) (Qc := fun A => zQi D (wM cI cZ h cd lev tm gn nL nC nE L B C F ys ao) (fun r w' => r = nI (cntW (fun i => isB (gmF L (upC B 0 k 1) nL (nI k) C nC).1 i 1 (nI k)) nC) ∧ w' = wM cI cZ h 0 lev tm gn nL nC nE L (upC B 0 k 1) ((gmF L (upC B 0 k 1) nL (nI k) C nC).1) F ys ao) A) (cc := cX4_stuck) (maxL := 4) (ret := (some .int)) (by decide) rfl (Nat.le_of_ble_eq_true rfl) ?_
  intro p e s m below meth c ls A hat hP hD hS hl
  obtain ⟨hx, hb, hr, hml, hlocks, hts, hown, hin, hK, hE, hA⟩ := hat
  have hP : va_P D vwCl (wM cI cZ h cd lev tm gn nL nC nE L B C F ys ao) s.heap := hP
  have hD : va_D A (wM cI cZ h cd lev tm gn nL nC nE L B C F ys ao) := hD
  have hl : lv_has ls 4 [(0, .ref (h 0)), (1, .int (nI k)), (2, .int (bI true))] := hl
  have h1 : inB (nI k) 0 (nI nL - 1) = true := inB_ok hk (by omega)
  have L61 : ∀ (fu : Nat) (i : Nat) (C1 : Nat → Nat → Int32), i ≤ nC → nC + 1 ≤ i + fu → (C1 = (gmF L (upC B 0 k 1) nL (nI k) C i).1) → ∀ (H : Heap) (locs : List Loc) (ls : Array Slot), lv_has ls 4 [(0, .ref (h 0)), (1, .int (nI k)), (2, .int (bI true)), (3, .int (nI i))] → va_P D vwCl (wM cI cZ h 0 lev tm gn nL nC nE L (upC B 0 k (bI true)) C1 F ys ao) H → va_D A (wM cI cZ h 0 lev tm gn nL nC nE L (upC B 0 k (bI true)) C1 F ys ao) → va_S A s.heap H locs → W p l e ({ frames := 2, cells := 0, slots := 0, locals := 47 } : Room) s m ([.ref (h 0), .int (nI k), .int (bI true)] : List Value).toArray below meth c H locs 0 0 (MQ below (zQi D (wM cI cZ h cd lev tm gn nL nC nE L B C F ys ao) (fun r w' => r = nI (cntW (fun i => isB (gmF L (upC B 0 k 1) nL (nI k) C nC).1 i 1 (nI k)) nC) ∧ w' = wM cI cZ h 0 lev tm gn nL nC nE L (upC B 0 k 1) ((gmF L (upC B 0 k 1) nL (nI k) C nC).1) F ys ao) A) ([.ref (h 0), .int (nI k), .int (bI true)] : List Value).toArray s 0 0 A) (F0 m 61 ls []) := by
    intro fu
    induction fu with
    | zero =>
      intro i C1 h1 h2
      exact absurd h2 (by omega)
    | succ fu ih61 =>
      intro i C1 hle hfu ex H locs ls hl hP hD hS
      refine lv_iload_n hx hb dX4_stuck_61 rfl (lv_at hl 3 rfl) ?_
      refine lv_aload_n hx hb dX4_stuck_62 rfl (lv_at hl 0 rfl) ?_
      refine va_get (D := D) (ci := 5) (v := .int (nI nC)) (C := RX4) (T := TX4) (N := 28) hx hb hts kX4_stuck_inX4 hown hK hP 0 rfl rfl 12 (by decide) (hts _ kX4_stuck_f88) (fun _ h9 => h9) rfl dX4_stuck_63 ?_
      refine zn_ge (i := i) (j := nC) (tgt := 100) hx hb (by omega) (by omega) dX4_stuck_66 (by decide) (fun c66 => ?_) (fun c66 => ?_)
      · skip
        refine lv_aload_n hx hb dX4_stuck_100 rfl (lv_at hl 0 rfl) ?_
        refine lv_iload_n hx hb dX4_stuck_101 rfl (lv_at hl 1 rfl) ?_
        refine lv_iconst (v := 1) hx hb dX4_stuck_102 (by decide) ?_
        refine z_backiA (z_runVA (n := 2) (As := [.int (nI k), .int 1]) (ci := 5) (rest := []) hx hb hml hown hts hK hE hP hD (tX4_many l D cI cZ cJ h 0 lev tm gn nL nC nE L (upC B 0 k (bI true)) C1 F ys ao (nI k) 1 (by omega) _) gX4_stuck_X4_many rfl rfl rfl (by decide +kernel) ⟨Nat.le_of_ble_eq_true rfl, Nat.le_of_ble_eq_true rfl⟩ rfl rfl rfl hl.1 rfl (Nat.le_of_ble_eq_true rfl) dX4_stuck_103 ⟨Nat.zero_le _, Nat.zero_le _⟩) hD hS hA (fun r1 w1 H locs hp1 hP hD hS => ?_)
        obtain ⟨rfl, rfl⟩ := hp1
        have hP : va_P D vwCl (wM cI cZ h 0 lev tm gn nL nC nE L (upC B 0 k (bI true)) C1 F ys ao) H := hP
        have hD : va_D A (wM cI cZ h 0 lev tm gn nL nC nE L (upC B 0 k (bI true)) C1 F ys ao) := hD
        exact z_iret hx hb hr hlocks hS hP rfl dX4_stuck_106 (⟨by rw [ex, show i = nC by omega], by rw [ex, show i = nC by omega]; rfl⟩)
      · skip
        refine lv_iload_n hx hb dX4_stuck_69 rfl (lv_at hl 2 rfl) ?_
        refine zb_eq (b := true) (tgt := 100) hx hb dX4_stuck_70 (by decide) (fun c70 => ?_) (fun c70 => ?_)
        · exact absurd c70 (by decide)
        · skip
          refine lv_aload_n hx hb dX4_stuck_73 rfl (lv_at hl 0 rfl) ?_
          refine lv_iload_n hx hb dX4_stuck_74 rfl (lv_at hl 3 rfl) ?_
          refine lv_iload_n hx hb dX4_stuck_75 rfl (lv_at hl 1 rfl) ?_
          refine lv_iconst (v := 0) hx hb dX4_stuck_76 (by decide) ?_
          refine z_backiA (z_runVA (n := 3) (As := [.int (nI i), .int (nI k), .int 0]) (ci := 5) (rest := []) hx hb hml hown hts hK hE hP hD (tX4_is l D cI cZ cJ h 0 lev tm gn nL nC nE L (upC B 0 k (bI true)) C1 F ys ao i (nI k) 0 (by omega) _) gX4_stuck_X4_is rfl rfl rfl (by decide +kernel) ⟨Nat.le_of_ble_eq_true rfl, Nat.le_of_ble_eq_true rfl⟩ rfl rfl rfl hl.1 rfl (Nat.le_of_ble_eq_true rfl) dX4_stuck_77 ⟨Nat.zero_le _, Nat.zero_le _⟩) hD hS hA (fun r2 w1 H locs hp2 hP hD hS => ?_)
          obtain ⟨rfl, rfl⟩ := hp2
          have hP : va_P D vwCl (wM cI cZ h 0 lev tm gn nL nC nE L (upC B 0 k (bI true)) C1 F ys ao) H := hP
          have hD : va_D A (wM cI cZ h 0 lev tm gn nL nC nE L (upC B 0 k (bI true)) C1 F ys ao) := hD
          refine zb_eq (b := (isB C1 i 0 (nI k))) (tgt := 94) hx hb dX4_stuck_80 (by decide) (fun c80 => ?_) (fun c80 => ?_)
          · skip
            refine lv_iinc (v := nI (i + 1)) (lv' := [(3, .int (nI (i + 1))), (0, .ref (h 0)), (1, .int (nI k)), (2, .int (bI true))]) hx hb dX4_stuck_94 hl (k := 3) rfl (by rw [show Int32.ofInt 1 = nI 1 from rfl, nI_add]) (by decide) rfl (fun ls hl => ?_)
            refine lv_goto (tgt := 61) hx hb dX4_stuck_97 (by decide) ?_
            exact ih61 (i + 1) C1 (by omega) (by omega) (by rw [gmF, ← ex]; simp [c66, c70, c80]; try (first | rfl | exact ex)) H locs ls (lv_sub hl [1, 2, 3, 0] rfl) hP hD hS
          · skip
            refine lv_aload_n hx hb dX4_stuck_83 rfl (lv_at hl 0 rfl) ?_
            refine va_get (D := D) (ci := 5) (v := .ref (h 13)) (C := RX4) (T := TX4) (N := 28) hx hb hts kX4_stuck_inX4 hown hK hP 0 rfl rfl 18 (by decide) (hts _ kX4_stuck_f47) (fun _ h9 => h9) rfl dX4_stuck_84 ?_
            refine lv_iload_n hx hb dX4_stuck_87 rfl (lv_at hl 3 rfl) ?_
            refine lv_aload_n hx hb dX4_stuck_88 rfl (lv_at hl 0 rfl) ?_
            refine lv_iload_n hx hb dX4_stuck_89 rfl (lv_at hl 3 rfl) ?_
            refine z_backiA (z_runVA (n := 1) (As := [.int (nI i)]) (ci := 5) (rest := [.int (nI i), .ref (h 13)]) hx hb hml hown hts hK hE hP hD (tX4_nearest l D cI cZ cJ h 0 lev tm gn nL nC nE L (upC B 0 k (bI true)) C1 F ys ao i (by omega) (by omega) _) gX4_stuck_X4_nearest rfl rfl rfl (by decide +kernel) ⟨Nat.le_of_ble_eq_true rfl, Nat.le_of_ble_eq_true rfl⟩ rfl rfl rfl hl.1 rfl (Nat.le_of_ble_eq_true rfl) dX4_stuck_90 ⟨Nat.zero_le _, Nat.zero_le _⟩) hD hS hA (fun r3 w1 H locs hp3 hP hD hS => ?_)
            obtain ⟨rfl, rfl⟩ := hp3
            have hP : va_P D vwCl (wM cI cZ h 0 lev tm gn nL nC nE L (upC B 0 k (bI true)) C1 F ys ao) H := hP
            have hD : va_D A (wM cI cZ h 0 lev tm gn nL nC nE L (upC B 0 k (bI true)) C1 F ys ao) := hD
            refine z_iast (k := i) (x := encO (nmF L (upC B 0 k (bI true)) (C1 0 i) (C1 3 i) nL)) hx hb hK hP hD hS 13 rfl (by decide) (by omega) dX4_stuck_93 (fun H locs hP hD hS => ?_)
            have hP : va_P D vwCl (wM cI cZ h 0 lev tm gn nL nC nE L (upC B 0 k (bI true)) (upC C1 5 i (encO (nmF L (upC B 0 k (bI true)) (C1 0 i) (C1 3 i) nL))) F ys ao) H := hP
            have hD : va_D A (wM cI cZ h 0 lev tm gn nL nC nE L (upC B 0 k (bI true)) (upC C1 5 i (encO (nmF L (upC B 0 k (bI true)) (C1 0 i) (C1 3 i) nL))) F ys ao) := hD
            refine lv_iinc (v := nI (i + 1)) (lv' := [(3, .int (nI (i + 1))), (0, .ref (h 0)), (1, .int (nI k)), (2, .int (bI true))]) hx hb dX4_stuck_94 hl (k := 3) rfl (by rw [show Int32.ofInt 1 = nI 1 from rfl, nI_add]) (by decide) rfl (fun ls hl => ?_)
            refine lv_goto (tgt := 61) hx hb dX4_stuck_97 (by decide) ?_
            exact ih61 (i + 1) (upC C1 5 i (encO (nmF L (upC B 0 k (bI true)) (C1 0 i) (C1 3 i) nL))) (by omega) (by omega) (by rw [gmF, ← ex]; simp [c66, c70, c80]; try (first | rfl | exact ex)) H locs ls (lv_sub hl [1, 2, 3, 0] rfl) hP hD hS
  refine lv_aload_n hx hb dX4_stuck_0 rfl (lv_at hl 0 rfl) ?_
  refine lv_aload_n hx hb dX4_stuck_1 rfl (lv_at hl 0 rfl) ?_
  refine lv_iload_n hx hb dX4_stuck_2 rfl (lv_at hl 1 rfl) ?_
  refine z_backiA (z_runVA (n := 1) (As := [.int (nI k)]) (ci := 5) (rest := [.ref (h 0)]) hx hb hml hown hts hK hE hP hD (tX4_isLift l D cI cZ cJ h cd lev tm gn nL nC nE L B C F ys ao (nI k)  _) gX4_stuck_X4_isLift rfl rfl rfl (by decide +kernel) ⟨Nat.le_of_ble_eq_true rfl, Nat.le_of_ble_eq_true rfl⟩ rfl rfl rfl hl.1 rfl (Nat.le_of_ble_eq_true rfl) dX4_stuck_3 ⟨Nat.zero_le _, Nat.zero_le _⟩) hD hS hA (fun r4 w1 H locs hp4 hP hD hS => ?_)
  obtain ⟨rfl, rfl⟩ := hp4
  have hP : va_P D vwCl (wM cI cZ h cd lev tm gn nL nC nE L B C F ys ao) H := hP
  have hD : va_D A (wM cI cZ h cd lev tm gn nL nC nE L B C F ys ao) := hD
  refine zb_ne (b := (inB (nI k) 0 (nI nL - 1))) (tgt := 13) hx hb dX4_stuck_6 (by decide) (fun c6 => ?_) (fun c6 => ?_)
  · skip
    refine lv_iconst (v := 0) hx hb dX4_stuck_13 (by decide) ?_
    refine va_put (D := D) (ci := 5) (v := .int 0) (ty := .int) (C := RX4) (T := TX4) (N := 28) hx hb hts kX4_stuck_inX4 tyX4 tyX4_ok nmX4 hown hK hP hD hS 0 rfl rfl 0 (by decide) (hts _ kX4_stuck_f78) (fun _ h9 => h9) rfl (by decide +kernel) rfl rfl (Nat.le_of_ble_eq_true rfl) dX4_stuck_14 (fun H locs hP hD hS => ?_)
    have hP : va_P D vwCl (wM cI cZ h 0 lev tm gn nL nC nE L B C F ys ao) H := hP
    have hD : va_D A (wM cI cZ h 0 lev tm gn nL nC nE L B C F ys ao) := hD
    refine lv_aload_n hx hb dX4_stuck_17 rfl (lv_at hl 0 rfl) ?_
    refine va_get (D := D) (ci := 5) (v := .int 0) (C := RX4) (T := TX4) (N := 28) hx hb hts kX4_stuck_inX4 hown hK hP 0 rfl rfl 0 (by decide) (hts _ kX4_stuck_f78) (fun _ h9 => h9) rfl dX4_stuck_18 ?_
    refine lv_if_ne (x := 0) (tgt := 43) hx hb dX4_stuck_21 (by decide) (fun c21 => ?_) (fun c21 => ?_)
    · exact absurd c21 (by decide)
    · skip
      refine lv_aload_n hx hb dX4_stuck_24 rfl (lv_at hl 0 rfl) ?_
      refine lv_aload_n hx hb dX4_stuck_25 rfl (lv_at hl 0 rfl) ?_
      refine va_get (D := D) (ci := 5) (v := .ref (h 6)) (C := RX4) (T := TX4) (N := 28) hx hb hts kX4_stuck_inX4 hown hK hP 0 rfl rfl 10 (by decide) (hts _ kX4_stuck_f26) (fun _ h9 => h9) rfl dX4_stuck_26 ?_
      refine lv_iload_n hx hb dX4_stuck_29 rfl (lv_at hl 1 rfl) ?_
      refine z_zald (k := k) (v := B 0 k) hx hb hK hP 6 rfl (by decide) (by omega) (rfl) dX4_stuck_30 ?_
      refine lv_iload_n hx hb dX4_stuck_31 rfl (lv_at hl 2 rfl) ?_
      refine lv_icmp_ne (x := B 0 k) (y := bI true) (tgt := 39) hx hb dX4_stuck_32 (by decide) (fun c32 => ?_) (fun c32 => ?_)
      · skip
        refine lv_iconst (v := 0) hx hb dX4_stuck_39 (by decide) ?_
        refine va_put (D := D) (ci := 5) (v := .int 0) (ty := .int) (C := RX4) (T := TX4) (N := 28) hx hb hts kX4_stuck_inX4 tyX4 tyX4_ok nmX4 hown hK hP hD hS 0 rfl rfl 0 (by decide) (hts _ kX4_stuck_f78) (fun _ h9 => h9) rfl (by decide +kernel) rfl rfl (Nat.le_of_ble_eq_true rfl) dX4_stuck_40 (fun H locs hP hD hS => ?_)
        have hP : va_P D vwCl (wM cI cZ h 0 lev tm gn nL nC nE L B C F ys ao) H := hP
        have hD : va_D A (wM cI cZ h 0 lev tm gn nL nC nE L B C F ys ao) := hD
        refine lv_aload_n hx hb dX4_stuck_43 rfl (lv_at hl 0 rfl) ?_
        refine va_get (D := D) (ci := 5) (v := .int 0) (C := RX4) (T := TX4) (N := 28) hx hb hts kX4_stuck_inX4 hown hK hP 0 rfl rfl 0 (by decide) (hts _ kX4_stuck_f78) (fun _ h9 => h9) rfl dX4_stuck_44 ?_
        refine lv_if_le (x := 0) (tgt := 52) hx hb dX4_stuck_47 (by decide) (fun c47 => ?_) (fun c47 => ?_)
        · skip
          refine lv_aload_n hx hb dX4_stuck_52 rfl (lv_at hl 0 rfl) ?_
          refine va_get (D := D) (ci := 5) (v := .ref (h 6)) (C := RX4) (T := TX4) (N := 28) hx hb hts kX4_stuck_inX4 hown hK hP 0 rfl rfl 10 (by decide) (hts _ kX4_stuck_f26) (fun _ h9 => h9) rfl dX4_stuck_53 ?_
          refine lv_iload_n hx hb dX4_stuck_56 rfl (lv_at hl 1 rfl) ?_
          refine lv_iload_n hx hb dX4_stuck_57 rfl (lv_at hl 2 rfl) ?_
          refine z_zast (k := k) (x := bI true) hx hb hK hP hD hS 6 rfl (by decide) (by omega) (bI_01 _) dX4_stuck_58 (fun H locs hP hD hS => ?_)
          have hP : va_P D vwCl (wM cI cZ h 0 lev tm gn nL nC nE L (upC B 0 k (bI true)) C F ys ao) H := hP
          have hD : va_D A (wM cI cZ h 0 lev tm gn nL nC nE L (upC B 0 k (bI true)) C F ys ao) := hD
          refine lv_iconst (v := 0) hx hb dX4_stuck_59 (by decide) ?_
          refine lv_istore_n (lv' := [(3, .int 0), (0, .ref (h 0)), (1, .int (nI k)), (2, .int (bI true))]) hx hb dX4_stuck_60 rfl hl (by decide) rfl (fun ls hl => ?_)
          exact L61 (nC + 1) 0 C (by omega) (by omega) (rfl) H locs ls (lv_sub hl [1, 2, 3, 0] rfl) hP hD hS
        · exact absurd c47 (by decide)
      · exact absurd c32 hyes
  · exact absurd (h1.symm.trans c6) (by decide)

theorem kX4_freed_inX4 : ∀ w ∈ wsX40, w ∈ wsX4_freed := by decide +kernel
theorem kX4_freed_f88 : Cond.fieldLink RX4 88 "LiftRows2Model" "calls" "I" ∈ wsX4_freed := by decide +kernel
theorem kX4_freed_f47 : Cond.fieldLink RX4 47 "LiftRows2Model" "liftOf" "[I" ∈ wsX4_freed := by decide +kernel
theorem kX4_freed_f78 : Cond.fieldLink RX4 78 "LiftRows2Model" "code" "I" ∈ wsX4_freed := by decide +kernel
set_option maxHeartbeats 4000000 in
set_option maxRecDepth 100000 in
theorem tX4_freed (l : Launch) (D : va_G) (cI cZ cJ : ClassId) (h : Nat → Nat) (cd : Int32) (lev tm : Nat) (gn : Int32) (nL nC nE : Nat) (L B C F : Nat → Nat → Int32) (ys ao : Nat → Int32) (hL : nL ≤ 4) (hC : nC ≤ 24)  : ∀ sz : Nat, zMi l yX4_freed wsX4_freed ({ frames := 2, cells := 0, slots := 0, locals := 44 } : Room) D cI cZ cJ (wM cI cZ h cd lev tm gn nL nC nE L B C F ys ao) sz [.ref (h 0)] (fun r w' => r = (gmF L B nL (-1) C nC).2 ∧ w' = wM cI cZ h 0 lev tm gn nL nC nE L B ((gmF L B nL (-1) C nC).1) F ys ao) := by
  intro sz
  refine z_head (y := yX4_freed) (av := [.ref (h 0)]) (w := (wM cI cZ h cd lev tm gn nL nC nE L B C F ys ao)) (Qc := fun A => zQi D (wM cI cZ h cd lev tm gn nL nC nE L B C F ys ao) (fun r w' => r = (gmF L B nL (-1) C nC).2 ∧ w' = wM cI cZ h 0 lev tm gn nL nC nE L B ((gmF L B nL (-1) C nC).1) F ys ao) A) (cc := cX4_freed) (maxL := 3) (ret := (some .int)) (by decide) rfl (Nat.le_of_ble_eq_true rfl) ?_
  intro p e s m below meth c ls A hat hP hD hS hl
  obtain ⟨hx, hb, hr, hml, hlocks, hts, hown, hin, hK, hE, hA⟩ := hat
  have hP : va_P D vwCl (wM cI cZ h cd lev tm gn nL nC nE L B C F ys ao) s.heap := hP
  have hD : va_D A (wM cI cZ h cd lev tm gn nL nC nE L B C F ys ao) := hD
  have hl : lv_has ls 3 [(0, .ref (h 0))] := hl
  have L9 : ∀ (fu : Nat) (i : Nat) (C1 : Nat → Nat → Int32) (x : Int32), i ≤ nC → nC + 1 ≤ i + fu → ((C1, x) = gmF L B nL (-1) C i) → ∀ (H : Heap) (locs : List Loc) (ls : Array Slot), lv_has ls 3 [(0, .ref (h 0)), (1, .int x), (2, .int (nI i))] → va_P D vwCl (wM cI cZ h 0 lev tm gn nL nC nE L B C1 F ys ao) H → va_D A (wM cI cZ h 0 lev tm gn nL nC nE L B C1 F ys ao) → va_S A s.heap H locs → W p l e ({ frames := 2, cells := 0, slots := 0, locals := 44 } : Room) s m ([.ref (h 0)] : List Value).toArray below meth c H locs 0 0 (MQ below (zQi D (wM cI cZ h cd lev tm gn nL nC nE L B C F ys ao) (fun r w' => r = (gmF L B nL (-1) C nC).2 ∧ w' = wM cI cZ h 0 lev tm gn nL nC nE L B ((gmF L B nL (-1) C nC).1) F ys ao) A) ([.ref (h 0)] : List Value).toArray s 0 0 A) (F0 m 9 ls []) := by
    intro fu
    induction fu with
    | zero =>
      intro i C1 x h1 h2
      exact absurd h2 (by omega)
    | succ fu ih9 =>
      intro i C1 x hle hfu ex H locs ls hl hP hD hS
      have L57 : ∀ (y : Int32), (i < nC) → (isB C1 i 0 (-1) = true) → (y = if encO (nmF L B (C1 0 i) (C1 3 i) nL) = -1 then 0 else 1) → ∀ (H : Heap) (locs : List Loc) (ls : Array Slot), lv_has ls 3 [(0, .ref (h 0)), (1, .int x), (2, .int (nI i))] → va_P D vwCl (wM cI cZ h 0 lev tm gn nL nC nE L B (upC C1 5 i (encO (nmF L B (C1 0 i) (C1 3 i) nL))) F ys ao) H → va_D A (wM cI cZ h 0 lev tm gn nL nC nE L B (upC C1 5 i (encO (nmF L B (C1 0 i) (C1 3 i) nL))) F ys ao) → va_S A s.heap H locs → W p l e ({ frames := 2, cells := 0, slots := 0, locals := 44 } : Room) s m ([.ref (h 0)] : List Value).toArray below meth c H locs 0 0 (MQ below (zQi D (wM cI cZ h cd lev tm gn nL nC nE L B C F ys ao) (fun r w' => r = (gmF L B nL (-1) C nC).2 ∧ w' = wM cI cZ h 0 lev tm gn nL nC nE L B ((gmF L B nL (-1) C nC).1) F ys ao) A) ([.ref (h 0)] : List Value).toArray s 0 0 A) (F0 m 57 ls [.int y, .int x]) := by
        intro y hlt c24 ez H locs ls hl hP hD hS
        refine lv_iadd (x := x) (y := y) hx hb dX4_freed_57 ?_
        refine lv_istore_n (lv' := [(1, .int (x + y)), (0, .ref (h 0)), (2, .int (nI i))]) hx hb dX4_freed_58 rfl hl (by decide) rfl (fun ls hl => ?_)
        refine lv_iinc (v := nI (i + 1)) (lv' := [(2, .int (nI (i + 1))), (1, .int (x + y)), (0, .ref (h 0))]) hx hb dX4_freed_59 hl (k := 2) rfl (by rw [show Int32.ofInt 1 = nI 1 from rfl, nI_add]) (by decide) rfl (fun ls hl => ?_)
        refine lv_goto (tgt := 9) hx hb dX4_freed_62 (by decide) ?_
        exact ih9 (i + 1) (upC C1 5 i (encO (nmF L B (C1 0 i) (C1 3 i) nL))) (x + y) (by omega) (by omega) (by rw [gmF, ← ex, ← ez]; simp [c24]) H locs ls (lv_sub hl [2, 1, 0] rfl) hP hD hS
      refine lv_iload_n hx hb dX4_freed_9 rfl (lv_at hl 2 rfl) ?_
      refine lv_aload_n hx hb dX4_freed_10 rfl (lv_at hl 0 rfl) ?_
      refine va_get (D := D) (ci := 5) (v := .int (nI nC)) (C := RX4) (T := TX4) (N := 28) hx hb hts kX4_freed_inX4 hown hK hP 0 rfl rfl 12 (by decide) (hts _ kX4_freed_f88) (fun _ h9 => h9) rfl dX4_freed_11 ?_
      refine zn_ge (i := i) (j := nC) (tgt := 65) hx hb (by omega) (by omega) dX4_freed_14 (by decide) (fun c14 => ?_) (fun c14 => ?_)
      · skip
        refine lv_iload_n hx hb dX4_freed_65 rfl (lv_at hl 1 rfl) ?_
        exact z_iret hx hb hr hlocks hS hP rfl dX4_freed_66 (⟨by rw [← show i = nC by omega, ← ex], by rw [← show i = nC by omega, ← ex]⟩)
      · skip
        refine lv_aload_n hx hb dX4_freed_17 rfl (lv_at hl 0 rfl) ?_
        refine lv_iload_n hx hb dX4_freed_18 rfl (lv_at hl 2 rfl) ?_
        refine lv_iconst (v := (-1)) hx hb dX4_freed_19 (by decide) ?_
        refine lv_iconst (v := 0) hx hb dX4_freed_20 (by decide) ?_
        refine z_backiA (z_runVA (n := 3) (As := [.int (nI i), .int (-1), .int 0]) (ci := 5) (rest := []) hx hb hml hown hts hK hE hP hD (tX4_is l D cI cZ cJ h 0 lev tm gn nL nC nE L B C1 F ys ao i (-1) 0 (by omega) _) gX4_freed_X4_is rfl rfl rfl (by decide +kernel) ⟨Nat.le_of_ble_eq_true rfl, Nat.le_of_ble_eq_true rfl⟩ rfl rfl rfl hl.1 rfl (Nat.le_of_ble_eq_true rfl) dX4_freed_21 ⟨Nat.zero_le _, Nat.zero_le _⟩) hD hS hA (fun r1 w1 H locs hp1 hP hD hS => ?_)
        obtain ⟨rfl, rfl⟩ := hp1
        have hP : va_P D vwCl (wM cI cZ h 0 lev tm gn nL nC nE L B C1 F ys ao) H := hP
        have hD : va_D A (wM cI cZ h 0 lev tm gn nL nC nE L B C1 F ys ao) := hD
        refine zb_ne (b := (isB C1 i 0 (-1))) (tgt := 30) hx hb dX4_freed_24 (by decide) (fun c24 => ?_) (fun c24 => ?_)
        · skip
          refine lv_aload_n hx hb dX4_freed_30 rfl (lv_at hl 0 rfl) ?_
          refine va_get (D := D) (ci := 5) (v := .ref (h 13)) (C := RX4) (T := TX4) (N := 28) hx hb hts kX4_freed_inX4 hown hK hP 0 rfl rfl 18 (by decide) (hts _ kX4_freed_f47) (fun _ h9 => h9) rfl dX4_freed_31 ?_
          refine lv_iload_n hx hb dX4_freed_34 rfl (lv_at hl 2 rfl) ?_
          refine lv_aload_n hx hb dX4_freed_35 rfl (lv_at hl 0 rfl) ?_
          refine lv_iload_n hx hb dX4_freed_36 rfl (lv_at hl 2 rfl) ?_
          refine z_backiA (z_runVA (n := 1) (As := [.int (nI i)]) (ci := 5) (rest := [.int (nI i), .ref (h 13)]) hx hb hml hown hts hK hE hP hD (tX4_nearest l D cI cZ cJ h 0 lev tm gn nL nC nE L B C1 F ys ao i (by omega) (by omega) _) gX4_freed_X4_nearest rfl rfl rfl (by decide +kernel) ⟨Nat.le_of_ble_eq_true rfl, Nat.le_of_ble_eq_true rfl⟩ rfl rfl rfl hl.1 rfl (Nat.le_of_ble_eq_true rfl) dX4_freed_37 ⟨Nat.zero_le _, Nat.zero_le _⟩) hD hS hA (fun r2 w1 H locs hp2 hP hD hS => ?_)
          obtain ⟨rfl, rfl⟩ := hp2
          have hP : va_P D vwCl (wM cI cZ h 0 lev tm gn nL nC nE L B C1 F ys ao) H := hP
          have hD : va_D A (wM cI cZ h 0 lev tm gn nL nC nE L B C1 F ys ao) := hD
          refine z_iast (k := i) (x := encO (nmF L B (C1 0 i) (C1 3 i) nL)) hx hb hK hP hD hS 13 rfl (by decide) (by omega) dX4_freed_40 (fun H locs hP hD hS => ?_)
          have hP : va_P D vwCl (wM cI cZ h 0 lev tm gn nL nC nE L B (upC C1 5 i (encO (nmF L B (C1 0 i) (C1 3 i) nL))) F ys ao) H := hP
          have hD : va_D A (wM cI cZ h 0 lev tm gn nL nC nE L B (upC C1 5 i (encO (nmF L B (C1 0 i) (C1 3 i) nL))) F ys ao) := hD
          refine lv_iload_n hx hb dX4_freed_41 rfl (lv_at hl 1 rfl) ?_
          refine lv_aload_n hx hb dX4_freed_42 rfl (lv_at hl 0 rfl) ?_
          refine va_get (D := D) (ci := 5) (v := .ref (h 13)) (C := RX4) (T := TX4) (N := 28) hx hb hts kX4_freed_inX4 hown hK hP 0 rfl rfl 18 (by decide) (hts _ kX4_freed_f47) (fun _ h9 => h9) rfl dX4_freed_43 ?_
          refine lv_iload_n hx hb dX4_freed_46 rfl (lv_at hl 2 rfl) ?_
          refine z_iald (k := i) (v := encO (nmF L B (C1 0 i) (C1 3 i) nL)) hx hb hK hP 13 rfl (by decide) (by omega) (by rw [upC_s]) dX4_freed_47 ?_
          refine lv_iconst (v := (-1)) hx hb dX4_freed_48 (by decide) ?_
          refine lv_icmp_ne (x := encO (nmF L B (C1 0 i) (C1 3 i) nL)) (y := (-1)) (tgt := 56) hx hb dX4_freed_49 (by decide) (fun c49 => ?_) (fun c49 => ?_)
          · skip
            refine lv_iconst (v := 1) hx hb dX4_freed_56 (by decide) ?_
            exact L57 1 (by omega) (c24) (by simp [c14, c24, c49]) H locs ls (lv_sub hl [0, 1, 2] rfl) hP hD hS
          · skip
            refine lv_iconst (v := 0) hx hb dX4_freed_52 (by decide) ?_
            refine lv_goto (tgt := 57) hx hb dX4_freed_53 (by decide) ?_
            exact L57 0 (by omega) (c24) (by simp [c14, c24, c49]) H locs ls (lv_sub hl [0, 1, 2] rfl) hP hD hS
        · skip
          refine lv_goto (tgt := 59) hx hb dX4_freed_27 (by decide) ?_
          refine lv_iinc (v := nI (i + 1)) (lv' := [(2, .int (nI (i + 1))), (0, .ref (h 0)), (1, .int x)]) hx hb dX4_freed_59 hl (k := 2) rfl (by rw [show Int32.ofInt 1 = nI 1 from rfl, nI_add]) (by decide) rfl (fun ls hl => ?_)
          refine lv_goto (tgt := 9) hx hb dX4_freed_62 (by decide) ?_
          exact ih9 (i + 1) C1 x (by omega) (by omega) (by rw [gmF, ← ex]; simp [c14, c24]) H locs ls (lv_sub hl [1, 2, 0] rfl) hP hD hS
  refine lv_aload_n hx hb dX4_freed_0 rfl (lv_at hl 0 rfl) ?_
  refine lv_iconst (v := 0) hx hb dX4_freed_1 (by decide) ?_
  refine va_put (D := D) (ci := 5) (v := .int 0) (ty := .int) (C := RX4) (T := TX4) (N := 28) hx hb hts kX4_freed_inX4 tyX4 tyX4_ok nmX4 hown hK hP hD hS 0 rfl rfl 0 (by decide) (hts _ kX4_freed_f78) (fun _ h9 => h9) rfl (by decide +kernel) rfl rfl (Nat.le_of_ble_eq_true rfl) dX4_freed_2 (fun H locs hP hD hS => ?_)
  have hP : va_P D vwCl (wM cI cZ h 0 lev tm gn nL nC nE L B C F ys ao) H := hP
  have hD : va_D A (wM cI cZ h 0 lev tm gn nL nC nE L B C F ys ao) := hD
  refine lv_iconst (v := 0) hx hb dX4_freed_5 (by decide) ?_
  refine lv_istore_n (lv' := [(1, .int 0), (0, .ref (h 0))]) hx hb dX4_freed_6 rfl hl (by decide) rfl (fun ls hl => ?_)
  refine lv_iconst (v := 0) hx hb dX4_freed_7 (by decide) ?_
  refine lv_istore_n (lv' := [(2, .int 0), (1, .int 0), (0, .ref (h 0))]) hx hb dX4_freed_8 rfl hl (by decide) rfl (fun ls hl => ?_)
  exact L9 (nC + 1) 0 C 0 (by omega) (by omega) (rfl) H locs ls (lv_sub hl [2, 1, 0] rfl) hP hD hS

theorem kX4_joins_f78 : Cond.fieldLink RX4 78 "LiftRows2Model" "code" "I" ∈ wsX4_joins := by decide +kernel
theorem kX4_joins_inX4 : ∀ w ∈ wsX40, w ∈ wsX4_joins := by decide +kernel
set_option maxHeartbeats 4000000 in
set_option maxRecDepth 100000 in
theorem tX4_joins_n1 (l : Launch) (D : va_G) (cI cZ cJ : ClassId) (h : Nat → Nat) (cd : Int32) (lev tm : Nat) (gn : Int32) (nL nC nE : Nat) (L B C F : Nat → Nat → Int32) (ys ao : Nat → Int32) (v v2 : Int32) (hno : (inB v 0 (nI nC - 1) && inB v2 0 (nI nC - 1)) = false)  : ∀ sz : Nat, zMi l yX4_joins wsX4_joins ({ frames := 2, cells := 0, slots := 0, locals := 43 } : Room) D cI cZ cJ (wM cI cZ h cd lev tm gn nL nC nE L B C F ys ao) sz [.ref (h 0), .int v, .int v2] (fun r w' => r = 0 ∧ w' = wM cI cZ h 1 lev tm gn nL nC nE L B C F ys ao) := by
  intro sz
  refine z_head (y := yX4_joins) (av := [.ref (h 0), .int v, .int v2]) (w := (wM cI cZ h cd lev tm gn nL nC nE L B C F ys ao)) (Qc := fun A => zQi D (wM cI cZ h cd lev tm gn nL nC nE L B C F ys ao) (fun r w' => r = 0 ∧ w' = wM cI cZ h 1 lev tm gn nL nC nE L B C F ys ao) A) (cc := cX4_joins) (maxL := 3) (ret := (some .boolean)) (by decide) rfl (Nat.le_of_ble_eq_true rfl) ?_
  intro p e s m below meth c ls A hat hP hD hS hl
  obtain ⟨hx, hb, hr, hml, hlocks, hts, hown, hin, hK, hE, hA⟩ := hat
  have hP : va_P D vwCl (wM cI cZ h cd lev tm gn nL nC nE L B C F ys ao) s.heap := hP
  have hD : va_D A (wM cI cZ h cd lev tm gn nL nC nE L B C F ys ao) := hD
  have hl : lv_has ls 3 [(0, .ref (h 0)), (1, .int v), (2, .int v2)] := hl
  refine lv_aload_n hx hb dX4_joins_0 rfl (lv_at hl 0 rfl) ?_
  refine lv_aload_n hx hb dX4_joins_1 rfl (lv_at hl 0 rfl) ?_
  refine lv_iload_n hx hb dX4_joins_2 rfl (lv_at hl 1 rfl) ?_
  refine z_backiA (z_runVA (n := 1) (As := [.int v]) (ci := 5) (rest := [.ref (h 0)]) hx hb hml hown hts hK hE hP hD (tX4_isCall l D cI cZ cJ h cd lev tm gn nL nC nE L B C F ys ao v  _) gX4_joins_X4_isCall rfl rfl rfl (by decide +kernel) ⟨Nat.le_of_ble_eq_true rfl, Nat.le_of_ble_eq_true rfl⟩ rfl rfl rfl hl.1 rfl (Nat.le_of_ble_eq_true rfl) dX4_joins_3 ⟨Nat.zero_le _, Nat.zero_le _⟩) hD hS hA (fun r1 w1 H locs hp1 hP hD hS => ?_)
  obtain ⟨rfl, rfl⟩ := hp1
  have hP : va_P D vwCl (wM cI cZ h cd lev tm gn nL nC nE L B C F ys ao) H := hP
  have hD : va_D A (wM cI cZ h cd lev tm gn nL nC nE L B C F ys ao) := hD
  refine zb_eq (b := (inB v 0 (nI nC - 1))) (tgt := 17) hx hb dX4_joins_6 (by decide) (fun c6 => ?_) (fun c6 => ?_)
  · skip
    refine lv_iconst (v := 1) hx hb dX4_joins_17 (by decide) ?_
    refine lv_goto (tgt := 22) hx hb dX4_joins_18 (by decide) ?_
    refine va_put (D := D) (ci := 5) (v := .int 1) (ty := .int) (C := RX4) (T := TX4) (N := 28) hx hb hts kX4_joins_inX4 tyX4 tyX4_ok nmX4 hown hK hP hD hS 0 rfl rfl 0 (by decide) (hts _ kX4_joins_f78) (fun _ h9 => h9) rfl (by decide +kernel) rfl rfl (Nat.le_of_ble_eq_true rfl) dX4_joins_22 (fun H locs hP hD hS => ?_)
    have hP : va_P D vwCl (wM cI cZ h 1 lev tm gn nL nC nE L B C F ys ao) H := hP
    have hD : va_D A (wM cI cZ h 1 lev tm gn nL nC nE L B C F ys ao) := hD
    refine lv_aload_n hx hb dX4_joins_25 rfl (lv_at hl 0 rfl) ?_
    refine va_get (D := D) (ci := 5) (v := .int 1) (C := RX4) (T := TX4) (N := 28) hx hb hts kX4_joins_inX4 hown hK hP 0 rfl rfl 0 (by decide) (hts _ kX4_joins_f78) (fun _ h9 => h9) rfl dX4_joins_26 ?_
    refine lv_if_ne (x := 1) (tgt := 59) hx hb dX4_joins_29 (by decide) (fun c29 => ?_) (fun c29 => ?_)
    · skip
      refine lv_aload_n hx hb dX4_joins_59 rfl (lv_at hl 0 rfl) ?_
      refine va_get (D := D) (ci := 5) (v := .int 1) (C := RX4) (T := TX4) (N := 28) hx hb hts kX4_joins_inX4 hown hK hP 0 rfl rfl 0 (by decide) (hts _ kX4_joins_f78) (fun _ h9 => h9) rfl dX4_joins_60 ?_
      refine lv_if_ne (x := 1) (tgt := 100) hx hb dX4_joins_63 (by decide) (fun c63 => ?_) (fun c63 => ?_)
      · skip
        refine lv_iconst (v := 0) hx hb dX4_joins_100 (by decide) ?_
        exact z_zret hx hb hr hlocks hS hP rfl (Or.inl rfl) dX4_joins_101 (⟨rfl, rfl⟩)
      · exact absurd c63 (by decide)
    · exact absurd c29 (by decide)
  · skip
    refine lv_aload_n hx hb dX4_joins_9 rfl (lv_at hl 0 rfl) ?_
    refine lv_iload_n hx hb dX4_joins_10 rfl (lv_at hl 2 rfl) ?_
    refine z_backiA (z_runVA (n := 1) (As := [.int v2]) (ci := 5) (rest := [.ref (h 0)]) hx hb hml hown hts hK hE hP hD (tX4_isCall l D cI cZ cJ h cd lev tm gn nL nC nE L B C F ys ao v2  _) gX4_joins_X4_isCall rfl rfl rfl (by decide +kernel) ⟨Nat.le_of_ble_eq_true rfl, Nat.le_of_ble_eq_true rfl⟩ rfl rfl rfl hl.1 rfl (Nat.le_of_ble_eq_true rfl) dX4_joins_11 ⟨Nat.zero_le _, Nat.zero_le _⟩) hD hS hA (fun r2 w1 H locs hp2 hP hD hS => ?_)
    obtain ⟨rfl, rfl⟩ := hp2
    have hP : va_P D vwCl (wM cI cZ h cd lev tm gn nL nC nE L B C F ys ao) H := hP
    have hD : va_D A (wM cI cZ h cd lev tm gn nL nC nE L B C F ys ao) := hD
    refine zb_ne (b := (inB v2 0 (nI nC - 1))) (tgt := 21) hx hb dX4_joins_14 (by decide) (fun c14 => ?_) (fun c14 => ?_)
    · exact absurd hno (by rw [c6, c14]; decide)
    · skip
      refine lv_iconst (v := 1) hx hb dX4_joins_17 (by decide) ?_
      refine lv_goto (tgt := 22) hx hb dX4_joins_18 (by decide) ?_
      refine va_put (D := D) (ci := 5) (v := .int 1) (ty := .int) (C := RX4) (T := TX4) (N := 28) hx hb hts kX4_joins_inX4 tyX4 tyX4_ok nmX4 hown hK hP hD hS 0 rfl rfl 0 (by decide) (hts _ kX4_joins_f78) (fun _ h9 => h9) rfl (by decide +kernel) rfl rfl (Nat.le_of_ble_eq_true rfl) dX4_joins_22 (fun H locs hP hD hS => ?_)
      have hP : va_P D vwCl (wM cI cZ h 1 lev tm gn nL nC nE L B C F ys ao) H := hP
      have hD : va_D A (wM cI cZ h 1 lev tm gn nL nC nE L B C F ys ao) := hD
      refine lv_aload_n hx hb dX4_joins_25 rfl (lv_at hl 0 rfl) ?_
      refine va_get (D := D) (ci := 5) (v := .int 1) (C := RX4) (T := TX4) (N := 28) hx hb hts kX4_joins_inX4 hown hK hP 0 rfl rfl 0 (by decide) (hts _ kX4_joins_f78) (fun _ h9 => h9) rfl dX4_joins_26 ?_
      refine lv_if_ne (x := 1) (tgt := 59) hx hb dX4_joins_29 (by decide) (fun c29 => ?_) (fun c29 => ?_)
      · skip
        refine lv_aload_n hx hb dX4_joins_59 rfl (lv_at hl 0 rfl) ?_
        refine va_get (D := D) (ci := 5) (v := .int 1) (C := RX4) (T := TX4) (N := 28) hx hb hts kX4_joins_inX4 hown hK hP 0 rfl rfl 0 (by decide) (hts _ kX4_joins_f78) (fun _ h9 => h9) rfl dX4_joins_60 ?_
        refine lv_if_ne (x := 1) (tgt := 100) hx hb dX4_joins_63 (by decide) (fun c63 => ?_) (fun c63 => ?_)
        · skip
          refine lv_iconst (v := 0) hx hb dX4_joins_100 (by decide) ?_
          exact z_zret hx hb hr hlocks hS hP rfl (Or.inl rfl) dX4_joins_101 (⟨rfl, rfl⟩)
        · exact absurd c63 (by decide)
      · exact absurd c29 (by decide)

theorem kX4_joins_f44 : Cond.fieldLink RX4 44 "LiftRows2Model" "state" "[I" ∈ wsX4_joins := by decide +kernel
set_option maxHeartbeats 4000000 in
set_option maxRecDepth 100000 in
theorem tX4_joins_n2 (l : Launch) (D : va_G) (cI cZ cJ : ClassId) (h : Nat → Nat) (cd : Int32) (lev tm : Nat) (gn : Int32) (nL nC nE : Nat) (L B C F : Nat → Nat → Int32) (ys ao : Nat → Int32) (k k2 : Nat) (hk : k < nC) (hk2 : k2 < nC) (hC : nC ≤ 24) (hno : ¬ (C 4 k = 0 ∧ C 4 k2 = 0))  : ∀ sz : Nat, zMi l yX4_joins wsX4_joins ({ frames := 2, cells := 0, slots := 0, locals := 43 } : Room) D cI cZ cJ (wM cI cZ h cd lev tm gn nL nC nE L B C F ys ao) sz [.ref (h 0), .int (nI k), .int (nI k2)] (fun r w' => r = 0 ∧ w' = wM cI cZ h 2 lev tm gn nL nC nE L B C F ys ao) := by
  intro sz
  refine z_head (y := yX4_joins) (av := [.ref (h 0), .int (nI k), .int (nI k2)]) (w := (wM cI cZ h cd lev tm gn nL nC nE L B C F ys ao)) (Qc := fun A => zQi D (wM cI cZ h cd lev tm gn nL nC nE L B C F ys ao) (fun r w' => r = 0 ∧ w' = wM cI cZ h 2 lev tm gn nL nC nE L B C F ys ao) A) (cc := cX4_joins) (maxL := 3) (ret := (some .boolean)) (by decide) rfl (Nat.le_of_ble_eq_true rfl) ?_
  intro p e s m below meth c ls A hat hP hD hS hl
  obtain ⟨hx, hb, hr, hml, hlocks, hts, hown, hin, hK, hE, hA⟩ := hat
  have hP : va_P D vwCl (wM cI cZ h cd lev tm gn nL nC nE L B C F ys ao) s.heap := hP
  have hD : va_D A (wM cI cZ h cd lev tm gn nL nC nE L B C F ys ao) := hD
  have hl : lv_has ls 3 [(0, .ref (h 0)), (1, .int (nI k)), (2, .int (nI k2))] := hl
  have h1 : inB (nI k) 0 (nI nC - 1) = true := inB_ok hk (by omega)
  have h2 : inB (nI k2) 0 (nI nC - 1) = true := inB_ok hk2 (by omega)
  refine lv_aload_n hx hb dX4_joins_0 rfl (lv_at hl 0 rfl) ?_
  refine lv_aload_n hx hb dX4_joins_1 rfl (lv_at hl 0 rfl) ?_
  refine lv_iload_n hx hb dX4_joins_2 rfl (lv_at hl 1 rfl) ?_
  refine z_backiA (z_runVA (n := 1) (As := [.int (nI k)]) (ci := 5) (rest := [.ref (h 0)]) hx hb hml hown hts hK hE hP hD (tX4_isCall l D cI cZ cJ h cd lev tm gn nL nC nE L B C F ys ao (nI k)  _) gX4_joins_X4_isCall rfl rfl rfl (by decide +kernel) ⟨Nat.le_of_ble_eq_true rfl, Nat.le_of_ble_eq_true rfl⟩ rfl rfl rfl hl.1 rfl (Nat.le_of_ble_eq_true rfl) dX4_joins_3 ⟨Nat.zero_le _, Nat.zero_le _⟩) hD hS hA (fun r1 w1 H locs hp1 hP hD hS => ?_)
  obtain ⟨rfl, rfl⟩ := hp1
  have hP : va_P D vwCl (wM cI cZ h cd lev tm gn nL nC nE L B C F ys ao) H := hP
  have hD : va_D A (wM cI cZ h cd lev tm gn nL nC nE L B C F ys ao) := hD
  refine zb_eq (b := (inB (nI k) 0 (nI nC - 1))) (tgt := 17) hx hb dX4_joins_6 (by decide) (fun c6 => ?_) (fun c6 => ?_)
  · exact absurd (h1.symm.trans c6) (by decide)
  · skip
    refine lv_aload_n hx hb dX4_joins_9 rfl (lv_at hl 0 rfl) ?_
    refine lv_iload_n hx hb dX4_joins_10 rfl (lv_at hl 2 rfl) ?_
    refine z_backiA (z_runVA (n := 1) (As := [.int (nI k2)]) (ci := 5) (rest := [.ref (h 0)]) hx hb hml hown hts hK hE hP hD (tX4_isCall l D cI cZ cJ h cd lev tm gn nL nC nE L B C F ys ao (nI k2)  _) gX4_joins_X4_isCall rfl rfl rfl (by decide +kernel) ⟨Nat.le_of_ble_eq_true rfl, Nat.le_of_ble_eq_true rfl⟩ rfl rfl rfl hl.1 rfl (Nat.le_of_ble_eq_true rfl) dX4_joins_11 ⟨Nat.zero_le _, Nat.zero_le _⟩) hD hS hA (fun r2 w1 H locs hp2 hP hD hS => ?_)
    obtain ⟨rfl, rfl⟩ := hp2
    have hP : va_P D vwCl (wM cI cZ h cd lev tm gn nL nC nE L B C F ys ao) H := hP
    have hD : va_D A (wM cI cZ h cd lev tm gn nL nC nE L B C F ys ao) := hD
    refine zb_ne (b := (inB (nI k2) 0 (nI nC - 1))) (tgt := 21) hx hb dX4_joins_14 (by decide) (fun c14 => ?_) (fun c14 => ?_)
    · skip
      refine lv_iconst (v := 0) hx hb dX4_joins_21 (by decide) ?_
      refine va_put (D := D) (ci := 5) (v := .int 0) (ty := .int) (C := RX4) (T := TX4) (N := 28) hx hb hts kX4_joins_inX4 tyX4 tyX4_ok nmX4 hown hK hP hD hS 0 rfl rfl 0 (by decide) (hts _ kX4_joins_f78) (fun _ h9 => h9) rfl (by decide +kernel) rfl rfl (Nat.le_of_ble_eq_true rfl) dX4_joins_22 (fun H locs hP hD hS => ?_)
      have hP : va_P D vwCl (wM cI cZ h 0 lev tm gn nL nC nE L B C F ys ao) H := hP
      have hD : va_D A (wM cI cZ h 0 lev tm gn nL nC nE L B C F ys ao) := hD
      refine lv_aload_n hx hb dX4_joins_25 rfl (lv_at hl 0 rfl) ?_
      refine va_get (D := D) (ci := 5) (v := .int 0) (C := RX4) (T := TX4) (N := 28) hx hb hts kX4_joins_inX4 hown hK hP 0 rfl rfl 0 (by decide) (hts _ kX4_joins_f78) (fun _ h9 => h9) rfl dX4_joins_26 ?_
      refine lv_if_ne (x := 0) (tgt := 59) hx hb dX4_joins_29 (by decide) (fun c29 => ?_) (fun c29 => ?_)
      · exact absurd c29 (by decide)
      · skip
        refine lv_aload_n hx hb dX4_joins_32 rfl (lv_at hl 0 rfl) ?_
        refine lv_aload_n hx hb dX4_joins_33 rfl (lv_at hl 0 rfl) ?_
        refine va_get (D := D) (ci := 5) (v := .ref (h 12)) (C := RX4) (T := TX4) (N := 28) hx hb hts kX4_joins_inX4 hown hK hP 0 rfl rfl 17 (by decide) (hts _ kX4_joins_f44) (fun _ h9 => h9) rfl dX4_joins_34 ?_
        refine lv_iload_n hx hb dX4_joins_37 rfl (lv_at hl 1 rfl) ?_
        refine z_iald (k := k) (v := C 4 k) hx hb hK hP 12 rfl (by decide) (by omega) (rfl) dX4_joins_38 ?_
        refine lv_if_ne (x := C 4 k) (tgt := 51) hx hb dX4_joins_39 (by decide) (fun c39 => ?_) (fun c39 => ?_)
        · skip
          refine lv_iconst (v := 2) hx hb dX4_joins_51 (by decide) ?_
          refine lv_goto (tgt := 56) hx hb dX4_joins_52 (by decide) ?_
          refine va_put (D := D) (ci := 5) (v := .int 2) (ty := .int) (C := RX4) (T := TX4) (N := 28) hx hb hts kX4_joins_inX4 tyX4 tyX4_ok nmX4 hown hK hP hD hS 0 rfl rfl 0 (by decide) (hts _ kX4_joins_f78) (fun _ h9 => h9) rfl (by decide +kernel) rfl rfl (Nat.le_of_ble_eq_true rfl) dX4_joins_56 (fun H locs hP hD hS => ?_)
          have hP : va_P D vwCl (wM cI cZ h 2 lev tm gn nL nC nE L B C F ys ao) H := hP
          have hD : va_D A (wM cI cZ h 2 lev tm gn nL nC nE L B C F ys ao) := hD
          refine lv_aload_n hx hb dX4_joins_59 rfl (lv_at hl 0 rfl) ?_
          refine va_get (D := D) (ci := 5) (v := .int 2) (C := RX4) (T := TX4) (N := 28) hx hb hts kX4_joins_inX4 hown hK hP 0 rfl rfl 0 (by decide) (hts _ kX4_joins_f78) (fun _ h9 => h9) rfl dX4_joins_60 ?_
          refine lv_if_ne (x := 2) (tgt := 100) hx hb dX4_joins_63 (by decide) (fun c63 => ?_) (fun c63 => ?_)
          · skip
            refine lv_iconst (v := 0) hx hb dX4_joins_100 (by decide) ?_
            exact z_zret hx hb hr hlocks hS hP rfl (Or.inl rfl) dX4_joins_101 (⟨rfl, rfl⟩)
          · exact absurd c63 (by decide)
        · skip
          refine lv_aload_n hx hb dX4_joins_42 rfl (lv_at hl 0 rfl) ?_
          refine va_get (D := D) (ci := 5) (v := .ref (h 12)) (C := RX4) (T := TX4) (N := 28) hx hb hts kX4_joins_inX4 hown hK hP 0 rfl rfl 17 (by decide) (hts _ kX4_joins_f44) (fun _ h9 => h9) rfl dX4_joins_43 ?_
          refine lv_iload_n hx hb dX4_joins_46 rfl (lv_at hl 2 rfl) ?_
          refine z_iald (k := k2) (v := C 4 k2) hx hb hK hP 12 rfl (by decide) (by omega) (rfl) dX4_joins_47 ?_
          refine lv_if_eq (x := C 4 k2) (tgt := 55) hx hb dX4_joins_48 (by decide) (fun c48 => ?_) (fun c48 => ?_)
          · exact absurd ⟨c39, c48⟩ hno
          · skip
            refine lv_iconst (v := 2) hx hb dX4_joins_51 (by decide) ?_
            refine lv_goto (tgt := 56) hx hb dX4_joins_52 (by decide) ?_
            refine va_put (D := D) (ci := 5) (v := .int 2) (ty := .int) (C := RX4) (T := TX4) (N := 28) hx hb hts kX4_joins_inX4 tyX4 tyX4_ok nmX4 hown hK hP hD hS 0 rfl rfl 0 (by decide) (hts _ kX4_joins_f78) (fun _ h9 => h9) rfl (by decide +kernel) rfl rfl (Nat.le_of_ble_eq_true rfl) dX4_joins_56 (fun H locs hP hD hS => ?_)
            have hP : va_P D vwCl (wM cI cZ h 2 lev tm gn nL nC nE L B C F ys ao) H := hP
            have hD : va_D A (wM cI cZ h 2 lev tm gn nL nC nE L B C F ys ao) := hD
            refine lv_aload_n hx hb dX4_joins_59 rfl (lv_at hl 0 rfl) ?_
            refine va_get (D := D) (ci := 5) (v := .int 2) (C := RX4) (T := TX4) (N := 28) hx hb hts kX4_joins_inX4 hown hK hP 0 rfl rfl 0 (by decide) (hts _ kX4_joins_f78) (fun _ h9 => h9) rfl dX4_joins_60 ?_
            refine lv_if_ne (x := 2) (tgt := 100) hx hb dX4_joins_63 (by decide) (fun c63 => ?_) (fun c63 => ?_)
            · skip
              refine lv_iconst (v := 0) hx hb dX4_joins_100 (by decide) ?_
              exact z_zret hx hb hr hlocks hS hP rfl (Or.inl rfl) dX4_joins_101 (⟨rfl, rfl⟩)
            · exact absurd c63 (by decide)
    · exact absurd (h2.symm.trans c14) (by decide)

theorem kX4_joins_f32 : Cond.fieldLink RX4 32 "LiftRows2Model" "from" "[I" ∈ wsX4_joins := by decide +kernel
theorem kX4_joins_f35 : Cond.fieldLink RX4 35 "LiftRows2Model" "to" "[I" ∈ wsX4_joins := by decide +kernel
set_option maxHeartbeats 4000000 in
set_option maxRecDepth 100000 in
theorem tX4_joins_ok (l : Launch) (D : va_G) (cI cZ cJ : ClassId) (h : Nat → Nat) (cd : Int32) (lev tm : Nat) (gn : Int32) (nL nC nE : Nat) (L B C F : Nat → Nat → Int32) (ys ao : Nat → Int32) (k k2 : Nat) (hk : k < nC) (hk2 : k2 < nC) (hC : nC ≤ 24) (hy : C 4 k = 0) (hy2 : C 4 k2 = 0)  : ∀ sz : Nat, zMi l yX4_joins wsX4_joins ({ frames := 2, cells := 0, slots := 0, locals := 43 } : Room) D cI cZ cJ (wM cI cZ h cd lev tm gn nL nC nE L B C F ys ao) sz [.ref (h 0), .int (nI k), .int (nI k2)] (fun r w' => r = bI (decide (C 0 k = C 0 k2) && decide (C 1 k = C 1 k2)) ∧ w' = wM cI cZ h 0 lev tm gn nL nC nE L B C F ys ao) := by
  intro sz
  refine z_head (y := yX4_joins) (av := [.ref (h 0), .int (nI k), .int (nI k2)]) (w := (wM cI cZ h cd lev tm gn nL nC nE L B C F ys ao)) (Qc := fun A => zQi D (wM cI cZ h cd lev tm gn nL nC nE L B C F ys ao) (fun r w' => r = bI (decide (C 0 k = C 0 k2) && decide (C 1 k = C 1 k2)) ∧ w' = wM cI cZ h 0 lev tm gn nL nC nE L B C F ys ao) A) (cc := cX4_joins) (maxL := 3) (ret := (some .boolean)) (by decide) rfl (Nat.le_of_ble_eq_true rfl) ?_
  intro p e s m below meth c ls A hat hP hD hS hl
  obtain ⟨hx, hb, hr, hml, hlocks, hts, hown, hin, hK, hE, hA⟩ := hat
  have hP : va_P D vwCl (wM cI cZ h cd lev tm gn nL nC nE L B C F ys ao) s.heap := hP
  have hD : va_D A (wM cI cZ h cd lev tm gn nL nC nE L B C F ys ao) := hD
  have hl : lv_has ls 3 [(0, .ref (h 0)), (1, .int (nI k)), (2, .int (nI k2))] := hl
  have h1 : inB (nI k) 0 (nI nC - 1) = true := inB_ok hk (by omega)
  have h2 : inB (nI k2) 0 (nI nC - 1) = true := inB_ok hk2 (by omega)
  refine lv_aload_n hx hb dX4_joins_0 rfl (lv_at hl 0 rfl) ?_
  refine lv_aload_n hx hb dX4_joins_1 rfl (lv_at hl 0 rfl) ?_
  refine lv_iload_n hx hb dX4_joins_2 rfl (lv_at hl 1 rfl) ?_
  refine z_backiA (z_runVA (n := 1) (As := [.int (nI k)]) (ci := 5) (rest := [.ref (h 0)]) hx hb hml hown hts hK hE hP hD (tX4_isCall l D cI cZ cJ h cd lev tm gn nL nC nE L B C F ys ao (nI k)  _) gX4_joins_X4_isCall rfl rfl rfl (by decide +kernel) ⟨Nat.le_of_ble_eq_true rfl, Nat.le_of_ble_eq_true rfl⟩ rfl rfl rfl hl.1 rfl (Nat.le_of_ble_eq_true rfl) dX4_joins_3 ⟨Nat.zero_le _, Nat.zero_le _⟩) hD hS hA (fun r1 w1 H locs hp1 hP hD hS => ?_)
  obtain ⟨rfl, rfl⟩ := hp1
  have hP : va_P D vwCl (wM cI cZ h cd lev tm gn nL nC nE L B C F ys ao) H := hP
  have hD : va_D A (wM cI cZ h cd lev tm gn nL nC nE L B C F ys ao) := hD
  refine zb_eq (b := (inB (nI k) 0 (nI nC - 1))) (tgt := 17) hx hb dX4_joins_6 (by decide) (fun c6 => ?_) (fun c6 => ?_)
  · exact absurd (h1.symm.trans c6) (by decide)
  · skip
    refine lv_aload_n hx hb dX4_joins_9 rfl (lv_at hl 0 rfl) ?_
    refine lv_iload_n hx hb dX4_joins_10 rfl (lv_at hl 2 rfl) ?_
    refine z_backiA (z_runVA (n := 1) (As := [.int (nI k2)]) (ci := 5) (rest := [.ref (h 0)]) hx hb hml hown hts hK hE hP hD (tX4_isCall l D cI cZ cJ h cd lev tm gn nL nC nE L B C F ys ao (nI k2)  _) gX4_joins_X4_isCall rfl rfl rfl (by decide +kernel) ⟨Nat.le_of_ble_eq_true rfl, Nat.le_of_ble_eq_true rfl⟩ rfl rfl rfl hl.1 rfl (Nat.le_of_ble_eq_true rfl) dX4_joins_11 ⟨Nat.zero_le _, Nat.zero_le _⟩) hD hS hA (fun r2 w1 H locs hp2 hP hD hS => ?_)
    obtain ⟨rfl, rfl⟩ := hp2
    have hP : va_P D vwCl (wM cI cZ h cd lev tm gn nL nC nE L B C F ys ao) H := hP
    have hD : va_D A (wM cI cZ h cd lev tm gn nL nC nE L B C F ys ao) := hD
    refine zb_ne (b := (inB (nI k2) 0 (nI nC - 1))) (tgt := 21) hx hb dX4_joins_14 (by decide) (fun c14 => ?_) (fun c14 => ?_)
    · skip
      refine lv_iconst (v := 0) hx hb dX4_joins_21 (by decide) ?_
      refine va_put (D := D) (ci := 5) (v := .int 0) (ty := .int) (C := RX4) (T := TX4) (N := 28) hx hb hts kX4_joins_inX4 tyX4 tyX4_ok nmX4 hown hK hP hD hS 0 rfl rfl 0 (by decide) (hts _ kX4_joins_f78) (fun _ h9 => h9) rfl (by decide +kernel) rfl rfl (Nat.le_of_ble_eq_true rfl) dX4_joins_22 (fun H locs hP hD hS => ?_)
      have hP : va_P D vwCl (wM cI cZ h 0 lev tm gn nL nC nE L B C F ys ao) H := hP
      have hD : va_D A (wM cI cZ h 0 lev tm gn nL nC nE L B C F ys ao) := hD
      refine lv_aload_n hx hb dX4_joins_25 rfl (lv_at hl 0 rfl) ?_
      refine va_get (D := D) (ci := 5) (v := .int 0) (C := RX4) (T := TX4) (N := 28) hx hb hts kX4_joins_inX4 hown hK hP 0 rfl rfl 0 (by decide) (hts _ kX4_joins_f78) (fun _ h9 => h9) rfl dX4_joins_26 ?_
      refine lv_if_ne (x := 0) (tgt := 59) hx hb dX4_joins_29 (by decide) (fun c29 => ?_) (fun c29 => ?_)
      · exact absurd c29 (by decide)
      · skip
        refine lv_aload_n hx hb dX4_joins_32 rfl (lv_at hl 0 rfl) ?_
        refine lv_aload_n hx hb dX4_joins_33 rfl (lv_at hl 0 rfl) ?_
        refine va_get (D := D) (ci := 5) (v := .ref (h 12)) (C := RX4) (T := TX4) (N := 28) hx hb hts kX4_joins_inX4 hown hK hP 0 rfl rfl 17 (by decide) (hts _ kX4_joins_f44) (fun _ h9 => h9) rfl dX4_joins_34 ?_
        refine lv_iload_n hx hb dX4_joins_37 rfl (lv_at hl 1 rfl) ?_
        refine z_iald (k := k) (v := C 4 k) hx hb hK hP 12 rfl (by decide) (by omega) (rfl) dX4_joins_38 ?_
        refine lv_if_ne (x := C 4 k) (tgt := 51) hx hb dX4_joins_39 (by decide) (fun c39 => ?_) (fun c39 => ?_)
        · exact absurd hy c39
        · skip
          refine lv_aload_n hx hb dX4_joins_42 rfl (lv_at hl 0 rfl) ?_
          refine va_get (D := D) (ci := 5) (v := .ref (h 12)) (C := RX4) (T := TX4) (N := 28) hx hb hts kX4_joins_inX4 hown hK hP 0 rfl rfl 17 (by decide) (hts _ kX4_joins_f44) (fun _ h9 => h9) rfl dX4_joins_43 ?_
          refine lv_iload_n hx hb dX4_joins_46 rfl (lv_at hl 2 rfl) ?_
          refine z_iald (k := k2) (v := C 4 k2) hx hb hK hP 12 rfl (by decide) (by omega) (rfl) dX4_joins_47 ?_
          refine lv_if_eq (x := C 4 k2) (tgt := 55) hx hb dX4_joins_48 (by decide) (fun c48 => ?_) (fun c48 => ?_)
          · skip
            refine lv_iconst (v := 0) hx hb dX4_joins_55 (by decide) ?_
            refine va_put (D := D) (ci := 5) (v := .int 0) (ty := .int) (C := RX4) (T := TX4) (N := 28) hx hb hts kX4_joins_inX4 tyX4 tyX4_ok nmX4 hown hK hP hD hS 0 rfl rfl 0 (by decide) (hts _ kX4_joins_f78) (fun _ h9 => h9) rfl (by decide +kernel) rfl rfl (Nat.le_of_ble_eq_true rfl) dX4_joins_56 (fun H locs hP hD hS => ?_)
            have hP : va_P D vwCl (wM cI cZ h 0 lev tm gn nL nC nE L B C F ys ao) H := hP
            have hD : va_D A (wM cI cZ h 0 lev tm gn nL nC nE L B C F ys ao) := hD
            refine lv_aload_n hx hb dX4_joins_59 rfl (lv_at hl 0 rfl) ?_
            refine va_get (D := D) (ci := 5) (v := .int 0) (C := RX4) (T := TX4) (N := 28) hx hb hts kX4_joins_inX4 hown hK hP 0 rfl rfl 0 (by decide) (hts _ kX4_joins_f78) (fun _ h9 => h9) rfl dX4_joins_60 ?_
            refine lv_if_ne (x := 0) (tgt := 100) hx hb dX4_joins_63 (by decide) (fun c63 => ?_) (fun c63 => ?_)
            · exact absurd c63 (by decide)
            · skip
              refine lv_aload_n hx hb dX4_joins_66 rfl (lv_at hl 0 rfl) ?_
              refine va_get (D := D) (ci := 5) (v := .ref (h 8)) (C := RX4) (T := TX4) (N := 28) hx hb hts kX4_joins_inX4 hown hK hP 0 rfl rfl 13 (by decide) (hts _ kX4_joins_f32) (fun _ h9 => h9) rfl dX4_joins_67 ?_
              refine lv_iload_n hx hb dX4_joins_70 rfl (lv_at hl 1 rfl) ?_
              refine z_iald (k := k) (v := C 0 k) hx hb hK hP 8 rfl (by decide) (by omega) (rfl) dX4_joins_71 ?_
              refine lv_aload_n hx hb dX4_joins_72 rfl (lv_at hl 0 rfl) ?_
              refine va_get (D := D) (ci := 5) (v := .ref (h 8)) (C := RX4) (T := TX4) (N := 28) hx hb hts kX4_joins_inX4 hown hK hP 0 rfl rfl 13 (by decide) (hts _ kX4_joins_f32) (fun _ h9 => h9) rfl dX4_joins_73 ?_
              refine lv_iload_n hx hb dX4_joins_76 rfl (lv_at hl 2 rfl) ?_
              refine z_iald (k := k2) (v := C 0 k2) hx hb hK hP 8 rfl (by decide) (by omega) (rfl) dX4_joins_77 ?_
              refine lv_icmp_ne (x := C 0 k) (y := C 0 k2) (tgt := 100) hx hb dX4_joins_78 (by decide) (fun c78 => ?_) (fun c78 => ?_)
              · skip
                refine lv_iconst (v := 0) hx hb dX4_joins_100 (by decide) ?_
                exact z_zret hx hb hr hlocks hS hP rfl (Or.inl rfl) dX4_joins_101 (⟨by simp [bI, c6, c14, c29, c39, c48, c63, c78], rfl⟩)
              · skip
                refine lv_aload_n hx hb dX4_joins_81 rfl (lv_at hl 0 rfl) ?_
                refine va_get (D := D) (ci := 5) (v := .ref (h 9)) (C := RX4) (T := TX4) (N := 28) hx hb hts kX4_joins_inX4 hown hK hP 0 rfl rfl 14 (by decide) (hts _ kX4_joins_f35) (fun _ h9 => h9) rfl dX4_joins_82 ?_
                refine lv_iload_n hx hb dX4_joins_85 rfl (lv_at hl 1 rfl) ?_
                refine z_iald (k := k) (v := C 1 k) hx hb hK hP 9 rfl (by decide) (by omega) (rfl) dX4_joins_86 ?_
                refine lv_aload_n hx hb dX4_joins_87 rfl (lv_at hl 0 rfl) ?_
                refine va_get (D := D) (ci := 5) (v := .ref (h 9)) (C := RX4) (T := TX4) (N := 28) hx hb hts kX4_joins_inX4 hown hK hP 0 rfl rfl 14 (by decide) (hts _ kX4_joins_f35) (fun _ h9 => h9) rfl dX4_joins_88 ?_
                refine lv_iload_n hx hb dX4_joins_91 rfl (lv_at hl 2 rfl) ?_
                refine z_iald (k := k2) (v := C 1 k2) hx hb hK hP 9 rfl (by decide) (by omega) (rfl) dX4_joins_92 ?_
                refine lv_icmp_ne (x := C 1 k) (y := C 1 k2) (tgt := 100) hx hb dX4_joins_93 (by decide) (fun c93 => ?_) (fun c93 => ?_)
                · skip
                  refine lv_iconst (v := 0) hx hb dX4_joins_100 (by decide) ?_
                  exact z_zret hx hb hr hlocks hS hP rfl (Or.inl rfl) dX4_joins_101 (⟨by simp [bI, c6, c14, c29, c39, c48, c63, c78, c93], rfl⟩)
                · skip
                  refine lv_iconst (v := 1) hx hb dX4_joins_96 (by decide) ?_
                  refine lv_goto (tgt := 101) hx hb dX4_joins_97 (by decide) ?_
                  exact z_zret hx hb hr hlocks hS hP rfl (Or.inr rfl) dX4_joins_101 (⟨by simp [bI, c6, c14, c29, c39, c48, c63, c78, c93], rfl⟩)
          · exact absurd hy2 c48
    · exact absurd (h2.symm.trans c14) (by decide)
