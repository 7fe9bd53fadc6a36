
set_option maxHeartbeats 4000000 in
set_option maxRecDepth 100000 in
theorem tX4_in (l : Launch) (D : va_G) (cI cZ cJ : ClassId) (v lo hi : Int32) : ∀ sz : Nat, zMi l yX4_in wsX4_in ({ frames := 0, cells := 0, slots := 0, locals := 0 } : Room) D cI cZ cJ ([]) sz [.int v, .int lo, .int hi] (fun r w' => r = bI (inB v lo hi) ∧ w' = []) := by
  intro sz
  refine z_head (y := yX4_in) (av := [.int v, .int lo, .int hi]) (w := ([])) (Qc := fun A => zQi D ([]) (fun r w' => r = bI (inB v lo hi) ∧ w' = []) A) (cc := cX4_in) (maxL := 3) (ret := (some .boolean)) (by decide) rfl (Nat.le_of_ble_eq_true rfl) ?_
  intro p e s m below meth c ls A hat hP hD hS hl
  obtain ⟨hx, hb, hr, hml, hlocks, hts, hown, hin, hK, hE, hA⟩ := hat
  have hP : va_P D vwCl [] s.heap := hP
  have hD : va_D A [] := hD
  have hl : lv_has ls 3 [(0, .int v), (1, .int lo), (2, .int hi)] := hl
  refine lv_iload_n hx hb dX4_in_0 rfl (lv_at hl 0 rfl) ?_
  refine lv_iload_n hx hb dX4_in_1 rfl (lv_at hl 1 rfl) ?_
  refine lv_icmp_lt (x := v) (y := lo) (tgt := 14) hx hb dX4_in_2 (by decide) (fun c2 => ?_) (fun c2 => ?_)
  · skip
    refine lv_iconst (v := 0) hx hb dX4_in_14 (by decide) ?_
    exact z_zret hx hb hr hlocks hS hP rfl (Or.inl rfl) dX4_in_15 (⟨by simp [inB, bI, c2], rfl⟩)
  · skip
    refine lv_iload_n hx hb dX4_in_5 rfl (lv_at hl 0 rfl) ?_
    refine lv_iload_n hx hb dX4_in_6 rfl (lv_at hl 2 rfl) ?_
    refine lv_icmp_gt (x := v) (y := hi) (tgt := 14) hx hb dX4_in_7 (by decide) (fun c7 => ?_) (fun c7 => ?_)
    · skip
      refine lv_iconst (v := 0) hx hb dX4_in_14 (by decide) ?_
      exact z_zret hx hb hr hlocks hS hP rfl (Or.inl rfl) dX4_in_15 (⟨by simp [inB, bI, c2, c7], rfl⟩)
    · skip
      refine lv_iconst (v := 1) hx hb dX4_in_10 (by decide) ?_
      refine lv_goto (tgt := 15) hx hb dX4_in_11 (by decide) ?_
      exact z_zret hx hb hr hlocks hS hP rfl (Or.inr rfl) dX4_in_15 (⟨by simp [inB, bI, c2, c7], rfl⟩)


set_option maxHeartbeats 4000000 in
set_option maxRecDepth 100000 in
theorem tX4_far (l : Launch) (D : va_G) (cI cZ cJ : ClassId) (a b : Int32) : ∀ sz : Nat, zMi l yX4_far wsX4_far ({ frames := 0, cells := 0, slots := 0, locals := 0 } : Room) D cI cZ cJ ([]) sz [.int a, .int b] (fun r w' => r = farI a b ∧ w' = []) := by
  intro sz
  refine z_head (y := yX4_far) (av := [.int a, .int b]) (w := ([])) (Qc := fun A => zQi D ([]) (fun r w' => r = farI a b ∧ w' = []) A) (cc := cX4_far) (maxL := 2) (ret := (some .int)) (by decide) rfl (Nat.le_of_ble_eq_true rfl) ?_
  intro p e s m below meth c ls A hat hP hD hS hl
  obtain ⟨hx, hb, hr, hml, hlocks, hts, hown, hin, hK, hE, hA⟩ := hat
  have hP : va_P D vwCl [] s.heap := hP
  have hD : va_D A [] := hD
  have hl : lv_has ls 2 [(0, .int a), (1, .int b)] := hl
  refine lv_iload_n hx hb dX4_far_0 rfl (lv_at hl 0 rfl) ?_
  refine lv_iload_n hx hb dX4_far_1 rfl (lv_at hl 1 rfl) ?_
  refine lv_icmp_le (x := a) (y := b) (tgt := 11) hx hb dX4_far_2 (by decide) (fun c2 => ?_) (fun c2 => ?_)
  · skip
    refine lv_iload_n hx hb dX4_far_11 rfl (lv_at hl 1 rfl) ?_
    refine lv_iload_n hx hb dX4_far_12 rfl (lv_at hl 0 rfl) ?_
    refine lv_isub (x := b) (y := a) hx hb dX4_far_13 ?_
    exact z_iret hx hb hr hlocks hS hP rfl dX4_far_14 (⟨by simp [farI, c2], rfl⟩)
  · skip
    refine lv_iload_n hx hb dX4_far_5 rfl (lv_at hl 0 rfl) ?_
    refine lv_iload_n hx hb dX4_far_6 rfl (lv_at hl 1 rfl) ?_
    refine lv_isub (x := a) (y := b) hx hb dX4_far_7 ?_
    refine lv_goto (tgt := 14) hx hb dX4_far_8 (by decide) ?_
    exact z_iret hx hb hr hlocks hS hP rfl dX4_far_14 (⟨by simp [farI, c2], rfl⟩)

theorem kX4_isLevel_inX4 : ∀ w ∈ wsX40, w ∈ wsX4_isLevel := by decide +kernel
theorem kX4_isLevel_f74 : Cond.fieldLink RX4 74 "LiftRows2Model" "levels" "I" ∈ wsX4_isLevel := by decide +kernel
set_option maxHeartbeats 4000000 in
set_option maxRecDepth 100000 in
theorem tX4_isLevel (l : Launch) (D : va_G) (cI cZ cJ : ClassId) (h : Nat → Nat) (cd : Int32) (lev tm : Nat) (gn : Int32) (nL nC nE : Nat) (L B C F : Nat → Nat → Int32) (ys ao : Nat → Int32) (v : Int32) : ∀ sz : Nat, zMi l yX4_isLevel wsX4_isLevel ({ frames := 1, cells := 0, slots := 0, locals := 22 } : Room) D cI cZ cJ (wM cI cZ h cd lev tm gn nL nC nE L B C F ys ao) sz [.ref (h 0), .int v] (fun r w' => r = bI (inB v 0 (nI lev - 1)) ∧ w' = wM cI cZ h cd lev tm gn nL nC nE L B C F ys ao) := by
  intro sz
  refine z_head (y := yX4_isLevel) (av := [.ref (h 0), .int v]) (w := (wM cI cZ h cd lev tm gn nL nC nE L B C F ys ao)) (Qc := fun A => zQi D (wM cI cZ h cd lev tm gn nL nC nE L B C F ys ao) (fun r w' => r = bI (inB v 0 (nI lev - 1)) ∧ w' = wM cI cZ h cd lev tm gn nL nC nE L B C F ys ao) A) (cc := cX4_isLevel) (maxL := 2) (ret := (some .boolean)) (by decide) rfl (Nat.le_of_ble_eq_true rfl) ?_
  intro p e s m below meth c ls A hat hP hD hS hl
  obtain ⟨hx, hb, hr, hml, hlocks, hts, hown, hin, hK, hE, hA⟩ := hat
  have hP : va_P D vwCl (wM cI cZ h cd lev tm gn nL nC nE L B C F ys ao) s.heap := hP
  have hD : va_D A (wM cI cZ h cd lev tm gn nL nC nE L B C F ys ao) := hD
  have hl : lv_has ls 2 [(0, .ref (h 0)), (1, .int v)] := hl
  refine lv_iload_n hx hb dX4_isLevel_0 rfl (lv_at hl 1 rfl) ?_
  refine lv_iconst (v := 0) hx hb dX4_isLevel_1 (by decide) ?_
  refine lv_aload_n hx hb dX4_isLevel_2 rfl (lv_at hl 0 rfl) ?_
  refine va_get (D := D) (ci := 5) (v := .int (nI lev)) (C := RX4) (T := TX4) (N := 28) hx hb hts kX4_isLevel_inX4 hown hK hP 0 rfl rfl 1 (by decide) (hts _ kX4_isLevel_f74) (fun _ h9 => h9) rfl dX4_isLevel_3 ?_
  refine lv_iconst (v := 1) hx hb dX4_isLevel_6 (by decide) ?_
  refine lv_isub (x := nI lev) (y := 1) hx hb dX4_isLevel_7 ?_
  refine z_backi (z_runS (n := 3) (As := [.int v, .int 0, .int ((nI lev) - 1)]) (rest := []) hx hb hml hown hts hK hE hP hD [] rfl (by decide) (tX4_in l D cI cZ cJ v 0 ((nI lev) - 1) _) gX4_isLevel_X4_in rfl rfl rfl (by decide +kernel) ⟨Nat.le_of_ble_eq_true rfl, Nat.le_of_ble_eq_true rfl⟩ rfl hl.1 rfl (Nat.le_of_ble_eq_true rfl) dX4_isLevel_8 ⟨Nat.zero_le _, Nat.zero_le _⟩) hP hD hS hA [] rfl (fun r1 w1 H locs hp1 hP hD hS => ?_)
  obtain ⟨rfl, rfl⟩ := hp1
  have hP : va_P D vwCl (wM cI cZ h cd lev tm gn nL nC nE L B C F ys ao) H := hP
  have hD : va_D A (wM cI cZ h cd lev tm gn nL nC nE L B C F ys ao) := hD
  exact z_zret hx hb hr hlocks hS hP rfl (bI_01 _) dX4_isLevel_11 (⟨rfl, rfl⟩)

theorem kX4_isLift_inX4 : ∀ w ∈ wsX40, w ∈ wsX4_isLift := by decide +kernel
theorem kX4_isLift_f85 : Cond.fieldLink RX4 85 "LiftRows2Model" "lifts" "I" ∈ wsX4_isLift := by decide +kernel
set_option maxHeartbeats 4000000 in
set_option maxRecDepth 100000 in
theorem tX4_isLift (l : Launch) (D : va_G) (cI cZ cJ : ClassId) (h : Nat → Nat) (cd : Int32) (lev tm : Nat) (gn : Int32) (nL nC nE : Nat) (L B C F : Nat → Nat → Int32) (ys ao : Nat → Int32) (v : Int32) : ∀ sz : Nat, zMi l yX4_isLift wsX4_isLift ({ frames := 1, cells := 0, slots := 0, locals := 22 } : Room) D cI cZ cJ (wM cI cZ h cd lev tm gn nL nC nE L B C F ys ao) sz [.ref (h 0), .int v] (fun r w' => r = bI (inB v 0 (nI nL - 1)) ∧ w' = wM cI cZ h cd lev tm gn nL nC nE L B C F ys ao) := by
  intro sz
  refine z_head (y := yX4_isLift) (av := [.ref (h 0), .int v]) (w := (wM cI cZ h cd lev tm gn nL nC nE L B C F ys ao)) (Qc := fun A => zQi D (wM cI cZ h cd lev tm gn nL nC nE L B C F ys ao) (fun r w' => r = bI (inB v 0 (nI nL - 1)) ∧ w' = wM cI cZ h cd lev tm gn nL nC nE L B C F ys ao) A) (cc := cX4_isLift) (maxL := 2) (ret := (some .boolean)) (by decide) rfl (Nat.le_of_ble_eq_true rfl) ?_
  intro p e s m below meth c ls A hat hP hD hS hl
  obtain ⟨hx, hb, hr, hml, hlocks, hts, hown, hin, hK, hE, hA⟩ := hat
  have hP : va_P D vwCl (wM cI cZ h cd lev tm gn nL nC nE L B C F ys ao) s.heap := hP
  have hD : va_D A (wM cI cZ h cd lev tm gn nL nC nE L B C F ys ao) := hD
  have hl : lv_has ls 2 [(0, .ref (h 0)), (1, .int v)] := hl
  refine lv_iload_n hx hb dX4_isLift_0 rfl (lv_at hl 1 rfl) ?_
  refine lv_iconst (v := 0) hx hb dX4_isLift_1 (by decide) ?_
  refine lv_aload_n hx hb dX4_isLift_2 rfl (lv_at hl 0 rfl) ?_
  refine va_get (D := D) (ci := 5) (v := .int (nI nL)) (C := RX4) (T := TX4) (N := 28) hx hb hts kX4_isLift_inX4 hown hK hP 0 rfl rfl 4 (by decide) (hts _ kX4_isLift_f85) (fun _ h9 => h9) rfl dX4_isLift_3 ?_
  refine lv_iconst (v := 1) hx hb dX4_isLift_6 (by decide) ?_
  refine lv_isub (x := nI nL) (y := 1) hx hb dX4_isLift_7 ?_
  refine z_backi (z_runS (n := 3) (As := [.int v, .int 0, .int ((nI nL) - 1)]) (rest := []) hx hb hml hown hts hK hE hP hD [] rfl (by decide) (tX4_in l D cI cZ cJ v 0 ((nI nL) - 1) _) gX4_isLift_X4_in rfl rfl rfl (by decide +kernel) ⟨Nat.le_of_ble_eq_true rfl, Nat.le_of_ble_eq_true rfl⟩ rfl hl.1 rfl (Nat.le_of_ble_eq_true rfl) dX4_isLift_8 ⟨Nat.zero_le _, Nat.zero_le _⟩) hP hD hS hA [] rfl (fun r1 w1 H locs hp1 hP hD hS => ?_)
  obtain ⟨rfl, rfl⟩ := hp1
  have hP : va_P D vwCl (wM cI cZ h cd lev tm gn nL nC nE L B C F ys ao) H := hP
  have hD : va_D A (wM cI cZ h cd lev tm gn nL nC nE L B C F ys ao) := hD
  exact z_zret hx hb hr hlocks hS hP rfl (bI_01 _) dX4_isLift_11 (⟨rfl, rfl⟩)

theorem kX4_isCall_inX4 : ∀ w ∈ wsX40, w ∈ wsX4_isCall := by decide +kernel
theorem kX4_isCall_f88 : Cond.fieldLink RX4 88 "LiftRows2Model" "calls" "I" ∈ wsX4_isCall := by decide +kernel
set_option maxHeartbeats 4000000 in
set_option maxRecDepth 100000 in
theorem tX4_isCall (l : Launch) (D : va_G) (cI cZ cJ : ClassId) (h : Nat → Nat) (cd : Int32) (lev tm : Nat) (gn : Int32) (nL nC nE : Nat) (L B C F : Nat → Nat → Int32) (ys ao : Nat → Int32) (v : Int32) : ∀ sz : Nat, zMi l yX4_isCall wsX4_isCall ({ frames := 1, cells := 0, slots := 0, locals := 22 } : Room) D cI cZ cJ (wM cI cZ h cd lev tm gn nL nC nE L B C F ys ao) sz [.ref (h 0), .int v] (fun r w' => r = bI (inB v 0 (nI nC - 1)) ∧ w' = wM cI cZ h cd lev tm gn nL nC nE L B C F ys ao) := by
  intro sz
  refine z_head (y := yX4_isCall) (av := [.ref (h 0), .int v]) (w := (wM cI cZ h cd lev tm gn nL nC nE L B C F ys ao)) (Qc := fun A => zQi D (wM cI cZ h cd lev tm gn nL nC nE L B C F ys ao) (fun r w' => r = bI (inB v 0 (nI nC - 1)) ∧ w' = wM cI cZ h cd lev tm gn nL nC nE L B C F ys ao) A) (cc := cX4_isCall) (maxL := 2) (ret := (some .boolean)) (by decide) rfl (Nat.le_of_ble_eq_true rfl) ?_
  intro p e s m below meth c ls A hat hP hD hS hl
  obtain ⟨hx, hb, hr, hml, hlocks, hts, hown, hin, hK, hE, hA⟩ := hat
  have hP : va_P D vwCl (wM cI cZ h cd lev tm gn nL nC nE L B C F ys ao) s.heap := hP
  have hD : va_D A (wM cI cZ h cd lev tm gn nL nC nE L B C F ys ao) := hD
  have hl : lv_has ls 2 [(0, .ref (h 0)), (1, .int v)] := hl
  refine lv_iload_n hx hb dX4_isCall_0 rfl (lv_at hl 1 rfl) ?_
  refine lv_iconst (v := 0) hx hb dX4_isCall_1 (by decide) ?_
  refine lv_aload_n hx hb dX4_isCall_2 rfl (lv_at hl 0 rfl) ?_
  refine va_get (D := D) (ci := 5) (v := .int (nI nC)) (C := RX4) (T := TX4) (N := 28) hx hb hts kX4_isCall_inX4 hown hK hP 0 rfl rfl 12 (by decide) (hts _ kX4_isCall_f88) (fun _ h9 => h9) rfl dX4_isCall_3 ?_
  refine lv_iconst (v := 1) hx hb dX4_isCall_6 (by decide) ?_
  refine lv_isub (x := nI nC) (y := 1) hx hb dX4_isCall_7 ?_
  refine z_backi (z_runS (n := 3) (As := [.int v, .int 0, .int ((nI nC) - 1)]) (rest := []) hx hb hml hown hts hK hE hP hD [] rfl (by decide) (tX4_in l D cI cZ cJ v 0 ((nI nC) - 1) _) gX4_isCall_X4_in rfl rfl rfl (by decide +kernel) ⟨Nat.le_of_ble_eq_true rfl, Nat.le_of_ble_eq_true rfl⟩ rfl hl.1 rfl (Nat.le_of_ble_eq_true rfl) dX4_isCall_8 ⟨Nat.zero_le _, Nat.zero_le _⟩) hP hD hS hA [] rfl (fun r1 w1 H locs hp1 hP hD hS => ?_)
  obtain ⟨rfl, rfl⟩ := hp1
  have hP : va_P D vwCl (wM cI cZ h cd lev tm gn nL nC nE L B C F ys ao) H := hP
  have hD : va_D A (wM cI cZ h cd lev tm gn nL nC nE L B C F ys ao) := hD
  exact z_zret hx hb hr hlocks hS hP rfl (bI_01 _) dX4_isCall_11 (⟨rfl, rfl⟩)

theorem kX4_is_inX4 : ∀ w ∈ wsX40, w ∈ wsX4_is := by decide +kernel
theorem kX4_is_f47 : Cond.fieldLink RX4 47 "LiftRows2Model" "liftOf" "[I" ∈ wsX4_is := by decide +kernel
theorem kX4_is_f44 : Cond.fieldLink RX4 44 "LiftRows2Model" "state" "[I" ∈ wsX4_is := by decide +kernel
set_option maxHeartbeats 4000000 in
set_option maxRecDepth 100000 in
theorem tX4_is (l : Launch) (D : va_G) (cI cZ cJ : ClassId) (h : Nat → Nat) (cd : Int32) (lev tm : Nat) (gn : Int32) (nL nC nE : Nat) (L B C F : Nat → Nat → Int32) (ys ao : Nat → Int32) (i : Nat) (lf st : Int32) (hi : i < 24) : ∀ sz : Nat, zMi l yX4_is wsX4_is ({ frames := 0, cells := 0, slots := 0, locals := 0 } : Room) D cI cZ cJ (wM cI cZ h cd lev tm gn nL nC nE L B C F ys ao) sz [.ref (h 0), .int (nI i), .int lf, .int st] (fun r w' => r = bI (isB C i st lf) ∧ w' = wM cI cZ h cd lev tm gn nL nC nE L B C F ys ao) := by
  intro sz
  refine z_head (y := yX4_is) (av := [.ref (h 0), .int (nI i), .int lf, .int st]) (w := (wM cI cZ h cd lev tm gn nL nC nE L B C F ys ao)) (Qc := fun A => zQi D (wM cI cZ h cd lev tm gn nL nC nE L B C F ys ao) (fun r w' => r = bI (isB C i st lf) ∧ w' = wM cI cZ h cd lev tm gn nL nC nE L B C F ys ao) A) (cc := cX4_is) (maxL := 4) (ret := (some .boolean)) (by decide) rfl (Nat.le_of_ble_eq_true rfl) ?_
  intro p e s m below meth c ls A hat hP hD hS hl
  obtain ⟨hx, hb, hr, hml, hlocks, hts, hown, hin, hK, hE, hA⟩ := hat
  have hP : va_P D vwCl (wM cI cZ h cd lev tm gn nL nC nE L B C F ys ao) s.heap := hP
  have hD : va_D A (wM cI cZ h cd lev tm gn nL nC nE L B C F ys ao) := hD
  have hl : lv_has ls 4 [(0, .ref (h 0)), (1, .int (nI i)), (2, .int lf), (3, .int st)] := hl
  refine lv_aload_n hx hb dX4_is_0 rfl (lv_at hl 0 rfl) ?_
  refine va_get (D := D) (ci := 5) (v := .ref (h 13)) (C := RX4) (T := TX4) (N := 28) hx hb hts kX4_is_inX4 hown hK hP 0 rfl rfl 18 (by decide) (hts _ kX4_is_f47) (fun _ h9 => h9) rfl dX4_is_1 ?_
  refine lv_iload_n hx hb dX4_is_4 rfl (lv_at hl 1 rfl) ?_
  refine z_iald (k := i) (v := C 5 i) hx hb hK hP 13 rfl (by decide) (by omega) (rfl) dX4_is_5 ?_
  refine lv_iload_n hx hb dX4_is_6 rfl (lv_at hl 2 rfl) ?_
  refine lv_icmp_ne (x := C 5 i) (y := lf) (tgt := 24) hx hb dX4_is_7 (by decide) (fun c7 => ?_) (fun c7 => ?_)
  · skip
    refine lv_iconst (v := 0) hx hb dX4_is_24 (by decide) ?_
    exact z_zret hx hb hr hlocks hS hP rfl (Or.inl rfl) dX4_is_25 (⟨by simp [isB, bI, c7], rfl⟩)
  · skip
    refine lv_aload_n hx hb dX4_is_10 rfl (lv_at hl 0 rfl) ?_
    refine va_get (D := D) (ci := 5) (v := .ref (h 12)) (C := RX4) (T := TX4) (N := 28) hx hb hts kX4_is_inX4 hown hK hP 0 rfl rfl 17 (by decide) (hts _ kX4_is_f44) (fun _ h9 => h9) rfl dX4_is_11 ?_
    refine lv_iload_n hx hb dX4_is_14 rfl (lv_at hl 1 rfl) ?_
    refine z_iald (k := i) (v := C 4 i) hx hb hK hP 12 rfl (by decide) (by omega) (rfl) dX4_is_15 ?_
    refine lv_iload_n hx hb dX4_is_16 rfl (lv_at hl 3 rfl) ?_
    refine lv_icmp_ne (x := C 4 i) (y := st) (tgt := 24) hx hb dX4_is_17 (by decide) (fun c17 => ?_) (fun c17 => ?_)
    · skip
      refine lv_iconst (v := 0) hx hb dX4_is_24 (by decide) ?_
      exact z_zret hx hb hr hlocks hS hP rfl (Or.inl rfl) dX4_is_25 (⟨by simp [isB, bI, c7, c17], rfl⟩)
    · skip
      refine lv_iconst (v := 1) hx hb dX4_is_20 (by decide) ?_
      refine lv_goto (tgt := 25) hx hb dX4_is_21 (by decide) ?_
      exact z_zret hx hb hr hlocks hS hP rfl (Or.inr rfl) dX4_is_25 (⟨by simp [isB, bI, c7, c17], rfl⟩)

theorem kX4_aboard_inX4 : ∀ w ∈ wsX40, w ∈ wsX4_aboard := by decide +kernel
theorem kX4_aboard_f88 : Cond.fieldLink RX4 88 "LiftRows2Model" "calls" "I" ∈ wsX4_aboard := by decide +kernel
theorem kX4_aboard_f41 : Cond.fieldLink RX4 41 "LiftRows2Model" "load" "[I" ∈ wsX4_aboard := by decide +kernel
set_option maxHeartbeats 4000000 in
set_option maxRecDepth 100000 in
theorem tX4_aboard (l : Launch) (D : va_G) (cI cZ cJ : ClassId) (h : Nat → Nat) (cd : Int32) (lev tm : Nat) (gn : Int32) (nL nC nE : Nat) (L B C F : Nat → Nat → Int32) (ys ao : Nat → Int32) (lf : Int32) (hC : nC ≤ 24)  : ∀ sz : Nat, zMi l yX4_aboard wsX4_aboard ({ frames := 1, cells := 0, slots := 0, locals := 23 } : Room) D cI cZ cJ (wM cI cZ h cd lev tm gn nL nC nE L B C F ys ao) sz [.ref (h 0), .int lf] (fun r w' => r = aboI C lf nC ∧ w' = wM cI cZ h cd lev tm gn nL nC nE L B C F ys ao) := by
  intro sz
  refine z_head (y := yX4_aboard) (av := [.ref (h 0), .int lf]) (w := (wM cI cZ h cd lev tm gn nL nC nE L B C F ys ao)) (Qc := fun A => zQi D (wM cI cZ h cd lev tm gn nL nC nE L B C F ys ao) (fun r w' => r = aboI C lf nC ∧ w' = wM cI cZ h cd lev tm gn nL nC nE L B C F ys ao) A) (cc := cX4_aboard) (maxL := 4) (ret := (some .int)) (by decide) rfl (Nat.le_of_ble_eq_true rfl) ?_
  intro p e s m below meth c ls A hat hP hD hS hl
  obtain ⟨hx, hb, hr, hml, hlocks, hts, hown, hin, hK, hE, hA⟩ := hat
  have hP : va_P D vwCl (wM cI cZ h cd lev tm gn nL nC nE L B C F ys ao) s.heap := hP
  have hD : va_D A (wM cI cZ h cd lev tm gn nL nC nE L B C F ys ao) := hD
  have hl : lv_has ls 4 [(0, .ref (h 0)), (1, .int lf)] := hl
  have L4 : ∀ (fu : Nat) (i : Nat) (x : Int32), i ≤ nC → nC + 1 ≤ i + fu → (x = aboI C lf i) → ∀ (H : Heap) (locs : List Loc) (ls : Array Slot), lv_has ls 4 [(0, .ref (h 0)), (1, .int lf), (2, .int x), (3, .int (nI i))] → va_P D vwCl (wM cI cZ h cd lev tm gn nL nC nE L B C F ys ao) H → va_D A (wM cI cZ h cd lev tm gn nL nC nE L B C F ys ao) → va_S A s.heap H locs → W p l e ({ frames := 1, cells := 0, slots := 0, locals := 23 } : Room) s m ([.ref (h 0), .int lf] : List Value).toArray below meth c H locs 0 0 (MQ below (zQi D (wM cI cZ h cd lev tm gn nL nC nE L B C F ys ao) (fun r w' => r = aboI C lf nC ∧ w' = wM cI cZ h cd lev tm gn nL nC nE L B C F ys ao) A) ([.ref (h 0), .int lf] : List Value).toArray s 0 0 A) (F0 m 4 ls []) := by
    intro fu
    induction fu with
    | zero =>
      intro i x h1 h2
      exact absurd h2 (by omega)
    | succ fu ih4 =>
      intro i x hle hfu ex H locs ls hl hP hD hS
      have L33 : ∀ (y : Int32), (i < nC) → (y = if isB C i 1 lf = true then C 3 i else 0) → ∀ (H : Heap) (locs : List Loc) (ls : Array Slot), lv_has ls 4 [(0, .ref (h 0)), (1, .int lf), (2, .int x), (3, .int (nI i))] → va_P D vwCl (wM cI cZ h cd lev tm gn nL nC nE L B C F ys ao) H → va_D A (wM cI cZ h cd lev tm gn nL nC nE L B C F ys ao) → va_S A s.heap H locs → W p l e ({ frames := 1, cells := 0, slots := 0, locals := 23 } : Room) s m ([.ref (h 0), .int lf] : List Value).toArray below meth c H locs 0 0 (MQ below (zQi D (wM cI cZ h cd lev tm gn nL nC nE L B C F ys ao) (fun r w' => r = aboI C lf nC ∧ w' = wM cI cZ h cd lev tm gn nL nC nE L B C F ys ao) A) ([.ref (h 0), .int lf] : List Value).toArray s 0 0 A) (F0 m 33 ls [.int y, .int x]) := by
        intro y hlt ey H locs ls hl hP hD hS
        refine lv_iadd (x := x) (y := y) hx hb dX4_aboard_33 ?_
        refine lv_istore_n (lv' := [(2, .int (x + y)), (0, .ref (h 0)), (1, .int lf), (3, .int (nI i))]) hx hb dX4_aboard_34 rfl hl (by decide) rfl (fun ls hl => ?_)
        refine lv_iinc (v := nI (i + 1)) (lv' := [(3, .int (nI (i + 1))), (2, .int (x + y)), (0, .ref (h 0)), (1, .int lf)]) hx hb dX4_aboard_35 hl (k := 3) rfl (by rw [show Int32.ofInt 1 = nI 1 from rfl, nI_add]) (by decide) rfl (fun ls hl => ?_)
        refine lv_goto (tgt := 4) hx hb dX4_aboard_38 (by decide) ?_
        exact ih4 (i + 1) (x + y) (by omega) (by omega) (by rw [ex, ey]; exact sum_add _ _ i) H locs ls (lv_sub hl [2, 3, 1, 0] rfl) hP hD hS
      refine lv_iload_n hx hb dX4_aboard_4 rfl (lv_at hl 3 rfl) ?_
      refine lv_aload_n hx hb dX4_aboard_5 rfl (lv_at hl 0 rfl) ?_
      refine va_get (D := D) (ci := 5) (v := .int (nI nC)) (C := RX4) (T := TX4) (N := 28) hx hb hts kX4_aboard_inX4 hown hK hP 0 rfl rfl 12 (by decide) (hts _ kX4_aboard_f88) (fun _ h9 => h9) rfl dX4_aboard_6 ?_
      refine zn_ge (i := i) (j := nC) (tgt := 41) hx hb (by omega) (by omega) dX4_aboard_9 (by decide) (fun c9 => ?_) (fun c9 => ?_)
      · skip
        refine lv_iload_n hx hb dX4_aboard_41 rfl (lv_at hl 2 rfl) ?_
        exact z_iret hx hb hr hlocks hS hP rfl dX4_aboard_42 (⟨by rw [ex, show i = nC by omega], rfl⟩)
      · skip
        refine lv_iload_n hx hb dX4_aboard_12 rfl (lv_at hl 2 rfl) ?_
        refine lv_aload_n hx hb dX4_aboard_13 rfl (lv_at hl 0 rfl) ?_
        refine lv_iload_n hx hb dX4_aboard_14 rfl (lv_at hl 3 rfl) ?_
        refine lv_iload_n hx hb dX4_aboard_15 rfl (lv_at hl 1 rfl) ?_
        refine lv_iconst (v := 1) hx hb dX4_aboard_16 (by decide) ?_
        refine z_backiA (z_runVA (n := 3) (As := [.int (nI i), .int lf, .int 1]) (ci := 5) (rest := [.int x]) hx hb hml hown hts hK hE hP hD (tX4_is l D cI cZ cJ h cd lev tm gn nL nC nE L B C F ys ao i lf 1 (by omega) _) gX4_aboard_X4_is rfl rfl rfl (by decide +kernel) ⟨Nat.le_of_ble_eq_true rfl, Nat.le_of_ble_eq_true rfl⟩ rfl rfl rfl hl.1 rfl (Nat.le_of_ble_eq_true rfl) dX4_aboard_17 ⟨Nat.zero_le _, Nat.zero_le _⟩) hD hS hA (fun r1 w1 H locs hp1 hP hD hS => ?_)
        obtain ⟨rfl, rfl⟩ := hp1
        have hP : va_P D vwCl (wM cI cZ h cd lev tm gn nL nC nE L B C F ys ao) H := hP
        have hD : va_D A (wM cI cZ h cd lev tm gn nL nC nE L B C F ys ao) := hD
        refine zb_eq (b := (isB C i 1 lf)) (tgt := 32) hx hb dX4_aboard_20 (by decide) (fun c20 => ?_) (fun c20 => ?_)
        · skip
          refine lv_iconst (v := 0) hx hb dX4_aboard_32 (by decide) ?_
          exact L33 0 (by omega) (by simp [c9, c20]) H locs ls (lv_sub hl [0, 1, 2, 3] rfl) hP hD hS
        · skip
          refine lv_aload_n hx hb dX4_aboard_23 rfl (lv_at hl 0 rfl) ?_
          refine va_get (D := D) (ci := 5) (v := .ref (h 11)) (C := RX4) (T := TX4) (N := 28) hx hb hts kX4_aboard_inX4 hown hK hP 0 rfl rfl 16 (by decide) (hts _ kX4_aboard_f41) (fun _ h9 => h9) rfl dX4_aboard_24 ?_
          refine lv_iload_n hx hb dX4_aboard_27 rfl (lv_at hl 3 rfl) ?_
          refine z_iald (k := i) (v := C 3 i) hx hb hK hP 11 rfl (by decide) (by omega) (rfl) dX4_aboard_28 ?_
          refine lv_goto (tgt := 33) hx hb dX4_aboard_29 (by decide) ?_
          exact L33 (C 3 i) (by omega) (by simp [c9, c20]) H locs ls (lv_sub hl [0, 1, 2, 3] rfl) hP hD hS
  refine lv_iconst (v := 0) hx hb dX4_aboard_0 (by decide) ?_
  refine lv_istore_n (lv' := [(2, .int 0), (0, .ref (h 0)), (1, .int lf)]) hx hb dX4_aboard_1 rfl hl (by decide) rfl (fun ls hl => ?_)
  refine lv_iconst (v := 0) hx hb dX4_aboard_2 (by decide) ?_
  refine lv_istore_n (lv' := [(3, .int 0), (2, .int 0), (0, .ref (h 0)), (1, .int lf)]) hx hb dX4_aboard_3 rfl hl (by decide) rfl (fun ls hl => ?_)
  exact L4 (nC + 1) 0 0 (by omega) (by omega) (rfl) s.heap [] ls (lv_sub hl [2, 3, 1, 0] rfl) hP hD hS

theorem kX4_many_inX4 : ∀ w ∈ wsX40, w ∈ wsX4_many := by decide +kernel
theorem kX4_many_f88 : Cond.fieldLink RX4 88 "LiftRows2Model" "calls" "I" ∈ wsX4_many := by decide +kernel
set_option maxHeartbeats 4000000 in
set_option maxRecDepth 100000 in
theorem tX4_many (l : Launch) (D : va_G) (cI cZ cJ : ClassId) (h : Nat → Nat) (cd : Int32) (lev tm : Nat) (gn : Int32) (nL nC nE : Nat) (L B C F : Nat → Nat → Int32) (ys ao : Nat → Int32) (lf st : Int32) (hC : nC ≤ 24)  : ∀ sz : Nat, zMi l yX4_many wsX4_many ({ frames := 1, cells := 0, slots := 0, locals := 23 } : Room) D cI cZ cJ (wM cI cZ h cd lev tm gn nL nC nE L B C F ys ao) sz [.ref (h 0), .int lf, .int st] (fun r w' => r = nI (cntW (fun k => isB C k st lf) nC) ∧ w' = wM cI cZ h cd lev tm gn nL nC nE L B C F ys ao) := by
  intro sz
  refine z_head (y := yX4_many) (av := [.ref (h 0), .int lf, .int st]) (w := (wM cI cZ h cd lev tm gn nL nC nE L B C F ys ao)) (Qc := fun A => zQi D (wM cI cZ h cd lev tm gn nL nC nE L B C F ys ao) (fun r w' => r = nI (cntW (fun k => isB C k st lf) nC) ∧ w' = wM cI cZ h cd lev tm gn nL nC nE L B C F ys ao) A) (cc := cX4_many) (maxL := 5) (ret := (some .int)) (by decide) rfl (Nat.le_of_ble_eq_true rfl) ?_
  intro p e s m below meth c ls A hat hP hD hS hl
  obtain ⟨hx, hb, hr, hml, hlocks, hts, hown, hin, hK, hE, hA⟩ := hat
  have hP : va_P D vwCl (wM cI cZ h cd lev tm gn nL nC nE L B C F ys ao) s.heap := hP
  have hD : va_D A (wM cI cZ h cd lev tm gn nL nC nE L B C F ys ao) := hD
  have hl : lv_has ls 5 [(0, .ref (h 0)), (1, .int lf), (2, .int st)] := hl
  have L5 : ∀ (fu : Nat) (i : Nat) (x : Int32), i ≤ nC → nC + 1 ≤ i + fu → (x = nI (cntW (fun k => isB C k st lf) i)) → ∀ (H : Heap) (locs : List Loc) (ls : Array Slot), lv_has ls 5 [(0, .ref (h 0)), (1, .int lf), (2, .int st), (3, .int x), (4, .int (nI i))] → va_P D vwCl (wM cI cZ h cd lev tm gn nL nC nE L B C F ys ao) H → va_D A (wM cI cZ h cd lev tm gn nL nC nE L B C F ys ao) → va_S A s.heap H locs → W p l e ({ frames := 1, cells := 0, slots := 0, locals := 23 } : Room) s m ([.ref (h 0), .int lf, .int st] : List Value).toArray below meth c H locs 0 0 (MQ below (zQi D (wM cI cZ h cd lev tm gn nL nC nE L B C F ys ao) (fun r w' => r = nI (cntW (fun k => isB C k st lf) nC) ∧ w' = wM cI cZ h cd lev tm gn nL nC nE L B C F ys ao) A) ([.ref (h 0), .int lf, .int st] : List Value).toArray s 0 0 A) (F0 m 5 ls []) := by
    intro fu
    induction fu with
    | zero =>
      intro i x h1 h2
      exact absurd h2 (by omega)
    | succ fu ih5 =>
      intro i x hle hfu ex H locs ls hl hP hD hS
      have L31 : ∀ (by_ : Bool), (i < nC) → (by_ = isB C i st lf) → ∀ (H : Heap) (locs : List Loc) (ls : Array Slot), lv_has ls 5 [(0, .ref (h 0)), (1, .int lf), (2, .int st), (3, .int x), (4, .int (nI i))] → va_P D vwCl (wM cI cZ h cd lev tm gn nL nC nE L B C F ys ao) H → va_D A (wM cI cZ h cd lev tm gn nL nC nE L B C F ys ao) → va_S A s.heap H locs → W p l e ({ frames := 1, cells := 0, slots := 0, locals := 23 } : Room) s m ([.ref (h 0), .int lf, .int st] : List Value).toArray below meth c H locs 0 0 (MQ below (zQi D (wM cI cZ h cd lev tm gn nL nC nE L B C F ys ao) (fun r w' => r = nI (cntW (fun k => isB C k st lf) nC) ∧ w' = wM cI cZ h cd lev tm gn nL nC nE L B C F ys ao) A) ([.ref (h 0), .int lf, .int st] : List Value).toArray s 0 0 A) (F0 m 31 ls [.int (bI by_), .int x]) := by
        intro by_ hlt ey H locs ls hl hP hD hS
        refine lv_iadd (x := x) (y := bI by_) hx hb dX4_many_31 ?_
        refine lv_istore_n (lv' := [(3, .int (x + (bI by_))), (0, .ref (h 0)), (1, .int lf), (2, .int st), (4, .int (nI i))]) hx hb dX4_many_32 rfl hl (by decide) rfl (fun ls hl => ?_)
        refine lv_iinc (v := nI (i + 1)) (lv' := [(4, .int (nI (i + 1))), (3, .int (x + (bI by_))), (0, .ref (h 0)), (1, .int lf), (2, .int st)]) hx hb dX4_many_33 hl (k := 4) rfl (by rw [show Int32.ofInt 1 = nI 1 from rfl, nI_add]) (by decide) rfl (fun ls hl => ?_)
        refine lv_goto (tgt := 5) hx hb dX4_many_36 (by decide) ?_
        exact ih5 (i + 1) (x + (bI by_)) (by omega) (by omega) (by rw [ex, ey]; exact cnt_add _ i) H locs ls (lv_sub hl [2, 3, 4, 1, 0] rfl) hP hD hS
      refine lv_iload hx hb dX4_many_5 (lv_at hl 4 rfl) ?_
      refine lv_aload_n hx hb dX4_many_7 rfl (lv_at hl 0 rfl) ?_
      refine va_get (D := D) (ci := 5) (v := .int (nI nC)) (C := RX4) (T := TX4) (N := 28) hx hb hts kX4_many_inX4 hown hK hP 0 rfl rfl 12 (by decide) (hts _ kX4_many_f88) (fun _ h9 => h9) rfl dX4_many_8 ?_
      refine zn_ge (i := i) (j := nC) (tgt := 39) hx hb (by omega) (by omega) dX4_many_11 (by decide) (fun c11 => ?_) (fun c11 => ?_)
      · skip
        refine lv_iload_n hx hb dX4_many_39 rfl (lv_at hl 3 rfl) ?_
        exact z_iret hx hb hr hlocks hS hP rfl dX4_many_40 (⟨by rw [ex, show i = nC by omega], rfl⟩)
      · skip
        refine lv_iload_n hx hb dX4_many_14 rfl (lv_at hl 3 rfl) ?_
        refine lv_aload_n hx hb dX4_many_15 rfl (lv_at hl 0 rfl) ?_
        refine lv_iload hx hb dX4_many_16 (lv_at hl 4 rfl) ?_
        refine lv_iload_n hx hb dX4_many_18 rfl (lv_at hl 1 rfl) ?_
        refine lv_iload_n hx hb dX4_many_19 rfl (lv_at hl 2 rfl) ?_
        refine z_backiA (z_runVA (n := 3) (As := [.int (nI i), .int lf, .int st]) (ci := 5) (rest := [.int x]) hx hb hml hown hts hK hE hP hD (tX4_is l D cI cZ cJ h cd lev tm gn nL nC nE L B C F ys ao i lf st (by omega) _) gX4_many_X4_is rfl rfl rfl (by decide +kernel) ⟨Nat.le_of_ble_eq_true rfl, Nat.le_of_ble_eq_true rfl⟩ rfl rfl rfl hl.1 rfl (Nat.le_of_ble_eq_true rfl) dX4_many_20 ⟨Nat.zero_le _, Nat.zero_le _⟩) hD hS hA (fun r1 w1 H locs hp1 hP hD hS => ?_)
        obtain ⟨rfl, rfl⟩ := hp1
        have hP : va_P D vwCl (wM cI cZ h cd lev tm gn nL nC nE L B C F ys ao) H := hP
        have hD : va_D A (wM cI cZ h cd lev tm gn nL nC nE L B C F ys ao) := hD
        refine zb_eq (b := (isB C i st lf)) (tgt := 30) hx hb dX4_many_23 (by decide) (fun c23 => ?_) (fun c23 => ?_)
        · skip
          refine lv_iconst (v := 0) hx hb dX4_many_30 (by decide) ?_
          exact L31 false (by omega) (by simp [c11, c23]) H locs ls (lv_sub hl [0, 1, 2, 3, 4] rfl) hP hD hS
        · skip
          refine lv_iconst (v := 1) hx hb dX4_many_26 (by decide) ?_
          refine lv_goto (tgt := 31) hx hb dX4_many_27 (by decide) ?_
          exact L31 true (by omega) (by simp [c11, c23]) H locs ls (lv_sub hl [0, 1, 2, 3, 4] rfl) hP hD hS
  refine lv_iconst (v := 0) hx hb dX4_many_0 (by decide) ?_
  refine lv_istore_n (lv' := [(3, .int 0), (0, .ref (h 0)), (1, .int lf), (2, .int st)]) hx hb dX4_many_1 rfl hl (by decide) rfl (fun ls hl => ?_)
  refine lv_iconst (v := 0) hx hb dX4_many_2 (by decide) ?_
  refine lv_istore (lv' := [(4, .int 0), (3, .int 0), (0, .ref (h 0)), (1, .int lf), (2, .int st)]) hx hb dX4_many_3 hl (by decide) rfl (fun ls hl => ?_)
  exact L5 (nC + 1) 0 0 (by omega) (by omega) (rfl) s.heap [] ls (lv_sub hl [2, 3, 4, 1, 0] rfl) hP hD hS

theorem kX4_nearest_inX4 : ∀ w ∈ wsX40, w ∈ wsX4_nearest := by decide +kernel
theorem kX4_nearest_f85 : Cond.fieldLink RX4 85 "LiftRows2Model" "lifts" "I" ∈ wsX4_nearest := by decide +kernel
theorem kX4_nearest_f26 : Cond.fieldLink RX4 26 "LiftRows2Model" "stuck" "[Z" ∈ wsX4_nearest := by decide +kernel
theorem kX4_nearest_f29 : Cond.fieldLink RX4 29 "LiftRows2Model" "reserved" "[Z" ∈ wsX4_nearest := by decide +kernel
theorem kX4_nearest_f13 : Cond.fieldLink RX4 13 "LiftRows2Model" "capacity" "[I" ∈ wsX4_nearest := by decide +kernel
theorem kX4_nearest_f41 : Cond.fieldLink RX4 41 "LiftRows2Model" "load" "[I" ∈ wsX4_nearest := by decide +kernel
theorem kX4_nearest_f7 : Cond.fieldLink RX4 7 "LiftRows2Model" "at" "[I" ∈ wsX4_nearest := by decide +kernel
theorem kX4_nearest_f32 : Cond.fieldLink RX4 32 "LiftRows2Model" "from" "[I" ∈ wsX4_nearest := by decide +kernel
set_option maxHeartbeats 4000000 in
set_option maxRecDepth 100000 in
theorem tX4_nearest (l : Launch) (D : va_G) (cI cZ cJ : ClassId) (h : Nat → Nat) (cd : Int32) (lev tm : Nat) (gn : Int32) (nL nC nE : Nat) (L B C F : Nat → Nat → Int32) (ys ao : Nat → Int32) (c0 : Nat) (hc0 : c0 < 24) (hL : nL ≤ 4)  : ∀ sz : Nat, zMi l yX4_nearest wsX4_nearest ({ frames := 1, cells := 0, slots := 0, locals := 21 } : Room) D cI cZ cJ (wM cI cZ h cd lev tm gn nL nC nE L B C F ys ao) sz [.ref (h 0), .int (nI c0)] (fun r w' => r = encO (nmF L B (C 0 c0) (C 3 c0) nL) ∧ w' = wM cI cZ h cd lev tm gn nL nC nE L B C F ys ao) := by
  intro sz
  refine z_head (y := yX4_nearest) (av := [.ref (h 0), .int (nI c0)]) (w := (wM cI cZ h cd lev tm gn nL nC nE L B C F ys ao)) (Qc := fun A => zQi D (wM cI cZ h cd lev tm gn nL nC nE L B C F ys ao) (fun r w' => r = encO (nmF L B (C 0 c0) (C 3 c0) nL) ∧ w' = wM cI cZ h cd lev tm gn nL nC nE L B C F ys ao) A) (cc := cX4_nearest) (maxL := 4) (ret := (some .int)) (by decide) rfl (Nat.le_of_ble_eq_true rfl) ?_
  intro p e s m below meth c ls A hat hP hD hS hl
  obtain ⟨hx, hb, hr, hml, hlocks, hts, hown, hin, hK, hE, hA⟩ := hat
  have hP : va_P D vwCl (wM cI cZ h cd lev tm gn nL nC nE L B C F ys ao) s.heap := hP
  have hD : va_D A (wM cI cZ h cd lev tm gn nL nC nE L B C F ys ao) := hD
  have hl : lv_has ls 4 [(0, .ref (h 0)), (1, .int (nI c0))] := hl
  have L4 : ∀ (fu : Nat) (i : Nat) (bo : Option Nat), i ≤ nL → nL + 1 ≤ i + fu → (bo = nmF L B (C 0 c0) (C 3 c0) i) → (∀ b, bo = some b → b < i) → ∀ (H : Heap) (locs : List Loc) (ls : Array Slot), lv_has ls 4 [(0, .ref (h 0)), (1, .int (nI c0)), (2, .int (encO bo)), (3, .int (nI i))] → va_P D vwCl (wM cI cZ h cd lev tm gn nL nC nE L B C F ys ao) H → va_D A (wM cI cZ h cd lev tm gn nL nC nE L B C F ys ao) → va_S A s.heap H locs → W p l e ({ frames := 1, cells := 0, slots := 0, locals := 21 } : Room) s m ([.ref (h 0), .int (nI c0)] : List Value).toArray below meth c H locs 0 0 (MQ below (zQi D (wM cI cZ h cd lev tm gn nL nC nE L B C F ys ao) (fun r w' => r = encO (nmF L B (C 0 c0) (C 3 c0) nL) ∧ w' = wM cI cZ h cd lev tm gn nL nC nE L B C F ys ao) A) ([.ref (h 0), .int (nI c0)] : List Value).toArray s 0 0 A) (F0 m 4 ls []) := by
    intro fu
    induction fu with
    | zero =>
      intro i bo h1 h2
      exact absurd h2 (by omega)
    | succ fu ih4 =>
      intro i bo hle hfu ex hbo H locs ls hl hP hD hS
      refine lv_iload_n hx hb dX4_nearest_4 rfl (lv_at hl 3 rfl) ?_
      refine lv_aload_n hx hb dX4_nearest_5 rfl (lv_at hl 0 rfl) ?_
      refine va_get (D := D) (ci := 5) (v := .int (nI nL)) (C := RX4) (T := TX4) (N := 28) hx hb hts kX4_nearest_inX4 hown hK hP 0 rfl rfl 4 (by decide) (hts _ kX4_nearest_f85) (fun _ h9 => h9) rfl dX4_nearest_6 ?_
      refine zn_ge (i := i) (j := nL) (tgt := 94) hx hb (by omega) (by omega) dX4_nearest_9 (by decide) (fun c9 => ?_) (fun c9 => ?_)
      · skip
        refine lv_iload_n hx hb dX4_nearest_94 rfl (lv_at hl 2 rfl) ?_
        exact z_iret hx hb hr hlocks hS hP rfl dX4_nearest_95 (⟨by rw [ex, show i = nL by omega], rfl⟩)
      · skip
        refine lv_aload_n hx hb dX4_nearest_12 rfl (lv_at hl 0 rfl) ?_
        refine va_get (D := D) (ci := 5) (v := .ref (h 6)) (C := RX4) (T := TX4) (N := 28) hx hb hts kX4_nearest_inX4 hown hK hP 0 rfl rfl 10 (by decide) (hts _ kX4_nearest_f26) (fun _ h9 => h9) rfl dX4_nearest_13 ?_
        refine lv_iload_n hx hb dX4_nearest_16 rfl (lv_at hl 3 rfl) ?_
        refine z_zald (k := i) (v := B 0 i) hx hb hK hP 6 rfl (by decide) (by omega) (rfl) dX4_nearest_17 ?_
        refine lv_if_ne (x := B 0 i) (tgt := 88) hx hb dX4_nearest_18 (by decide) (fun c18 => ?_) (fun c18 => ?_)
        · skip
          refine lv_iinc (v := nI (i + 1)) (lv' := [(3, .int (nI (i + 1))), (0, .ref (h 0)), (1, .int (nI c0)), (2, .int (encO bo))]) hx hb dX4_nearest_88 hl (k := 3) rfl (by rw [show Int32.ofInt 1 = nI 1 from rfl, nI_add]) (by decide) rfl (fun ls hl => ?_)
          refine lv_goto (tgt := 4) hx hb dX4_nearest_91 (by decide) ?_
          exact ih4 (i + 1) bo (by omega) (by omega) (by rw [nmF, ← ex]; simp [getB, c9, c18]) (fun b h => Nat.lt_succ_of_lt (hbo b h)) H locs ls (lv_sub hl [1, 2, 3, 0] rfl) hP hD hS
        · skip
          refine lv_aload_n hx hb dX4_nearest_21 rfl (lv_at hl 0 rfl) ?_
          refine va_get (D := D) (ci := 5) (v := .ref (h 7)) (C := RX4) (T := TX4) (N := 28) hx hb hts kX4_nearest_inX4 hown hK hP 0 rfl rfl 11 (by decide) (hts _ kX4_nearest_f29) (fun _ h9 => h9) rfl dX4_nearest_22 ?_
          refine lv_iload_n hx hb dX4_nearest_25 rfl (lv_at hl 3 rfl) ?_
          refine z_zald (k := i) (v := B 1 i) hx hb hK hP 7 rfl (by decide) (by omega) (rfl) dX4_nearest_26 ?_
          refine lv_if_ne (x := B 1 i) (tgt := 88) hx hb dX4_nearest_27 (by decide) (fun c27 => ?_) (fun c27 => ?_)
          · skip
            refine lv_iinc (v := nI (i + 1)) (lv' := [(3, .int (nI (i + 1))), (0, .ref (h 0)), (1, .int (nI c0)), (2, .int (encO bo))]) hx hb dX4_nearest_88 hl (k := 3) rfl (by rw [show Int32.ofInt 1 = nI 1 from rfl, nI_add]) (by decide) rfl (fun ls hl => ?_)
            refine lv_goto (tgt := 4) hx hb dX4_nearest_91 (by decide) ?_
            exact ih4 (i + 1) bo (by omega) (by omega) (by rw [nmF, ← ex]; simp [getB, c9, c18, c27]) (fun b h => Nat.lt_succ_of_lt (hbo b h)) H locs ls (lv_sub hl [1, 2, 3, 0] rfl) hP hD hS
          · skip
            refine lv_aload_n hx hb dX4_nearest_30 rfl (lv_at hl 0 rfl) ?_
            refine va_get (D := D) (ci := 5) (v := .ref (h 2)) (C := RX4) (T := TX4) (N := 28) hx hb hts kX4_nearest_inX4 hown hK hP 0 rfl rfl 6 (by decide) (hts _ kX4_nearest_f13) (fun _ h9 => h9) rfl dX4_nearest_31 ?_
            refine lv_iload_n hx hb dX4_nearest_34 rfl (lv_at hl 3 rfl) ?_
            refine z_iald (k := i) (v := L 1 i) hx hb hK hP 2 rfl (by decide) (by omega) (rfl) dX4_nearest_35 ?_
            refine lv_aload_n hx hb dX4_nearest_36 rfl (lv_at hl 0 rfl) ?_
            refine va_get (D := D) (ci := 5) (v := .ref (h 11)) (C := RX4) (T := TX4) (N := 28) hx hb hts kX4_nearest_inX4 hown hK hP 0 rfl rfl 16 (by decide) (hts _ kX4_nearest_f41) (fun _ h9 => h9) rfl dX4_nearest_37 ?_
            refine lv_iload_n hx hb dX4_nearest_40 rfl (lv_at hl 1 rfl) ?_
            refine z_iald (k := c0) (v := C 3 c0) hx hb hK hP 11 rfl (by decide) (by omega) (rfl) dX4_nearest_41 ?_
            refine lv_icmp_ge (x := L 1 i) (y := C 3 c0) (tgt := 48) hx hb dX4_nearest_42 (by decide) (fun c42 => ?_) (fun c42 => ?_)
            · skip
              refine lv_iload_n hx hb dX4_nearest_48 rfl (lv_at hl 2 rfl) ?_
              refine lv_iconst (v := (-1)) hx hb dX4_nearest_49 (by decide) ?_
              refine lv_icmp_eq (x := encO bo) (y := (-1)) (tgt := 86) hx hb dX4_nearest_50 (by decide) (fun c50 => ?_) (fun c50 => ?_)
              · skip
                obtain rfl : bo = none := encO_none hbo (by omega) c50
                refine lv_iload_n hx hb dX4_nearest_86 rfl (lv_at hl 3 rfl) ?_
                refine lv_istore_n (lv' := [(2, .int (nI i)), (0, .ref (h 0)), (1, .int (nI c0)), (3, .int (nI i))]) hx hb dX4_nearest_87 rfl hl (by decide) rfl (fun ls hl => ?_)
                refine lv_iinc (v := nI (i + 1)) (lv' := [(3, .int (nI (i + 1))), (2, .int (nI i)), (0, .ref (h 0)), (1, .int (nI c0))]) hx hb dX4_nearest_88 hl (k := 3) rfl (by rw [show Int32.ofInt 1 = nI 1 from rfl, nI_add]) (by decide) rfl (fun ls hl => ?_)
                refine lv_goto (tgt := 4) hx hb dX4_nearest_91 (by decide) ?_
                exact ih4 (i + 1) (some i) (by omega) (by omega) (by rw [nmF, ← ex]; simp [getB, c9, c18, c27, Int32.not_lt.mpr c42]) (fun b h => by cases h; omega) H locs ls (lv_sub hl [2, 3, 1, 0] rfl) hP hD hS
              · skip
                obtain ⟨b, rfl⟩ := encO_some c50
                have hb9 := hbo b rfl
                have hl : lv_has ls 4 [(0, .ref (h 0)), (1, .int (nI c0)), (2, .int (nI b)), (3, .int (nI i))] := hl
                refine lv_aload_n hx hb dX4_nearest_53 rfl (lv_at hl 0 rfl) ?_
                refine va_get (D := D) (ci := 5) (v := .ref (h 1)) (C := RX4) (T := TX4) (N := 28) hx hb hts kX4_nearest_inX4 hown hK hP 0 rfl rfl 5 (by decide) (hts _ kX4_nearest_f7) (fun _ h9 => h9) rfl dX4_nearest_54 ?_
                refine lv_iload_n hx hb dX4_nearest_57 rfl (lv_at hl 3 rfl) ?_
                refine z_iald (k := i) (v := L 0 i) hx hb hK hP 1 rfl (by decide) (by omega) (rfl) dX4_nearest_58 ?_
                refine lv_aload_n hx hb dX4_nearest_59 rfl (lv_at hl 0 rfl) ?_
                refine va_get (D := D) (ci := 5) (v := .ref (h 8)) (C := RX4) (T := TX4) (N := 28) hx hb hts kX4_nearest_inX4 hown hK hP 0 rfl rfl 13 (by decide) (hts _ kX4_nearest_f32) (fun _ h9 => h9) rfl dX4_nearest_60 ?_
                refine lv_iload_n hx hb dX4_nearest_63 rfl (lv_at hl 1 rfl) ?_
                refine z_iald (k := c0) (v := C 0 c0) hx hb hK hP 8 rfl (by decide) (by omega) (rfl) dX4_nearest_64 ?_
                refine z_backi (z_runS (n := 2) (As := [.int (L 0 i), .int (C 0 c0)]) (rest := []) hx hb hml hown hts hK hE hP hD [] rfl (by decide) (tX4_far l D cI cZ cJ (L 0 i) (C 0 c0) _) gX4_nearest_X4_far rfl rfl rfl (by decide +kernel) ⟨Nat.le_of_ble_eq_true rfl, Nat.le_of_ble_eq_true rfl⟩ rfl hl.1 rfl (Nat.le_of_ble_eq_true rfl) dX4_nearest_65 ⟨Nat.zero_le _, Nat.zero_le _⟩) hP hD hS hA [] rfl (fun r1 w1 H locs hp1 hP hD hS => ?_)
                obtain ⟨rfl, rfl⟩ := hp1
                have hP : va_P D vwCl (wM cI cZ h cd lev tm gn nL nC nE L B C F ys ao) H := hP
                have hD : va_D A (wM cI cZ h cd lev tm gn nL nC nE L B C F ys ao) := hD
                refine lv_aload_n hx hb dX4_nearest_68 rfl (lv_at hl 0 rfl) ?_
                refine va_get (D := D) (ci := 5) (v := .ref (h 1)) (C := RX4) (T := TX4) (N := 28) hx hb hts kX4_nearest_inX4 hown hK hP 0 rfl rfl 5 (by decide) (hts _ kX4_nearest_f7) (fun _ h9 => h9) rfl dX4_nearest_69 ?_
                refine lv_iload_n hx hb dX4_nearest_72 rfl (lv_at hl 2 rfl) ?_
                refine z_iald (k := b) (v := L 0 b) hx hb hK hP 1 rfl (by decide) (by omega) (rfl) dX4_nearest_73 ?_
                refine lv_aload_n hx hb dX4_nearest_74 rfl (lv_at hl 0 rfl) ?_
                refine va_get (D := D) (ci := 5) (v := .ref (h 8)) (C := RX4) (T := TX4) (N := 28) hx hb hts kX4_nearest_inX4 hown hK hP 0 rfl rfl 13 (by decide) (hts _ kX4_nearest_f32) (fun _ h9 => h9) rfl dX4_nearest_75 ?_
                refine lv_iload_n hx hb dX4_nearest_78 rfl (lv_at hl 1 rfl) ?_
                refine z_iald (k := c0) (v := C 0 c0) hx hb hK hP 8 rfl (by decide) (by omega) (rfl) dX4_nearest_79 ?_
                refine z_backi (z_runS (n := 2) (As := [.int (L 0 b), .int (C 0 c0)]) (rest := [.int (farI (L 0 i) (C 0 c0))]) hx hb hml hown hts hK hE hP hD [] rfl (by decide) (tX4_far l D cI cZ cJ (L 0 b) (C 0 c0) _) gX4_nearest_X4_far rfl rfl rfl (by decide +kernel) ⟨Nat.le_of_ble_eq_true rfl, Nat.le_of_ble_eq_true rfl⟩ rfl hl.1 rfl (Nat.le_of_ble_eq_true rfl) dX4_nearest_80 ⟨Nat.zero_le _, Nat.zero_le _⟩) hP hD hS hA [] rfl (fun r2 w1 H locs hp2 hP hD hS => ?_)
                obtain ⟨rfl, rfl⟩ := hp2
                have hP : va_P D vwCl (wM cI cZ h cd lev tm gn nL nC nE L B C F ys ao) H := hP
                have hD : va_D A (wM cI cZ h cd lev tm gn nL nC nE L B C F ys ao) := hD
                refine lv_icmp_ge (x := farI (L 0 i) (C 0 c0)) (y := farI (L 0 b) (C 0 c0)) (tgt := 88) hx hb dX4_nearest_83 (by decide) (fun c83 => ?_) (fun c83 => ?_)
                · skip
                  refine lv_iinc (v := nI (i + 1)) (lv' := [(3, .int (nI (i + 1))), (0, .ref (h 0)), (1, .int (nI c0)), (2, .int (nI b))]) hx hb dX4_nearest_88 hl (k := 3) rfl (by rw [show Int32.ofInt 1 = nI 1 from rfl, nI_add]) (by decide) rfl (fun ls hl => ?_)
                  refine lv_goto (tgt := 4) hx hb dX4_nearest_91 (by decide) ?_
                  exact ih4 (i + 1) (some b) (by omega) (by omega) (by rw [nmF, ← ex]; simp [getB, c9, c18, c27, Int32.not_lt.mpr c42, Int32.not_lt.mpr c83]) (fun b h => by cases h; omega) H locs ls (lv_sub hl [1, 2, 3, 0] rfl) hP hD hS
                · skip
                  refine lv_iload_n hx hb dX4_nearest_86 rfl (lv_at hl 3 rfl) ?_
                  refine lv_istore_n (lv' := [(2, .int (nI i)), (0, .ref (h 0)), (1, .int (nI c0)), (3, .int (nI i))]) hx hb dX4_nearest_87 rfl hl (by decide) rfl (fun ls hl => ?_)
                  refine lv_iinc (v := nI (i + 1)) (lv' := [(3, .int (nI (i + 1))), (2, .int (nI i)), (0, .ref (h 0)), (1, .int (nI c0))]) hx hb dX4_nearest_88 hl (k := 3) rfl (by rw [show Int32.ofInt 1 = nI 1 from rfl, nI_add]) (by decide) rfl (fun ls hl => ?_)
                  refine lv_goto (tgt := 4) hx hb dX4_nearest_91 (by decide) ?_
                  exact ih4 (i + 1) (some i) (by omega) (by omega) (by rw [nmF, ← ex]; simp [getB, c9, c18, c27, Int32.not_lt.mpr c42, Int32.not_le.mp c83]) (fun b h => by cases h; omega) H locs ls (lv_sub hl [2, 3, 1, 0] rfl) hP hD hS
            · skip
              refine lv_goto (tgt := 88) hx hb dX4_nearest_45 (by decide) ?_
              refine lv_iinc (v := nI (i + 1)) (lv' := [(3, .int (nI (i + 1))), (0, .ref (h 0)), (1, .int (nI c0)), (2, .int (encO bo))]) hx hb dX4_nearest_88 hl (k := 3) rfl (by rw [show Int32.ofInt 1 = nI 1 from rfl, nI_add]) (by decide) rfl (fun ls hl => ?_)
              refine lv_goto (tgt := 4) hx hb dX4_nearest_91 (by decide) ?_
              exact ih4 (i + 1) bo (by omega) (by omega) (by rw [nmF, ← ex]; simp [getB, c9, c18, c27, Int32.not_le.mp c42]) (fun b h => Nat.lt_succ_of_lt (hbo b h)) H locs ls (lv_sub hl [1, 2, 3, 0] rfl) hP hD hS
  refine lv_iconst (v := (-1)) hx hb dX4_nearest_0 (by decide) ?_
  refine lv_istore_n (lv' := [(2, .int (-1)), (0, .ref (h 0)), (1, .int (nI c0))]) hx hb dX4_nearest_1 rfl hl (by decide) rfl (fun ls hl => ?_)
  refine lv_iconst (v := 0) hx hb dX4_nearest_2 (by decide) ?_
  refine lv_istore_n (lv' := [(3, .int 0), (2, .int (-1)), (0, .ref (h 0)), (1, .int (nI c0))]) hx hb dX4_nearest_3 rfl hl (by decide) rfl (fun ls hl => ?_)
  exact L4 (nL + 1) 0 none (by omega) (by omega) (rfl) (fun b h => nomatch h) s.heap [] ls (lv_sub hl [2, 3, 1, 0] rfl) hP hD hS

theorem kX4_tell_inX4 : ∀ w ∈ wsX40, w ∈ wsX4_tell := by decide +kernel
theorem kX4_tell_f59 : Cond.fieldLink RX4 59 "LiftRows2Model" "eventTime" "[I" ∈ wsX4_tell := by decide +kernel
theorem kX4_tell_f109 : Cond.fieldLink RX4 109 "LiftRows2Model" "events" "I" ∈ wsX4_tell := by decide +kernel
theorem kX4_tell_f99 : Cond.fieldLink RX4 99 "LiftRows2Model" "time" "I" ∈ wsX4_tell := by decide +kernel
theorem kX4_tell_f62 : Cond.fieldLink RX4 62 "LiftRows2Model" "eventCall" "[I" ∈ wsX4_tell := by decide +kernel
theorem kX4_tell_f65 : Cond.fieldLink RX4 65 "LiftRows2Model" "eventKind" "[I" ∈ wsX4_tell := by decide +kernel
set_option maxHeartbeats 4000000 in
set_option maxRecDepth 100000 in
theorem tX4_tell (l : Launch) (D : va_G) (cI cZ cJ : ClassId) (h : Nat → Nat) (cd : Int32) (lev tm : Nat) (gn : Int32) (nL nC nE : Nat) (L B C F : Nat → Nat → Int32) (ys ao : Nat → Int32) (q k : Int32) (hn : nE < 48) : ∀ sz : Nat, zMv l yX4_tell wsX4_tell ({ frames := 0, cells := 0, slots := 0, locals := 0 } : Room) D cI cZ cJ (wM cI cZ h cd lev tm gn nL nC nE L B C F ys ao) sz [.ref (h 0), .int q, .int k] (fun w' => w' = wM cI cZ h cd lev tm gn nL nC (nE + 1) L B C (telF F nE (nI tm) q k) ys ao) := by
  intro sz
  refine z_head (y := yX4_tell) (av := [.ref (h 0), .int q, .int k]) (w := (wM cI cZ h cd lev tm gn nL nC nE L B C F ys ao)) (Qc := fun A => zQv D (wM cI cZ h cd lev tm gn nL nC nE L B C F ys ao) (fun w' => w' = wM cI cZ h cd lev tm gn nL nC (nE + 1) L B C (telF F nE (nI tm) q k) ys ao) A) (cc := cX4_tell) (maxL := 3) (ret := none) (by decide) rfl (Nat.le_of_ble_eq_true rfl) ?_
  intro p e s m below meth c ls A hat hP hD hS hl
  obtain ⟨hx, hb, hr, hml, hlocks, hts, hown, hin, hK, hE, hA⟩ := hat
  have hP : va_P D vwCl (wM cI cZ h cd lev tm gn nL nC nE L B C F ys ao) s.heap := hP
  have hD : va_D A (wM cI cZ h cd lev tm gn nL nC nE L B C F ys ao) := hD
  have hl : lv_has ls 3 [(0, .ref (h 0)), (1, .int q), (2, .int k)] := hl
  refine lv_aload_n hx hb dX4_tell_0 rfl (lv_at hl 0 rfl) ?_
  refine va_get (D := D) (ci := 5) (v := .ref (h 17)) (C := RX4) (T := TX4) (N := 28) hx hb hts kX4_tell_inX4 hown hK hP 0 rfl rfl 23 (by decide) (hts _ kX4_tell_f59) (fun _ h9 => h9) rfl dX4_tell_1 ?_
  refine lv_aload_n hx hb dX4_tell_4 rfl (lv_at hl 0 rfl) ?_
  refine va_get (D := D) (ci := 5) (v := .int (nI nE)) (C := RX4) (T := TX4) (N := 28) hx hb hts kX4_tell_inX4 hown hK hP 0 rfl rfl 22 (by decide) (hts _ kX4_tell_f109) (fun _ h9 => h9) rfl dX4_tell_5 ?_
  refine lv_aload_n hx hb dX4_tell_8 rfl (lv_at hl 0 rfl) ?_
  refine va_get (D := D) (ci := 5) (v := .int (nI tm)) (C := RX4) (T := TX4) (N := 28) hx hb hts kX4_tell_inX4 hown hK hP 0 rfl rfl 2 (by decide) (hts _ kX4_tell_f99) (fun _ h9 => h9) rfl dX4_tell_9 ?_
  refine z_iast (k := nE) (x := nI tm) hx hb hK hP hD hS 17 rfl (by decide) (by omega) dX4_tell_12 (fun H locs hP hD hS => ?_)
  have hP : va_P D vwCl (wM cI cZ h cd lev tm gn nL nC nE L B C (upC F 0 nE (nI tm)) ys ao) H := hP
  have hD : va_D A (wM cI cZ h cd lev tm gn nL nC nE L B C (upC F 0 nE (nI tm)) ys ao) := hD
  refine lv_aload_n hx hb dX4_tell_13 rfl (lv_at hl 0 rfl) ?_
  refine va_get (D := D) (ci := 5) (v := .ref (h 18)) (C := RX4) (T := TX4) (N := 28) hx hb hts kX4_tell_inX4 hown hK hP 0 rfl rfl 24 (by decide) (hts _ kX4_tell_f62) (fun _ h9 => h9) rfl dX4_tell_14 ?_
  refine lv_aload_n hx hb dX4_tell_17 rfl (lv_at hl 0 rfl) ?_
  refine va_get (D := D) (ci := 5) (v := .int (nI nE)) (C := RX4) (T := TX4) (N := 28) hx hb hts kX4_tell_inX4 hown hK hP 0 rfl rfl 22 (by decide) (hts _ kX4_tell_f109) (fun _ h9 => h9) rfl dX4_tell_18 ?_
  refine lv_iload_n hx hb dX4_tell_21 rfl (lv_at hl 1 rfl) ?_
  refine z_iast (k := nE) (x := q) hx hb hK hP hD hS 18 rfl (by decide) (by omega) dX4_tell_22 (fun H locs hP hD hS => ?_)
  have hP : va_P D vwCl (wM cI cZ h cd lev tm gn nL nC nE L B C (upC (upC F 0 nE (nI tm)) 2 nE q) ys ao) H := hP
  have hD : va_D A (wM cI cZ h cd lev tm gn nL nC nE L B C (upC (upC F 0 nE (nI tm)) 2 nE q) ys ao) := hD
  refine lv_aload_n hx hb dX4_tell_23 rfl (lv_at hl 0 rfl) ?_
  refine va_get (D := D) (ci := 5) (v := .ref (h 19)) (C := RX4) (T := TX4) (N := 28) hx hb hts kX4_tell_inX4 hown hK hP 0 rfl rfl 25 (by decide) (hts _ kX4_tell_f65) (fun _ h9 => h9) rfl dX4_tell_24 ?_
  refine lv_aload_n hx hb dX4_tell_27 rfl (lv_at hl 0 rfl) ?_
  refine va_get (D := D) (ci := 5) (v := .int (nI nE)) (C := RX4) (T := TX4) (N := 28) hx hb hts kX4_tell_inX4 hown hK hP 0 rfl rfl 22 (by decide) (hts _ kX4_tell_f109) (fun _ h9 => h9) rfl dX4_tell_28 ?_
  refine lv_iload_n hx hb dX4_tell_31 rfl (lv_at hl 2 rfl) ?_
  refine z_iast (k := nE) (x := k) hx hb hK hP hD hS 19 rfl (by decide) (by omega) dX4_tell_32 (fun H locs hP hD hS => ?_)
  have hP : va_P D vwCl (wM cI cZ h cd lev tm gn nL nC nE L B C (upC (upC (upC F 0 nE (nI tm)) 2 nE q) 3 nE k) ys ao) H := hP
  have hD : va_D A (wM cI cZ h cd lev tm gn nL nC nE L B C (upC (upC (upC F 0 nE (nI tm)) 2 nE q) 3 nE k) ys ao) := hD
  refine lv_aload_n hx hb dX4_tell_33 rfl (lv_at hl 0 rfl) ?_
  refine lv_dup hx hb dX4_tell_34 rfl ?_
  refine va_get (D := D) (ci := 5) (v := .int (nI nE)) (C := RX4) (T := TX4) (N := 28) hx hb hts kX4_tell_inX4 hown hK hP 0 rfl rfl 22 (by decide) (hts _ kX4_tell_f109) (fun _ h9 => h9) rfl dX4_tell_35 ?_
  refine lv_iconst (v := 1) hx hb dX4_tell_38 (by decide) ?_
  refine zn_add (i := nE) (j := 1) hx hb dX4_tell_39 ?_
  refine va_put (D := D) (ci := 5) (v := .int (nI (nE + 1))) (ty := .int) (C := RX4) (T := TX4) (N := 28) hx hb hts kX4_tell_inX4 tyX4 tyX4_ok nmX4 hown hK hP hD hS 0 rfl rfl 22 (by decide) (hts _ kX4_tell_f109) (fun _ h9 => h9) rfl (by decide +kernel) rfl rfl (Nat.le_of_ble_eq_true rfl) dX4_tell_40 (fun H locs hP hD hS => ?_)
  have hP : va_P D vwCl (wM cI cZ h cd lev tm gn nL nC (nE + 1) L B C (upC (upC (upC F 0 nE (nI tm)) 2 nE q) 3 nE k) ys ao) H := hP
  have hD : va_D A (wM cI cZ h cd lev tm gn nL nC (nE + 1) L B C (upC (upC (upC F 0 nE (nI tm)) 2 nE q) 3 nE k) ys ao) := hD
  exact z_vret hx hb hr hlocks hS hP rfl dX4_tell_43 (rfl)

theorem kX4_stops_inX4 : ∀ w ∈ wsX40, w ∈ wsX4_stops := by decide +kernel
theorem kX4_stops_f88 : Cond.fieldLink RX4 88 "LiftRows2Model" "calls" "I" ∈ wsX4_stops := by decide +kernel
theorem kX4_stops_f32 : Cond.fieldLink RX4 32 "LiftRows2Model" "from" "[I" ∈ wsX4_stops := by decide +kernel
theorem kX4_stops_f7 : Cond.fieldLink RX4 7 "LiftRows2Model" "at" "[I" ∈ wsX4_stops := by decide +kernel
theorem kX4_stops_f41 : Cond.fieldLink RX4 41 "LiftRows2Model" "load" "[I" ∈ wsX4_stops := by decide +kernel
theorem kX4_stops_f13 : Cond.fieldLink RX4 13 "LiftRows2Model" "capacity" "[I" ∈ wsX4_stops := by decide +kernel
theorem kX4_stops_f35 : Cond.fieldLink RX4 35 "LiftRows2Model" "to" "[I" ∈ wsX4_stops := by decide +kernel
set_option maxHeartbeats 4000000 in
set_option maxRecDepth 100000 in
theorem tX4_stops (l : Launch) (D : va_G) (cI cZ cJ : ClassId) (h : Nat → Nat) (cd : Int32) (lev tm : Nat) (gn : Int32) (nL nC nE : Nat) (L B C F : Nat → Nat → Int32) (ys ao : Nat → Int32) (lf : Nat) (hlf : lf < 4) (hC : nC ≤ 24)  : ∀ sz : Nat, zMi l yX4_stops wsX4_stops ({ frames := 1, cells := 0, slots := 0, locals := 23 } : Room) D cI cZ cJ (wM cI cZ h cd lev tm gn nL nC nE L B C F ys ao) sz [.ref (h 0), .int (nI lf)] (fun r w' => r = bI (stpB L C lf nC) ∧ w' = wM cI cZ h cd lev tm gn nL nC nE L B C F ys ao) := by
  intro sz
  refine z_head (y := yX4_stops) (av := [.ref (h 0), .int (nI lf)]) (w := (wM cI cZ h cd lev tm gn nL nC nE L B C F ys ao)) (Qc := fun A => zQi D (wM cI cZ h cd lev tm gn nL nC nE L B C F ys ao) (fun r w' => r = bI (stpB L C lf nC) ∧ w' = wM cI cZ h cd lev tm gn nL nC nE L B C F ys ao) A) (cc := cX4_stops) (maxL := 4) (ret := (some .boolean)) (by decide) rfl (Nat.le_of_ble_eq_true rfl) ?_
  intro p e s m below meth c ls A hat hP hD hS hl
  obtain ⟨hx, hb, hr, hml, hlocks, hts, hown, hin, hK, hE, hA⟩ := hat
  have hP : va_P D vwCl (wM cI cZ h cd lev tm gn nL nC nE L B C F ys ao) s.heap := hP
  have hD : va_D A (wM cI cZ h cd lev tm gn nL nC nE L B C F ys ao) := hD
  have hl : lv_has ls 4 [(0, .ref (h 0)), (1, .int (nI lf))] := hl
  have L70 : ∀ (fu : Nat) (i : Nat) (x : Int32), i ≤ nC → nC + 1 ≤ i + fu → (anyW (sf1 L C lf) nC = false) → (x = aboI C (nI lf) nC) → (anyW (sf2 L C lf nC) i = false) → ∀ (H : Heap) (locs : List Loc) (ls : Array Slot), lv_has ls 4 [(0, .ref (h 0)), (1, .int (nI lf)), (2, .int x), (3, .int (nI i))] → va_P D vwCl (wM cI cZ h cd lev tm gn nL nC nE L B C F ys ao) H → va_D A (wM cI cZ h cd lev tm gn nL nC nE L B C F ys ao) → va_S A s.heap H locs → W p l e ({ frames := 1, cells := 0, slots := 0, locals := 23 } : Room) s m ([.ref (h 0), .int (nI lf)] : List Value).toArray below meth c H locs 0 0 (MQ below (zQi D (wM cI cZ h cd lev tm gn nL nC nE L B C F ys ao) (fun r w' => r = bI (stpB L C lf nC) ∧ w' = wM cI cZ h cd lev tm gn nL nC nE L B C F ys ao) A) ([.ref (h 0), .int (nI lf)] : List Value).toArray s 0 0 A) (F0 m 70 ls []) := by
    intro fu
    induction fu with
    | zero =>
      intro i x h1 h2
      exact absurd h2 (by omega)
    | succ fu ih70 =>
      intro i x hle hfu e1 es e2 H locs ls hl hP hD hS
      refine lv_iload_n hx hb dX4_stops_70 rfl (lv_at hl 3 rfl) ?_
      refine lv_aload_n hx hb dX4_stops_71 rfl (lv_at hl 0 rfl) ?_
      refine va_get (D := D) (ci := 5) (v := .int (nI nC)) (C := RX4) (T := TX4) (N := 28) hx hb hts kX4_stops_inX4 hown hK hP 0 rfl rfl 12 (by decide) (hts _ kX4_stops_f88) (fun _ h9 => h9) rfl dX4_stops_72 ?_
      refine zn_ge (i := i) (j := nC) (tgt := 128) hx hb (by omega) (by omega) dX4_stops_75 (by decide) (fun c75 => ?_) (fun c75 => ?_)
      · skip
        refine lv_iconst (v := 0) hx hb dX4_stops_128 (by decide) ?_
        exact z_zret hx hb hr hlocks hS hP rfl (Or.inl rfl) dX4_stops_129 (⟨by rw [stpB, e1, show anyW (sf2 L C lf nC) nC = false by rw [← e2, show i = nC by omega]]; rfl, rfl⟩)
      · skip
        refine lv_aload_n hx hb dX4_stops_78 rfl (lv_at hl 0 rfl) ?_
        refine lv_iload_n hx hb dX4_stops_79 rfl (lv_at hl 3 rfl) ?_
        refine lv_iload_n hx hb dX4_stops_80 rfl (lv_at hl 1 rfl) ?_
        refine lv_iconst (v := 0) hx hb dX4_stops_81 (by decide) ?_
        refine z_backiA (z_runVA (n := 3) (As := [.int (nI i), .int (nI lf), .int 0]) (ci := 5) (rest := []) hx hb hml hown hts hK hE hP hD (tX4_is l D cI cZ cJ h cd lev tm gn nL nC nE L B C F ys ao i (nI lf) 0 (by omega) _) gX4_stops_X4_is rfl rfl rfl (by decide +kernel) ⟨Nat.le_of_ble_eq_true rfl, Nat.le_of_ble_eq_true rfl⟩ rfl rfl rfl hl.1 rfl (Nat.le_of_ble_eq_true rfl) dX4_stops_82 ⟨Nat.zero_le _, Nat.zero_le _⟩) hD hS hA (fun r1 w1 H locs hp1 hP hD hS => ?_)
        obtain ⟨rfl, rfl⟩ := hp1
        have hP : va_P D vwCl (wM cI cZ h cd lev tm gn nL nC nE L B C F ys ao) H := hP
        have hD : va_D A (wM cI cZ h cd lev tm gn nL nC nE L B C F ys ao) := hD
        refine zb_eq (b := (isB C i 0 (nI lf))) (tgt := 122) hx hb dX4_stops_85 (by decide) (fun c85 => ?_) (fun c85 => ?_)
        · skip
          refine lv_iinc (v := nI (i + 1)) (lv' := [(3, .int (nI (i + 1))), (0, .ref (h 0)), (1, .int (nI lf)), (2, .int x)]) hx hb dX4_stops_122 hl (k := 3) rfl (by rw [show Int32.ofInt 1 = nI 1 from rfl, nI_add]) (by decide) rfl (fun ls hl => ?_)
          refine lv_goto (tgt := 70) hx hb dX4_stops_125 (by decide) ?_
          exact ih70 (i + 1) x (by omega) (by omega) (e1) (es) (by rw [anyW_s]; exact Bool.or_eq_false_iff.mpr ⟨e2, by rw [sf2, ← es]; simp [c75, c85, c75, c85]⟩) H locs ls (lv_sub hl [1, 2, 3, 0] rfl) hP hD hS
        · skip
          refine lv_aload_n hx hb dX4_stops_88 rfl (lv_at hl 0 rfl) ?_
          refine va_get (D := D) (ci := 5) (v := .ref (h 8)) (C := RX4) (T := TX4) (N := 28) hx hb hts kX4_stops_inX4 hown hK hP 0 rfl rfl 13 (by decide) (hts _ kX4_stops_f32) (fun _ h9 => h9) rfl dX4_stops_89 ?_
          refine lv_iload_n hx hb dX4_stops_92 rfl (lv_at hl 3 rfl) ?_
          refine z_iald (k := i) (v := C 0 i) hx hb hK hP 8 rfl (by decide) (by omega) (rfl) dX4_stops_93 ?_
          refine lv_aload_n hx hb dX4_stops_94 rfl (lv_at hl 0 rfl) ?_
          refine va_get (D := D) (ci := 5) (v := .ref (h 1)) (C := RX4) (T := TX4) (N := 28) hx hb hts kX4_stops_inX4 hown hK hP 0 rfl rfl 5 (by decide) (hts _ kX4_stops_f7) (fun _ h9 => h9) rfl dX4_stops_95 ?_
          refine lv_iload_n hx hb dX4_stops_98 rfl (lv_at hl 1 rfl) ?_
          refine z_iald (k := lf) (v := L 0 lf) hx hb hK hP 1 rfl (by decide) (by omega) (rfl) dX4_stops_99 ?_
          refine lv_icmp_ne (x := C 0 i) (y := L 0 lf) (tgt := 122) hx hb dX4_stops_100 (by decide) (fun c100 => ?_) (fun c100 => ?_)
          · skip
            refine lv_iinc (v := nI (i + 1)) (lv' := [(3, .int (nI (i + 1))), (0, .ref (h 0)), (1, .int (nI lf)), (2, .int x)]) hx hb dX4_stops_122 hl (k := 3) rfl (by rw [show Int32.ofInt 1 = nI 1 from rfl, nI_add]) (by decide) rfl (fun ls hl => ?_)
            refine lv_goto (tgt := 70) hx hb dX4_stops_125 (by decide) ?_
            exact ih70 (i + 1) x (by omega) (by omega) (e1) (es) (by rw [anyW_s]; exact Bool.or_eq_false_iff.mpr ⟨e2, by rw [sf2, ← es]; simp [c75, c85, c100, c75, c85, c100]⟩) H locs ls (lv_sub hl [1, 2, 3, 0] rfl) hP hD hS
          · skip
            refine lv_iload_n hx hb dX4_stops_103 rfl (lv_at hl 2 rfl) ?_
            refine lv_aload_n hx hb dX4_stops_104 rfl (lv_at hl 0 rfl) ?_
            refine va_get (D := D) (ci := 5) (v := .ref (h 11)) (C := RX4) (T := TX4) (N := 28) hx hb hts kX4_stops_inX4 hown hK hP 0 rfl rfl 16 (by decide) (hts _ kX4_stops_f41) (fun _ h9 => h9) rfl dX4_stops_105 ?_
            refine lv_iload_n hx hb dX4_stops_108 rfl (lv_at hl 3 rfl) ?_
            refine z_iald (k := i) (v := C 3 i) hx hb hK hP 11 rfl (by decide) (by omega) (rfl) dX4_stops_109 ?_
            refine lv_iadd (x := x) (y := C 3 i) hx hb dX4_stops_110 ?_
            refine lv_aload_n hx hb dX4_stops_111 rfl (lv_at hl 0 rfl) ?_
            refine va_get (D := D) (ci := 5) (v := .ref (h 2)) (C := RX4) (T := TX4) (N := 28) hx hb hts kX4_stops_inX4 hown hK hP 0 rfl rfl 6 (by decide) (hts _ kX4_stops_f13) (fun _ h9 => h9) rfl dX4_stops_112 ?_
            refine lv_iload_n hx hb dX4_stops_115 rfl (lv_at hl 1 rfl) ?_
            refine z_iald (k := lf) (v := L 1 lf) hx hb hK hP 2 rfl (by decide) (by omega) (rfl) dX4_stops_116 ?_
            refine lv_icmp_gt (x := x + (C 3 i)) (y := L 1 lf) (tgt := 122) hx hb dX4_stops_117 (by decide) (fun c117 => ?_) (fun c117 => ?_)
            · skip
              refine lv_iinc (v := nI (i + 1)) (lv' := [(3, .int (nI (i + 1))), (0, .ref (h 0)), (1, .int (nI lf)), (2, .int x)]) hx hb dX4_stops_122 hl (k := 3) rfl (by rw [show Int32.ofInt 1 = nI 1 from rfl, nI_add]) (by decide) rfl (fun ls hl => ?_)
              refine lv_goto (tgt := 70) hx hb dX4_stops_125 (by decide) ?_
              exact ih70 (i + 1) x (by omega) (by omega) (e1) (es) (by rw [anyW_s]; exact Bool.or_eq_false_iff.mpr ⟨e2, by rw [sf2, ← es]; simp [c75, c85, c100, c117, c75, c85, c100, c117]⟩) H locs ls (lv_sub hl [1, 2, 3, 0] rfl) hP hD hS
            · skip
              refine lv_iconst (v := 1) hx hb dX4_stops_120 (by decide) ?_
              exact z_zret hx hb hr hlocks hS hP rfl (Or.inr rfl) dX4_stops_121 (⟨by rw [stpB, e1, show anyW (sf2 L C lf nC) nC = true from anyW_of (i := i) (by omega) (by rw [sf2, ← es]; simp [c75, c85, c100, c117, c75, c85, c100, c117])]; rfl, rfl⟩)
  have L4 : ∀ (fu : Nat) (i : Nat) (x : Int32), i ≤ nC → nC + 1 ≤ i + fu → (anyW (sf1 L C lf) i = false) → (x = aboI C (nI lf) i) → ∀ (H : Heap) (locs : List Loc) (ls : Array Slot), lv_has ls 4 [(0, .ref (h 0)), (1, .int (nI lf)), (2, .int x), (3, .int (nI i))] → va_P D vwCl (wM cI cZ h cd lev tm gn nL nC nE L B C F ys ao) H → va_D A (wM cI cZ h cd lev tm gn nL nC nE L B C F ys ao) → va_S A s.heap H locs → W p l e ({ frames := 1, cells := 0, slots := 0, locals := 23 } : Room) s m ([.ref (h 0), .int (nI lf)] : List Value).toArray below meth c H locs 0 0 (MQ below (zQi D (wM cI cZ h cd lev tm gn nL nC nE L B C F ys ao) (fun r w' => r = bI (stpB L C lf nC) ∧ w' = wM cI cZ h cd lev tm gn nL nC nE L B C F ys ao) A) ([.ref (h 0), .int (nI lf)] : List Value).toArray s 0 0 A) (F0 m 4 ls []) := by
    intro fu
    induction fu with
    | zero =>
      intro i x h1 h2
      exact absurd h2 (by omega)
    | succ fu ih4 =>
      intro i x hle hfu e1 ex H locs ls hl hP hD hS
      have L60 : ∀ (y : Int32), (i < nC) → (sf1 L C lf i = false) → (y = if isB C i 1 (nI lf) = true then C 3 i else 0) → ∀ (H : Heap) (locs : List Loc) (ls : Array Slot), lv_has ls 4 [(0, .ref (h 0)), (1, .int (nI lf)), (2, .int x), (3, .int (nI i))] → va_P D vwCl (wM cI cZ h cd lev tm gn nL nC nE L B C F ys ao) H → va_D A (wM cI cZ h cd lev tm gn nL nC nE L B C F ys ao) → va_S A s.heap H locs → W p l e ({ frames := 1, cells := 0, slots := 0, locals := 23 } : Room) s m ([.ref (h 0), .int (nI lf)] : List Value).toArray below meth c H locs 0 0 (MQ below (zQi D (wM cI cZ h cd lev tm gn nL nC nE L B C F ys ao) (fun r w' => r = bI (stpB L C lf nC) ∧ w' = wM cI cZ h cd lev tm gn nL nC nE L B C F ys ao) A) ([.ref (h 0), .int (nI lf)] : List Value).toArray s 0 0 A) (F0 m 60 ls [.int y, .int x]) := by
        intro y hlt hno ey H locs ls hl hP hD hS
        refine lv_iadd (x := x) (y := y) hx hb dX4_stops_60 ?_
        refine lv_istore_n (lv' := [(2, .int (x + y)), (0, .ref (h 0)), (1, .int (nI lf)), (3, .int (nI i))]) hx hb dX4_stops_61 rfl hl (by decide) rfl (fun ls hl => ?_)
        refine lv_iinc (v := nI (i + 1)) (lv' := [(3, .int (nI (i + 1))), (2, .int (x + y)), (0, .ref (h 0)), (1, .int (nI lf))]) hx hb dX4_stops_62 hl (k := 3) rfl (by rw [show Int32.ofInt 1 = nI 1 from rfl, nI_add]) (by decide) rfl (fun ls hl => ?_)
        refine lv_goto (tgt := 4) hx hb dX4_stops_65 (by decide) ?_
        exact ih4 (i + 1) (x + y) (by omega) (by omega) (by rw [anyW_s]; exact Bool.or_eq_false_iff.mpr ⟨e1, hno⟩) (by rw [ex, ey]; exact sum_add _ _ i) H locs ls (lv_sub hl [2, 3, 1, 0] rfl) hP hD hS
      have L39 : ∀ (u : Unit), (i < nC) → (sf1 L C lf i = false) → ∀ (H : Heap) (locs : List Loc) (ls : Array Slot), lv_has ls 4 [(0, .ref (h 0)), (1, .int (nI lf)), (2, .int x), (3, .int (nI i))] → va_P D vwCl (wM cI cZ h cd lev tm gn nL nC nE L B C F ys ao) H → va_D A (wM cI cZ h cd lev tm gn nL nC nE L B C F ys ao) → va_S A s.heap H locs → W p l e ({ frames := 1, cells := 0, slots := 0, locals := 23 } : Room) s m ([.ref (h 0), .int (nI lf)] : List Value).toArray below meth c H locs 0 0 (MQ below (zQi D (wM cI cZ h cd lev tm gn nL nC nE L B C F ys ao) (fun r w' => r = bI (stpB L C lf nC) ∧ w' = wM cI cZ h cd lev tm gn nL nC nE L B C F ys ao) A) ([.ref (h 0), .int (nI lf)] : List Value).toArray s 0 0 A) (F0 m 39 ls []) := by
        intro u hlt hno H locs ls hl hP hD hS
        refine lv_iload_n hx hb dX4_stops_39 rfl (lv_at hl 2 rfl) ?_
        refine lv_aload_n hx hb dX4_stops_40 rfl (lv_at hl 0 rfl) ?_
        refine lv_iload_n hx hb dX4_stops_41 rfl (lv_at hl 3 rfl) ?_
        refine lv_iload_n hx hb dX4_stops_42 rfl (lv_at hl 1 rfl) ?_
        refine lv_iconst (v := 1) hx hb dX4_stops_43 (by decide) ?_
        refine z_backiA (z_runVA (n := 3) (As := [.int (nI i), .int (nI lf), .int 1]) (ci := 5) (rest := [.int x]) hx hb hml hown hts hK hE hP hD (tX4_is l D cI cZ cJ h cd lev tm gn nL nC nE L B C F ys ao i (nI lf) 1 (by omega) _) gX4_stops_X4_is rfl rfl rfl (by decide +kernel) ⟨Nat.le_of_ble_eq_true rfl, Nat.le_of_ble_eq_true rfl⟩ rfl rfl rfl hl.1 rfl (Nat.le_of_ble_eq_true rfl) dX4_stops_44 ⟨Nat.zero_le _, Nat.zero_le _⟩) hD hS hA (fun r2 w1 H locs hp2 hP hD hS => ?_)
        obtain ⟨rfl, rfl⟩ := hp2
        have hP : va_P D vwCl (wM cI cZ h cd lev tm gn nL nC nE L B C F ys ao) H := hP
        have hD : va_D A (wM cI cZ h cd lev tm gn nL nC nE L B C F ys ao) := hD
        refine zb_eq (b := (isB C i 1 (nI lf))) (tgt := 59) hx hb dX4_stops_47 (by decide) (fun c47 => ?_) (fun c47 => ?_)
        · skip
          refine lv_iconst (v := 0) hx hb dX4_stops_59 (by decide) ?_
          exact L60 0 (by omega) (hno) (by simp [c47]) H locs ls (lv_sub hl [0, 1, 2, 3] rfl) hP hD hS
        · skip
          refine lv_aload_n hx hb dX4_stops_50 rfl (lv_at hl 0 rfl) ?_
          refine va_get (D := D) (ci := 5) (v := .ref (h 11)) (C := RX4) (T := TX4) (N := 28) hx hb hts kX4_stops_inX4 hown hK hP 0 rfl rfl 16 (by decide) (hts _ kX4_stops_f41) (fun _ h9 => h9) rfl dX4_stops_51 ?_
          refine lv_iload_n hx hb dX4_stops_54 rfl (lv_at hl 3 rfl) ?_
          refine z_iald (k := i) (v := C 3 i) hx hb hK hP 11 rfl (by decide) (by omega) (rfl) dX4_stops_55 ?_
          refine lv_goto (tgt := 60) hx hb dX4_stops_56 (by decide) ?_
          exact L60 (C 3 i) (by omega) (hno) (by simp [c47]) H locs ls (lv_sub hl [0, 1, 2, 3] rfl) hP hD hS
      refine lv_iload_n hx hb dX4_stops_4 rfl (lv_at hl 3 rfl) ?_
      refine lv_aload_n hx hb dX4_stops_5 rfl (lv_at hl 0 rfl) ?_
      refine va_get (D := D) (ci := 5) (v := .int (nI nC)) (C := RX4) (T := TX4) (N := 28) hx hb hts kX4_stops_inX4 hown hK hP 0 rfl rfl 12 (by decide) (hts _ kX4_stops_f88) (fun _ h9 => h9) rfl dX4_stops_6 ?_
      refine zn_ge (i := i) (j := nC) (tgt := 68) hx hb (by omega) (by omega) dX4_stops_9 (by decide) (fun c9 => ?_) (fun c9 => ?_)
      · skip
        refine lv_iconst (v := 0) hx hb dX4_stops_68 (by decide) ?_
        refine lv_istore_n (lv' := [(3, .int 0), (0, .ref (h 0)), (1, .int (nI lf)), (2, .int x)]) hx hb dX4_stops_69 rfl hl (by decide) rfl (fun ls hl => ?_)
        exact L70 (nC + 1) 0 x (by omega) (by omega) (by rw [← e1, show i = nC by omega]) (by rw [ex, show i = nC by omega]) (rfl) H locs ls (lv_sub hl [1, 2, 3, 0] rfl) hP hD hS
      · skip
        refine lv_aload_n hx hb dX4_stops_12 rfl (lv_at hl 0 rfl) ?_
        refine lv_iload_n hx hb dX4_stops_13 rfl (lv_at hl 3 rfl) ?_
        refine lv_iload_n hx hb dX4_stops_14 rfl (lv_at hl 1 rfl) ?_
        refine lv_iconst (v := 1) hx hb dX4_stops_15 (by decide) ?_
        refine z_backiA (z_runVA (n := 3) (As := [.int (nI i), .int (nI lf), .int 1]) (ci := 5) (rest := []) hx hb hml hown hts hK hE hP hD (tX4_is l D cI cZ cJ h cd lev tm gn nL nC nE L B C F ys ao i (nI lf) 1 (by omega) _) gX4_stops_X4_is rfl rfl rfl (by decide +kernel) ⟨Nat.le_of_ble_eq_true rfl, Nat.le_of_ble_eq_true rfl⟩ rfl rfl rfl hl.1 rfl (Nat.le_of_ble_eq_true rfl) dX4_stops_16 ⟨Nat.zero_le _, Nat.zero_le _⟩) hD hS hA (fun r3 w1 H locs hp3 hP hD hS => ?_)
        obtain ⟨rfl, rfl⟩ := hp3
        have hP : va_P D vwCl (wM cI cZ h cd lev tm gn nL nC nE L B C F ys ao) H := hP
        have hD : va_D A (wM cI cZ h cd lev tm gn nL nC nE L B C F ys ao) := hD
        refine zb_eq (b := (isB C i 1 (nI lf))) (tgt := 39) hx hb dX4_stops_19 (by decide) (fun c19 => ?_) (fun c19 => ?_)
        · skip
          exact L39 () (by omega) (by simp [sf1, outB, c9, c19]) H locs ls (lv_sub hl [0, 1, 2, 3] rfl) hP hD hS
        · skip
          refine lv_aload_n hx hb dX4_stops_22 rfl (lv_at hl 0 rfl) ?_
          refine va_get (D := D) (ci := 5) (v := .ref (h 9)) (C := RX4) (T := TX4) (N := 28) hx hb hts kX4_stops_inX4 hown hK hP 0 rfl rfl 14 (by decide) (hts _ kX4_stops_f35) (fun _ h9 => h9) rfl dX4_stops_23 ?_
          refine lv_iload_n hx hb dX4_stops_26 rfl (lv_at hl 3 rfl) ?_
          refine z_iald (k := i) (v := C 1 i) hx hb hK hP 9 rfl (by decide) (by omega) (rfl) dX4_stops_27 ?_
          refine lv_aload_n hx hb dX4_stops_28 rfl (lv_at hl 0 rfl) ?_
          refine va_get (D := D) (ci := 5) (v := .ref (h 1)) (C := RX4) (T := TX4) (N := 28) hx hb hts kX4_stops_inX4 hown hK hP 0 rfl rfl 5 (by decide) (hts _ kX4_stops_f7) (fun _ h9 => h9) rfl dX4_stops_29 ?_
          refine lv_iload_n hx hb dX4_stops_32 rfl (lv_at hl 1 rfl) ?_
          refine z_iald (k := lf) (v := L 0 lf) hx hb hK hP 1 rfl (by decide) (by omega) (rfl) dX4_stops_33 ?_
          refine lv_icmp_ne (x := C 1 i) (y := L 0 lf) (tgt := 39) hx hb dX4_stops_34 (by decide) (fun c34 => ?_) (fun c34 => ?_)
          · skip
            exact L39 () (by omega) (by simp [sf1, outB, c9, c19, c34]) H locs ls (lv_sub hl [0, 1, 2, 3] rfl) hP hD hS
          · skip
            refine lv_iconst (v := 1) hx hb dX4_stops_37 (by decide) ?_
            exact z_zret hx hb hr hlocks hS hP rfl (Or.inr rfl) dX4_stops_38 (⟨by rw [stpB, show anyW (sf1 L C lf) nC = true from anyW_of (i := i) (by omega) (by simp [sf1, outB, c9, c19, c34])]; rfl, rfl⟩)
  refine lv_iconst (v := 0) hx hb dX4_stops_0 (by decide) ?_
  refine lv_istore_n (lv' := [(2, .int 0), (0, .ref (h 0)), (1, .int (nI lf))]) hx hb dX4_stops_1 rfl hl (by decide) rfl (fun ls hl => ?_)
  refine lv_iconst (v := 0) hx hb dX4_stops_2 (by decide) ?_
  refine lv_istore_n (lv' := [(3, .int 0), (2, .int 0), (0, .ref (h 0)), (1, .int (nI lf))]) hx hb dX4_stops_3 rfl hl (by decide) rfl (fun ls hl => ?_)
  exact L4 (nC + 1) 0 0 (by omega) (by omega) (rfl) (rfl) s.heap [] ls (lv_sub hl [2, 3, 1, 0] rfl) hP hD hS

theorem kX4_hasWork_inX4 : ∀ w ∈ wsX40, w ∈ wsX4_hasWork := by decide +kernel
theorem kX4_hasWork_f7 : Cond.fieldLink RX4 7 "LiftRows2Model" "at" "[I" ∈ wsX4_hasWork := by decide +kernel
theorem kX4_hasWork_f88 : Cond.fieldLink RX4 88 "LiftRows2Model" "calls" "I" ∈ wsX4_hasWork := by decide +kernel
theorem kX4_hasWork_f32 : Cond.fieldLink RX4 32 "LiftRows2Model" "from" "[I" ∈ wsX4_hasWork := by decide +kernel
theorem kX4_hasWork_f35 : Cond.fieldLink RX4 35 "LiftRows2Model" "to" "[I" ∈ wsX4_hasWork := by decide +kernel
set_option maxHeartbeats 4000000 in
set_option maxRecDepth 100000 in
theorem tX4_hasWork (l : Launch) (D : va_G) (cI cZ cJ : ClassId) (h : Nat → Nat) (cd : Int32) (lev tm : Nat) (gn : Int32) (nL nC nE : Nat) (L B C F : Nat → Nat → Int32) (ys ao : Nat → Int32) (lf : Nat) (hlf : lf < 4) (wy : Int32) (hC : nC ≤ 24)  : ∀ sz : Nat, zMi l yX4_hasWork wsX4_hasWork ({ frames := 1, cells := 0, slots := 0, locals := 23 } : Room) D cI cZ cJ (wM cI cZ h cd lev tm gn nL nC nE L B C F ys ao) sz [.ref (h 0), .int (nI lf), .int wy] (fun r w' => r = bI (anyW (wf L C lf wy) nC) ∧ w' = wM cI cZ h cd lev tm gn nL nC nE L B C F ys ao) := by
  intro sz
  refine z_head (y := yX4_hasWork) (av := [.ref (h 0), .int (nI lf), .int wy]) (w := (wM cI cZ h cd lev tm gn nL nC nE L B C F ys ao)) (Qc := fun A => zQi D (wM cI cZ h cd lev tm gn nL nC nE L B C F ys ao) (fun r w' => r = bI (anyW (wf L C lf wy) nC) ∧ w' = wM cI cZ h cd lev tm gn nL nC nE L B C F ys ao) A) (cc := cX4_hasWork) (maxL := 5) (ret := (some .boolean)) (by decide) rfl (Nat.le_of_ble_eq_true rfl) ?_
  intro p e s m below meth c ls A hat hP hD hS hl
  obtain ⟨hx, hb, hr, hml, hlocks, hts, hown, hin, hK, hE, hA⟩ := hat
  have hP : va_P D vwCl (wM cI cZ h cd lev tm gn nL nC nE L B C F ys ao) s.heap := hP
  have hD : va_D A (wM cI cZ h cd lev tm gn nL nC nE L B C F ys ao) := hD
  have hl : lv_has ls 5 [(0, .ref (h 0)), (1, .int (nI lf)), (2, .int wy)] := hl
  have L2 : ∀ (fu : Nat) (i : Nat), i ≤ nC → nC + 1 ≤ i + fu → (anyW (wf L C lf wy) i = false) → ∀ (H : Heap) (locs : List Loc) (ls : Array Slot), lv_has ls 5 [(0, .ref (h 0)), (1, .int (nI lf)), (2, .int wy), (3, .int (nI i))] → va_P D vwCl (wM cI cZ h cd lev tm gn nL nC nE L B C F ys ao) H → va_D A (wM cI cZ h cd lev tm gn nL nC nE L B C F ys ao) → va_S A s.heap H locs → W p l e ({ frames := 1, cells := 0, slots := 0, locals := 23 } : Room) s m ([.ref (h 0), .int (nI lf), .int wy] : List Value).toArray below meth c H locs 0 0 (MQ below (zQi D (wM cI cZ h cd lev tm gn nL nC nE L B C F ys ao) (fun r w' => r = bI (anyW (wf L C lf wy) nC) ∧ w' = wM cI cZ h cd lev tm gn nL nC nE L B C F ys ao) A) ([.ref (h 0), .int (nI lf), .int wy] : List Value).toArray s 0 0 A) (F0 m 2 ls []) := by
    intro fu
    induction fu with
    | zero =>
      intro i h1 h2
      exact absurd h2 (by omega)
    | succ fu ih2 =>
      intro i hle hfu ex H locs ls hl hP hD hS
      have L54 : ∀ (y : Int32), (i < nC) → (y = lvI L C lf i) → ∀ (H : Heap) (locs : List Loc) (ls : Array Slot), lv_has ls 5 [(0, .ref (h 0)), (1, .int (nI lf)), (2, .int wy), (3, .int (nI i))] → va_P D vwCl (wM cI cZ h cd lev tm gn nL nC nE L B C F ys ao) H → va_D A (wM cI cZ h cd lev tm gn nL nC nE L B C F ys ao) → va_S A s.heap H locs → W p l e ({ frames := 1, cells := 0, slots := 0, locals := 23 } : Room) s m ([.ref (h 0), .int (nI lf), .int wy] : List Value).toArray below meth c H locs 0 0 (MQ below (zQi D (wM cI cZ h cd lev tm gn nL nC nE L B C F ys ao) (fun r w' => r = bI (anyW (wf L C lf wy) nC) ∧ w' = wM cI cZ h cd lev tm gn nL nC nE L B C F ys ao) A) ([.ref (h 0), .int (nI lf), .int wy] : List Value).toArray s 0 0 A) (F0 m 54 ls [.int y]) := by
        intro y hlt ey H locs ls hl hP hD hS
        refine lv_istore (lv' := [(4, .int y), (0, .ref (h 0)), (1, .int (nI lf)), (2, .int wy), (3, .int (nI i))]) hx hb dX4_hasWork_54 hl (by decide) rfl (fun ls hl => ?_)
        refine lv_iload_n hx hb dX4_hasWork_56 rfl (lv_at hl 3 rfl) ?_
        refine lv_if_le (x := wy) (tgt := 74) hx hb dX4_hasWork_57 (by decide) (fun c57 => ?_) (fun c57 => ?_)
        · skip
          refine lv_iload hx hb dX4_hasWork_74 (lv_at hl 0 rfl) ?_
          refine lv_aload_n hx hb dX4_hasWork_76 rfl (lv_at hl 1 rfl) ?_
          refine va_get (D := D) (ci := 5) (v := .ref (h 1)) (C := RX4) (T := TX4) (N := 28) hx hb hts kX4_hasWork_inX4 hown hK hP 0 rfl rfl 5 (by decide) (hts _ kX4_hasWork_f7) (fun _ h9 => h9) rfl dX4_hasWork_77 ?_
          refine lv_iload_n hx hb dX4_hasWork_80 rfl (lv_at hl 2 rfl) ?_
          refine z_iald (k := lf) (v := L 0 lf) hx hb hK hP 1 rfl (by decide) (by omega) (rfl) dX4_hasWork_81 ?_
          refine lv_icmp_ge (x := y) (y := L 0 lf) (tgt := 87) hx hb dX4_hasWork_82 (by decide) (fun c82 => ?_) (fun c82 => ?_)
          · skip
            refine lv_iinc (v := nI (i + 1)) (lv' := [(3, .int (nI (i + 1))), (4, .int y), (0, .ref (h 0)), (1, .int (nI lf)), (2, .int wy)]) hx hb dX4_hasWork_87 hl (k := 4) rfl (by rw [show Int32.ofInt 1 = nI 1 from rfl, nI_add]) (by decide) rfl (fun ls hl => ?_)
            refine lv_goto (tgt := 2) hx hb dX4_hasWork_90 (by decide) ?_
            exact ih2 (i + 1) (by omega) (by omega) (by rw [anyW_s]; exact Bool.or_eq_false_iff.mpr ⟨ex, by rw [wf, ← ey]; simp [c57, c82, Int32.not_lt.mpr c57, Int32.not_lt.mpr c82]⟩) H locs ls (lv_sub hl [2, 3, 4, 0] rfl) hP hD hS
          · skip
            refine lv_iconst (v := 1) hx hb dX4_hasWork_85 (by decide) ?_
            exact z_zret hx hb hr hlocks hS hP rfl (Or.inr rfl) dX4_hasWork_86 (⟨by rw [show anyW (wf L C lf wy) nC = true from anyW_of (i := i) (by omega) (by rw [wf, ← ey]; simp [c57, c82, Int32.not_lt.mpr c57, Int32.not_le.mp c82])]; rfl, rfl⟩)
        · skip
          refine lv_iload hx hb dX4_hasWork_60 (lv_at hl 0 rfl) ?_
          refine lv_aload_n hx hb dX4_hasWork_62 rfl (lv_at hl 1 rfl) ?_
          refine va_get (D := D) (ci := 5) (v := .ref (h 1)) (C := RX4) (T := TX4) (N := 28) hx hb hts kX4_hasWork_inX4 hown hK hP 0 rfl rfl 5 (by decide) (hts _ kX4_hasWork_f7) (fun _ h9 => h9) rfl dX4_hasWork_63 ?_
          refine lv_iload_n hx hb dX4_hasWork_66 rfl (lv_at hl 2 rfl) ?_
          refine z_iald (k := lf) (v := L 0 lf) hx hb hK hP 1 rfl (by decide) (by omega) (rfl) dX4_hasWork_67 ?_
          refine lv_icmp_le (x := y) (y := L 0 lf) (tgt := 87) hx hb dX4_hasWork_68 (by decide) (fun c68 => ?_) (fun c68 => ?_)
          · skip
            refine lv_iinc (v := nI (i + 1)) (lv' := [(3, .int (nI (i + 1))), (4, .int y), (0, .ref (h 0)), (1, .int (nI lf)), (2, .int wy)]) hx hb dX4_hasWork_87 hl (k := 4) rfl (by rw [show Int32.ofInt 1 = nI 1 from rfl, nI_add]) (by decide) rfl (fun ls hl => ?_)
            refine lv_goto (tgt := 2) hx hb dX4_hasWork_90 (by decide) ?_
            exact ih2 (i + 1) (by omega) (by omega) (by rw [anyW_s]; exact Bool.or_eq_false_iff.mpr ⟨ex, by rw [wf, ← ey]; simp [c57, c68, Int32.not_le.mp c57, Int32.not_lt.mpr c68]⟩) H locs ls (lv_sub hl [2, 3, 4, 0] rfl) hP hD hS
          · skip
            refine lv_goto (tgt := 85) hx hb dX4_hasWork_71 (by decide) ?_
            refine lv_iconst (v := 1) hx hb dX4_hasWork_85 (by decide) ?_
            exact z_zret hx hb hr hlocks hS hP rfl (Or.inr rfl) dX4_hasWork_86 (⟨by rw [show anyW (wf L C lf wy) nC = true from anyW_of (i := i) (by omega) (by rw [wf, ← ey]; simp [c57, c68, Int32.not_le.mp c57, Int32.not_le.mp c68])]; rfl, rfl⟩)
      refine lv_iload_n hx hb dX4_hasWork_2 rfl (lv_at hl 3 rfl) ?_
      refine lv_aload_n hx hb dX4_hasWork_3 rfl (lv_at hl 0 rfl) ?_
      refine va_get (D := D) (ci := 5) (v := .int (nI nC)) (C := RX4) (T := TX4) (N := 28) hx hb hts kX4_hasWork_inX4 hown hK hP 0 rfl rfl 12 (by decide) (hts _ kX4_hasWork_f88) (fun _ h9 => h9) rfl dX4_hasWork_4 ?_
      refine zn_ge (i := i) (j := nC) (tgt := 93) hx hb (by omega) (by omega) dX4_hasWork_7 (by decide) (fun c7 => ?_) (fun c7 => ?_)
      · skip
        refine lv_iconst (v := 0) hx hb dX4_hasWork_93 (by decide) ?_
        exact z_zret hx hb hr hlocks hS hP rfl (Or.inl rfl) dX4_hasWork_94 (⟨by rw [show anyW (wf L C lf wy) nC = false by rw [← ex, show i = nC by omega]]; rfl, rfl⟩)
      · skip
        refine lv_aload_n hx hb dX4_hasWork_10 rfl (lv_at hl 0 rfl) ?_
        refine lv_iload_n hx hb dX4_hasWork_11 rfl (lv_at hl 3 rfl) ?_
        refine lv_iload_n hx hb dX4_hasWork_12 rfl (lv_at hl 1 rfl) ?_
        refine lv_iconst (v := 1) hx hb dX4_hasWork_13 (by decide) ?_
        refine z_backiA (z_runVA (n := 3) (As := [.int (nI i), .int (nI lf), .int 1]) (ci := 5) (rest := []) hx hb hml hown hts hK hE hP hD (tX4_is l D cI cZ cJ h cd lev tm gn nL nC nE L B C F ys ao i (nI lf) 1 (by omega) _) gX4_hasWork_X4_is rfl rfl rfl (by decide +kernel) ⟨Nat.le_of_ble_eq_true rfl, Nat.le_of_ble_eq_true rfl⟩ rfl rfl rfl hl.1 rfl (Nat.le_of_ble_eq_true rfl) dX4_hasWork_14 ⟨Nat.zero_le _, Nat.zero_le _⟩) hD hS hA (fun r1 w1 H locs hp1 hP hD hS => ?_)
        obtain ⟨rfl, rfl⟩ := hp1
        have hP : va_P D vwCl (wM cI cZ h cd lev tm gn nL nC nE L B C F ys ao) H := hP
        have hD : va_D A (wM cI cZ h cd lev tm gn nL nC nE L B C F ys ao) := hD
        refine zb_eq (b := (isB C i 1 (nI lf))) (tgt := 29) hx hb dX4_hasWork_17 (by decide) (fun c17 => ?_) (fun c17 => ?_)
        · skip
          refine lv_aload_n hx hb dX4_hasWork_29 rfl (lv_at hl 0 rfl) ?_
          refine lv_iload_n hx hb dX4_hasWork_30 rfl (lv_at hl 3 rfl) ?_
          refine lv_iload_n hx hb dX4_hasWork_31 rfl (lv_at hl 1 rfl) ?_
          refine lv_iconst (v := 0) hx hb dX4_hasWork_32 (by decide) ?_
          refine z_backiA (z_runVA (n := 3) (As := [.int (nI i), .int (nI lf), .int 0]) (ci := 5) (rest := []) hx hb hml hown hts hK hE hP hD (tX4_is l D cI cZ cJ h cd lev tm gn nL nC nE L B C F ys ao i (nI lf) 0 (by omega) _) gX4_hasWork_X4_is rfl rfl rfl (by decide +kernel) ⟨Nat.le_of_ble_eq_true rfl, Nat.le_of_ble_eq_true rfl⟩ rfl rfl rfl hl.1 rfl (Nat.le_of_ble_eq_true rfl) dX4_hasWork_33 ⟨Nat.zero_le _, Nat.zero_le _⟩) hD hS hA (fun r2 w1 H locs hp2 hP hD hS => ?_)
          obtain ⟨rfl, rfl⟩ := hp2
          have hP : va_P D vwCl (wM cI cZ h cd lev tm gn nL nC nE L B C F ys ao) H := hP
          have hD : va_D A (wM cI cZ h cd lev tm gn nL nC nE L B C F ys ao) := hD
          refine zb_eq (b := (isB C i 0 (nI lf))) (tgt := 48) hx hb dX4_hasWork_36 (by decide) (fun c36 => ?_) (fun c36 => ?_)
          · skip
            refine lv_aload_n hx hb dX4_hasWork_48 rfl (lv_at hl 0 rfl) ?_
            refine va_get (D := D) (ci := 5) (v := .ref (h 1)) (C := RX4) (T := TX4) (N := 28) hx hb hts kX4_hasWork_inX4 hown hK hP 0 rfl rfl 5 (by decide) (hts _ kX4_hasWork_f7) (fun _ h9 => h9) rfl dX4_hasWork_49 ?_
            refine lv_iload_n hx hb dX4_hasWork_52 rfl (lv_at hl 1 rfl) ?_
            refine z_iald (k := lf) (v := L 0 lf) hx hb hK hP 1 rfl (by decide) (by omega) (rfl) dX4_hasWork_53 ?_
            exact L54 (L 0 lf) (by omega) (by simp [lvI, c7, c17, c36]) H locs ls (lv_sub hl [0, 1, 2, 3] rfl) hP hD hS
          · skip
            refine lv_aload_n hx hb dX4_hasWork_39 rfl (lv_at hl 0 rfl) ?_
            refine va_get (D := D) (ci := 5) (v := .ref (h 8)) (C := RX4) (T := TX4) (N := 28) hx hb hts kX4_hasWork_inX4 hown hK hP 0 rfl rfl 13 (by decide) (hts _ kX4_hasWork_f32) (fun _ h9 => h9) rfl dX4_hasWork_40 ?_
            refine lv_iload_n hx hb dX4_hasWork_43 rfl (lv_at hl 3 rfl) ?_
            refine z_iald (k := i) (v := C 0 i) hx hb hK hP 8 rfl (by decide) (by omega) (rfl) dX4_hasWork_44 ?_
            refine lv_goto (tgt := 54) hx hb dX4_hasWork_45 (by decide) ?_
            exact L54 (C 0 i) (by omega) (by simp [lvI, c7, c17, c36]) H locs ls (lv_sub hl [0, 1, 2, 3] rfl) hP hD hS
        · skip
          refine lv_aload_n hx hb dX4_hasWork_20 rfl (lv_at hl 0 rfl) ?_
          refine va_get (D := D) (ci := 5) (v := .ref (h 9)) (C := RX4) (T := TX4) (N := 28) hx hb hts kX4_hasWork_inX4 hown hK hP 0 rfl rfl 14 (by decide) (hts _ kX4_hasWork_f35) (fun _ h9 => h9) rfl dX4_hasWork_21 ?_
          refine lv_iload_n hx hb dX4_hasWork_24 rfl (lv_at hl 3 rfl) ?_
          refine z_iald (k := i) (v := C 1 i) hx hb hK hP 9 rfl (by decide) (by omega) (rfl) dX4_hasWork_25 ?_
          refine lv_goto (tgt := 54) hx hb dX4_hasWork_26 (by decide) ?_
          exact L54 (C 1 i) (by omega) (by simp [lvI, c7, c17]) H locs ls (lv_sub hl [0, 1, 2, 3] rfl) hP hD hS
  refine lv_iconst (v := 0) hx hb dX4_hasWork_0 (by decide) ?_
  refine lv_istore_n (lv' := [(3, .int 0), (0, .ref (h 0)), (1, .int (nI lf)), (2, .int wy)]) hx hb dX4_hasWork_1 rfl hl (by decide) rfl (fun ls hl => ?_)
  exact L2 (nC + 1) 0 (by omega) (by omega) (rfl) s.heap [] ls (lv_sub hl [1, 2, 3, 0] rfl) hP hD hS

theorem kX4_exchange_inX4 : ∀ w ∈ wsX40, w ∈ wsX4_exchange := by decide +kernel
theorem kX4_exchange_f88 : Cond.fieldLink RX4 88 "LiftRows2Model" "calls" "I" ∈ wsX4_exchange := by decide +kernel
theorem kX4_exchange_f32 : Cond.fieldLink RX4 32 "LiftRows2Model" "from" "[I" ∈ wsX4_exchange := by decide +kernel
theorem kX4_exchange_f7 : Cond.fieldLink RX4 7 "LiftRows2Model" "at" "[I" ∈ wsX4_exchange := by decide +kernel
theorem kX4_exchange_f38 : Cond.fieldLink RX4 38 "LiftRows2Model" "rank" "[I" ∈ wsX4_exchange := by decide +kernel
theorem kX4_exchange_f41 : Cond.fieldLink RX4 41 "LiftRows2Model" "load" "[I" ∈ wsX4_exchange := by decide +kernel
theorem kX4_exchange_f13 : Cond.fieldLink RX4 13 "LiftRows2Model" "capacity" "[I" ∈ wsX4_exchange := by decide +kernel
theorem kX4_exchange_f44 : Cond.fieldLink RX4 44 "LiftRows2Model" "state" "[I" ∈ wsX4_exchange := by decide +kernel
theorem kX4_exchange_f53 : Cond.fieldLink RX4 53 "LiftRows2Model" "boarded" "[I" ∈ wsX4_exchange := by decide +kernel
theorem kX4_exchange_f99 : Cond.fieldLink RX4 99 "LiftRows2Model" "time" "I" ∈ wsX4_exchange := by decide +kernel
theorem kX4_exchange_f19 : Cond.fieldLink RX4 19 "LiftRows2Model" "open" "[I" ∈ wsX4_exchange := by decide +kernel
theorem kX4_exchange_f35 : Cond.fieldLink RX4 35 "LiftRows2Model" "to" "[I" ∈ wsX4_exchange := by decide +kernel
theorem kX4_exchange_f56 : Cond.fieldLink RX4 56 "LiftRows2Model" "servedAt" "[I" ∈ wsX4_exchange := by decide +kernel
set_option maxHeartbeats 4000000 in
set_option maxRecDepth 100000 in
theorem tX4_exchange (l : Launch) (D : va_G) (cI cZ cJ : ClassId) (h : Nat → Nat) (cd : Int32) (lev tm : Nat) (gn : Int32) (nL nC nE : Nat) (L B C F : Nat → Nat → Int32) (ys ao : Nat → Int32) (lf : Nat) (hlf : lf < 4) (hC : nC ≤ 24) (hok : stOK C nC nE)  : ∀ sz : Nat, zMv l yX4_exchange wsX4_exchange ({ frames := 2, cells := 0, slots := 0, locals := 46 } : Room) D cI cZ cJ (wM cI cZ h cd lev tm gn nL nC nE L B C F ys ao) sz [.ref (h 0), .int (nI lf)] (fun w' => w' = wM cI cZ h cd lev tm gn nL nC ((exM tm lf nC L (nE, C, F)).1) (upC L 3 lf 3) B ((exM tm lf nC L (nE, C, F)).2.1) ((exM tm lf nC L (nE, C, F)).2.2) ys ao) := by
  intro sz
  refine z_head (y := yX4_exchange) (av := [.ref (h 0), .int (nI lf)]) (w := (wM cI cZ h cd lev tm gn nL nC nE L B C F ys ao)) (Qc := fun A => zQv D (wM cI cZ h cd lev tm gn nL nC nE L B C F ys ao) (fun w' => w' = wM cI cZ h cd lev tm gn nL nC ((exM tm lf nC L (nE, C, F)).1) (upC L 3 lf 3) B ((exM tm lf nC L (nE, C, F)).2.1) ((exM tm lf nC L (nE, C, F)).2.2) ys ao) A) (cc := cX4_exchange) (maxL := 4) (ret := none) (by decide) rfl (Nat.le_of_ble_eq_true rfl) ?_
  intro p e s m below meth c ls A hat hP hD hS hl
  obtain ⟨hx, hb, hr, hml, hlocks, hts, hown, hin, hK, hE, hA⟩ := hat
  have hP : va_P D vwCl (wM cI cZ h cd lev tm gn nL nC nE L B C F ys ao) s.heap := hP
  have hD : va_D A (wM cI cZ h cd lev tm gn nL nC nE L B C F ys ao) := hD
  have hl : lv_has ls 4 [(0, .ref (h 0)), (1, .int (nI lf))] := hl
  have L69 : ∀ (fu : Nat) (q : Nat) (ne : Nat) (C1 : Nat → Nat → Int32) (F1 : Nat → Nat → Int32), q ≤ 3 → 3 + 1 ≤ q + fu → ((ne, C1, F1) = inMA tm lf (L 0 lf) (L 1 lf) nC (outM tm lf (L 0 lf) (nE, C, F) nC) q) → (stOK C1 nC ne) → ∀ (H : Heap) (locs : List Loc) (ls : Array Slot), lv_has ls 4 [(0, .ref (h 0)), (1, .int (nI lf)), (2, .int (nI (q + 1)))] → va_P D vwCl (wM cI cZ h cd lev tm gn nL nC ne L B C1 F1 ys ao) H → va_D A (wM cI cZ h cd lev tm gn nL nC ne L B C1 F1 ys ao) → va_S A s.heap H locs → W p l e ({ frames := 2, cells := 0, slots := 0, locals := 46 } : Room) s m ([.ref (h 0), .int (nI lf)] : List Value).toArray below meth c H locs 0 0 (MQ below (zQv D (wM cI cZ h cd lev tm gn nL nC nE L B C F ys ao) (fun w' => w' = wM cI cZ h cd lev tm gn nL nC ((exM tm lf nC L (nE, C, F)).1) (upC L 3 lf 3) B ((exM tm lf nC L (nE, C, F)).2.1) ((exM tm lf nC L (nE, C, F)).2.2) ys ao) A) ([.ref (h 0), .int (nI lf)] : List Value).toArray s 0 0 A) (F0 m 69 ls []) := by
    intro fu
    induction fu with
    | zero =>
      intro q ne C1 F1 h1 h2
      exact absurd h2 (by omega)
    | succ fu ih69 =>
      intro q ne C1 F1 hle hfu ex hok H locs ls hl hP hD hS
      have L76 : ∀ (fu : Nat) (i : Nat) (n2 : Nat) (C2 : Nat → Nat → Int32) (F2 : Nat → Nat → Int32), i ≤ nC → nC + 1 ≤ i + fu → (q < 3) → ((n2, C2, F2) = inM tm lf (L 0 lf) (L 1 lf) (nI (q + 1)) nC (ne, C1, F1) i) → (stOK C2 nC n2) → ∀ (H : Heap) (locs : List Loc) (ls : Array Slot), lv_has ls 4 [(0, .ref (h 0)), (1, .int (nI lf)), (2, .int (nI (q + 1))), (3, .int (nI i))] → va_P D vwCl (wM cI cZ h cd lev tm gn nL nC n2 L B C2 F2 ys ao) H → va_D A (wM cI cZ h cd lev tm gn nL nC n2 L B C2 F2 ys ao) → va_S A s.heap H locs → W p l e ({ frames := 2, cells := 0, slots := 0, locals := 46 } : Room) s m ([.ref (h 0), .int (nI lf)] : List Value).toArray below meth c H locs 0 0 (MQ below (zQv D (wM cI cZ h cd lev tm gn nL nC nE L B C F ys ao) (fun w' => w' = wM cI cZ h cd lev tm gn nL nC ((exM tm lf nC L (nE, C, F)).1) (upC L 3 lf 3) B ((exM tm lf nC L (nE, C, F)).2.1) ((exM tm lf nC L (nE, C, F)).2.2) ys ao) A) ([.ref (h 0), .int (nI lf)] : List Value).toArray s 0 0 A) (F0 m 76 ls []) := by
        intro fu
        induction fu with
        | zero =>
          intro i n2 C2 F2 h1 h2
          exact absurd h2 (by omega)
        | succ fu ih76 =>
          intro i n2 C2 F2 hle hfu hlt ey hk2 H locs ls hl hP hD hS
          refine lv_iload_n hx hb dX4_exchange_76 rfl (lv_at hl 3 rfl) ?_
          refine lv_aload_n hx hb dX4_exchange_77 rfl (lv_at hl 0 rfl) ?_
          refine va_get (D := D) (ci := 5) (v := .int (nI nC)) (C := RX4) (T := TX4) (N := 28) hx hb hts kX4_exchange_inX4 hown hK hP 0 rfl rfl 12 (by decide) (hts _ kX4_exchange_f88) (fun _ h9 => h9) rfl dX4_exchange_78 ?_
          refine zn_ge (i := i) (j := nC) (tgt := 172) hx hb (by omega) (by omega) dX4_exchange_81 (by decide) (fun c81 => ?_) (fun c81 => ?_)
          · skip
            refine lv_iinc (v := nI (q + 1 + 1)) (lv' := [(2, .int (nI (q + 1 + 1))), (0, .ref (h 0)), (1, .int (nI lf)), (3, .int (nI i))]) hx hb dX4_exchange_172 hl (k := 2) rfl (by rw [show Int32.ofInt 1 = nI 1 from rfl, nI_add]) (by decide) rfl (fun ls hl => ?_)
            refine lv_goto (tgt := 69) hx hb dX4_exchange_175 (by decide) ?_
            exact ih69 (q + 1) n2 C2 F2 (by omega) (by omega) (by rw [inMA, ← ex, ey, show i = nC by omega]) (hk2) H locs ls (lv_sub hl [1, 2, 0] rfl) hP hD hS
          · skip
            refine lv_aload_n hx hb dX4_exchange_84 rfl (lv_at hl 0 rfl) ?_
            refine lv_iload_n hx hb dX4_exchange_85 rfl (lv_at hl 3 rfl) ?_
            refine lv_iload_n hx hb dX4_exchange_86 rfl (lv_at hl 1 rfl) ?_
            refine lv_iconst (v := 0) hx hb dX4_exchange_87 (by decide) ?_
            refine z_backiA (z_runVA (n := 3) (As := [.int (nI i), .int (nI lf), .int 0]) (ci := 5) (rest := []) hx hb hml hown hts hK hE hP hD (tX4_is l D cI cZ cJ h cd lev tm gn nL nC n2 L B C2 F2 ys ao i (nI lf) 0 (by omega) _) gX4_exchange_X4_is rfl rfl rfl (by decide +kernel) ⟨Nat.le_of_ble_eq_true rfl, Nat.le_of_ble_eq_true rfl⟩ rfl rfl rfl hl.1 rfl (Nat.le_of_ble_eq_true rfl) dX4_exchange_88 ⟨Nat.zero_le _, Nat.zero_le _⟩) hD hS hA (fun r1 w1 H locs hp1 hP hD hS => ?_)
            obtain ⟨rfl, rfl⟩ := hp1
            have hP : va_P D vwCl (wM cI cZ h cd lev tm gn nL nC n2 L B C2 F2 ys ao) H := hP
            have hD : va_D A (wM cI cZ h cd lev tm gn nL nC n2 L B C2 F2 ys ao) := hD
            refine zb_eq (b := (isB C2 i 0 (nI lf))) (tgt := 166) hx hb dX4_exchange_91 (by decide) (fun c91 => ?_) (fun c91 => ?_)
            · skip
              refine lv_iinc (v := nI (i + 1)) (lv' := [(3, .int (nI (i + 1))), (0, .ref (h 0)), (1, .int (nI lf)), (2, .int (nI (q + 1)))]) hx hb dX4_exchange_166 hl (k := 3) rfl (by rw [show Int32.ofInt 1 = nI 1 from rfl, nI_add]) (by decide) rfl (fun ls hl => ?_)
              refine lv_goto (tgt := 76) hx hb dX4_exchange_169 (by decide) ?_
              exact ih76 (i + 1) n2 C2 F2 (by omega) (by omega) (by omega) (by rw [inM, ← ey]; simp [inMb, c81, c91, c81, c91]) (hk2) H locs ls (lv_sub hl [1, 2, 3, 0] rfl) hP hD hS
            · skip
              have h48 := (stOK_0 (v := nI tm) hk2 hC (by omega) c91).1
              refine lv_aload_n hx hb dX4_exchange_94 rfl (lv_at hl 0 rfl) ?_
              refine va_get (D := D) (ci := 5) (v := .ref (h 8)) (C := RX4) (T := TX4) (N := 28) hx hb hts kX4_exchange_inX4 hown hK hP 0 rfl rfl 13 (by decide) (hts _ kX4_exchange_f32) (fun _ h9 => h9) rfl dX4_exchange_95 ?_
              refine lv_iload_n hx hb dX4_exchange_98 rfl (lv_at hl 3 rfl) ?_
              refine z_iald (k := i) (v := C2 0 i) hx hb hK hP 8 rfl (by decide) (by omega) (rfl) dX4_exchange_99 ?_
              refine lv_aload_n hx hb dX4_exchange_100 rfl (lv_at hl 0 rfl) ?_
              refine va_get (D := D) (ci := 5) (v := .ref (h 1)) (C := RX4) (T := TX4) (N := 28) hx hb hts kX4_exchange_inX4 hown hK hP 0 rfl rfl 5 (by decide) (hts _ kX4_exchange_f7) (fun _ h9 => h9) rfl dX4_exchange_101 ?_
              refine lv_iload_n hx hb dX4_exchange_104 rfl (lv_at hl 1 rfl) ?_
              refine z_iald (k := lf) (v := L 0 lf) hx hb hK hP 1 rfl (by decide) (by omega) (rfl) dX4_exchange_105 ?_
              refine lv_icmp_ne (x := C2 0 i) (y := L 0 lf) (tgt := 166) hx hb dX4_exchange_106 (by decide) (fun c106 => ?_) (fun c106 => ?_)
              · skip
                refine lv_iinc (v := nI (i + 1)) (lv' := [(3, .int (nI (i + 1))), (0, .ref (h 0)), (1, .int (nI lf)), (2, .int (nI (q + 1)))]) hx hb dX4_exchange_166 hl (k := 3) rfl (by rw [show Int32.ofInt 1 = nI 1 from rfl, nI_add]) (by decide) rfl (fun ls hl => ?_)
                refine lv_goto (tgt := 76) hx hb dX4_exchange_169 (by decide) ?_
                exact ih76 (i + 1) n2 C2 F2 (by omega) (by omega) (by omega) (by rw [inM, ← ey]; simp [inMb, c81, c91, c106, c81, c91, c106]) (hk2) H locs ls (lv_sub hl [1, 2, 3, 0] rfl) hP hD hS
              · skip
                refine lv_aload_n hx hb dX4_exchange_109 rfl (lv_at hl 0 rfl) ?_
                refine va_get (D := D) (ci := 5) (v := .ref (h 10)) (C := RX4) (T := TX4) (N := 28) hx hb hts kX4_exchange_inX4 hown hK hP 0 rfl rfl 15 (by decide) (hts _ kX4_exchange_f38) (fun _ h9 => h9) rfl dX4_exchange_110 ?_
                refine lv_iload_n hx hb dX4_exchange_113 rfl (lv_at hl 3 rfl) ?_
                refine z_iald (k := i) (v := C2 2 i) hx hb hK hP 10 rfl (by decide) (by omega) (rfl) dX4_exchange_114 ?_
                refine lv_iload_n hx hb dX4_exchange_115 rfl (lv_at hl 2 rfl) ?_
                refine lv_icmp_ne (x := C2 2 i) (y := nI (q + 1)) (tgt := 166) hx hb dX4_exchange_116 (by decide) (fun c116 => ?_) (fun c116 => ?_)
                · skip
                  refine lv_iinc (v := nI (i + 1)) (lv' := [(3, .int (nI (i + 1))), (0, .ref (h 0)), (1, .int (nI lf)), (2, .int (nI (q + 1)))]) hx hb dX4_exchange_166 hl (k := 3) rfl (by rw [show Int32.ofInt 1 = nI 1 from rfl, nI_add]) (by decide) rfl (fun ls hl => ?_)
                  refine lv_goto (tgt := 76) hx hb dX4_exchange_169 (by decide) ?_
                  exact ih76 (i + 1) n2 C2 F2 (by omega) (by omega) (by omega) (by rw [inM, ← ey]; simp [inMb, c81, c91, c106, c116, c81, c91, c106, c116]) (hk2) H locs ls (lv_sub hl [1, 2, 3, 0] rfl) hP hD hS
                · skip
                  refine lv_aload_n hx hb dX4_exchange_119 rfl (lv_at hl 0 rfl) ?_
                  refine lv_iload_n hx hb dX4_exchange_120 rfl (lv_at hl 1 rfl) ?_
                  refine z_backiA (z_runVA (n := 1) (As := [.int (nI lf)]) (ci := 5) (rest := []) hx hb hml hown hts hK hE hP hD (tX4_aboard l D cI cZ cJ h cd lev tm gn nL nC n2 L B C2 F2 ys ao (nI lf) (by omega) _) gX4_exchange_X4_aboard rfl rfl rfl (by decide +kernel) ⟨Nat.le_of_ble_eq_true rfl, Nat.le_of_ble_eq_true rfl⟩ rfl rfl rfl hl.1 rfl (Nat.le_of_ble_eq_true rfl) dX4_exchange_121 ⟨Nat.zero_le _, Nat.zero_le _⟩) hD hS hA (fun r2 w1 H locs hp2 hP hD hS => ?_)
                  obtain ⟨rfl, rfl⟩ := hp2
                  have hP : va_P D vwCl (wM cI cZ h cd lev tm gn nL nC n2 L B C2 F2 ys ao) H := hP
                  have hD : va_D A (wM cI cZ h cd lev tm gn nL nC n2 L B C2 F2 ys ao) := hD
                  refine lv_aload_n hx hb dX4_exchange_124 rfl (lv_at hl 0 rfl) ?_
                  refine va_get (D := D) (ci := 5) (v := .ref (h 11)) (C := RX4) (T := TX4) (N := 28) hx hb hts kX4_exchange_inX4 hown hK hP 0 rfl rfl 16 (by decide) (hts _ kX4_exchange_f41) (fun _ h9 => h9) rfl dX4_exchange_125 ?_
                  refine lv_iload_n hx hb dX4_exchange_128 rfl (lv_at hl 3 rfl) ?_
                  refine z_iald (k := i) (v := C2 3 i) hx hb hK hP 11 rfl (by decide) (by omega) (rfl) dX4_exchange_129 ?_
                  refine lv_iadd (x := aboI C2 (nI lf) nC) (y := C2 3 i) hx hb dX4_exchange_130 ?_
                  refine lv_aload_n hx hb dX4_exchange_131 rfl (lv_at hl 0 rfl) ?_
                  refine va_get (D := D) (ci := 5) (v := .ref (h 2)) (C := RX4) (T := TX4) (N := 28) hx hb hts kX4_exchange_inX4 hown hK hP 0 rfl rfl 6 (by decide) (hts _ kX4_exchange_f13) (fun _ h9 => h9) rfl dX4_exchange_132 ?_
                  refine lv_iload_n hx hb dX4_exchange_135 rfl (lv_at hl 1 rfl) ?_
                  refine z_iald (k := lf) (v := L 1 lf) hx hb hK hP 2 rfl (by decide) (by omega) (rfl) dX4_exchange_136 ?_
                  refine lv_icmp_le (x := (aboI C2 (nI lf) nC) + (C2 3 i)) (y := L 1 lf) (tgt := 143) hx hb dX4_exchange_137 (by decide) (fun c137 => ?_) (fun c137 => ?_)
                  · skip
                    refine lv_aload_n hx hb dX4_exchange_143 rfl (lv_at hl 0 rfl) ?_
                    refine va_get (D := D) (ci := 5) (v := .ref (h 12)) (C := RX4) (T := TX4) (N := 28) hx hb hts kX4_exchange_inX4 hown hK hP 0 rfl rfl 17 (by decide) (hts _ kX4_exchange_f44) (fun _ h9 => h9) rfl dX4_exchange_144 ?_
                    refine lv_iload_n hx hb dX4_exchange_147 rfl (lv_at hl 3 rfl) ?_
                    refine lv_iconst (v := 1) hx hb dX4_exchange_148 (by decide) ?_
                    refine z_iast (k := i) (x := 1) hx hb hK hP hD hS 12 rfl (by decide) (by omega) dX4_exchange_149 (fun H locs hP hD hS => ?_)
                    have hP : va_P D vwCl (wM cI cZ h cd lev tm gn nL nC n2 L B (upC C2 4 i 1) F2 ys ao) H := hP
                    have hD : va_D A (wM cI cZ h cd lev tm gn nL nC n2 L B (upC C2 4 i 1) F2 ys ao) := hD
                    refine lv_aload_n hx hb dX4_exchange_150 rfl (lv_at hl 0 rfl) ?_
                    refine va_get (D := D) (ci := 5) (v := .ref (h 15)) (C := RX4) (T := TX4) (N := 28) hx hb hts kX4_exchange_inX4 hown hK hP 0 rfl rfl 20 (by decide) (hts _ kX4_exchange_f53) (fun _ h9 => h9) rfl dX4_exchange_151 ?_
                    refine lv_iload_n hx hb dX4_exchange_154 rfl (lv_at hl 3 rfl) ?_
                    refine lv_aload_n hx hb dX4_exchange_155 rfl (lv_at hl 0 rfl) ?_
                    refine va_get (D := D) (ci := 5) (v := .int (nI tm)) (C := RX4) (T := TX4) (N := 28) hx hb hts kX4_exchange_inX4 hown hK hP 0 rfl rfl 2 (by decide) (hts _ kX4_exchange_f99) (fun _ h9 => h9) rfl dX4_exchange_156 ?_
                    refine z_iast (k := i) (x := nI tm) hx hb hK hP hD hS 15 rfl (by decide) (by omega) dX4_exchange_159 (fun H locs hP hD hS => ?_)
                    have hP : va_P D vwCl (wM cI cZ h cd lev tm gn nL nC n2 L B (upC (upC C2 4 i 1) 7 i (nI tm)) F2 ys ao) H := hP
                    have hD : va_D A (wM cI cZ h cd lev tm gn nL nC n2 L B (upC (upC C2 4 i 1) 7 i (nI tm)) F2 ys ao) := hD
                    refine lv_aload_n hx hb dX4_exchange_160 rfl (lv_at hl 0 rfl) ?_
                    refine lv_iload_n hx hb dX4_exchange_161 rfl (lv_at hl 3 rfl) ?_
                    refine lv_iconst (v := 0) hx hb dX4_exchange_162 (by decide) ?_
                    refine z_backvA (z_runVA (n := 2) (As := [.int (nI i), .int 0]) (ci := 5) (rest := []) hx hb hml hown hts hK hE hP hD (tX4_tell l D cI cZ cJ h cd lev tm gn nL nC n2 L B (upC (upC C2 4 i 1) 7 i (nI tm)) F2 ys ao (nI i) 0 (by omega) _) gX4_exchange_X4_tell rfl rfl rfl (by decide +kernel) ⟨Nat.le_of_ble_eq_true rfl, Nat.le_of_ble_eq_true rfl⟩ rfl rfl rfl hl.1 rfl (Nat.le_of_ble_eq_true rfl) dX4_exchange_163 ⟨Nat.zero_le _, Nat.zero_le _⟩) hD hS hA (fun w1 H locs hp3 hP hD hS => ?_)
                    obtain rfl := hp3
                    have hP : va_P D vwCl (wM cI cZ h cd lev tm gn nL nC (n2 + 1) L B (upC (upC C2 4 i 1) 7 i (nI tm)) (telF F2 n2 (nI tm) (nI i) 0) ys ao) H := hP
                    have hD : va_D A (wM cI cZ h cd lev tm gn nL nC (n2 + 1) L B (upC (upC C2 4 i 1) 7 i (nI tm)) (telF F2 n2 (nI tm) (nI i) 0) ys ao) := hD
                    refine lv_iinc (v := nI (i + 1)) (lv' := [(3, .int (nI (i + 1))), (0, .ref (h 0)), (1, .int (nI lf)), (2, .int (nI (q + 1)))]) hx hb dX4_exchange_166 hl (k := 3) rfl (by rw [show Int32.ofInt 1 = nI 1 from rfl, nI_add]) (by decide) rfl (fun ls hl => ?_)
                    refine lv_goto (tgt := 76) hx hb dX4_exchange_169 (by decide) ?_
                    exact ih76 (i + 1) (n2 + 1) (upC (upC C2 4 i 1) 7 i (nI tm)) (telF F2 n2 (nI tm) (nI i) 0) (by omega) (by omega) (by omega) (by rw [inM, ← ey]; simp [inMb, c81, c91, c106, c116, c137, c81, c91, c106, c116, Int32.not_lt.mpr c137]) ((stOK_0 hk2 hC (by omega) c91).2) H locs ls (lv_sub hl [1, 2, 3, 0] rfl) hP hD hS
                  · skip
                    refine lv_goto (tgt := 166) hx hb dX4_exchange_140 (by decide) ?_
                    refine lv_iinc (v := nI (i + 1)) (lv' := [(3, .int (nI (i + 1))), (0, .ref (h 0)), (1, .int (nI lf)), (2, .int (nI (q + 1)))]) hx hb dX4_exchange_166 hl (k := 3) rfl (by rw [show Int32.ofInt 1 = nI 1 from rfl, nI_add]) (by decide) rfl (fun ls hl => ?_)
                    refine lv_goto (tgt := 76) hx hb dX4_exchange_169 (by decide) ?_
                    exact ih76 (i + 1) n2 C2 F2 (by omega) (by omega) (by omega) (by rw [inM, ← ey]; simp [inMb, c81, c91, c106, c116, c137, c81, c91, c106, c116, Int32.not_le.mp c137]) (hk2) H locs ls (lv_sub hl [1, 2, 3, 0] rfl) hP hD hS
      refine lv_iload_n hx hb dX4_exchange_69 rfl (lv_at hl 2 rfl) ?_
      refine lv_iconst (v := 4) hx hb dX4_exchange_70 (by decide) ?_
      refine zn_ge (i := q + 1) (j := 4) (tgt := 178) hx hb (by omega) (by omega) dX4_exchange_71 (by decide) (fun c71 => ?_) (fun c71 => ?_)
      · skip
        refine lv_aload_n hx hb dX4_exchange_178 rfl (lv_at hl 0 rfl) ?_
        refine va_get (D := D) (ci := 5) (v := .ref (h 4)) (C := RX4) (T := TX4) (N := 28) hx hb hts kX4_exchange_inX4 hown hK hP 0 rfl rfl 8 (by decide) (hts _ kX4_exchange_f19) (fun _ h9 => h9) rfl dX4_exchange_179 ?_
        refine lv_iload_n hx hb dX4_exchange_182 rfl (lv_at hl 1 rfl) ?_
        refine lv_iconst (v := 3) hx hb dX4_exchange_183 (by decide) ?_
        refine z_iast (k := lf) (x := 3) hx hb hK hP hD hS 4 rfl (by decide) (by omega) dX4_exchange_184 (fun H locs hP hD hS => ?_)
        have hP : va_P D vwCl (wM cI cZ h cd lev tm gn nL nC ne (upC L 3 lf 3) B C1 F1 ys ao) H := hP
        have hD : va_D A (wM cI cZ h cd lev tm gn nL nC ne (upC L 3 lf 3) B C1 F1 ys ao) := hD
        exact z_vret hx hb hr hlocks hS hP rfl dX4_exchange_185 (by have e3 : q = 3 := (by omega); subst e3; rw [exM, ← ex])
      · skip
        refine lv_iconst (v := 0) hx hb dX4_exchange_74 (by decide) ?_
        refine lv_istore_n (lv' := [(3, .int 0), (0, .ref (h 0)), (1, .int (nI lf)), (2, .int (nI (q + 1)))]) hx hb dX4_exchange_75 rfl hl (by decide) rfl (fun ls hl => ?_)
        exact L76 (nC + 1) 0 ne C1 F1 (by omega) (by omega) (by omega) (rfl) (hok) H locs ls (lv_sub hl [1, 2, 3, 0] rfl) hP hD hS
  have L2 : ∀ (fu : Nat) (i : Nat) (ne : Nat) (C1 : Nat → Nat → Int32) (F1 : Nat → Nat → Int32), i ≤ nC → nC + 1 ≤ i + fu → ((ne, C1, F1) = outM tm lf (L 0 lf) (nE, C, F) i) → (stOK C1 nC ne) → ∀ (H : Heap) (locs : List Loc) (ls : Array Slot), lv_has ls 4 [(0, .ref (h 0)), (1, .int (nI lf)), (2, .int (nI i))] → va_P D vwCl (wM cI cZ h cd lev tm gn nL nC ne L B C1 F1 ys ao) H → va_D A (wM cI cZ h cd lev tm gn nL nC ne L B C1 F1 ys ao) → va_S A s.heap H locs → W p l e ({ frames := 2, cells := 0, slots := 0, locals := 46 } : Room) s m ([.ref (h 0), .int (nI lf)] : List Value).toArray below meth c H locs 0 0 (MQ below (zQv D (wM cI cZ h cd lev tm gn nL nC nE L B C F ys ao) (fun w' => w' = wM cI cZ h cd lev tm gn nL nC ((exM tm lf nC L (nE, C, F)).1) (upC L 3 lf 3) B ((exM tm lf nC L (nE, C, F)).2.1) ((exM tm lf nC L (nE, C, F)).2.2) ys ao) A) ([.ref (h 0), .int (nI lf)] : List Value).toArray s 0 0 A) (F0 m 2 ls []) := by
    intro fu
    induction fu with
    | zero =>
      intro i ne C1 F1 h1 h2
      exact absurd h2 (by omega)
    | succ fu ih2 =>
      intro i ne C1 F1 hle hfu ex hok H locs ls hl hP hD hS
      refine lv_iload_n hx hb dX4_exchange_2 rfl (lv_at hl 2 rfl) ?_
      refine lv_aload_n hx hb dX4_exchange_3 rfl (lv_at hl 0 rfl) ?_
      refine va_get (D := D) (ci := 5) (v := .int (nI nC)) (C := RX4) (T := TX4) (N := 28) hx hb hts kX4_exchange_inX4 hown hK hP 0 rfl rfl 12 (by decide) (hts _ kX4_exchange_f88) (fun _ h9 => h9) rfl dX4_exchange_4 ?_
      refine zn_ge (i := i) (j := nC) (tgt := 67) hx hb (by omega) (by omega) dX4_exchange_7 (by decide) (fun c7 => ?_) (fun c7 => ?_)
      · skip
        refine lv_iconst (v := 1) hx hb dX4_exchange_67 (by decide) ?_
        refine lv_istore_n (lv' := [(2, .int 1), (0, .ref (h 0)), (1, .int (nI lf))]) hx hb dX4_exchange_68 rfl hl (by decide) rfl (fun ls hl => ?_)
        exact L69 (3 + 1) 0 ne C1 F1 (by omega) (by omega) (by rw [inMA, ex, show i = nC by omega]) (hok) H locs ls (lv_sub hl [1, 2, 0] rfl) hP hD hS
      · skip
        refine lv_aload_n hx hb dX4_exchange_10 rfl (lv_at hl 0 rfl) ?_
        refine lv_iload_n hx hb dX4_exchange_11 rfl (lv_at hl 2 rfl) ?_
        refine lv_iload_n hx hb dX4_exchange_12 rfl (lv_at hl 1 rfl) ?_
        refine lv_iconst (v := 1) hx hb dX4_exchange_13 (by decide) ?_
        refine z_backiA (z_runVA (n := 3) (As := [.int (nI i), .int (nI lf), .int 1]) (ci := 5) (rest := []) hx hb hml hown hts hK hE hP hD (tX4_is l D cI cZ cJ h cd lev tm gn nL nC ne L B C1 F1 ys ao i (nI lf) 1 (by omega) _) gX4_exchange_X4_is rfl rfl rfl (by decide +kernel) ⟨Nat.le_of_ble_eq_true rfl, Nat.le_of_ble_eq_true rfl⟩ rfl rfl rfl hl.1 rfl (Nat.le_of_ble_eq_true rfl) dX4_exchange_14 ⟨Nat.zero_le _, Nat.zero_le _⟩) hD hS hA (fun r4 w1 H locs hp4 hP hD hS => ?_)
        obtain ⟨rfl, rfl⟩ := hp4
        have hP : va_P D vwCl (wM cI cZ h cd lev tm gn nL nC ne L B C1 F1 ys ao) H := hP
        have hD : va_D A (wM cI cZ h cd lev tm gn nL nC ne L B C1 F1 ys ao) := hD
        refine zb_eq (b := (isB C1 i 1 (nI lf))) (tgt := 61) hx hb dX4_exchange_17 (by decide) (fun c17 => ?_) (fun c17 => ?_)
        · skip
          refine lv_iinc (v := nI (i + 1)) (lv' := [(2, .int (nI (i + 1))), (0, .ref (h 0)), (1, .int (nI lf))]) hx hb dX4_exchange_61 hl (k := 2) rfl (by rw [show Int32.ofInt 1 = nI 1 from rfl, nI_add]) (by decide) rfl (fun ls hl => ?_)
          refine lv_goto (tgt := 2) hx hb dX4_exchange_64 (by decide) ?_
          exact ih2 (i + 1) ne C1 F1 (by omega) (by omega) (by rw [outM, ← ex]; simp [outB, c7, c17]) (hok) H locs ls (lv_sub hl [1, 2, 0] rfl) hP hD hS
        · skip
          have h48 := (stOK_1 (v := nI tm) hok hC (by omega) c17).1
          refine lv_aload_n hx hb dX4_exchange_20 rfl (lv_at hl 0 rfl) ?_
          refine va_get (D := D) (ci := 5) (v := .ref (h 9)) (C := RX4) (T := TX4) (N := 28) hx hb hts kX4_exchange_inX4 hown hK hP 0 rfl rfl 14 (by decide) (hts _ kX4_exchange_f35) (fun _ h9 => h9) rfl dX4_exchange_21 ?_
          refine lv_iload_n hx hb dX4_exchange_24 rfl (lv_at hl 2 rfl) ?_
          refine z_iald (k := i) (v := C1 1 i) hx hb hK hP 9 rfl (by decide) (by omega) (rfl) dX4_exchange_25 ?_
          refine lv_aload_n hx hb dX4_exchange_26 rfl (lv_at hl 0 rfl) ?_
          refine va_get (D := D) (ci := 5) (v := .ref (h 1)) (C := RX4) (T := TX4) (N := 28) hx hb hts kX4_exchange_inX4 hown hK hP 0 rfl rfl 5 (by decide) (hts _ kX4_exchange_f7) (fun _ h9 => h9) rfl dX4_exchange_27 ?_
          refine lv_iload_n hx hb dX4_exchange_30 rfl (lv_at hl 1 rfl) ?_
          refine z_iald (k := lf) (v := L 0 lf) hx hb hK hP 1 rfl (by decide) (by omega) (rfl) dX4_exchange_31 ?_
          refine lv_icmp_eq (x := C1 1 i) (y := L 0 lf) (tgt := 38) hx hb dX4_exchange_32 (by decide) (fun c32 => ?_) (fun c32 => ?_)
          · skip
            refine lv_aload_n hx hb dX4_exchange_38 rfl (lv_at hl 0 rfl) ?_
            refine va_get (D := D) (ci := 5) (v := .ref (h 12)) (C := RX4) (T := TX4) (N := 28) hx hb hts kX4_exchange_inX4 hown hK hP 0 rfl rfl 17 (by decide) (hts _ kX4_exchange_f44) (fun _ h9 => h9) rfl dX4_exchange_39 ?_
            refine lv_iload_n hx hb dX4_exchange_42 rfl (lv_at hl 2 rfl) ?_
            refine lv_iconst (v := 2) hx hb dX4_exchange_43 (by decide) ?_
            refine z_iast (k := i) (x := 2) hx hb hK hP hD hS 12 rfl (by decide) (by omega) dX4_exchange_44 (fun H locs hP hD hS => ?_)
            have hP : va_P D vwCl (wM cI cZ h cd lev tm gn nL nC ne L B (upC C1 4 i 2) F1 ys ao) H := hP
            have hD : va_D A (wM cI cZ h cd lev tm gn nL nC ne L B (upC C1 4 i 2) F1 ys ao) := hD
            refine lv_aload_n hx hb dX4_exchange_45 rfl (lv_at hl 0 rfl) ?_
            refine va_get (D := D) (ci := 5) (v := .ref (h 16)) (C := RX4) (T := TX4) (N := 28) hx hb hts kX4_exchange_inX4 hown hK hP 0 rfl rfl 21 (by decide) (hts _ kX4_exchange_f56) (fun _ h9 => h9) rfl dX4_exchange_46 ?_
            refine lv_iload_n hx hb dX4_exchange_49 rfl (lv_at hl 2 rfl) ?_
            refine lv_aload_n hx hb dX4_exchange_50 rfl (lv_at hl 0 rfl) ?_
            refine va_get (D := D) (ci := 5) (v := .int (nI tm)) (C := RX4) (T := TX4) (N := 28) hx hb hts kX4_exchange_inX4 hown hK hP 0 rfl rfl 2 (by decide) (hts _ kX4_exchange_f99) (fun _ h9 => h9) rfl dX4_exchange_51 ?_
            refine z_iast (k := i) (x := nI tm) hx hb hK hP hD hS 16 rfl (by decide) (by omega) dX4_exchange_54 (fun H locs hP hD hS => ?_)
            have hP : va_P D vwCl (wM cI cZ h cd lev tm gn nL nC ne L B (upC (upC C1 4 i 2) 8 i (nI tm)) F1 ys ao) H := hP
            have hD : va_D A (wM cI cZ h cd lev tm gn nL nC ne L B (upC (upC C1 4 i 2) 8 i (nI tm)) F1 ys ao) := hD
            refine lv_aload_n hx hb dX4_exchange_55 rfl (lv_at hl 0 rfl) ?_
            refine lv_iload_n hx hb dX4_exchange_56 rfl (lv_at hl 2 rfl) ?_
            refine lv_iconst (v := 1) hx hb dX4_exchange_57 (by decide) ?_
            refine z_backvA (z_runVA (n := 2) (As := [.int (nI i), .int 1]) (ci := 5) (rest := []) hx hb hml hown hts hK hE hP hD (tX4_tell l D cI cZ cJ h cd lev tm gn nL nC ne L B (upC (upC C1 4 i 2) 8 i (nI tm)) F1 ys ao (nI i) 1 (by omega) _) gX4_exchange_X4_tell rfl rfl rfl (by decide +kernel) ⟨Nat.le_of_ble_eq_true rfl, Nat.le_of_ble_eq_true rfl⟩ rfl rfl rfl hl.1 rfl (Nat.le_of_ble_eq_true rfl) dX4_exchange_58 ⟨Nat.zero_le _, Nat.zero_le _⟩) hD hS hA (fun w1 H locs hp5 hP hD hS => ?_)
            obtain rfl := hp5
            have hP : va_P D vwCl (wM cI cZ h cd lev tm gn nL nC (ne + 1) L B (upC (upC C1 4 i 2) 8 i (nI tm)) (telF F1 ne (nI tm) (nI i) 1) ys ao) H := hP
            have hD : va_D A (wM cI cZ h cd lev tm gn nL nC (ne + 1) L B (upC (upC C1 4 i 2) 8 i (nI tm)) (telF F1 ne (nI tm) (nI i) 1) ys ao) := hD
            refine lv_iinc (v := nI (i + 1)) (lv' := [(2, .int (nI (i + 1))), (0, .ref (h 0)), (1, .int (nI lf))]) hx hb dX4_exchange_61 hl (k := 2) rfl (by rw [show Int32.ofInt 1 = nI 1 from rfl, nI_add]) (by decide) rfl (fun ls hl => ?_)
            refine lv_goto (tgt := 2) hx hb dX4_exchange_64 (by decide) ?_
            exact ih2 (i + 1) (ne + 1) (upC (upC C1 4 i 2) 8 i (nI tm)) (telF F1 ne (nI tm) (nI i) 1) (by omega) (by omega) (by rw [outM, ← ex]; simp [outB, c7, c17, c32]) ((stOK_1 hok hC (by omega) c17).2) H locs ls (lv_sub hl [1, 2, 0] rfl) hP hD hS
          · skip
            refine lv_goto (tgt := 61) hx hb dX4_exchange_35 (by decide) ?_
            refine lv_iinc (v := nI (i + 1)) (lv' := [(2, .int (nI (i + 1))), (0, .ref (h 0)), (1, .int (nI lf))]) hx hb dX4_exchange_61 hl (k := 2) rfl (by rw [show Int32.ofInt 1 = nI 1 from rfl, nI_add]) (by decide) rfl (fun ls hl => ?_)
            refine lv_goto (tgt := 2) hx hb dX4_exchange_64 (by decide) ?_
            exact ih2 (i + 1) ne C1 F1 (by omega) (by omega) (by rw [outM, ← ex]; simp [outB, c7, c17, c32]) (hok) H locs ls (lv_sub hl [1, 2, 0] rfl) hP hD hS
  refine lv_iconst (v := 0) hx hb dX4_exchange_0 (by decide) ?_
  refine lv_istore_n (lv' := [(2, .int 0), (0, .ref (h 0)), (1, .int (nI lf))]) hx hb dX4_exchange_1 rfl hl (by decide) rfl (fun ls hl => ?_)
  exact L2 (nC + 1) 0 nE C F (by omega) (by omega) (rfl) (hok) s.heap [] ls (lv_sub hl [1, 2, 0] rfl) hP hD hS

theorem kX4_second_inX4 : ∀ w ∈ wsX40, w ∈ wsX4_second := by decide +kernel
theorem kX4_second_f7 : Cond.fieldLink RX4 7 "LiftRows2Model" "at" "[I" ∈ wsX4_second := by decide +kernel
theorem kX4_second_f16 : Cond.fieldLink RX4 16 "LiftRows2Model" "direction" "[I" ∈ wsX4_second := by decide +kernel
theorem kX4_second_f130 : Cond.fieldLink RX4 130 "LiftRows2Model" "gone" "I" ∈ wsX4_second := by decide +kernel
theorem kX4_second_f19 : Cond.fieldLink RX4 19 "LiftRows2Model" "open" "[I" ∈ wsX4_second := by decide +kernel
theorem kX4_second_f22 : Cond.fieldLink RX4 22 "LiftRows2Model" "kept" "[Z" ∈ wsX4_second := by decide +kernel
set_option maxHeartbeats 4000000 in
set_option maxRecDepth 100000 in
theorem tX4_second (l : Launch) (D : va_G) (cI cZ cJ : ClassId) (h : Nat → Nat) (cd : Int32) (lev tm : Nat) (gn : Int32) (nL nC nE : Nat) (L B C F : Nat → Nat → Int32) (ys ao : Nat → Int32) (lf : Nat) (hlf : lf < 4) (hC : nC ≤ 24) (hok : stOK C nC nE)  : ∀ sz : Nat, zMv l yX4_second wsX4_second ({ frames := 3, cells := 0, slots := 0, locals := 69 } : Room) D cI cZ cJ (wM cI cZ h cd lev tm gn nL nC nE L B C F ys ao) sz [.ref (h 0), .int (nI lf)] (fun w' => w' = wM cI cZ h cd lev tm (oneM tm lf nC B (gn, nE, L, C, F)).1 nL nC (oneM tm lf nC B (gn, nE, L, C, F)).2.1 (oneM tm lf nC B (gn, nE, L, C, F)).2.2.1 B (oneM tm lf nC B (gn, nE, L, C, F)).2.2.2.1 (oneM tm lf nC B (gn, nE, L, C, F)).2.2.2.2 ys ao) := by
  intro sz
  refine z_head (y := yX4_second) (av := [.ref (h 0), .int (nI lf)]) (w := (wM cI cZ h cd lev tm gn nL nC nE L B C F ys ao)) (Qc := fun A => zQv D (wM cI cZ h cd lev tm gn nL nC nE L B C F ys ao) (fun w' => w' = wM cI cZ h cd lev tm (oneM tm lf nC B (gn, nE, L, C, F)).1 nL nC (oneM tm lf nC B (gn, nE, L, C, F)).2.1 (oneM tm lf nC B (gn, nE, L, C, F)).2.2.1 B (oneM tm lf nC B (gn, nE, L, C, F)).2.2.2.1 (oneM tm lf nC B (gn, nE, L, C, F)).2.2.2.2 ys ao) A) (cc := cX4_second) (maxL := 4) (ret := none) (by decide) rfl (Nat.le_of_ble_eq_true rfl) ?_
  intro p e s m below meth c ls A hat hP hD hS hl
  obtain ⟨hx, hb, hr, hml, hlocks, hts, hown, hin, hK, hE, hA⟩ := hat
  have hP : va_P D vwCl (wM cI cZ h cd lev tm gn nL nC nE L B C F ys ao) s.heap := hP
  have hD : va_D A (wM cI cZ h cd lev tm gn nL nC nE L B C F ys ao) := hD
  have hl : lv_has ls 4 [(0, .ref (h 0)), (1, .int (nI lf))] := hl
  have L130 : ∀ (L1 : Nat → Nat → Int32), (L 3 lf ≤ 0) → (stpB L C lf nC = false) → (¬ (!(anyW (wf L C lf 1) nC) && !(anyW (wf L C lf (-1)) nC)) = true) → (L1 = upC L 2 lf (dirM (L 2 lf) (anyW (wf L C lf 1) nC) (anyW (wf L C lf (-1)) nC))) → ∀ (H : Heap) (locs : List Loc) (ls : Array Slot), lv_has ls 4 [(0, .ref (h 0)), (1, .int (nI lf))] → va_P D vwCl (wM cI cZ h cd lev tm gn nL nC nE L1 B C F ys ao) H → va_D A (wM cI cZ h cd lev tm gn nL nC nE L1 B C F ys ao) → va_S A s.heap H locs → W p l e ({ frames := 3, cells := 0, slots := 0, locals := 69 } : Room) s m ([.ref (h 0), .int (nI lf)] : List Value).toArray below meth c H locs 0 0 (MQ below (zQv D (wM cI cZ h cd lev tm gn nL nC nE L B C F ys ao) (fun w' => w' = wM cI cZ h cd lev tm (oneM tm lf nC B (gn, nE, L, C, F)).1 nL nC (oneM tm lf nC B (gn, nE, L, C, F)).2.1 (oneM tm lf nC B (gn, nE, L, C, F)).2.2.1 B (oneM tm lf nC B (gn, nE, L, C, F)).2.2.2.1 (oneM tm lf nC B (gn, nE, L, C, F)).2.2.2.2 ys ao) A) ([.ref (h 0), .int (nI lf)] : List Value).toArray s 0 0 A) (F0 m 130 ls []) := by
    intro L1 c6 c48 hne hL1 H locs ls hl hP hD hS
    subst hL1
    refine lv_aload_n hx hb dX4_second_130 rfl (lv_at hl 0 rfl) ?_
    refine va_get (D := D) (ci := 5) (v := .ref (h 1)) (C := RX4) (T := TX4) (N := 28) hx hb hts kX4_second_inX4 hown hK hP 0 rfl rfl 5 (by decide) (hts _ kX4_second_f7) (fun _ h9 => h9) rfl dX4_second_131 ?_
    refine lv_iload_n hx hb dX4_second_134 rfl (lv_at hl 1 rfl) ?_
    refine lv_dup2_11 hx hb dX4_second_135 rfl rfl ?_
    refine z_iald (k := lf) (v := L 0 lf) hx hb hK hP 1 rfl (by decide) (by omega) (by rw [upC_n (by decide)]) dX4_second_136 ?_
    refine lv_aload_n hx hb dX4_second_137 rfl (lv_at hl 0 rfl) ?_
    refine va_get (D := D) (ci := 5) (v := .ref (h 3)) (C := RX4) (T := TX4) (N := 28) hx hb hts kX4_second_inX4 hown hK hP 0 rfl rfl 7 (by decide) (hts _ kX4_second_f16) (fun _ h9 => h9) rfl dX4_second_138 ?_
    refine lv_iload_n hx hb dX4_second_141 rfl (lv_at hl 1 rfl) ?_
    refine z_iald (k := lf) (v := dirM (L 2 lf) (anyW (wf L C lf 1) nC) (anyW (wf L C lf (-1)) nC)) hx hb hK hP 3 rfl (by decide) (by omega) (by rw [upC_s]) dX4_second_142 ?_
    refine lv_iadd (x := L 0 lf) (y := dirM (L 2 lf) (anyW (wf L C lf 1) nC) (anyW (wf L C lf (-1)) nC)) hx hb dX4_second_143 ?_
    refine z_iast (k := lf) (x := (L 0 lf) + (dirM (L 2 lf) (anyW (wf L C lf 1) nC) (anyW (wf L C lf (-1)) nC))) hx hb hK hP hD hS 1 rfl (by decide) (by omega) dX4_second_144 (fun H locs hP hD hS => ?_)
    have hP : va_P D vwCl (wM cI cZ h cd lev tm gn nL nC nE (upC (upC L 2 lf (dirM (L 2 lf) (anyW (wf L C lf 1) nC) (anyW (wf L C lf (-1)) nC))) 0 lf ((L 0 lf) + (dirM (L 2 lf) (anyW (wf L C lf 1) nC) (anyW (wf L C lf (-1)) nC)))) B C F ys ao) H := hP
    have hD : va_D A (wM cI cZ h cd lev tm gn nL nC nE (upC (upC L 2 lf (dirM (L 2 lf) (anyW (wf L C lf 1) nC) (anyW (wf L C lf (-1)) nC))) 0 lf ((L 0 lf) + (dirM (L 2 lf) (anyW (wf L C lf 1) nC) (anyW (wf L C lf (-1)) nC)))) B C F ys ao) := hD
    refine lv_aload_n hx hb dX4_second_145 rfl (lv_at hl 0 rfl) ?_
    refine lv_dup hx hb dX4_second_146 rfl ?_
    refine va_get (D := D) (ci := 5) (v := .int gn) (C := RX4) (T := TX4) (N := 28) hx hb hts kX4_second_inX4 hown hK hP 0 rfl rfl 3 (by decide) (hts _ kX4_second_f130) (fun _ h9 => h9) rfl dX4_second_147 ?_
    refine lv_iconst (v := 1) hx hb dX4_second_150 (by decide) ?_
    refine lv_iadd (x := gn) (y := 1) hx hb dX4_second_151 ?_
    refine va_put (D := D) (ci := 5) (v := .int (gn + 1)) (ty := .int) (C := RX4) (T := TX4) (N := 28) hx hb hts kX4_second_inX4 tyX4 tyX4_ok nmX4 hown hK hP hD hS 0 rfl rfl 3 (by decide) (hts _ kX4_second_f130) (fun _ h9 => h9) rfl (by decide +kernel) rfl rfl (Nat.le_of_ble_eq_true rfl) dX4_second_152 (fun H locs hP hD hS => ?_)
    have hP : va_P D vwCl (wM cI cZ h cd lev tm (gn + 1) nL nC nE (upC (upC L 2 lf (dirM (L 2 lf) (anyW (wf L C lf 1) nC) (anyW (wf L C lf (-1)) nC))) 0 lf ((L 0 lf) + (dirM (L 2 lf) (anyW (wf L C lf 1) nC) (anyW (wf L C lf (-1)) nC)))) B C F ys ao) H := hP
    have hD : va_D A (wM cI cZ h cd lev tm (gn + 1) nL nC nE (upC (upC L 2 lf (dirM (L 2 lf) (anyW (wf L C lf 1) nC) (anyW (wf L C lf (-1)) nC))) 0 lf ((L 0 lf) + (dirM (L 2 lf) (anyW (wf L C lf 1) nC) (anyW (wf L C lf (-1)) nC)))) B C F ys ao) := hD
    exact z_vret hx hb hr hlocks hS hP rfl dX4_second_155 (by rw [oneM, if_pos c6, if_neg (by rw [c48]; decide), if_neg hne]; rfl)
  have L40 : ∀ (y : Int32), (¬ L 3 lf ≤ 0) → (L 3 lf - y = opM L B lf) → ∀ (H : Heap) (locs : List Loc) (ls : Array Slot), lv_has ls 4 [(0, .ref (h 0)), (1, .int (nI lf))] → va_P D vwCl (wM cI cZ h cd lev tm gn nL nC nE L B C F ys ao) H → va_D A (wM cI cZ h cd lev tm gn nL nC nE L B C F ys ao) → va_S A s.heap H locs → W p l e ({ frames := 3, cells := 0, slots := 0, locals := 69 } : Room) s m ([.ref (h 0), .int (nI lf)] : List Value).toArray below meth c H locs 0 0 (MQ below (zQv D (wM cI cZ h cd lev tm gn nL nC nE L B C F ys ao) (fun w' => w' = wM cI cZ h cd lev tm (oneM tm lf nC B (gn, nE, L, C, F)).1 nL nC (oneM tm lf nC B (gn, nE, L, C, F)).2.1 (oneM tm lf nC B (gn, nE, L, C, F)).2.2.1 B (oneM tm lf nC B (gn, nE, L, C, F)).2.2.2.1 (oneM tm lf nC B (gn, nE, L, C, F)).2.2.2.2 ys ao) A) ([.ref (h 0), .int (nI lf)] : List Value).toArray s 0 0 A) (F0 m 40 ls [.int y, .int (L 3 lf), .int (nI lf), .ref (h 4)]) := by
    intro y c6 eo H locs ls hl hP hD hS
    refine lv_isub (x := L 3 lf) (y := y) hx hb dX4_second_40 ?_
    refine z_iast (k := lf) (x := (L 3 lf) - y) hx hb hK hP hD hS 4 rfl (by decide) (by omega) dX4_second_41 (fun H locs hP hD hS => ?_)
    have hP : va_P D vwCl (wM cI cZ h cd lev tm gn nL nC nE (upC L 3 lf ((L 3 lf) - y)) B C F ys ao) H := hP
    have hD : va_D A (wM cI cZ h cd lev tm gn nL nC nE (upC L 3 lf ((L 3 lf) - y)) B C F ys ao) := hD
    exact z_vret hx hb hr hlocks hS hP rfl dX4_second_42 (by rw [oneM, if_neg c6, ← eo])
  refine lv_aload_n hx hb dX4_second_0 rfl (lv_at hl 0 rfl) ?_
  refine va_get (D := D) (ci := 5) (v := .ref (h 4)) (C := RX4) (T := TX4) (N := 28) hx hb hts kX4_second_inX4 hown hK hP 0 rfl rfl 8 (by decide) (hts _ kX4_second_f19) (fun _ h9 => h9) rfl dX4_second_1 ?_
  refine lv_iload_n hx hb dX4_second_4 rfl (lv_at hl 1 rfl) ?_
  refine z_iald (k := lf) (v := L 3 lf) hx hb hK hP 4 rfl (by decide) (by omega) (rfl) dX4_second_5 ?_
  refine lv_if_le (x := L 3 lf) (tgt := 43) hx hb dX4_second_6 (by decide) (fun c6 => ?_) (fun c6 => ?_)
  · skip
    refine lv_aload_n hx hb dX4_second_43 rfl (lv_at hl 0 rfl) ?_
    refine lv_iload_n hx hb dX4_second_44 rfl (lv_at hl 1 rfl) ?_
    refine z_backiA (z_runVA (n := 1) (As := [.int (nI lf)]) (ci := 5) (rest := []) hx hb hml hown hts hK hE hP hD (tX4_stops l D cI cZ cJ h cd lev tm gn nL nC nE L B C F ys ao lf (by omega) (by omega) _) gX4_second_X4_stops rfl rfl rfl (by decide +kernel) ⟨Nat.le_of_ble_eq_true rfl, Nat.le_of_ble_eq_true rfl⟩ rfl rfl rfl hl.1 rfl (Nat.le_of_ble_eq_true rfl) dX4_second_45 ⟨Nat.zero_le _, Nat.zero_le _⟩) hD hS hA (fun r1 w1 H locs hp1 hP hD hS => ?_)
    obtain ⟨rfl, rfl⟩ := hp1
    have hP : va_P D vwCl (wM cI cZ h cd lev tm gn nL nC nE L B C F ys ao) H := hP
    have hD : va_D A (wM cI cZ h cd lev tm gn nL nC nE L B C F ys ao) := hD
    refine zb_eq (b := (stpB L C lf nC)) (tgt := 57) hx hb dX4_second_48 (by decide) (fun c48 => ?_) (fun c48 => ?_)
    · skip
      refine lv_aload_n hx hb dX4_second_57 rfl (lv_at hl 0 rfl) ?_
      refine lv_iload_n hx hb dX4_second_58 rfl (lv_at hl 1 rfl) ?_
      refine lv_iconst (v := 1) hx hb dX4_second_59 (by decide) ?_
      refine z_backiA (z_runVA (n := 2) (As := [.int (nI lf), .int 1]) (ci := 5) (rest := []) hx hb hml hown hts hK hE hP hD (tX4_hasWork l D cI cZ cJ h cd lev tm gn nL nC nE L B C F ys ao lf (by omega) 1 (by omega) _) gX4_second_X4_hasWork rfl rfl rfl (by decide +kernel) ⟨Nat.le_of_ble_eq_true rfl, Nat.le_of_ble_eq_true rfl⟩ rfl rfl rfl hl.1 rfl (Nat.le_of_ble_eq_true rfl) dX4_second_60 ⟨Nat.zero_le _, Nat.zero_le _⟩) hD hS hA (fun r2 w1 H locs hp2 hP hD hS => ?_)
      obtain ⟨rfl, rfl⟩ := hp2
      have hP : va_P D vwCl (wM cI cZ h cd lev tm gn nL nC nE L B C F ys ao) H := hP
      have hD : va_D A (wM cI cZ h cd lev tm gn nL nC nE L B C F ys ao) := hD
      refine lv_istore_n (lv' := [(2, .int (bI (anyW (wf L C lf 1) nC))), (0, .ref (h 0)), (1, .int (nI lf))]) hx hb dX4_second_63 rfl hl (by decide) rfl (fun ls hl => ?_)
      refine lv_aload_n hx hb dX4_second_64 rfl (lv_at hl 1 rfl) ?_
      refine lv_iload_n hx hb dX4_second_65 rfl (lv_at hl 2 rfl) ?_
      refine lv_iconst (v := (-1)) hx hb dX4_second_66 (by decide) ?_
      refine z_backiA (z_runVA (n := 2) (As := [.int (nI lf), .int (-1)]) (ci := 5) (rest := []) hx hb hml hown hts hK hE hP hD (tX4_hasWork l D cI cZ cJ h cd lev tm gn nL nC nE L B C F ys ao lf (by omega) (-1) (by omega) _) gX4_second_X4_hasWork rfl rfl rfl (by decide +kernel) ⟨Nat.le_of_ble_eq_true rfl, Nat.le_of_ble_eq_true rfl⟩ rfl rfl rfl hl.1 rfl (Nat.le_of_ble_eq_true rfl) dX4_second_67 ⟨Nat.zero_le _, Nat.zero_le _⟩) hD hS hA (fun r3 w1 H locs hp3 hP hD hS => ?_)
      obtain ⟨rfl, rfl⟩ := hp3
      have hP : va_P D vwCl (wM cI cZ h cd lev tm gn nL nC nE L B C F ys ao) H := hP
      have hD : va_D A (wM cI cZ h cd lev tm gn nL nC nE L B C F ys ao) := hD
      refine lv_istore_n (lv' := [(3, .int (bI (anyW (wf L C lf (-1)) nC))), (2, .int (bI (anyW (wf L C lf 1) nC))), (0, .ref (h 0)), (1, .int (nI lf))]) hx hb dX4_second_70 rfl hl (by decide) rfl (fun ls hl => ?_)
      refine lv_iload_n hx hb dX4_second_71 rfl (lv_at hl 1 rfl) ?_
      refine zb_ne (b := (anyW (wf L C lf 1) nC)) (tgt := 87) hx hb dX4_second_72 (by decide) (fun c72 => ?_) (fun c72 => ?_)
      · skip
        refine lv_aload_n hx hb dX4_second_87 rfl (lv_at hl 2 rfl) ?_
        refine va_get (D := D) (ci := 5) (v := .ref (h 3)) (C := RX4) (T := TX4) (N := 28) hx hb hts kX4_second_inX4 hown hK hP 0 rfl rfl 7 (by decide) (hts _ kX4_second_f16) (fun _ h9 => h9) rfl dX4_second_88 ?_
        refine lv_iload_n hx hb dX4_second_91 rfl (lv_at hl 3 rfl) ?_
        refine z_iald (k := lf) (v := L 2 lf) hx hb hK hP 3 rfl (by decide) (by omega) (rfl) dX4_second_92 ?_
        refine lv_iconst (v := 1) hx hb dX4_second_93 (by decide) ?_
        refine lv_icmp_ne (x := L 2 lf) (y := 1) (tgt := 101) hx hb dX4_second_94 (by decide) (fun c94 => ?_) (fun c94 => ?_)
        · skip
          refine lv_aload_n hx hb dX4_second_101 rfl (lv_at hl 2 rfl) ?_
          refine va_get (D := D) (ci := 5) (v := .ref (h 3)) (C := RX4) (T := TX4) (N := 28) hx hb hts kX4_second_inX4 hown hK hP 0 rfl rfl 7 (by decide) (hts _ kX4_second_f16) (fun _ h9 => h9) rfl dX4_second_102 ?_
          refine lv_iload_n hx hb dX4_second_105 rfl (lv_at hl 3 rfl) ?_
          refine lv_aload_n hx hb dX4_second_106 rfl (lv_at hl 2 rfl) ?_
          refine va_get (D := D) (ci := 5) (v := .ref (h 3)) (C := RX4) (T := TX4) (N := 28) hx hb hts kX4_second_inX4 hown hK hP 0 rfl rfl 7 (by decide) (hts _ kX4_second_f16) (fun _ h9 => h9) rfl dX4_second_107 ?_
          refine lv_iload_n hx hb dX4_second_110 rfl (lv_at hl 3 rfl) ?_
          refine z_iald (k := lf) (v := L 2 lf) hx hb hK hP 3 rfl (by decide) (by omega) (rfl) dX4_second_111 ?_
          refine lv_iconst (v := (-1)) hx hb dX4_second_112 (by decide) ?_
          refine lv_icmp_ne (x := L 2 lf) (y := (-1)) (tgt := 120) hx hb dX4_second_113 (by decide) (fun c113 => ?_) (fun c113 => ?_)
          · skip
            refine lv_iload_n hx hb dX4_second_120 rfl (lv_at hl 1 rfl) ?_
            refine zb_ne (b := (anyW (wf L C lf 1) nC)) (tgt := 128) hx hb dX4_second_121 (by decide) (fun c121 => ?_) (fun c121 => ?_)
            · skip
              refine lv_iconst (v := 1) hx hb dX4_second_128 (by decide) ?_
              refine z_iast (k := lf) (x := 1) hx hb hK hP hD hS 3 rfl (by decide) (by omega) dX4_second_129 (fun H locs hP hD hS => ?_)
              have hP : va_P D vwCl (wM cI cZ h cd lev tm gn nL nC nE (upC L 2 lf 1) B C F ys ao) H := hP
              have hD : va_D A (wM cI cZ h cd lev tm gn nL nC nE (upC L 2 lf 1) B C F ys ao) := hD
              exact L130 (upC L 2 lf 1) (c6) (c48) (by first | exact absurd (c72.symm.trans c98) (by decide) | exact absurd (c72.symm.trans c121) (by decide) | exact absurd (c98.symm.trans c121) (by decide) | exact absurd (c76.symm.trans c117) (by decide) | exact absurd (c94.symm.trans c113) (by decide) | (simp [c6, c48, c72, c94, c113, c121]; done)) (by first | exact absurd (c72.symm.trans c98) (by decide) | exact absurd (c72.symm.trans c121) (by decide) | exact absurd (c98.symm.trans c121) (by decide) | exact absurd (c76.symm.trans c117) (by decide) | exact absurd (c94.symm.trans c113) (by decide) | (simp [dirM, c6, c48, c72, c94, c113, c121]; done)) H locs ls (lv_sub hl [2, 3] rfl) hP hD hS
            · skip
              refine lv_iconst (v := (-1)) hx hb dX4_second_124 (by decide) ?_
              refine lv_goto (tgt := 129) hx hb dX4_second_125 (by decide) ?_
              refine z_iast (k := lf) (x := (-1)) hx hb hK hP hD hS 3 rfl (by decide) (by omega) dX4_second_129 (fun H locs hP hD hS => ?_)
              have hP : va_P D vwCl (wM cI cZ h cd lev tm gn nL nC nE (upC L 2 lf (-1)) B C F ys ao) H := hP
              have hD : va_D A (wM cI cZ h cd lev tm gn nL nC nE (upC L 2 lf (-1)) B C F ys ao) := hD
              exact L130 (upC L 2 lf (-1)) (c6) (c48) (by first | exact absurd (c72.symm.trans c98) (by decide) | exact absurd (c72.symm.trans c121) (by decide) | exact absurd (c98.symm.trans c121) (by decide) | exact absurd (c76.symm.trans c117) (by decide) | exact absurd (c94.symm.trans c113) (by decide) | (simp [c6, c48, c72, c94, c113, c121]; done)) (by first | exact absurd (c72.symm.trans c98) (by decide) | exact absurd (c72.symm.trans c121) (by decide) | exact absurd (c98.symm.trans c121) (by decide) | exact absurd (c76.symm.trans c117) (by decide) | exact absurd (c94.symm.trans c113) (by decide) | (simp [dirM, c6, c48, c72, c94, c113, c121]; done)) H locs ls (lv_sub hl [2, 3] rfl) hP hD hS
          · skip
            refine lv_iload_n hx hb dX4_second_116 rfl (lv_at hl 0 rfl) ?_
            refine zb_ne (b := (anyW (wf L C lf (-1)) nC)) (tgt := 124) hx hb dX4_second_117 (by decide) (fun c117 => ?_) (fun c117 => ?_)
            · skip
              refine lv_iconst (v := (-1)) hx hb dX4_second_124 (by decide) ?_
              refine lv_goto (tgt := 129) hx hb dX4_second_125 (by decide) ?_
              refine z_iast (k := lf) (x := (-1)) hx hb hK hP hD hS 3 rfl (by decide) (by omega) dX4_second_129 (fun H locs hP hD hS => ?_)
              have hP : va_P D vwCl (wM cI cZ h cd lev tm gn nL nC nE (upC L 2 lf (-1)) B C F ys ao) H := hP
              have hD : va_D A (wM cI cZ h cd lev tm gn nL nC nE (upC L 2 lf (-1)) B C F ys ao) := hD
              exact L130 (upC L 2 lf (-1)) (c6) (c48) (by first | exact absurd (c72.symm.trans c98) (by decide) | exact absurd (c72.symm.trans c121) (by decide) | exact absurd (c98.symm.trans c121) (by decide) | exact absurd (c76.symm.trans c117) (by decide) | exact absurd (c94.symm.trans c113) (by decide) | (simp [c6, c48, c72, c94, c113, c117]; done)) (by first | exact absurd (c72.symm.trans c98) (by decide) | exact absurd (c72.symm.trans c121) (by decide) | exact absurd (c98.symm.trans c121) (by decide) | exact absurd (c76.symm.trans c117) (by decide) | exact absurd (c94.symm.trans c113) (by decide) | (simp [dirM, c6, c48, c72, c94, c113, c117]; done)) H locs ls (lv_sub hl [2, 3] rfl) hP hD hS
            · skip
              refine lv_iload_n hx hb dX4_second_120 rfl (lv_at hl 1 rfl) ?_
              refine zb_ne (b := (anyW (wf L C lf 1) nC)) (tgt := 128) hx hb dX4_second_121 (by decide) (fun c121 => ?_) (fun c121 => ?_)
              · skip
                refine lv_iconst (v := 1) hx hb dX4_second_128 (by decide) ?_
                refine z_iast (k := lf) (x := 1) hx hb hK hP hD hS 3 rfl (by decide) (by omega) dX4_second_129 (fun H locs hP hD hS => ?_)
                have hP : va_P D vwCl (wM cI cZ h cd lev tm gn nL nC nE (upC L 2 lf 1) B C F ys ao) H := hP
                have hD : va_D A (wM cI cZ h cd lev tm gn nL nC nE (upC L 2 lf 1) B C F ys ao) := hD
                exact L130 (upC L 2 lf 1) (c6) (c48) (by first | exact absurd (c72.symm.trans c98) (by decide) | exact absurd (c72.symm.trans c121) (by decide) | exact absurd (c98.symm.trans c121) (by decide) | exact absurd (c76.symm.trans c117) (by decide) | exact absurd (c94.symm.trans c113) (by decide) | (simp [c6, c48, c72, c94, c113, c117, c121]; done)) (by first | exact absurd (c72.symm.trans c98) (by decide) | exact absurd (c72.symm.trans c121) (by decide) | exact absurd (c98.symm.trans c121) (by decide) | exact absurd (c76.symm.trans c117) (by decide) | exact absurd (c94.symm.trans c113) (by decide) | (simp [dirM, c6, c48, c72, c94, c113, c117, c121]; done)) H locs ls (lv_sub hl [2, 3] rfl) hP hD hS
              · skip
                refine lv_iconst (v := (-1)) hx hb dX4_second_124 (by decide) ?_
                refine lv_goto (tgt := 129) hx hb dX4_second_125 (by decide) ?_
                refine z_iast (k := lf) (x := (-1)) hx hb hK hP hD hS 3 rfl (by decide) (by omega) dX4_second_129 (fun H locs hP hD hS => ?_)
                have hP : va_P D vwCl (wM cI cZ h cd lev tm gn nL nC nE (upC L 2 lf (-1)) B C F ys ao) H := hP
                have hD : va_D A (wM cI cZ h cd lev tm gn nL nC nE (upC L 2 lf (-1)) B C F ys ao) := hD
                exact L130 (upC L 2 lf (-1)) (c6) (c48) (by first | exact absurd (c72.symm.trans c98) (by decide) | exact absurd (c72.symm.trans c121) (by decide) | exact absurd (c98.symm.trans c121) (by decide) | exact absurd (c76.symm.trans c117) (by decide) | exact absurd (c94.symm.trans c113) (by decide) | (simp [c6, c48, c72, c94, c113, c117, c121]; done)) (by first | exact absurd (c72.symm.trans c98) (by decide) | exact absurd (c72.symm.trans c121) (by decide) | exact absurd (c98.symm.trans c121) (by decide) | exact absurd (c76.symm.trans c117) (by decide) | exact absurd (c94.symm.trans c113) (by decide) | (simp [dirM, c6, c48, c72, c94, c113, c117, c121]; done)) H locs ls (lv_sub hl [2, 3] rfl) hP hD hS
        · skip
          refine lv_iload_n hx hb dX4_second_97 rfl (lv_at hl 1 rfl) ?_
          refine zb_ne (b := (anyW (wf L C lf 1) nC)) (tgt := 130) hx hb dX4_second_98 (by decide) (fun c98 => ?_) (fun c98 => ?_)
          · skip
            exact L130 L (c6) (c48) (by first | exact absurd (c72.symm.trans c98) (by decide) | exact absurd (c72.symm.trans c121) (by decide) | exact absurd (c98.symm.trans c121) (by decide) | exact absurd (c76.symm.trans c117) (by decide) | exact absurd (c94.symm.trans c113) (by decide) | (simp [c6, c48, c72, c94, c98]; done)) (by first | exact absurd (c72.symm.trans c98) (by decide) | exact absurd (c72.symm.trans c121) (by decide) | exact absurd (c98.symm.trans c121) (by decide) | exact absurd (c76.symm.trans c117) (by decide) | exact absurd (c94.symm.trans c113) (by decide) | (rw [show dirM (L 2 lf) (anyW (wf L C lf 1) nC) (anyW (wf L C lf (-1)) nC) = L 2 lf by simp [dirM, c6, c48, c72, c94, c98], upC_same]; done)) H locs ls (lv_sub hl [2, 3] rfl) hP hD hS
          · skip
            refine lv_aload_n hx hb dX4_second_101 rfl (lv_at hl 2 rfl) ?_
            refine va_get (D := D) (ci := 5) (v := .ref (h 3)) (C := RX4) (T := TX4) (N := 28) hx hb hts kX4_second_inX4 hown hK hP 0 rfl rfl 7 (by decide) (hts _ kX4_second_f16) (fun _ h9 => h9) rfl dX4_second_102 ?_
            refine lv_iload_n hx hb dX4_second_105 rfl (lv_at hl 3 rfl) ?_
            refine lv_aload_n hx hb dX4_second_106 rfl (lv_at hl 2 rfl) ?_
            refine va_get (D := D) (ci := 5) (v := .ref (h 3)) (C := RX4) (T := TX4) (N := 28) hx hb hts kX4_second_inX4 hown hK hP 0 rfl rfl 7 (by decide) (hts _ kX4_second_f16) (fun _ h9 => h9) rfl dX4_second_107 ?_
            refine lv_iload_n hx hb dX4_second_110 rfl (lv_at hl 3 rfl) ?_
            refine z_iald (k := lf) (v := L 2 lf) hx hb hK hP 3 rfl (by decide) (by omega) (rfl) dX4_second_111 ?_
            refine lv_iconst (v := (-1)) hx hb dX4_second_112 (by decide) ?_
            refine lv_icmp_ne (x := L 2 lf) (y := (-1)) (tgt := 120) hx hb dX4_second_113 (by decide) (fun c113 => ?_) (fun c113 => ?_)
            · skip
              refine lv_iload_n hx hb dX4_second_120 rfl (lv_at hl 1 rfl) ?_
              refine zb_ne (b := (anyW (wf L C lf 1) nC)) (tgt := 128) hx hb dX4_second_121 (by decide) (fun c121 => ?_) (fun c121 => ?_)
              · skip
                refine lv_iconst (v := 1) hx hb dX4_second_128 (by decide) ?_
                refine z_iast (k := lf) (x := 1) hx hb hK hP hD hS 3 rfl (by decide) (by omega) dX4_second_129 (fun H locs hP hD hS => ?_)
                have hP : va_P D vwCl (wM cI cZ h cd lev tm gn nL nC nE (upC L 2 lf 1) B C F ys ao) H := hP
                have hD : va_D A (wM cI cZ h cd lev tm gn nL nC nE (upC L 2 lf 1) B C F ys ao) := hD
                exact L130 (upC L 2 lf 1) (c6) (c48) (by first | exact absurd (c72.symm.trans c98) (by decide) | exact absurd (c72.symm.trans c121) (by decide) | exact absurd (c98.symm.trans c121) (by decide) | exact absurd (c76.symm.trans c117) (by decide) | exact absurd (c94.symm.trans c113) (by decide) | (simp [c6, c48, c72, c94, c98, c113, c121]; done)) (by first | exact absurd (c72.symm.trans c98) (by decide) | exact absurd (c72.symm.trans c121) (by decide) | exact absurd (c98.symm.trans c121) (by decide) | exact absurd (c76.symm.trans c117) (by decide) | exact absurd (c94.symm.trans c113) (by decide) | (simp [dirM, c6, c48, c72, c94, c98, c113, c121]; done)) H locs ls (lv_sub hl [2, 3] rfl) hP hD hS
              · skip
                refine lv_iconst (v := (-1)) hx hb dX4_second_124 (by decide) ?_
                refine lv_goto (tgt := 129) hx hb dX4_second_125 (by decide) ?_
                refine z_iast (k := lf) (x := (-1)) hx hb hK hP hD hS 3 rfl (by decide) (by omega) dX4_second_129 (fun H locs hP hD hS => ?_)
                have hP : va_P D vwCl (wM cI cZ h cd lev tm gn nL nC nE (upC L 2 lf (-1)) B C F ys ao) H := hP
                have hD : va_D A (wM cI cZ h cd lev tm gn nL nC nE (upC L 2 lf (-1)) B C F ys ao) := hD
                exact L130 (upC L 2 lf (-1)) (c6) (c48) (by first | exact absurd (c72.symm.trans c98) (by decide) | exact absurd (c72.symm.trans c121) (by decide) | exact absurd (c98.symm.trans c121) (by decide) | exact absurd (c76.symm.trans c117) (by decide) | exact absurd (c94.symm.trans c113) (by decide) | (simp [c6, c48, c72, c94, c98, c113, c121]; done)) (by first | exact absurd (c72.symm.trans c98) (by decide) | exact absurd (c72.symm.trans c121) (by decide) | exact absurd (c98.symm.trans c121) (by decide) | exact absurd (c76.symm.trans c117) (by decide) | exact absurd (c94.symm.trans c113) (by decide) | (simp [dirM, c6, c48, c72, c94, c98, c113, c121]; done)) H locs ls (lv_sub hl [2, 3] rfl) hP hD hS
            · skip
              refine lv_iload_n hx hb dX4_second_116 rfl (lv_at hl 0 rfl) ?_
              refine zb_ne (b := (anyW (wf L C lf (-1)) nC)) (tgt := 124) hx hb dX4_second_117 (by decide) (fun c117 => ?_) (fun c117 => ?_)
              · skip
                refine lv_iconst (v := (-1)) hx hb dX4_second_124 (by decide) ?_
                refine lv_goto (tgt := 129) hx hb dX4_second_125 (by decide) ?_
                refine z_iast (k := lf) (x := (-1)) hx hb hK hP hD hS 3 rfl (by decide) (by omega) dX4_second_129 (fun H locs hP hD hS => ?_)
                have hP : va_P D vwCl (wM cI cZ h cd lev tm gn nL nC nE (upC L 2 lf (-1)) B C F ys ao) H := hP
                have hD : va_D A (wM cI cZ h cd lev tm gn nL nC nE (upC L 2 lf (-1)) B C F ys ao) := hD
                exact L130 (upC L 2 lf (-1)) (c6) (c48) (by first | exact absurd (c72.symm.trans c98) (by decide) | exact absurd (c72.symm.trans c121) (by decide) | exact absurd (c98.symm.trans c121) (by decide) | exact absurd (c76.symm.trans c117) (by decide) | exact absurd (c94.symm.trans c113) (by decide) | (simp [c6, c48, c72, c94, c98, c113, c117]; done)) (by first | exact absurd (c72.symm.trans c98) (by decide) | exact absurd (c72.symm.trans c121) (by decide) | exact absurd (c98.symm.trans c121) (by decide) | exact absurd (c76.symm.trans c117) (by decide) | exact absurd (c94.symm.trans c113) (by decide) | (simp [dirM, c6, c48, c72, c94, c98, c113, c117]; done)) H locs ls (lv_sub hl [2, 3] rfl) hP hD hS
              · skip
                refine lv_iload_n hx hb dX4_second_120 rfl (lv_at hl 1 rfl) ?_
                refine zb_ne (b := (anyW (wf L C lf 1) nC)) (tgt := 128) hx hb dX4_second_121 (by decide) (fun c121 => ?_) (fun c121 => ?_)
                · skip
                  refine lv_iconst (v := 1) hx hb dX4_second_128 (by decide) ?_
                  refine z_iast (k := lf) (x := 1) hx hb hK hP hD hS 3 rfl (by decide) (by omega) dX4_second_129 (fun H locs hP hD hS => ?_)
                  have hP : va_P D vwCl (wM cI cZ h cd lev tm gn nL nC nE (upC L 2 lf 1) B C F ys ao) H := hP
                  have hD : va_D A (wM cI cZ h cd lev tm gn nL nC nE (upC L 2 lf 1) B C F ys ao) := hD
                  exact L130 (upC L 2 lf 1) (c6) (c48) (by first | exact absurd (c72.symm.trans c98) (by decide) | exact absurd (c72.symm.trans c121) (by decide) | exact absurd (c98.symm.trans c121) (by decide) | exact absurd (c76.symm.trans c117) (by decide) | exact absurd (c94.symm.trans c113) (by decide) | (simp [c6, c48, c72, c94, c98, c113, c117, c121]; done)) (by first | exact absurd (c72.symm.trans c98) (by decide) | exact absurd (c72.symm.trans c121) (by decide) | exact absurd (c98.symm.trans c121) (by decide) | exact absurd (c76.symm.trans c117) (by decide) | exact absurd (c94.symm.trans c113) (by decide) | (simp [dirM, c6, c48, c72, c94, c98, c113, c117, c121]; done)) H locs ls (lv_sub hl [2, 3] rfl) hP hD hS
                · skip
                  refine lv_iconst (v := (-1)) hx hb dX4_second_124 (by decide) ?_
                  refine lv_goto (tgt := 129) hx hb dX4_second_125 (by decide) ?_
                  refine z_iast (k := lf) (x := (-1)) hx hb hK hP hD hS 3 rfl (by decide) (by omega) dX4_second_129 (fun H locs hP hD hS => ?_)
                  have hP : va_P D vwCl (wM cI cZ h cd lev tm gn nL nC nE (upC L 2 lf (-1)) B C F ys ao) H := hP
                  have hD : va_D A (wM cI cZ h cd lev tm gn nL nC nE (upC L 2 lf (-1)) B C F ys ao) := hD
                  exact L130 (upC L 2 lf (-1)) (c6) (c48) (by first | exact absurd (c72.symm.trans c98) (by decide) | exact absurd (c72.symm.trans c121) (by decide) | exact absurd (c98.symm.trans c121) (by decide) | exact absurd (c76.symm.trans c117) (by decide) | exact absurd (c94.symm.trans c113) (by decide) | (simp [c6, c48, c72, c94, c98, c113, c117, c121]; done)) (by first | exact absurd (c72.symm.trans c98) (by decide) | exact absurd (c72.symm.trans c121) (by decide) | exact absurd (c98.symm.trans c121) (by decide) | exact absurd (c76.symm.trans c117) (by decide) | exact absurd (c94.symm.trans c113) (by decide) | (simp [dirM, c6, c48, c72, c94, c98, c113, c117, c121]; done)) H locs ls (lv_sub hl [2, 3] rfl) hP hD hS
      · skip
        refine lv_iload_n hx hb dX4_second_75 rfl (lv_at hl 0 rfl) ?_
        refine zb_ne (b := (anyW (wf L C lf (-1)) nC)) (tgt := 87) hx hb dX4_second_76 (by decide) (fun c76 => ?_) (fun c76 => ?_)
        · skip
          refine lv_aload_n hx hb dX4_second_87 rfl (lv_at hl 2 rfl) ?_
          refine va_get (D := D) (ci := 5) (v := .ref (h 3)) (C := RX4) (T := TX4) (N := 28) hx hb hts kX4_second_inX4 hown hK hP 0 rfl rfl 7 (by decide) (hts _ kX4_second_f16) (fun _ h9 => h9) rfl dX4_second_88 ?_
          refine lv_iload_n hx hb dX4_second_91 rfl (lv_at hl 3 rfl) ?_
          refine z_iald (k := lf) (v := L 2 lf) hx hb hK hP 3 rfl (by decide) (by omega) (rfl) dX4_second_92 ?_
          refine lv_iconst (v := 1) hx hb dX4_second_93 (by decide) ?_
          refine lv_icmp_ne (x := L 2 lf) (y := 1) (tgt := 101) hx hb dX4_second_94 (by decide) (fun c94 => ?_) (fun c94 => ?_)
          · skip
            refine lv_aload_n hx hb dX4_second_101 rfl (lv_at hl 2 rfl) ?_
            refine va_get (D := D) (ci := 5) (v := .ref (h 3)) (C := RX4) (T := TX4) (N := 28) hx hb hts kX4_second_inX4 hown hK hP 0 rfl rfl 7 (by decide) (hts _ kX4_second_f16) (fun _ h9 => h9) rfl dX4_second_102 ?_
            refine lv_iload_n hx hb dX4_second_105 rfl (lv_at hl 3 rfl) ?_
            refine lv_aload_n hx hb dX4_second_106 rfl (lv_at hl 2 rfl) ?_
            refine va_get (D := D) (ci := 5) (v := .ref (h 3)) (C := RX4) (T := TX4) (N := 28) hx hb hts kX4_second_inX4 hown hK hP 0 rfl rfl 7 (by decide) (hts _ kX4_second_f16) (fun _ h9 => h9) rfl dX4_second_107 ?_
            refine lv_iload_n hx hb dX4_second_110 rfl (lv_at hl 3 rfl) ?_
            refine z_iald (k := lf) (v := L 2 lf) hx hb hK hP 3 rfl (by decide) (by omega) (rfl) dX4_second_111 ?_
            refine lv_iconst (v := (-1)) hx hb dX4_second_112 (by decide) ?_
            refine lv_icmp_ne (x := L 2 lf) (y := (-1)) (tgt := 120) hx hb dX4_second_113 (by decide) (fun c113 => ?_) (fun c113 => ?_)
            · skip
              refine lv_iload_n hx hb dX4_second_120 rfl (lv_at hl 1 rfl) ?_
              refine zb_ne (b := (anyW (wf L C lf 1) nC)) (tgt := 128) hx hb dX4_second_121 (by decide) (fun c121 => ?_) (fun c121 => ?_)
              · skip
                refine lv_iconst (v := 1) hx hb dX4_second_128 (by decide) ?_
                refine z_iast (k := lf) (x := 1) hx hb hK hP hD hS 3 rfl (by decide) (by omega) dX4_second_129 (fun H locs hP hD hS => ?_)
                have hP : va_P D vwCl (wM cI cZ h cd lev tm gn nL nC nE (upC L 2 lf 1) B C F ys ao) H := hP
                have hD : va_D A (wM cI cZ h cd lev tm gn nL nC nE (upC L 2 lf 1) B C F ys ao) := hD
                exact L130 (upC L 2 lf 1) (c6) (c48) (by first | exact absurd (c72.symm.trans c98) (by decide) | exact absurd (c72.symm.trans c121) (by decide) | exact absurd (c98.symm.trans c121) (by decide) | exact absurd (c76.symm.trans c117) (by decide) | exact absurd (c94.symm.trans c113) (by decide) | (simp [c6, c48, c72, c76, c94, c113, c121]; done)) (by first | exact absurd (c72.symm.trans c98) (by decide) | exact absurd (c72.symm.trans c121) (by decide) | exact absurd (c98.symm.trans c121) (by decide) | exact absurd (c76.symm.trans c117) (by decide) | exact absurd (c94.symm.trans c113) (by decide) | (simp [dirM, c6, c48, c72, c76, c94, c113, c121]; done)) H locs ls (lv_sub hl [2, 3] rfl) hP hD hS
              · skip
                refine lv_iconst (v := (-1)) hx hb dX4_second_124 (by decide) ?_
                refine lv_goto (tgt := 129) hx hb dX4_second_125 (by decide) ?_
                refine z_iast (k := lf) (x := (-1)) hx hb hK hP hD hS 3 rfl (by decide) (by omega) dX4_second_129 (fun H locs hP hD hS => ?_)
                have hP : va_P D vwCl (wM cI cZ h cd lev tm gn nL nC nE (upC L 2 lf (-1)) B C F ys ao) H := hP
                have hD : va_D A (wM cI cZ h cd lev tm gn nL nC nE (upC L 2 lf (-1)) B C F ys ao) := hD
                exact L130 (upC L 2 lf (-1)) (c6) (c48) (by first | exact absurd (c72.symm.trans c98) (by decide) | exact absurd (c72.symm.trans c121) (by decide) | exact absurd (c98.symm.trans c121) (by decide) | exact absurd (c76.symm.trans c117) (by decide) | exact absurd (c94.symm.trans c113) (by decide) | (simp [c6, c48, c72, c76, c94, c113, c121]; done)) (by first | exact absurd (c72.symm.trans c98) (by decide) | exact absurd (c72.symm.trans c121) (by decide) | exact absurd (c98.symm.trans c121) (by decide) | exact absurd (c76.symm.trans c117) (by decide) | exact absurd (c94.symm.trans c113) (by decide) | (simp [dirM, c6, c48, c72, c76, c94, c113, c121]; done)) H locs ls (lv_sub hl [2, 3] rfl) hP hD hS
            · skip
              refine lv_iload_n hx hb dX4_second_116 rfl (lv_at hl 0 rfl) ?_
              refine zb_ne (b := (anyW (wf L C lf (-1)) nC)) (tgt := 124) hx hb dX4_second_117 (by decide) (fun c117 => ?_) (fun c117 => ?_)
              · skip
                refine lv_iconst (v := (-1)) hx hb dX4_second_124 (by decide) ?_
                refine lv_goto (tgt := 129) hx hb dX4_second_125 (by decide) ?_
                refine z_iast (k := lf) (x := (-1)) hx hb hK hP hD hS 3 rfl (by decide) (by omega) dX4_second_129 (fun H locs hP hD hS => ?_)
                have hP : va_P D vwCl (wM cI cZ h cd lev tm gn nL nC nE (upC L 2 lf (-1)) B C F ys ao) H := hP
                have hD : va_D A (wM cI cZ h cd lev tm gn nL nC nE (upC L 2 lf (-1)) B C F ys ao) := hD
                exact L130 (upC L 2 lf (-1)) (c6) (c48) (by first | exact absurd (c72.symm.trans c98) (by decide) | exact absurd (c72.symm.trans c121) (by decide) | exact absurd (c98.symm.trans c121) (by decide) | exact absurd (c76.symm.trans c117) (by decide) | exact absurd (c94.symm.trans c113) (by decide) | (simp [c6, c48, c72, c76, c94, c113, c117]; done)) (by first | exact absurd (c72.symm.trans c98) (by decide) | exact absurd (c72.symm.trans c121) (by decide) | exact absurd (c98.symm.trans c121) (by decide) | exact absurd (c76.symm.trans c117) (by decide) | exact absurd (c94.symm.trans c113) (by decide) | (simp [dirM, c6, c48, c72, c76, c94, c113, c117]; done)) H locs ls (lv_sub hl [2, 3] rfl) hP hD hS
              · skip
                refine lv_iload_n hx hb dX4_second_120 rfl (lv_at hl 1 rfl) ?_
                refine zb_ne (b := (anyW (wf L C lf 1) nC)) (tgt := 128) hx hb dX4_second_121 (by decide) (fun c121 => ?_) (fun c121 => ?_)
                · skip
                  refine lv_iconst (v := 1) hx hb dX4_second_128 (by decide) ?_
                  refine z_iast (k := lf) (x := 1) hx hb hK hP hD hS 3 rfl (by decide) (by omega) dX4_second_129 (fun H locs hP hD hS => ?_)
                  have hP : va_P D vwCl (wM cI cZ h cd lev tm gn nL nC nE (upC L 2 lf 1) B C F ys ao) H := hP
                  have hD : va_D A (wM cI cZ h cd lev tm gn nL nC nE (upC L 2 lf 1) B C F ys ao) := hD
                  exact L130 (upC L 2 lf 1) (c6) (c48) (by first | exact absurd (c72.symm.trans c98) (by decide) | exact absurd (c72.symm.trans c121) (by decide) | exact absurd (c98.symm.trans c121) (by decide) | exact absurd (c76.symm.trans c117) (by decide) | exact absurd (c94.symm.trans c113) (by decide) | (simp [c6, c48, c72, c76, c94, c113, c117, c121]; done)) (by first | exact absurd (c72.symm.trans c98) (by decide) | exact absurd (c72.symm.trans c121) (by decide) | exact absurd (c98.symm.trans c121) (by decide) | exact absurd (c76.symm.trans c117) (by decide) | exact absurd (c94.symm.trans c113) (by decide) | (simp [dirM, c6, c48, c72, c76, c94, c113, c117, c121]; done)) H locs ls (lv_sub hl [2, 3] rfl) hP hD hS
                · skip
                  refine lv_iconst (v := (-1)) hx hb dX4_second_124 (by decide) ?_
                  refine lv_goto (tgt := 129) hx hb dX4_second_125 (by decide) ?_
                  refine z_iast (k := lf) (x := (-1)) hx hb hK hP hD hS 3 rfl (by decide) (by omega) dX4_second_129 (fun H locs hP hD hS => ?_)
                  have hP : va_P D vwCl (wM cI cZ h cd lev tm gn nL nC nE (upC L 2 lf (-1)) B C F ys ao) H := hP
                  have hD : va_D A (wM cI cZ h cd lev tm gn nL nC nE (upC L 2 lf (-1)) B C F ys ao) := hD
                  exact L130 (upC L 2 lf (-1)) (c6) (c48) (by first | exact absurd (c72.symm.trans c98) (by decide) | exact absurd (c72.symm.trans c121) (by decide) | exact absurd (c98.symm.trans c121) (by decide) | exact absurd (c76.symm.trans c117) (by decide) | exact absurd (c94.symm.trans c113) (by decide) | (simp [c6, c48, c72, c76, c94, c113, c117, c121]; done)) (by first | exact absurd (c72.symm.trans c98) (by decide) | exact absurd (c72.symm.trans c121) (by decide) | exact absurd (c98.symm.trans c121) (by decide) | exact absurd (c76.symm.trans c117) (by decide) | exact absurd (c94.symm.trans c113) (by decide) | (simp [dirM, c6, c48, c72, c76, c94, c113, c117, c121]; done)) H locs ls (lv_sub hl [2, 3] rfl) hP hD hS
          · skip
            refine lv_iload_n hx hb dX4_second_97 rfl (lv_at hl 1 rfl) ?_
            refine zb_ne (b := (anyW (wf L C lf 1) nC)) (tgt := 130) hx hb dX4_second_98 (by decide) (fun c98 => ?_) (fun c98 => ?_)
            · skip
              exact L130 L (c6) (c48) (by first | exact absurd (c72.symm.trans c98) (by decide) | exact absurd (c72.symm.trans c121) (by decide) | exact absurd (c98.symm.trans c121) (by decide) | exact absurd (c76.symm.trans c117) (by decide) | exact absurd (c94.symm.trans c113) (by decide) | (simp [c6, c48, c72, c76, c94, c98]; done)) (by first | exact absurd (c72.symm.trans c98) (by decide) | exact absurd (c72.symm.trans c121) (by decide) | exact absurd (c98.symm.trans c121) (by decide) | exact absurd (c76.symm.trans c117) (by decide) | exact absurd (c94.symm.trans c113) (by decide) | (rw [show dirM (L 2 lf) (anyW (wf L C lf 1) nC) (anyW (wf L C lf (-1)) nC) = L 2 lf by simp [dirM, c6, c48, c72, c76, c94, c98], upC_same]; done)) H locs ls (lv_sub hl [2, 3] rfl) hP hD hS
            · skip
              refine lv_aload_n hx hb dX4_second_101 rfl (lv_at hl 2 rfl) ?_
              refine va_get (D := D) (ci := 5) (v := .ref (h 3)) (C := RX4) (T := TX4) (N := 28) hx hb hts kX4_second_inX4 hown hK hP 0 rfl rfl 7 (by decide) (hts _ kX4_second_f16) (fun _ h9 => h9) rfl dX4_second_102 ?_
              refine lv_iload_n hx hb dX4_second_105 rfl (lv_at hl 3 rfl) ?_
              refine lv_aload_n hx hb dX4_second_106 rfl (lv_at hl 2 rfl) ?_
              refine va_get (D := D) (ci := 5) (v := .ref (h 3)) (C := RX4) (T := TX4) (N := 28) hx hb hts kX4_second_inX4 hown hK hP 0 rfl rfl 7 (by decide) (hts _ kX4_second_f16) (fun _ h9 => h9) rfl dX4_second_107 ?_
              refine lv_iload_n hx hb dX4_second_110 rfl (lv_at hl 3 rfl) ?_
              refine z_iald (k := lf) (v := L 2 lf) hx hb hK hP 3 rfl (by decide) (by omega) (rfl) dX4_second_111 ?_
              refine lv_iconst (v := (-1)) hx hb dX4_second_112 (by decide) ?_
              refine lv_icmp_ne (x := L 2 lf) (y := (-1)) (tgt := 120) hx hb dX4_second_113 (by decide) (fun c113 => ?_) (fun c113 => ?_)
              · skip
                refine lv_iload_n hx hb dX4_second_120 rfl (lv_at hl 1 rfl) ?_
                refine zb_ne (b := (anyW (wf L C lf 1) nC)) (tgt := 128) hx hb dX4_second_121 (by decide) (fun c121 => ?_) (fun c121 => ?_)
                · skip
                  refine lv_iconst (v := 1) hx hb dX4_second_128 (by decide) ?_
                  refine z_iast (k := lf) (x := 1) hx hb hK hP hD hS 3 rfl (by decide) (by omega) dX4_second_129 (fun H locs hP hD hS => ?_)
                  have hP : va_P D vwCl (wM cI cZ h cd lev tm gn nL nC nE (upC L 2 lf 1) B C F ys ao) H := hP
                  have hD : va_D A (wM cI cZ h cd lev tm gn nL nC nE (upC L 2 lf 1) B C F ys ao) := hD
                  exact L130 (upC L 2 lf 1) (c6) (c48) (by first | exact absurd (c72.symm.trans c98) (by decide) | exact absurd (c72.symm.trans c121) (by decide) | exact absurd (c98.symm.trans c121) (by decide) | exact absurd (c76.symm.trans c117) (by decide) | exact absurd (c94.symm.trans c113) (by decide) | (simp [c6, c48, c72, c76, c94, c98, c113, c121]; done)) (by first | exact absurd (c72.symm.trans c98) (by decide) | exact absurd (c72.symm.trans c121) (by decide) | exact absurd (c98.symm.trans c121) (by decide) | exact absurd (c76.symm.trans c117) (by decide) | exact absurd (c94.symm.trans c113) (by decide) | (simp [dirM, c6, c48, c72, c76, c94, c98, c113, c121]; done)) H locs ls (lv_sub hl [2, 3] rfl) hP hD hS
                · skip
                  refine lv_iconst (v := (-1)) hx hb dX4_second_124 (by decide) ?_
                  refine lv_goto (tgt := 129) hx hb dX4_second_125 (by decide) ?_
                  refine z_iast (k := lf) (x := (-1)) hx hb hK hP hD hS 3 rfl (by decide) (by omega) dX4_second_129 (fun H locs hP hD hS => ?_)
                  have hP : va_P D vwCl (wM cI cZ h cd lev tm gn nL nC nE (upC L 2 lf (-1)) B C F ys ao) H := hP
                  have hD : va_D A (wM cI cZ h cd lev tm gn nL nC nE (upC L 2 lf (-1)) B C F ys ao) := hD
                  exact L130 (upC L 2 lf (-1)) (c6) (c48) (by first | exact absurd (c72.symm.trans c98) (by decide) | exact absurd (c72.symm.trans c121) (by decide) | exact absurd (c98.symm.trans c121) (by decide) | exact absurd (c76.symm.trans c117) (by decide) | exact absurd (c94.symm.trans c113) (by decide) | (simp [c6, c48, c72, c76, c94, c98, c113, c121]; done)) (by first | exact absurd (c72.symm.trans c98) (by decide) | exact absurd (c72.symm.trans c121) (by decide) | exact absurd (c98.symm.trans c121) (by decide) | exact absurd (c76.symm.trans c117) (by decide) | exact absurd (c94.symm.trans c113) (by decide) | (simp [dirM, c6, c48, c72, c76, c94, c98, c113, c121]; done)) H locs ls (lv_sub hl [2, 3] rfl) hP hD hS
              · skip
                refine lv_iload_n hx hb dX4_second_116 rfl (lv_at hl 0 rfl) ?_
                refine zb_ne (b := (anyW (wf L C lf (-1)) nC)) (tgt := 124) hx hb dX4_second_117 (by decide) (fun c117 => ?_) (fun c117 => ?_)
                · skip
                  refine lv_iconst (v := (-1)) hx hb dX4_second_124 (by decide) ?_
                  refine lv_goto (tgt := 129) hx hb dX4_second_125 (by decide) ?_
                  refine z_iast (k := lf) (x := (-1)) hx hb hK hP hD hS 3 rfl (by decide) (by omega) dX4_second_129 (fun H locs hP hD hS => ?_)
                  have hP : va_P D vwCl (wM cI cZ h cd lev tm gn nL nC nE (upC L 2 lf (-1)) B C F ys ao) H := hP
                  have hD : va_D A (wM cI cZ h cd lev tm gn nL nC nE (upC L 2 lf (-1)) B C F ys ao) := hD
                  exact L130 (upC L 2 lf (-1)) (c6) (c48) (by first | exact absurd (c72.symm.trans c98) (by decide) | exact absurd (c72.symm.trans c121) (by decide) | exact absurd (c98.symm.trans c121) (by decide) | exact absurd (c76.symm.trans c117) (by decide) | exact absurd (c94.symm.trans c113) (by decide) | (simp [c6, c48, c72, c76, c94, c98, c113, c117]; done)) (by first | exact absurd (c72.symm.trans c98) (by decide) | exact absurd (c72.symm.trans c121) (by decide) | exact absurd (c98.symm.trans c121) (by decide) | exact absurd (c76.symm.trans c117) (by decide) | exact absurd (c94.symm.trans c113) (by decide) | (simp [dirM, c6, c48, c72, c76, c94, c98, c113, c117]; done)) H locs ls (lv_sub hl [2, 3] rfl) hP hD hS
                · skip
                  refine lv_iload_n hx hb dX4_second_120 rfl (lv_at hl 1 rfl) ?_
                  refine zb_ne (b := (anyW (wf L C lf 1) nC)) (tgt := 128) hx hb dX4_second_121 (by decide) (fun c121 => ?_) (fun c121 => ?_)
                  · skip
                    refine lv_iconst (v := 1) hx hb dX4_second_128 (by decide) ?_
                    refine z_iast (k := lf) (x := 1) hx hb hK hP hD hS 3 rfl (by decide) (by omega) dX4_second_129 (fun H locs hP hD hS => ?_)
                    have hP : va_P D vwCl (wM cI cZ h cd lev tm gn nL nC nE (upC L 2 lf 1) B C F ys ao) H := hP
                    have hD : va_D A (wM cI cZ h cd lev tm gn nL nC nE (upC L 2 lf 1) B C F ys ao) := hD
                    exact L130 (upC L 2 lf 1) (c6) (c48) (by first | exact absurd (c72.symm.trans c98) (by decide) | exact absurd (c72.symm.trans c121) (by decide) | exact absurd (c98.symm.trans c121) (by decide) | exact absurd (c76.symm.trans c117) (by decide) | exact absurd (c94.symm.trans c113) (by decide) | (simp [c6, c48, c72, c76, c94, c98, c113, c117, c121]; done)) (by first | exact absurd (c72.symm.trans c98) (by decide) | exact absurd (c72.symm.trans c121) (by decide) | exact absurd (c98.symm.trans c121) (by decide) | exact absurd (c76.symm.trans c117) (by decide) | exact absurd (c94.symm.trans c113) (by decide) | (simp [dirM, c6, c48, c72, c76, c94, c98, c113, c117, c121]; done)) H locs ls (lv_sub hl [2, 3] rfl) hP hD hS
                  · skip
                    refine lv_iconst (v := (-1)) hx hb dX4_second_124 (by decide) ?_
                    refine lv_goto (tgt := 129) hx hb dX4_second_125 (by decide) ?_
                    refine z_iast (k := lf) (x := (-1)) hx hb hK hP hD hS 3 rfl (by decide) (by omega) dX4_second_129 (fun H locs hP hD hS => ?_)
                    have hP : va_P D vwCl (wM cI cZ h cd lev tm gn nL nC nE (upC L 2 lf (-1)) B C F ys ao) H := hP
                    have hD : va_D A (wM cI cZ h cd lev tm gn nL nC nE (upC L 2 lf (-1)) B C F ys ao) := hD
                    exact L130 (upC L 2 lf (-1)) (c6) (c48) (by first | exact absurd (c72.symm.trans c98) (by decide) | exact absurd (c72.symm.trans c121) (by decide) | exact absurd (c98.symm.trans c121) (by decide) | exact absurd (c76.symm.trans c117) (by decide) | exact absurd (c94.symm.trans c113) (by decide) | (simp [c6, c48, c72, c76, c94, c98, c113, c117, c121]; done)) (by first | exact absurd (c72.symm.trans c98) (by decide) | exact absurd (c72.symm.trans c121) (by decide) | exact absurd (c98.symm.trans c121) (by decide) | exact absurd (c76.symm.trans c117) (by decide) | exact absurd (c94.symm.trans c113) (by decide) | (simp [dirM, c6, c48, c72, c76, c94, c98, c113, c117, c121]; done)) H locs ls (lv_sub hl [2, 3] rfl) hP hD hS
        · skip
          refine lv_aload_n hx hb dX4_second_79 rfl (lv_at hl 2 rfl) ?_
          refine va_get (D := D) (ci := 5) (v := .ref (h 3)) (C := RX4) (T := TX4) (N := 28) hx hb hts kX4_second_inX4 hown hK hP 0 rfl rfl 7 (by decide) (hts _ kX4_second_f16) (fun _ h9 => h9) rfl dX4_second_80 ?_
          refine lv_iload_n hx hb dX4_second_83 rfl (lv_at hl 3 rfl) ?_
          refine lv_iconst (v := 0) hx hb dX4_second_84 (by decide) ?_
          refine z_iast (k := lf) (x := 0) hx hb hK hP hD hS 3 rfl (by decide) (by omega) dX4_second_85 (fun H locs hP hD hS => ?_)
          have hP : va_P D vwCl (wM cI cZ h cd lev tm gn nL nC nE (upC L 2 lf 0) B C F ys ao) H := hP
          have hD : va_D A (wM cI cZ h cd lev tm gn nL nC nE (upC L 2 lf 0) B C F ys ao) := hD
          exact z_vret hx hb hr hlocks hS hP rfl dX4_second_86 (by rw [oneM, if_pos c6, if_neg (by rw [c48]; decide), if_pos (by simp [c72, c76])])
    · skip
      refine lv_aload_n hx hb dX4_second_51 rfl (lv_at hl 0 rfl) ?_
      refine lv_iload_n hx hb dX4_second_52 rfl (lv_at hl 1 rfl) ?_
      refine z_backvA (z_runVA (n := 1) (As := [.int (nI lf)]) (ci := 5) (rest := []) hx hb hml hown hts hK hE hP hD (tX4_exchange l D cI cZ cJ h cd lev tm gn nL nC nE L B C F ys ao lf (by omega) (by omega) (hok) _) gX4_second_X4_exchange rfl rfl rfl (by decide +kernel) ⟨Nat.le_of_ble_eq_true rfl, Nat.le_of_ble_eq_true rfl⟩ rfl rfl rfl hl.1 rfl (Nat.le_of_ble_eq_true rfl) dX4_second_53 ⟨Nat.zero_le _, Nat.zero_le _⟩) hD hS hA (fun w1 H locs hp5 hP hD hS => ?_)
      obtain rfl := hp5
      generalize ez4 : exM tm lf nC L (nE, C, F) = z4 at hP hD
      have hP : va_P D vwCl (wM cI cZ h cd lev tm gn nL nC z4.1 (upC L 3 lf 3) B z4.2.1 z4.2.2 ys ao) H := hP
      have hD : va_D A (wM cI cZ h cd lev tm gn nL nC z4.1 (upC L 3 lf 3) B z4.2.1 z4.2.2 ys ao) := hD
      exact z_vret hx hb hr hlocks hS hP rfl dX4_second_56 (by rw [oneM, if_pos c6, if_pos c48]; show _ = wM cI cZ h cd lev tm gn nL nC (exM tm lf nC L (nE, C, F)).1 (upC L 3 lf 3) B (exM tm lf nC L (nE, C, F)).2.1 (exM tm lf nC L (nE, C, F)).2.2 ys ao; rw [ez4])
  · skip
    refine lv_aload_n hx hb dX4_second_9 rfl (lv_at hl 0 rfl) ?_
    refine va_get (D := D) (ci := 5) (v := .ref (h 4)) (C := RX4) (T := TX4) (N := 28) hx hb hts kX4_second_inX4 hown hK hP 0 rfl rfl 8 (by decide) (hts _ kX4_second_f19) (fun _ h9 => h9) rfl dX4_second_10 ?_
    refine lv_iload_n hx hb dX4_second_13 rfl (lv_at hl 1 rfl) ?_
    refine lv_dup2_11 hx hb dX4_second_14 rfl rfl ?_
    refine z_iald (k := lf) (v := L 3 lf) hx hb hK hP 4 rfl (by decide) (by omega) (rfl) dX4_second_15 ?_
    refine lv_aload_n hx hb dX4_second_16 rfl (lv_at hl 0 rfl) ?_
    refine va_get (D := D) (ci := 5) (v := .ref (h 5)) (C := RX4) (T := TX4) (N := 28) hx hb hts kX4_second_inX4 hown hK hP 0 rfl rfl 9 (by decide) (hts _ kX4_second_f22) (fun _ h9 => h9) rfl dX4_second_17 ?_
    refine lv_iload_n hx hb dX4_second_20 rfl (lv_at hl 1 rfl) ?_
    refine z_zald (k := lf) (v := B 2 lf) hx hb hK hP 5 rfl (by decide) (by omega) (rfl) dX4_second_21 ?_
    refine lv_if_eq (x := B 2 lf) (tgt := 39) hx hb dX4_second_22 (by decide) (fun c22 => ?_) (fun c22 => ?_)
    · skip
      refine lv_iconst (v := 1) hx hb dX4_second_39 (by decide) ?_
      exact L40 1 (c6) (by simp [opM, c6, c22]) s.heap [] ls (lv_sub hl [0, 1] rfl) hP hD hS
    · skip
      refine lv_aload_n hx hb dX4_second_25 rfl (lv_at hl 0 rfl) ?_
      refine va_get (D := D) (ci := 5) (v := .ref (h 4)) (C := RX4) (T := TX4) (N := 28) hx hb hts kX4_second_inX4 hown hK hP 0 rfl rfl 8 (by decide) (hts _ kX4_second_f19) (fun _ h9 => h9) rfl dX4_second_26 ?_
      refine lv_iload_n hx hb dX4_second_29 rfl (lv_at hl 1 rfl) ?_
      refine z_iald (k := lf) (v := L 3 lf) hx hb hK hP 4 rfl (by decide) (by omega) (rfl) dX4_second_30 ?_
      refine lv_iconst (v := 1) hx hb dX4_second_31 (by decide) ?_
      refine lv_icmp_ne (x := L 3 lf) (y := 1) (tgt := 39) hx hb dX4_second_32 (by decide) (fun c32 => ?_) (fun c32 => ?_)
      · skip
        refine lv_iconst (v := 1) hx hb dX4_second_39 (by decide) ?_
        exact L40 1 (c6) (by simp [opM, c6, c22, c32]) s.heap [] ls (lv_sub hl [0, 1] rfl) hP hD hS
      · skip
        refine lv_iconst (v := 0) hx hb dX4_second_35 (by decide) ?_
        refine lv_goto (tgt := 40) hx hb dX4_second_36 (by decide) ?_
        exact L40 0 (c6) (by simp [opM, c6, c22, c32]) s.heap [] ls (lv_sub hl [0, 1] rfl) hP hD hS
