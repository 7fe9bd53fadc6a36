
set_option maxHeartbeats 4000000 in
set_option maxRecDepth 100000 in
theorem tX3_asNumber (l : Launch) (D : va_G) (cI cZ cJ : ClassId) (b : Bool) : ∀ sz : Nat, zMi l yX3_asNumber wsX3_asNumber ({ frames := 0, cells := 0, slots := 0, locals := 0 } : Room) D cI cZ cJ ([]) sz [.int (bI b)] (fun r w' => r = bI b ∧ w' = []) := by
  intro sz
  refine z_head (y := yX3_asNumber) (av := [.int (bI b)]) (w := ([])) (Qc := fun A => zQi D ([]) (fun r w' => r = bI b ∧ w' = []) A) (cc := cX3_asNumber) (maxL := 1) (ret := (some .int)) (by decide) rfl (Nat.le_of_ble_eq_true rfl) ?_
  intro p e s m below meth c ls A hat hP hD hS hl
  obtain ⟨hx, hb, hr, hml, hlocks, hts, hown, hin, hK, hE, hA⟩ := hat
  have hP : va_P D vwCl [] s.heap := hP
  have hD : va_D A [] := hD
  have hl : lv_has ls 1 [(0, .int (bI b))] := hl
  refine lv_iload_n hx hb dX3_asNumber_0 rfl (lv_at hl 0 rfl) ?_
  refine zb_eq (b := b) (tgt := 8) hx hb dX3_asNumber_1 (by decide) (fun c1 => ?_) (fun c1 => ?_)
  · skip
    refine lv_iconst (v := 0) hx hb dX3_asNumber_8 (by decide) ?_
    exact z_iret hx hb hr hlocks hS hP rfl dX3_asNumber_9 (⟨by simp [bI, c1], rfl⟩)
  · skip
    refine lv_iconst (v := 1) hx hb dX3_asNumber_4 (by decide) ?_
    refine lv_goto (tgt := 9) hx hb dX3_asNumber_5 (by decide) ?_
    exact z_iret hx hb hr hlocks hS hP rfl dX3_asNumber_9 (⟨by simp [bI, c1], rfl⟩)

theorem kX0_is_inX0 : ∀ w ∈ wsX00, w ∈ wsX0_is := by decide +kernel
theorem kX0_is_f24 : Cond.fieldLink RX0 24 "LiftRows2$Calls" "state" "[I" ∈ wsX0_is := by decide +kernel
theorem kX0_is_f27 : Cond.fieldLink RX0 27 "LiftRows2$Calls" "by" "[I" ∈ wsX0_is := by decide +kernel
set_option maxHeartbeats 4000000 in
set_option maxRecDepth 100000 in
theorem tX0_is (l : Launch) (D : va_G) (cI cZ cJ : ClassId) (h : Nat → Nat) (n : Nat) (C : Nat → Nat → Int32) (i : Nat) (st lf : Int32) (hi : i < 24) : ∀ sz : Nat, zMi l yX0_is wsX0_is ({ frames := 0, cells := 0, slots := 0, locals := 0 } : Room) D cI cZ cJ (wC cI h n C) sz [.ref (h 0), .int (nI i), .int st, .int lf] (fun r w' => r = bI (isB C i st lf) ∧ w' = wC cI h n C) := by
  intro sz
  refine z_head (y := yX0_is) (av := [.ref (h 0), .int (nI i), .int st, .int lf]) (w := (wC cI h n C)) (Qc := fun A => zQi D (wC cI h n C) (fun r w' => r = bI (isB C i st lf) ∧ w' = wC cI h n C) A) (cc := cX0_is) (maxL := 4) (ret := (some .boolean)) (by decide) rfl (Nat.le_of_ble_eq_true rfl) ?_
  intro p e s m below meth c ls A hat hP hD hS hl
  obtain ⟨hx, hb, hr, hml, hlocks, hts, hown, hin, hK, hE, hA⟩ := hat
  have hP : va_P D vwCl (wC cI h n C) s.heap := hP
  have hD : va_D A (wC cI h n C) := hD
  have hl : lv_has ls 4 [(0, .ref (h 0)), (1, .int (nI i)), (2, .int st), (3, .int lf)] := hl
  refine lv_aload_n hx hb dX0_is_0 rfl (lv_at hl 0 rfl) ?_
  refine va_get (D := D) (ci := 1) (v := .ref (h 5)) (C := RX0) (T := TX0) (N := 10) hx hb hts kX0_is_inX0 hown hK hP 0 rfl rfl 4 (by decide) (hts _ kX0_is_f24) (fun _ h9 => h9) rfl dX0_is_1 ?_
  refine lv_iload_n hx hb dX0_is_4 rfl (lv_at hl 1 rfl) ?_
  refine z_iald (k := i) (v := C 4 i) hx hb hK hP 5 rfl (by decide) (by omega) (rfl) dX0_is_5 ?_
  refine lv_iload_n hx hb dX0_is_6 rfl (lv_at hl 2 rfl) ?_
  refine lv_icmp_ne (x := C 4 i) (y := st) (tgt := 24) hx hb dX0_is_7 (by decide) (fun c7 => ?_) (fun c7 => ?_)
  · skip
    refine lv_iconst (v := 0) hx hb dX0_is_24 (by decide) ?_
    exact z_zret hx hb hr hlocks hS hP rfl (Or.inl rfl) dX0_is_25 (⟨by simp [isB, bI, c7], rfl⟩)
  · skip
    refine lv_aload_n hx hb dX0_is_10 rfl (lv_at hl 0 rfl) ?_
    refine va_get (D := D) (ci := 1) (v := .ref (h 6)) (C := RX0) (T := TX0) (N := 10) hx hb hts kX0_is_inX0 hown hK hP 0 rfl rfl 5 (by decide) (hts _ kX0_is_f27) (fun _ h9 => h9) rfl dX0_is_11 ?_
    refine lv_iload_n hx hb dX0_is_14 rfl (lv_at hl 1 rfl) ?_
    refine z_iald (k := i) (v := C 5 i) hx hb hK hP 6 rfl (by decide) (by omega) (rfl) dX0_is_15 ?_
    refine lv_iload_n hx hb dX0_is_16 rfl (lv_at hl 3 rfl) ?_
    refine lv_icmp_ne (x := C 5 i) (y := lf) (tgt := 24) hx hb dX0_is_17 (by decide) (fun c17 => ?_) (fun c17 => ?_)
    · skip
      refine lv_iconst (v := 0) hx hb dX0_is_24 (by decide) ?_
      exact z_zret hx hb hr hlocks hS hP rfl (Or.inl rfl) dX0_is_25 (⟨by simp [isB, bI, c7, c17], rfl⟩)
    · skip
      refine lv_iconst (v := 1) hx hb dX0_is_20 (by decide) ?_
      refine lv_goto (tgt := 25) hx hb dX0_is_21 (by decide) ?_
      exact z_zret hx hb hr hlocks hS hP rfl (Or.inr rfl) dX0_is_25 (⟨by simp [isB, bI, c7, c17], rfl⟩)

theorem kX0_getsOut_inX0 : ∀ w ∈ wsX00, w ∈ wsX0_getsOut := by decide +kernel
theorem kX0_getsOut_f15 : Cond.fieldLink RX0 15 "LiftRows2$Calls" "to" "[I" ∈ wsX0_getsOut := by decide +kernel
set_option maxHeartbeats 4000000 in
set_option maxRecDepth 100000 in
theorem tX0_getsOut (l : Launch) (D : va_G) (cI cZ cJ : ClassId) (h : Nat → Nat) (n : Nat) (C : Nat → Nat → Int32) (i : Nat) (lf hv : Int32) (hi : i < 24) : ∀ sz : Nat, zMi l yX0_getsOut wsX0_getsOut ({ frames := 1, cells := 0, slots := 0, locals := 23 } : Room) D cI cZ cJ (wC cI h n C) sz [.ref (h 0), .int (nI i), .int lf, .int hv] (fun r w' => r = bI (outB C i lf hv) ∧ w' = wC cI h n C) := by
  intro sz
  refine z_head (y := yX0_getsOut) (av := [.ref (h 0), .int (nI i), .int lf, .int hv]) (w := (wC cI h n C)) (Qc := fun A => zQi D (wC cI h n C) (fun r w' => r = bI (outB C i lf hv) ∧ w' = wC cI h n C) A) (cc := cX0_getsOut) (maxL := 4) (ret := (some .boolean)) (by decide) rfl (Nat.le_of_ble_eq_true rfl) ?_
  intro p e s m below meth c ls A hat hP hD hS hl
  obtain ⟨hx, hb, hr, hml, hlocks, hts, hown, hin, hK, hE, hA⟩ := hat
  have hP : va_P D vwCl (wC cI h n C) s.heap := hP
  have hD : va_D A (wC cI h n C) := hD
  have hl : lv_has ls 4 [(0, .ref (h 0)), (1, .int (nI i)), (2, .int lf), (3, .int hv)] := hl
  refine lv_aload_n hx hb dX0_getsOut_0 rfl (lv_at hl 0 rfl) ?_
  refine lv_iload_n hx hb dX0_getsOut_1 rfl (lv_at hl 1 rfl) ?_
  refine lv_iconst (v := 1) hx hb dX0_getsOut_2 (by decide) ?_
  refine lv_iload_n hx hb dX0_getsOut_3 rfl (lv_at hl 2 rfl) ?_
  refine z_backiA (z_runVA (n := 3) (As := [.int (nI i), .int 1, .int lf]) (ci := 1) (rest := []) hx hb hml hown hts hK hE hP hD (tX0_is l D cI cZ cJ h n C i 1 lf (by omega) _) gX0_getsOut_X0_is rfl rfl rfl (by decide +kernel) ⟨Nat.le_of_ble_eq_true rfl, Nat.le_of_ble_eq_true rfl⟩ rfl rfl rfl hl.1 rfl (Nat.le_of_ble_eq_true rfl) dX0_getsOut_4 ⟨Nat.zero_le _, Nat.zero_le _⟩) hD hS hA (fun r1 w1 H locs hp1 hP hD hS => ?_)
  obtain ⟨rfl, rfl⟩ := hp1
  have hP : va_P D vwCl (wC cI h n C) H := hP
  have hD : va_D A (wC cI h n C) := hD
  refine zb_eq (b := (isB C i 1 lf)) (tgt := 24) hx hb dX0_getsOut_7 (by decide) (fun c7 => ?_) (fun c7 => ?_)
  · skip
    refine lv_iconst (v := 0) hx hb dX0_getsOut_24 (by decide) ?_
    exact z_zret hx hb hr hlocks hS hP rfl (Or.inl rfl) dX0_getsOut_25 (⟨by simp [outB, bI, c7], rfl⟩)
  · skip
    refine lv_aload_n hx hb dX0_getsOut_10 rfl (lv_at hl 0 rfl) ?_
    refine va_get (D := D) (ci := 1) (v := .ref (h 2)) (C := RX0) (T := TX0) (N := 10) hx hb hts kX0_getsOut_inX0 hown hK hP 0 rfl rfl 1 (by decide) (hts _ kX0_getsOut_f15) (fun _ h9 => h9) rfl dX0_getsOut_11 ?_
    refine lv_iload_n hx hb dX0_getsOut_14 rfl (lv_at hl 1 rfl) ?_
    refine z_iald (k := i) (v := C 1 i) hx hb hK hP 2 rfl (by decide) (by omega) (rfl) dX0_getsOut_15 ?_
    refine lv_iload_n hx hb dX0_getsOut_16 rfl (lv_at hl 3 rfl) ?_
    refine lv_icmp_ne (x := C 1 i) (y := hv) (tgt := 24) hx hb dX0_getsOut_17 (by decide) (fun c17 => ?_) (fun c17 => ?_)
    · skip
      refine lv_iconst (v := 0) hx hb dX0_getsOut_24 (by decide) ?_
      exact z_zret hx hb hr hlocks hS hP rfl (Or.inl rfl) dX0_getsOut_25 (⟨by simp [outB, bI, c7, c17], rfl⟩)
    · skip
      refine lv_iconst (v := 1) hx hb dX0_getsOut_20 (by decide) ?_
      refine lv_goto (tgt := 25) hx hb dX0_getsOut_21 (by decide) ?_
      exact z_zret hx hb hr hlocks hS hP rfl (Or.inr rfl) dX0_getsOut_25 (⟨by simp [outB, bI, c7, c17], rfl⟩)

theorem kX0_fitsIn_inX0 : ∀ w ∈ wsX00, w ∈ wsX0_fitsIn := by decide +kernel
theorem kX0_fitsIn_f9 : Cond.fieldLink RX0 9 "LiftRows2$Calls" "from" "[I" ∈ wsX0_fitsIn := by decide +kernel
theorem kX0_fitsIn_f21 : Cond.fieldLink RX0 21 "LiftRows2$Calls" "load" "[I" ∈ wsX0_fitsIn := by decide +kernel
set_option maxHeartbeats 4000000 in
set_option maxRecDepth 100000 in
theorem tX0_fitsIn (l : Launch) (D : va_G) (cI cZ cJ : ClassId) (h : Nat → Nat) (n : Nat) (C : Nat → Nat → Int32) (i : Nat) (lf hv rr : Int32) (hi : i < 24) : ∀ sz : Nat, zMi l yX0_fitsIn wsX0_fitsIn ({ frames := 1, cells := 0, slots := 0, locals := 23 } : Room) D cI cZ cJ (wC cI h n C) sz [.ref (h 0), .int (nI i), .int lf, .int hv, .int rr] (fun r w' => r = bI (fitB C i lf hv rr) ∧ w' = wC cI h n C) := by
  intro sz
  refine z_head (y := yX0_fitsIn) (av := [.ref (h 0), .int (nI i), .int lf, .int hv, .int rr]) (w := (wC cI h n C)) (Qc := fun A => zQi D (wC cI h n C) (fun r w' => r = bI (fitB C i lf hv rr) ∧ w' = wC cI h n C) A) (cc := cX0_fitsIn) (maxL := 5) (ret := (some .boolean)) (by decide) rfl (Nat.le_of_ble_eq_true rfl) ?_
  intro p e s m below meth c ls A hat hP hD hS hl
  obtain ⟨hx, hb, hr, hml, hlocks, hts, hown, hin, hK, hE, hA⟩ := hat
  have hP : va_P D vwCl (wC cI h n C) s.heap := hP
  have hD : va_D A (wC cI h n C) := hD
  have hl : lv_has ls 5 [(0, .ref (h 0)), (1, .int (nI i)), (2, .int lf), (3, .int hv), (4, .int rr)] := hl
  refine lv_aload_n hx hb dX0_fitsIn_0 rfl (lv_at hl 0 rfl) ?_
  refine lv_iload_n hx hb dX0_fitsIn_1 rfl (lv_at hl 1 rfl) ?_
  refine lv_iconst (v := 0) hx hb dX0_fitsIn_2 (by decide) ?_
  refine lv_iload_n hx hb dX0_fitsIn_3 rfl (lv_at hl 2 rfl) ?_
  refine z_backiA (z_runVA (n := 3) (As := [.int (nI i), .int 0, .int lf]) (ci := 1) (rest := []) hx hb hml hown hts hK hE hP hD (tX0_is l D cI cZ cJ h n C i 0 lf (by omega) _) gX0_fitsIn_X0_is rfl rfl rfl (by decide +kernel) ⟨Nat.le_of_ble_eq_true rfl, Nat.le_of_ble_eq_true rfl⟩ rfl rfl rfl hl.1 rfl (Nat.le_of_ble_eq_true rfl) dX0_fitsIn_4 ⟨Nat.zero_le _, Nat.zero_le _⟩) hD hS hA (fun r1 w1 H locs hp1 hP hD hS => ?_)
  obtain ⟨rfl, rfl⟩ := hp1
  have hP : va_P D vwCl (wC cI h n C) H := hP
  have hD : va_D A (wC cI h n C) := hD
  refine zb_eq (b := (isB C i 0 lf)) (tgt := 35) hx hb dX0_fitsIn_7 (by decide) (fun c7 => ?_) (fun c7 => ?_)
  · skip
    refine lv_iconst (v := 0) hx hb dX0_fitsIn_35 (by decide) ?_
    exact z_zret hx hb hr hlocks hS hP rfl (Or.inl rfl) dX0_fitsIn_36 (⟨by simp [fitB, bI, c7], rfl⟩)
  · skip
    refine lv_aload_n hx hb dX0_fitsIn_10 rfl (lv_at hl 0 rfl) ?_
    refine va_get (D := D) (ci := 1) (v := .ref (h 1)) (C := RX0) (T := TX0) (N := 10) hx hb hts kX0_fitsIn_inX0 hown hK hP 0 rfl rfl 0 (by decide) (hts _ kX0_fitsIn_f9) (fun _ h9 => h9) rfl dX0_fitsIn_11 ?_
    refine lv_iload_n hx hb dX0_fitsIn_14 rfl (lv_at hl 1 rfl) ?_
    refine z_iald (k := i) (v := C 0 i) hx hb hK hP 1 rfl (by decide) (by omega) (rfl) dX0_fitsIn_15 ?_
    refine lv_iload_n hx hb dX0_fitsIn_16 rfl (lv_at hl 3 rfl) ?_
    refine lv_icmp_ne (x := C 0 i) (y := hv) (tgt := 35) hx hb dX0_fitsIn_17 (by decide) (fun c17 => ?_) (fun c17 => ?_)
    · skip
      refine lv_iconst (v := 0) hx hb dX0_fitsIn_35 (by decide) ?_
      exact z_zret hx hb hr hlocks hS hP rfl (Or.inl rfl) dX0_fitsIn_36 (⟨by simp [fitB, bI, c7, c17], rfl⟩)
    · skip
      refine lv_aload_n hx hb dX0_fitsIn_20 rfl (lv_at hl 0 rfl) ?_
      refine va_get (D := D) (ci := 1) (v := .ref (h 4)) (C := RX0) (T := TX0) (N := 10) hx hb hts kX0_fitsIn_inX0 hown hK hP 0 rfl rfl 3 (by decide) (hts _ kX0_fitsIn_f21) (fun _ h9 => h9) rfl dX0_fitsIn_21 ?_
      refine lv_iload_n hx hb dX0_fitsIn_24 rfl (lv_at hl 1 rfl) ?_
      refine z_iald (k := i) (v := C 3 i) hx hb hK hP 4 rfl (by decide) (by omega) (rfl) dX0_fitsIn_25 ?_
      refine lv_iload hx hb dX0_fitsIn_26 (lv_at hl 4 rfl) ?_
      refine lv_icmp_gt (x := C 3 i) (y := rr) (tgt := 35) hx hb dX0_fitsIn_28 (by decide) (fun c28 => ?_) (fun c28 => ?_)
      · skip
        refine lv_iconst (v := 0) hx hb dX0_fitsIn_35 (by decide) ?_
        exact z_zret hx hb hr hlocks hS hP rfl (Or.inl rfl) dX0_fitsIn_36 (⟨by simp [fitB, bI, c7, c17, c28], rfl⟩)
      · skip
        refine lv_iconst (v := 1) hx hb dX0_fitsIn_31 (by decide) ?_
        refine lv_goto (tgt := 36) hx hb dX0_fitsIn_32 (by decide) ?_
        exact z_zret hx hb hr hlocks hS hP rfl (Or.inr rfl) dX0_fitsIn_36 (⟨by simp [fitB, bI, c7, c17, c28], rfl⟩)

theorem kX0_setOf_inX0 : ∀ w ∈ wsX00, w ∈ wsX0_setOf := by decide +kernel
theorem kX0_setOf_f39 : Cond.fieldLink RX0 39 "LiftRows2$Calls" "size" "I" ∈ wsX0_setOf := by decide +kernel
set_option maxHeartbeats 4000000 in
set_option maxRecDepth 100000 in
theorem tX0_setOf (l : Launch) (D : va_G) (cI cZ cJ : ClassId) (h : Nat → Nat) (n : Nat) (C : Nat → Nat → Int32) (st lf : Int32) (hn : n ≤ 24) : ∀ sz : Nat, zMi l yX0_setOf wsX0_setOf ({ frames := 1, cells := 0, slots := 0, locals := 23 } : Room) D cI cZ cJ (wC cI h n C) sz [.ref (h 0), .int st, .int lf] (fun r w' => r = setG (fun k => isB C k st lf) nI n ∧ w' = wC cI h n C) := by
  intro sz
  refine z_head (y := yX0_setOf) (av := [.ref (h 0), .int st, .int lf]) (w := (wC cI h n C)) (Qc := fun A => zQi D (wC cI h n C) (fun r w' => r = setG (fun k => isB C k st lf) nI n ∧ w' = wC cI h n C) A) (cc := cX0_setOf) (maxL := 5) (ret := (some .int)) (by decide) rfl (Nat.le_of_ble_eq_true rfl) ?_
  intro p e s m below meth c ls A hat hP hD hS hl
  obtain ⟨hx, hb, hr, hml, hlocks, hts, hown, hin, hK, hE, hA⟩ := hat
  have hP : va_P D vwCl (wC cI h n C) s.heap := hP
  have hD : va_D A (wC cI h n C) := hD
  have hl : lv_has ls 5 [(0, .ref (h 0)), (1, .int st), (2, .int lf)] := hl
  have L5 : ∀ (fu : Nat) (i : Nat) (x : Int32), i ≤ n → n + 1 ≤ i + fu → (x = setG (fun k => isB C k st lf) nI i) → ∀ (H : Heap) (locs : List Loc) (ls : Array Slot), lv_has ls 5 [(0, .ref (h 0)), (1, .int st), (2, .int lf), (3, .int x), (4, .int (nI i))] → va_P D vwCl (wC cI h n C) H → va_D A (wC cI h n C) → va_S A s.heap H locs → W p l e ({ frames := 1, cells := 0, slots := 0, locals := 23 } : Room) s m ([.ref (h 0), .int st, .int lf] : List Value).toArray below meth c H locs 0 0 (MQ below (zQi D (wC cI h n C) (fun r w' => r = setG (fun k => isB C k st lf) nI n ∧ w' = wC cI h n C) A) ([.ref (h 0), .int st, .int lf] : List Value).toArray s 0 0 A) (F0 m 5 ls []) := by
    intro fu
    induction fu with
    | zero =>
      intro i x h1 h2
      exact absurd h2 (by omega)
    | succ fu ih5 =>
      intro i x hle hfu ex H locs ls hl hP hD hS
      refine lv_iload hx hb dX0_setOf_5 (lv_at hl 4 rfl) ?_
      refine lv_aload_n hx hb dX0_setOf_7 rfl (lv_at hl 0 rfl) ?_
      refine va_get (D := D) (ci := 1) (v := .int (nI n)) (C := RX0) (T := TX0) (N := 10) hx hb hts kX0_setOf_inX0 hown hK hP 0 rfl rfl 9 (by decide) (hts _ kX0_setOf_f39) (fun _ h9 => h9) rfl dX0_setOf_8 ?_
      refine zn_ge (i := i) (j := n) (tgt := 38) hx hb (by omega) (by omega) dX0_setOf_11 (by decide) (fun c11 => ?_) (fun c11 => ?_)
      · skip
        refine lv_iload_n hx hb dX0_setOf_38 rfl (lv_at hl 3 rfl) ?_
        exact z_iret hx hb hr hlocks hS hP rfl dX0_setOf_39 (⟨by rw [ex, show i = n by omega], rfl⟩)
      · skip
        refine lv_aload_n hx hb dX0_setOf_14 rfl (lv_at hl 0 rfl) ?_
        refine lv_iload hx hb dX0_setOf_15 (lv_at hl 4 rfl) ?_
        refine lv_iload_n hx hb dX0_setOf_17 rfl (lv_at hl 1 rfl) ?_
        refine lv_iload_n hx hb dX0_setOf_18 rfl (lv_at hl 2 rfl) ?_
        refine z_backiA (z_runVA (n := 3) (As := [.int (nI i), .int st, .int lf]) (ci := 1) (rest := []) hx hb hml hown hts hK hE hP hD (tX0_is l D cI cZ cJ h n C i st lf (by omega) _) gX0_setOf_X0_is rfl rfl rfl (by decide +kernel) ⟨Nat.le_of_ble_eq_true rfl, Nat.le_of_ble_eq_true rfl⟩ rfl rfl rfl hl.1 rfl (Nat.le_of_ble_eq_true rfl) dX0_setOf_19 ⟨Nat.zero_le _, Nat.zero_le _⟩) hD hS hA (fun r1 w1 H locs hp1 hP hD hS => ?_)
        obtain ⟨rfl, rfl⟩ := hp1
        have hP : va_P D vwCl (wC cI h n C) H := hP
        have hD : va_D A (wC cI h n C) := hD
        refine zb_eq (b := (isB C i st lf)) (tgt := 32) hx hb dX0_setOf_22 (by decide) (fun c22 => ?_) (fun c22 => ?_)
        · skip
          refine lv_iinc (v := nI (i + 1)) (lv' := [(4, .int (nI (i + 1))), (0, .ref (h 0)), (1, .int st), (2, .int lf), (3, .int x)]) hx hb dX0_setOf_32 hl (k := 4) rfl (by rw [show Int32.ofInt 1 = nI 1 from rfl, nI_add]) (by decide) rfl (fun ls hl => ?_)
          refine lv_goto (tgt := 5) hx hb dX0_setOf_35 (by decide) ?_
          exact ih5 (i + 1) x (by omega) (by omega) (ex.trans (setG_f c22).symm) H locs ls (lv_sub hl [1, 2, 3, 4, 0] rfl) hP hD hS
        · skip
          refine lv_iload_n hx hb dX0_setOf_25 rfl (lv_at hl 3 rfl) ?_
          refine lv_iconst (v := 1) hx hb dX0_setOf_26 (by decide) ?_
          refine lv_iload hx hb dX0_setOf_27 (lv_at hl 4 rfl) ?_
          refine lv_ishl hx hb dX0_setOf_29 ?_
          refine lv_ior (x := x) (y := 1 <<< ((nI i) &&& 31)) hx hb dX0_setOf_30 ?_
          refine lv_istore_n (lv' := [(3, .int (x ||| (1 <<< ((nI i) &&& 31)))), (0, .ref (h 0)), (1, .int st), (2, .int lf), (4, .int (nI i))]) hx hb dX0_setOf_31 rfl hl (by decide) rfl (fun ls hl => ?_)
          refine lv_iinc (v := nI (i + 1)) (lv' := [(4, .int (nI (i + 1))), (3, .int (x ||| (1 <<< ((nI i) &&& 31)))), (0, .ref (h 0)), (1, .int st), (2, .int lf)]) hx hb dX0_setOf_32 hl (k := 4) rfl (by rw [show Int32.ofInt 1 = nI 1 from rfl, nI_add]) (by decide) rfl (fun ls hl => ?_)
          refine lv_goto (tgt := 5) hx hb dX0_setOf_35 (by decide) ?_
          exact ih5 (i + 1) (x ||| (1 <<< ((nI i) &&& 31))) (by omega) (by omega) (by rw [ex]; exact (setG_t c22).symm) H locs ls (lv_sub hl [2, 3, 4, 1, 0] rfl) hP hD hS
  refine lv_iconst (v := 0) hx hb dX0_setOf_0 (by decide) ?_
  refine lv_istore_n (lv' := [(3, .int 0), (0, .ref (h 0)), (1, .int st), (2, .int lf)]) hx hb dX0_setOf_1 rfl hl (by decide) rfl (fun ls hl => ?_)
  refine lv_iconst (v := 0) hx hb dX0_setOf_2 (by decide) ?_
  refine lv_istore (lv' := [(4, .int 0), (3, .int 0), (0, .ref (h 0)), (1, .int st), (2, .int lf)]) hx hb dX0_setOf_3 hl (by decide) rfl (fun ls hl => ?_)
  exact L5 (n + 1) 0 0 (by omega) (by omega) (rfl) s.heap [] ls (lv_sub hl [2, 3, 4, 1, 0] rfl) hP hD hS

theorem kX0_setFrom_inX0 : ∀ w ∈ wsX00, w ∈ wsX0_setFrom := by decide +kernel
theorem kX0_setFrom_f39 : Cond.fieldLink RX0 39 "LiftRows2$Calls" "size" "I" ∈ wsX0_setFrom := by decide +kernel
theorem kX0_setFrom_f9 : Cond.fieldLink RX0 9 "LiftRows2$Calls" "from" "[I" ∈ wsX0_setFrom := by decide +kernel
set_option maxHeartbeats 4000000 in
set_option maxRecDepth 100000 in
theorem tX0_setFrom (l : Launch) (D : va_G) (cI cZ cJ : ClassId) (h : Nat → Nat) (n : Nat) (C : Nat → Nat → Int32) (hv : Int32) (hn : n ≤ 24) : ∀ sz : Nat, zMi l yX0_setFrom wsX0_setFrom ({ frames := 0, cells := 0, slots := 0, locals := 0 } : Room) D cI cZ cJ (wC cI h n C) sz [.ref (h 0), .int hv] (fun r w' => r = setG (fun k => decide (C 0 k = hv)) nI n ∧ w' = wC cI h n C) := by
  intro sz
  refine z_head (y := yX0_setFrom) (av := [.ref (h 0), .int hv]) (w := (wC cI h n C)) (Qc := fun A => zQi D (wC cI h n C) (fun r w' => r = setG (fun k => decide (C 0 k = hv)) nI n ∧ w' = wC cI h n C) A) (cc := cX0_setFrom) (maxL := 4) (ret := (some .int)) (by decide) rfl (Nat.le_of_ble_eq_true rfl) ?_
  intro p e s m below meth c ls A hat hP hD hS hl
  obtain ⟨hx, hb, hr, hml, hlocks, hts, hown, hin, hK, hE, hA⟩ := hat
  have hP : va_P D vwCl (wC cI h n C) s.heap := hP
  have hD : va_D A (wC cI h n C) := hD
  have hl : lv_has ls 4 [(0, .ref (h 0)), (1, .int hv)] := hl
  have L4 : ∀ (fu : Nat) (i : Nat) (x : Int32), i ≤ n → n + 1 ≤ i + fu → (x = setG (fun k => decide (C 0 k = hv)) nI i) → ∀ (H : Heap) (locs : List Loc) (ls : Array Slot), lv_has ls 4 [(0, .ref (h 0)), (1, .int hv), (2, .int x), (3, .int (nI i))] → va_P D vwCl (wC cI h n C) H → va_D A (wC cI h n C) → va_S A s.heap H locs → W p l e ({ frames := 0, cells := 0, slots := 0, locals := 0 } : Room) s m ([.ref (h 0), .int hv] : List Value).toArray below meth c H locs 0 0 (MQ below (zQi D (wC cI h n C) (fun r w' => r = setG (fun k => decide (C 0 k = hv)) nI n ∧ w' = wC cI h n C) A) ([.ref (h 0), .int hv] : List Value).toArray s 0 0 A) (F0 m 4 ls []) := by
    intro fu
    induction fu with
    | zero =>
      intro i x h1 h2
      exact absurd h2 (by omega)
    | succ fu ih4 =>
      intro i x hle hfu ex H locs ls hl hP hD hS
      refine lv_iload_n hx hb dX0_setFrom_4 rfl (lv_at hl 3 rfl) ?_
      refine lv_aload_n hx hb dX0_setFrom_5 rfl (lv_at hl 0 rfl) ?_
      refine va_get (D := D) (ci := 1) (v := .int (nI n)) (C := RX0) (T := TX0) (N := 10) hx hb hts kX0_setFrom_inX0 hown hK hP 0 rfl rfl 9 (by decide) (hts _ kX0_setFrom_f39) (fun _ h9 => h9) rfl dX0_setFrom_6 ?_
      refine zn_ge (i := i) (j := n) (tgt := 34) hx hb (by omega) (by omega) dX0_setFrom_9 (by decide) (fun c9 => ?_) (fun c9 => ?_)
      · skip
        refine lv_iload_n hx hb dX0_setFrom_34 rfl (lv_at hl 2 rfl) ?_
        exact z_iret hx hb hr hlocks hS hP rfl dX0_setFrom_35 (⟨by rw [ex, show i = n by omega], rfl⟩)
      · skip
        refine lv_aload_n hx hb dX0_setFrom_12 rfl (lv_at hl 0 rfl) ?_
        refine va_get (D := D) (ci := 1) (v := .ref (h 1)) (C := RX0) (T := TX0) (N := 10) hx hb hts kX0_setFrom_inX0 hown hK hP 0 rfl rfl 0 (by decide) (hts _ kX0_setFrom_f9) (fun _ h9 => h9) rfl dX0_setFrom_13 ?_
        refine lv_iload_n hx hb dX0_setFrom_16 rfl (lv_at hl 3 rfl) ?_
        refine z_iald (k := i) (v := C 0 i) hx hb hK hP 1 rfl (by decide) (by omega) (rfl) dX0_setFrom_17 ?_
        refine lv_iload_n hx hb dX0_setFrom_18 rfl (lv_at hl 1 rfl) ?_
        refine lv_icmp_ne (x := C 0 i) (y := hv) (tgt := 28) hx hb dX0_setFrom_19 (by decide) (fun c19 => ?_) (fun c19 => ?_)
        · skip
          refine lv_iinc (v := nI (i + 1)) (lv' := [(3, .int (nI (i + 1))), (0, .ref (h 0)), (1, .int hv), (2, .int x)]) hx hb dX0_setFrom_28 hl (k := 3) rfl (by rw [show Int32.ofInt 1 = nI 1 from rfl, nI_add]) (by decide) rfl (fun ls hl => ?_)
          refine lv_goto (tgt := 4) hx hb dX0_setFrom_31 (by decide) ?_
          exact ih4 (i + 1) x (by omega) (by omega) (ex.trans (setG_f (decide_eq_false c19)).symm) H locs ls (lv_sub hl [1, 2, 3, 0] rfl) hP hD hS
        · skip
          refine lv_iload_n hx hb dX0_setFrom_22 rfl (lv_at hl 2 rfl) ?_
          refine lv_iconst (v := 1) hx hb dX0_setFrom_23 (by decide) ?_
          refine lv_iload_n hx hb dX0_setFrom_24 rfl (lv_at hl 3 rfl) ?_
          refine lv_ishl hx hb dX0_setFrom_25 ?_
          refine lv_ior (x := x) (y := 1 <<< ((nI i) &&& 31)) hx hb dX0_setFrom_26 ?_
          refine lv_istore_n (lv' := [(2, .int (x ||| (1 <<< ((nI i) &&& 31)))), (0, .ref (h 0)), (1, .int hv), (3, .int (nI i))]) hx hb dX0_setFrom_27 rfl hl (by decide) rfl (fun ls hl => ?_)
          refine lv_iinc (v := nI (i + 1)) (lv' := [(3, .int (nI (i + 1))), (2, .int (x ||| (1 <<< ((nI i) &&& 31)))), (0, .ref (h 0)), (1, .int hv)]) hx hb dX0_setFrom_28 hl (k := 3) rfl (by rw [show Int32.ofInt 1 = nI 1 from rfl, nI_add]) (by decide) rfl (fun ls hl => ?_)
          refine lv_goto (tgt := 4) hx hb dX0_setFrom_31 (by decide) ?_
          exact ih4 (i + 1) (x ||| (1 <<< ((nI i) &&& 31))) (by omega) (by omega) (by rw [ex]; exact (setG_t (decide_eq_true c19)).symm) H locs ls (lv_sub hl [2, 3, 1, 0] rfl) hP hD hS
  refine lv_iconst (v := 0) hx hb dX0_setFrom_0 (by decide) ?_
  refine lv_istore_n (lv' := [(2, .int 0), (0, .ref (h 0)), (1, .int hv)]) hx hb dX0_setFrom_1 rfl hl (by decide) rfl (fun ls hl => ?_)
  refine lv_iconst (v := 0) hx hb dX0_setFrom_2 (by decide) ?_
  refine lv_istore_n (lv' := [(3, .int 0), (2, .int 0), (0, .ref (h 0)), (1, .int hv)]) hx hb dX0_setFrom_3 rfl hl (by decide) rfl (fun ls hl => ?_)
  exact L4 (n + 1) 0 0 (by omega) (by omega) (rfl) s.heap [] ls (lv_sub hl [2, 3, 1, 0] rfl) hP hD hS

theorem kX0_setTo_inX0 : ∀ w ∈ wsX00, w ∈ wsX0_setTo := by decide +kernel
theorem kX0_setTo_f39 : Cond.fieldLink RX0 39 "LiftRows2$Calls" "size" "I" ∈ wsX0_setTo := by decide +kernel
theorem kX0_setTo_f15 : Cond.fieldLink RX0 15 "LiftRows2$Calls" "to" "[I" ∈ wsX0_setTo := by decide +kernel
set_option maxHeartbeats 4000000 in
set_option maxRecDepth 100000 in
theorem tX0_setTo (l : Launch) (D : va_G) (cI cZ cJ : ClassId) (h : Nat → Nat) (n : Nat) (C : Nat → Nat → Int32) (hv : Int32) (hn : n ≤ 24) : ∀ sz : Nat, zMi l yX0_setTo wsX0_setTo ({ frames := 0, cells := 0, slots := 0, locals := 0 } : Room) D cI cZ cJ (wC cI h n C) sz [.ref (h 0), .int hv] (fun r w' => r = setG (fun k => decide (C 1 k = hv)) nI n ∧ w' = wC cI h n C) := by
  intro sz
  refine z_head (y := yX0_setTo) (av := [.ref (h 0), .int hv]) (w := (wC cI h n C)) (Qc := fun A => zQi D (wC cI h n C) (fun r w' => r = setG (fun k => decide (C 1 k = hv)) nI n ∧ w' = wC cI h n C) A) (cc := cX0_setTo) (maxL := 4) (ret := (some .int)) (by decide) rfl (Nat.le_of_ble_eq_true rfl) ?_
  intro p e s m below meth c ls A hat hP hD hS hl
  obtain ⟨hx, hb, hr, hml, hlocks, hts, hown, hin, hK, hE, hA⟩ := hat
  have hP : va_P D vwCl (wC cI h n C) s.heap := hP
  have hD : va_D A (wC cI h n C) := hD
  have hl : lv_has ls 4 [(0, .ref (h 0)), (1, .int hv)] := hl
  have L4 : ∀ (fu : Nat) (i : Nat) (x : Int32), i ≤ n → n + 1 ≤ i + fu → (x = setG (fun k => decide (C 1 k = hv)) nI i) → ∀ (H : Heap) (locs : List Loc) (ls : Array Slot), lv_has ls 4 [(0, .ref (h 0)), (1, .int hv), (2, .int x), (3, .int (nI i))] → va_P D vwCl (wC cI h n C) H → va_D A (wC cI h n C) → va_S A s.heap H locs → W p l e ({ frames := 0, cells := 0, slots := 0, locals := 0 } : Room) s m ([.ref (h 0), .int hv] : List Value).toArray below meth c H locs 0 0 (MQ below (zQi D (wC cI h n C) (fun r w' => r = setG (fun k => decide (C 1 k = hv)) nI n ∧ w' = wC cI h n C) A) ([.ref (h 0), .int hv] : List Value).toArray s 0 0 A) (F0 m 4 ls []) := by
    intro fu
    induction fu with
    | zero =>
      intro i x h1 h2
      exact absurd h2 (by omega)
    | succ fu ih4 =>
      intro i x hle hfu ex H locs ls hl hP hD hS
      refine lv_iload_n hx hb dX0_setTo_4 rfl (lv_at hl 3 rfl) ?_
      refine lv_aload_n hx hb dX0_setTo_5 rfl (lv_at hl 0 rfl) ?_
      refine va_get (D := D) (ci := 1) (v := .int (nI n)) (C := RX0) (T := TX0) (N := 10) hx hb hts kX0_setTo_inX0 hown hK hP 0 rfl rfl 9 (by decide) (hts _ kX0_setTo_f39) (fun _ h9 => h9) rfl dX0_setTo_6 ?_
      refine zn_ge (i := i) (j := n) (tgt := 34) hx hb (by omega) (by omega) dX0_setTo_9 (by decide) (fun c9 => ?_) (fun c9 => ?_)
      · skip
        refine lv_iload_n hx hb dX0_setTo_34 rfl (lv_at hl 2 rfl) ?_
        exact z_iret hx hb hr hlocks hS hP rfl dX0_setTo_35 (⟨by rw [ex, show i = n by omega], rfl⟩)
      · skip
        refine lv_aload_n hx hb dX0_setTo_12 rfl (lv_at hl 0 rfl) ?_
        refine va_get (D := D) (ci := 1) (v := .ref (h 2)) (C := RX0) (T := TX0) (N := 10) hx hb hts kX0_setTo_inX0 hown hK hP 0 rfl rfl 1 (by decide) (hts _ kX0_setTo_f15) (fun _ h9 => h9) rfl dX0_setTo_13 ?_
        refine lv_iload_n hx hb dX0_setTo_16 rfl (lv_at hl 3 rfl) ?_
        refine z_iald (k := i) (v := C 1 i) hx hb hK hP 2 rfl (by decide) (by omega) (rfl) dX0_setTo_17 ?_
        refine lv_iload_n hx hb dX0_setTo_18 rfl (lv_at hl 1 rfl) ?_
        refine lv_icmp_ne (x := C 1 i) (y := hv) (tgt := 28) hx hb dX0_setTo_19 (by decide) (fun c19 => ?_) (fun c19 => ?_)
        · skip
          refine lv_iinc (v := nI (i + 1)) (lv' := [(3, .int (nI (i + 1))), (0, .ref (h 0)), (1, .int hv), (2, .int x)]) hx hb dX0_setTo_28 hl (k := 3) rfl (by rw [show Int32.ofInt 1 = nI 1 from rfl, nI_add]) (by decide) rfl (fun ls hl => ?_)
          refine lv_goto (tgt := 4) hx hb dX0_setTo_31 (by decide) ?_
          exact ih4 (i + 1) x (by omega) (by omega) (ex.trans (setG_f (decide_eq_false c19)).symm) H locs ls (lv_sub hl [1, 2, 3, 0] rfl) hP hD hS
        · skip
          refine lv_iload_n hx hb dX0_setTo_22 rfl (lv_at hl 2 rfl) ?_
          refine lv_iconst (v := 1) hx hb dX0_setTo_23 (by decide) ?_
          refine lv_iload_n hx hb dX0_setTo_24 rfl (lv_at hl 3 rfl) ?_
          refine lv_ishl hx hb dX0_setTo_25 ?_
          refine lv_ior (x := x) (y := 1 <<< ((nI i) &&& 31)) hx hb dX0_setTo_26 ?_
          refine lv_istore_n (lv' := [(2, .int (x ||| (1 <<< ((nI i) &&& 31)))), (0, .ref (h 0)), (1, .int hv), (3, .int (nI i))]) hx hb dX0_setTo_27 rfl hl (by decide) rfl (fun ls hl => ?_)
          refine lv_iinc (v := nI (i + 1)) (lv' := [(3, .int (nI (i + 1))), (2, .int (x ||| (1 <<< ((nI i) &&& 31)))), (0, .ref (h 0)), (1, .int hv)]) hx hb dX0_setTo_28 hl (k := 3) rfl (by rw [show Int32.ofInt 1 = nI 1 from rfl, nI_add]) (by decide) rfl (fun ls hl => ?_)
          refine lv_goto (tgt := 4) hx hb dX0_setTo_31 (by decide) ?_
          exact ih4 (i + 1) (x ||| (1 <<< ((nI i) &&& 31))) (by omega) (by omega) (by rw [ex]; exact (setG_t (decide_eq_true c19)).symm) H locs ls (lv_sub hl [2, 3, 1, 0] rfl) hP hD hS
  refine lv_iconst (v := 0) hx hb dX0_setTo_0 (by decide) ?_
  refine lv_istore_n (lv' := [(2, .int 0), (0, .ref (h 0)), (1, .int hv)]) hx hb dX0_setTo_1 rfl hl (by decide) rfl (fun ls hl => ?_)
  refine lv_iconst (v := 0) hx hb dX0_setTo_2 (by decide) ?_
  refine lv_istore_n (lv' := [(3, .int 0), (2, .int 0), (0, .ref (h 0)), (1, .int hv)]) hx hb dX0_setTo_3 rfl hl (by decide) rfl (fun ls hl => ?_)
  exact L4 (n + 1) 0 0 (by omega) (by omega) (rfl) s.heap [] ls (lv_sub hl [2, 3, 1, 0] rfl) hP hD hS

theorem kX0_loadStaying_inX0 : ∀ w ∈ wsX00, w ∈ wsX0_loadStaying := by decide +kernel
theorem kX0_loadStaying_f39 : Cond.fieldLink RX0 39 "LiftRows2$Calls" "size" "I" ∈ wsX0_loadStaying := by decide +kernel
theorem kX0_loadStaying_f15 : Cond.fieldLink RX0 15 "LiftRows2$Calls" "to" "[I" ∈ wsX0_loadStaying := by decide +kernel
theorem kX0_loadStaying_f21 : Cond.fieldLink RX0 21 "LiftRows2$Calls" "load" "[I" ∈ wsX0_loadStaying := by decide +kernel
set_option maxHeartbeats 4000000 in
set_option maxRecDepth 100000 in
theorem tX0_loadStaying (l : Launch) (D : va_G) (cI cZ cJ : ClassId) (h : Nat → Nat) (n : Nat) (C : Nat → Nat → Int32) (lf hv : Int32) (hn : n ≤ 24) : ∀ sz : Nat, zMi l yX0_loadStaying wsX0_loadStaying ({ frames := 1, cells := 0, slots := 0, locals := 23 } : Room) D cI cZ cJ (wC cI h n C) sz [.ref (h 0), .int lf, .int hv] (fun r w' => r = sumW (fun k => isB C k 1 lf && !decide (C 1 k = hv)) (C 3) n ∧ w' = wC cI h n C) := by
  intro sz
  refine z_head (y := yX0_loadStaying) (av := [.ref (h 0), .int lf, .int hv]) (w := (wC cI h n C)) (Qc := fun A => zQi D (wC cI h n C) (fun r w' => r = sumW (fun k => isB C k 1 lf && !decide (C 1 k = hv)) (C 3) n ∧ w' = wC cI h n C) A) (cc := cX0_loadStaying) (maxL := 5) (ret := (some .int)) (by decide) rfl (Nat.le_of_ble_eq_true rfl) ?_
  intro p e s m below meth c ls A hat hP hD hS hl
  obtain ⟨hx, hb, hr, hml, hlocks, hts, hown, hin, hK, hE, hA⟩ := hat
  have hP : va_P D vwCl (wC cI h n C) s.heap := hP
  have hD : va_D A (wC cI h n C) := hD
  have hl : lv_has ls 5 [(0, .ref (h 0)), (1, .int lf), (2, .int hv)] := hl
  have L5 : ∀ (fu : Nat) (i : Nat) (x : Int32), i ≤ n → n + 1 ≤ i + fu → (x = sumW (fun k => isB C k 1 lf && !decide (C 1 k = hv)) (C 3) i) → ∀ (H : Heap) (locs : List Loc) (ls : Array Slot), lv_has ls 5 [(0, .ref (h 0)), (1, .int lf), (2, .int hv), (3, .int x), (4, .int (nI i))] → va_P D vwCl (wC cI h n C) H → va_D A (wC cI h n C) → va_S A s.heap H locs → W p l e ({ frames := 1, cells := 0, slots := 0, locals := 23 } : Room) s m ([.ref (h 0), .int lf, .int hv] : List Value).toArray below meth c H locs 0 0 (MQ below (zQi D (wC cI h n C) (fun r w' => r = sumW (fun k => isB C k 1 lf && !decide (C 1 k = hv)) (C 3) n ∧ w' = wC cI h n C) A) ([.ref (h 0), .int lf, .int hv] : List Value).toArray s 0 0 A) (F0 m 5 ls []) := by
    intro fu
    induction fu with
    | zero =>
      intro i x h1 h2
      exact absurd h2 (by omega)
    | succ fu ih5 =>
      intro i x hle hfu ex H locs ls hl hP hD hS
      refine lv_iload hx hb dX0_loadStaying_5 (lv_at hl 4 rfl) ?_
      refine lv_aload_n hx hb dX0_loadStaying_7 rfl (lv_at hl 0 rfl) ?_
      refine va_get (D := D) (ci := 1) (v := .int (nI n)) (C := RX0) (T := TX0) (N := 10) hx hb hts kX0_loadStaying_inX0 hown hK hP 0 rfl rfl 9 (by decide) (hts _ kX0_loadStaying_f39) (fun _ h9 => h9) rfl dX0_loadStaying_8 ?_
      refine zn_ge (i := i) (j := n) (tgt := 52) hx hb (by omega) (by omega) dX0_loadStaying_11 (by decide) (fun c11 => ?_) (fun c11 => ?_)
      · skip
        refine lv_iload_n hx hb dX0_loadStaying_52 rfl (lv_at hl 3 rfl) ?_
        exact z_iret hx hb hr hlocks hS hP rfl dX0_loadStaying_53 (⟨by rw [ex, show i = n by omega], rfl⟩)
      · skip
        refine lv_aload_n hx hb dX0_loadStaying_14 rfl (lv_at hl 0 rfl) ?_
        refine lv_iload hx hb dX0_loadStaying_15 (lv_at hl 4 rfl) ?_
        refine lv_iconst (v := 1) hx hb dX0_loadStaying_17 (by decide) ?_
        refine lv_iload_n hx hb dX0_loadStaying_18 rfl (lv_at hl 1 rfl) ?_
        refine z_backiA (z_runVA (n := 3) (As := [.int (nI i), .int 1, .int lf]) (ci := 1) (rest := []) hx hb hml hown hts hK hE hP hD (tX0_is l D cI cZ cJ h n C i 1 lf (by omega) _) gX0_loadStaying_X0_is rfl rfl rfl (by decide +kernel) ⟨Nat.le_of_ble_eq_true rfl, Nat.le_of_ble_eq_true rfl⟩ rfl rfl rfl hl.1 rfl (Nat.le_of_ble_eq_true rfl) dX0_loadStaying_19 ⟨Nat.zero_le _, Nat.zero_le _⟩) hD hS hA (fun r1 w1 H locs hp1 hP hD hS => ?_)
        obtain ⟨rfl, rfl⟩ := hp1
        have hP : va_P D vwCl (wC cI h n C) H := hP
        have hD : va_D A (wC cI h n C) := hD
        refine zb_eq (b := (isB C i 1 lf)) (tgt := 46) hx hb dX0_loadStaying_22 (by decide) (fun c22 => ?_) (fun c22 => ?_)
        · skip
          refine lv_iinc (v := nI (i + 1)) (lv' := [(4, .int (nI (i + 1))), (0, .ref (h 0)), (1, .int lf), (2, .int hv), (3, .int x)]) hx hb dX0_loadStaying_46 hl (k := 4) rfl (by rw [show Int32.ofInt 1 = nI 1 from rfl, nI_add]) (by decide) rfl (fun ls hl => ?_)
          refine lv_goto (tgt := 5) hx hb dX0_loadStaying_49 (by decide) ?_
          exact ih5 (i + 1) x (by omega) (by omega) (ex.trans (sumW_f (by simp [c22])).symm) H locs ls (lv_sub hl [1, 2, 3, 4, 0] rfl) hP hD hS
        · skip
          refine lv_aload_n hx hb dX0_loadStaying_25 rfl (lv_at hl 0 rfl) ?_
          refine va_get (D := D) (ci := 1) (v := .ref (h 2)) (C := RX0) (T := TX0) (N := 10) hx hb hts kX0_loadStaying_inX0 hown hK hP 0 rfl rfl 1 (by decide) (hts _ kX0_loadStaying_f15) (fun _ h9 => h9) rfl dX0_loadStaying_26 ?_
          refine lv_iload hx hb dX0_loadStaying_29 (lv_at hl 4 rfl) ?_
          refine z_iald (k := i) (v := C 1 i) hx hb hK hP 2 rfl (by decide) (by omega) (rfl) dX0_loadStaying_31 ?_
          refine lv_iload_n hx hb dX0_loadStaying_32 rfl (lv_at hl 2 rfl) ?_
          refine lv_icmp_eq (x := C 1 i) (y := hv) (tgt := 46) hx hb dX0_loadStaying_33 (by decide) (fun c33 => ?_) (fun c33 => ?_)
          · skip
            refine lv_iinc (v := nI (i + 1)) (lv' := [(4, .int (nI (i + 1))), (0, .ref (h 0)), (1, .int lf), (2, .int hv), (3, .int x)]) hx hb dX0_loadStaying_46 hl (k := 4) rfl (by rw [show Int32.ofInt 1 = nI 1 from rfl, nI_add]) (by decide) rfl (fun ls hl => ?_)
            refine lv_goto (tgt := 5) hx hb dX0_loadStaying_49 (by decide) ?_
            exact ih5 (i + 1) x (by omega) (by omega) (ex.trans (sumW_f (by simp [c22, c33])).symm) H locs ls (lv_sub hl [1, 2, 3, 4, 0] rfl) hP hD hS
          · skip
            refine lv_iload_n hx hb dX0_loadStaying_36 rfl (lv_at hl 3 rfl) ?_
            refine lv_aload_n hx hb dX0_loadStaying_37 rfl (lv_at hl 0 rfl) ?_
            refine va_get (D := D) (ci := 1) (v := .ref (h 4)) (C := RX0) (T := TX0) (N := 10) hx hb hts kX0_loadStaying_inX0 hown hK hP 0 rfl rfl 3 (by decide) (hts _ kX0_loadStaying_f21) (fun _ h9 => h9) rfl dX0_loadStaying_38 ?_
            refine lv_iload hx hb dX0_loadStaying_41 (lv_at hl 4 rfl) ?_
            refine z_iald (k := i) (v := C 3 i) hx hb hK hP 4 rfl (by decide) (by omega) (rfl) dX0_loadStaying_43 ?_
            refine lv_iadd (x := x) (y := C 3 i) hx hb dX0_loadStaying_44 ?_
            refine lv_istore_n (lv' := [(3, .int (x + (C 3 i))), (0, .ref (h 0)), (1, .int lf), (2, .int hv), (4, .int (nI i))]) hx hb dX0_loadStaying_45 rfl hl (by decide) rfl (fun ls hl => ?_)
            refine lv_iinc (v := nI (i + 1)) (lv' := [(4, .int (nI (i + 1))), (3, .int (x + (C 3 i))), (0, .ref (h 0)), (1, .int lf), (2, .int hv)]) hx hb dX0_loadStaying_46 hl (k := 4) rfl (by rw [show Int32.ofInt 1 = nI 1 from rfl, nI_add]) (by decide) rfl (fun ls hl => ?_)
            refine lv_goto (tgt := 5) hx hb dX0_loadStaying_49 (by decide) ?_
            exact ih5 (i + 1) (x + (C 3 i)) (by omega) (by omega) (by rw [ex]; exact (sumW_t (by simp [c22, c33])).symm) H locs ls (lv_sub hl [2, 3, 4, 1, 0] rfl) hP hD hS
  refine lv_iconst (v := 0) hx hb dX0_loadStaying_0 (by decide) ?_
  refine lv_istore_n (lv' := [(3, .int 0), (0, .ref (h 0)), (1, .int lf), (2, .int hv)]) hx hb dX0_loadStaying_1 rfl hl (by decide) rfl (fun ls hl => ?_)
  refine lv_iconst (v := 0) hx hb dX0_loadStaying_2 (by decide) ?_
  refine lv_istore (lv' := [(4, .int 0), (3, .int 0), (0, .ref (h 0)), (1, .int lf), (2, .int hv)]) hx hb dX0_loadStaying_3 hl (by decide) rfl (fun ls hl => ?_)
  exact L5 (n + 1) 0 0 (by omega) (by omega) (rfl) s.heap [] ls (lv_sub hl [2, 3, 4, 1, 0] rfl) hP hD hS


set_option maxHeartbeats 4000000 in
set_option maxRecDepth 100000 in
theorem tX0_loadAboard (l : Launch) (D : va_G) (cI cZ cJ : ClassId) (h : Nat → Nat) (n : Nat) (C : Nat → Nat → Int32) (lf : Int32) (hn : n ≤ 24) : ∀ sz : Nat, zMi l yX0_loadAboard wsX0_loadAboard ({ frames := 2, cells := 0, slots := 0, locals := 47 } : Room) D cI cZ cJ (wC cI h n C) sz [.ref (h 0), .int lf] (fun r w' => r = sumW (fun k => isB C k 1 lf && !decide (C 1 k = -1)) (C 3) n ∧ w' = wC cI h n C) := by
  intro sz
  refine z_head (y := yX0_loadAboard) (av := [.ref (h 0), .int lf]) (w := (wC cI h n C)) (Qc := fun A => zQi D (wC cI h n C) (fun r w' => r = sumW (fun k => isB C k 1 lf && !decide (C 1 k = -1)) (C 3) n ∧ w' = wC cI h n C) A) (cc := cX0_loadAboard) (maxL := 2) (ret := (some .int)) (by decide) rfl (Nat.le_of_ble_eq_true rfl) ?_
  intro p e s m below meth c ls A hat hP hD hS hl
  obtain ⟨hx, hb, hr, hml, hlocks, hts, hown, hin, hK, hE, hA⟩ := hat
  have hP : va_P D vwCl (wC cI h n C) s.heap := hP
  have hD : va_D A (wC cI h n C) := hD
  have hl : lv_has ls 2 [(0, .ref (h 0)), (1, .int lf)] := hl
  refine lv_aload_n hx hb dX0_loadAboard_0 rfl (lv_at hl 0 rfl) ?_
  refine lv_iload_n hx hb dX0_loadAboard_1 rfl (lv_at hl 1 rfl) ?_
  refine lv_iconst (v := (-1)) hx hb dX0_loadAboard_2 (by decide) ?_
  refine z_backiA (z_runVA (n := 2) (As := [.int lf, .int (-1)]) (ci := 1) (rest := []) hx hb hml hown hts hK hE hP hD (tX0_loadStaying l D cI cZ cJ h n C lf (-1) (by omega) _) gX0_loadAboard_X0_loadStaying rfl rfl rfl (by decide +kernel) ⟨Nat.le_of_ble_eq_true rfl, Nat.le_of_ble_eq_true rfl⟩ rfl rfl rfl hl.1 rfl (Nat.le_of_ble_eq_true rfl) dX0_loadAboard_3 ⟨Nat.zero_le _, Nat.zero_le _⟩) hD hS hA (fun r1 w1 H locs hp1 hP hD hS => ?_)
  obtain ⟨rfl, rfl⟩ := hp1
  have hP : va_P D vwCl (wC cI h n C) H := hP
  have hD : va_D A (wC cI h n C) := hD
  exact z_iret hx hb hr hlocks hS hP rfl dX0_loadAboard_6 (⟨rfl, rfl⟩)

theorem kX0_levelsWithWaiting_inX0 : ∀ w ∈ wsX00, w ∈ wsX0_levelsWithWaiting := by decide +kernel
theorem kX0_levelsWithWaiting_f39 : Cond.fieldLink RX0 39 "LiftRows2$Calls" "size" "I" ∈ wsX0_levelsWithWaiting := by decide +kernel
theorem kX0_levelsWithWaiting_f24 : Cond.fieldLink RX0 24 "LiftRows2$Calls" "state" "[I" ∈ wsX0_levelsWithWaiting := by decide +kernel
theorem kX0_levelsWithWaiting_f9 : Cond.fieldLink RX0 9 "LiftRows2$Calls" "from" "[I" ∈ wsX0_levelsWithWaiting := by decide +kernel
set_option maxHeartbeats 4000000 in
set_option maxRecDepth 100000 in
theorem tX0_levelsWithWaiting (l : Launch) (D : va_G) (cI cZ cJ : ClassId) (h : Nat → Nat) (n : Nat) (C : Nat → Nat → Int32) (hn : n ≤ 24) : ∀ sz : Nat, zMi l yX0_levelsWithWaiting wsX0_levelsWithWaiting ({ frames := 0, cells := 0, slots := 0, locals := 0 } : Room) D cI cZ cJ (wC cI h n C) sz [.ref (h 0)] (fun r w' => r = setG (fun k => decide (C 4 k = 0)) (C 0) n ∧ w' = wC cI h n C) := by
  intro sz
  refine z_head (y := yX0_levelsWithWaiting) (av := [.ref (h 0)]) (w := (wC cI h n C)) (Qc := fun A => zQi D (wC cI h n C) (fun r w' => r = setG (fun k => decide (C 4 k = 0)) (C 0) n ∧ w' = wC cI h n C) A) (cc := cX0_levelsWithWaiting) (maxL := 3) (ret := (some .int)) (by decide) rfl (Nat.le_of_ble_eq_true rfl) ?_
  intro p e s m below meth c ls A hat hP hD hS hl
  obtain ⟨hx, hb, hr, hml, hlocks, hts, hown, hin, hK, hE, hA⟩ := hat
  have hP : va_P D vwCl (wC cI h n C) s.heap := hP
  have hD : va_D A (wC cI h n C) := hD
  have hl : lv_has ls 3 [(0, .ref (h 0))] := hl
  have L4 : ∀ (fu : Nat) (i : Nat) (x : Int32), i ≤ n → n + 1 ≤ i + fu → (x = setG (fun k => decide (C 4 k = 0)) (C 0) i) → ∀ (H : Heap) (locs : List Loc) (ls : Array Slot), lv_has ls 3 [(0, .ref (h 0)), (1, .int x), (2, .int (nI i))] → va_P D vwCl (wC cI h n C) H → va_D A (wC cI h n C) → va_S A s.heap H locs → W p l e ({ frames := 0, cells := 0, slots := 0, locals := 0 } : Room) s m ([.ref (h 0)] : List Value).toArray below meth c H locs 0 0 (MQ below (zQi D (wC cI h n C) (fun r w' => r = setG (fun k => decide (C 4 k = 0)) (C 0) n ∧ w' = wC cI h n C) A) ([.ref (h 0)] : List Value).toArray s 0 0 A) (F0 m 4 ls []) := by
    intro fu
    induction fu with
    | zero =>
      intro i x h1 h2
      exact absurd h2 (by omega)
    | succ fu ih4 =>
      intro i x hle hfu ex H locs ls hl hP hD hS
      refine lv_iload_n hx hb dX0_levelsWithWaiting_4 rfl (lv_at hl 2 rfl) ?_
      refine lv_aload_n hx hb dX0_levelsWithWaiting_5 rfl (lv_at hl 0 rfl) ?_
      refine va_get (D := D) (ci := 1) (v := .int (nI n)) (C := RX0) (T := TX0) (N := 10) hx hb hts kX0_levelsWithWaiting_inX0 hown hK hP 0 rfl rfl 9 (by decide) (hts _ kX0_levelsWithWaiting_f39) (fun _ h9 => h9) rfl dX0_levelsWithWaiting_6 ?_
      refine zn_ge (i := i) (j := n) (tgt := 38) hx hb (by omega) (by omega) dX0_levelsWithWaiting_9 (by decide) (fun c9 => ?_) (fun c9 => ?_)
      · skip
        refine lv_iload_n hx hb dX0_levelsWithWaiting_38 rfl (lv_at hl 1 rfl) ?_
        exact z_iret hx hb hr hlocks hS hP rfl dX0_levelsWithWaiting_39 (⟨by rw [ex, show i = n by omega], rfl⟩)
      · skip
        refine lv_aload_n hx hb dX0_levelsWithWaiting_12 rfl (lv_at hl 0 rfl) ?_
        refine va_get (D := D) (ci := 1) (v := .ref (h 5)) (C := RX0) (T := TX0) (N := 10) hx hb hts kX0_levelsWithWaiting_inX0 hown hK hP 0 rfl rfl 4 (by decide) (hts _ kX0_levelsWithWaiting_f24) (fun _ h9 => h9) rfl dX0_levelsWithWaiting_13 ?_
        refine lv_iload_n hx hb dX0_levelsWithWaiting_16 rfl (lv_at hl 2 rfl) ?_
        refine z_iald (k := i) (v := C 4 i) hx hb hK hP 5 rfl (by decide) (by omega) (rfl) dX0_levelsWithWaiting_17 ?_
        refine lv_if_ne (x := C 4 i) (tgt := 32) hx hb dX0_levelsWithWaiting_18 (by decide) (fun c18 => ?_) (fun c18 => ?_)
        · skip
          refine lv_iinc (v := nI (i + 1)) (lv' := [(2, .int (nI (i + 1))), (0, .ref (h 0)), (1, .int x)]) hx hb dX0_levelsWithWaiting_32 hl (k := 2) rfl (by rw [show Int32.ofInt 1 = nI 1 from rfl, nI_add]) (by decide) rfl (fun ls hl => ?_)
          refine lv_goto (tgt := 4) hx hb dX0_levelsWithWaiting_35 (by decide) ?_
          exact ih4 (i + 1) x (by omega) (by omega) (ex.trans (setG_f (decide_eq_false c18)).symm) H locs ls (lv_sub hl [1, 2, 0] rfl) hP hD hS
        · skip
          refine lv_iload_n hx hb dX0_levelsWithWaiting_21 rfl (lv_at hl 1 rfl) ?_
          refine lv_iconst (v := 1) hx hb dX0_levelsWithWaiting_22 (by decide) ?_
          refine lv_aload_n hx hb dX0_levelsWithWaiting_23 rfl (lv_at hl 0 rfl) ?_
          refine va_get (D := D) (ci := 1) (v := .ref (h 1)) (C := RX0) (T := TX0) (N := 10) hx hb hts kX0_levelsWithWaiting_inX0 hown hK hP 0 rfl rfl 0 (by decide) (hts _ kX0_levelsWithWaiting_f9) (fun _ h9 => h9) rfl dX0_levelsWithWaiting_24 ?_
          refine lv_iload_n hx hb dX0_levelsWithWaiting_27 rfl (lv_at hl 2 rfl) ?_
          refine z_iald (k := i) (v := C 0 i) hx hb hK hP 1 rfl (by decide) (by omega) (rfl) dX0_levelsWithWaiting_28 ?_
          refine lv_ishl hx hb dX0_levelsWithWaiting_29 ?_
          refine lv_ior (x := x) (y := 1 <<< ((C 0 i) &&& 31)) hx hb dX0_levelsWithWaiting_30 ?_
          refine lv_istore_n (lv' := [(1, .int (x ||| (1 <<< ((C 0 i) &&& 31)))), (0, .ref (h 0)), (2, .int (nI i))]) hx hb dX0_levelsWithWaiting_31 rfl hl (by decide) rfl (fun ls hl => ?_)
          refine lv_iinc (v := nI (i + 1)) (lv' := [(2, .int (nI (i + 1))), (1, .int (x ||| (1 <<< ((C 0 i) &&& 31)))), (0, .ref (h 0))]) hx hb dX0_levelsWithWaiting_32 hl (k := 2) rfl (by rw [show Int32.ofInt 1 = nI 1 from rfl, nI_add]) (by decide) rfl (fun ls hl => ?_)
          refine lv_goto (tgt := 4) hx hb dX0_levelsWithWaiting_35 (by decide) ?_
          exact ih4 (i + 1) (x ||| (1 <<< ((C 0 i) &&& 31))) (by omega) (by omega) (by rw [ex]; exact (setG_t (decide_eq_true c18)).symm) H locs ls (lv_sub hl [2, 1, 0] rfl) hP hD hS
  refine lv_iconst (v := 0) hx hb dX0_levelsWithWaiting_0 (by decide) ?_
  refine lv_istore_n (lv' := [(1, .int 0), (0, .ref (h 0))]) hx hb dX0_levelsWithWaiting_1 rfl hl (by decide) rfl (fun ls hl => ?_)
  refine lv_iconst (v := 0) hx hb dX0_levelsWithWaiting_2 (by decide) ?_
  refine lv_istore_n (lv' := [(2, .int 0), (1, .int 0), (0, .ref (h 0))]) hx hb dX0_levelsWithWaiting_3 rfl hl (by decide) rfl (fun ls hl => ?_)
  exact L4 (n + 1) 0 0 (by omega) (by omega) (rfl) s.heap [] ls (lv_sub hl [2, 1, 0] rfl) hP hD hS

theorem kX0_numberWaiting_iRX3 : Cond.initialized yX3_asNumber.cls ∈ wsX0_numberWaiting := by decide +kernel
theorem kX0_numberWaiting_tX3_asNumber : Cond.static yX3_asNumber ∈ wsX0_numberWaiting := by decide +kernel
theorem kX0_numberWaiting_inX0 : ∀ w ∈ wsX00, w ∈ wsX0_numberWaiting := by decide +kernel
theorem kX0_numberWaiting_f39 : Cond.fieldLink RX0 39 "LiftRows2$Calls" "size" "I" ∈ wsX0_numberWaiting := by decide +kernel
theorem kX0_numberWaiting_f24 : Cond.fieldLink RX0 24 "LiftRows2$Calls" "state" "[I" ∈ wsX0_numberWaiting := by decide +kernel
set_option maxHeartbeats 4000000 in
set_option maxRecDepth 100000 in
theorem tX0_numberWaiting (l : Launch) (D : va_G) (cI cZ cJ : ClassId) (h : Nat → Nat) (n : Nat) (C : Nat → Nat → Int32) (hn : n ≤ 24) : ∀ sz : Nat, zMi l yX0_numberWaiting wsX0_numberWaiting ({ frames := 1, cells := 0, slots := 0, locals := 20 } : Room) D cI cZ cJ (wC cI h n C) sz [.ref (h 0)] (fun r w' => r = nI (cntW (fun k => decide (C 4 k = 0)) n) ∧ w' = wC cI h n C) := by
  intro sz
  refine z_head (y := yX0_numberWaiting) (av := [.ref (h 0)]) (w := (wC cI h n C)) (Qc := fun A => zQi D (wC cI h n C) (fun r w' => r = nI (cntW (fun k => decide (C 4 k = 0)) n) ∧ w' = wC cI h n C) A) (cc := cX0_numberWaiting) (maxL := 3) (ret := (some .int)) (by decide) rfl (Nat.le_of_ble_eq_true rfl) ?_
  intro p e s m below meth c ls A hat hP hD hS hl
  obtain ⟨hx, hb, hr, hml, hlocks, hts, hown, hin, hK, hE, hA⟩ := hat
  have hP : va_P D vwCl (wC cI h n C) s.heap := hP
  have hD : va_D A (wC cI h n C) := hD
  have hl : lv_has ls 3 [(0, .ref (h 0))] := hl
  have L4 : ∀ (fu : Nat) (i : Nat) (x : Int32), i ≤ n → n + 1 ≤ i + fu → (x = nI (cntW (fun k => decide (C 4 k = 0)) i)) → ∀ (H : Heap) (locs : List Loc) (ls : Array Slot), lv_has ls 3 [(0, .ref (h 0)), (1, .int x), (2, .int (nI i))] → va_P D vwCl (wC cI h n C) H → va_D A (wC cI h n C) → va_S A s.heap H locs → W p l e ({ frames := 1, cells := 0, slots := 0, locals := 20 } : Room) s m ([.ref (h 0)] : List Value).toArray below meth c H locs 0 0 (MQ below (zQi D (wC cI h n C) (fun r w' => r = nI (cntW (fun k => decide (C 4 k = 0)) n) ∧ w' = wC cI h n C) A) ([.ref (h 0)] : List Value).toArray s 0 0 A) (F0 m 4 ls []) := by
    intro fu
    induction fu with
    | zero =>
      intro i x h1 h2
      exact absurd h2 (by omega)
    | succ fu ih4 =>
      intro i x hle hfu ex H locs ls hl hP hD hS
      have L27 : ∀ (bz : Bool), (i < n) → (bz = decide (C 4 i = 0)) → ∀ (H : Heap) (locs : List Loc) (ls : Array Slot), lv_has ls 3 [(0, .ref (h 0)), (1, .int x), (2, .int (nI i))] → va_P D vwCl (wC cI h n C) H → va_D A (wC cI h n C) → va_S A s.heap H locs → W p l e ({ frames := 1, cells := 0, slots := 0, locals := 20 } : Room) s m ([.ref (h 0)] : List Value).toArray below meth c H locs 0 0 (MQ below (zQi D (wC cI h n C) (fun r w' => r = nI (cntW (fun k => decide (C 4 k = 0)) n) ∧ w' = wC cI h n C) A) ([.ref (h 0)] : List Value).toArray s 0 0 A) (F0 m 27 ls [.int (bI bz), .int x]) := by
        intro bz hlt ez H locs ls hl hP hD hS
        refine z_backi (z_runSN (n := 1) (As := [.int (bI bz)]) (rest := [.int x]) hx hb hml hown hts hK hE hP hD [] rfl (by decide) (tX3_asNumber l D cI cZ cJ bz _) gX0_numberWaiting_X3_asNumber_n60 rfl rfl rfl zl_RX0_60 kX0_numberWaiting_iRX3 kX0_numberWaiting_tX3_asNumber (by decide +kernel) ⟨Nat.le_of_ble_eq_true rfl, Nat.le_of_ble_eq_true rfl⟩ rfl hl.1 rfl (Nat.le_of_ble_eq_true rfl) dX0_numberWaiting_27 ⟨Nat.zero_le _, Nat.zero_le _⟩) hP hD hS hA [] rfl (fun r1 w1 H locs hp1 hP hD hS => ?_)
        obtain ⟨rfl, rfl⟩ := hp1
        have hP : va_P D vwCl (wC cI h n C) H := hP
        have hD : va_D A (wC cI h n C) := hD
        refine lv_iadd (x := x) (y := bI bz) hx hb dX0_numberWaiting_30 ?_
        refine lv_istore_n (lv' := [(1, .int (x + (bI bz))), (0, .ref (h 0)), (2, .int (nI i))]) hx hb dX0_numberWaiting_31 rfl hl (by decide) rfl (fun ls hl => ?_)
        refine lv_iinc (v := nI (i + 1)) (lv' := [(2, .int (nI (i + 1))), (1, .int (x + (bI bz))), (0, .ref (h 0))]) hx hb dX0_numberWaiting_32 hl (k := 2) rfl (by rw [show Int32.ofInt 1 = nI 1 from rfl, nI_add]) (by decide) rfl (fun ls hl => ?_)
        refine lv_goto (tgt := 4) hx hb dX0_numberWaiting_35 (by decide) ?_
        exact ih4 (i + 1) (x + (bI bz)) (by omega) (by omega) (by rw [ex, ez]; exact cnt_add _ i) H locs ls (lv_sub hl [2, 1, 0] rfl) hP hD hS
      refine lv_iload_n hx hb dX0_numberWaiting_4 rfl (lv_at hl 2 rfl) ?_
      refine lv_aload_n hx hb dX0_numberWaiting_5 rfl (lv_at hl 0 rfl) ?_
      refine va_get (D := D) (ci := 1) (v := .int (nI n)) (C := RX0) (T := TX0) (N := 10) hx hb hts kX0_numberWaiting_inX0 hown hK hP 0 rfl rfl 9 (by decide) (hts _ kX0_numberWaiting_f39) (fun _ h9 => h9) rfl dX0_numberWaiting_6 ?_
      refine zn_ge (i := i) (j := n) (tgt := 38) hx hb (by omega) (by omega) dX0_numberWaiting_9 (by decide) (fun c9 => ?_) (fun c9 => ?_)
      · skip
        refine lv_iload_n hx hb dX0_numberWaiting_38 rfl (lv_at hl 1 rfl) ?_
        exact z_iret hx hb hr hlocks hS hP rfl dX0_numberWaiting_39 (⟨by rw [ex, show i = n by omega], rfl⟩)
      · skip
        refine lv_iload_n hx hb dX0_numberWaiting_12 rfl (lv_at hl 1 rfl) ?_
        refine lv_aload_n hx hb dX0_numberWaiting_13 rfl (lv_at hl 0 rfl) ?_
        refine va_get (D := D) (ci := 1) (v := .ref (h 5)) (C := RX0) (T := TX0) (N := 10) hx hb hts kX0_numberWaiting_inX0 hown hK hP 0 rfl rfl 4 (by decide) (hts _ kX0_numberWaiting_f24) (fun _ h9 => h9) rfl dX0_numberWaiting_14 ?_
        refine lv_iload_n hx hb dX0_numberWaiting_17 rfl (lv_at hl 2 rfl) ?_
        refine z_iald (k := i) (v := C 4 i) hx hb hK hP 5 rfl (by decide) (by omega) (rfl) dX0_numberWaiting_18 ?_
        refine lv_if_ne (x := C 4 i) (tgt := 26) hx hb dX0_numberWaiting_19 (by decide) (fun c19 => ?_) (fun c19 => ?_)
        · skip
          refine lv_iconst (v := 0) hx hb dX0_numberWaiting_26 (by decide) ?_
          exact L27 false (by omega) ((decide_eq_false c19).symm) H locs ls (lv_sub hl [0, 1, 2] rfl) hP hD hS
        · skip
          refine lv_iconst (v := 1) hx hb dX0_numberWaiting_22 (by decide) ?_
          refine lv_goto (tgt := 27) hx hb dX0_numberWaiting_23 (by decide) ?_
          exact L27 true (by omega) ((decide_eq_true c19).symm) H locs ls (lv_sub hl [0, 1, 2] rfl) hP hD hS
  refine lv_iconst (v := 0) hx hb dX0_numberWaiting_0 (by decide) ?_
  refine lv_istore_n (lv' := [(1, .int 0), (0, .ref (h 0))]) hx hb dX0_numberWaiting_1 rfl hl (by decide) rfl (fun ls hl => ?_)
  refine lv_iconst (v := 0) hx hb dX0_numberWaiting_2 (by decide) ?_
  refine lv_istore_n (lv' := [(2, .int 0), (1, .int 0), (0, .ref (h 0))]) hx hb dX0_numberWaiting_3 rfl hl (by decide) rfl (fun ls hl => ?_)
  exact L4 (n + 1) 0 0 (by omega) (by omega) (rfl) s.heap [] ls (lv_sub hl [2, 1, 0] rfl) hP hD hS

theorem kX0_nearestStop_inX0 : ∀ w ∈ wsX00, w ∈ wsX0_nearestStop := by decide +kernel
theorem kX0_nearestStop_f15 : Cond.fieldLink RX0 15 "LiftRows2$Calls" "to" "[I" ∈ wsX0_nearestStop := by decide +kernel
theorem kX0_nearestStop_f9 : Cond.fieldLink RX0 9 "LiftRows2$Calls" "from" "[I" ∈ wsX0_nearestStop := by decide +kernel
theorem kX0_nearestStop_f39 : Cond.fieldLink RX0 39 "LiftRows2$Calls" "size" "I" ∈ wsX0_nearestStop := by decide +kernel
set_option maxHeartbeats 4000000 in
set_option maxRecDepth 100000 in
theorem tX0_nearestStop (l : Launch) (D : va_G) (cI cZ cJ : ClassId) (h : Nat → Nat) (n : Nat) (C : Nat → Nat → Int32) (a sd wt ab : Int32) (hn : n ≤ 24) : ∀ sz : Nat, zMi l yX0_nearestStop wsX0_nearestStop ({ frames := 0, cells := 0, slots := 0, locals := 0 } : Room) D cI cZ cJ (wC cI h n C) sz [.ref (h 0), .int a, .int sd, .int wt, .int ab] (fun r w' => r = (nsF C a sd wt ab n).1 ∧ w' = wC cI h n C) := by
  intro sz
  refine z_head (y := yX0_nearestStop) (av := [.ref (h 0), .int a, .int sd, .int wt, .int ab]) (w := (wC cI h n C)) (Qc := fun A => zQi D (wC cI h n C) (fun r w' => r = (nsF C a sd wt ab n).1 ∧ w' = wC cI h n C) A) (cc := cX0_nearestStop) (maxL := 12) (ret := (some .int)) (by decide) rfl (Nat.le_of_ble_eq_true rfl) ?_
  intro p e s m below meth c ls A hat hP hD hS hl
  obtain ⟨hx, hb, hr, hml, hlocks, hts, hown, hin, hK, hE, hA⟩ := hat
  have hP : va_P D vwCl (wC cI h n C) s.heap := hP
  have hD : va_D A (wC cI h n C) := hD
  have hl : lv_has ls 12 [(0, .ref (h 0)), (1, .int a), (2, .int sd), (3, .int wt), (4, .int ab)] := hl
  have L10 : ∀ (fu : Nat) (i : Nat) (x : Int32) (y : Int32), i ≤ n → n + 1 ≤ i + fu → ((x, y) = nsF C a sd wt ab i) → ∀ (H : Heap) (locs : List Loc) (ls : Array Slot), lv_has ls 12 [(0, .ref (h 0)), (1, .int a), (2, .int sd), (3, .int wt), (4, .int ab), (5, .int x), (6, .int y), (7, .int (nI i))] → va_P D vwCl (wC cI h n C) H → va_D A (wC cI h n C) → va_S A s.heap H locs → W p l e ({ frames := 0, cells := 0, slots := 0, locals := 0 } : Room) s m ([.ref (h 0), .int a, .int sd, .int wt, .int ab] : List Value).toArray below meth c H locs 0 0 (MQ below (zQi D (wC cI h n C) (fun r w' => r = (nsF C a sd wt ab n).1 ∧ w' = wC cI h n C) A) ([.ref (h 0), .int a, .int sd, .int wt, .int ab] : List Value).toArray s 0 0 A) (F0 m 10 ls []) := by
    intro fu
    induction fu with
    | zero =>
      intro i x y h1 h2
      exact absurd h2 (by omega)
    | succ fu ih10 =>
      intro i x y hle hfu ex H locs ls hl hP hD hS
      have L34 : ∀ (bw : Bool), (i < n) → (bw = bitB wt i) → ∀ (H : Heap) (locs : List Loc) (ls : Array Slot), lv_has ls 12 [(0, .ref (h 0)), (1, .int a), (2, .int sd), (3, .int wt), (4, .int ab), (5, .int x), (6, .int y), (7, .int (nI i))] → va_P D vwCl (wC cI h n C) H → va_D A (wC cI h n C) → va_S A s.heap H locs → W p l e ({ frames := 0, cells := 0, slots := 0, locals := 0 } : Room) s m ([.ref (h 0), .int a, .int sd, .int wt, .int ab] : List Value).toArray below meth c H locs 0 0 (MQ below (zQi D (wC cI h n C) (fun r w' => r = (nsF C a sd wt ab n).1 ∧ w' = wC cI h n C) A) ([.ref (h 0), .int a, .int sd, .int wt, .int ab] : List Value).toArray s 0 0 A) (F0 m 34 ls [.int (bI bw)]) := by
        intro bw hlt ew H locs ls hl hP hD hS
        have L52 : ∀ (ba : Bool), (ba = bitB ab i) → ∀ (H : Heap) (locs : List Loc) (ls : Array Slot), lv_has ls 12 [(0, .ref (h 0)), (1, .int a), (2, .int sd), (3, .int wt), (4, .int ab), (5, .int x), (6, .int y), (7, .int (nI i)), (8, .int (bI bw))] → va_P D vwCl (wC cI h n C) H → va_D A (wC cI h n C) → va_S A s.heap H locs → W p l e ({ frames := 0, cells := 0, slots := 0, locals := 0 } : Room) s m ([.ref (h 0), .int a, .int sd, .int wt, .int ab] : List Value).toArray below meth c H locs 0 0 (MQ below (zQi D (wC cI h n C) (fun r w' => r = (nsF C a sd wt ab n).1 ∧ w' = wC cI h n C) A) ([.ref (h 0), .int a, .int sd, .int wt, .int ab] : List Value).toArray s 0 0 A) (F0 m 52 ls [.int (bI ba)]) := by
          intro ba ea H locs ls hl hP hD hS
          have L76 : ∀ (so : Int32), (so = (if bw = true then C 0 i else C 1 i)) → ∀ (H : Heap) (locs : List Loc) (ls : Array Slot), lv_has ls 12 [(0, .ref (h 0)), (1, .int a), (2, .int sd), (3, .int wt), (4, .int ab), (5, .int x), (6, .int y), (7, .int (nI i)), (8, .int (bI bw)), (9, .int (bI ba))] → va_P D vwCl (wC cI h n C) H → va_D A (wC cI h n C) → va_S A s.heap H locs → W p l e ({ frames := 0, cells := 0, slots := 0, locals := 0 } : Room) s m ([.ref (h 0), .int a, .int sd, .int wt, .int ab] : List Value).toArray below meth c H locs 0 0 (MQ below (zQi D (wC cI h n C) (fun r w' => r = (nsF C a sd wt ab n).1 ∧ w' = wC cI h n C) A) ([.ref (h 0), .int a, .int sd, .int wt, .int ab] : List Value).toArray s 0 0 A) (F0 m 76 ls [.int so]) := by
            intro so eo H locs ls hl hP hD hS
            refine lv_istore (lv' := [(10, .int so), (0, .ref (h 0)), (1, .int a), (2, .int sd), (3, .int wt), (4, .int ab), (5, .int x), (6, .int y), (7, .int (nI i)), (8, .int (bI bw)), (9, .int (bI ba))]) hx hb dX0_nearestStop_76 hl (by decide) rfl (fun ls hl => ?_)
            refine lv_iload hx hb dX0_nearestStop_78 (lv_at hl 0 rfl) ?_
            refine lv_iload_n hx hb dX0_nearestStop_80 rfl (lv_at hl 2 rfl) ?_
            refine lv_isub (x := so) (y := a) hx hb dX0_nearestStop_81 ?_
            refine lv_iload_n hx hb dX0_nearestStop_82 rfl (lv_at hl 3 rfl) ?_
            refine lv_imul (x := so - a) (y := sd) hx hb dX0_nearestStop_83 ?_
            refine lv_istore (lv' := [(11, .int ((so - a) * sd)), (10, .int so), (0, .ref (h 0)), (1, .int a), (2, .int sd), (3, .int wt), (4, .int ab), (5, .int x), (6, .int y), (7, .int (nI i)), (8, .int (bI bw)), (9, .int (bI ba))]) hx hb dX0_nearestStop_84 hl (by decide) rfl (fun ls hl => ?_)
            refine lv_iload hx hb dX0_nearestStop_86 (lv_at hl 10 rfl) ?_
            refine zb_ne (b := bw) (tgt := 96) hx hb dX0_nearestStop_88 (by decide) (fun c88 => ?_) (fun c88 => ?_)
            · skip
              refine lv_iload hx hb dX0_nearestStop_96 (lv_at hl 0 rfl) ?_
              refine lv_if_le (x := (so - a) * sd) (tgt := 116) hx hb dX0_nearestStop_98 (by decide) (fun c98 => ?_) (fun c98 => ?_)
              · skip
                refine lv_iinc (v := nI (i + 1)) (lv' := [(7, .int (nI (i + 1))), (11, .int ((so - a) * sd)), (10, .int so), (0, .ref (h 0)), (1, .int a), (2, .int sd), (3, .int wt), (4, .int ab), (5, .int x), (6, .int y), (8, .int (bI bw)), (9, .int (bI ba))]) hx hb dX0_nearestStop_116 hl (k := 9) rfl (by rw [show Int32.ofInt 1 = nI 1 from rfl, nI_add]) (by decide) rfl (fun ls hl => ?_)
                refine lv_goto (tgt := 10) hx hb dX0_nearestStop_119 (by decide) ?_
                exact ih10 (i + 1) x y (by omega) (by omega) (by rw [nsF_s ex ew ea eo]; simp [c88, Int32.not_lt.mpr c98]) H locs ls (lv_sub hl [3, 4, 5, 6, 7, 8, 9, 0] rfl) hP hD hS
              · skip
                refine lv_iload hx hb dX0_nearestStop_101 (lv_at hl 0 rfl) ?_
                refine lv_iload hx hb dX0_nearestStop_103 (lv_at hl 8 rfl) ?_
                refine lv_icmp_ge (x := (so - a) * sd) (y := y) (tgt := 116) hx hb dX0_nearestStop_105 (by decide) (fun c105 => ?_) (fun c105 => ?_)
                · skip
                  refine lv_iinc (v := nI (i + 1)) (lv' := [(7, .int (nI (i + 1))), (11, .int ((so - a) * sd)), (10, .int so), (0, .ref (h 0)), (1, .int a), (2, .int sd), (3, .int wt), (4, .int ab), (5, .int x), (6, .int y), (8, .int (bI bw)), (9, .int (bI ba))]) hx hb dX0_nearestStop_116 hl (k := 9) rfl (by rw [show Int32.ofInt 1 = nI 1 from rfl, nI_add]) (by decide) rfl (fun ls hl => ?_)
                  refine lv_goto (tgt := 10) hx hb dX0_nearestStop_119 (by decide) ?_
                  exact ih10 (i + 1) x y (by omega) (by omega) (by rw [nsF_s ex ew ea eo]; simp [c88, Int32.not_le.mp c98, Int32.not_lt.mpr c105]) H locs ls (lv_sub hl [3, 4, 5, 6, 7, 8, 9, 0] rfl) hP hD hS
                · skip
                  refine lv_iload hx hb dX0_nearestStop_108 (lv_at hl 1 rfl) ?_
                  refine lv_istore (lv' := [(5, .int so), (11, .int ((so - a) * sd)), (10, .int so), (0, .ref (h 0)), (1, .int a), (2, .int sd), (3, .int wt), (4, .int ab), (6, .int y), (7, .int (nI i)), (8, .int (bI bw)), (9, .int (bI ba))]) hx hb dX0_nearestStop_110 hl (by decide) rfl (fun ls hl => ?_)
                  refine lv_iload hx hb dX0_nearestStop_112 (lv_at hl 1 rfl) ?_
                  refine lv_istore (lv' := [(6, .int ((so - a) * sd)), (5, .int so), (11, .int ((so - a) * sd)), (10, .int so), (0, .ref (h 0)), (1, .int a), (2, .int sd), (3, .int wt), (4, .int ab), (7, .int (nI i)), (8, .int (bI bw)), (9, .int (bI ba))]) hx hb dX0_nearestStop_114 hl (by decide) rfl (fun ls hl => ?_)
                  refine lv_iinc (v := nI (i + 1)) (lv' := [(7, .int (nI (i + 1))), (6, .int ((so - a) * sd)), (5, .int so), (11, .int ((so - a) * sd)), (10, .int so), (0, .ref (h 0)), (1, .int a), (2, .int sd), (3, .int wt), (4, .int ab), (8, .int (bI bw)), (9, .int (bI ba))]) hx hb dX0_nearestStop_116 hl (k := 9) rfl (by rw [show Int32.ofInt 1 = nI 1 from rfl, nI_add]) (by decide) rfl (fun ls hl => ?_)
                  refine lv_goto (tgt := 10) hx hb dX0_nearestStop_119 (by decide) ?_
                  exact ih10 (i + 1) so ((so - a) * sd) (by omega) (by omega) (by rw [nsF_s ex ew ea eo]; simp [c88, Int32.not_le.mp c98, Int32.not_le.mp c105]) H locs ls (lv_sub hl [5, 6, 7, 8, 9, 2, 1, 0] rfl) hP hD hS
            · skip
              refine lv_iload hx hb dX0_nearestStop_91 (lv_at hl 11 rfl) ?_
              refine zb_eq (b := ba) (tgt := 116) hx hb dX0_nearestStop_93 (by decide) (fun c93 => ?_) (fun c93 => ?_)
              · skip
                refine lv_iinc (v := nI (i + 1)) (lv' := [(7, .int (nI (i + 1))), (11, .int ((so - a) * sd)), (10, .int so), (0, .ref (h 0)), (1, .int a), (2, .int sd), (3, .int wt), (4, .int ab), (5, .int x), (6, .int y), (8, .int (bI bw)), (9, .int (bI ba))]) hx hb dX0_nearestStop_116 hl (k := 9) rfl (by rw [show Int32.ofInt 1 = nI 1 from rfl, nI_add]) (by decide) rfl (fun ls hl => ?_)
                refine lv_goto (tgt := 10) hx hb dX0_nearestStop_119 (by decide) ?_
                exact ih10 (i + 1) x y (by omega) (by omega) (by rw [nsF_s ex ew ea eo]; simp [c88, c93]) H locs ls (lv_sub hl [3, 4, 5, 6, 7, 8, 9, 0] rfl) hP hD hS
              · skip
                refine lv_iload hx hb dX0_nearestStop_96 (lv_at hl 0 rfl) ?_
                refine lv_if_le (x := (so - a) * sd) (tgt := 116) hx hb dX0_nearestStop_98 (by decide) (fun c98 => ?_) (fun c98 => ?_)
                · skip
                  refine lv_iinc (v := nI (i + 1)) (lv' := [(7, .int (nI (i + 1))), (11, .int ((so - a) * sd)), (10, .int so), (0, .ref (h 0)), (1, .int a), (2, .int sd), (3, .int wt), (4, .int ab), (5, .int x), (6, .int y), (8, .int (bI bw)), (9, .int (bI ba))]) hx hb dX0_nearestStop_116 hl (k := 9) rfl (by rw [show Int32.ofInt 1 = nI 1 from rfl, nI_add]) (by decide) rfl (fun ls hl => ?_)
                  refine lv_goto (tgt := 10) hx hb dX0_nearestStop_119 (by decide) ?_
                  exact ih10 (i + 1) x y (by omega) (by omega) (by rw [nsF_s ex ew ea eo]; simp [c88, c93, Int32.not_lt.mpr c98]) H locs ls (lv_sub hl [3, 4, 5, 6, 7, 8, 9, 0] rfl) hP hD hS
                · skip
                  refine lv_iload hx hb dX0_nearestStop_101 (lv_at hl 0 rfl) ?_
                  refine lv_iload hx hb dX0_nearestStop_103 (lv_at hl 8 rfl) ?_
                  refine lv_icmp_ge (x := (so - a) * sd) (y := y) (tgt := 116) hx hb dX0_nearestStop_105 (by decide) (fun c105 => ?_) (fun c105 => ?_)
                  · skip
                    refine lv_iinc (v := nI (i + 1)) (lv' := [(7, .int (nI (i + 1))), (11, .int ((so - a) * sd)), (10, .int so), (0, .ref (h 0)), (1, .int a), (2, .int sd), (3, .int wt), (4, .int ab), (5, .int x), (6, .int y), (8, .int (bI bw)), (9, .int (bI ba))]) hx hb dX0_nearestStop_116 hl (k := 9) rfl (by rw [show Int32.ofInt 1 = nI 1 from rfl, nI_add]) (by decide) rfl (fun ls hl => ?_)
                    refine lv_goto (tgt := 10) hx hb dX0_nearestStop_119 (by decide) ?_
                    exact ih10 (i + 1) x y (by omega) (by omega) (by rw [nsF_s ex ew ea eo]; simp [c88, c93, Int32.not_le.mp c98, Int32.not_lt.mpr c105]) H locs ls (lv_sub hl [3, 4, 5, 6, 7, 8, 9, 0] rfl) hP hD hS
                  · skip
                    refine lv_iload hx hb dX0_nearestStop_108 (lv_at hl 1 rfl) ?_
                    refine lv_istore (lv' := [(5, .int so), (11, .int ((so - a) * sd)), (10, .int so), (0, .ref (h 0)), (1, .int a), (2, .int sd), (3, .int wt), (4, .int ab), (6, .int y), (7, .int (nI i)), (8, .int (bI bw)), (9, .int (bI ba))]) hx hb dX0_nearestStop_110 hl (by decide) rfl (fun ls hl => ?_)
                    refine lv_iload hx hb dX0_nearestStop_112 (lv_at hl 1 rfl) ?_
                    refine lv_istore (lv' := [(6, .int ((so - a) * sd)), (5, .int so), (11, .int ((so - a) * sd)), (10, .int so), (0, .ref (h 0)), (1, .int a), (2, .int sd), (3, .int wt), (4, .int ab), (7, .int (nI i)), (8, .int (bI bw)), (9, .int (bI ba))]) hx hb dX0_nearestStop_114 hl (by decide) rfl (fun ls hl => ?_)
                    refine lv_iinc (v := nI (i + 1)) (lv' := [(7, .int (nI (i + 1))), (6, .int ((so - a) * sd)), (5, .int so), (11, .int ((so - a) * sd)), (10, .int so), (0, .ref (h 0)), (1, .int a), (2, .int sd), (3, .int wt), (4, .int ab), (8, .int (bI bw)), (9, .int (bI ba))]) hx hb dX0_nearestStop_116 hl (k := 9) rfl (by rw [show Int32.ofInt 1 = nI 1 from rfl, nI_add]) (by decide) rfl (fun ls hl => ?_)
                    refine lv_goto (tgt := 10) hx hb dX0_nearestStop_119 (by decide) ?_
                    exact ih10 (i + 1) so ((so - a) * sd) (by omega) (by omega) (by rw [nsF_s ex ew ea eo]; simp [c88, c93, Int32.not_le.mp c98, Int32.not_le.mp c105]) H locs ls (lv_sub hl [5, 6, 7, 8, 9, 2, 1, 0] rfl) hP hD hS
          refine lv_istore (lv' := [(9, .int (bI ba)), (0, .ref (h 0)), (1, .int a), (2, .int sd), (3, .int wt), (4, .int ab), (5, .int x), (6, .int y), (7, .int (nI i)), (8, .int (bI bw))]) hx hb dX0_nearestStop_52 hl (by decide) rfl (fun ls hl => ?_)
          refine lv_iload hx hb dX0_nearestStop_54 (lv_at hl 9 rfl) ?_
          refine zb_eq (b := bw) (tgt := 69) hx hb dX0_nearestStop_56 (by decide) (fun c56 => ?_) (fun c56 => ?_)
          · skip
            refine lv_aload_n hx hb dX0_nearestStop_69 rfl (lv_at hl 1 rfl) ?_
            refine va_get (D := D) (ci := 1) (v := .ref (h 2)) (C := RX0) (T := TX0) (N := 10) hx hb hts kX0_nearestStop_inX0 hown hK hP 0 rfl rfl 1 (by decide) (hts _ kX0_nearestStop_f15) (fun _ h9 => h9) rfl dX0_nearestStop_70 ?_
            refine lv_iload hx hb dX0_nearestStop_73 (lv_at hl 8 rfl) ?_
            refine z_iald (k := i) (v := C 1 i) hx hb hK hP 2 rfl (by decide) (by omega) (rfl) dX0_nearestStop_75 ?_
            exact L76 (C 1 i) (by simp [c56]) H locs ls (lv_sub hl [1, 2, 3, 4, 5, 6, 7, 8, 9, 0] rfl) hP hD hS
          · skip
            refine lv_aload_n hx hb dX0_nearestStop_59 rfl (lv_at hl 1 rfl) ?_
            refine va_get (D := D) (ci := 1) (v := .ref (h 1)) (C := RX0) (T := TX0) (N := 10) hx hb hts kX0_nearestStop_inX0 hown hK hP 0 rfl rfl 0 (by decide) (hts _ kX0_nearestStop_f9) (fun _ h9 => h9) rfl dX0_nearestStop_60 ?_
            refine lv_iload hx hb dX0_nearestStop_63 (lv_at hl 8 rfl) ?_
            refine z_iald (k := i) (v := C 0 i) hx hb hK hP 1 rfl (by decide) (by omega) (rfl) dX0_nearestStop_65 ?_
            refine lv_goto (tgt := 76) hx hb dX0_nearestStop_66 (by decide) ?_
            exact L76 (C 0 i) (by simp [c56]) H locs ls (lv_sub hl [1, 2, 3, 4, 5, 6, 7, 8, 9, 0] rfl) hP hD hS
        refine lv_istore (lv' := [(8, .int (bI bw)), (0, .ref (h 0)), (1, .int a), (2, .int sd), (3, .int wt), (4, .int ab), (5, .int x), (6, .int y), (7, .int (nI i))]) hx hb dX0_nearestStop_34 hl (by decide) rfl (fun ls hl => ?_)
        refine lv_iload hx hb dX0_nearestStop_36 (lv_at hl 5 rfl) ?_
        refine lv_iload hx hb dX0_nearestStop_38 (lv_at hl 8 rfl) ?_
        refine lv_ishr hx hb dX0_nearestStop_40 ?_
        refine lv_iconst (v := 1) hx hb dX0_nearestStop_41 (by decide) ?_
        refine lv_iand (x := ab >>> ((nI i) &&& 31)) (y := 1) hx hb dX0_nearestStop_42 ?_
        refine lv_iconst (v := 1) hx hb dX0_nearestStop_43 (by decide) ?_
        refine lv_icmp_ne (x := (ab >>> ((nI i) &&& 31)) &&& 1) (y := 1) (tgt := 51) hx hb dX0_nearestStop_44 (by decide) (fun c44 => ?_) (fun c44 => ?_)
        · skip
          refine lv_iconst (v := 0) hx hb dX0_nearestStop_51 (by decide) ?_
          exact L52 false (by simp [bitB, c44]) H locs ls (lv_sub hl [1, 2, 3, 4, 5, 6, 7, 8, 0] rfl) hP hD hS
        · skip
          refine lv_iconst (v := 1) hx hb dX0_nearestStop_47 (by decide) ?_
          refine lv_goto (tgt := 52) hx hb dX0_nearestStop_48 (by decide) ?_
          exact L52 true (by simp [bitB, c44]) H locs ls (lv_sub hl [1, 2, 3, 4, 5, 6, 7, 8, 0] rfl) hP hD hS
      refine lv_iload hx hb dX0_nearestStop_10 (lv_at hl 7 rfl) ?_
      refine lv_aload_n hx hb dX0_nearestStop_12 rfl (lv_at hl 0 rfl) ?_
      refine va_get (D := D) (ci := 1) (v := .int (nI n)) (C := RX0) (T := TX0) (N := 10) hx hb hts kX0_nearestStop_inX0 hown hK hP 0 rfl rfl 9 (by decide) (hts _ kX0_nearestStop_f39) (fun _ h9 => h9) rfl dX0_nearestStop_13 ?_
      refine zn_ge (i := i) (j := n) (tgt := 122) hx hb (by omega) (by omega) dX0_nearestStop_16 (by decide) (fun c16 => ?_) (fun c16 => ?_)
      · skip
        refine lv_iload hx hb dX0_nearestStop_122 (lv_at hl 5 rfl) ?_
        exact z_iret hx hb hr hlocks hS hP rfl dX0_nearestStop_124 (⟨by rw [← show i = n by omega, ← ex], rfl⟩)
      · skip
        refine lv_iload_n hx hb dX0_nearestStop_19 rfl (lv_at hl 3 rfl) ?_
        refine lv_iload hx hb dX0_nearestStop_20 (lv_at hl 7 rfl) ?_
        refine lv_ishr hx hb dX0_nearestStop_22 ?_
        refine lv_iconst (v := 1) hx hb dX0_nearestStop_23 (by decide) ?_
        refine lv_iand (x := wt >>> ((nI i) &&& 31)) (y := 1) hx hb dX0_nearestStop_24 ?_
        refine lv_iconst (v := 1) hx hb dX0_nearestStop_25 (by decide) ?_
        refine lv_icmp_ne (x := (wt >>> ((nI i) &&& 31)) &&& 1) (y := 1) (tgt := 33) hx hb dX0_nearestStop_26 (by decide) (fun c26 => ?_) (fun c26 => ?_)
        · skip
          refine lv_iconst (v := 0) hx hb dX0_nearestStop_33 (by decide) ?_
          exact L34 false (by omega) (by simp [bitB, c26]) H locs ls (lv_sub hl [0, 1, 2, 3, 4, 5, 6, 7] rfl) hP hD hS
        · skip
          refine lv_iconst (v := 1) hx hb dX0_nearestStop_29 (by decide) ?_
          refine lv_goto (tgt := 34) hx hb dX0_nearestStop_30 (by decide) ?_
          exact L34 true (by omega) (by simp [bitB, c26]) H locs ls (lv_sub hl [0, 1, 2, 3, 4, 5, 6, 7] rfl) hP hD hS
  refine lv_iconst (v := (-1)) hx hb dX0_nearestStop_0 (by decide) ?_
  refine lv_istore (lv' := [(5, .int (-1)), (0, .ref (h 0)), (1, .int a), (2, .int sd), (3, .int wt), (4, .int ab)]) hx hb dX0_nearestStop_1 hl (by decide) rfl (fun ls hl => ?_)
  refine lv_bipush (v := 20) hx hb dX0_nearestStop_3 (by decide) ?_
  refine lv_istore (lv' := [(6, .int 20), (5, .int (-1)), (0, .ref (h 0)), (1, .int a), (2, .int sd), (3, .int wt), (4, .int ab)]) hx hb dX0_nearestStop_5 hl (by decide) rfl (fun ls hl => ?_)
  refine lv_iconst (v := 0) hx hb dX0_nearestStop_7 (by decide) ?_
  refine lv_istore (lv' := [(7, .int 0), (6, .int 20), (5, .int (-1)), (0, .ref (h 0)), (1, .int a), (2, .int sd), (3, .int wt), (4, .int ab)]) hx hb dX0_nearestStop_8 hl (by decide) rfl (fun ls hl => ?_)
  exact L10 (n + 1) 0 (-1) 20 (by omega) (by omega) (rfl) s.heap [] ls (lv_sub hl [3, 4, 5, 6, 7, 2, 1, 0] rfl) hP hD hS


set_option maxHeartbeats 4000000 in
set_option maxRecDepth 100000 in
theorem tX0_hasWork (l : Launch) (D : va_G) (cI cZ cJ : ClassId) (h : Nat → Nat) (n : Nat) (C : Nat → Nat → Int32) (lf a sd : Int32) (hn : n ≤ 24) : ∀ sz : Nat, zMi l yX0_hasWork wsX0_hasWork ({ frames := 2, cells := 0, slots := 0, locals := 47 } : Room) D cI cZ cJ (wC cI h n C) sz [.ref (h 0), .int lf, .int a, .int sd] (fun r w' => r = bI (!decide ((nsF C a sd (setG (fun k => isB C k 0 lf) nI n) (setG (fun k => isB C k 1 lf) nI n) n).1 = -1)) ∧ w' = wC cI h n C) := by
  intro sz
  refine z_head (y := yX0_hasWork) (av := [.ref (h 0), .int lf, .int a, .int sd]) (w := (wC cI h n C)) (Qc := fun A => zQi D (wC cI h n C) (fun r w' => r = bI (!decide ((nsF C a sd (setG (fun k => isB C k 0 lf) nI n) (setG (fun k => isB C k 1 lf) nI n) n).1 = -1)) ∧ w' = wC cI h n C) A) (cc := cX0_hasWork) (maxL := 4) (ret := (some .boolean)) (by decide) rfl (Nat.le_of_ble_eq_true rfl) ?_
  intro p e s m below meth c ls A hat hP hD hS hl
  obtain ⟨hx, hb, hr, hml, hlocks, hts, hown, hin, hK, hE, hA⟩ := hat
  have hP : va_P D vwCl (wC cI h n C) s.heap := hP
  have hD : va_D A (wC cI h n C) := hD
  have hl : lv_has ls 4 [(0, .ref (h 0)), (1, .int lf), (2, .int a), (3, .int sd)] := hl
  refine lv_aload_n hx hb dX0_hasWork_0 rfl (lv_at hl 0 rfl) ?_
  refine lv_iload_n hx hb dX0_hasWork_1 rfl (lv_at hl 2 rfl) ?_
  refine lv_iload_n hx hb dX0_hasWork_2 rfl (lv_at hl 3 rfl) ?_
  refine lv_aload_n hx hb dX0_hasWork_3 rfl (lv_at hl 0 rfl) ?_
  refine lv_iconst (v := 0) hx hb dX0_hasWork_4 (by decide) ?_
  refine lv_iload_n hx hb dX0_hasWork_5 rfl (lv_at hl 1 rfl) ?_
  refine z_backiA (z_runVA (n := 2) (As := [.int 0, .int lf]) (ci := 1) (rest := [.int sd, .int a, .ref (h 0)]) hx hb hml hown hts hK hE hP hD (tX0_setOf l D cI cZ cJ h n C 0 lf (by omega) _) gX0_hasWork_X0_setOf rfl rfl rfl (by decide +kernel) ⟨Nat.le_of_ble_eq_true rfl, Nat.le_of_ble_eq_true rfl⟩ rfl rfl rfl hl.1 rfl (Nat.le_of_ble_eq_true rfl) dX0_hasWork_6 ⟨Nat.zero_le _, Nat.zero_le _⟩) hD hS hA (fun r1 w1 H locs hp1 hP hD hS => ?_)
  obtain ⟨rfl, rfl⟩ := hp1
  have hP : va_P D vwCl (wC cI h n C) H := hP
  have hD : va_D A (wC cI h n C) := hD
  refine lv_aload_n hx hb dX0_hasWork_9 rfl (lv_at hl 0 rfl) ?_
  refine lv_iconst (v := 1) hx hb dX0_hasWork_10 (by decide) ?_
  refine lv_iload_n hx hb dX0_hasWork_11 rfl (lv_at hl 1 rfl) ?_
  refine z_backiA (z_runVA (n := 2) (As := [.int 1, .int lf]) (ci := 1) (rest := [.int (setG (fun k => isB C k 0 lf) nI n), .int sd, .int a, .ref (h 0)]) hx hb hml hown hts hK hE hP hD (tX0_setOf l D cI cZ cJ h n C 1 lf (by omega) _) gX0_hasWork_X0_setOf rfl rfl rfl (by decide +kernel) ⟨Nat.le_of_ble_eq_true rfl, Nat.le_of_ble_eq_true rfl⟩ rfl rfl rfl hl.1 rfl (Nat.le_of_ble_eq_true rfl) dX0_hasWork_12 ⟨Nat.zero_le _, Nat.zero_le _⟩) hD hS hA (fun r2 w1 H locs hp2 hP hD hS => ?_)
  obtain ⟨rfl, rfl⟩ := hp2
  have hP : va_P D vwCl (wC cI h n C) H := hP
  have hD : va_D A (wC cI h n C) := hD
  refine z_backiA (z_runVA (n := 4) (As := [.int a, .int sd, .int (setG (fun k => isB C k 0 lf) nI n), .int (setG (fun k => isB C k 1 lf) nI n)]) (ci := 1) (rest := []) hx hb hml hown hts hK hE hP hD (tX0_nearestStop l D cI cZ cJ h n C a sd (setG (fun k => isB C k 0 lf) nI n) (setG (fun k => isB C k 1 lf) nI n) (by omega) _) gX0_hasWork_X0_nearestStop rfl rfl rfl (by decide +kernel) ⟨Nat.le_of_ble_eq_true rfl, Nat.le_of_ble_eq_true rfl⟩ rfl rfl rfl hl.1 rfl (Nat.le_of_ble_eq_true rfl) dX0_hasWork_15 ⟨Nat.zero_le _, Nat.zero_le _⟩) hD hS hA (fun r3 w1 H locs hp3 hP hD hS => ?_)
  obtain ⟨rfl, rfl⟩ := hp3
  have hP : va_P D vwCl (wC cI h n C) H := hP
  have hD : va_D A (wC cI h n C) := hD
  refine lv_iconst (v := (-1)) hx hb dX0_hasWork_18 (by decide) ?_
  refine lv_icmp_eq (x := (nsF C a sd (setG (fun k => isB C k 0 lf) nI n) (setG (fun k => isB C k 1 lf) nI n) n).1) (y := (-1)) (tgt := 26) hx hb dX0_hasWork_19 (by decide) (fun c19 => ?_) (fun c19 => ?_)
  · skip
    refine lv_iconst (v := 0) hx hb dX0_hasWork_26 (by decide) ?_
    exact z_zret hx hb hr hlocks hS hP rfl (Or.inl rfl) dX0_hasWork_27 (⟨by simp [bI, c19], rfl⟩)
  · skip
    refine lv_iconst (v := 1) hx hb dX0_hasWork_22 (by decide) ?_
    refine lv_goto (tgt := 27) hx hb dX0_hasWork_23 (by decide) ?_
    exact z_zret hx hb hr hlocks hS hP rfl (Or.inr rfl) dX0_hasWork_27 (⟨by simp [bI, c19], rfl⟩)

theorem kJ6_bitCount_0f7a4_c265 : Cond.constant RJ6 265 (1431655765) ∈ wsJ6_bitCount_0f7a4 := by decide +kernel
theorem kJ6_bitCount_0f7a4_c266 : Cond.constant RJ6 266 (858993459) ∈ wsJ6_bitCount_0f7a4 := by decide +kernel
theorem kJ6_bitCount_0f7a4_c267 : Cond.constant RJ6 267 (252645135) ∈ wsJ6_bitCount_0f7a4 := by decide +kernel
set_option maxHeartbeats 4000000 in
set_option maxRecDepth 100000 in
theorem tJ6_bitCount_0f7a4 (l : Launch) (D : va_G) (cI cZ cJ : ClassId) (x : Int32) : ∀ sz : Nat, zMi l yJ6_bitCount_0f7a4 wsJ6_bitCount_0f7a4 ({ frames := 0, cells := 0, slots := 0, locals := 0 } : Room) D cI cZ cJ ([]) sz [.int x] (fun r w' => r = bcI x ∧ w' = []) := by
  intro sz
  refine z_headF (y := yJ6_bitCount_0f7a4) (av := [.int x]) (w := ([])) (Qc := fun A => zQi D ([]) (fun r w' => r = bcI x ∧ w' = []) A) (cc := cJ6_bitCount_0f7a4) (maxL := 1) (ret := (some .int)) (by decide) rfl (Nat.le_of_ble_eq_true rfl) ?_
  intro p e s m below meth c ls A hat hP hD hS hl
  obtain ⟨hx, hb, hr, hml, hlocks, hts, hown, hin, hK, hE, hA⟩ := hat
  have hP : va_P D vwCl [] s.heap := hP
  have hD : va_D A [] := hD
  have hl : lv_has ls 1 [(0, .int x)] := hl
  refine lv_iload_n hx hb dJ6_bitCount_0f7a4_0 rfl (lv_at hl 0 rfl) ?_
  refine lv_iload_n hx hb dJ6_bitCount_0f7a4_1 rfl (lv_at hl 0 rfl) ?_
  refine lv_iconst (v := 1) hx hb dJ6_bitCount_0f7a4_2 (by decide) ?_
  refine lv_iushr (v := (x.toUInt32 >>> ((1 : Int32).toUInt32 &&& Int32.toUInt32 31)).toInt32) hx hb dJ6_bitCount_0f7a4_3 rfl ?_
  refine lv_ldcw (v := 1431655765) hx hb hown (hts _ kJ6_bitCount_0f7a4_c265) dJ6_bitCount_0f7a4_4 ?_
  refine lv_iand (x := (x.toUInt32 >>> ((1 : Int32).toUInt32 &&& Int32.toUInt32 31)).toInt32) (y := 1431655765) hx hb dJ6_bitCount_0f7a4_7 ?_
  refine lv_isub (x := x) (y := ((x.toUInt32 >>> ((1 : Int32).toUInt32 &&& Int32.toUInt32 31)).toInt32) &&& 1431655765) hx hb dJ6_bitCount_0f7a4_8 ?_
  refine lv_istore_n (lv' := [(0, .int (x - (((x.toUInt32 >>> ((1 : Int32).toUInt32 &&& Int32.toUInt32 31)).toInt32) &&& 1431655765)))]) hx hb dJ6_bitCount_0f7a4_9 rfl hl (by decide) rfl (fun ls hl => ?_)
  have hl : lv_has ls 1 [(0, .int (bc1 x))] := hl
  refine lv_iload_n hx hb dJ6_bitCount_0f7a4_10 rfl (lv_at hl 0 rfl) ?_
  refine lv_ldcw (v := 858993459) hx hb hown (hts _ kJ6_bitCount_0f7a4_c266) dJ6_bitCount_0f7a4_11 ?_
  refine lv_iand (x := bc1 x) (y := 858993459) hx hb dJ6_bitCount_0f7a4_14 ?_
  refine lv_iload_n hx hb dJ6_bitCount_0f7a4_15 rfl (lv_at hl 0 rfl) ?_
  refine lv_iconst (v := 2) hx hb dJ6_bitCount_0f7a4_16 (by decide) ?_
  refine lv_iushr (v := ((bc1 x).toUInt32 >>> ((2 : Int32).toUInt32 &&& Int32.toUInt32 31)).toInt32) hx hb dJ6_bitCount_0f7a4_17 rfl ?_
  refine lv_ldcw (v := 858993459) hx hb hown (hts _ kJ6_bitCount_0f7a4_c266) dJ6_bitCount_0f7a4_18 ?_
  refine lv_iand (x := ((bc1 x).toUInt32 >>> ((2 : Int32).toUInt32 &&& Int32.toUInt32 31)).toInt32) (y := 858993459) hx hb dJ6_bitCount_0f7a4_21 ?_
  refine lv_iadd (x := (bc1 x) &&& 858993459) (y := (((bc1 x).toUInt32 >>> ((2 : Int32).toUInt32 &&& Int32.toUInt32 31)).toInt32) &&& 858993459) hx hb dJ6_bitCount_0f7a4_22 ?_
  refine lv_istore_n (lv' := [(0, .int (((bc1 x) &&& 858993459) + ((((bc1 x).toUInt32 >>> ((2 : Int32).toUInt32 &&& Int32.toUInt32 31)).toInt32) &&& 858993459)))]) hx hb dJ6_bitCount_0f7a4_23 rfl hl (by decide) rfl (fun ls hl => ?_)
  have hl : lv_has ls 1 [(0, .int (bc2 (bc1 x)))] := hl
  refine lv_iload_n hx hb dJ6_bitCount_0f7a4_24 rfl (lv_at hl 0 rfl) ?_
  refine lv_iload_n hx hb dJ6_bitCount_0f7a4_25 rfl (lv_at hl 0 rfl) ?_
  refine lv_iconst (v := 4) hx hb dJ6_bitCount_0f7a4_26 (by decide) ?_
  refine lv_iushr (v := ((bc2 (bc1 x)).toUInt32 >>> ((4 : Int32).toUInt32 &&& Int32.toUInt32 31)).toInt32) hx hb dJ6_bitCount_0f7a4_27 rfl ?_
  refine lv_iadd (x := bc2 (bc1 x)) (y := ((bc2 (bc1 x)).toUInt32 >>> ((4 : Int32).toUInt32 &&& Int32.toUInt32 31)).toInt32) hx hb dJ6_bitCount_0f7a4_28 ?_
  refine lv_ldcw (v := 252645135) hx hb hown (hts _ kJ6_bitCount_0f7a4_c267) dJ6_bitCount_0f7a4_29 ?_
  refine lv_iand (x := (bc2 (bc1 x)) + (((bc2 (bc1 x)).toUInt32 >>> ((4 : Int32).toUInt32 &&& Int32.toUInt32 31)).toInt32)) (y := 252645135) hx hb dJ6_bitCount_0f7a4_32 ?_
  refine lv_istore_n (lv' := [(0, .int (((bc2 (bc1 x)) + (((bc2 (bc1 x)).toUInt32 >>> ((4 : Int32).toUInt32 &&& Int32.toUInt32 31)).toInt32)) &&& 252645135))]) hx hb dJ6_bitCount_0f7a4_33 rfl hl (by decide) rfl (fun ls hl => ?_)
  have hl : lv_has ls 1 [(0, .int (bc3 (bc2 (bc1 x))))] := hl
  refine lv_iload_n hx hb dJ6_bitCount_0f7a4_34 rfl (lv_at hl 0 rfl) ?_
  refine lv_iload_n hx hb dJ6_bitCount_0f7a4_35 rfl (lv_at hl 0 rfl) ?_
  refine lv_bipush (v := 8) hx hb dJ6_bitCount_0f7a4_36 (by decide) ?_
  refine lv_iushr (v := ((bc3 (bc2 (bc1 x))).toUInt32 >>> ((8 : Int32).toUInt32 &&& Int32.toUInt32 31)).toInt32) hx hb dJ6_bitCount_0f7a4_38 rfl ?_
  refine lv_iadd (x := bc3 (bc2 (bc1 x))) (y := ((bc3 (bc2 (bc1 x))).toUInt32 >>> ((8 : Int32).toUInt32 &&& Int32.toUInt32 31)).toInt32) hx hb dJ6_bitCount_0f7a4_39 ?_
  refine lv_istore_n (lv' := [(0, .int ((bc3 (bc2 (bc1 x))) + (((bc3 (bc2 (bc1 x))).toUInt32 >>> ((8 : Int32).toUInt32 &&& Int32.toUInt32 31)).toInt32)))]) hx hb dJ6_bitCount_0f7a4_40 rfl hl (by decide) rfl (fun ls hl => ?_)
  have hl : lv_has ls 1 [(0, .int (bc4 (bc3 (bc2 (bc1 x)))))] := hl
  refine lv_iload_n hx hb dJ6_bitCount_0f7a4_41 rfl (lv_at hl 0 rfl) ?_
  refine lv_iload_n hx hb dJ6_bitCount_0f7a4_42 rfl (lv_at hl 0 rfl) ?_
  refine lv_bipush (v := 16) hx hb dJ6_bitCount_0f7a4_43 (by decide) ?_
  refine lv_iushr (v := ((bc4 (bc3 (bc2 (bc1 x)))).toUInt32 >>> ((16 : Int32).toUInt32 &&& Int32.toUInt32 31)).toInt32) hx hb dJ6_bitCount_0f7a4_45 rfl ?_
  refine lv_iadd (x := bc4 (bc3 (bc2 (bc1 x)))) (y := ((bc4 (bc3 (bc2 (bc1 x)))).toUInt32 >>> ((16 : Int32).toUInt32 &&& Int32.toUInt32 31)).toInt32) hx hb dJ6_bitCount_0f7a4_46 ?_
  refine lv_istore_n (lv' := [(0, .int ((bc4 (bc3 (bc2 (bc1 x)))) + (((bc4 (bc3 (bc2 (bc1 x)))).toUInt32 >>> ((16 : Int32).toUInt32 &&& Int32.toUInt32 31)).toInt32)))]) hx hb dJ6_bitCount_0f7a4_47 rfl hl (by decide) rfl (fun ls hl => ?_)
  have hl : lv_has ls 1 [(0, .int (bc5 (bc4 (bc3 (bc2 (bc1 x))))))] := hl
  refine lv_iload_n hx hb dJ6_bitCount_0f7a4_48 rfl (lv_at hl 0 rfl) ?_
  refine lv_bipush (v := 63) hx hb dJ6_bitCount_0f7a4_49 (by decide) ?_
  refine lv_iand (x := bc5 (bc4 (bc3 (bc2 (bc1 x))))) (y := 63) hx hb dJ6_bitCount_0f7a4_51 ?_
  exact z_iret hx hb hr hlocks hS hP rfl dJ6_bitCount_0f7a4_52 (⟨rfl, rfl⟩)


set_option maxHeartbeats 4000000 in
set_option maxRecDepth 100000 in
theorem tX0_number (l : Launch) (D : va_G) (cI cZ cJ : ClassId) (h : Nat → Nat) (n : Nat) (C : Nat → Nat → Int32) (st lf : Int32) (hn : n ≤ 24) : ∀ sz : Nat, zMi l yX0_number wsX0_number ({ frames := 2, cells := 0, slots := 0, locals := 47 } : Room) D cI cZ cJ (wC cI h n C) sz [.ref (h 0), .int st, .int lf] (fun r w' => r = nI (cntW (fun k => isB C k st lf) n) ∧ w' = wC cI h n C) := by
  intro sz
  refine z_head (y := yX0_number) (av := [.ref (h 0), .int st, .int lf]) (w := (wC cI h n C)) (Qc := fun A => zQi D (wC cI h n C) (fun r w' => r = nI (cntW (fun k => isB C k st lf) n) ∧ w' = wC cI h n C) A) (cc := cX0_number) (maxL := 3) (ret := (some .int)) (by decide) rfl (Nat.le_of_ble_eq_true rfl) ?_
  intro p e s m below meth c ls A hat hP hD hS hl
  obtain ⟨hx, hb, hr, hml, hlocks, hts, hown, hin, hK, hE, hA⟩ := hat
  have hP : va_P D vwCl (wC cI h n C) s.heap := hP
  have hD : va_D A (wC cI h n C) := hD
  have hl : lv_has ls 3 [(0, .ref (h 0)), (1, .int st), (2, .int lf)] := hl
  refine lv_aload_n hx hb dX0_number_0 rfl (lv_at hl 0 rfl) ?_
  refine lv_iload_n hx hb dX0_number_1 rfl (lv_at hl 1 rfl) ?_
  refine lv_iload_n hx hb dX0_number_2 rfl (lv_at hl 2 rfl) ?_
  refine z_backiA (z_runVA (n := 2) (As := [.int st, .int lf]) (ci := 1) (rest := []) hx hb hml hown hts hK hE hP hD (tX0_setOf l D cI cZ cJ h n C st lf (by omega) _) gX0_number_X0_setOf rfl rfl rfl (by decide +kernel) ⟨Nat.le_of_ble_eq_true rfl, Nat.le_of_ble_eq_true rfl⟩ rfl rfl rfl hl.1 rfl (Nat.le_of_ble_eq_true rfl) dX0_number_3 ⟨Nat.zero_le _, Nat.zero_le _⟩) hD hS hA (fun r1 w1 H locs hp1 hP hD hS => ?_)
  obtain ⟨rfl, rfl⟩ := hp1
  have hP : va_P D vwCl (wC cI h n C) H := hP
  have hD : va_D A (wC cI h n C) := hD
  refine z_backi (z_runS (n := 1) (As := [.int (setG (fun k => isB C k st lf) nI n)]) (rest := []) hx hb hml hown hts hK hE hP hD [] rfl (by decide) (tJ6_bitCount_0f7a4 l D cI cZ cJ (setG (fun k => isB C k st lf) nI n) _) gX0_number_J6_bitCount_0f7a4 rfl rfl rfl (by decide +kernel) ⟨Nat.le_of_ble_eq_true rfl, Nat.le_of_ble_eq_true rfl⟩ rfl hl.1 rfl (Nat.le_of_ble_eq_true rfl) dX0_number_6 ⟨Nat.zero_le _, Nat.zero_le _⟩) hP hD hS hA [] rfl (fun r2 w1 H locs hp2 hP hD hS => ?_)
  obtain ⟨rfl, rfl⟩ := hp2
  have hP : va_P D vwCl (wC cI h n C) H := hP
  have hD : va_D A (wC cI h n C) := hD
  exact z_iret hx hb hr hlocks hS hP rfl dX0_number_9 (⟨bcI_setG _ hn, rfl⟩)

theorem kX0_add_inX0 : ∀ w ∈ wsX00, w ∈ wsX0_add := by decide +kernel
theorem kX0_add_f39 : Cond.fieldLink RX0 39 "LiftRows2$Calls" "size" "I" ∈ wsX0_add := by decide +kernel
theorem kX0_add_f9 : Cond.fieldLink RX0 9 "LiftRows2$Calls" "from" "[I" ∈ wsX0_add := by decide +kernel
theorem kX0_add_f15 : Cond.fieldLink RX0 15 "LiftRows2$Calls" "to" "[I" ∈ wsX0_add := by decide +kernel
theorem kX0_add_f18 : Cond.fieldLink RX0 18 "LiftRows2$Calls" "rank" "[I" ∈ wsX0_add := by decide +kernel
theorem kX0_add_f21 : Cond.fieldLink RX0 21 "LiftRows2$Calls" "load" "[I" ∈ wsX0_add := by decide +kernel
theorem kX0_add_f24 : Cond.fieldLink RX0 24 "LiftRows2$Calls" "state" "[I" ∈ wsX0_add := by decide +kernel
theorem kX0_add_f27 : Cond.fieldLink RX0 27 "LiftRows2$Calls" "by" "[I" ∈ wsX0_add := by decide +kernel
theorem kX0_add_f30 : Cond.fieldLink RX0 30 "LiftRows2$Calls" "cameAt" "[I" ∈ wsX0_add := by decide +kernel
theorem kX0_add_f33 : Cond.fieldLink RX0 33 "LiftRows2$Calls" "boardedAt" "[I" ∈ wsX0_add := by decide +kernel
theorem kX0_add_f36 : Cond.fieldLink RX0 36 "LiftRows2$Calls" "servedAt" "[I" ∈ wsX0_add := by decide +kernel
set_option maxHeartbeats 4000000 in
set_option maxRecDepth 100000 in
theorem tX0_add (l : Launch) (D : va_G) (cI cZ cJ : ClassId) (h : Nat → Nat) (n : Nat) (C : Nat → Nat → Int32) (a b r0 q t : Int32) (hn : n < 24) : ∀ sz : Nat, zMi l yX0_add wsX0_add ({ frames := 0, cells := 0, slots := 0, locals := 0 } : Room) D cI cZ cJ (wC cI h n C) sz [.ref (h 0), .int a, .int b, .int r0, .int q, .int t] (fun r w' => r = nI n ∧ w' = wC cI h (n + 1) (addC C n a b r0 q t)) := by
  intro sz
  refine z_head (y := yX0_add) (av := [.ref (h 0), .int a, .int b, .int r0, .int q, .int t]) (w := (wC cI h n C)) (Qc := fun A => zQi D (wC cI h n C) (fun r w' => r = nI n ∧ w' = wC cI h (n + 1) (addC C n a b r0 q t)) A) (cc := cX0_add) (maxL := 7) (ret := (some .int)) (by decide) rfl (Nat.le_of_ble_eq_true rfl) ?_
  intro p e s m below meth c ls A hat hP hD hS hl
  obtain ⟨hx, hb, hr, hml, hlocks, hts, hown, hin, hK, hE, hA⟩ := hat
  have hP : va_P D vwCl (wC cI h n C) s.heap := hP
  have hD : va_D A (wC cI h n C) := hD
  have hl : lv_has ls 7 [(0, .ref (h 0)), (1, .int a), (2, .int b), (3, .int r0), (4, .int q), (5, .int t)] := hl
  refine lv_aload_n hx hb dX0_add_0 rfl (lv_at hl 0 rfl) ?_
  refine va_get (D := D) (ci := 1) (v := .int (nI n)) (C := RX0) (T := TX0) (N := 10) hx hb hts kX0_add_inX0 hown hK hP 0 rfl rfl 9 (by decide) (hts _ kX0_add_f39) (fun _ h9 => h9) rfl dX0_add_1 ?_
  refine lv_istore (lv' := [(6, .int (nI n)), (0, .ref (h 0)), (1, .int a), (2, .int b), (3, .int r0), (4, .int q), (5, .int t)]) hx hb dX0_add_4 hl (by decide) rfl (fun ls hl => ?_)
  refine lv_iload hx hb dX0_add_6 (lv_at hl 0 rfl) ?_
  refine lv_bipush (v := 24) hx hb dX0_add_8 (by decide) ?_
  refine zn_ge (i := n) (j := 24) (tgt := 97) hx hb (by omega) (by omega) dX0_add_10 (by decide) (fun c10 => ?_) (fun c10 => ?_)
  · skip
    exact absurd hn (by omega)
  · skip
    refine lv_aload_n hx hb dX0_add_13 rfl (lv_at hl 1 rfl) ?_
    refine va_get (D := D) (ci := 1) (v := .ref (h 1)) (C := RX0) (T := TX0) (N := 10) hx hb hts kX0_add_inX0 hown hK hP 0 rfl rfl 0 (by decide) (hts _ kX0_add_f9) (fun _ h9 => h9) rfl dX0_add_14 ?_
    refine lv_iload hx hb dX0_add_17 (lv_at hl 0 rfl) ?_
    refine lv_iload_n hx hb dX0_add_19 rfl (lv_at hl 2 rfl) ?_
    refine z_iast (k := n) (x := a) hx hb hK hP hD hS 1 rfl (by decide) (by omega) dX0_add_20 (fun H locs hP hD hS => ?_)
    have hP : va_P D vwCl (wC cI h n (upC C 0 n a)) H := hP
    have hD : va_D A (wC cI h n (upC C 0 n a)) := hD
    refine lv_aload_n hx hb dX0_add_21 rfl (lv_at hl 1 rfl) ?_
    refine va_get (D := D) (ci := 1) (v := .ref (h 2)) (C := RX0) (T := TX0) (N := 10) hx hb hts kX0_add_inX0 hown hK hP 0 rfl rfl 1 (by decide) (hts _ kX0_add_f15) (fun _ h9 => h9) rfl dX0_add_22 ?_
    refine lv_iload hx hb dX0_add_25 (lv_at hl 0 rfl) ?_
    refine lv_iload_n hx hb dX0_add_27 rfl (lv_at hl 3 rfl) ?_
    refine z_iast (k := n) (x := b) hx hb hK hP hD hS 2 rfl (by decide) (by omega) dX0_add_28 (fun H locs hP hD hS => ?_)
    have hP : va_P D vwCl (wC cI h n (upC (upC C 0 n a) 1 n b)) H := hP
    have hD : va_D A (wC cI h n (upC (upC C 0 n a) 1 n b)) := hD
    refine lv_aload_n hx hb dX0_add_29 rfl (lv_at hl 1 rfl) ?_
    refine va_get (D := D) (ci := 1) (v := .ref (h 3)) (C := RX0) (T := TX0) (N := 10) hx hb hts kX0_add_inX0 hown hK hP 0 rfl rfl 2 (by decide) (hts _ kX0_add_f18) (fun _ h9 => h9) rfl dX0_add_30 ?_
    refine lv_iload hx hb dX0_add_33 (lv_at hl 0 rfl) ?_
    refine lv_iload_n hx hb dX0_add_35 rfl (lv_at hl 4 rfl) ?_
    refine z_iast (k := n) (x := r0) hx hb hK hP hD hS 3 rfl (by decide) (by omega) dX0_add_36 (fun H locs hP hD hS => ?_)
    have hP : va_P D vwCl (wC cI h n (upC (upC (upC C 0 n a) 1 n b) 2 n r0)) H := hP
    have hD : va_D A (wC cI h n (upC (upC (upC C 0 n a) 1 n b) 2 n r0)) := hD
    refine lv_aload_n hx hb dX0_add_37 rfl (lv_at hl 1 rfl) ?_
    refine va_get (D := D) (ci := 1) (v := .ref (h 4)) (C := RX0) (T := TX0) (N := 10) hx hb hts kX0_add_inX0 hown hK hP 0 rfl rfl 3 (by decide) (hts _ kX0_add_f21) (fun _ h9 => h9) rfl dX0_add_38 ?_
    refine lv_iload hx hb dX0_add_41 (lv_at hl 0 rfl) ?_
    refine lv_iload hx hb dX0_add_43 (lv_at hl 5 rfl) ?_
    refine z_iast (k := n) (x := q) hx hb hK hP hD hS 4 rfl (by decide) (by omega) dX0_add_45 (fun H locs hP hD hS => ?_)
    have hP : va_P D vwCl (wC cI h n (upC (upC (upC (upC C 0 n a) 1 n b) 2 n r0) 3 n q)) H := hP
    have hD : va_D A (wC cI h n (upC (upC (upC (upC C 0 n a) 1 n b) 2 n r0) 3 n q)) := hD
    refine lv_aload_n hx hb dX0_add_46 rfl (lv_at hl 1 rfl) ?_
    refine va_get (D := D) (ci := 1) (v := .ref (h 5)) (C := RX0) (T := TX0) (N := 10) hx hb hts kX0_add_inX0 hown hK hP 0 rfl rfl 4 (by decide) (hts _ kX0_add_f24) (fun _ h9 => h9) rfl dX0_add_47 ?_
    refine lv_iload hx hb dX0_add_50 (lv_at hl 0 rfl) ?_
    refine lv_iconst (v := 0) hx hb dX0_add_52 (by decide) ?_
    refine z_iast (k := n) (x := 0) hx hb hK hP hD hS 5 rfl (by decide) (by omega) dX0_add_53 (fun H locs hP hD hS => ?_)
    have hP : va_P D vwCl (wC cI h n (upC (upC (upC (upC (upC C 0 n a) 1 n b) 2 n r0) 3 n q) 4 n 0)) H := hP
    have hD : va_D A (wC cI h n (upC (upC (upC (upC (upC C 0 n a) 1 n b) 2 n r0) 3 n q) 4 n 0)) := hD
    refine lv_aload_n hx hb dX0_add_54 rfl (lv_at hl 1 rfl) ?_
    refine va_get (D := D) (ci := 1) (v := .ref (h 6)) (C := RX0) (T := TX0) (N := 10) hx hb hts kX0_add_inX0 hown hK hP 0 rfl rfl 5 (by decide) (hts _ kX0_add_f27) (fun _ h9 => h9) rfl dX0_add_55 ?_
    refine lv_iload hx hb dX0_add_58 (lv_at hl 0 rfl) ?_
    refine lv_iconst (v := (-1)) hx hb dX0_add_60 (by decide) ?_
    refine z_iast (k := n) (x := (-1)) hx hb hK hP hD hS 6 rfl (by decide) (by omega) dX0_add_61 (fun H locs hP hD hS => ?_)
    have hP : va_P D vwCl (wC cI h n (upC (upC (upC (upC (upC (upC C 0 n a) 1 n b) 2 n r0) 3 n q) 4 n 0) 5 n (-1))) H := hP
    have hD : va_D A (wC cI h n (upC (upC (upC (upC (upC (upC C 0 n a) 1 n b) 2 n r0) 3 n q) 4 n 0) 5 n (-1))) := hD
    refine lv_aload_n hx hb dX0_add_62 rfl (lv_at hl 1 rfl) ?_
    refine va_get (D := D) (ci := 1) (v := .ref (h 7)) (C := RX0) (T := TX0) (N := 10) hx hb hts kX0_add_inX0 hown hK hP 0 rfl rfl 6 (by decide) (hts _ kX0_add_f30) (fun _ h9 => h9) rfl dX0_add_63 ?_
    refine lv_iload hx hb dX0_add_66 (lv_at hl 0 rfl) ?_
    refine lv_iload hx hb dX0_add_68 (lv_at hl 6 rfl) ?_
    refine z_iast (k := n) (x := t) hx hb hK hP hD hS 7 rfl (by decide) (by omega) dX0_add_70 (fun H locs hP hD hS => ?_)
    have hP : va_P D vwCl (wC cI h n (upC (upC (upC (upC (upC (upC (upC C 0 n a) 1 n b) 2 n r0) 3 n q) 4 n 0) 5 n (-1)) 6 n t)) H := hP
    have hD : va_D A (wC cI h n (upC (upC (upC (upC (upC (upC (upC C 0 n a) 1 n b) 2 n r0) 3 n q) 4 n 0) 5 n (-1)) 6 n t)) := hD
    refine lv_aload_n hx hb dX0_add_71 rfl (lv_at hl 1 rfl) ?_
    refine va_get (D := D) (ci := 1) (v := .ref (h 8)) (C := RX0) (T := TX0) (N := 10) hx hb hts kX0_add_inX0 hown hK hP 0 rfl rfl 7 (by decide) (hts _ kX0_add_f33) (fun _ h9 => h9) rfl dX0_add_72 ?_
    refine lv_iload hx hb dX0_add_75 (lv_at hl 0 rfl) ?_
    refine lv_iconst (v := (-1)) hx hb dX0_add_77 (by decide) ?_
    refine z_iast (k := n) (x := (-1)) hx hb hK hP hD hS 8 rfl (by decide) (by omega) dX0_add_78 (fun H locs hP hD hS => ?_)
    have hP : va_P D vwCl (wC cI h n (upC (upC (upC (upC (upC (upC (upC (upC C 0 n a) 1 n b) 2 n r0) 3 n q) 4 n 0) 5 n (-1)) 6 n t) 7 n (-1))) H := hP
    have hD : va_D A (wC cI h n (upC (upC (upC (upC (upC (upC (upC (upC C 0 n a) 1 n b) 2 n r0) 3 n q) 4 n 0) 5 n (-1)) 6 n t) 7 n (-1))) := hD
    refine lv_aload_n hx hb dX0_add_79 rfl (lv_at hl 1 rfl) ?_
    refine va_get (D := D) (ci := 1) (v := .ref (h 9)) (C := RX0) (T := TX0) (N := 10) hx hb hts kX0_add_inX0 hown hK hP 0 rfl rfl 8 (by decide) (hts _ kX0_add_f36) (fun _ h9 => h9) rfl dX0_add_80 ?_
    refine lv_iload hx hb dX0_add_83 (lv_at hl 0 rfl) ?_
    refine lv_iconst (v := (-1)) hx hb dX0_add_85 (by decide) ?_
    refine z_iast (k := n) (x := (-1)) hx hb hK hP hD hS 9 rfl (by decide) (by omega) dX0_add_86 (fun H locs hP hD hS => ?_)
    have hP : va_P D vwCl (wC cI h n (upC (upC (upC (upC (upC (upC (upC (upC (upC C 0 n a) 1 n b) 2 n r0) 3 n q) 4 n 0) 5 n (-1)) 6 n t) 7 n (-1)) 8 n (-1))) H := hP
    have hD : va_D A (wC cI h n (upC (upC (upC (upC (upC (upC (upC (upC (upC C 0 n a) 1 n b) 2 n r0) 3 n q) 4 n 0) 5 n (-1)) 6 n t) 7 n (-1)) 8 n (-1))) := hD
    refine lv_aload_n hx hb dX0_add_87 rfl (lv_at hl 1 rfl) ?_
    refine lv_dup hx hb dX0_add_88 rfl ?_
    refine va_get (D := D) (ci := 1) (v := .int (nI n)) (C := RX0) (T := TX0) (N := 10) hx hb hts kX0_add_inX0 hown hK hP 0 rfl rfl 9 (by decide) (hts _ kX0_add_f39) (fun _ h9 => h9) rfl dX0_add_89 ?_
    refine lv_iconst (v := 1) hx hb dX0_add_92 (by decide) ?_
    refine zn_add (i := n) (j := 1) hx hb dX0_add_93 ?_
    refine va_put (D := D) (ci := 1) (v := .int (nI (n + 1))) (ty := .int) (C := RX0) (T := TX0) (N := 10) hx hb hts kX0_add_inX0 tyX0 tyX0_ok nmX0 hown hK hP hD hS 0 rfl rfl 9 (by decide) (hts _ kX0_add_f39) (fun _ h9 => h9) rfl (by decide +kernel) rfl rfl (Nat.le_of_ble_eq_true rfl) dX0_add_94 (fun H locs hP hD hS => ?_)
    have hP : va_P D vwCl (wC cI h (n + 1) (upC (upC (upC (upC (upC (upC (upC (upC (upC C 0 n a) 1 n b) 2 n r0) 3 n q) 4 n 0) 5 n (-1)) 6 n t) 7 n (-1)) 8 n (-1))) H := hP
    have hD : va_D A (wC cI h (n + 1) (upC (upC (upC (upC (upC (upC (upC (upC (upC C 0 n a) 1 n b) 2 n r0) 3 n q) 4 n 0) 5 n (-1)) 6 n t) 7 n (-1)) 8 n (-1))) := hD
    refine lv_iload hx hb dX0_add_97 (lv_at hl 0 rfl) ?_
    exact z_iret hx hb hr hlocks hS hP rfl dX0_add_99 (⟨rfl, rfl⟩)
