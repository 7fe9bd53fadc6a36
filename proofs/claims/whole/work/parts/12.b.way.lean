theorem kX3_leastWay_iRX0 : Cond.initialized yX0_setFrom.cls ∈ wsX3_leastWay := by decide +kernel
theorem kX3_leastWay_nX0_setFrom : Cond.instanceMethod yX0_setFrom ∈ wsX3_leastWay := by decide +kernel
theorem kX3_leastWay_eX0_setFrom : Cond.selects RX0 yX0_setFrom yX0_setFrom ∈ wsX3_leastWay := by decide +kernel
theorem kX3_leastWay_nX0_setTo : Cond.instanceMethod yX0_setTo ∈ wsX3_leastWay := by decide +kernel
theorem kX3_leastWay_eX0_setTo : Cond.selects RX0 yX0_setTo yX0_setTo ∈ wsX3_leastWay := by decide +kernel
set_option maxHeartbeats 4000000 in
set_option maxRecDepth 100000 in
theorem tX3_leastWay_0 (l : Launch) (D : va_G) (cI cZ cJ : ClassId) (h : Nat → Nat) (n : Nat) (C : Nat → Nat → Int32) (hn : n ≤ 24) (a wt ab : Int32)  : ∀ sz : Nat, zMi l yX3_leastWay wsX3_leastWay (rmL 0) D cI cZ cJ (wC cI h n C) sz [.ref (h 0), .int a, .int wt, .int ab, .int (nI 8)] (fun r w' => r = lwF C n 0 a wt ab ∧ w' = wC cI h n C) := by
  intro sz
  refine z_head (y := yX3_leastWay) (av := [.ref (h 0), .int a, .int wt, .int ab, .int (nI 8)]) (w := (wC cI h n C)) (Qc := fun A => zQi D (wC cI h n C) (fun r w' => r = lwF C n 0 a wt ab ∧ w' = wC cI h n C) A) (cc := cX3_leastWay) (maxL := 12) (ret := (some .int)) (by decide) rfl (Nat.le_of_ble_eq_true rfl) ?_
  intro p e s m below meth c ls A hat hP hD hS hl
  obtain ⟨hx, hb, hr, hml, hlocks, hts, hown, hin, hK, hE, hA⟩ := hat
  have hP : va_P D vwCl (wC cI h n C) s.heap := hP
  have hD : va_D A (wC cI h n C) := hD
  have hl : lv_has ls 12 [(0, .ref (h 0)), (1, .int a), (2, .int wt), (3, .int ab), (4, .int (nI 8))] := hl
  refine lv_iload_n hx hb dX3_leastWay_0 rfl (lv_at hl 2 rfl) ?_
  refine lv_aload_n hx hb dX3_leastWay_1 rfl (lv_at hl 0 rfl) ?_
  refine lv_iload_n hx hb dX3_leastWay_2 rfl (lv_at hl 1 rfl) ?_
  refine z_backi (z_runVN (n := 1) (As := [.int a]) (ci := 1) (rest := [.int wt]) hx hb hml hown hts hK hE hP hD [0, 1, 2, 3, 4, 5, 6, 7, 8, 9] rfl (by decide) (tX0_setFrom l D cI cZ cJ h n C a (by omega) _) gX3_leastWay_X0_setFrom_n262 rfl rfl rfl zl_RX3_262 kX3_leastWay_iRX0 kX3_leastWay_nX0_setFrom kX3_leastWay_eX0_setFrom (by decide +kernel) ⟨by dsimp only; omega, by dsimp only; omega⟩ rfl rfl rfl hl.1 rfl (Nat.le_of_ble_eq_true rfl) dX3_leastWay_3 ⟨Nat.zero_le _, Nat.zero_le _⟩) hP hD hS hA [0, 1, 2, 3, 4, 5, 6, 7, 8, 9] rfl (fun r1 w1 H locs hp1 hP hD hS => ?_)
  obtain ⟨rfl, rfl⟩ := hp1
  have hP : va_P D vwCl (wC cI h n C) H := hP
  have hD : va_D A (wC cI h n C) := hD
  refine lv_iconst (v := (-1)) hx hb dX3_leastWay_6 (by decide) ?_
  refine lv_ixor (x := setG (fun k => decide (C 0 k = a)) nI n) (y := (-1)) hx hb dX3_leastWay_7 ?_
  refine lv_iand (x := wt) (y := (setG (fun k => decide (C 0 k = a)) nI n) ^^^ (-1)) hx hb dX3_leastWay_8 ?_
  generalize esw : wt &&& ((setG (fun k => decide (C 0 k = a)) nI n) ^^^ (-1)) = sw
  refine lv_istore (lv' := [(5, .int sw), (0, .ref (h 0)), (1, .int a), (2, .int wt), (3, .int ab), (4, .int (nI 8))]) hx hb dX3_leastWay_9 hl (by decide) rfl (fun ls hl => ?_)
  refine lv_iload_n hx hb dX3_leastWay_11 rfl (lv_at hl 3 rfl) ?_
  refine lv_iload hx hb dX3_leastWay_12 (lv_at hl 0 rfl) ?_
  refine lv_iconst (v := (-1)) hx hb dX3_leastWay_14 (by decide) ?_
  refine lv_ixor (x := sw) (y := (-1)) hx hb dX3_leastWay_15 ?_
  refine lv_iand (x := wt) (y := sw ^^^ (-1)) hx hb dX3_leastWay_16 ?_
  generalize efe : wt &&& (sw ^^^ (-1)) = fe
  refine lv_istore (lv' := [(6, .int fe), (5, .int sw), (0, .ref (h 0)), (1, .int a), (2, .int wt), (3, .int ab), (4, .int (nI 8))]) hx hb dX3_leastWay_17 hl (by decide) rfl (fun ls hl => ?_)
  refine lv_iload_n hx hb dX3_leastWay_19 rfl (lv_at hl 5 rfl) ?_
  refine lv_iload hx hb dX3_leastWay_20 (lv_at hl 0 rfl) ?_
  refine lv_ior (x := ab) (y := fe) hx hb dX3_leastWay_22 ?_
  refine lv_aload_n hx hb dX3_leastWay_23 rfl (lv_at hl 2 rfl) ?_
  refine lv_iload_n hx hb dX3_leastWay_24 rfl (lv_at hl 3 rfl) ?_
  refine z_backi (z_runVN (n := 1) (As := [.int a]) (ci := 1) (rest := [.int (ab ||| fe)]) hx hb hml hown hts hK hE hP hD [0, 1, 2, 3, 4, 5, 6, 7, 8, 9] rfl (by decide) (tX0_setTo l D cI cZ cJ h n C a (by omega) _) gX3_leastWay_X0_setTo_n265 rfl rfl rfl zl_RX3_265 kX3_leastWay_iRX0 kX3_leastWay_nX0_setTo kX3_leastWay_eX0_setTo (by decide +kernel) ⟨by dsimp only; omega, by dsimp only; omega⟩ rfl rfl rfl hl.1 rfl (Nat.le_of_ble_eq_true rfl) dX3_leastWay_25 ⟨Nat.zero_le _, Nat.zero_le _⟩) hP hD hS hA [0, 1, 2, 3, 4, 5, 6, 7, 8, 9] rfl (fun r2 w1 H locs hp2 hP hD hS => ?_)
  obtain ⟨rfl, rfl⟩ := hp2
  have hP : va_P D vwCl (wC cI h n C) H := hP
  have hD : va_D A (wC cI h n C) := hD
  refine lv_iconst (v := (-1)) hx hb dX3_leastWay_28 (by decide) ?_
  refine lv_ixor (x := setG (fun k => decide (C 1 k = a)) nI n) (y := (-1)) hx hb dX3_leastWay_29 ?_
  refine lv_iand (x := ab ||| fe) (y := (setG (fun k => decide (C 1 k = a)) nI n) ^^^ (-1)) hx hb dX3_leastWay_30 ?_
  generalize esa : (ab ||| fe) &&& ((setG (fun k => decide (C 1 k = a)) nI n) ^^^ (-1)) = sa
  refine lv_istore (lv' := [(7, .int sa), (6, .int fe), (5, .int sw), (0, .ref (h 0)), (1, .int a), (2, .int wt), (3, .int ab), (4, .int (nI 8))]) hx hb dX3_leastWay_31 hl (by decide) rfl (fun ls hl => ?_)
  refine lv_iload hx hb dX3_leastWay_33 (lv_at hl 2 rfl) ?_
  refine lv_iload hx hb dX3_leastWay_35 (lv_at hl 0 rfl) ?_
  refine lv_ior (x := sw) (y := sa) hx hb dX3_leastWay_37 ?_
  have hsw : swI C n a wt = sw := esw
  have hsa : saI C n a wt ab = sa := by unfold saI; rw [hsw, efe, esa]
  refine lv_if_eq (x := sw ||| sa) (tgt := 48) hx hb dX3_leastWay_38 (by decide) (fun c38 => ?_) (fun c38 => ?_)
  · skip
    refine lv_iconst (v := 0) hx hb dX3_leastWay_48 (by decide) ?_
    exact z_iret hx hb hr hlocks hS hP rfl dX3_leastWay_49 (⟨rfl, rfl⟩)
  · skip
    refine lv_iload hx hb dX3_leastWay_41 (lv_at hl 7 rfl) ?_
    refine lv_bipush (v := 8) hx hb dX3_leastWay_43 (by decide) ?_
    refine zn_lt (i := 8) (j := 8) (tgt := 50) hx hb (by omega) (by omega) dX3_leastWay_45 (by decide) (fun c45 => ?_) (fun c45 => ?_)
    · exact absurd c45 (by omega)
    · skip
      refine lv_iconst (v := 0) hx hb dX3_leastWay_48 (by decide) ?_
      exact z_iret hx hb hr hlocks hS hP rfl dX3_leastWay_49 (⟨rfl, rfl⟩)

theorem kX3_leastWay_nX0_nearestStop : Cond.instanceMethod yX0_nearestStop ∈ wsX3_leastWay := by decide +kernel
theorem kX3_leastWay_eX0_nearestStop : Cond.selects RX0 yX0_nearestStop yX0_nearestStop ∈ wsX3_leastWay := by decide +kernel
theorem kX3_leastWay_m9 : Cond.methodLink RX3 9 Lib.Math.min.name ∈ wsX3_leastWay := by decide +kernel
theorem kX3_leastWay_smin : Cond.static Lib.Math.min.name ∈ wsX3_leastWay := by decide +kernel
theorem kX3_leastWay_iMath : Cond.initialized "java/lang/Math" ∈ wsX3_leastWay := by decide +kernel
theorem kX3_leastWay_cmin : Cond.code Lib.Math.min.name Lib.Math.min.code 2 (some .int) ∈ wsX3_leastWay := by decide +kernel
theorem kX3_leastWay_c272 : Cond.constant RX3 272 (2147483647) ∈ wsX3_leastWay := by decide +kernel
set_option maxHeartbeats 4000000 in
set_option maxRecDepth 100000 in
theorem tX3_leastWay_s (l : Launch) (D : va_G) (cI cZ cJ : ClassId) (h : Nat → Nat) (n : Nat) (C : Nat → Nat → Int32) (hn : n ≤ 24) (f dp : Nat) (hdp : dp + (f + 1) = 8) (ih : ∀ (a wt ab : Int32) (sz : Nat), zMi l yX3_leastWay wsX3_leastWay (rmL f) D cI cZ cJ (wC cI h n C) sz [.ref (h 0), .int a, .int wt, .int ab, .int (nI (dp + 1))] (fun r w' => r = lwF C n f a wt ab ∧ w' = wC cI h n C)) (a wt ab : Int32)  : ∀ sz : Nat, zMi l yX3_leastWay wsX3_leastWay (rmL (f + 1)) D cI cZ cJ (wC cI h n C) sz [.ref (h 0), .int a, .int wt, .int ab, .int (nI dp)] (fun r w' => r = lwF C n (f + 1) a wt ab ∧ w' = wC cI h n C) := by
  intro sz
  refine z_head (y := yX3_leastWay) (av := [.ref (h 0), .int a, .int wt, .int ab, .int (nI dp)]) (w := (wC cI h n C)) (Qc := fun A => zQi D (wC cI h n C) (fun r w' => r = lwF C n (f + 1) a wt ab ∧ w' = wC cI h n C) A) (cc := cX3_leastWay) (maxL := 12) (ret := (some .int)) (by decide) rfl (Nat.le_of_ble_eq_true rfl) ?_
  intro p e s m below meth c ls A hat hP hD hS hl
  obtain ⟨hx, hb, hr, hml, hlocks, hts, hown, hin, hK, hE, hA⟩ := hat
  have hP : va_P D vwCl (wC cI h n C) s.heap := hP
  have hD : va_D A (wC cI h n C) := hD
  have hl : lv_has ls 12 [(0, .ref (h 0)), (1, .int a), (2, .int wt), (3, .int ab), (4, .int (nI dp))] := hl
  refine lv_iload_n hx hb dX3_leastWay_0 rfl (lv_at hl 2 rfl) ?_
  refine lv_aload_n hx hb dX3_leastWay_1 rfl (lv_at hl 0 rfl) ?_
  refine lv_iload_n hx hb dX3_leastWay_2 rfl (lv_at hl 1 rfl) ?_
  refine z_backi (z_runVN (n := 1) (As := [.int a]) (ci := 1) (rest := [.int wt]) hx hb hml hown hts hK hE hP hD [0, 1, 2, 3, 4, 5, 6, 7, 8, 9] rfl (by decide) (tX0_setFrom l D cI cZ cJ h n C a (by omega) _) gX3_leastWay_X0_setFrom_n262 rfl rfl rfl zl_RX3_262 kX3_leastWay_iRX0 kX3_leastWay_nX0_setFrom kX3_leastWay_eX0_setFrom (by decide +kernel) ⟨by dsimp only; omega, by dsimp only; omega⟩ rfl rfl rfl hl.1 rfl (Nat.le_of_ble_eq_true rfl) dX3_leastWay_3 ⟨Nat.zero_le _, Nat.zero_le _⟩) hP hD hS hA [0, 1, 2, 3, 4, 5, 6, 7, 8, 9] rfl (fun r1 w1 H locs hp1 hP hD hS => ?_)
  obtain ⟨rfl, rfl⟩ := hp1
  have hP : va_P D vwCl (wC cI h n C) H := hP
  have hD : va_D A (wC cI h n C) := hD
  refine lv_iconst (v := (-1)) hx hb dX3_leastWay_6 (by decide) ?_
  refine lv_ixor (x := setG (fun k => decide (C 0 k = a)) nI n) (y := (-1)) hx hb dX3_leastWay_7 ?_
  refine lv_iand (x := wt) (y := (setG (fun k => decide (C 0 k = a)) nI n) ^^^ (-1)) hx hb dX3_leastWay_8 ?_
  generalize esw : wt &&& ((setG (fun k => decide (C 0 k = a)) nI n) ^^^ (-1)) = sw
  refine lv_istore (lv' := [(5, .int sw), (0, .ref (h 0)), (1, .int a), (2, .int wt), (3, .int ab), (4, .int (nI dp))]) hx hb dX3_leastWay_9 hl (by decide) rfl (fun ls hl => ?_)
  refine lv_iload_n hx hb dX3_leastWay_11 rfl (lv_at hl 3 rfl) ?_
  refine lv_iload hx hb dX3_leastWay_12 (lv_at hl 0 rfl) ?_
  refine lv_iconst (v := (-1)) hx hb dX3_leastWay_14 (by decide) ?_
  refine lv_ixor (x := sw) (y := (-1)) hx hb dX3_leastWay_15 ?_
  refine lv_iand (x := wt) (y := sw ^^^ (-1)) hx hb dX3_leastWay_16 ?_
  generalize efe : wt &&& (sw ^^^ (-1)) = fe
  refine lv_istore (lv' := [(6, .int fe), (5, .int sw), (0, .ref (h 0)), (1, .int a), (2, .int wt), (3, .int ab), (4, .int (nI dp))]) hx hb dX3_leastWay_17 hl (by decide) rfl (fun ls hl => ?_)
  refine lv_iload_n hx hb dX3_leastWay_19 rfl (lv_at hl 5 rfl) ?_
  refine lv_iload hx hb dX3_leastWay_20 (lv_at hl 0 rfl) ?_
  refine lv_ior (x := ab) (y := fe) hx hb dX3_leastWay_22 ?_
  refine lv_aload_n hx hb dX3_leastWay_23 rfl (lv_at hl 2 rfl) ?_
  refine lv_iload_n hx hb dX3_leastWay_24 rfl (lv_at hl 3 rfl) ?_
  refine z_backi (z_runVN (n := 1) (As := [.int a]) (ci := 1) (rest := [.int (ab ||| fe)]) hx hb hml hown hts hK hE hP hD [0, 1, 2, 3, 4, 5, 6, 7, 8, 9] rfl (by decide) (tX0_setTo l D cI cZ cJ h n C a (by omega) _) gX3_leastWay_X0_setTo_n265 rfl rfl rfl zl_RX3_265 kX3_leastWay_iRX0 kX3_leastWay_nX0_setTo kX3_leastWay_eX0_setTo (by decide +kernel) ⟨by dsimp only; omega, by dsimp only; omega⟩ rfl rfl rfl hl.1 rfl (Nat.le_of_ble_eq_true rfl) dX3_leastWay_25 ⟨Nat.zero_le _, Nat.zero_le _⟩) hP hD hS hA [0, 1, 2, 3, 4, 5, 6, 7, 8, 9] rfl (fun r2 w1 H locs hp2 hP hD hS => ?_)
  obtain ⟨rfl, rfl⟩ := hp2
  have hP : va_P D vwCl (wC cI h n C) H := hP
  have hD : va_D A (wC cI h n C) := hD
  refine lv_iconst (v := (-1)) hx hb dX3_leastWay_28 (by decide) ?_
  refine lv_ixor (x := setG (fun k => decide (C 1 k = a)) nI n) (y := (-1)) hx hb dX3_leastWay_29 ?_
  refine lv_iand (x := ab ||| fe) (y := (setG (fun k => decide (C 1 k = a)) nI n) ^^^ (-1)) hx hb dX3_leastWay_30 ?_
  generalize esa : (ab ||| fe) &&& ((setG (fun k => decide (C 1 k = a)) nI n) ^^^ (-1)) = sa
  refine lv_istore (lv' := [(7, .int sa), (6, .int fe), (5, .int sw), (0, .ref (h 0)), (1, .int a), (2, .int wt), (3, .int ab), (4, .int (nI dp))]) hx hb dX3_leastWay_31 hl (by decide) rfl (fun ls hl => ?_)
  refine lv_iload hx hb dX3_leastWay_33 (lv_at hl 2 rfl) ?_
  refine lv_iload hx hb dX3_leastWay_35 (lv_at hl 0 rfl) ?_
  refine lv_ior (x := sw) (y := sa) hx hb dX3_leastWay_37 ?_
  have hsw : swI C n a wt = sw := esw
  have hsa : saI C n a wt ab = sa := by unfold saI; rw [hsw, efe, esa]
  refine lv_if_eq (x := sw ||| sa) (tgt := 48) hx hb dX3_leastWay_38 (by decide) (fun c38 => ?_) (fun c38 => ?_)
  · skip
    refine lv_iconst (v := 0) hx hb dX3_leastWay_48 (by decide) ?_
    exact z_iret hx hb hr hlocks hS hP rfl dX3_leastWay_49 (⟨by rw [lwF, hsw, hsa, if_pos c38], rfl⟩)
  · skip
    refine lv_iload hx hb dX3_leastWay_41 (lv_at hl 7 rfl) ?_
    refine lv_bipush (v := 8) hx hb dX3_leastWay_43 (by decide) ?_
    refine zn_lt (i := dp) (j := 8) (tgt := 50) hx hb (by omega) (by omega) dX3_leastWay_45 (by decide) (fun c45 => ?_) (fun c45 => ?_)
    · skip
      refine lv_aload_n hx hb dX3_leastWay_50 rfl (lv_at hl 3 rfl) ?_
      refine lv_iload_n hx hb dX3_leastWay_51 rfl (lv_at hl 4 rfl) ?_
      refine lv_iconst (v := 1) hx hb dX3_leastWay_52 (by decide) ?_
      refine lv_iload hx hb dX3_leastWay_53 (lv_at hl 2 rfl) ?_
      refine lv_iload hx hb dX3_leastWay_55 (lv_at hl 0 rfl) ?_
      refine z_backi (z_runVN (n := 4) (As := [.int a, .int 1, .int sw, .int sa]) (ci := 1) (rest := []) hx hb hml hown hts hK hE hP hD [0, 1, 2, 3, 4, 5, 6, 7, 8, 9] rfl (by decide) (tX0_nearestStop l D cI cZ cJ h n C a 1 sw sa (by omega) _) gX3_leastWay_X0_nearestStop_n268 rfl rfl rfl zl_RX3_268 kX3_leastWay_iRX0 kX3_leastWay_nX0_nearestStop kX3_leastWay_eX0_nearestStop (by decide +kernel) ⟨by dsimp only; omega, by dsimp only; omega⟩ rfl rfl rfl hl.1 rfl (Nat.le_of_ble_eq_true rfl) dX3_leastWay_57 ⟨Nat.zero_le _, Nat.zero_le _⟩) hP hD hS hA [0, 1, 2, 3, 4, 5, 6, 7, 8, 9] rfl (fun r3 w1 H locs hp3 hP hD hS => ?_)
      obtain ⟨rfl, rfl⟩ := hp3
      have hP : va_P D vwCl (wC cI h n C) H := hP
      have hD : va_D A (wC cI h n C) := hD
      generalize eup : (nsF C a 1 sw sa n).1 = up
      refine lv_istore (lv' := [(8, .int up), (7, .int sa), (6, .int fe), (5, .int sw), (0, .ref (h 0)), (1, .int a), (2, .int wt), (3, .int ab), (4, .int (nI dp))]) hx hb dX3_leastWay_60 hl (by decide) rfl (fun ls hl => ?_)
      refine lv_aload_n hx hb dX3_leastWay_62 rfl (lv_at hl 4 rfl) ?_
      refine lv_iload_n hx hb dX3_leastWay_63 rfl (lv_at hl 5 rfl) ?_
      refine lv_iconst (v := (-1)) hx hb dX3_leastWay_64 (by decide) ?_
      refine lv_iload hx hb dX3_leastWay_65 (lv_at hl 3 rfl) ?_
      refine lv_iload hx hb dX3_leastWay_67 (lv_at hl 1 rfl) ?_
      refine z_backi (z_runVN (n := 4) (As := [.int a, .int (-1), .int sw, .int sa]) (ci := 1) (rest := []) hx hb hml hown hts hK hE hP hD [0, 1, 2, 3, 4, 5, 6, 7, 8, 9] rfl (by decide) (tX0_nearestStop l D cI cZ cJ h n C a (-1) sw sa (by omega) _) gX3_leastWay_X0_nearestStop_n268 rfl rfl rfl zl_RX3_268 kX3_leastWay_iRX0 kX3_leastWay_nX0_nearestStop kX3_leastWay_eX0_nearestStop (by decide +kernel) ⟨by dsimp only; omega, by dsimp only; omega⟩ rfl rfl rfl hl.1 rfl (Nat.le_of_ble_eq_true rfl) dX3_leastWay_69 ⟨Nat.zero_le _, Nat.zero_le _⟩) hP hD hS hA [0, 1, 2, 3, 4, 5, 6, 7, 8, 9] rfl (fun r4 w1 H locs hp4 hP hD hS => ?_)
      obtain ⟨rfl, rfl⟩ := hp4
      have hP : va_P D vwCl (wC cI h n C) H := hP
      have hD : va_D A (wC cI h n C) := hD
      generalize edn : (nsF C a (-1) sw sa n).1 = dn
      refine lv_istore (lv' := [(9, .int dn), (8, .int up), (7, .int sa), (6, .int fe), (5, .int sw), (0, .ref (h 0)), (1, .int a), (2, .int wt), (3, .int ab), (4, .int (nI dp))]) hx hb dX3_leastWay_72 hl (by decide) rfl (fun ls hl => ?_)
      refine lv_iload hx hb dX3_leastWay_74 (lv_at hl 1 rfl) ?_
      refine lv_iconst (v := (-1)) hx hb dX3_leastWay_76 (by decide) ?_
      refine lv_icmp_ne (x := up) (y := (-1)) (tgt := 86) hx hb dX3_leastWay_77 (by decide) (fun c77 => ?_) (fun c77 => ?_)
      · skip
        refine lv_iload hx hb dX3_leastWay_86 (lv_at hl 1 rfl) ?_
        refine lv_iload_n hx hb dX3_leastWay_88 rfl (lv_at hl 6 rfl) ?_
        refine lv_isub (x := up) (y := a) hx hb dX3_leastWay_89 ?_
        refine lv_aload_n hx hb dX3_leastWay_90 rfl (lv_at hl 5 rfl) ?_
        refine lv_iload hx hb dX3_leastWay_91 (lv_at hl 1 rfl) ?_
        refine lv_iload hx hb dX3_leastWay_93 (lv_at hl 4 rfl) ?_
        refine lv_iload hx hb dX3_leastWay_95 (lv_at hl 2 rfl) ?_
        refine lv_iload hx hb dX3_leastWay_97 (lv_at hl 9 rfl) ?_
        refine lv_iconst (v := 1) hx hb dX3_leastWay_99 (by decide) ?_
        refine zn_add (i := dp) (j := 1) hx hb dX3_leastWay_100 ?_
        refine z_backiA (z_runSA (n := 5) (As := [.ref (h 0), .int up, .int sw, .int sa, .int (nI (dp + 1))]) (rest := [.int (up - a)]) hx hb hml hown hts hK hE hP hD (ih up sw sa _) gX3_leastWay_X3_leastWay rfl rfl rfl (by decide +kernel) ⟨by dsimp only; omega, by dsimp only; omega⟩ rfl hl.1 rfl (Nat.le_of_ble_eq_true rfl) dX3_leastWay_101 ⟨Nat.zero_le _, Nat.zero_le _⟩) hD hS hA (fun r5 w1 H locs hp5 hP hD hS => ?_)
        obtain ⟨rfl, rfl⟩ := hp5
        have hP : va_P D vwCl (wC cI h n C) H := hP
        have hD : va_D A (wC cI h n C) := hD
        refine lv_iadd (x := up - a) (y := lwF C n f up sw sa) hx hb dX3_leastWay_104 ?_
        refine lv_istore (lv' := [(10, .int ((up - a) + (lwF C n f up sw sa))), (9, .int dn), (8, .int up), (7, .int sa), (6, .int fe), (5, .int sw), (0, .ref (h 0)), (1, .int a), (2, .int wt), (3, .int ab), (4, .int (nI dp))]) hx hb dX3_leastWay_105 hl (by decide) rfl (fun ls hl => ?_)
        refine lv_iload hx hb dX3_leastWay_107 (lv_at hl 1 rfl) ?_
        refine lv_iconst (v := (-1)) hx hb dX3_leastWay_109 (by decide) ?_
        refine lv_icmp_ne (x := dn) (y := (-1)) (tgt := 119) hx hb dX3_leastWay_110 (by decide) (fun c110 => ?_) (fun c110 => ?_)
        · skip
          refine lv_iload_n hx hb dX3_leastWay_119 rfl (lv_at hl 7 rfl) ?_
          refine lv_iload hx hb dX3_leastWay_120 (lv_at hl 1 rfl) ?_
          refine lv_isub (x := a) (y := dn) hx hb dX3_leastWay_122 ?_
          refine lv_aload_n hx hb dX3_leastWay_123 rfl (lv_at hl 6 rfl) ?_
          refine lv_iload hx hb dX3_leastWay_124 (lv_at hl 1 rfl) ?_
          refine lv_iload hx hb dX3_leastWay_126 (lv_at hl 5 rfl) ?_
          refine lv_iload hx hb dX3_leastWay_128 (lv_at hl 3 rfl) ?_
          refine lv_iload hx hb dX3_leastWay_130 (lv_at hl 10 rfl) ?_
          refine lv_iconst (v := 1) hx hb dX3_leastWay_132 (by decide) ?_
          refine zn_add (i := dp) (j := 1) hx hb dX3_leastWay_133 ?_
          refine z_backiA (z_runSA (n := 5) (As := [.ref (h 0), .int dn, .int sw, .int sa, .int (nI (dp + 1))]) (rest := [.int (a - dn)]) hx hb hml hown hts hK hE hP hD (ih dn sw sa _) gX3_leastWay_X3_leastWay rfl rfl rfl (by decide +kernel) ⟨by dsimp only; omega, by dsimp only; omega⟩ rfl hl.1 rfl (Nat.le_of_ble_eq_true rfl) dX3_leastWay_134 ⟨Nat.zero_le _, Nat.zero_le _⟩) hD hS hA (fun r6 w1 H locs hp6 hP hD hS => ?_)
          obtain ⟨rfl, rfl⟩ := hp6
          have hP : va_P D vwCl (wC cI h n C) H := hP
          have hD : va_D A (wC cI h n C) := hD
          refine lv_iadd (x := a - dn) (y := lwF C n f dn sw sa) hx hb dX3_leastWay_137 ?_
          refine lv_istore (lv' := [(11, .int ((a - dn) + (lwF C n f dn sw sa))), (10, .int ((up - a) + (lwF C n f up sw sa))), (9, .int dn), (8, .int up), (7, .int sa), (6, .int fe), (5, .int sw), (0, .ref (h 0)), (1, .int a), (2, .int wt), (3, .int ab), (4, .int (nI dp))]) hx hb dX3_leastWay_138 hl (by decide) rfl (fun ls hl => ?_)
          refine lv_iload hx hb dX3_leastWay_140 (lv_at hl 1 rfl) ?_
          refine lv_iload hx hb dX3_leastWay_142 (lv_at hl 0 rfl) ?_
          refine va_mmin hx hb (hml.trans hl.1.symm) hown (hts _ kX3_leastWay_m9) (hts _ kX3_leastWay_smin) (hts _ kX3_leastWay_iMath) (hts _ kX3_leastWay_cmin) (by dsimp only; omega) (by simp <;> omega) (Nat.zero_le _) (Nat.zero_le _) dX3_leastWay_144 ?_
          exact z_iret hx hb hr hlocks hS hP rfl dX3_leastWay_147 (⟨by rw [lwF, hsw, hsa, eup, edn, if_neg c38]; simp only [if_neg c77, if_neg c110], rfl⟩)
        · skip
          refine lv_ldcw (v := 2147483647) hx hb hown (hts _ kX3_leastWay_c272) dX3_leastWay_113 ?_
          refine lv_goto (tgt := 138) hx hb dX3_leastWay_116 (by decide) ?_
          refine lv_istore (lv' := [(11, .int 2147483647), (10, .int ((up - a) + (lwF C n f up sw sa))), (9, .int dn), (8, .int up), (7, .int sa), (6, .int fe), (5, .int sw), (0, .ref (h 0)), (1, .int a), (2, .int wt), (3, .int ab), (4, .int (nI dp))]) hx hb dX3_leastWay_138 hl (by decide) rfl (fun ls hl => ?_)
          refine lv_iload hx hb dX3_leastWay_140 (lv_at hl 1 rfl) ?_
          refine lv_iload hx hb dX3_leastWay_142 (lv_at hl 0 rfl) ?_
          refine va_mmin hx hb (hml.trans hl.1.symm) hown (hts _ kX3_leastWay_m9) (hts _ kX3_leastWay_smin) (hts _ kX3_leastWay_iMath) (hts _ kX3_leastWay_cmin) (by dsimp only; omega) (by simp <;> omega) (Nat.zero_le _) (Nat.zero_le _) dX3_leastWay_144 ?_
          exact z_iret hx hb hr hlocks hS hP rfl dX3_leastWay_147 (⟨by rw [lwF, hsw, hsa, eup, edn, if_neg c38]; simp only [if_neg c77, if_pos c110], rfl⟩)
      · skip
        refine lv_ldcw (v := 2147483647) hx hb hown (hts _ kX3_leastWay_c272) dX3_leastWay_80 ?_
        refine lv_goto (tgt := 105) hx hb dX3_leastWay_83 (by decide) ?_
        refine lv_istore (lv' := [(10, .int 2147483647), (9, .int dn), (8, .int up), (7, .int sa), (6, .int fe), (5, .int sw), (0, .ref (h 0)), (1, .int a), (2, .int wt), (3, .int ab), (4, .int (nI dp))]) hx hb dX3_leastWay_105 hl (by decide) rfl (fun ls hl => ?_)
        refine lv_iload hx hb dX3_leastWay_107 (lv_at hl 1 rfl) ?_
        refine lv_iconst (v := (-1)) hx hb dX3_leastWay_109 (by decide) ?_
        refine lv_icmp_ne (x := dn) (y := (-1)) (tgt := 119) hx hb dX3_leastWay_110 (by decide) (fun c110 => ?_) (fun c110 => ?_)
        · skip
          refine lv_iload_n hx hb dX3_leastWay_119 rfl (lv_at hl 7 rfl) ?_
          refine lv_iload hx hb dX3_leastWay_120 (lv_at hl 1 rfl) ?_
          refine lv_isub (x := a) (y := dn) hx hb dX3_leastWay_122 ?_
          refine lv_aload_n hx hb dX3_leastWay_123 rfl (lv_at hl 6 rfl) ?_
          refine lv_iload hx hb dX3_leastWay_124 (lv_at hl 1 rfl) ?_
          refine lv_iload hx hb dX3_leastWay_126 (lv_at hl 5 rfl) ?_
          refine lv_iload hx hb dX3_leastWay_128 (lv_at hl 3 rfl) ?_
          refine lv_iload hx hb dX3_leastWay_130 (lv_at hl 10 rfl) ?_
          refine lv_iconst (v := 1) hx hb dX3_leastWay_132 (by decide) ?_
          refine zn_add (i := dp) (j := 1) hx hb dX3_leastWay_133 ?_
          refine z_backiA (z_runSA (n := 5) (As := [.ref (h 0), .int dn, .int sw, .int sa, .int (nI (dp + 1))]) (rest := [.int (a - dn)]) hx hb hml hown hts hK hE hP hD (ih dn sw sa _) gX3_leastWay_X3_leastWay rfl rfl rfl (by decide +kernel) ⟨by dsimp only; omega, by dsimp only; omega⟩ rfl hl.1 rfl (Nat.le_of_ble_eq_true rfl) dX3_leastWay_134 ⟨Nat.zero_le _, Nat.zero_le _⟩) hD hS hA (fun r7 w1 H locs hp7 hP hD hS => ?_)
          obtain ⟨rfl, rfl⟩ := hp7
          have hP : va_P D vwCl (wC cI h n C) H := hP
          have hD : va_D A (wC cI h n C) := hD
          refine lv_iadd (x := a - dn) (y := lwF C n f dn sw sa) hx hb dX3_leastWay_137 ?_
          refine lv_istore (lv' := [(11, .int ((a - dn) + (lwF C n f dn sw sa))), (10, .int 2147483647), (9, .int dn), (8, .int up), (7, .int sa), (6, .int fe), (5, .int sw), (0, .ref (h 0)), (1, .int a), (2, .int wt), (3, .int ab), (4, .int (nI dp))]) hx hb dX3_leastWay_138 hl (by decide) rfl (fun ls hl => ?_)
          refine lv_iload hx hb dX3_leastWay_140 (lv_at hl 1 rfl) ?_
          refine lv_iload hx hb dX3_leastWay_142 (lv_at hl 0 rfl) ?_
          refine va_mmin hx hb (hml.trans hl.1.symm) hown (hts _ kX3_leastWay_m9) (hts _ kX3_leastWay_smin) (hts _ kX3_leastWay_iMath) (hts _ kX3_leastWay_cmin) (by dsimp only; omega) (by simp <;> omega) (Nat.zero_le _) (Nat.zero_le _) dX3_leastWay_144 ?_
          exact z_iret hx hb hr hlocks hS hP rfl dX3_leastWay_147 (⟨by rw [lwF, hsw, hsa, eup, edn, if_neg c38]; simp only [if_pos c77, if_neg c110], rfl⟩)
        · skip
          refine lv_ldcw (v := 2147483647) hx hb hown (hts _ kX3_leastWay_c272) dX3_leastWay_113 ?_
          refine lv_goto (tgt := 138) hx hb dX3_leastWay_116 (by decide) ?_
          refine lv_istore (lv' := [(11, .int 2147483647), (10, .int 2147483647), (9, .int dn), (8, .int up), (7, .int sa), (6, .int fe), (5, .int sw), (0, .ref (h 0)), (1, .int a), (2, .int wt), (3, .int ab), (4, .int (nI dp))]) hx hb dX3_leastWay_138 hl (by decide) rfl (fun ls hl => ?_)
          refine lv_iload hx hb dX3_leastWay_140 (lv_at hl 1 rfl) ?_
          refine lv_iload hx hb dX3_leastWay_142 (lv_at hl 0 rfl) ?_
          refine va_mmin hx hb (hml.trans hl.1.symm) hown (hts _ kX3_leastWay_m9) (hts _ kX3_leastWay_smin) (hts _ kX3_leastWay_iMath) (hts _ kX3_leastWay_cmin) (by dsimp only; omega) (by simp <;> omega) (Nat.zero_le _) (Nat.zero_le _) dX3_leastWay_144 ?_
          exact z_iret hx hb hr hlocks hS hP rfl dX3_leastWay_147 (⟨by rw [lwF, hsw, hsa, eup, edn, if_neg c38]; simp only [if_pos c77, if_pos c110], rfl⟩)
    · exact absurd c45 (by omega)

/-- leastWay at depth dp -/
theorem tX3_leastWay_f (l : Launch) (D : va_G) (cI cZ cJ : ClassId) (h : Nat → Nat) (n : Nat) (C : Nat → Nat → Int32) (hn : n ≤ 24) : ∀ (f dp : Nat), dp + f = 8 → ∀ (a wt ab : Int32) (sz : Nat), zMi l yX3_leastWay wsX3_leastWay (rmL f) D cI cZ cJ (wC cI h n C) sz [.ref (h 0), .int a, .int wt, .int ab, .int (nI dp)] (fun r w' => r = lwF C n f a wt ab ∧ w' = wC cI h n C)
  | 0, dp, hd, a, wt, ab, sz => by
    obtain rfl : dp = 8 := by omega
    exact tX3_leastWay_0 l D cI cZ cJ h n C hn a wt ab sz
  | f + 1, dp, hd, a, wt, ab, sz => tX3_leastWay_s l D cI cZ cJ h n C hn f dp hd (fun a wt ab sz => tX3_leastWay_f l D cI cZ cJ h n C hn f (dp + 1) (by omega) a wt ab sz) a wt ab sz
theorem tX3_leastWay (l : Launch) (D : va_G) (cI cZ cJ : ClassId) (h : Nat → Nat) (n : Nat) (C : Nat → Nat → Int32) (hn : n ≤ 24) (a wt ab : Int32) (sz : Nat) : zMi l yX3_leastWay wsX3_leastWay (rmL 8) D cI cZ cJ (wC cI h n C) sz [.ref (h 0), .int a, .int wt, .int ab, .int 0] (fun r w' => r = lwF C n 8 a wt ab ∧ w' = wC cI h n C) := tX3_leastWay_f l D cI cZ cJ h n C hn 8 0 rfl a wt ab sz
