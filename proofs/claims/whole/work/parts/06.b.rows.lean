theorem kX3_nearestLift_inX3 : ∀ w ∈ wsX30, w ∈ wsX3_nearestLift := by decide +kernel
theorem kX3_nearestLift_f25 : Cond.fieldLink RX3 25 "LiftRows2" "lifts" "LLiftRows2$Lifts;" ∈ wsX3_nearestLift := by decide +kernel
theorem kX3_nearestLift_inX2 : ∀ w ∈ wsX20, w ∈ wsX3_nearestLift := by decide +kernel
theorem kX3_nearestLift_m212 : Cond.methodLink RX3 212 Lib.Math.abs.name ∈ wsX3_nearestLift := by decide +kernel
theorem kX3_nearestLift_sabs : Cond.static Lib.Math.abs.name ∈ wsX3_nearestLift := by decide +kernel
theorem kX3_nearestLift_iMath : Cond.initialized "java/lang/Math" ∈ wsX3_nearestLift := by decide +kernel
theorem kX3_nearestLift_cabs : Cond.code Lib.Math.abs.name Lib.Math.abs.code 1 (some .int) ∈ wsX3_nearestLift := by decide +kernel
theorem kX3_nearestLift_iRX2 : Cond.initialized yX2_mayGet.cls ∈ wsX3_nearestLift := by decide +kernel
theorem kX3_nearestLift_nX2_mayGet : Cond.instanceMethod yX2_mayGet ∈ wsX3_nearestLift := by decide +kernel
theorem kX3_nearestLift_eX2_mayGet : Cond.selects RX2 yX2_mayGet yX2_mayGet ∈ wsX3_nearestLift := by decide +kernel
set_option maxHeartbeats 4000000 in
set_option maxRecDepth 100000 in
theorem tX3_nearestLift (l : Launch) (D : va_G) (cI cZ cJ : ClassId) (h : Nat → Nat) (lev tm : Nat) (gn : Int32) (nL nC nE : Nat) (L B C E : Nat → Nat → Int32) (fr ld : Int32) (hL : nL ≤ 4)  : ∀ sz : Nat, zMi l yX3_nearestLift wsX3_nearestLift ({ frames := 1, cells := 0, slots := 0, locals := 22 } : Room) D cI cZ cJ (wX cI cZ h lev tm gn nL nC nE L B C E) sz [.ref (h 0), .int fr, .int ld] (fun r w' => r = (nlF L B fr ld nL).1 ∧ w' = wX cI cZ h lev tm gn nL nC nE L B C E) := by
  intro sz
  refine z_head (y := yX3_nearestLift) (av := [.ref (h 0), .int fr, .int ld]) (w := (wX cI cZ h lev tm gn nL nC nE L B C E)) (Qc := fun A => zQi D (wX cI cZ h lev tm gn nL nC nE L B C E) (fun r w' => r = (nlF L B fr ld nL).1 ∧ w' = wX cI cZ h lev tm gn nL nC nE L B C E) A) (cc := cX3_nearestLift) (maxL := 7) (ret := (some .int)) (by decide) rfl (Nat.le_of_ble_eq_true rfl) ?_
  intro p e s m below meth c ls A hat hP hD hS hl
  obtain ⟨hx, hb, hr, hml, hlocks, hts, hown, hin, hK, hE, hA⟩ := hat
  have hP : va_P D vwCl (wX cI cZ h lev tm gn nL nC nE L B C E) s.heap := hP
  have hD : va_D A (wX cI cZ h lev tm gn nL nC nE L B C E) := hD
  have hl : lv_has ls 7 [(0, .ref (h 0)), (1, .int fr), (2, .int ld)] := hl
  have L9 : ∀ (fu : Nat) (i : Nat) (x : Int32) (y : Int32), i ≤ nL → nL + 1 ≤ i + fu → ((x, y) = nlF L B fr ld i) → ∀ (H : Heap) (locs : List Loc) (ls : Array Slot), lv_has ls 7 [(0, .ref (h 0)), (1, .int fr), (2, .int ld), (3, .int x), (4, .int y), (5, .int (nI i))] → va_P D vwCl (wX cI cZ h lev tm gn nL nC nE L B C E) H → va_D A (wX cI cZ h lev tm gn nL nC nE L B C E) → va_S A s.heap H locs → W p l e ({ frames := 1, cells := 0, slots := 0, locals := 22 } : Room) s m ([.ref (h 0), .int fr, .int ld] : List Value).toArray below meth c H locs 0 0 (MQ below (zQi D (wX cI cZ h lev tm gn nL nC nE L B C E) (fun r w' => r = (nlF L B fr ld nL).1 ∧ w' = wX cI cZ h lev tm gn nL nC nE L B C E) A) ([.ref (h 0), .int fr, .int ld] : List Value).toArray s 0 0 A) (F0 m 9 ls []) := by
    intro fu
    induction fu with
    | zero =>
      intro i x y h1 h2
      exact absurd h2 (by omega)
    | succ fu ih9 =>
      intro i x y hle hfu ex H locs ls hl hP hD hS
      refine lv_iload hx hb dX3_nearestLift_9 (lv_at hl 5 rfl) ?_
      refine lv_aload_n hx hb dX3_nearestLift_11 rfl (lv_at hl 0 rfl) ?_
      refine va_get (D := D) (ci := 4) (v := .ref (h 1)) (C := RX3) (T := TX3) (N := 5) hx hb hts kX3_nearestLift_inX3 hown hK hP 0 rfl rfl 1 (by decide) (hts _ kX3_nearestLift_f25) (fun _ h9 => h9) rfl dX3_nearestLift_12 ?_
      refine va_getN (D := D) (ci := 3) (v := .int (nI nL)) (C := RX2) (T := TX2) (N := 9) hx hb hts kX3_nearestLift_inX2 hown hK hP 1 rfl rfl 7 (by decide) (va_Nw.use rfl (hE _ zl_RX3_50)) (fun _ h9 => h9) rfl dX3_nearestLift_15 ?_
      refine zn_ge (i := i) (j := nL) (tgt := 71) hx hb (by omega) (by omega) dX3_nearestLift_18 (by decide) (fun c18 => ?_) (fun c18 => ?_)
      · skip
        refine lv_iload_n hx hb dX3_nearestLift_71 rfl (lv_at hl 3 rfl) ?_
        exact z_iret hx hb hr hlocks hS hP rfl dX3_nearestLift_72 (⟨by rw [← show i = nL by omega, ← ex], rfl⟩)
      · skip
        refine lv_aload_n hx hb dX3_nearestLift_21 rfl (lv_at hl 0 rfl) ?_
        refine va_get (D := D) (ci := 4) (v := .ref (h 1)) (C := RX3) (T := TX3) (N := 5) hx hb hts kX3_nearestLift_inX3 hown hK hP 0 rfl rfl 1 (by decide) (hts _ kX3_nearestLift_f25) (fun _ h9 => h9) rfl dX3_nearestLift_22 ?_
        refine va_getN (D := D) (ci := 3) (v := .ref (h 2)) (C := RX2) (T := TX2) (N := 9) hx hb hts kX3_nearestLift_inX2 hown hK hP 1 rfl rfl 0 (by decide) (va_Nw.use rfl (hE _ zl_RX3_111)) (fun _ h9 => h9) rfl dX3_nearestLift_25 ?_
        refine lv_iload hx hb dX3_nearestLift_28 (lv_at hl 5 rfl) ?_
        refine z_iald (k := i) (v := L 0 i) hx hb hK hP 2 rfl (by decide) (by omega) (rfl) dX3_nearestLift_30 ?_
        refine lv_iload_n hx hb dX3_nearestLift_31 rfl (lv_at hl 1 rfl) ?_
        refine lv_isub (x := L 0 i) (y := fr) hx hb dX3_nearestLift_32 ?_
        refine va_mabs hx hb (hml.trans hl.1.symm) hown (hts _ kX3_nearestLift_m212) (hts _ kX3_nearestLift_sabs) (hts _ kX3_nearestLift_iMath) (hts _ kX3_nearestLift_cabs) (Nat.le_of_ble_eq_true rfl) (Nat.le_of_ble_eq_true rfl) (Nat.zero_le _) (Nat.zero_le _) dX3_nearestLift_33 ?_
        refine lv_istore (lv' := [(6, .int (absI ((L 0 i) - fr))), (0, .ref (h 0)), (1, .int fr), (2, .int ld), (3, .int x), (4, .int y), (5, .int (nI i))]) hx hb dX3_nearestLift_36 hl (by decide) rfl (fun ls hl => ?_)
        refine lv_aload_n hx hb dX3_nearestLift_38 rfl (lv_at hl 1 rfl) ?_
        refine va_get (D := D) (ci := 4) (v := .ref (h 1)) (C := RX3) (T := TX3) (N := 5) hx hb hts kX3_nearestLift_inX3 hown hK hP 0 rfl rfl 1 (by decide) (hts _ kX3_nearestLift_f25) (fun _ h9 => h9) rfl dX3_nearestLift_39 ?_
        refine lv_iload hx hb dX3_nearestLift_42 (lv_at hl 6 rfl) ?_
        refine lv_iload_n hx hb dX3_nearestLift_44 rfl (lv_at hl 3 rfl) ?_
        refine z_backi (z_runVN (n := 2) (As := [.int (nI i), .int ld]) (ci := 3) (rest := []) hx hb hml hown hts hK hE hP hD [1, 2, 3, 4, 5, 6, 7, 8] rfl (by decide) (tX2_mayGet l D cI cZ cJ (fun k => h (1 + k)) nL gn L B i ld (by omega) _) gX3_nearestLift_X2_mayGet_n215 rfl rfl rfl zl_RX3_215 kX3_nearestLift_iRX2 kX3_nearestLift_nX2_mayGet kX3_nearestLift_eX2_mayGet (by decide +kernel) ⟨Nat.le_of_ble_eq_true rfl, Nat.le_of_ble_eq_true rfl⟩ rfl rfl rfl hl.1 rfl (Nat.le_of_ble_eq_true rfl) dX3_nearestLift_45 ⟨Nat.zero_le _, Nat.zero_le _⟩) hP hD hS hA [1, 2, 3, 4, 5, 6, 7, 8] rfl (fun r1 w1 H locs hp1 hP hD hS => ?_)
        obtain ⟨rfl, rfl⟩ := hp1
        have hP : va_P D vwCl (wX cI cZ h lev tm gn nL nC nE L B C E) H := hP
        have hD : va_D A (wX cI cZ h lev tm gn nL nC nE L B C E) := hD
        refine zb_eq (b := (getB L B i ld)) (tgt := 65) hx hb dX3_nearestLift_48 (by decide) (fun c48 => ?_) (fun c48 => ?_)
        · skip
          refine lv_iinc (v := nI (i + 1)) (lv' := [(5, .int (nI (i + 1))), (6, .int (absI ((L 0 i) - fr))), (0, .ref (h 0)), (1, .int fr), (2, .int ld), (3, .int x), (4, .int y)]) hx hb dX3_nearestLift_65 hl (k := 6) rfl (by rw [show Int32.ofInt 1 = nI 1 from rfl, nI_add]) (by decide) rfl (fun ls hl => ?_)
          refine lv_goto (tgt := 9) hx hb dX3_nearestLift_68 (by decide) ?_
          exact ih9 (i + 1) x y (by omega) (by omega) (by rw [nlF, ← ex]; simp [c18, c48]) H locs ls (lv_sub hl [2, 3, 4, 5, 6, 0] rfl) hP hD hS
        · skip
          refine lv_iload hx hb dX3_nearestLift_51 (lv_at hl 0 rfl) ?_
          refine lv_iload hx hb dX3_nearestLift_53 (lv_at hl 5 rfl) ?_
          refine lv_icmp_ge (x := absI ((L 0 i) - fr)) (y := y) (tgt := 65) hx hb dX3_nearestLift_55 (by decide) (fun c55 => ?_) (fun c55 => ?_)
          · skip
            refine lv_iinc (v := nI (i + 1)) (lv' := [(5, .int (nI (i + 1))), (6, .int (absI ((L 0 i) - fr))), (0, .ref (h 0)), (1, .int fr), (2, .int ld), (3, .int x), (4, .int y)]) hx hb dX3_nearestLift_65 hl (k := 6) rfl (by rw [show Int32.ofInt 1 = nI 1 from rfl, nI_add]) (by decide) rfl (fun ls hl => ?_)
            refine lv_goto (tgt := 9) hx hb dX3_nearestLift_68 (by decide) ?_
            exact ih9 (i + 1) x y (by omega) (by omega) (by rw [nlF, ← ex]; simp [c18, c48, Int32.not_lt.mpr c55]) H locs ls (lv_sub hl [2, 3, 4, 5, 6, 0] rfl) hP hD hS
          · skip
            refine lv_iload hx hb dX3_nearestLift_58 (lv_at hl 6 rfl) ?_
            refine lv_istore_n (lv' := [(3, .int (nI i)), (6, .int (absI ((L 0 i) - fr))), (0, .ref (h 0)), (1, .int fr), (2, .int ld), (4, .int y), (5, .int (nI i))]) hx hb dX3_nearestLift_60 rfl hl (by decide) rfl (fun ls hl => ?_)
            refine lv_iload hx hb dX3_nearestLift_61 (lv_at hl 1 rfl) ?_
            refine lv_istore (lv' := [(4, .int (absI ((L 0 i) - fr))), (3, .int (nI i)), (6, .int (absI ((L 0 i) - fr))), (0, .ref (h 0)), (1, .int fr), (2, .int ld), (5, .int (nI i))]) hx hb dX3_nearestLift_63 hl (by decide) rfl (fun ls hl => ?_)
            refine lv_iinc (v := nI (i + 1)) (lv' := [(5, .int (nI (i + 1))), (4, .int (absI ((L 0 i) - fr))), (3, .int (nI i)), (6, .int (absI ((L 0 i) - fr))), (0, .ref (h 0)), (1, .int fr), (2, .int ld)]) hx hb dX3_nearestLift_65 hl (k := 6) rfl (by rw [show Int32.ofInt 1 = nI 1 from rfl, nI_add]) (by decide) rfl (fun ls hl => ?_)
            refine lv_goto (tgt := 9) hx hb dX3_nearestLift_68 (by decide) ?_
            exact ih9 (i + 1) (nI i) (absI ((L 0 i) - fr)) (by omega) (by omega) (by rw [nlF, ← ex]; simp [c18, c48, Int32.not_le.mp c55]) H locs ls (lv_sub hl [4, 5, 6, 2, 1, 0] rfl) hP hD hS
  refine lv_iconst (v := (-1)) hx hb dX3_nearestLift_0 (by decide) ?_
  refine lv_istore_n (lv' := [(3, .int (-1)), (0, .ref (h 0)), (1, .int fr), (2, .int ld)]) hx hb dX3_nearestLift_1 rfl hl (by decide) rfl (fun ls hl => ?_)
  refine lv_bipush (v := 20) hx hb dX3_nearestLift_2 (by decide) ?_
  refine lv_istore (lv' := [(4, .int 20), (3, .int (-1)), (0, .ref (h 0)), (1, .int fr), (2, .int ld)]) hx hb dX3_nearestLift_4 hl (by decide) rfl (fun ls hl => ?_)
  refine lv_iconst (v := 0) hx hb dX3_nearestLift_6 (by decide) ?_
  refine lv_istore (lv' := [(5, .int 0), (4, .int 20), (3, .int (-1)), (0, .ref (h 0)), (1, .int fr), (2, .int ld)]) hx hb dX3_nearestLift_7 hl (by decide) rfl (fun ls hl => ?_)
  exact L9 (nL + 1) 0 (-1) 20 (by omega) (by omega) (rfl) s.heap [] ls (lv_sub hl [3, 4, 5, 2, 1, 0] rfl) hP hD hS

theorem kX3_giveAnew_inX3 : ∀ w ∈ wsX30, w ∈ wsX3_giveAnew := by decide +kernel
theorem kX3_giveAnew_f32 : Cond.fieldLink RX3 32 "LiftRows2" "calls" "LLiftRows2$Calls;" ∈ wsX3_giveAnew := by decide +kernel
theorem kX3_giveAnew_inX0 : ∀ w ∈ wsX00, w ∈ wsX3_giveAnew := by decide +kernel
theorem kX3_giveAnew_iRX0 : Cond.initialized yX0_is.cls ∈ wsX3_giveAnew := by decide +kernel
theorem kX3_giveAnew_nX0_is : Cond.instanceMethod yX0_is ∈ wsX3_giveAnew := by decide +kernel
theorem kX3_giveAnew_eX0_is : Cond.selects RX0 yX0_is yX0_is ∈ wsX3_giveAnew := by decide +kernel
set_option maxHeartbeats 4000000 in
set_option maxRecDepth 100000 in
theorem tX3_giveAnew (l : Launch) (D : va_G) (cI cZ cJ : ClassId) (h : Nat → Nat) (lev tm : Nat) (gn : Int32) (nL nC nE : Nat) (L B C E : Nat → Nat → Int32) (lf : Int32) (hL : nL ≤ 4) (hC : nC ≤ 24)  : ∀ sz : Nat, zMi l yX3_giveAnew wsX3_giveAnew ({ frames := 2, cells := 0, slots := 0, locals := 48 } : Room) D cI cZ cJ (wX cI cZ h lev tm gn nL nC nE L B C E) sz [.ref (h 0), .int lf] (fun r w' => r = (gaF L B nL lf C nC).2 ∧ w' = wX cI cZ h lev tm gn nL nC nE L B (gaF L B nL lf C nC).1 E) := by
  intro sz
  refine z_head (y := yX3_giveAnew) (av := [.ref (h 0), .int lf]) (w := (wX cI cZ h lev tm gn nL nC nE L B C E)) (Qc := fun A => zQi D (wX cI cZ h lev tm gn nL nC nE L B C E) (fun r w' => r = (gaF L B nL lf C nC).2 ∧ w' = wX cI cZ h lev tm gn nL nC nE L B (gaF L B nL lf C nC).1 E) A) (cc := cX3_giveAnew) (maxL := 4) (ret := (some .int)) (by decide) rfl (Nat.le_of_ble_eq_true rfl) ?_
  intro p e s m below meth c ls A hat hP hD hS hl
  obtain ⟨hx, hb, hr, hml, hlocks, hts, hown, hin, hK, hE, hA⟩ := hat
  have hP : va_P D vwCl (wX cI cZ h lev tm gn nL nC nE L B C E) s.heap := hP
  have hD : va_D A (wX cI cZ h lev tm gn nL nC nE L B C E) := hD
  have hl : lv_has ls 4 [(0, .ref (h 0)), (1, .int lf)] := hl
  have L4 : ∀ (fu : Nat) (i : Nat) (C1 : Nat → Nat → Int32) (x : Int32), i ≤ nC → nC + 1 ≤ i + fu → ((C1, x) = gaF L B nL lf C i) → ∀ (H : Heap) (locs : List Loc) (ls : Array Slot), lv_has ls 4 [(0, .ref (h 0)), (1, .int lf), (2, .int x), (3, .int (nI i))] → va_P D vwCl (wX cI cZ h lev tm gn nL nC nE L B C1 E) H → va_D A (wX cI cZ h lev tm gn nL nC nE L B C1 E) → va_S A s.heap H locs → W p l e ({ frames := 2, cells := 0, slots := 0, locals := 48 } : Room) s m ([.ref (h 0), .int lf] : List Value).toArray below meth c H locs 0 0 (MQ below (zQi D (wX cI cZ h lev tm gn nL nC nE L B C E) (fun r w' => r = (gaF L B nL lf C nC).2 ∧ w' = wX cI cZ h lev tm gn nL nC nE L B (gaF L B nL lf C nC).1 E) A) ([.ref (h 0), .int lf] : List Value).toArray s 0 0 A) (F0 m 4 ls []) := by
    intro fu
    induction fu with
    | zero =>
      intro i C1 x h1 h2
      exact absurd h2 (by omega)
    | succ fu ih4 =>
      intro i C1 x hle hfu ex H locs ls hl hP hD hS
      have L78 : ∀ (bz : Bool), (i < nC) → (isB C1 i 0 lf = true) → (bz = !decide ((nlF L B (C1 0 i) (C1 3 i) nL).1 = -1)) → ∀ (H : Heap) (locs : List Loc) (ls : Array Slot), lv_has ls 4 [(0, .ref (h 0)), (1, .int lf), (2, .int x), (3, .int (nI i))] → va_P D vwCl (wX cI cZ h lev tm gn nL nC nE L B (upC C1 5 i ((nlF L B (C1 0 i) (C1 3 i) nL).1)) E) H → va_D A (wX cI cZ h lev tm gn nL nC nE L B (upC C1 5 i ((nlF L B (C1 0 i) (C1 3 i) nL).1)) E) → va_S A s.heap H locs → W p l e ({ frames := 2, cells := 0, slots := 0, locals := 48 } : Room) s m ([.ref (h 0), .int lf] : List Value).toArray below meth c H locs 0 0 (MQ below (zQi D (wX cI cZ h lev tm gn nL nC nE L B C E) (fun r w' => r = (gaF L B nL lf C nC).2 ∧ w' = wX cI cZ h lev tm gn nL nC nE L B (gaF L B nL lf C nC).1 E) A) ([.ref (h 0), .int lf] : List Value).toArray s 0 0 A) (F0 m 78 ls [.int (bI bz), .int x]) := by
        intro bz hlt c25 ez H locs ls hl hP hD hS
        refine z_backi (z_runS (n := 1) (As := [.int (bI bz)]) (rest := [.int x]) hx hb hml hown hts hK hE hP hD [] rfl (by decide) (tX3_asNumber l D cI cZ cJ bz _) gX3_giveAnew_X3_asNumber rfl rfl rfl (by decide +kernel) ⟨Nat.le_of_ble_eq_true rfl, Nat.le_of_ble_eq_true rfl⟩ rfl hl.1 rfl (Nat.le_of_ble_eq_true rfl) dX3_giveAnew_78 ⟨Nat.zero_le _, Nat.zero_le _⟩) hP hD hS hA [] rfl (fun r1 w1 H locs hp1 hP hD hS => ?_)
        obtain ⟨rfl, rfl⟩ := hp1
        have hP : va_P D vwCl (wX cI cZ h lev tm gn nL nC nE L B (upC C1 5 i ((nlF L B (C1 0 i) (C1 3 i) nL).1)) E) H := hP
        have hD : va_D A (wX cI cZ h lev tm gn nL nC nE L B (upC C1 5 i ((nlF L B (C1 0 i) (C1 3 i) nL).1)) E) := hD
        refine lv_iadd (x := x) (y := bI bz) hx hb dX3_giveAnew_81 ?_
        refine lv_istore_n (lv' := [(2, .int (x + (bI bz))), (0, .ref (h 0)), (1, .int lf), (3, .int (nI i))]) hx hb dX3_giveAnew_82 rfl hl (by decide) rfl (fun ls hl => ?_)
        refine lv_iinc (v := nI (i + 1)) (lv' := [(3, .int (nI (i + 1))), (2, .int (x + (bI bz))), (0, .ref (h 0)), (1, .int lf)]) hx hb dX3_giveAnew_83 hl (k := 3) rfl (by rw [show Int32.ofInt 1 = nI 1 from rfl, nI_add]) (by decide) rfl (fun ls hl => ?_)
        refine lv_goto (tgt := 4) hx hb dX3_giveAnew_86 (by decide) ?_
        exact ih4 (i + 1) (upC C1 5 i ((nlF L B (C1 0 i) (C1 3 i) nL).1)) (x + (bI bz)) (by omega) (by omega) (by rw [gaF, ← ex, ← ez]; simp [c25]) H locs ls (lv_sub hl [2, 3, 1, 0] rfl) hP hD hS
      refine lv_iload_n hx hb dX3_giveAnew_4 rfl (lv_at hl 3 rfl) ?_
      refine lv_aload_n hx hb dX3_giveAnew_5 rfl (lv_at hl 0 rfl) ?_
      refine va_get (D := D) (ci := 4) (v := .ref (h 9)) (C := RX3) (T := TX3) (N := 5) hx hb hts kX3_giveAnew_inX3 hown hK hP 0 rfl rfl 2 (by decide) (hts _ kX3_giveAnew_f32) (fun _ h9 => h9) rfl dX3_giveAnew_6 ?_
      refine va_getN (D := D) (ci := 1) (v := .int (nI nC)) (C := RX0) (T := TX0) (N := 10) hx hb hts kX3_giveAnew_inX0 hown hK hP 9 rfl rfl 9 (by decide) (va_Nw.use rfl (hE _ zl_RX3_68)) (fun _ h9 => h9) rfl dX3_giveAnew_9 ?_
      refine zn_ge (i := i) (j := nC) (tgt := 89) hx hb (by omega) (by omega) dX3_giveAnew_12 (by decide) (fun c12 => ?_) (fun c12 => ?_)
      · skip
        refine lv_iload_n hx hb dX3_giveAnew_89 rfl (lv_at hl 2 rfl) ?_
        exact z_iret hx hb hr hlocks hS hP rfl dX3_giveAnew_90 (⟨by rw [← show i = nC by omega, ← ex], by rw [← show i = nC by omega, ← ex]⟩)
      · skip
        refine lv_aload_n hx hb dX3_giveAnew_15 rfl (lv_at hl 0 rfl) ?_
        refine va_get (D := D) (ci := 4) (v := .ref (h 9)) (C := RX3) (T := TX3) (N := 5) hx hb hts kX3_giveAnew_inX3 hown hK hP 0 rfl rfl 2 (by decide) (hts _ kX3_giveAnew_f32) (fun _ h9 => h9) rfl dX3_giveAnew_16 ?_
        refine lv_iload_n hx hb dX3_giveAnew_19 rfl (lv_at hl 3 rfl) ?_
        refine lv_iconst (v := 0) hx hb dX3_giveAnew_20 (by decide) ?_
        refine lv_iload_n hx hb dX3_giveAnew_21 rfl (lv_at hl 1 rfl) ?_
        refine z_backi (z_runVN (n := 3) (As := [.int (nI i), .int 0, .int lf]) (ci := 1) (rest := []) hx hb hml hown hts hK hE hP hD [9, 10, 11, 12, 13, 14, 15, 16, 17, 18] rfl (by decide) (tX0_is l D cI cZ cJ (fun k => h (9 + k)) nC C1 i 0 lf (by omega) _) gX3_giveAnew_X0_is_n219 rfl rfl rfl zl_RX3_219 kX3_giveAnew_iRX0 kX3_giveAnew_nX0_is kX3_giveAnew_eX0_is (by decide +kernel) ⟨Nat.le_of_ble_eq_true rfl, Nat.le_of_ble_eq_true rfl⟩ rfl rfl rfl hl.1 rfl (Nat.le_of_ble_eq_true rfl) dX3_giveAnew_22 ⟨Nat.zero_le _, Nat.zero_le _⟩) hP hD hS hA [9, 10, 11, 12, 13, 14, 15, 16, 17, 18] rfl (fun r2 w1 H locs hp2 hP hD hS => ?_)
        obtain ⟨rfl, rfl⟩ := hp2
        have hP : va_P D vwCl (wX cI cZ h lev tm gn nL nC nE L B C1 E) H := hP
        have hD : va_D A (wX cI cZ h lev tm gn nL nC nE L B C1 E) := hD
        refine zb_eq (b := (isB C1 i 0 lf)) (tgt := 83) hx hb dX3_giveAnew_25 (by decide) (fun c25 => ?_) (fun c25 => ?_)
        · skip
          refine lv_iinc (v := nI (i + 1)) (lv' := [(3, .int (nI (i + 1))), (0, .ref (h 0)), (1, .int lf), (2, .int x)]) hx hb dX3_giveAnew_83 hl (k := 3) rfl (by rw [show Int32.ofInt 1 = nI 1 from rfl, nI_add]) (by decide) rfl (fun ls hl => ?_)
          refine lv_goto (tgt := 4) hx hb dX3_giveAnew_86 (by decide) ?_
          exact ih4 (i + 1) C1 x (by omega) (by omega) (by rw [gaF, ← ex]; simp [c25]) H locs ls (lv_sub hl [1, 2, 3, 0] rfl) hP hD hS
        · skip
          refine lv_aload_n hx hb dX3_giveAnew_28 rfl (lv_at hl 0 rfl) ?_
          refine va_get (D := D) (ci := 4) (v := .ref (h 9)) (C := RX3) (T := TX3) (N := 5) hx hb hts kX3_giveAnew_inX3 hown hK hP 0 rfl rfl 2 (by decide) (hts _ kX3_giveAnew_f32) (fun _ h9 => h9) rfl dX3_giveAnew_29 ?_
          refine va_getN (D := D) (ci := 1) (v := .ref (h 15)) (C := RX0) (T := TX0) (N := 10) hx hb hts kX3_giveAnew_inX0 hown hK hP 9 rfl rfl 5 (by decide) (va_Nw.use rfl (hE _ zl_RX3_74)) (fun _ h9 => h9) rfl dX3_giveAnew_32 ?_
          refine lv_iload_n hx hb dX3_giveAnew_35 rfl (lv_at hl 3 rfl) ?_
          refine lv_aload_n hx hb dX3_giveAnew_36 rfl (lv_at hl 0 rfl) ?_
          refine lv_aload_n hx hb dX3_giveAnew_37 rfl (lv_at hl 0 rfl) ?_
          refine va_get (D := D) (ci := 4) (v := .ref (h 9)) (C := RX3) (T := TX3) (N := 5) hx hb hts kX3_giveAnew_inX3 hown hK hP 0 rfl rfl 2 (by decide) (hts _ kX3_giveAnew_f32) (fun _ h9 => h9) rfl dX3_giveAnew_38 ?_
          refine va_getN (D := D) (ci := 1) (v := .ref (h 10)) (C := RX0) (T := TX0) (N := 10) hx hb hts kX3_giveAnew_inX0 hown hK hP 9 rfl rfl 0 (by decide) (va_Nw.use rfl (hE _ zl_RX3_182)) (fun _ h9 => h9) rfl dX3_giveAnew_41 ?_
          refine lv_iload_n hx hb dX3_giveAnew_44 rfl (lv_at hl 3 rfl) ?_
          refine z_iald (k := i) (v := C1 0 i) hx hb hK hP 10 rfl (by decide) (by omega) (rfl) dX3_giveAnew_45 ?_
          refine lv_aload_n hx hb dX3_giveAnew_46 rfl (lv_at hl 0 rfl) ?_
          refine va_get (D := D) (ci := 4) (v := .ref (h 9)) (C := RX3) (T := TX3) (N := 5) hx hb hts kX3_giveAnew_inX3 hown hK hP 0 rfl rfl 2 (by decide) (hts _ kX3_giveAnew_f32) (fun _ h9 => h9) rfl dX3_giveAnew_47 ?_
          refine va_getN (D := D) (ci := 1) (v := .ref (h 13)) (C := RX0) (T := TX0) (N := 10) hx hb hts kX3_giveAnew_inX0 hown hK hP 9 rfl rfl 3 (by decide) (va_Nw.use rfl (hE _ zl_RX3_191)) (fun _ h9 => h9) rfl dX3_giveAnew_50 ?_
          refine lv_iload_n hx hb dX3_giveAnew_53 rfl (lv_at hl 3 rfl) ?_
          refine z_iald (k := i) (v := C1 3 i) hx hb hK hP 13 rfl (by decide) (by omega) (rfl) dX3_giveAnew_54 ?_
          refine z_backiA (z_runVA (n := 2) (As := [.int (C1 0 i), .int (C1 3 i)]) (ci := 4) (rest := [.int (nI i), .ref (h 15)]) hx hb hml hown hts hK hE hP hD (tX3_nearestLift l D cI cZ cJ h lev tm gn nL nC nE L B C1 E (C1 0 i) (C1 3 i) (by omega) _) gX3_giveAnew_X3_nearestLift rfl rfl rfl (by decide +kernel) ⟨Nat.le_of_ble_eq_true rfl, Nat.le_of_ble_eq_true rfl⟩ rfl rfl rfl hl.1 rfl (Nat.le_of_ble_eq_true rfl) dX3_giveAnew_55 ⟨Nat.zero_le _, Nat.zero_le _⟩) hD hS hA (fun r3 w1 H locs hp3 hP hD hS => ?_)
          obtain ⟨rfl, rfl⟩ := hp3
          have hP : va_P D vwCl (wX cI cZ h lev tm gn nL nC nE L B C1 E) H := hP
          have hD : va_D A (wX cI cZ h lev tm gn nL nC nE L B C1 E) := hD
          refine z_iast (k := i) (x := (nlF L B (C1 0 i) (C1 3 i) nL).1) hx hb hK hP hD hS 15 rfl (by decide) (by omega) dX3_giveAnew_58 (fun H locs hP hD hS => ?_)
          have hP : va_P D vwCl (wX cI cZ h lev tm gn nL nC nE L B (upC C1 5 i ((nlF L B (C1 0 i) (C1 3 i) nL).1)) E) H := hP
          have hD : va_D A (wX cI cZ h lev tm gn nL nC nE L B (upC C1 5 i ((nlF L B (C1 0 i) (C1 3 i) nL).1)) E) := hD
          refine lv_iload_n hx hb dX3_giveAnew_59 rfl (lv_at hl 2 rfl) ?_
          refine lv_aload_n hx hb dX3_giveAnew_60 rfl (lv_at hl 0 rfl) ?_
          refine va_get (D := D) (ci := 4) (v := .ref (h 9)) (C := RX3) (T := TX3) (N := 5) hx hb hts kX3_giveAnew_inX3 hown hK hP 0 rfl rfl 2 (by decide) (hts _ kX3_giveAnew_f32) (fun _ h9 => h9) rfl dX3_giveAnew_61 ?_
          refine va_getN (D := D) (ci := 1) (v := .ref (h 15)) (C := RX0) (T := TX0) (N := 10) hx hb hts kX3_giveAnew_inX0 hown hK hP 9 rfl rfl 5 (by decide) (va_Nw.use rfl (hE _ zl_RX3_74)) (fun _ h9 => h9) rfl dX3_giveAnew_64 ?_
          refine lv_iload_n hx hb dX3_giveAnew_67 rfl (lv_at hl 3 rfl) ?_
          refine z_iald (k := i) (v := (nlF L B (C1 0 i) (C1 3 i) nL).1) hx hb hK hP 15 rfl (by decide) (by omega) (by rw [upC_s]) dX3_giveAnew_68 ?_
          refine lv_iconst (v := (-1)) hx hb dX3_giveAnew_69 (by decide) ?_
          refine lv_icmp_eq (x := (nlF L B (C1 0 i) (C1 3 i) nL).1) (y := (-1)) (tgt := 77) hx hb dX3_giveAnew_70 (by decide) (fun c70 => ?_) (fun c70 => ?_)
          · skip
            refine lv_iconst (v := 0) hx hb dX3_giveAnew_77 (by decide) ?_
            exact L78 false (by omega) (c25) (by simp [c12, c25, c70]) H locs ls (lv_sub hl [0, 1, 2, 3] rfl) hP hD hS
          · skip
            refine lv_iconst (v := 1) hx hb dX3_giveAnew_73 (by decide) ?_
            refine lv_goto (tgt := 78) hx hb dX3_giveAnew_74 (by decide) ?_
            exact L78 true (by omega) (c25) (by simp [c12, c25, c70]) H locs ls (lv_sub hl [0, 1, 2, 3] rfl) hP hD hS
  refine lv_iconst (v := 0) hx hb dX3_giveAnew_0 (by decide) ?_
  refine lv_istore_n (lv' := [(2, .int 0), (0, .ref (h 0)), (1, .int lf)]) hx hb dX3_giveAnew_1 rfl hl (by decide) rfl (fun ls hl => ?_)
  refine lv_iconst (v := 0) hx hb dX3_giveAnew_2 (by decide) ?_
  refine lv_istore_n (lv' := [(3, .int 0), (2, .int 0), (0, .ref (h 0)), (1, .int lf)]) hx hb dX3_giveAnew_3 rfl hl (by decide) rfl (fun ls hl => ?_)
  exact L4 (nC + 1) 0 C 0 (by omega) (by omega) (rfl) s.heap [] ls (lv_sub hl [2, 3, 1, 0] rfl) hP hD hS

theorem kX3_opensHere_inX3 : ∀ w ∈ wsX30, w ∈ wsX3_opensHere := by decide +kernel
theorem kX3_opensHere_f32 : Cond.fieldLink RX3 32 "LiftRows2" "calls" "LLiftRows2$Calls;" ∈ wsX3_opensHere := by decide +kernel
theorem kX3_opensHere_inX0 : ∀ w ∈ wsX00, w ∈ wsX3_opensHere := by decide +kernel
theorem kX3_opensHere_iRX0 : Cond.initialized yX0_getsOut.cls ∈ wsX3_opensHere := by decide +kernel
theorem kX3_opensHere_nX0_getsOut : Cond.instanceMethod yX0_getsOut ∈ wsX3_opensHere := by decide +kernel
theorem kX3_opensHere_eX0_getsOut : Cond.selects RX0 yX0_getsOut yX0_getsOut ∈ wsX3_opensHere := by decide +kernel
theorem kX3_opensHere_nX0_fitsIn : Cond.instanceMethod yX0_fitsIn ∈ wsX3_opensHere := by decide +kernel
theorem kX3_opensHere_eX0_fitsIn : Cond.selects RX0 yX0_fitsIn yX0_fitsIn ∈ wsX3_opensHere := by decide +kernel
theorem kX3_opensHere_f25 : Cond.fieldLink RX3 25 "LiftRows2" "lifts" "LLiftRows2$Lifts;" ∈ wsX3_opensHere := by decide +kernel
theorem kX3_opensHere_inX2 : ∀ w ∈ wsX20, w ∈ wsX3_opensHere := by decide +kernel
theorem kX3_opensHere_nX0_loadStaying : Cond.instanceMethod yX0_loadStaying ∈ wsX3_opensHere := by decide +kernel
theorem kX3_opensHere_eX0_loadStaying : Cond.selects RX0 yX0_loadStaying yX0_loadStaying ∈ wsX3_opensHere := by decide +kernel
set_option maxHeartbeats 4000000 in
set_option maxRecDepth 100000 in
theorem tX3_opensHere (l : Launch) (D : va_G) (cI cZ cJ : ClassId) (h : Nat → Nat) (lev tm : Nat) (gn : Int32) (nL nC nE : Nat) (L B C E : Nat → Nat → Int32) (lf : Nat) (hlf : lf < 4) (hC : nC ≤ 24)  : ∀ sz : Nat, zMi l yX3_opensHere wsX3_opensHere ({ frames := 2, cells := 0, slots := 0, locals := 47 } : Room) D cI cZ cJ (wX cI cZ h lev tm gn nL nC nE L B C E) sz [.ref (h 0), .int (nI lf)] (fun r w' => r = bI (opnB L C lf nC nC) ∧ w' = wX cI cZ h lev tm gn nL nC nE L B C E) := by
  intro sz
  refine z_head (y := yX3_opensHere) (av := [.ref (h 0), .int (nI lf)]) (w := (wX cI cZ h lev tm gn nL nC nE L B C E)) (Qc := fun A => zQi D (wX cI cZ h lev tm gn nL nC nE L B C E) (fun r w' => r = bI (opnB L C lf nC nC) ∧ w' = wX cI cZ h lev tm gn nL nC nE L B C E) A) (cc := cX3_opensHere) (maxL := 5) (ret := (some .boolean)) (by decide) rfl (Nat.le_of_ble_eq_true rfl) ?_
  intro p e s m below meth c ls A hat hP hD hS hl
  obtain ⟨hx, hb, hr, hml, hlocks, hts, hown, hin, hK, hE, hA⟩ := hat
  have hP : va_P D vwCl (wX cI cZ h lev tm gn nL nC nE L B C E) s.heap := hP
  have hD : va_D A (wX cI cZ h lev tm gn nL nC nE L B C E) := hD
  have hl : lv_has ls 5 [(0, .ref (h 0)), (1, .int (nI lf))] := hl
  have L33 : ∀ (fu : Nat) (i : Nat), i ≤ nC → nC + 1 ≤ i + fu → (opnB L C lf nC i = false) → ∀ (H : Heap) (locs : List Loc) (ls : Array Slot), lv_has ls 5 [(0, .ref (h 0)), (1, .int (nI lf)), (2, .int (L 0 lf)), (3, .int (L 1 lf - sumW (fun k => isB C k 1 (nI lf) && !decide (C 1 k = L 0 lf)) (C 3) nC)), (4, .int (nI i))] → va_P D vwCl (wX cI cZ h lev tm gn nL nC nE L B C E) H → va_D A (wX cI cZ h lev tm gn nL nC nE L B C E) → va_S A s.heap H locs → W p l e ({ frames := 2, cells := 0, slots := 0, locals := 47 } : Room) s m ([.ref (h 0), .int (nI lf)] : List Value).toArray below meth c H locs 0 0 (MQ below (zQi D (wX cI cZ h lev tm gn nL nC nE L B C E) (fun r w' => r = bI (opnB L C lf nC nC) ∧ w' = wX cI cZ h lev tm gn nL nC nE L B C E) A) ([.ref (h 0), .int (nI lf)] : List Value).toArray s 0 0 A) (F0 m 33 ls []) := by
    intro fu
    induction fu with
    | zero =>
      intro i h1 h2
      exact absurd h2 (by omega)
    | succ fu ih33 =>
      intro i hle hfu ex H locs ls hl hP hD hS
      refine lv_iload hx hb dX3_opensHere_33 (lv_at hl 4 rfl) ?_
      refine lv_aload_n hx hb dX3_opensHere_35 rfl (lv_at hl 0 rfl) ?_
      refine va_get (D := D) (ci := 4) (v := .ref (h 9)) (C := RX3) (T := TX3) (N := 5) hx hb hts kX3_opensHere_inX3 hown hK hP 0 rfl rfl 2 (by decide) (hts _ kX3_opensHere_f32) (fun _ h9 => h9) rfl dX3_opensHere_36 ?_
      refine va_getN (D := D) (ci := 1) (v := .int (nI nC)) (C := RX0) (T := TX0) (N := 10) hx hb hts kX3_opensHere_inX0 hown hK hP 9 rfl rfl 9 (by decide) (va_Nw.use rfl (hE _ zl_RX3_68)) (fun _ h9 => h9) rfl dX3_opensHere_39 ?_
      refine zn_ge (i := i) (j := nC) (tgt := 82) hx hb (by omega) (by omega) dX3_opensHere_42 (by decide) (fun c42 => ?_) (fun c42 => ?_)
      · skip
        refine lv_iconst (v := 0) hx hb dX3_opensHere_82 (by decide) ?_
        exact z_zret hx hb hr hlocks hS hP rfl (Or.inl rfl) dX3_opensHere_83 (⟨by rw [← show i = nC by omega]; rw [show opnB L C lf i i = false by rw [← ex, show i = nC by omega]]; rfl, rfl⟩)
      · skip
        refine lv_aload_n hx hb dX3_opensHere_45 rfl (lv_at hl 0 rfl) ?_
        refine va_get (D := D) (ci := 4) (v := .ref (h 9)) (C := RX3) (T := TX3) (N := 5) hx hb hts kX3_opensHere_inX3 hown hK hP 0 rfl rfl 2 (by decide) (hts _ kX3_opensHere_f32) (fun _ h9 => h9) rfl dX3_opensHere_46 ?_
        refine lv_iload hx hb dX3_opensHere_49 (lv_at hl 4 rfl) ?_
        refine lv_iload_n hx hb dX3_opensHere_51 rfl (lv_at hl 1 rfl) ?_
        refine lv_iload_n hx hb dX3_opensHere_52 rfl (lv_at hl 2 rfl) ?_
        refine z_backi (z_runVN (n := 3) (As := [.int (nI i), .int (nI lf), .int (L 0 lf)]) (ci := 1) (rest := []) hx hb hml hown hts hK hE hP hD [9, 10, 11, 12, 13, 14, 15, 16, 17, 18] rfl (by decide) (tX0_getsOut l D cI cZ cJ (fun k => h (9 + k)) nC C i (nI lf) (L 0 lf) (by omega) _) gX3_opensHere_X0_getsOut_n252 rfl rfl rfl zl_RX3_252 kX3_opensHere_iRX0 kX3_opensHere_nX0_getsOut kX3_opensHere_eX0_getsOut (by decide +kernel) ⟨Nat.le_of_ble_eq_true rfl, Nat.le_of_ble_eq_true rfl⟩ rfl rfl rfl hl.1 rfl (Nat.le_of_ble_eq_true rfl) dX3_opensHere_53 ⟨Nat.zero_le _, Nat.zero_le _⟩) hP hD hS hA [9, 10, 11, 12, 13, 14, 15, 16, 17, 18] rfl (fun r1 w1 H locs hp1 hP hD hS => ?_)
        obtain ⟨rfl, rfl⟩ := hp1
        have hP : va_P D vwCl (wX cI cZ h lev tm gn nL nC nE L B C E) H := hP
        have hD : va_D A (wX cI cZ h lev tm gn nL nC nE L B C E) := hD
        refine zb_ne (b := (outB C i (nI lf) (L 0 lf))) (tgt := 74) hx hb dX3_opensHere_56 (by decide) (fun c56 => ?_) (fun c56 => ?_)
        · skip
          refine lv_iconst (v := 1) hx hb dX3_opensHere_74 (by decide) ?_
          exact z_zret hx hb hr hlocks hS hP rfl (Or.inr rfl) dX3_opensHere_75 (⟨by rw [show opnB L C lf nC nC = true from anyW_of (i := i) (by omega) (by simp [c42, c56])]; rfl, rfl⟩)
        · skip
          refine lv_aload_n hx hb dX3_opensHere_59 rfl (lv_at hl 0 rfl) ?_
          refine va_get (D := D) (ci := 4) (v := .ref (h 9)) (C := RX3) (T := TX3) (N := 5) hx hb hts kX3_opensHere_inX3 hown hK hP 0 rfl rfl 2 (by decide) (hts _ kX3_opensHere_f32) (fun _ h9 => h9) rfl dX3_opensHere_60 ?_
          refine lv_iload hx hb dX3_opensHere_63 (lv_at hl 4 rfl) ?_
          refine lv_iload_n hx hb dX3_opensHere_65 rfl (lv_at hl 1 rfl) ?_
          refine lv_iload_n hx hb dX3_opensHere_66 rfl (lv_at hl 2 rfl) ?_
          refine lv_iload_n hx hb dX3_opensHere_67 rfl (lv_at hl 3 rfl) ?_
          refine z_backi (z_runVN (n := 4) (As := [.int (nI i), .int (nI lf), .int (L 0 lf), .int (L 1 lf - sumW (fun k => isB C k 1 (nI lf) && !decide (C 1 k = L 0 lf)) (C 3) nC)]) (ci := 1) (rest := []) hx hb hml hown hts hK hE hP hD [9, 10, 11, 12, 13, 14, 15, 16, 17, 18] rfl (by decide) (tX0_fitsIn l D cI cZ cJ (fun k => h (9 + k)) nC C i (nI lf) (L 0 lf) (L 1 lf - sumW (fun k => isB C k 1 (nI lf) && !decide (C 1 k = L 0 lf)) (C 3) nC) (by omega) _) gX3_opensHere_X0_fitsIn_n255 rfl rfl rfl zl_RX3_255 kX3_opensHere_iRX0 kX3_opensHere_nX0_fitsIn kX3_opensHere_eX0_fitsIn (by decide +kernel) ⟨Nat.le_of_ble_eq_true rfl, Nat.le_of_ble_eq_true rfl⟩ rfl rfl rfl hl.1 rfl (Nat.le_of_ble_eq_true rfl) dX3_opensHere_68 ⟨Nat.zero_le _, Nat.zero_le _⟩) hP hD hS hA [9, 10, 11, 12, 13, 14, 15, 16, 17, 18] rfl (fun r2 w1 H locs hp2 hP hD hS => ?_)
          obtain ⟨rfl, rfl⟩ := hp2
          have hP : va_P D vwCl (wX cI cZ h lev tm gn nL nC nE L B C E) H := hP
          have hD : va_D A (wX cI cZ h lev tm gn nL nC nE L B C E) := hD
          refine zb_eq (b := (fitB C i (nI lf) (L 0 lf) (L 1 lf - sumW (fun k => isB C k 1 (nI lf) && !decide (C 1 k = L 0 lf)) (C 3) nC))) (tgt := 76) hx hb dX3_opensHere_71 (by decide) (fun c71 => ?_) (fun c71 => ?_)
          · skip
            refine lv_iinc (v := nI (i + 1)) (lv' := [(4, .int (nI (i + 1))), (0, .ref (h 0)), (1, .int (nI lf)), (2, .int (L 0 lf)), (3, .int (L 1 lf - sumW (fun k => isB C k 1 (nI lf) && !decide (C 1 k = L 0 lf)) (C 3) nC))]) hx hb dX3_opensHere_76 hl (k := 4) rfl (by rw [show Int32.ofInt 1 = nI 1 from rfl, nI_add]) (by decide) rfl (fun ls hl => ?_)
            refine lv_goto (tgt := 33) hx hb dX3_opensHere_79 (by decide) ?_
            exact ih33 (i + 1) (by omega) (by omega) (by rw [opnB, anyW_s]; exact Bool.or_eq_false_iff.mpr ⟨ex, by simp [c42, c56, c71]⟩) H locs ls (lv_sub hl [1, 2, 3, 4, 0] rfl) hP hD hS
          · skip
            refine lv_iconst (v := 1) hx hb dX3_opensHere_74 (by decide) ?_
            exact z_zret hx hb hr hlocks hS hP rfl (Or.inr rfl) dX3_opensHere_75 (⟨by rw [show opnB L C lf nC nC = true from anyW_of (i := i) (by omega) (by simp [c42, c56, c71])]; rfl, rfl⟩)
  refine lv_aload_n hx hb dX3_opensHere_0 rfl (lv_at hl 0 rfl) ?_
  refine va_get (D := D) (ci := 4) (v := .ref (h 1)) (C := RX3) (T := TX3) (N := 5) hx hb hts kX3_opensHere_inX3 hown hK hP 0 rfl rfl 1 (by decide) (hts _ kX3_opensHere_f25) (fun _ h9 => h9) rfl dX3_opensHere_1 ?_
  refine va_getN (D := D) (ci := 3) (v := .ref (h 2)) (C := RX2) (T := TX2) (N := 9) hx hb hts kX3_opensHere_inX2 hown hK hP 1 rfl rfl 0 (by decide) (va_Nw.use rfl (hE _ zl_RX3_111)) (fun _ h9 => h9) rfl dX3_opensHere_4 ?_
  refine lv_iload_n hx hb dX3_opensHere_7 rfl (lv_at hl 1 rfl) ?_
  refine z_iald (k := lf) (v := L 0 lf) hx hb hK hP 2 rfl (by decide) (by omega) (rfl) dX3_opensHere_8 ?_
  refine lv_istore_n (lv' := [(2, .int (L 0 lf)), (0, .ref (h 0)), (1, .int (nI lf))]) hx hb dX3_opensHere_9 rfl hl (by decide) rfl (fun ls hl => ?_)
  refine lv_aload_n hx hb dX3_opensHere_10 rfl (lv_at hl 1 rfl) ?_
  refine va_get (D := D) (ci := 4) (v := .ref (h 1)) (C := RX3) (T := TX3) (N := 5) hx hb hts kX3_opensHere_inX3 hown hK hP 0 rfl rfl 1 (by decide) (hts _ kX3_opensHere_f25) (fun _ h9 => h9) rfl dX3_opensHere_11 ?_
  refine va_getN (D := D) (ci := 3) (v := .ref (h 3)) (C := RX2) (T := TX2) (N := 9) hx hb hts kX3_opensHere_inX2 hown hK hP 1 rfl rfl 1 (by decide) (va_Nw.use rfl (hE _ zl_RX3_246)) (fun _ h9 => h9) rfl dX3_opensHere_14 ?_
  refine lv_iload_n hx hb dX3_opensHere_17 rfl (lv_at hl 2 rfl) ?_
  refine z_iald (k := lf) (v := L 1 lf) hx hb hK hP 3 rfl (by decide) (by omega) (rfl) dX3_opensHere_18 ?_
  refine lv_aload_n hx hb dX3_opensHere_19 rfl (lv_at hl 1 rfl) ?_
  refine va_get (D := D) (ci := 4) (v := .ref (h 9)) (C := RX3) (T := TX3) (N := 5) hx hb hts kX3_opensHere_inX3 hown hK hP 0 rfl rfl 2 (by decide) (hts _ kX3_opensHere_f32) (fun _ h9 => h9) rfl dX3_opensHere_20 ?_
  refine lv_iload_n hx hb dX3_opensHere_23 rfl (lv_at hl 2 rfl) ?_
  refine lv_iload_n hx hb dX3_opensHere_24 rfl (lv_at hl 0 rfl) ?_
  refine z_backi (z_runVN (n := 2) (As := [.int (nI lf), .int (L 0 lf)]) (ci := 1) (rest := [.int (L 1 lf)]) hx hb hml hown hts hK hE hP hD [9, 10, 11, 12, 13, 14, 15, 16, 17, 18] rfl (by decide) (tX0_loadStaying l D cI cZ cJ (fun k => h (9 + k)) nC C (nI lf) (L 0 lf) (by omega) _) gX3_opensHere_X0_loadStaying_n249 rfl rfl rfl zl_RX3_249 kX3_opensHere_iRX0 kX3_opensHere_nX0_loadStaying kX3_opensHere_eX0_loadStaying (by decide +kernel) ⟨Nat.le_of_ble_eq_true rfl, Nat.le_of_ble_eq_true rfl⟩ rfl rfl rfl hl.1 rfl (Nat.le_of_ble_eq_true rfl) dX3_opensHere_25 ⟨Nat.zero_le _, Nat.zero_le _⟩) hP hD hS hA [9, 10, 11, 12, 13, 14, 15, 16, 17, 18] rfl (fun r3 w1 H locs hp3 hP hD hS => ?_)
  obtain ⟨rfl, rfl⟩ := hp3
  have hP : va_P D vwCl (wX cI cZ h lev tm gn nL nC nE L B C E) H := hP
  have hD : va_D A (wX cI cZ h lev tm gn nL nC nE L B C E) := hD
  refine lv_isub (x := L 1 lf) (y := sumW (fun k => isB C k 1 (nI lf) && !decide (C 1 k = (L 0 lf))) (C 3) nC) hx hb dX3_opensHere_28 ?_
  refine lv_istore_n (lv' := [(3, .int ((L 1 lf) - (sumW (fun k => isB C k 1 (nI lf) && !decide (C 1 k = (L 0 lf))) (C 3) nC))), (2, .int (L 0 lf)), (0, .ref (h 0)), (1, .int (nI lf))]) hx hb dX3_opensHere_29 rfl hl (by decide) rfl (fun ls hl => ?_)
  refine lv_iconst (v := 0) hx hb dX3_opensHere_30 (by decide) ?_
  refine lv_istore (lv' := [(4, .int 0), (3, .int ((L 1 lf) - (sumW (fun k => isB C k 1 (nI lf) && !decide (C 1 k = (L 0 lf))) (C 3) nC))), (2, .int (L 0 lf)), (0, .ref (h 0)), (1, .int (nI lf))]) hx hb dX3_opensHere_31 hl (by decide) rfl (fun ls hl => ?_)
  exact L33 (nC + 1) 0 (by omega) (by omega) (rfl) H locs ls (lv_sub hl [3, 4, 2, 1, 0] rfl) hP hD hS

theorem kX3_letOut_inX3 : ∀ w ∈ wsX30, w ∈ wsX3_letOut := by decide +kernel
theorem kX3_letOut_f32 : Cond.fieldLink RX3 32 "LiftRows2" "calls" "LLiftRows2$Calls;" ∈ wsX3_letOut := by decide +kernel
theorem kX3_letOut_inX0 : ∀ w ∈ wsX00, w ∈ wsX3_letOut := by decide +kernel
theorem kX3_letOut_f25 : Cond.fieldLink RX3 25 "LiftRows2" "lifts" "LLiftRows2$Lifts;" ∈ wsX3_letOut := by decide +kernel
theorem kX3_letOut_inX2 : ∀ w ∈ wsX20, w ∈ wsX3_letOut := by decide +kernel
theorem kX3_letOut_iRX0 : Cond.initialized yX0_getsOut.cls ∈ wsX3_letOut := by decide +kernel
theorem kX3_letOut_nX0_getsOut : Cond.instanceMethod yX0_getsOut ∈ wsX3_letOut := by decide +kernel
theorem kX3_letOut_eX0_getsOut : Cond.selects RX0 yX0_getsOut yX0_getsOut ∈ wsX3_letOut := by decide +kernel
theorem kX3_letOut_f43 : Cond.fieldLink RX3 43 "LiftRows2" "time" "I" ∈ wsX3_letOut := by decide +kernel
theorem kX3_letOut_f39 : Cond.fieldLink RX3 39 "LiftRows2" "events" "LLiftRows2$Events;" ∈ wsX3_letOut := by decide +kernel
theorem kX3_letOut_iRX1 : Cond.initialized yX1_add.cls ∈ wsX3_letOut := by decide +kernel
theorem kX3_letOut_nX1_add : Cond.instanceMethod yX1_add ∈ wsX3_letOut := by decide +kernel
theorem kX3_letOut_eX1_add : Cond.selects RX1 yX1_add yX1_add ∈ wsX3_letOut := by decide +kernel
set_option maxHeartbeats 4000000 in
set_option maxRecDepth 100000 in
theorem tX3_letOut (l : Launch) (D : va_G) (cI cZ cJ : ClassId) (h : Nat → Nat) (lev tm : Nat) (gn : Int32) (nL nC nE : Nat) (L B C E : Nat → Nat → Int32) (lf : Nat) (hlf : lf < 4) (hC : nC ≤ 24) (hNE : nE ≤ 48)  : ∀ sz : Nat, zMv l yX3_letOut wsX3_letOut ({ frames := 2, cells := 0, slots := 0, locals := 46 } : Room) D cI cZ cJ (wX cI cZ h lev tm gn nL nC nE L B C E) sz [.ref (h 0), .int (nI lf)] (fun w' => w' = wX cI cZ h lev tm gn nL nC (outZ tm lf (L 0 lf) (nE, C, E) nC).1 L B (outZ tm lf (L 0 lf) (nE, C, E) nC).2.1 (outZ tm lf (L 0 lf) (nE, C, E) nC).2.2) := by
  intro sz
  refine z_head (y := yX3_letOut) (av := [.ref (h 0), .int (nI lf)]) (w := (wX cI cZ h lev tm gn nL nC nE L B C E)) (Qc := fun A => zQv D (wX cI cZ h lev tm gn nL nC nE L B C E) (fun w' => w' = wX cI cZ h lev tm gn nL nC (outZ tm lf (L 0 lf) (nE, C, E) nC).1 L B (outZ tm lf (L 0 lf) (nE, C, E) nC).2.1 (outZ tm lf (L 0 lf) (nE, C, E) nC).2.2) A) (cc := cX3_letOut) (maxL := 3) (ret := none) (by decide) rfl (Nat.le_of_ble_eq_true rfl) ?_
  intro p e s m below meth c ls A hat hP hD hS hl
  obtain ⟨hx, hb, hr, hml, hlocks, hts, hown, hin, hK, hE, hA⟩ := hat
  have hP : va_P D vwCl (wX cI cZ h lev tm gn nL nC nE L B C E) s.heap := hP
  have hD : va_D A (wX cI cZ h lev tm gn nL nC nE L B C E) := hD
  have hl : lv_has ls 3 [(0, .ref (h 0)), (1, .int (nI lf))] := hl
  have L2 : ∀ (fu : Nat) (i : Nat) (ne : Nat) (C1 : Nat → Nat → Int32) (E1 : Nat → Nat → Int32), i ≤ nC → nC + 1 ≤ i + fu → ((ne, C1, E1) = outZ tm lf (L 0 lf) (nE, C, E) i) → (ne ≤ 48) → ∀ (H : Heap) (locs : List Loc) (ls : Array Slot), lv_has ls 3 [(0, .ref (h 0)), (1, .int (nI lf)), (2, .int (nI i))] → va_P D vwCl (wX cI cZ h lev tm gn nL nC ne L B C1 E1) H → va_D A (wX cI cZ h lev tm gn nL nC ne L B C1 E1) → va_S A s.heap H locs → W p l e ({ frames := 2, cells := 0, slots := 0, locals := 46 } : Room) s m ([.ref (h 0), .int (nI lf)] : List Value).toArray below meth c H locs 0 0 (MQ below (zQv D (wX cI cZ h lev tm gn nL nC nE L B C E) (fun w' => w' = wX cI cZ h lev tm gn nL nC (outZ tm lf (L 0 lf) (nE, C, E) nC).1 L B (outZ tm lf (L 0 lf) (nE, C, E) nC).2.1 (outZ tm lf (L 0 lf) (nE, C, E) nC).2.2) A) ([.ref (h 0), .int (nI lf)] : List Value).toArray s 0 0 A) (F0 m 2 ls []) := by
    intro fu
    induction fu with
    | zero =>
      intro i ne C1 E1 h1 h2
      exact absurd h2 (by omega)
    | succ fu ih2 =>
      intro i ne C1 E1 hle hfu ex hne H locs ls hl hP hD hS
      refine lv_iload_n hx hb dX3_letOut_2 rfl (lv_at hl 2 rfl) ?_
      refine lv_aload_n hx hb dX3_letOut_3 rfl (lv_at hl 0 rfl) ?_
      refine va_get (D := D) (ci := 4) (v := .ref (h 9)) (C := RX3) (T := TX3) (N := 5) hx hb hts kX3_letOut_inX3 hown hK hP 0 rfl rfl 2 (by decide) (hts _ kX3_letOut_f32) (fun _ h9 => h9) rfl dX3_letOut_4 ?_
      refine va_getN (D := D) (ci := 1) (v := .int (nI nC)) (C := RX0) (T := TX0) (N := 10) hx hb hts kX3_letOut_inX0 hown hK hP 9 rfl rfl 9 (by decide) (va_Nw.use rfl (hE _ zl_RX3_68)) (fun _ h9 => h9) rfl dX3_letOut_7 ?_
      refine zn_ge (i := i) (j := nC) (tgt := 77) hx hb (by omega) (by omega) dX3_letOut_10 (by decide) (fun c10 => ?_) (fun c10 => ?_)
      · skip
        exact z_vret hx hb hr hlocks hS hP rfl dX3_letOut_77 (by rw [← show i = nC by omega, ← ex])
      · skip
        refine lv_aload_n hx hb dX3_letOut_13 rfl (lv_at hl 0 rfl) ?_
        refine va_get (D := D) (ci := 4) (v := .ref (h 9)) (C := RX3) (T := TX3) (N := 5) hx hb hts kX3_letOut_inX3 hown hK hP 0 rfl rfl 2 (by decide) (hts _ kX3_letOut_f32) (fun _ h9 => h9) rfl dX3_letOut_14 ?_
        refine lv_iload_n hx hb dX3_letOut_17 rfl (lv_at hl 2 rfl) ?_
        refine lv_iload_n hx hb dX3_letOut_18 rfl (lv_at hl 1 rfl) ?_
        refine lv_aload_n hx hb dX3_letOut_19 rfl (lv_at hl 0 rfl) ?_
        refine va_get (D := D) (ci := 4) (v := .ref (h 1)) (C := RX3) (T := TX3) (N := 5) hx hb hts kX3_letOut_inX3 hown hK hP 0 rfl rfl 1 (by decide) (hts _ kX3_letOut_f25) (fun _ h9 => h9) rfl dX3_letOut_20 ?_
        refine va_getN (D := D) (ci := 3) (v := .ref (h 2)) (C := RX2) (T := TX2) (N := 9) hx hb hts kX3_letOut_inX2 hown hK hP 1 rfl rfl 0 (by decide) (va_Nw.use rfl (hE _ zl_RX3_111)) (fun _ h9 => h9) rfl dX3_letOut_23 ?_
        refine lv_iload_n hx hb dX3_letOut_26 rfl (lv_at hl 1 rfl) ?_
        refine z_iald (k := lf) (v := L 0 lf) hx hb hK hP 2 rfl (by decide) (by omega) (rfl) dX3_letOut_27 ?_
        refine z_backi (z_runVN (n := 3) (As := [.int (nI i), .int (nI lf), .int (L 0 lf)]) (ci := 1) (rest := []) hx hb hml hown hts hK hE hP hD [9, 10, 11, 12, 13, 14, 15, 16, 17, 18] rfl (by decide) (tX0_getsOut l D cI cZ cJ (fun k => h (9 + k)) nC C1 i (nI lf) (L 0 lf) (by omega) _) gX3_letOut_X0_getsOut_n252 rfl rfl rfl zl_RX3_252 kX3_letOut_iRX0 kX3_letOut_nX0_getsOut kX3_letOut_eX0_getsOut (by decide +kernel) ⟨Nat.le_of_ble_eq_true rfl, Nat.le_of_ble_eq_true rfl⟩ rfl rfl rfl hl.1 rfl (Nat.le_of_ble_eq_true rfl) dX3_letOut_28 ⟨Nat.zero_le _, Nat.zero_le _⟩) hP hD hS hA [9, 10, 11, 12, 13, 14, 15, 16, 17, 18] rfl (fun r1 w1 H locs hp1 hP hD hS => ?_)
        obtain ⟨rfl, rfl⟩ := hp1
        have hP : va_P D vwCl (wX cI cZ h lev tm gn nL nC ne L B C1 E1) H := hP
        have hD : va_D A (wX cI cZ h lev tm gn nL nC ne L B C1 E1) := hD
        refine zb_eq (b := (outB C1 i (nI lf) (L 0 lf))) (tgt := 71) hx hb dX3_letOut_31 (by decide) (fun c31 => ?_) (fun c31 => ?_)
        · skip
          refine lv_iinc (v := nI (i + 1)) (lv' := [(2, .int (nI (i + 1))), (0, .ref (h 0)), (1, .int (nI lf))]) hx hb dX3_letOut_71 hl (k := 2) rfl (by rw [show Int32.ofInt 1 = nI 1 from rfl, nI_add]) (by decide) rfl (fun ls hl => ?_)
          refine lv_goto (tgt := 2) hx hb dX3_letOut_74 (by decide) ?_
          exact ih2 (i + 1) ne C1 E1 (by omega) (by omega) (by rw [outZ, ← ex]; simp [outS, c10, c31]) (hne) H locs ls (lv_sub hl [1, 2, 0] rfl) hP hD hS
        · skip
          refine lv_aload_n hx hb dX3_letOut_34 rfl (lv_at hl 0 rfl) ?_
          refine va_get (D := D) (ci := 4) (v := .ref (h 9)) (C := RX3) (T := TX3) (N := 5) hx hb hts kX3_letOut_inX3 hown hK hP 0 rfl rfl 2 (by decide) (hts _ kX3_letOut_f32) (fun _ h9 => h9) rfl dX3_letOut_35 ?_
          refine va_getN (D := D) (ci := 1) (v := .ref (h 14)) (C := RX0) (T := TX0) (N := 10) hx hb hts kX3_letOut_inX0 hown hK hP 9 rfl rfl 4 (by decide) (va_Nw.use rfl (hE _ zl_RX3_159)) (fun _ h9 => h9) rfl dX3_letOut_38 ?_
          refine lv_iload_n hx hb dX3_letOut_41 rfl (lv_at hl 2 rfl) ?_
          refine lv_iconst (v := 2) hx hb dX3_letOut_42 (by decide) ?_
          refine z_iast (k := i) (x := 2) hx hb hK hP hD hS 14 rfl (by decide) (by omega) dX3_letOut_43 (fun H locs hP hD hS => ?_)
          have hP : va_P D vwCl (wX cI cZ h lev tm gn nL nC ne L B (upC C1 4 i 2) E1) H := hP
          have hD : va_D A (wX cI cZ h lev tm gn nL nC ne L B (upC C1 4 i 2) E1) := hD
          refine lv_aload_n hx hb dX3_letOut_44 rfl (lv_at hl 0 rfl) ?_
          refine va_get (D := D) (ci := 4) (v := .ref (h 9)) (C := RX3) (T := TX3) (N := 5) hx hb hts kX3_letOut_inX3 hown hK hP 0 rfl rfl 2 (by decide) (hts _ kX3_letOut_f32) (fun _ h9 => h9) rfl dX3_letOut_45 ?_
          refine va_getN (D := D) (ci := 1) (v := .ref (h 18)) (C := RX0) (T := TX0) (N := 10) hx hb hts kX3_letOut_inX0 hown hK hP 9 rfl rfl 8 (by decide) (va_Nw.use rfl (hE _ zl_RX3_156)) (fun _ h9 => h9) rfl dX3_letOut_48 ?_
          refine lv_iload_n hx hb dX3_letOut_51 rfl (lv_at hl 2 rfl) ?_
          refine lv_aload_n hx hb dX3_letOut_52 rfl (lv_at hl 0 rfl) ?_
          refine va_get (D := D) (ci := 4) (v := .int (nI tm)) (C := RX3) (T := TX3) (N := 5) hx hb hts kX3_letOut_inX3 hown hK hP 0 rfl rfl 4 (by decide) (hts _ kX3_letOut_f43) (fun _ h9 => h9) rfl dX3_letOut_53 ?_
          refine z_iast (k := i) (x := nI tm) hx hb hK hP hD hS 18 rfl (by decide) (by omega) dX3_letOut_56 (fun H locs hP hD hS => ?_)
          have hP : va_P D vwCl (wX cI cZ h lev tm gn nL nC ne L B (upC (upC C1 4 i 2) 8 i (nI tm)) E1) H := hP
          have hD : va_D A (wX cI cZ h lev tm gn nL nC ne L B (upC (upC C1 4 i 2) 8 i (nI tm)) E1) := hD
          refine lv_aload_n hx hb dX3_letOut_57 rfl (lv_at hl 0 rfl) ?_
          refine va_get (D := D) (ci := 4) (v := .ref (h 19)) (C := RX3) (T := TX3) (N := 5) hx hb hts kX3_letOut_inX3 hown hK hP 0 rfl rfl 3 (by decide) (hts _ kX3_letOut_f39) (fun _ h9 => h9) rfl dX3_letOut_58 ?_
          refine lv_aload_n hx hb dX3_letOut_61 rfl (lv_at hl 0 rfl) ?_
          refine va_get (D := D) (ci := 4) (v := .int (nI tm)) (C := RX3) (T := TX3) (N := 5) hx hb hts kX3_letOut_inX3 hown hK hP 0 rfl rfl 4 (by decide) (hts _ kX3_letOut_f43) (fun _ h9 => h9) rfl dX3_letOut_62 ?_
          refine lv_iload_n hx hb dX3_letOut_65 rfl (lv_at hl 1 rfl) ?_
          refine lv_iload_n hx hb dX3_letOut_66 rfl (lv_at hl 2 rfl) ?_
          refine lv_iconst (v := 1) hx hb dX3_letOut_67 (by decide) ?_
          refine z_backv (z_runVN (n := 4) (As := [.int (nI tm), .int (nI lf), .int (nI i), .int 1]) (ci := 2) (rest := []) hx hb hml hown hts hK hE hP hD [19, 20, 21, 22, 23] rfl (by decide) (tX1_add l D cI cZ cJ (fun k => h (19 + k)) ne E1 (nI tm) (nI lf) (nI i) 1 (by omega) _) gX3_letOut_X1_add_n259 rfl rfl rfl zl_RX3_259 kX3_letOut_iRX1 kX3_letOut_nX1_add kX3_letOut_eX1_add (by decide +kernel) ⟨Nat.le_of_ble_eq_true rfl, Nat.le_of_ble_eq_true rfl⟩ rfl rfl rfl hl.1 rfl (Nat.le_of_ble_eq_true rfl) dX3_letOut_68 ⟨Nat.zero_le _, Nat.zero_le _⟩) hP hD hS hA [19, 20, 21, 22, 23] rfl (fun w1 H locs hp2 hP hD hS => ?_)
          obtain rfl := hp2
          have hP : va_P D vwCl (wX cI cZ h lev tm gn nL nC (evN ne) L B (upC (upC C1 4 i 2) 8 i (nI tm)) (evE E1 ne (nI tm) (nI lf) (nI i) 1)) H := hP
          have hD : va_D A (wX cI cZ h lev tm gn nL nC (evN ne) L B (upC (upC C1 4 i 2) 8 i (nI tm)) (evE E1 ne (nI tm) (nI lf) (nI i) 1)) := hD
          refine lv_iinc (v := nI (i + 1)) (lv' := [(2, .int (nI (i + 1))), (0, .ref (h 0)), (1, .int (nI lf))]) hx hb dX3_letOut_71 hl (k := 2) rfl (by rw [show Int32.ofInt 1 = nI 1 from rfl, nI_add]) (by decide) rfl (fun ls hl => ?_)
          refine lv_goto (tgt := 2) hx hb dX3_letOut_74 (by decide) ?_
          exact ih2 (i + 1) (evN ne) (upC (upC C1 4 i 2) 8 i (nI tm)) (evE E1 ne (nI tm) (nI lf) (nI i) 1) (by omega) (by omega) (by rw [outZ, ← ex]; simp [outS, c10, c31]) (evN_le hne) H locs ls (lv_sub hl [1, 2, 0] rfl) hP hD hS
  refine lv_iconst (v := 0) hx hb dX3_letOut_0 (by decide) ?_
  refine lv_istore_n (lv' := [(2, .int 0), (0, .ref (h 0)), (1, .int (nI lf))]) hx hb dX3_letOut_1 rfl hl (by decide) rfl (fun ls hl => ?_)
  exact L2 (nC + 1) 0 nE C E (by omega) (by omega) (rfl) (hNE) s.heap [] ls (lv_sub hl [1, 2, 0] rfl) hP hD hS

theorem kX3_letIn_inX3 : ∀ w ∈ wsX30, w ∈ wsX3_letIn := by decide +kernel
theorem kX3_letIn_f32 : Cond.fieldLink RX3 32 "LiftRows2" "calls" "LLiftRows2$Calls;" ∈ wsX3_letIn := by decide +kernel
theorem kX3_letIn_inX0 : ∀ w ∈ wsX00, w ∈ wsX3_letIn := by decide +kernel
theorem kX3_letIn_f25 : Cond.fieldLink RX3 25 "LiftRows2" "lifts" "LLiftRows2$Lifts;" ∈ wsX3_letIn := by decide +kernel
theorem kX3_letIn_inX2 : ∀ w ∈ wsX20, w ∈ wsX3_letIn := by decide +kernel
theorem kX3_letIn_iRX0 : Cond.initialized yX0_fitsIn.cls ∈ wsX3_letIn := by decide +kernel
theorem kX3_letIn_nX0_fitsIn : Cond.instanceMethod yX0_fitsIn ∈ wsX3_letIn := by decide +kernel
theorem kX3_letIn_eX0_fitsIn : Cond.selects RX0 yX0_fitsIn yX0_fitsIn ∈ wsX3_letIn := by decide +kernel
theorem kX3_letIn_f43 : Cond.fieldLink RX3 43 "LiftRows2" "time" "I" ∈ wsX3_letIn := by decide +kernel
theorem kX3_letIn_f39 : Cond.fieldLink RX3 39 "LiftRows2" "events" "LLiftRows2$Events;" ∈ wsX3_letIn := by decide +kernel
theorem kX3_letIn_iRX1 : Cond.initialized yX1_add.cls ∈ wsX3_letIn := by decide +kernel
theorem kX3_letIn_nX1_add : Cond.instanceMethod yX1_add ∈ wsX3_letIn := by decide +kernel
theorem kX3_letIn_eX1_add : Cond.selects RX1 yX1_add yX1_add ∈ wsX3_letIn := by decide +kernel
theorem kX3_letIn_nX0_loadAboard : Cond.instanceMethod yX0_loadAboard ∈ wsX3_letIn := by decide +kernel
theorem kX3_letIn_eX0_loadAboard : Cond.selects RX0 yX0_loadAboard yX0_loadAboard ∈ wsX3_letIn := by decide +kernel
set_option maxHeartbeats 4000000 in
set_option maxRecDepth 100000 in
theorem tX3_letIn (l : Launch) (D : va_G) (cI cZ cJ : ClassId) (h : Nat → Nat) (lev tm : Nat) (gn : Int32) (nL nC nE : Nat) (L B C E : Nat → Nat → Int32) (lf : Nat) (hlf : lf < 4) (hC : nC ≤ 24) (hNE : nE ≤ 48)  : ∀ sz : Nat, zMv l yX3_letIn wsX3_letIn ({ frames := 3, cells := 0, slots := 0, locals := 68 } : Room) D cI cZ cJ (wX cI cZ h lev tm gn nL nC nE L B C E) sz [.ref (h 0), .int (nI lf)] (fun w' => w' = wX cI cZ h lev tm gn nL nC (inAll tm lf (L 0 lf) nC ((nE, C, E), L 1 lf - sumW (fun k => isB C k 1 (nI lf) && !decide (C 1 k = -1)) (C 3) nC) 3).1.1 L B (inAll tm lf (L 0 lf) nC ((nE, C, E), L 1 lf - sumW (fun k => isB C k 1 (nI lf) && !decide (C 1 k = -1)) (C 3) nC) 3).1.2.1 (inAll tm lf (L 0 lf) nC ((nE, C, E), L 1 lf - sumW (fun k => isB C k 1 (nI lf) && !decide (C 1 k = -1)) (C 3) nC) 3).1.2.2) := by
  intro sz
  refine z_head (y := yX3_letIn) (av := [.ref (h 0), .int (nI lf)]) (w := (wX cI cZ h lev tm gn nL nC nE L B C E)) (Qc := fun A => zQv D (wX cI cZ h lev tm gn nL nC nE L B C E) (fun w' => w' = wX cI cZ h lev tm gn nL nC (inAll tm lf (L 0 lf) nC ((nE, C, E), L 1 lf - sumW (fun k => isB C k 1 (nI lf) && !decide (C 1 k = -1)) (C 3) nC) 3).1.1 L B (inAll tm lf (L 0 lf) nC ((nE, C, E), L 1 lf - sumW (fun k => isB C k 1 (nI lf) && !decide (C 1 k = -1)) (C 3) nC) 3).1.2.1 (inAll tm lf (L 0 lf) nC ((nE, C, E), L 1 lf - sumW (fun k => isB C k 1 (nI lf) && !decide (C 1 k = -1)) (C 3) nC) 3).1.2.2) A) (cc := cX3_letIn) (maxL := 5) (ret := none) (by decide) rfl (Nat.le_of_ble_eq_true rfl) ?_
  intro p e s m below meth c ls A hat hP hD hS hl
  obtain ⟨hx, hb, hr, hml, hlocks, hts, hown, hin, hK, hE, hA⟩ := hat
  have hP : va_P D vwCl (wX cI cZ h lev tm gn nL nC nE L B C E) s.heap := hP
  have hD : va_D A (wX cI cZ h lev tm gn nL nC nE L B C E) := hD
  have hl : lv_has ls 5 [(0, .ref (h 0)), (1, .int (nI lf))] := hl
  have L21 : ∀ (fu : Nat) (q : Nat) (ne : Nat) (C1 : Nat → Nat → Int32) (E1 : Nat → Nat → Int32) (r1 : Int32), q ≤ 3 → 3 + 1 ≤ q + fu → (((ne, C1, E1), r1) = inAll tm lf (L 0 lf) nC ((nE, C, E), L 1 lf - sumW (fun k => isB C k 1 (nI lf) && !decide (C 1 k = -1)) (C 3) nC) q) → (ne ≤ 48) → ∀ (H : Heap) (locs : List Loc) (ls : Array Slot), lv_has ls 5 [(0, .ref (h 0)), (1, .int (nI lf)), (2, .int r1), (3, .int (nI (q + 1)))] → va_P D vwCl (wX cI cZ h lev tm gn nL nC ne L B C1 E1) H → va_D A (wX cI cZ h lev tm gn nL nC ne L B C1 E1) → va_S A s.heap H locs → W p l e ({ frames := 3, cells := 0, slots := 0, locals := 68 } : Room) s m ([.ref (h 0), .int (nI lf)] : List Value).toArray below meth c H locs 0 0 (MQ below (zQv D (wX cI cZ h lev tm gn nL nC nE L B C E) (fun w' => w' = wX cI cZ h lev tm gn nL nC (inAll tm lf (L 0 lf) nC ((nE, C, E), L 1 lf - sumW (fun k => isB C k 1 (nI lf) && !decide (C 1 k = -1)) (C 3) nC) 3).1.1 L B (inAll tm lf (L 0 lf) nC ((nE, C, E), L 1 lf - sumW (fun k => isB C k 1 (nI lf) && !decide (C 1 k = -1)) (C 3) nC) 3).1.2.1 (inAll tm lf (L 0 lf) nC ((nE, C, E), L 1 lf - sumW (fun k => isB C k 1 (nI lf) && !decide (C 1 k = -1)) (C 3) nC) 3).1.2.2) A) ([.ref (h 0), .int (nI lf)] : List Value).toArray s 0 0 A) (F0 m 21 ls []) := by
    intro fu
    induction fu with
    | zero =>
      intro q ne C1 E1 r1 h1 h2
      exact absurd h2 (by omega)
    | succ fu ih21 =>
      intro q ne C1 E1 r1 hle hfu ex hne H locs ls hl hP hD hS
      have L29 : ∀ (fu : Nat) (i : Nat) (n2 : Nat) (C2 : Nat → Nat → Int32) (E2 : Nat → Nat → Int32) (r2 : Int32), i ≤ nC → nC + 1 ≤ i + fu → (q < 3) → (((n2, C2, E2), r2) = inZ tm lf (L 0 lf) (nI (q + 1)) ((ne, C1, E1), r1) i) → (n2 ≤ 48) → ∀ (H : Heap) (locs : List Loc) (ls : Array Slot), lv_has ls 5 [(0, .ref (h 0)), (1, .int (nI lf)), (2, .int r2), (3, .int (nI (q + 1))), (4, .int (nI i))] → va_P D vwCl (wX cI cZ h lev tm gn nL nC n2 L B C2 E2) H → va_D A (wX cI cZ h lev tm gn nL nC n2 L B C2 E2) → va_S A s.heap H locs → W p l e ({ frames := 3, cells := 0, slots := 0, locals := 68 } : Room) s m ([.ref (h 0), .int (nI lf)] : List Value).toArray below meth c H locs 0 0 (MQ below (zQv D (wX cI cZ h lev tm gn nL nC nE L B C E) (fun w' => w' = wX cI cZ h lev tm gn nL nC (inAll tm lf (L 0 lf) nC ((nE, C, E), L 1 lf - sumW (fun k => isB C k 1 (nI lf) && !decide (C 1 k = -1)) (C 3) nC) 3).1.1 L B (inAll tm lf (L 0 lf) nC ((nE, C, E), L 1 lf - sumW (fun k => isB C k 1 (nI lf) && !decide (C 1 k = -1)) (C 3) nC) 3).1.2.1 (inAll tm lf (L 0 lf) nC ((nE, C, E), L 1 lf - sumW (fun k => isB C k 1 (nI lf) && !decide (C 1 k = -1)) (C 3) nC) 3).1.2.2) A) ([.ref (h 0), .int (nI lf)] : List Value).toArray s 0 0 A) (F0 m 29 ls []) := by
        intro fu
        induction fu with
        | zero =>
          intro i n2 C2 E2 r2 h1 h2
          exact absurd h2 (by omega)
        | succ fu ih29 =>
          intro i n2 C2 E2 r2 hle hfu hlt ey hn2 H locs ls hl hP hD hS
          refine lv_iload hx hb dX3_letIn_29 (lv_at hl 4 rfl) ?_
          refine lv_aload_n hx hb dX3_letIn_31 rfl (lv_at hl 0 rfl) ?_
          refine va_get (D := D) (ci := 4) (v := .ref (h 9)) (C := RX3) (T := TX3) (N := 5) hx hb hts kX3_letIn_inX3 hown hK hP 0 rfl rfl 2 (by decide) (hts _ kX3_letIn_f32) (fun _ h9 => h9) rfl dX3_letIn_32 ?_
          refine va_getN (D := D) (ci := 1) (v := .int (nI nC)) (C := RX0) (T := TX0) (N := 10) hx hb hts kX3_letIn_inX0 hown hK hP 9 rfl rfl 9 (by decide) (va_Nw.use rfl (hE _ zl_RX3_68)) (fun _ h9 => h9) rfl dX3_letIn_35 ?_
          refine zn_ge (i := i) (j := nC) (tgt := 137) hx hb (by omega) (by omega) dX3_letIn_38 (by decide) (fun c38 => ?_) (fun c38 => ?_)
          · skip
            refine lv_iinc (v := nI (q + 1 + 1)) (lv' := [(3, .int (nI (q + 1 + 1))), (0, .ref (h 0)), (1, .int (nI lf)), (2, .int r2), (4, .int (nI i))]) hx hb dX3_letIn_137 hl (k := 3) rfl (by rw [show Int32.ofInt 1 = nI 1 from rfl, nI_add]) (by decide) rfl (fun ls hl => ?_)
            refine lv_goto (tgt := 21) hx hb dX3_letIn_140 (by decide) ?_
            exact ih21 (q + 1) n2 C2 E2 r2 (by omega) (by omega) (by rw [inAll, ← ex, ← show i = nC by omega, ← ey]) (hn2) H locs ls (lv_sub hl [1, 2, 3, 0] rfl) hP hD hS
          · skip
            refine lv_aload_n hx hb dX3_letIn_41 rfl (lv_at hl 0 rfl) ?_
            refine va_get (D := D) (ci := 4) (v := .ref (h 9)) (C := RX3) (T := TX3) (N := 5) hx hb hts kX3_letIn_inX3 hown hK hP 0 rfl rfl 2 (by decide) (hts _ kX3_letIn_f32) (fun _ h9 => h9) rfl dX3_letIn_42 ?_
            refine va_getN (D := D) (ci := 1) (v := .ref (h 12)) (C := RX0) (T := TX0) (N := 10) hx hb hts kX3_letIn_inX0 hown hK hP 9 rfl rfl 2 (by decide) (va_Nw.use rfl (hE _ zl_RX3_188)) (fun _ h9 => h9) rfl dX3_letIn_45 ?_
            refine lv_iload hx hb dX3_letIn_48 (lv_at hl 4 rfl) ?_
            refine z_iald (k := i) (v := C2 2 i) hx hb hK hP 12 rfl (by decide) (by omega) (rfl) dX3_letIn_50 ?_
            refine lv_iload_n hx hb dX3_letIn_51 rfl (lv_at hl 3 rfl) ?_
            refine lv_icmp_ne (x := C2 2 i) (y := nI (q + 1)) (tgt := 131) hx hb dX3_letIn_52 (by decide) (fun c52 => ?_) (fun c52 => ?_)
            · skip
              refine lv_iinc (v := nI (i + 1)) (lv' := [(4, .int (nI (i + 1))), (0, .ref (h 0)), (1, .int (nI lf)), (2, .int r2), (3, .int (nI (q + 1)))]) hx hb dX3_letIn_131 hl (k := 4) rfl (by rw [show Int32.ofInt 1 = nI 1 from rfl, nI_add]) (by decide) rfl (fun ls hl => ?_)
              refine lv_goto (tgt := 29) hx hb dX3_letIn_134 (by decide) ?_
              exact ih29 (i + 1) n2 C2 E2 r2 (by omega) (by omega) (by omega) (by rw [inZ, ← ey]; simp [inS, c38, c52]) (hn2) H locs ls (lv_sub hl [1, 2, 3, 4, 0] rfl) hP hD hS
            · skip
              refine lv_aload_n hx hb dX3_letIn_55 rfl (lv_at hl 0 rfl) ?_
              refine va_get (D := D) (ci := 4) (v := .ref (h 9)) (C := RX3) (T := TX3) (N := 5) hx hb hts kX3_letIn_inX3 hown hK hP 0 rfl rfl 2 (by decide) (hts _ kX3_letIn_f32) (fun _ h9 => h9) rfl dX3_letIn_56 ?_
              refine lv_iload hx hb dX3_letIn_59 (lv_at hl 4 rfl) ?_
              refine lv_iload_n hx hb dX3_letIn_61 rfl (lv_at hl 1 rfl) ?_
              refine lv_aload_n hx hb dX3_letIn_62 rfl (lv_at hl 0 rfl) ?_
              refine va_get (D := D) (ci := 4) (v := .ref (h 1)) (C := RX3) (T := TX3) (N := 5) hx hb hts kX3_letIn_inX3 hown hK hP 0 rfl rfl 1 (by decide) (hts _ kX3_letIn_f25) (fun _ h9 => h9) rfl dX3_letIn_63 ?_
              refine va_getN (D := D) (ci := 3) (v := .ref (h 2)) (C := RX2) (T := TX2) (N := 9) hx hb hts kX3_letIn_inX2 hown hK hP 1 rfl rfl 0 (by decide) (va_Nw.use rfl (hE _ zl_RX3_111)) (fun _ h9 => h9) rfl dX3_letIn_66 ?_
              refine lv_iload_n hx hb dX3_letIn_69 rfl (lv_at hl 1 rfl) ?_
              refine z_iald (k := lf) (v := L 0 lf) hx hb hK hP 2 rfl (by decide) (by omega) (rfl) dX3_letIn_70 ?_
              refine lv_iload_n hx hb dX3_letIn_71 rfl (lv_at hl 2 rfl) ?_
              refine z_backi (z_runVN (n := 4) (As := [.int (nI i), .int (nI lf), .int (L 0 lf), .int r2]) (ci := 1) (rest := []) hx hb hml hown hts hK hE hP hD [9, 10, 11, 12, 13, 14, 15, 16, 17, 18] rfl (by decide) (tX0_fitsIn l D cI cZ cJ (fun k => h (9 + k)) nC C2 i (nI lf) (L 0 lf) r2 (by omega) _) gX3_letIn_X0_fitsIn_n255 rfl rfl rfl zl_RX3_255 kX3_letIn_iRX0 kX3_letIn_nX0_fitsIn kX3_letIn_eX0_fitsIn (by decide +kernel) ⟨Nat.le_of_ble_eq_true rfl, Nat.le_of_ble_eq_true rfl⟩ rfl rfl rfl hl.1 rfl (Nat.le_of_ble_eq_true rfl) dX3_letIn_72 ⟨Nat.zero_le _, Nat.zero_le _⟩) hP hD hS hA [9, 10, 11, 12, 13, 14, 15, 16, 17, 18] rfl (fun r1 w1 H locs hp1 hP hD hS => ?_)
              obtain ⟨rfl, rfl⟩ := hp1
              have hP : va_P D vwCl (wX cI cZ h lev tm gn nL nC n2 L B C2 E2) H := hP
              have hD : va_D A (wX cI cZ h lev tm gn nL nC n2 L B C2 E2) := hD
              refine zb_eq (b := (fitB C2 i (nI lf) (L 0 lf) r2)) (tgt := 131) hx hb dX3_letIn_75 (by decide) (fun c75 => ?_) (fun c75 => ?_)
              · skip
                refine lv_iinc (v := nI (i + 1)) (lv' := [(4, .int (nI (i + 1))), (0, .ref (h 0)), (1, .int (nI lf)), (2, .int r2), (3, .int (nI (q + 1)))]) hx hb dX3_letIn_131 hl (k := 4) rfl (by rw [show Int32.ofInt 1 = nI 1 from rfl, nI_add]) (by decide) rfl (fun ls hl => ?_)
                refine lv_goto (tgt := 29) hx hb dX3_letIn_134 (by decide) ?_
                exact ih29 (i + 1) n2 C2 E2 r2 (by omega) (by omega) (by omega) (by rw [inZ, ← ey]; simp [inS, c38, c52, c75]) (hn2) H locs ls (lv_sub hl [1, 2, 3, 4, 0] rfl) hP hD hS
              · skip
                refine lv_aload_n hx hb dX3_letIn_78 rfl (lv_at hl 0 rfl) ?_
                refine va_get (D := D) (ci := 4) (v := .ref (h 9)) (C := RX3) (T := TX3) (N := 5) hx hb hts kX3_letIn_inX3 hown hK hP 0 rfl rfl 2 (by decide) (hts _ kX3_letIn_f32) (fun _ h9 => h9) rfl dX3_letIn_79 ?_
                refine va_getN (D := D) (ci := 1) (v := .ref (h 14)) (C := RX0) (T := TX0) (N := 10) hx hb hts kX3_letIn_inX0 hown hK hP 9 rfl rfl 4 (by decide) (va_Nw.use rfl (hE _ zl_RX3_159)) (fun _ h9 => h9) rfl dX3_letIn_82 ?_
                refine lv_iload hx hb dX3_letIn_85 (lv_at hl 4 rfl) ?_
                refine lv_iconst (v := 1) hx hb dX3_letIn_87 (by decide) ?_
                refine z_iast (k := i) (x := 1) hx hb hK hP hD hS 14 rfl (by decide) (by omega) dX3_letIn_88 (fun H locs hP hD hS => ?_)
                have hP : va_P D vwCl (wX cI cZ h lev tm gn nL nC n2 L B (upC C2 4 i 1) E2) H := hP
                have hD : va_D A (wX cI cZ h lev tm gn nL nC n2 L B (upC C2 4 i 1) E2) := hD
                refine lv_aload_n hx hb dX3_letIn_89 rfl (lv_at hl 0 rfl) ?_
                refine va_get (D := D) (ci := 4) (v := .ref (h 9)) (C := RX3) (T := TX3) (N := 5) hx hb hts kX3_letIn_inX3 hown hK hP 0 rfl rfl 2 (by decide) (hts _ kX3_letIn_f32) (fun _ h9 => h9) rfl dX3_letIn_90 ?_
                refine va_getN (D := D) (ci := 1) (v := .ref (h 17)) (C := RX0) (T := TX0) (N := 10) hx hb hts kX3_letIn_inX0 hown hK hP 9 rfl rfl 7 (by decide) (va_Nw.use rfl (hE _ zl_RX3_162)) (fun _ h9 => h9) rfl dX3_letIn_93 ?_
                refine lv_iload hx hb dX3_letIn_96 (lv_at hl 4 rfl) ?_
                refine lv_aload_n hx hb dX3_letIn_98 rfl (lv_at hl 0 rfl) ?_
                refine va_get (D := D) (ci := 4) (v := .int (nI tm)) (C := RX3) (T := TX3) (N := 5) hx hb hts kX3_letIn_inX3 hown hK hP 0 rfl rfl 4 (by decide) (hts _ kX3_letIn_f43) (fun _ h9 => h9) rfl dX3_letIn_99 ?_
                refine z_iast (k := i) (x := nI tm) hx hb hK hP hD hS 17 rfl (by decide) (by omega) dX3_letIn_102 (fun H locs hP hD hS => ?_)
                have hP : va_P D vwCl (wX cI cZ h lev tm gn nL nC n2 L B (upC (upC C2 4 i 1) 7 i (nI tm)) E2) H := hP
                have hD : va_D A (wX cI cZ h lev tm gn nL nC n2 L B (upC (upC C2 4 i 1) 7 i (nI tm)) E2) := hD
                refine lv_aload_n hx hb dX3_letIn_103 rfl (lv_at hl 0 rfl) ?_
                refine va_get (D := D) (ci := 4) (v := .ref (h 19)) (C := RX3) (T := TX3) (N := 5) hx hb hts kX3_letIn_inX3 hown hK hP 0 rfl rfl 3 (by decide) (hts _ kX3_letIn_f39) (fun _ h9 => h9) rfl dX3_letIn_104 ?_
                refine lv_aload_n hx hb dX3_letIn_107 rfl (lv_at hl 0 rfl) ?_
                refine va_get (D := D) (ci := 4) (v := .int (nI tm)) (C := RX3) (T := TX3) (N := 5) hx hb hts kX3_letIn_inX3 hown hK hP 0 rfl rfl 4 (by decide) (hts _ kX3_letIn_f43) (fun _ h9 => h9) rfl dX3_letIn_108 ?_
                refine lv_iload_n hx hb dX3_letIn_111 rfl (lv_at hl 1 rfl) ?_
                refine lv_iload hx hb dX3_letIn_112 (lv_at hl 4 rfl) ?_
                refine lv_iconst (v := 0) hx hb dX3_letIn_114 (by decide) ?_
                refine z_backv (z_runVN (n := 4) (As := [.int (nI tm), .int (nI lf), .int (nI i), .int 0]) (ci := 2) (rest := []) hx hb hml hown hts hK hE hP hD [19, 20, 21, 22, 23] rfl (by decide) (tX1_add l D cI cZ cJ (fun k => h (19 + k)) n2 E2 (nI tm) (nI lf) (nI i) 0 (by omega) _) gX3_letIn_X1_add_n259 rfl rfl rfl zl_RX3_259 kX3_letIn_iRX1 kX3_letIn_nX1_add kX3_letIn_eX1_add (by decide +kernel) ⟨Nat.le_of_ble_eq_true rfl, Nat.le_of_ble_eq_true rfl⟩ rfl rfl rfl hl.1 rfl (Nat.le_of_ble_eq_true rfl) dX3_letIn_115 ⟨Nat.zero_le _, Nat.zero_le _⟩) hP hD hS hA [19, 20, 21, 22, 23] rfl (fun w1 H locs hp2 hP hD hS => ?_)
                obtain rfl := hp2
                have hP : va_P D vwCl (wX cI cZ h lev tm gn nL nC (evN n2) L B (upC (upC C2 4 i 1) 7 i (nI tm)) (evE E2 n2 (nI tm) (nI lf) (nI i) 0)) H := hP
                have hD : va_D A (wX cI cZ h lev tm gn nL nC (evN n2) L B (upC (upC C2 4 i 1) 7 i (nI tm)) (evE E2 n2 (nI tm) (nI lf) (nI i) 0)) := hD
                refine lv_iload_n hx hb dX3_letIn_118 rfl (lv_at hl 2 rfl) ?_
                refine lv_aload_n hx hb dX3_letIn_119 rfl (lv_at hl 0 rfl) ?_
                refine va_get (D := D) (ci := 4) (v := .ref (h 9)) (C := RX3) (T := TX3) (N := 5) hx hb hts kX3_letIn_inX3 hown hK hP 0 rfl rfl 2 (by decide) (hts _ kX3_letIn_f32) (fun _ h9 => h9) rfl dX3_letIn_120 ?_
                refine va_getN (D := D) (ci := 1) (v := .ref (h 13)) (C := RX0) (T := TX0) (N := 10) hx hb hts kX3_letIn_inX0 hown hK hP 9 rfl rfl 3 (by decide) (va_Nw.use rfl (hE _ zl_RX3_191)) (fun _ h9 => h9) rfl dX3_letIn_123 ?_
                refine lv_iload hx hb dX3_letIn_126 (lv_at hl 4 rfl) ?_
                refine z_iald (k := i) (v := C2 3 i) hx hb hK hP 13 rfl (by decide) (by omega) (by rw [upC_n (by decide), upC_n (by decide)]) dX3_letIn_128 ?_
                refine lv_isub (x := r2) (y := C2 3 i) hx hb dX3_letIn_129 ?_
                refine lv_istore_n (lv' := [(2, .int (r2 - (C2 3 i))), (0, .ref (h 0)), (1, .int (nI lf)), (3, .int (nI (q + 1))), (4, .int (nI i))]) hx hb dX3_letIn_130 rfl hl (by decide) rfl (fun ls hl => ?_)
                refine lv_iinc (v := nI (i + 1)) (lv' := [(4, .int (nI (i + 1))), (2, .int (r2 - (C2 3 i))), (0, .ref (h 0)), (1, .int (nI lf)), (3, .int (nI (q + 1)))]) hx hb dX3_letIn_131 hl (k := 4) rfl (by rw [show Int32.ofInt 1 = nI 1 from rfl, nI_add]) (by decide) rfl (fun ls hl => ?_)
                refine lv_goto (tgt := 29) hx hb dX3_letIn_134 (by decide) ?_
                exact ih29 (i + 1) (evN n2) (upC (upC C2 4 i 1) 7 i (nI tm)) (evE E2 n2 (nI tm) (nI lf) (nI i) 0) (r2 - (C2 3 i)) (by omega) (by omega) (by omega) (by rw [inZ, ← ey]; simp [inS, c38, c52, c75]) (evN_le hn2) H locs ls (lv_sub hl [2, 3, 1, 4, 0] rfl) hP hD hS
      refine lv_iload_n hx hb dX3_letIn_21 rfl (lv_at hl 3 rfl) ?_
      refine lv_iconst (v := 3) hx hb dX3_letIn_22 (by decide) ?_
      refine zn_gt (i := q + 1) (j := 3) (tgt := 143) hx hb (by omega) (by omega) dX3_letIn_23 (by decide) (fun c23 => ?_) (fun c23 => ?_)
      · skip
        exact z_vret hx hb hr hlocks hS hP rfl dX3_letIn_143 (by have e3 : q = 3 := (by omega); subst e3; rw [← ex])
      · skip
        refine lv_iconst (v := 0) hx hb dX3_letIn_26 (by decide) ?_
        refine lv_istore (lv' := [(4, .int 0), (0, .ref (h 0)), (1, .int (nI lf)), (2, .int r1), (3, .int (nI (q + 1)))]) hx hb dX3_letIn_27 hl (by decide) rfl (fun ls hl => ?_)
        exact L29 (nC + 1) 0 ne C1 E1 r1 (by omega) (by omega) (by omega) (rfl) (hne) H locs ls (lv_sub hl [1, 2, 3, 4, 0] rfl) hP hD hS
  refine lv_aload_n hx hb dX3_letIn_0 rfl (lv_at hl 0 rfl) ?_
  refine va_get (D := D) (ci := 4) (v := .ref (h 1)) (C := RX3) (T := TX3) (N := 5) hx hb hts kX3_letIn_inX3 hown hK hP 0 rfl rfl 1 (by decide) (hts _ kX3_letIn_f25) (fun _ h9 => h9) rfl dX3_letIn_1 ?_
  refine va_getN (D := D) (ci := 3) (v := .ref (h 3)) (C := RX2) (T := TX2) (N := 9) hx hb hts kX3_letIn_inX2 hown hK hP 1 rfl rfl 1 (by decide) (va_Nw.use rfl (hE _ zl_RX3_246)) (fun _ h9 => h9) rfl dX3_letIn_4 ?_
  refine lv_iload_n hx hb dX3_letIn_7 rfl (lv_at hl 1 rfl) ?_
  refine z_iald (k := lf) (v := L 1 lf) hx hb hK hP 3 rfl (by decide) (by omega) (rfl) dX3_letIn_8 ?_
  refine lv_aload_n hx hb dX3_letIn_9 rfl (lv_at hl 0 rfl) ?_
  refine va_get (D := D) (ci := 4) (v := .ref (h 9)) (C := RX3) (T := TX3) (N := 5) hx hb hts kX3_letIn_inX3 hown hK hP 0 rfl rfl 2 (by decide) (hts _ kX3_letIn_f32) (fun _ h9 => h9) rfl dX3_letIn_10 ?_
  refine lv_iload_n hx hb dX3_letIn_13 rfl (lv_at hl 1 rfl) ?_
  refine z_backi (z_runVN (n := 1) (As := [.int (nI lf)]) (ci := 1) (rest := [.int (L 1 lf)]) hx hb hml hown hts hK hE hP hD [9, 10, 11, 12, 13, 14, 15, 16, 17, 18] rfl (by decide) (tX0_loadAboard l D cI cZ cJ (fun k => h (9 + k)) nC C (nI lf) (by omega) _) gX3_letIn_X0_loadAboard_n114 rfl rfl rfl zl_RX3_114 kX3_letIn_iRX0 kX3_letIn_nX0_loadAboard kX3_letIn_eX0_loadAboard (by decide +kernel) ⟨Nat.le_of_ble_eq_true rfl, Nat.le_of_ble_eq_true rfl⟩ rfl rfl rfl hl.1 rfl (Nat.le_of_ble_eq_true rfl) dX3_letIn_14 ⟨Nat.zero_le _, Nat.zero_le _⟩) hP hD hS hA [9, 10, 11, 12, 13, 14, 15, 16, 17, 18] rfl (fun r3 w1 H locs hp3 hP hD hS => ?_)
  obtain ⟨rfl, rfl⟩ := hp3
  have hP : va_P D vwCl (wX cI cZ h lev tm gn nL nC nE L B C E) H := hP
  have hD : va_D A (wX cI cZ h lev tm gn nL nC nE L B C E) := hD
  refine lv_isub (x := L 1 lf) (y := sumW (fun k => isB C k 1 (nI lf) && !decide (C 1 k = -1)) (C 3) nC) hx hb dX3_letIn_17 ?_
  refine lv_istore_n (lv' := [(2, .int ((L 1 lf) - (sumW (fun k => isB C k 1 (nI lf) && !decide (C 1 k = -1)) (C 3) nC))), (0, .ref (h 0)), (1, .int (nI lf))]) hx hb dX3_letIn_18 rfl hl (by decide) rfl (fun ls hl => ?_)
  refine lv_iconst (v := 1) hx hb dX3_letIn_19 (by decide) ?_
  refine lv_istore_n (lv' := [(3, .int 1), (2, .int ((L 1 lf) - (sumW (fun k => isB C k 1 (nI lf) && !decide (C 1 k = -1)) (C 3) nC))), (0, .ref (h 0)), (1, .int (nI lf))]) hx hb dX3_letIn_20 rfl hl (by decide) rfl (fun ls hl => ?_)
  exact L21 (3 + 1) 0 nE C E ((L 1 lf) - (sumW (fun k => isB C k 1 (nI lf) && !decide (C 1 k = -1)) (C 3) nC)) (by omega) (by omega) (rfl) (hNE) H locs ls (lv_sub hl [2, 3, 1, 0] rfl) hP hD hS

theorem kX3_doOneThing_inX3 : ∀ w ∈ wsX30, w ∈ wsX3_doOneThing := by decide +kernel
theorem kX3_doOneThing_f25 : Cond.fieldLink RX3 25 "LiftRows2" "lifts" "LLiftRows2$Lifts;" ∈ wsX3_doOneThing := by decide +kernel
theorem kX3_doOneThing_inX2 : ∀ w ∈ wsX20, w ∈ wsX3_doOneThing := by decide +kernel
theorem kX3_doOneThing_f32 : Cond.fieldLink RX3 32 "LiftRows2" "calls" "LLiftRows2$Calls;" ∈ wsX3_doOneThing := by decide +kernel
theorem kX3_doOneThing_iRX0 : Cond.initialized yX0_hasWork.cls ∈ wsX3_doOneThing := by decide +kernel
theorem kX3_doOneThing_nX0_hasWork : Cond.instanceMethod yX0_hasWork ∈ wsX3_doOneThing := by decide +kernel
theorem kX3_doOneThing_eX0_hasWork : Cond.selects RX0 yX0_hasWork yX0_hasWork ∈ wsX3_doOneThing := by decide +kernel
theorem kX3_doOneThing_iRX2 : Cond.initialized yX2_go.cls ∈ wsX3_doOneThing := by decide +kernel
theorem kX3_doOneThing_nX2_go : Cond.instanceMethod yX2_go ∈ wsX3_doOneThing := by decide +kernel
theorem kX3_doOneThing_eX2_go : Cond.selects RX2 yX2_go yX2_go ∈ wsX3_doOneThing := by decide +kernel
theorem kX3_doOneThing_nX2_passOpenSecond : Cond.instanceMethod yX2_passOpenSecond ∈ wsX3_doOneThing := by decide +kernel
theorem kX3_doOneThing_eX2_passOpenSecond : Cond.selects RX2 yX2_passOpenSecond yX2_passOpenSecond ∈ wsX3_doOneThing := by decide +kernel
set_option maxHeartbeats 4000000 in
set_option maxRecDepth 100000 in
theorem tX3_doOneThing (l : Launch) (D : va_G) (cI cZ cJ : ClassId) (h : Nat → Nat) (lev tm : Nat) (gn : Int32) (nL nC nE : Nat) (L B C E : Nat → Nat → Int32) (lf : Nat) (hlf : lf < 4) (hC : nC ≤ 24) (hNE : nE ≤ 48)  : ∀ sz : Nat, zMv l yX3_doOneThing wsX3_doOneThing ({ frames := 4, cells := 0, slots := 0, locals := 92 } : Room) D cI cZ cJ (wX cI cZ h lev tm gn nL nC nE L B C E) sz [.ref (h 0), .int (nI lf)] (fun w' => w' = wZ cI cZ h lev tm nL nC B (oneZ tm lf nC B (gn, nE, L, C, E))) := by
  intro sz
  refine z_head (y := yX3_doOneThing) (av := [.ref (h 0), .int (nI lf)]) (w := (wX cI cZ h lev tm gn nL nC nE L B C E)) (Qc := fun A => zQv D (wX cI cZ h lev tm gn nL nC nE L B C E) (fun w' => w' = wZ cI cZ h lev tm nL nC B (oneZ tm lf nC B (gn, nE, L, C, E))) A) (cc := cX3_doOneThing) (maxL := 4) (ret := none) (by decide) rfl (Nat.le_of_ble_eq_true rfl) ?_
  intro p e s m below meth c ls A hat hP hD hS hl
  obtain ⟨hx, hb, hr, hml, hlocks, hts, hown, hin, hK, hE, hA⟩ := hat
  have hP : va_P D vwCl (wX cI cZ h lev tm gn nL nC nE L B C E) s.heap := hP
  have hD : va_D A (wX cI cZ h lev tm gn nL nC nE L B C E) := hD
  have hl : lv_has ls 4 [(0, .ref (h 0)), (1, .int (nI lf))] := hl
  refine lv_aload_n hx hb dX3_doOneThing_0 rfl (lv_at hl 0 rfl) ?_
  refine va_get (D := D) (ci := 4) (v := .ref (h 1)) (C := RX3) (T := TX3) (N := 5) hx hb hts kX3_doOneThing_inX3 hown hK hP 0 rfl rfl 1 (by decide) (hts _ kX3_doOneThing_f25) (fun _ h9 => h9) rfl dX3_doOneThing_1 ?_
  refine va_getN (D := D) (ci := 3) (v := .ref (h 5)) (C := RX2) (T := TX2) (N := 9) hx hb hts kX3_doOneThing_inX2 hown hK hP 1 rfl rfl 3 (by decide) (va_Nw.use rfl (hE _ zl_RX3_121)) (fun _ h9 => h9) rfl dX3_doOneThing_4 ?_
  refine lv_iload_n hx hb dX3_doOneThing_7 rfl (lv_at hl 1 rfl) ?_
  refine z_iald (k := lf) (v := L 3 lf) hx hb hK hP 5 rfl (by decide) (by omega) (rfl) dX3_doOneThing_8 ?_
  refine lv_if_le (x := L 3 lf) (tgt := 23) hx hb dX3_doOneThing_9 (by decide) (fun c9 => ?_) (fun c9 => ?_)
  · skip
    refine lv_aload_n hx hb dX3_doOneThing_23 rfl (lv_at hl 0 rfl) ?_
    refine lv_iload_n hx hb dX3_doOneThing_24 rfl (lv_at hl 1 rfl) ?_
    refine z_backiA (z_runVA (n := 1) (As := [.int (nI lf)]) (ci := 4) (rest := []) hx hb hml hown hts hK hE hP hD (tX3_opensHere l D cI cZ cJ h lev tm gn nL nC nE L B C E lf (by omega) (by omega) _) gX3_doOneThing_X3_opensHere rfl rfl rfl (by decide +kernel) ⟨Nat.le_of_ble_eq_true rfl, Nat.le_of_ble_eq_true rfl⟩ rfl rfl rfl hl.1 rfl (Nat.le_of_ble_eq_true rfl) dX3_doOneThing_25 ⟨Nat.zero_le _, Nat.zero_le _⟩) hD hS hA (fun r1 w1 H locs hp1 hP hD hS => ?_)
    obtain ⟨rfl, rfl⟩ := hp1
    have hP : va_P D vwCl (wX cI cZ h lev tm gn nL nC nE L B C E) H := hP
    have hD : va_D A (wX cI cZ h lev tm gn nL nC nE L B C E) := hD
    refine zb_eq (b := (opnB L C lf nC nC)) (tgt := 54) hx hb dX3_doOneThing_28 (by decide) (fun c28 => ?_) (fun c28 => ?_)
    · skip
      refine lv_aload_n hx hb dX3_doOneThing_54 rfl (lv_at hl 0 rfl) ?_
      refine va_get (D := D) (ci := 4) (v := .ref (h 9)) (C := RX3) (T := TX3) (N := 5) hx hb hts kX3_doOneThing_inX3 hown hK hP 0 rfl rfl 2 (by decide) (hts _ kX3_doOneThing_f32) (fun _ h9 => h9) rfl dX3_doOneThing_55 ?_
      refine lv_iload_n hx hb dX3_doOneThing_58 rfl (lv_at hl 1 rfl) ?_
      refine lv_aload_n hx hb dX3_doOneThing_59 rfl (lv_at hl 0 rfl) ?_
      refine va_get (D := D) (ci := 4) (v := .ref (h 1)) (C := RX3) (T := TX3) (N := 5) hx hb hts kX3_doOneThing_inX3 hown hK hP 0 rfl rfl 1 (by decide) (hts _ kX3_doOneThing_f25) (fun _ h9 => h9) rfl dX3_doOneThing_60 ?_
      refine va_getN (D := D) (ci := 3) (v := .ref (h 2)) (C := RX2) (T := TX2) (N := 9) hx hb hts kX3_doOneThing_inX2 hown hK hP 1 rfl rfl 0 (by decide) (va_Nw.use rfl (hE _ zl_RX3_111)) (fun _ h9 => h9) rfl dX3_doOneThing_63 ?_
      refine lv_iload_n hx hb dX3_doOneThing_66 rfl (lv_at hl 1 rfl) ?_
      refine z_iald (k := lf) (v := L 0 lf) hx hb hK hP 2 rfl (by decide) (by omega) (rfl) dX3_doOneThing_67 ?_
      refine lv_iconst (v := 1) hx hb dX3_doOneThing_68 (by decide) ?_
      refine z_backi (z_runVN (n := 3) (As := [.int (nI lf), .int (L 0 lf), .int 1]) (ci := 1) (rest := []) hx hb hml hown hts hK hE hP hD [9, 10, 11, 12, 13, 14, 15, 16, 17, 18] rfl (by decide) (tX0_hasWork l D cI cZ cJ (fun k => h (9 + k)) nC C (nI lf) (L 0 lf) 1 (by omega) _) gX3_doOneThing_X0_hasWork_n239 rfl rfl rfl zl_RX3_239 kX3_doOneThing_iRX0 kX3_doOneThing_nX0_hasWork kX3_doOneThing_eX0_hasWork (by decide +kernel) ⟨Nat.le_of_ble_eq_true rfl, Nat.le_of_ble_eq_true rfl⟩ rfl rfl rfl hl.1 rfl (Nat.le_of_ble_eq_true rfl) dX3_doOneThing_69 ⟨Nat.zero_le _, Nat.zero_le _⟩) hP hD hS hA [9, 10, 11, 12, 13, 14, 15, 16, 17, 18] rfl (fun r2 w1 H locs hp2 hP hD hS => ?_)
      obtain ⟨rfl, rfl⟩ := hp2
      have hP : va_P D vwCl (wX cI cZ h lev tm gn nL nC nE L B C E) H := hP
      have hD : va_D A (wX cI cZ h lev tm gn nL nC nE L B C E) := hD
      refine lv_istore_n (lv' := [(2, .int (bI (!decide ((nsF C (L 0 lf) 1 (setG (fun k => isB C k 0 (nI lf)) nI nC) (setG (fun k => isB C k 1 (nI lf)) nI nC) nC).1 = -1)))), (0, .ref (h 0)), (1, .int (nI lf))]) hx hb dX3_doOneThing_72 rfl hl (by decide) rfl (fun ls hl => ?_)
      refine lv_aload_n hx hb dX3_doOneThing_73 rfl (lv_at hl 1 rfl) ?_
      refine va_get (D := D) (ci := 4) (v := .ref (h 9)) (C := RX3) (T := TX3) (N := 5) hx hb hts kX3_doOneThing_inX3 hown hK hP 0 rfl rfl 2 (by decide) (hts _ kX3_doOneThing_f32) (fun _ h9 => h9) rfl dX3_doOneThing_74 ?_
      refine lv_iload_n hx hb dX3_doOneThing_77 rfl (lv_at hl 2 rfl) ?_
      refine lv_aload_n hx hb dX3_doOneThing_78 rfl (lv_at hl 1 rfl) ?_
      refine va_get (D := D) (ci := 4) (v := .ref (h 1)) (C := RX3) (T := TX3) (N := 5) hx hb hts kX3_doOneThing_inX3 hown hK hP 0 rfl rfl 1 (by decide) (hts _ kX3_doOneThing_f25) (fun _ h9 => h9) rfl dX3_doOneThing_79 ?_
      refine va_getN (D := D) (ci := 3) (v := .ref (h 2)) (C := RX2) (T := TX2) (N := 9) hx hb hts kX3_doOneThing_inX2 hown hK hP 1 rfl rfl 0 (by decide) (va_Nw.use rfl (hE _ zl_RX3_111)) (fun _ h9 => h9) rfl dX3_doOneThing_82 ?_
      refine lv_iload_n hx hb dX3_doOneThing_85 rfl (lv_at hl 2 rfl) ?_
      refine z_iald (k := lf) (v := L 0 lf) hx hb hK hP 2 rfl (by decide) (by omega) (rfl) dX3_doOneThing_86 ?_
      refine lv_iconst (v := (-1)) hx hb dX3_doOneThing_87 (by decide) ?_
      refine z_backi (z_runVN (n := 3) (As := [.int (nI lf), .int (L 0 lf), .int (-1)]) (ci := 1) (rest := []) hx hb hml hown hts hK hE hP hD [9, 10, 11, 12, 13, 14, 15, 16, 17, 18] rfl (by decide) (tX0_hasWork l D cI cZ cJ (fun k => h (9 + k)) nC C (nI lf) (L 0 lf) (-1) (by omega) _) gX3_doOneThing_X0_hasWork_n239 rfl rfl rfl zl_RX3_239 kX3_doOneThing_iRX0 kX3_doOneThing_nX0_hasWork kX3_doOneThing_eX0_hasWork (by decide +kernel) ⟨Nat.le_of_ble_eq_true rfl, Nat.le_of_ble_eq_true rfl⟩ rfl rfl rfl hl.1 rfl (Nat.le_of_ble_eq_true rfl) dX3_doOneThing_88 ⟨Nat.zero_le _, Nat.zero_le _⟩) hP hD hS hA [9, 10, 11, 12, 13, 14, 15, 16, 17, 18] rfl (fun r3 w1 H locs hp3 hP hD hS => ?_)
      obtain ⟨rfl, rfl⟩ := hp3
      have hP : va_P D vwCl (wX cI cZ h lev tm gn nL nC nE L B C E) H := hP
      have hD : va_D A (wX cI cZ h lev tm gn nL nC nE L B C E) := hD
      refine lv_istore_n (lv' := [(3, .int (bI (!decide ((nsF C (L 0 lf) (-1) (setG (fun k => isB C k 0 (nI lf)) nI nC) (setG (fun k => isB C k 1 (nI lf)) nI nC) nC).1 = -1)))), (2, .int (bI (!decide ((nsF C (L 0 lf) 1 (setG (fun k => isB C k 0 (nI lf)) nI nC) (setG (fun k => isB C k 1 (nI lf)) nI nC) nC).1 = -1)))), (0, .ref (h 0)), (1, .int (nI lf))]) hx hb dX3_doOneThing_91 rfl hl (by decide) rfl (fun ls hl => ?_)
      refine lv_aload_n hx hb dX3_doOneThing_92 rfl (lv_at hl 2 rfl) ?_
      refine va_get (D := D) (ci := 4) (v := .ref (h 1)) (C := RX3) (T := TX3) (N := 5) hx hb hts kX3_doOneThing_inX3 hown hK hP 0 rfl rfl 1 (by decide) (hts _ kX3_doOneThing_f25) (fun _ h9 => h9) rfl dX3_doOneThing_93 ?_
      refine lv_iload_n hx hb dX3_doOneThing_96 rfl (lv_at hl 3 rfl) ?_
      refine lv_iload_n hx hb dX3_doOneThing_97 rfl (lv_at hl 1 rfl) ?_
      refine lv_iload_n hx hb dX3_doOneThing_98 rfl (lv_at hl 0 rfl) ?_
      refine z_backv (z_runVN (n := 3) (As := [.int (nI lf), .int (bI (!decide ((nsF C (L 0 lf) 1 (setG (fun k => isB C k 0 (nI lf)) nI nC) (setG (fun k => isB C k 1 (nI lf)) nI nC) nC).1 = -1))), .int (bI (!decide ((nsF C (L 0 lf) (-1) (setG (fun k => isB C k 0 (nI lf)) nI nC) (setG (fun k => isB C k 1 (nI lf)) nI nC) nC).1 = -1)))]) (ci := 3) (rest := []) hx hb hml hown hts hK hE hP hD [1, 2, 3, 4, 5, 6, 7, 8] rfl (by decide) (tX2_go l D cI cZ cJ (fun k => h (1 + k)) nL gn L B lf (!decide ((nsF C (L 0 lf) 1 (setG (fun k => isB C k 0 (nI lf)) nI nC) (setG (fun k => isB C k 1 (nI lf)) nI nC) nC).1 = -1)) (!decide ((nsF C (L 0 lf) (-1) (setG (fun k => isB C k 0 (nI lf)) nI nC) (setG (fun k => isB C k 1 (nI lf)) nI nC) nC).1 = -1)) (by omega) _) gX3_doOneThing_X2_go_n242 rfl rfl rfl zl_RX3_242 kX3_doOneThing_iRX2 kX3_doOneThing_nX2_go kX3_doOneThing_eX2_go (by decide +kernel) ⟨Nat.le_of_ble_eq_true rfl, Nat.le_of_ble_eq_true rfl⟩ rfl rfl rfl hl.1 rfl (Nat.le_of_ble_eq_true rfl) dX3_doOneThing_99 ⟨Nat.zero_le _, Nat.zero_le _⟩) hP hD hS hA [1, 2, 3, 4, 5, 6, 7, 8] rfl (fun w1 H locs hp4 hP hD hS => ?_)
      obtain rfl := hp4
      have hP : va_P D vwCl (wX cI cZ h lev tm (gn + (absI (dirF (L 2 lf) (!decide ((nsF C (L 0 lf) 1 (setG (fun k => isB C k 0 (nI lf)) nI nC) (setG (fun k => isB C k 1 (nI lf)) nI nC) nC).1 = -1)) (!decide ((nsF C (L 0 lf) (-1) (setG (fun k => isB C k 0 (nI lf)) nI nC) (setG (fun k => isB C k 1 (nI lf)) nI nC) nC).1 = -1))))) nL nC nE (goL L lf (dirF (L 2 lf) (!decide ((nsF C (L 0 lf) 1 (setG (fun k => isB C k 0 (nI lf)) nI nC) (setG (fun k => isB C k 1 (nI lf)) nI nC) nC).1 = -1)) (!decide ((nsF C (L 0 lf) (-1) (setG (fun k => isB C k 0 (nI lf)) nI nC) (setG (fun k => isB C k 1 (nI lf)) nI nC) nC).1 = -1)))) B C E) H := hP
      have hD : va_D A (wX cI cZ h lev tm (gn + (absI (dirF (L 2 lf) (!decide ((nsF C (L 0 lf) 1 (setG (fun k => isB C k 0 (nI lf)) nI nC) (setG (fun k => isB C k 1 (nI lf)) nI nC) nC).1 = -1)) (!decide ((nsF C (L 0 lf) (-1) (setG (fun k => isB C k 0 (nI lf)) nI nC) (setG (fun k => isB C k 1 (nI lf)) nI nC) nC).1 = -1))))) nL nC nE (goL L lf (dirF (L 2 lf) (!decide ((nsF C (L 0 lf) 1 (setG (fun k => isB C k 0 (nI lf)) nI nC) (setG (fun k => isB C k 1 (nI lf)) nI nC) nC).1 = -1)) (!decide ((nsF C (L 0 lf) (-1) (setG (fun k => isB C k 0 (nI lf)) nI nC) (setG (fun k => isB C k 1 (nI lf)) nI nC) nC).1 = -1)))) B C E) := hD
      exact z_vret hx hb hr hlocks hS hP rfl dX3_doOneThing_102 (by rw [oneZ, if_pos c9, if_neg (by rw [c28]; decide)]; rfl)
    · skip
      refine lv_aload_n hx hb dX3_doOneThing_31 rfl (lv_at hl 0 rfl) ?_
      refine lv_iload_n hx hb dX3_doOneThing_32 rfl (lv_at hl 1 rfl) ?_
      refine z_backvA (z_runVA (n := 1) (As := [.int (nI lf)]) (ci := 4) (rest := []) hx hb hml hown hts hK hE hP hD (tX3_letOut l D cI cZ cJ h lev tm gn nL nC nE L B C E lf (by omega) (by omega) (by omega) _) gX3_doOneThing_X3_letOut rfl rfl rfl (by decide +kernel) ⟨Nat.le_of_ble_eq_true rfl, Nat.le_of_ble_eq_true rfl⟩ rfl rfl rfl hl.1 rfl (Nat.le_of_ble_eq_true rfl) dX3_doOneThing_33 ⟨Nat.zero_le _, Nat.zero_le _⟩) hD hS hA (fun w1 H locs hp6 hP hD hS => ?_)
      obtain rfl := hp6
      generalize ez5 : outZ tm lf (L 0 lf) (nE, C, E) nC = z5 at hP hD
      have hP : va_P D vwCl (wX cI cZ h lev tm gn nL nC z5.1 L B z5.2.1 z5.2.2) H := hP
      have hD : va_D A (wX cI cZ h lev tm gn nL nC z5.1 L B z5.2.1 z5.2.2) := hD
      refine lv_aload_n hx hb dX3_doOneThing_36 rfl (lv_at hl 0 rfl) ?_
      refine lv_iload_n hx hb dX3_doOneThing_37 rfl (lv_at hl 1 rfl) ?_
      refine z_backvA (z_runVA (n := 1) (As := [.int (nI lf)]) (ci := 4) (rest := []) hx hb hml hown hts hK hE hP hD (tX3_letIn l D cI cZ cJ h lev tm gn nL nC z5.1 L B z5.2.1 z5.2.2 lf (by omega) (by omega) (by rw [← ez5]; exact outZ_le hNE) _) gX3_doOneThing_X3_letIn rfl rfl rfl (by decide +kernel) ⟨Nat.le_of_ble_eq_true rfl, Nat.le_of_ble_eq_true rfl⟩ rfl rfl rfl hl.1 rfl (Nat.le_of_ble_eq_true rfl) dX3_doOneThing_38 ⟨Nat.zero_le _, Nat.zero_le _⟩) hD hS hA (fun w1 H locs hp8 hP hD hS => ?_)
      obtain rfl := hp8
      generalize ez7 : (inAll tm lf (L 0 lf) nC ((z5.1, z5.2.1, z5.2.2), L 1 lf - sumW (fun k => isB z5.2.1 k 1 (nI lf) && !decide (z5.2.1 1 k = -1)) (z5.2.1 3) nC) 3).1 = z7 at hP hD
      have hP : va_P D vwCl (wX cI cZ h lev tm gn nL nC z7.1 L B z7.2.1 z7.2.2) H := hP
      have hD : va_D A (wX cI cZ h lev tm gn nL nC z7.1 L B z7.2.1 z7.2.2) := hD
      refine lv_aload_n hx hb dX3_doOneThing_41 rfl (lv_at hl 0 rfl) ?_
      refine va_get (D := D) (ci := 4) (v := .ref (h 1)) (C := RX3) (T := TX3) (N := 5) hx hb hts kX3_doOneThing_inX3 hown hK hP 0 rfl rfl 1 (by decide) (hts _ kX3_doOneThing_f25) (fun _ h9 => h9) rfl dX3_doOneThing_42 ?_
      refine va_getN (D := D) (ci := 3) (v := .ref (h 5)) (C := RX2) (T := TX2) (N := 9) hx hb hts kX3_doOneThing_inX2 hown hK hP 1 rfl rfl 3 (by decide) (va_Nw.use rfl (hE _ zl_RX3_121)) (fun _ h9 => h9) rfl dX3_doOneThing_45 ?_
      refine lv_iload_n hx hb dX3_doOneThing_48 rfl (lv_at hl 1 rfl) ?_
      refine lv_iconst (v := 3) hx hb dX3_doOneThing_49 (by decide) ?_
      refine z_iast (k := lf) (x := 3) hx hb hK hP hD hS 5 rfl (by decide) (by omega) dX3_doOneThing_50 (fun H locs hP hD hS => ?_)
      have hP : va_P D vwCl (wX cI cZ h lev tm gn nL nC z7.1 (upC L 3 lf 3) B z7.2.1 z7.2.2) H := hP
      have hD : va_D A (wX cI cZ h lev tm gn nL nC z7.1 (upC L 3 lf 3) B z7.2.1 z7.2.2) := hD
      refine lv_goto (tgt := 102) hx hb dX3_doOneThing_51 (by decide) ?_
      exact z_vret hx hb hr hlocks hS hP rfl dX3_doOneThing_102 (by rw [oneZ, if_pos c9, if_pos c28]; show _ = wX cI cZ h lev tm gn nL nC (exZ tm lf nC L (nE, C, E)).1 (upC L 3 lf 3) B (exZ tm lf nC L (nE, C, E)).2.1 (exZ tm lf nC L (nE, C, E)).2.2; rw [show exZ tm lf nC L (nE, C, E) = z7 by rw [exZ, ez5, ← ez7]])
  · skip
    refine lv_aload_n hx hb dX3_doOneThing_12 rfl (lv_at hl 0 rfl) ?_
    refine va_get (D := D) (ci := 4) (v := .ref (h 1)) (C := RX3) (T := TX3) (N := 5) hx hb hts kX3_doOneThing_inX3 hown hK hP 0 rfl rfl 1 (by decide) (hts _ kX3_doOneThing_f25) (fun _ h9 => h9) rfl dX3_doOneThing_13 ?_
    refine lv_iload_n hx hb dX3_doOneThing_16 rfl (lv_at hl 1 rfl) ?_
    refine z_backv (z_runVN (n := 1) (As := [.int (nI lf)]) (ci := 3) (rest := []) hx hb hml hown hts hK hE hP hD [1, 2, 3, 4, 5, 6, 7, 8] rfl (by decide) (tX2_passOpenSecond l D cI cZ cJ (fun k => h (1 + k)) nL gn L B lf (by omega) _) gX3_doOneThing_X2_passOpenSecond_n226 rfl rfl rfl zl_RX3_226 kX3_doOneThing_iRX2 kX3_doOneThing_nX2_passOpenSecond kX3_doOneThing_eX2_passOpenSecond (by decide +kernel) ⟨Nat.le_of_ble_eq_true rfl, Nat.le_of_ble_eq_true rfl⟩ rfl rfl rfl hl.1 rfl (Nat.le_of_ble_eq_true rfl) dX3_doOneThing_17 ⟨Nat.zero_le _, Nat.zero_le _⟩) hP hD hS hA [1, 2, 3, 4, 5, 6, 7, 8] rfl (fun w1 H locs hp9 hP hD hS => ?_)
    obtain rfl := hp9
    have hP : va_P D vwCl (wX cI cZ h lev tm gn nL nC nE (pasL L B lf) B C E) H := hP
    have hD : va_D A (wX cI cZ h lev tm gn nL nC nE (pasL L B lf) B C E) := hD
    refine lv_goto (tgt := 102) hx hb dX3_doOneThing_20 (by decide) ?_
    exact z_vret hx hb hr hlocks hS hP rfl dX3_doOneThing_102 (by rw [oneZ, if_neg c9])

theorem kX3_passSecond_inX3 : ∀ w ∈ wsX30, w ∈ wsX3_passSecond := by decide +kernel
theorem kX3_passSecond_f25 : Cond.fieldLink RX3 25 "LiftRows2" "lifts" "LLiftRows2$Lifts;" ∈ wsX3_passSecond := by decide +kernel
theorem kX3_passSecond_inX2 : ∀ w ∈ wsX20, w ∈ wsX3_passSecond := by decide +kernel
theorem kX3_passSecond_f43 : Cond.fieldLink RX3 43 "LiftRows2" "time" "I" ∈ wsX3_passSecond := by decide +kernel
set_option maxHeartbeats 4000000 in
set_option maxRecDepth 100000 in
theorem tX3_passSecond (l : Launch) (D : va_G) (cI cZ cJ : ClassId) (h : Nat → Nat) (lev tm : Nat) (gn : Int32) (nL nC nE : Nat) (L B C E : Nat → Nat → Int32) (hL : nL ≤ 4) (hC : nC ≤ 24) (hNE : nE ≤ 48)  : ∀ sz : Nat, zMv l yX3_passSecond wsX3_passSecond ({ frames := 5, cells := 0, slots := 0, locals := 115 } : Room) D cI cZ cJ (wX cI cZ h lev tm gn nL nC nE L B C E) sz [.ref (h 0)] (fun w' => w' = wZ cI cZ h lev (tm + 1) nL nC B (secZ (tm + 1) nC B (gn, nE, L, C, E) nL)) := by
  intro sz
  refine z_head (y := yX3_passSecond) (av := [.ref (h 0)]) (w := (wX cI cZ h lev tm gn nL nC nE L B C E)) (Qc := fun A => zQv D (wX cI cZ h lev tm gn nL nC nE L B C E) (fun w' => w' = wZ cI cZ h lev (tm + 1) nL nC B (secZ (tm + 1) nC B (gn, nE, L, C, E) nL)) A) (cc := cX3_passSecond) (maxL := 2) (ret := none) (by decide) rfl (Nat.le_of_ble_eq_true rfl) ?_
  intro p e s m below meth c ls A hat hP hD hS hl
  obtain ⟨hx, hb, hr, hml, hlocks, hts, hown, hin, hK, hE, hA⟩ := hat
  have hP : va_P D vwCl (wX cI cZ h lev tm gn nL nC nE L B C E) s.heap := hP
  have hD : va_D A (wX cI cZ h lev tm gn nL nC nE L B C E) := hD
  have hl : lv_has ls 2 [(0, .ref (h 0))] := hl
  have L12 : ∀ (fu : Nat) (i : Nat) (gn1 : Int32) (ne : Nat) (L1 : Nat → Nat → Int32) (C1 : Nat → Nat → Int32) (E1 : Nat → Nat → Int32), i ≤ nL → nL + 1 ≤ i + fu → ((gn1, ne, L1, C1, E1) = secZ (tm + 1) nC B (gn, nE, L, C, E) i) → (ne ≤ 48) → ∀ (H : Heap) (locs : List Loc) (ls : Array Slot), lv_has ls 2 [(0, .ref (h 0)), (1, .int (nI i))] → va_P D vwCl (wX cI cZ h lev (tm + 1) gn1 nL nC ne L1 B C1 E1) H → va_D A (wX cI cZ h lev (tm + 1) gn1 nL nC ne L1 B C1 E1) → va_S A s.heap H locs → W p l e ({ frames := 5, cells := 0, slots := 0, locals := 115 } : Room) s m ([.ref (h 0)] : List Value).toArray below meth c H locs 0 0 (MQ below (zQv D (wX cI cZ h lev tm gn nL nC nE L B C E) (fun w' => w' = wZ cI cZ h lev (tm + 1) nL nC B (secZ (tm + 1) nC B (gn, nE, L, C, E) nL)) A) ([.ref (h 0)] : List Value).toArray s 0 0 A) (F0 m 12 ls []) := by
    intro fu
    induction fu with
    | zero =>
      intro i gn1 ne L1 C1 E1 h1 h2
      exact absurd h2 (by omega)
    | succ fu ih12 =>
      intro i gn1 ne L1 C1 E1 hle hfu ex hne H locs ls hl hP hD hS
      refine lv_iload_n hx hb dX3_passSecond_12 rfl (lv_at hl 1 rfl) ?_
      refine lv_aload_n hx hb dX3_passSecond_13 rfl (lv_at hl 0 rfl) ?_
      refine va_get (D := D) (ci := 4) (v := .ref (h 1)) (C := RX3) (T := TX3) (N := 5) hx hb hts kX3_passSecond_inX3 hown hK hP 0 rfl rfl 1 (by decide) (hts _ kX3_passSecond_f25) (fun _ h9 => h9) rfl dX3_passSecond_14 ?_
      refine va_getN (D := D) (ci := 3) (v := .int (nI nL)) (C := RX2) (T := TX2) (N := 9) hx hb hts kX3_passSecond_inX2 hown hK hP 1 rfl rfl 7 (by decide) (va_Nw.use rfl (hE _ zl_RX3_50)) (fun _ h9 => h9) rfl dX3_passSecond_17 ?_
      refine zn_ge (i := i) (j := nL) (tgt := 46) hx hb (by omega) (by omega) dX3_passSecond_20 (by decide) (fun c20 => ?_) (fun c20 => ?_)
      · skip
        exact z_vret hx hb hr hlocks hS hP rfl dX3_passSecond_46 (by rw [← show i = nL by omega, ← ex])
      · skip
        refine lv_aload_n hx hb dX3_passSecond_23 rfl (lv_at hl 0 rfl) ?_
        refine va_get (D := D) (ci := 4) (v := .ref (h 1)) (C := RX3) (T := TX3) (N := 5) hx hb hts kX3_passSecond_inX3 hown hK hP 0 rfl rfl 1 (by decide) (hts _ kX3_passSecond_f25) (fun _ h9 => h9) rfl dX3_passSecond_24 ?_
        refine va_getN (D := D) (ci := 3) (v := .ref (h 6)) (C := RX2) (T := TX2) (N := 9) hx hb hts kX3_passSecond_inX2 hown hK hP 1 rfl rfl 4 (by decide) (va_Nw.use rfl (hE _ zl_RX3_127)) (fun _ h9 => h9) rfl dX3_passSecond_27 ?_
        refine lv_iload_n hx hb dX3_passSecond_30 rfl (lv_at hl 1 rfl) ?_
        refine z_zald (k := i) (v := B 0 i) hx hb hK hP 6 rfl (by decide) (by omega) (rfl) dX3_passSecond_31 ?_
        refine lv_if_ne (x := B 0 i) (tgt := 40) hx hb dX3_passSecond_32 (by decide) (fun c32 => ?_) (fun c32 => ?_)
        · skip
          refine lv_iinc (v := nI (i + 1)) (lv' := [(1, .int (nI (i + 1))), (0, .ref (h 0))]) hx hb dX3_passSecond_40 hl (k := 1) rfl (by rw [show Int32.ofInt 1 = nI 1 from rfl, nI_add]) (by decide) rfl (fun ls hl => ?_)
          refine lv_goto (tgt := 12) hx hb dX3_passSecond_43 (by decide) ?_
          exact ih12 (i + 1) gn1 ne L1 C1 E1 (by omega) (by omega) (by rw [secZ, ← ex, if_neg c32]) (hne) H locs ls (lv_sub hl [1, 0] rfl) hP hD hS
        · skip
          refine lv_aload_n hx hb dX3_passSecond_35 rfl (lv_at hl 0 rfl) ?_
          refine lv_iload_n hx hb dX3_passSecond_36 rfl (lv_at hl 1 rfl) ?_
          refine z_backvA (z_runVA (n := 1) (As := [.int (nI i)]) (ci := 4) (rest := []) hx hb hml hown hts hK hE hP hD (tX3_doOneThing l D cI cZ cJ h lev (tm + 1) gn1 nL nC ne L1 B C1 E1 i (by omega) (by omega) (by omega) _) gX3_passSecond_X3_doOneThing rfl rfl rfl (by decide +kernel) ⟨Nat.le_of_ble_eq_true rfl, Nat.le_of_ble_eq_true rfl⟩ rfl rfl rfl hl.1 rfl (Nat.le_of_ble_eq_true rfl) dX3_passSecond_37 ⟨Nat.zero_le _, Nat.zero_le _⟩) hD hS hA (fun w1 H locs hp2 hP hD hS => ?_)
          obtain rfl := hp2
          generalize ez1 : oneZ (tm + 1) i nC B (gn1, ne, L1, C1, E1) = z1 at hP hD
          have hP : va_P D vwCl (wX cI cZ h lev (tm + 1) z1.1 nL nC z1.2.1 z1.2.2.1 B z1.2.2.2.1 z1.2.2.2.2) H := hP
          have hD : va_D A (wX cI cZ h lev (tm + 1) z1.1 nL nC z1.2.1 z1.2.2.1 B z1.2.2.2.1 z1.2.2.2.2) := hD
          refine lv_iinc (v := nI (i + 1)) (lv' := [(1, .int (nI (i + 1))), (0, .ref (h 0))]) hx hb dX3_passSecond_40 hl (k := 1) rfl (by rw [show Int32.ofInt 1 = nI 1 from rfl, nI_add]) (by decide) rfl (fun ls hl => ?_)
          refine lv_goto (tgt := 12) hx hb dX3_passSecond_43 (by decide) ?_
          exact ih12 (i + 1) z1.1 z1.2.1 z1.2.2.1 z1.2.2.2.1 z1.2.2.2.2 (by omega) (by omega) (by rw [secZ, ← ex, if_pos c32, ez1]) (by rw [← ez1]; exact oneZ_le hne) H locs ls (lv_sub hl [1, 0] rfl) hP hD hS
  refine lv_aload_n hx hb dX3_passSecond_0 rfl (lv_at hl 0 rfl) ?_
  refine lv_dup hx hb dX3_passSecond_1 rfl ?_
  refine va_get (D := D) (ci := 4) (v := .int (nI tm)) (C := RX3) (T := TX3) (N := 5) hx hb hts kX3_passSecond_inX3 hown hK hP 0 rfl rfl 4 (by decide) (hts _ kX3_passSecond_f43) (fun _ h9 => h9) rfl dX3_passSecond_2 ?_
  refine lv_iconst (v := 1) hx hb dX3_passSecond_5 (by decide) ?_
  refine zn_add (i := tm) (j := 1) hx hb dX3_passSecond_6 ?_
  refine va_put (D := D) (ci := 4) (v := .int (nI (tm + 1))) (ty := .int) (C := RX3) (T := TX3) (N := 5) hx hb hts kX3_passSecond_inX3 tyX3 tyX3_ok nmX3 hown hK hP hD hS 0 rfl rfl 4 (by decide) (hts _ kX3_passSecond_f43) (fun _ h9 => h9) rfl (by decide +kernel) rfl rfl (Nat.le_of_ble_eq_true rfl) dX3_passSecond_7 (fun H locs hP hD hS => ?_)
  have hP : va_P D vwCl (wX cI cZ h lev (tm + 1) gn nL nC nE L B C E) H := hP
  have hD : va_D A (wX cI cZ h lev (tm + 1) gn nL nC nE L B C E) := hD
  refine lv_iconst (v := 0) hx hb dX3_passSecond_10 (by decide) ?_
  refine lv_istore_n (lv' := [(1, .int 0), (0, .ref (h 0))]) hx hb dX3_passSecond_11 rfl hl (by decide) rfl (fun ls hl => ?_)
  exact L12 (nL + 1) 0 gn nE L C E (by omega) (by omega) (rfl) (hNE) H locs ls (lv_sub hl [1, 0] rfl) hP hD hS
