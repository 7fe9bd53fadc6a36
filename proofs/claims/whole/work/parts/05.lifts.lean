theorem kX2_mayGet_inX2 : ∀ w ∈ wsX20, w ∈ wsX2_mayGet := by decide +kernel
theorem kX2_mayGet_f24 : Cond.fieldLink RX2 24 "LiftRows2$Lifts" "isStuck" "[Z" ∈ wsX2_mayGet := by decide +kernel
theorem kX2_mayGet_f28 : Cond.fieldLink RX2 28 "LiftRows2$Lifts" "isReserved" "[Z" ∈ wsX2_mayGet := by decide +kernel
theorem kX2_mayGet_f15 : Cond.fieldLink RX2 15 "LiftRows2$Lifts" "capacity" "[I" ∈ wsX2_mayGet := by decide +kernel
set_option maxHeartbeats 4000000 in
set_option maxRecDepth 100000 in
theorem tX2_mayGet (l : Launch) (D : va_G) (cI cZ cJ : ClassId) (h : Nat → Nat) (n : Nat) (gn : Int32) (L B : Nat → Nat → Int32) (i : Nat) (ld : Int32) (hi : i < 4) : ∀ sz : Nat, zMi l yX2_mayGet wsX2_mayGet ({ frames := 0, cells := 0, slots := 0, locals := 0 } : Room) D cI cZ cJ (wL cI cZ h n gn L B) sz [.ref (h 0), .int (nI i), .int ld] (fun r w' => r = bI (getB L B i ld) ∧ w' = wL cI cZ h n gn L B) := by
  intro sz
  refine z_head (y := yX2_mayGet) (av := [.ref (h 0), .int (nI i), .int ld]) (w := (wL cI cZ h n gn L B)) (Qc := fun A => zQi D (wL cI cZ h n gn L B) (fun r w' => r = bI (getB L B i ld) ∧ w' = wL cI cZ h n gn L B) A) (cc := cX2_mayGet) (maxL := 3) (ret := (some .boolean)) (by decide) rfl (Nat.le_of_ble_eq_true rfl) ?_
  intro p e s m below meth c ls A hat hP hD hS hl
  obtain ⟨hx, hb, hr, hml, hlocks, hts, hown, hin, hK, hE, hA⟩ := hat
  have hP : va_P D vwCl (wL cI cZ h n gn L B) s.heap := hP
  have hD : va_D A (wL cI cZ h n gn L B) := hD
  have hl : lv_has ls 3 [(0, .ref (h 0)), (1, .int (nI i)), (2, .int ld)] := hl
  refine lv_aload_n hx hb dX2_mayGet_0 rfl (lv_at hl 0 rfl) ?_
  refine va_get (D := D) (ci := 3) (v := .ref (h 5)) (C := RX2) (T := TX2) (N := 9) hx hb hts kX2_mayGet_inX2 hown hK hP 0 rfl rfl 4 (by decide) (hts _ kX2_mayGet_f24) (fun _ h9 => h9) rfl dX2_mayGet_1 ?_
  refine lv_iload_n hx hb dX2_mayGet_4 rfl (lv_at hl 1 rfl) ?_
  refine z_zald (k := i) (v := B 0 i) hx hb hK hP 5 rfl (by decide) (by omega) (rfl) dX2_mayGet_5 ?_
  refine lv_if_ne (x := B 0 i) (tgt := 32) hx hb dX2_mayGet_6 (by decide) (fun c6 => ?_) (fun c6 => ?_)
  · skip
    refine lv_iconst (v := 0) hx hb dX2_mayGet_32 (by decide) ?_
    exact z_zret hx hb hr hlocks hS hP rfl (Or.inl rfl) dX2_mayGet_33 (⟨by simp [getB, bI, c6], rfl⟩)
  · skip
    refine lv_aload_n hx hb dX2_mayGet_9 rfl (lv_at hl 0 rfl) ?_
    refine va_get (D := D) (ci := 3) (v := .ref (h 6)) (C := RX2) (T := TX2) (N := 9) hx hb hts kX2_mayGet_inX2 hown hK hP 0 rfl rfl 5 (by decide) (hts _ kX2_mayGet_f28) (fun _ h9 => h9) rfl dX2_mayGet_10 ?_
    refine lv_iload_n hx hb dX2_mayGet_13 rfl (lv_at hl 1 rfl) ?_
    refine z_zald (k := i) (v := B 1 i) hx hb hK hP 6 rfl (by decide) (by omega) (rfl) dX2_mayGet_14 ?_
    refine lv_if_ne (x := B 1 i) (tgt := 32) hx hb dX2_mayGet_15 (by decide) (fun c15 => ?_) (fun c15 => ?_)
    · skip
      refine lv_iconst (v := 0) hx hb dX2_mayGet_32 (by decide) ?_
      exact z_zret hx hb hr hlocks hS hP rfl (Or.inl rfl) dX2_mayGet_33 (⟨by simp [getB, bI, c6, c15], rfl⟩)
    · skip
      refine lv_aload_n hx hb dX2_mayGet_18 rfl (lv_at hl 0 rfl) ?_
      refine va_get (D := D) (ci := 3) (v := .ref (h 2)) (C := RX2) (T := TX2) (N := 9) hx hb hts kX2_mayGet_inX2 hown hK hP 0 rfl rfl 1 (by decide) (hts _ kX2_mayGet_f15) (fun _ h9 => h9) rfl dX2_mayGet_19 ?_
      refine lv_iload_n hx hb dX2_mayGet_22 rfl (lv_at hl 1 rfl) ?_
      refine z_iald (k := i) (v := L 1 i) hx hb hK hP 2 rfl (by decide) (by omega) (rfl) dX2_mayGet_23 ?_
      refine lv_iload_n hx hb dX2_mayGet_24 rfl (lv_at hl 2 rfl) ?_
      refine lv_icmp_lt (x := L 1 i) (y := ld) (tgt := 32) hx hb dX2_mayGet_25 (by decide) (fun c25 => ?_) (fun c25 => ?_)
      · skip
        refine lv_iconst (v := 0) hx hb dX2_mayGet_32 (by decide) ?_
        exact z_zret hx hb hr hlocks hS hP rfl (Or.inl rfl) dX2_mayGet_33 (⟨by simp [getB, bI, c6, c15, c25], rfl⟩)
      · skip
        refine lv_iconst (v := 1) hx hb dX2_mayGet_28 (by decide) ?_
        refine lv_goto (tgt := 33) hx hb dX2_mayGet_29 (by decide) ?_
        exact z_zret hx hb hr hlocks hS hP rfl (Or.inr rfl) dX2_mayGet_33 (⟨by simp [getB, bI, c6, c15, c25], rfl⟩)

theorem kX2_passOpenSecond_inX2 : ∀ w ∈ wsX20, w ∈ wsX2_passOpenSecond := by decide +kernel
theorem kX2_passOpenSecond_f21 : Cond.fieldLink RX2 21 "LiftRows2$Lifts" "openFor" "[I" ∈ wsX2_passOpenSecond := by decide +kernel
theorem kX2_passOpenSecond_m41 : Cond.methodLink RX2 41 Lib.Math.max.name ∈ wsX2_passOpenSecond := by decide +kernel
theorem kX2_passOpenSecond_smax : Cond.static Lib.Math.max.name ∈ wsX2_passOpenSecond := by decide +kernel
theorem kX2_passOpenSecond_iMath : Cond.initialized "java/lang/Math" ∈ wsX2_passOpenSecond := by decide +kernel
theorem kX2_passOpenSecond_cmax : Cond.code Lib.Math.max.name Lib.Math.max.code 2 (some .int) ∈ wsX2_passOpenSecond := by decide +kernel
theorem kX2_passOpenSecond_f31 : Cond.fieldLink RX2 31 "LiftRows2$Lifts" "isKept" "[Z" ∈ wsX2_passOpenSecond := by decide +kernel
set_option maxHeartbeats 4000000 in
set_option maxRecDepth 100000 in
theorem tX2_passOpenSecond (l : Launch) (D : va_G) (cI cZ cJ : ClassId) (h : Nat → Nat) (n : Nat) (gn : Int32) (L B : Nat → Nat → Int32) (i : Nat) (hi : i < 4) : ∀ sz : Nat, zMv l yX2_passOpenSecond wsX2_passOpenSecond ({ frames := 1, cells := 0, slots := 0, locals := 16 } : Room) D cI cZ cJ (wL cI cZ h n gn L B) sz [.ref (h 0), .int (nI i)] (fun w' => w' = wL cI cZ h n gn (pasL L B i) B) := by
  intro sz
  refine z_head (y := yX2_passOpenSecond) (av := [.ref (h 0), .int (nI i)]) (w := (wL cI cZ h n gn L B)) (Qc := fun A => zQv D (wL cI cZ h n gn L B) (fun w' => w' = wL cI cZ h n gn (pasL L B i) B) A) (cc := cX2_passOpenSecond) (maxL := 3) (ret := none) (by decide) rfl (Nat.le_of_ble_eq_true rfl) ?_
  intro p e s m below meth c ls A hat hP hD hS hl
  obtain ⟨hx, hb, hr, hml, hlocks, hts, hown, hin, hK, hE, hA⟩ := hat
  have hP : va_P D vwCl (wL cI cZ h n gn L B) s.heap := hP
  have hD : va_D A (wL cI cZ h n gn L B) := hD
  have hl : lv_has ls 3 [(0, .ref (h 0)), (1, .int (nI i))] := hl
  have L14 : ∀ (fw : Int32), (fw = kpI B i) → ∀ (H : Heap) (locs : List Loc) (ls : Array Slot), lv_has ls 3 [(0, .ref (h 0)), (1, .int (nI i))] → va_P D vwCl (wL cI cZ h n gn L B) H → va_D A (wL cI cZ h n gn L B) → va_S A s.heap H locs → W p l e ({ frames := 1, cells := 0, slots := 0, locals := 16 } : Room) s m ([.ref (h 0), .int (nI i)] : List Value).toArray below meth c H locs 0 0 (MQ below (zQv D (wL cI cZ h n gn L B) (fun w' => w' = wL cI cZ h n gn (pasL L B i) B) A) ([.ref (h 0), .int (nI i)] : List Value).toArray s 0 0 A) (F0 m 14 ls [.int fw]) := by
    intro fw ef H locs ls hl hP hD hS
    subst ef
    refine lv_istore_n (lv' := [(2, .int (kpI B i)), (0, .ref (h 0)), (1, .int (nI i))]) hx hb dX2_passOpenSecond_14 rfl hl (by decide) rfl (fun ls hl => ?_)
    refine lv_aload_n hx hb dX2_passOpenSecond_15 rfl (lv_at hl 1 rfl) ?_
    refine va_get (D := D) (ci := 3) (v := .ref (h 4)) (C := RX2) (T := TX2) (N := 9) hx hb hts kX2_passOpenSecond_inX2 hown hK hP 0 rfl rfl 3 (by decide) (hts _ kX2_passOpenSecond_f21) (fun _ h9 => h9) rfl dX2_passOpenSecond_16 ?_
    refine lv_iload_n hx hb dX2_passOpenSecond_19 rfl (lv_at hl 2 rfl) ?_
    refine lv_iload_n hx hb dX2_passOpenSecond_20 rfl (lv_at hl 0 rfl) ?_
    refine lv_aload_n hx hb dX2_passOpenSecond_21 rfl (lv_at hl 1 rfl) ?_
    refine va_get (D := D) (ci := 3) (v := .ref (h 4)) (C := RX2) (T := TX2) (N := 9) hx hb hts kX2_passOpenSecond_inX2 hown hK hP 0 rfl rfl 3 (by decide) (hts _ kX2_passOpenSecond_f21) (fun _ h9 => h9) rfl dX2_passOpenSecond_22 ?_
    refine lv_iload_n hx hb dX2_passOpenSecond_25 rfl (lv_at hl 2 rfl) ?_
    refine z_iald (k := i) (v := L 3 i) hx hb hK hP 4 rfl (by decide) (by omega) (rfl) dX2_passOpenSecond_26 ?_
    refine lv_iconst (v := 1) hx hb dX2_passOpenSecond_27 (by decide) ?_
    refine lv_isub (x := L 3 i) (y := 1) hx hb dX2_passOpenSecond_28 ?_
    refine va_mmax hx hb (hml.trans hl.1.symm) hown (hts _ kX2_passOpenSecond_m41) (hts _ kX2_passOpenSecond_smax) (hts _ kX2_passOpenSecond_iMath) (hts _ kX2_passOpenSecond_cmax) (Nat.le_of_ble_eq_true rfl) (Nat.le_of_ble_eq_true rfl) (Nat.zero_le _) (Nat.zero_le _) dX2_passOpenSecond_29 ?_
    refine z_iast (k := i) (x := if kpI B i < (L 3 i) - 1 then (L 3 i) - 1 else kpI B i) hx hb hK hP hD hS 4 rfl (by decide) (by omega) dX2_passOpenSecond_32 (fun H locs hP hD hS => ?_)
    have hP : va_P D vwCl (wL cI cZ h n gn (upC L 3 i (if kpI B i < (L 3 i) - 1 then (L 3 i) - 1 else kpI B i)) B) H := hP
    have hD : va_D A (wL cI cZ h n gn (upC L 3 i (if kpI B i < (L 3 i) - 1 then (L 3 i) - 1 else kpI B i)) B) := hD
    exact z_vret hx hb hr hlocks hS hP rfl dX2_passOpenSecond_33 (rfl)
  refine lv_aload_n hx hb dX2_passOpenSecond_0 rfl (lv_at hl 0 rfl) ?_
  refine va_get (D := D) (ci := 3) (v := .ref (h 7)) (C := RX2) (T := TX2) (N := 9) hx hb hts kX2_passOpenSecond_inX2 hown hK hP 0 rfl rfl 6 (by decide) (hts _ kX2_passOpenSecond_f31) (fun _ h9 => h9) rfl dX2_passOpenSecond_1 ?_
  refine lv_iload_n hx hb dX2_passOpenSecond_4 rfl (lv_at hl 1 rfl) ?_
  refine z_zald (k := i) (v := B 2 i) hx hb hK hP 7 rfl (by decide) (by omega) (rfl) dX2_passOpenSecond_5 ?_
  refine lv_if_eq (x := B 2 i) (tgt := 13) hx hb dX2_passOpenSecond_6 (by decide) (fun c6 => ?_) (fun c6 => ?_)
  · skip
    refine lv_iconst (v := 0) hx hb dX2_passOpenSecond_13 (by decide) ?_
    exact L14 0 (by simp [kpI, c6]) s.heap [] ls (lv_sub hl [0, 1] rfl) hP hD hS
  · skip
    refine lv_iconst (v := 1) hx hb dX2_passOpenSecond_9 (by decide) ?_
    refine lv_goto (tgt := 14) hx hb dX2_passOpenSecond_10 (by decide) ?_
    exact L14 1 (by simp [kpI, c6]) s.heap [] ls (lv_sub hl [0, 1] rfl) hP hD hS

theorem kX2_go_inX2 : ∀ w ∈ wsX20, w ∈ wsX2_go := by decide +kernel
theorem kX2_go_f9 : Cond.fieldLink RX2 9 "LiftRows2$Lifts" "at" "[I" ∈ wsX2_go := by decide +kernel
theorem kX2_go_f18 : Cond.fieldLink RX2 18 "LiftRows2$Lifts" "direction" "[I" ∈ wsX2_go := by decide +kernel
theorem kX2_go_f38 : Cond.fieldLink RX2 38 "LiftRows2$Lifts" "gone" "I" ∈ wsX2_go := by decide +kernel
theorem kX2_go_m47 : Cond.methodLink RX2 47 Lib.Math.abs.name ∈ wsX2_go := by decide +kernel
theorem kX2_go_sabs : Cond.static Lib.Math.abs.name ∈ wsX2_go := by decide +kernel
theorem kX2_go_iMath : Cond.initialized "java/lang/Math" ∈ wsX2_go := by decide +kernel
theorem kX2_go_cabs : Cond.code Lib.Math.abs.name Lib.Math.abs.code 1 (some .int) ∈ wsX2_go := by decide +kernel
set_option maxHeartbeats 4000000 in
set_option maxRecDepth 100000 in
theorem tX2_go (l : Launch) (D : va_G) (cI cZ cJ : ClassId) (h : Nat → Nat) (n : Nat) (gn : Int32) (L B : Nat → Nat → Int32) (i : Nat) (up dn : Bool) (hi : i < 4) : ∀ sz : Nat, zMv l yX2_go wsX2_go ({ frames := 1, cells := 0, slots := 0, locals := 16 } : Room) D cI cZ cJ (wL cI cZ h n gn L B) sz [.ref (h 0), .int (nI i), .int (bI up), .int (bI dn)] (fun w' => w' = wL cI cZ h n (gn + (absI (dirF (L 2 i) up dn))) (goL L i (dirF (L 2 i) up dn)) B) := by
  intro sz
  refine z_head (y := yX2_go) (av := [.ref (h 0), .int (nI i), .int (bI up), .int (bI dn)]) (w := (wL cI cZ h n gn L B)) (Qc := fun A => zQv D (wL cI cZ h n gn L B) (fun w' => w' = wL cI cZ h n (gn + (absI (dirF (L 2 i) up dn))) (goL L i (dirF (L 2 i) up dn)) B) A) (cc := cX2_go) (maxL := 5) (ret := none) (by decide) rfl (Nat.le_of_ble_eq_true rfl) ?_
  intro p e s m below meth c ls A hat hP hD hS hl
  obtain ⟨hx, hb, hr, hml, hlocks, hts, hown, hin, hK, hE, hA⟩ := hat
  have hP : va_P D vwCl (wL cI cZ h n gn L B) s.heap := hP
  have hD : va_D A (wL cI cZ h n gn L B) := hD
  have hl : lv_has ls 5 [(0, .ref (h 0)), (1, .int (nI i)), (2, .int (bI up)), (3, .int (bI dn))] := hl
  have L61 : ∀ (d : Int32), (d = dirF (L 2 i) up dn) → ∀ (H : Heap) (locs : List Loc) (ls : Array Slot), lv_has ls 5 [(0, .ref (h 0)), (1, .int (nI i))] → va_P D vwCl (wL cI cZ h n gn (upC L 2 i d) B) H → va_D A (wL cI cZ h n gn (upC L 2 i d) B) → va_S A s.heap H locs → W p l e ({ frames := 1, cells := 0, slots := 0, locals := 16 } : Room) s m ([.ref (h 0), .int (nI i), .int (bI up), .int (bI dn)] : List Value).toArray below meth c H locs 0 0 (MQ below (zQv D (wL cI cZ h n gn L B) (fun w' => w' = wL cI cZ h n (gn + (absI (dirF (L 2 i) up dn))) (goL L i (dirF (L 2 i) up dn)) B) A) ([.ref (h 0), .int (nI i), .int (bI up), .int (bI dn)] : List Value).toArray s 0 0 A) (F0 m 61 ls []) := by
    intro d ed H locs ls hl hP hD hS
    refine lv_aload_n hx hb dX2_go_61 rfl (lv_at hl 0 rfl) ?_
    refine va_get (D := D) (ci := 3) (v := .ref (h 1)) (C := RX2) (T := TX2) (N := 9) hx hb hts kX2_go_inX2 hown hK hP 0 rfl rfl 0 (by decide) (hts _ kX2_go_f9) (fun _ h9 => h9) rfl dX2_go_62 ?_
    refine lv_iload_n hx hb dX2_go_65 rfl (lv_at hl 1 rfl) ?_
    refine lv_dup2_11 hx hb dX2_go_66 rfl rfl ?_
    refine z_iald (k := i) (v := L 0 i) hx hb hK hP 1 rfl (by decide) (by omega) (by rw [upC_n (by decide)]) dX2_go_67 ?_
    refine lv_aload_n hx hb dX2_go_68 rfl (lv_at hl 0 rfl) ?_
    refine va_get (D := D) (ci := 3) (v := .ref (h 3)) (C := RX2) (T := TX2) (N := 9) hx hb hts kX2_go_inX2 hown hK hP 0 rfl rfl 2 (by decide) (hts _ kX2_go_f18) (fun _ h9 => h9) rfl dX2_go_69 ?_
    refine lv_iload_n hx hb dX2_go_72 rfl (lv_at hl 1 rfl) ?_
    refine z_iald (k := i) (v := d) hx hb hK hP 3 rfl (by decide) (by omega) (by rw [upC_s]) dX2_go_73 ?_
    refine lv_iadd (x := L 0 i) (y := d) hx hb dX2_go_74 ?_
    refine z_iast (k := i) (x := (L 0 i) + d) hx hb hK hP hD hS 1 rfl (by decide) (by omega) dX2_go_75 (fun H locs hP hD hS => ?_)
    have hP : va_P D vwCl (wL cI cZ h n gn (upC (upC L 2 i d) 0 i ((L 0 i) + d)) B) H := hP
    have hD : va_D A (wL cI cZ h n gn (upC (upC L 2 i d) 0 i ((L 0 i) + d)) B) := hD
    refine lv_aload_n hx hb dX2_go_76 rfl (lv_at hl 0 rfl) ?_
    refine lv_dup hx hb dX2_go_77 rfl ?_
    refine va_get (D := D) (ci := 3) (v := .int gn) (C := RX2) (T := TX2) (N := 9) hx hb hts kX2_go_inX2 hown hK hP 0 rfl rfl 8 (by decide) (hts _ kX2_go_f38) (fun _ h9 => h9) rfl dX2_go_78 ?_
    refine lv_aload_n hx hb dX2_go_81 rfl (lv_at hl 0 rfl) ?_
    refine va_get (D := D) (ci := 3) (v := .ref (h 3)) (C := RX2) (T := TX2) (N := 9) hx hb hts kX2_go_inX2 hown hK hP 0 rfl rfl 2 (by decide) (hts _ kX2_go_f18) (fun _ h9 => h9) rfl dX2_go_82 ?_
    refine lv_iload_n hx hb dX2_go_85 rfl (lv_at hl 1 rfl) ?_
    refine z_iald (k := i) (v := d) hx hb hK hP 3 rfl (by decide) (by omega) (by rw [upC_n (by decide), upC_s]) dX2_go_86 ?_
    refine va_mabs hx hb (hml.trans hl.1.symm) hown (hts _ kX2_go_m47) (hts _ kX2_go_sabs) (hts _ kX2_go_iMath) (hts _ kX2_go_cabs) (Nat.le_of_ble_eq_true rfl) (Nat.le_of_ble_eq_true rfl) (Nat.zero_le _) (Nat.zero_le _) dX2_go_87 ?_
    refine lv_iadd (x := gn) (y := absI d) hx hb dX2_go_90 ?_
    refine va_put (D := D) (ci := 3) (v := .int (gn + (absI d))) (ty := .int) (C := RX2) (T := TX2) (N := 9) hx hb hts kX2_go_inX2 tyX2 tyX2_ok nmX2 hown hK hP hD hS 0 rfl rfl 8 (by decide) (hts _ kX2_go_f38) (fun _ h9 => h9) rfl (by decide +kernel) rfl rfl (Nat.le_of_ble_eq_true rfl) dX2_go_91 (fun H locs hP hD hS => ?_)
    have hP : va_P D vwCl (wL cI cZ h n (gn + (absI d)) (upC (upC L 2 i d) 0 i ((L 0 i) + d)) B) H := hP
    have hD : va_D A (wL cI cZ h n (gn + (absI d)) (upC (upC L 2 i d) 0 i ((L 0 i) + d)) B) := hD
    exact z_vret hx hb hr hlocks hS hP rfl dX2_go_94 (by subst ed; rfl)
  have L19 : ∀ (v4 : Bool), (v4 = (decide (L 2 i = -1) && dn)) → ∀ (H : Heap) (locs : List Loc) (ls : Array Slot), lv_has ls 5 [(0, .ref (h 0)), (1, .int (nI i)), (2, .int (bI up)), (3, .int (bI dn))] → va_P D vwCl (wL cI cZ h n gn L B) H → va_D A (wL cI cZ h n gn L B) → va_S A s.heap H locs → W p l e ({ frames := 1, cells := 0, slots := 0, locals := 16 } : Room) s m ([.ref (h 0), .int (nI i), .int (bI up), .int (bI dn)] : List Value).toArray below meth c H locs 0 0 (MQ below (zQv D (wL cI cZ h n gn L B) (fun w' => w' = wL cI cZ h n (gn + (absI (dirF (L 2 i) up dn))) (goL L i (dirF (L 2 i) up dn)) B) A) ([.ref (h 0), .int (nI i), .int (bI up), .int (bI dn)] : List Value).toArray s 0 0 A) (F0 m 19 ls [.int (bI v4)]) := by
    intro v4 ev H locs ls hl hP hD hS
    refine lv_istore (lv' := [(4, .int (bI v4)), (0, .ref (h 0)), (1, .int (nI i)), (2, .int (bI up)), (3, .int (bI dn))]) hx hb dX2_go_19 hl (by decide) rfl (fun ls hl => ?_)
    refine lv_iload_n hx hb dX2_go_21 rfl (lv_at hl 3 rfl) ?_
    refine zb_eq (b := up) (tgt := 40) hx hb dX2_go_22 (by decide) (fun c22 => ?_) (fun c22 => ?_)
    · skip
      refine lv_iload_n hx hb dX2_go_40 rfl (lv_at hl 4 rfl) ?_
      refine zb_eq (b := dn) (tgt := 54) hx hb dX2_go_41 (by decide) (fun c41 => ?_) (fun c41 => ?_)
      · skip
        refine lv_aload_n hx hb dX2_go_54 rfl (lv_at hl 1 rfl) ?_
        refine va_get (D := D) (ci := 3) (v := .ref (h 3)) (C := RX2) (T := TX2) (N := 9) hx hb hts kX2_go_inX2 hown hK hP 0 rfl rfl 2 (by decide) (hts _ kX2_go_f18) (fun _ h9 => h9) rfl dX2_go_55 ?_
        refine lv_iload_n hx hb dX2_go_58 rfl (lv_at hl 2 rfl) ?_
        refine lv_iconst (v := 0) hx hb dX2_go_59 (by decide) ?_
        refine z_iast (k := i) (x := 0) hx hb hK hP hD hS 3 rfl (by decide) (by omega) dX2_go_60 (fun H locs hP hD hS => ?_)
        have hP : va_P D vwCl (wL cI cZ h n gn (upC L 2 i 0) B) H := hP
        have hD : va_D A (wL cI cZ h n gn (upC L 2 i 0) B) := hD
        exact L61 0 (by unfold dirF; rw [← ev]; simp [c22, c41]) H locs ls (lv_sub hl [1, 2] rfl) hP hD hS
      · skip
        refine lv_aload_n hx hb dX2_go_44 rfl (lv_at hl 1 rfl) ?_
        refine va_get (D := D) (ci := 3) (v := .ref (h 3)) (C := RX2) (T := TX2) (N := 9) hx hb hts kX2_go_inX2 hown hK hP 0 rfl rfl 2 (by decide) (hts _ kX2_go_f18) (fun _ h9 => h9) rfl dX2_go_45 ?_
        refine lv_iload_n hx hb dX2_go_48 rfl (lv_at hl 2 rfl) ?_
        refine lv_iconst (v := (-1)) hx hb dX2_go_49 (by decide) ?_
        refine z_iast (k := i) (x := (-1)) hx hb hK hP hD hS 3 rfl (by decide) (by omega) dX2_go_50 (fun H locs hP hD hS => ?_)
        have hP : va_P D vwCl (wL cI cZ h n gn (upC L 2 i (-1)) B) H := hP
        have hD : va_D A (wL cI cZ h n gn (upC L 2 i (-1)) B) := hD
        refine lv_goto (tgt := 61) hx hb dX2_go_51 (by decide) ?_
        exact L61 (-1) (by unfold dirF; rw [← ev]; simp [c22, c41]) H locs ls (lv_sub hl [1, 2] rfl) hP hD hS
    · skip
      refine lv_iload hx hb dX2_go_25 (lv_at hl 0 rfl) ?_
      refine zb_ne (b := v4) (tgt := 40) hx hb dX2_go_27 (by decide) (fun c27 => ?_) (fun c27 => ?_)
      · skip
        refine lv_iload_n hx hb dX2_go_40 rfl (lv_at hl 4 rfl) ?_
        refine zb_eq (b := dn) (tgt := 54) hx hb dX2_go_41 (by decide) (fun c41 => ?_) (fun c41 => ?_)
        · skip
          refine lv_aload_n hx hb dX2_go_54 rfl (lv_at hl 1 rfl) ?_
          refine va_get (D := D) (ci := 3) (v := .ref (h 3)) (C := RX2) (T := TX2) (N := 9) hx hb hts kX2_go_inX2 hown hK hP 0 rfl rfl 2 (by decide) (hts _ kX2_go_f18) (fun _ h9 => h9) rfl dX2_go_55 ?_
          refine lv_iload_n hx hb dX2_go_58 rfl (lv_at hl 2 rfl) ?_
          refine lv_iconst (v := 0) hx hb dX2_go_59 (by decide) ?_
          refine z_iast (k := i) (x := 0) hx hb hK hP hD hS 3 rfl (by decide) (by omega) dX2_go_60 (fun H locs hP hD hS => ?_)
          have hP : va_P D vwCl (wL cI cZ h n gn (upC L 2 i 0) B) H := hP
          have hD : va_D A (wL cI cZ h n gn (upC L 2 i 0) B) := hD
          exact L61 0 (by unfold dirF; rw [← ev]; simp [c22, c27, c41]) H locs ls (lv_sub hl [1, 2] rfl) hP hD hS
        · skip
          refine lv_aload_n hx hb dX2_go_44 rfl (lv_at hl 1 rfl) ?_
          refine va_get (D := D) (ci := 3) (v := .ref (h 3)) (C := RX2) (T := TX2) (N := 9) hx hb hts kX2_go_inX2 hown hK hP 0 rfl rfl 2 (by decide) (hts _ kX2_go_f18) (fun _ h9 => h9) rfl dX2_go_45 ?_
          refine lv_iload_n hx hb dX2_go_48 rfl (lv_at hl 2 rfl) ?_
          refine lv_iconst (v := (-1)) hx hb dX2_go_49 (by decide) ?_
          refine z_iast (k := i) (x := (-1)) hx hb hK hP hD hS 3 rfl (by decide) (by omega) dX2_go_50 (fun H locs hP hD hS => ?_)
          have hP : va_P D vwCl (wL cI cZ h n gn (upC L 2 i (-1)) B) H := hP
          have hD : va_D A (wL cI cZ h n gn (upC L 2 i (-1)) B) := hD
          refine lv_goto (tgt := 61) hx hb dX2_go_51 (by decide) ?_
          exact L61 (-1) (by unfold dirF; rw [← ev]; simp [c22, c27, c41]) H locs ls (lv_sub hl [1, 2] rfl) hP hD hS
      · skip
        refine lv_aload_n hx hb dX2_go_30 rfl (lv_at hl 1 rfl) ?_
        refine va_get (D := D) (ci := 3) (v := .ref (h 3)) (C := RX2) (T := TX2) (N := 9) hx hb hts kX2_go_inX2 hown hK hP 0 rfl rfl 2 (by decide) (hts _ kX2_go_f18) (fun _ h9 => h9) rfl dX2_go_31 ?_
        refine lv_iload_n hx hb dX2_go_34 rfl (lv_at hl 2 rfl) ?_
        refine lv_iconst (v := 1) hx hb dX2_go_35 (by decide) ?_
        refine z_iast (k := i) (x := 1) hx hb hK hP hD hS 3 rfl (by decide) (by omega) dX2_go_36 (fun H locs hP hD hS => ?_)
        have hP : va_P D vwCl (wL cI cZ h n gn (upC L 2 i 1) B) H := hP
        have hD : va_D A (wL cI cZ h n gn (upC L 2 i 1) B) := hD
        refine lv_goto (tgt := 61) hx hb dX2_go_37 (by decide) ?_
        exact L61 1 (by unfold dirF; rw [← ev]; simp [c22, c27]) H locs ls (lv_sub hl [1, 2] rfl) hP hD hS
  refine lv_aload_n hx hb dX2_go_0 rfl (lv_at hl 0 rfl) ?_
  refine va_get (D := D) (ci := 3) (v := .ref (h 3)) (C := RX2) (T := TX2) (N := 9) hx hb hts kX2_go_inX2 hown hK hP 0 rfl rfl 2 (by decide) (hts _ kX2_go_f18) (fun _ h9 => h9) rfl dX2_go_1 ?_
  refine lv_iload_n hx hb dX2_go_4 rfl (lv_at hl 1 rfl) ?_
  refine z_iald (k := i) (v := L 2 i) hx hb hK hP 3 rfl (by decide) (by omega) (rfl) dX2_go_5 ?_
  refine lv_iconst (v := (-1)) hx hb dX2_go_6 (by decide) ?_
  refine lv_icmp_ne (x := L 2 i) (y := (-1)) (tgt := 18) hx hb dX2_go_7 (by decide) (fun c7 => ?_) (fun c7 => ?_)
  · skip
    refine lv_iconst (v := 0) hx hb dX2_go_18 (by decide) ?_
    exact L19 false (by simp [c7]) s.heap [] ls (lv_sub hl [0, 1, 2, 3] rfl) hP hD hS
  · skip
    refine lv_iload_n hx hb dX2_go_10 rfl (lv_at hl 3 rfl) ?_
    refine zb_eq (b := dn) (tgt := 18) hx hb dX2_go_11 (by decide) (fun c11 => ?_) (fun c11 => ?_)
    · skip
      refine lv_iconst (v := 0) hx hb dX2_go_18 (by decide) ?_
      exact L19 false (by simp [c7, c11]) s.heap [] ls (lv_sub hl [0, 1, 2, 3] rfl) hP hD hS
    · skip
      refine lv_iconst (v := 1) hx hb dX2_go_14 (by decide) ?_
      refine lv_goto (tgt := 19) hx hb dX2_go_15 (by decide) ?_
      exact L19 true (by simp [c7, c11]) s.heap [] ls (lv_sub hl [0, 1, 2, 3] rfl) hP hD hS

theorem kX2_add_inX2 : ∀ w ∈ wsX20, w ∈ wsX2_add := by decide +kernel
theorem kX2_add_f34 : Cond.fieldLink RX2 34 "LiftRows2$Lifts" "size" "I" ∈ wsX2_add := by decide +kernel
theorem kX2_add_f9 : Cond.fieldLink RX2 9 "LiftRows2$Lifts" "at" "[I" ∈ wsX2_add := by decide +kernel
theorem kX2_add_f15 : Cond.fieldLink RX2 15 "LiftRows2$Lifts" "capacity" "[I" ∈ wsX2_add := by decide +kernel
set_option maxHeartbeats 4000000 in
set_option maxRecDepth 100000 in
theorem tX2_add (l : Launch) (D : va_G) (cI cZ cJ : ClassId) (h : Nat → Nat) (n : Nat) (gn : Int32) (L B : Nat → Nat → Int32) (a q : Int32) (hn : n < 4) : ∀ sz : Nat, zMi l yX2_add wsX2_add ({ frames := 0, cells := 0, slots := 0, locals := 0 } : Room) D cI cZ cJ (wL cI cZ h n gn L B) sz [.ref (h 0), .int a, .int q] (fun r w' => r = nI n ∧ w' = wL cI cZ h (n + 1) gn (upC (upC L 0 n a) 1 n q) B) := by
  intro sz
  refine z_head (y := yX2_add) (av := [.ref (h 0), .int a, .int q]) (w := (wL cI cZ h n gn L B)) (Qc := fun A => zQi D (wL cI cZ h n gn L B) (fun r w' => r = nI n ∧ w' = wL cI cZ h (n + 1) gn (upC (upC L 0 n a) 1 n q) B) A) (cc := cX2_add) (maxL := 4) (ret := (some .int)) (by decide) rfl (Nat.le_of_ble_eq_true rfl) ?_
  intro p e s m below meth c ls A hat hP hD hS hl
  obtain ⟨hx, hb, hr, hml, hlocks, hts, hown, hin, hK, hE, hA⟩ := hat
  have hP : va_P D vwCl (wL cI cZ h n gn L B) s.heap := hP
  have hD : va_D A (wL cI cZ h n gn L B) := hD
  have hl : lv_has ls 4 [(0, .ref (h 0)), (1, .int a), (2, .int q)] := hl
  refine lv_aload_n hx hb dX2_add_0 rfl (lv_at hl 0 rfl) ?_
  refine va_get (D := D) (ci := 3) (v := .int (nI n)) (C := RX2) (T := TX2) (N := 9) hx hb hts kX2_add_inX2 hown hK hP 0 rfl rfl 7 (by decide) (hts _ kX2_add_f34) (fun _ h9 => h9) rfl dX2_add_1 ?_
  refine lv_istore_n (lv' := [(3, .int (nI n)), (0, .ref (h 0)), (1, .int a), (2, .int q)]) hx hb dX2_add_4 rfl hl (by decide) rfl (fun ls hl => ?_)
  refine lv_iload_n hx hb dX2_add_5 rfl (lv_at hl 0 rfl) ?_
  refine lv_iconst (v := 4) hx hb dX2_add_6 (by decide) ?_
  refine zn_ge (i := n) (j := 4) (tgt := 34) hx hb (by omega) (by omega) dX2_add_7 (by decide) (fun c7 => ?_) (fun c7 => ?_)
  · skip
    exact absurd hn (by omega)
  · skip
    refine lv_aload_n hx hb dX2_add_10 rfl (lv_at hl 1 rfl) ?_
    refine va_get (D := D) (ci := 3) (v := .ref (h 1)) (C := RX2) (T := TX2) (N := 9) hx hb hts kX2_add_inX2 hown hK hP 0 rfl rfl 0 (by decide) (hts _ kX2_add_f9) (fun _ h9 => h9) rfl dX2_add_11 ?_
    refine lv_iload_n hx hb dX2_add_14 rfl (lv_at hl 0 rfl) ?_
    refine lv_iload_n hx hb dX2_add_15 rfl (lv_at hl 2 rfl) ?_
    refine z_iast (k := n) (x := a) hx hb hK hP hD hS 1 rfl (by decide) (by omega) dX2_add_16 (fun H locs hP hD hS => ?_)
    have hP : va_P D vwCl (wL cI cZ h n gn (upC L 0 n a) B) H := hP
    have hD : va_D A (wL cI cZ h n gn (upC L 0 n a) B) := hD
    refine lv_aload_n hx hb dX2_add_17 rfl (lv_at hl 1 rfl) ?_
    refine va_get (D := D) (ci := 3) (v := .ref (h 2)) (C := RX2) (T := TX2) (N := 9) hx hb hts kX2_add_inX2 hown hK hP 0 rfl rfl 1 (by decide) (hts _ kX2_add_f15) (fun _ h9 => h9) rfl dX2_add_18 ?_
    refine lv_iload_n hx hb dX2_add_21 rfl (lv_at hl 0 rfl) ?_
    refine lv_iload_n hx hb dX2_add_22 rfl (lv_at hl 3 rfl) ?_
    refine z_iast (k := n) (x := q) hx hb hK hP hD hS 2 rfl (by decide) (by omega) dX2_add_23 (fun H locs hP hD hS => ?_)
    have hP : va_P D vwCl (wL cI cZ h n gn (upC (upC L 0 n a) 1 n q) B) H := hP
    have hD : va_D A (wL cI cZ h n gn (upC (upC L 0 n a) 1 n q) B) := hD
    refine lv_aload_n hx hb dX2_add_24 rfl (lv_at hl 1 rfl) ?_
    refine lv_dup hx hb dX2_add_25 rfl ?_
    refine va_get (D := D) (ci := 3) (v := .int (nI n)) (C := RX2) (T := TX2) (N := 9) hx hb hts kX2_add_inX2 hown hK hP 0 rfl rfl 7 (by decide) (hts _ kX2_add_f34) (fun _ h9 => h9) rfl dX2_add_26 ?_
    refine lv_iconst (v := 1) hx hb dX2_add_29 (by decide) ?_
    refine zn_add (i := n) (j := 1) hx hb dX2_add_30 ?_
    refine va_put (D := D) (ci := 3) (v := .int (nI (n + 1))) (ty := .int) (C := RX2) (T := TX2) (N := 9) hx hb hts kX2_add_inX2 tyX2 tyX2_ok nmX2 hown hK hP hD hS 0 rfl rfl 7 (by decide) (hts _ kX2_add_f34) (fun _ h9 => h9) rfl (by decide +kernel) rfl rfl (Nat.le_of_ble_eq_true rfl) dX2_add_31 (fun H locs hP hD hS => ?_)
    have hP : va_P D vwCl (wL cI cZ h (n + 1) gn (upC (upC L 0 n a) 1 n q) B) H := hP
    have hD : va_D A (wL cI cZ h (n + 1) gn (upC (upC L 0 n a) 1 n q) B) := hD
    refine lv_iload_n hx hb dX2_add_34 rfl (lv_at hl 0 rfl) ?_
    exact z_iret hx hb hr hlocks hS hP rfl dX2_add_35 (⟨rfl, rfl⟩)

theorem kX1_add_inX1 : ∀ w ∈ wsX10, w ∈ wsX1_add := by decide +kernel
theorem kX1_add_f24 : Cond.fieldLink RX1 24 "LiftRows2$Events" "size" "I" ∈ wsX1_add := by decide +kernel
theorem kX1_add_f9 : Cond.fieldLink RX1 9 "LiftRows2$Events" "second" "[I" ∈ wsX1_add := by decide +kernel
theorem kX1_add_f15 : Cond.fieldLink RX1 15 "LiftRows2$Events" "lift" "[I" ∈ wsX1_add := by decide +kernel
theorem kX1_add_f18 : Cond.fieldLink RX1 18 "LiftRows2$Events" "call" "[I" ∈ wsX1_add := by decide +kernel
theorem kX1_add_f21 : Cond.fieldLink RX1 21 "LiftRows2$Events" "kind" "[I" ∈ wsX1_add := by decide +kernel
set_option maxHeartbeats 4000000 in
set_option maxRecDepth 100000 in
theorem tX1_add (l : Launch) (D : va_G) (cI cZ cJ : ClassId) (h : Nat → Nat) (n : Nat) (E : Nat → Nat → Int32) (a b q k : Int32) (hn : n < 2 ^ 31) : ∀ sz : Nat, zMv l yX1_add wsX1_add ({ frames := 0, cells := 0, slots := 0, locals := 0 } : Room) D cI cZ cJ (wE cI h n E) sz [.ref (h 0), .int a, .int b, .int q, .int k] (fun w' => w' = wE cI h (evN n) (evE E n a b q k)) := by
  intro sz
  refine z_head (y := yX1_add) (av := [.ref (h 0), .int a, .int b, .int q, .int k]) (w := (wE cI h n E)) (Qc := fun A => zQv D (wE cI h n E) (fun w' => w' = wE cI h (evN n) (evE E n a b q k)) A) (cc := cX1_add) (maxL := 5) (ret := none) (by decide) rfl (Nat.le_of_ble_eq_true rfl) ?_
  intro p e s m below meth c ls A hat hP hD hS hl
  obtain ⟨hx, hb, hr, hml, hlocks, hts, hown, hin, hK, hE, hA⟩ := hat
  have hP : va_P D vwCl (wE cI h n E) s.heap := hP
  have hD : va_D A (wE cI h n E) := hD
  have hl : lv_has ls 5 [(0, .ref (h 0)), (1, .int a), (2, .int b), (3, .int q), (4, .int k)] := hl
  refine lv_aload_n hx hb dX1_add_0 rfl (lv_at hl 0 rfl) ?_
  refine va_get (D := D) (ci := 2) (v := .int (nI n)) (C := RX1) (T := TX1) (N := 5) hx hb hts kX1_add_inX1 hown hK hP 0 rfl rfl 4 (by decide) (hts _ kX1_add_f24) (fun _ h9 => h9) rfl dX1_add_1 ?_
  refine lv_bipush (v := 48) hx hb dX1_add_4 (by decide) ?_
  refine zn_ge (i := n) (j := 48) (tgt := 60) hx hb (by omega) (by omega) dX1_add_6 (by decide) (fun c6 => ?_) (fun c6 => ?_)
  · skip
    exact z_vret hx hb hr hlocks hS hP rfl dX1_add_60 (by rw [evN, if_neg (by omega), evE, if_neg (by omega)])
  · skip
    refine lv_aload_n hx hb dX1_add_9 rfl (lv_at hl 0 rfl) ?_
    refine va_get (D := D) (ci := 2) (v := .ref (h 1)) (C := RX1) (T := TX1) (N := 5) hx hb hts kX1_add_inX1 hown hK hP 0 rfl rfl 0 (by decide) (hts _ kX1_add_f9) (fun _ h9 => h9) rfl dX1_add_10 ?_
    refine lv_aload_n hx hb dX1_add_13 rfl (lv_at hl 0 rfl) ?_
    refine va_get (D := D) (ci := 2) (v := .int (nI n)) (C := RX1) (T := TX1) (N := 5) hx hb hts kX1_add_inX1 hown hK hP 0 rfl rfl 4 (by decide) (hts _ kX1_add_f24) (fun _ h9 => h9) rfl dX1_add_14 ?_
    refine lv_iload_n hx hb dX1_add_17 rfl (lv_at hl 1 rfl) ?_
    refine z_iast (k := n) (x := a) hx hb hK hP hD hS 1 rfl (by decide) (by omega) dX1_add_18 (fun H locs hP hD hS => ?_)
    have hP : va_P D vwCl (wE cI h n (upC E 0 n a)) H := hP
    have hD : va_D A (wE cI h n (upC E 0 n a)) := hD
    refine lv_aload_n hx hb dX1_add_19 rfl (lv_at hl 0 rfl) ?_
    refine va_get (D := D) (ci := 2) (v := .ref (h 2)) (C := RX1) (T := TX1) (N := 5) hx hb hts kX1_add_inX1 hown hK hP 0 rfl rfl 1 (by decide) (hts _ kX1_add_f15) (fun _ h9 => h9) rfl dX1_add_20 ?_
    refine lv_aload_n hx hb dX1_add_23 rfl (lv_at hl 0 rfl) ?_
    refine va_get (D := D) (ci := 2) (v := .int (nI n)) (C := RX1) (T := TX1) (N := 5) hx hb hts kX1_add_inX1 hown hK hP 0 rfl rfl 4 (by decide) (hts _ kX1_add_f24) (fun _ h9 => h9) rfl dX1_add_24 ?_
    refine lv_iload_n hx hb dX1_add_27 rfl (lv_at hl 2 rfl) ?_
    refine z_iast (k := n) (x := b) hx hb hK hP hD hS 2 rfl (by decide) (by omega) dX1_add_28 (fun H locs hP hD hS => ?_)
    have hP : va_P D vwCl (wE cI h n (upC (upC E 0 n a) 1 n b)) H := hP
    have hD : va_D A (wE cI h n (upC (upC E 0 n a) 1 n b)) := hD
    refine lv_aload_n hx hb dX1_add_29 rfl (lv_at hl 0 rfl) ?_
    refine va_get (D := D) (ci := 2) (v := .ref (h 3)) (C := RX1) (T := TX1) (N := 5) hx hb hts kX1_add_inX1 hown hK hP 0 rfl rfl 2 (by decide) (hts _ kX1_add_f18) (fun _ h9 => h9) rfl dX1_add_30 ?_
    refine lv_aload_n hx hb dX1_add_33 rfl (lv_at hl 0 rfl) ?_
    refine va_get (D := D) (ci := 2) (v := .int (nI n)) (C := RX1) (T := TX1) (N := 5) hx hb hts kX1_add_inX1 hown hK hP 0 rfl rfl 4 (by decide) (hts _ kX1_add_f24) (fun _ h9 => h9) rfl dX1_add_34 ?_
    refine lv_iload_n hx hb dX1_add_37 rfl (lv_at hl 3 rfl) ?_
    refine z_iast (k := n) (x := q) hx hb hK hP hD hS 3 rfl (by decide) (by omega) dX1_add_38 (fun H locs hP hD hS => ?_)
    have hP : va_P D vwCl (wE cI h n (upC (upC (upC E 0 n a) 1 n b) 2 n q)) H := hP
    have hD : va_D A (wE cI h n (upC (upC (upC E 0 n a) 1 n b) 2 n q)) := hD
    refine lv_aload_n hx hb dX1_add_39 rfl (lv_at hl 0 rfl) ?_
    refine va_get (D := D) (ci := 2) (v := .ref (h 4)) (C := RX1) (T := TX1) (N := 5) hx hb hts kX1_add_inX1 hown hK hP 0 rfl rfl 3 (by decide) (hts _ kX1_add_f21) (fun _ h9 => h9) rfl dX1_add_40 ?_
    refine lv_aload_n hx hb dX1_add_43 rfl (lv_at hl 0 rfl) ?_
    refine va_get (D := D) (ci := 2) (v := .int (nI n)) (C := RX1) (T := TX1) (N := 5) hx hb hts kX1_add_inX1 hown hK hP 0 rfl rfl 4 (by decide) (hts _ kX1_add_f24) (fun _ h9 => h9) rfl dX1_add_44 ?_
    refine lv_iload hx hb dX1_add_47 (lv_at hl 4 rfl) ?_
    refine z_iast (k := n) (x := k) hx hb hK hP hD hS 4 rfl (by decide) (by omega) dX1_add_49 (fun H locs hP hD hS => ?_)
    have hP : va_P D vwCl (wE cI h n (upC (upC (upC (upC E 0 n a) 1 n b) 2 n q) 3 n k)) H := hP
    have hD : va_D A (wE cI h n (upC (upC (upC (upC E 0 n a) 1 n b) 2 n q) 3 n k)) := hD
    refine lv_aload_n hx hb dX1_add_50 rfl (lv_at hl 0 rfl) ?_
    refine lv_dup hx hb dX1_add_51 rfl ?_
    refine va_get (D := D) (ci := 2) (v := .int (nI n)) (C := RX1) (T := TX1) (N := 5) hx hb hts kX1_add_inX1 hown hK hP 0 rfl rfl 4 (by decide) (hts _ kX1_add_f24) (fun _ h9 => h9) rfl dX1_add_52 ?_
    refine lv_iconst (v := 1) hx hb dX1_add_55 (by decide) ?_
    refine zn_add (i := n) (j := 1) hx hb dX1_add_56 ?_
    refine va_put (D := D) (ci := 2) (v := .int (nI (n + 1))) (ty := .int) (C := RX1) (T := TX1) (N := 5) hx hb hts kX1_add_inX1 tyX1 tyX1_ok nmX1 hown hK hP hD hS 0 rfl rfl 4 (by decide) (hts _ kX1_add_f24) (fun _ h9 => h9) rfl (by decide +kernel) rfl rfl (Nat.le_of_ble_eq_true rfl) dX1_add_57 (fun H locs hP hD hS => ?_)
    have hP : va_P D vwCl (wE cI h (n + 1) (upC (upC (upC (upC E 0 n a) 1 n b) 2 n q) 3 n k)) H := hP
    have hD : va_D A (wE cI h (n + 1) (upC (upC (upC (upC E 0 n a) 1 n b) 2 n q) 3 n k)) := hD
    exact z_vret hx hb hr hlocks hS hP rfl dX1_add_60 (by rw [evN, if_pos c6, evE, if_pos c6]; rfl)
