/-! The law's loop: call by call, to the script's end. -/
theorem law_loop {p : Program} {l : Launch} {e : Env} {s : State} {m : MethodId} {below : List Frame} {meth : Method} {c : Code} {Q : State → Prop} {sb Ln : Nat} {xs : Nat → Int32} {D : va_G} {cI cZ cJ : ClassId} {A : Nat → Prop} {sa : Nat → Nat} (cx : zCx p l s m meth c sb Ln xs D cI cZ cJ A sa) (h g : Nat → Nat) (lev qo : Nat)
    (hend : ∀ (H1 : Heap) (locs1 : List Loc) (ls1 : Array Slot) (cells slots : Nat), va_S A s.heap H1 locs1 → cells ≤ 10000 → slots ≤ 20000 → W p l e room_1 s m #[Value.ref sb] below meth c H1 locs1 cells slots Q (F0 m 1123 ls1 [])) :
    ∀ (N i : Nat), Ln ≤ i + N → i ≤ Ln + 1 → ∀ (tm : Nat) (gn : Int32) (nL nC nE : Nat) (L B C E F : Nat → Nat → Int32) (o : Nat → Int64) (cd : Int32) (ys ao : Nat → Int32) (H : Heap) (locs : List Loc) (ls : Array Slot) (cells slots : Nat), cells ≤ 100 + i → slots ≤ 3000 + 2 * i → InvS lev i tm nL nC nE L C E F → lv_has ls 7 [(0, .ref sb), (1, .ref (h 0)), (2, .ref (g 0)), (3, .ref qo), (4, .int (nI i))] →
      va_P D vwCl (wV cI cZ cJ h lev tm gn nL nC nE L B C E qo o ++ wM cI cZ g cd lev tm gn nL nC nE L B C F ys ao) H → va_D A (wV cI cZ cJ h lev tm gn nL nC nE L B C E qo o ++ wM cI cZ g cd lev tm gn nL nC nE L B C F ys ao) → va_S A s.heap H locs → W p l e room_1 s m #[Value.ref sb] below meth c H locs cells slots Q (F0 m 33 ls []) := by
  obtain ⟨hx, hb, hr, hml, hlocks, hown, hts, hK, hE, hX, hN, hA, hsX, hbl, hbA, hst, hLn⟩ := id cx
  intro N
  induction N with
  | zero =>
    intro i hN1 hi1 tm gn nL nC nE L B C E F o cd ys ao H locs ls cells slots hc hs inv hl hP hD hS
    refine lv_iload hx hb dL_law_33 (lv_at hl 4 rfl) ?_
    refine lv_aload_n hx hb dL_law_35 rfl (lv_at hl 0 rfl) ?_
    refine va_slen hx hb hsX hbl hbA hS dL_law_36 ?_
    refine lv_iconst (v := 5) hx hb dL_law_37 (by decide) ?_
    refine lv_isub (x := nI Ln) (y := 5) hx hb dL_law_38 ?_
    refine lv_icmp_gt (x := nI i) (y := nI Ln - 5) (tgt := 1123) hx hb dL_law_39 (by decide) (fun _ => ?_) (fun c39 => ?_)
    · exact hend H locs ls cells slots hS (by omega) (by omega)
    · exfalso
      rw [i32_lt, show (5 : Int32) = nI 5 from rfl, nI_sub (by omega) (by omega), nI_toInt (by omega)] at c39
      omega
  | succ N ih =>
    intro i hN1 hi1 tm gn nL nC nE L B C E F o cd ys ao H locs ls cells slots hc hs inv hl hP hD hS
    refine lv_iload hx hb dL_law_33 (lv_at hl 4 rfl) ?_
    refine lv_aload_n hx hb dL_law_35 rfl (lv_at hl 0 rfl) ?_
    refine va_slen hx hb hsX hbl hbA hS dL_law_36 ?_
    refine lv_iconst (v := 5) hx hb dL_law_37 (by decide) ?_
    refine lv_isub (x := nI Ln) (y := 5) hx hb dL_law_38 ?_
    refine lv_icmp_gt (x := nI i) (y := nI Ln - 5) (tgt := 1123) hx hb dL_law_39 (by decide) (fun _ => ?_) (fun c39 => ?_)
    · exact hend H locs ls cells slots hS (by omega) (by omega)
    · have hi : i + 5 ≤ Ln := by
        rw [i32_lt, show (5 : Int32) = nI 5 from rfl, nI_sub (by omega) (by omega), nI_toInt (by omega)] at c39
        omega
      have hcl : cells + 1 ≤ room_1.cells ∧ slots + 6 ≤ room_1.slots := ⟨by show cells + 1 ≤ 601024; omega, by show slots + 6 ≤ 7293000; omega⟩
      have K : KK p l e s m below meth c Q sb D cI cZ cJ A h g lev qo i cells slots := by
        intro tm gn nL nC nE L B C E F o cd ys ao H1 locs1 ls1 inv hl hP hD hS
        refine lv_iinc (v := nI (i + 5)) (lv' := [(4, .int (nI (i + 5))), (0, .ref sb), (1, .ref (h 0)), (2, .ref (g 0)), (3, .ref qo)]) hx hb dL_law_1117 hl (k := 4) rfl (by rw [show Int32.ofInt 5 = nI 5 from rfl, nI_add]) (by decide) rfl (fun ls hl => ?_)
        refine lv_goto (tgt := 33) hx hb dL_law_1120 (by decide) ?_
        exact ih (i + 5) (by omega) (by omega) tm gn nL nC nE L B C E F o cd ys ao H1 locs1 ls (cells + 1) (slots + 6) (by omega) (by omega) inv (lv_sub hl [1, 2, 3, 4, 0] rfl) hP hD hS
      refine lv_aload_n hx hb dL_law_42 rfl (lv_at hl 0 rfl) ?_
      refine lv_iload hx hb dL_law_43 (lv_at hl 4 rfl) ?_
      refine z_sld (k := i) (v := xs i) hx hb hsX hbl hbA hS (by omega) (by omega) rfl dL_law_45 ?_
      refine lv_bipush (v := 15) hx hb dL_law_46 (by decide) ?_
      refine lv_iand (x := xs i) (y := 15) hx hb dL_law_48 ?_
      by_cases s0 : xs i &&& 15 = 0
      · refine z_top s0 ?_
        refine lv_tableIn (x := 0) (tgt := 128) hx hb dL_law_49 (by decide) (by decide) rfl (by decide) ?_
        exact op_lift cx h g lev tm gn nL nC nE L B C E F qo o cd ys ao i hi inv hl hP hD hS hcl K
      by_cases s1 : xs i &&& 15 = 1
      · refine z_top s1 ?_
        refine lv_tableIn (x := 1) (tgt := 196) hx hb dL_law_49 (by decide) (by decide) rfl (by decide) ?_
        exact op_call cx h g lev tm gn nL nC nE L B C E F qo o cd ys ao i hi inv hl hP hD hS hcl K
      by_cases s2 : xs i &&& 15 = 2
      · refine z_top s2 ?_
        refine lv_tableIn (x := 2) (tgt := 288) hx hb dL_law_49 (by decide) (by decide) rfl (by decide) ?_
        exact op_step cx h g lev tm gn nL nC nE L B C E F qo o cd ys ao i hi inv hl hP hD hS hcl K
      by_cases s3 : xs i &&& 15 = 3
      · refine z_top s3 ?_
        refine lv_tableIn (x := 3) (tgt := 344) hx hb dL_law_49 (by decide) (by decide) rfl (by decide) ?_
        exact op_event cx h g lev tm gn nL nC nE L B C E F qo o cd ys ao i hi inv hl hP hD hS hcl K
      by_cases s4 : xs i &&& 15 = 4
      · refine z_top s4 ?_
        refine lv_tableIn (x := 4) (tgt := 412) hx hb dL_law_49 (by decide) (by decide) rfl (by decide) ?_
        exact op_level cx h g lev tm gn nL nC nE L B C E F qo o cd ys ao i hi inv hl hP hD hS hcl K
      by_cases s5 : xs i &&& 15 = 5
      · refine z_top s5 ?_
        refine lv_tableIn (x := 5) (tgt := 468) hx hb dL_law_49 (by decide) (by decide) rfl (by decide) ?_
        exact op_told cx h g lev tm gn nL nC nE L B C E F qo o cd ys ao i hi inv hl hP hD hS hcl K
      by_cases s6 : xs i &&& 15 = 6
      · refine z_top s6 ?_
        refine lv_tableIn (x := 6) (tgt := 536) hx hb dL_law_49 (by decide) (by decide) rfl (by decide) ?_
        exact op_door cx h g lev tm gn nL nC nE L B C E F qo o cd ys ao i hi inv hl hP hD hS hcl K
      by_cases s7 : xs i &&& 15 = 7
      · refine z_top s7 ?_
        refine lv_tableIn (x := 7) (tgt := 600) hx hb dL_law_49 (by decide) (by decide) rfl (by decide) ?_
        exact op_stuck cx h g lev tm gn nL nC nE L B C E F qo o cd ys ao i hi inv hl hP hD hS hcl K
      by_cases s8 : xs i &&& 15 = 8
      · refine z_top s8 ?_
        refine lv_tableIn (x := 8) (tgt := 684) hx hb dL_law_49 (by decide) (by decide) rfl (by decide) ?_
        exact op_reserved cx h g lev tm gn nL nC nE L B C E F qo o cd ys ao i hi inv hl hP hD hS hcl K
      by_cases s9 : xs i &&& 15 = 9
      · refine z_top s9 ?_
        refine lv_tableIn (x := 9) (tgt := 768) hx hb dL_law_49 (by decide) (by decide) rfl (by decide) ?_
        exact op_freed cx h g lev tm gn nL nC nE L B C E F qo o cd ys ao i hi inv hl hP hD hS hcl K
      by_cases s10 : xs i &&& 15 = 10
      · refine z_top s10 ?_
        refine lv_tableIn (x := 10) (tgt := 781) hx hb dL_law_49 (by decide) (by decide) rfl (by decide) ?_
        exact op_served cx h g lev tm gn nL nC nE L B C E F qo o cd ys ao i hi inv hl hP hD hS hcl K
      by_cases s11 : xs i &&& 15 = 11
      · refine z_top s11 ?_
        refine lv_tableIn (x := 11) (tgt := 837) hx hb dL_law_49 (by decide) (by decide) rfl (by decide) ?_
        exact op_waits cx h g lev tm gn nL nC nE L B C E F qo o cd ys ao i hi inv hl hP hD hS hcl K
      by_cases s12 : xs i &&& 15 = 12
      · refine z_top s12 ?_
        refine lv_tableIn (x := 12) (tgt := 893) hx hb dL_law_49 (by decide) (by decide) rfl (by decide) ?_
        exact op_least cx h g lev tm gn nL nC nE L B C E F qo o cd ys ao i hi inv hl hP hD hS hcl K
      by_cases s13 : xs i &&& 15 = 13
      · refine z_top s13 ?_
        refine lv_tableIn (x := 13) (tgt := 949) hx hb dL_law_49 (by decide) (by decide) rfl (by decide) ?_
        exact op_joins cx h g lev tm gn nL nC nE L B C E F qo o cd ys ao i hi inv hl hP hD hS hcl K
      by_cases s14 : xs i &&& 15 = 14
      · refine z_top s14 ?_
        refine lv_tableIn (x := 14) (tgt := 1024) hx hb dL_law_49 (by decide) (by decide) rfl (by decide) ?_
        exact op_known cx h g lev tm gn nL nC nE L B C E F qo o cd ys ao i hi inv hl hP hD hS hcl K
      by_cases s15 : xs i &&& 15 = 15
      · refine z_top s15 ?_
        refine lv_tableIn (x := 15) (tgt := 1092) hx hb dL_law_49 (by decide) (by decide) rfl (by decide) ?_
        exact op_count cx h g lev tm gn nL nC nE L B C E F qo o cd ys ao i hi inv hl hP hD hS hcl K
      refine lv_tableOut (tgt := 1117) hx hb dL_law_49 (tsw_out (n := 15) (by decide) (fun j hj => by rcases (show j = 0 ∨ j = 1 ∨ j = 2 ∨ j = 3 ∨ j = 4 ∨ j = 5 ∨ j = 6 ∨ j = 7 ∨ j = 8 ∨ j = 9 ∨ j = 10 ∨ j = 11 ∨ j = 12 ∨ j = 13 ∨ j = 14 ∨ j = 15 by omega) with rfl | rfl | rfl | rfl | rfl | rfl | rfl | rfl | rfl | rfl | rfl | rfl | rfl | rfl | rfl | rfl <;> assumption)) (by decide) ?_
      refine W.widen (k := cells + 1) (n := slots + 6) (by omega) (by omega) ?_
      exact K tm gn nL nC nE L B C E F o cd ys ao H locs ls (inv_up inv) hl hP hD hS
