
set_option maxHeartbeats 4000000 in
set_option maxRecDepth 100000 in
theorem law_stuck_xb {p : Program} {l : Launch} {e : Env} {s : State} {m : MethodId} {below : List Frame} {meth : Method} {c : Code} {Q : State → Prop} {sb Ln : Nat} {xs : Nat → Int32} {D : va_G} {cI cZ cJ : ClassId} {A : Nat → Prop} {sa : Nat → Nat} (cx : zCx p l s m meth c sb Ln xs D cI cZ cJ A sa) (h g : Nat → Nat) (lev tm : Nat) (gn : Int32) (nL nC nE : Nat) (L B C E F : Nat → Nat → Int32) (qo : Nat) (o : Nat → Int64) (cd : Int32) (ys ao : Nat → Int32) (i : Nat) (hi : i + 5 ≤ Ln) (k : Nat) (hk : k < nL) (hL : nL ≤ 4) (hC : nC ≤ 24) (on : Bool) (hno : B 0 k = bI on) (m_hk : k < nL) (m_hL : nL ≤ 4) (m_hC : nC ≤ 24) (m_hno : B 0 k = bI on) (e1 : xs (i + 1) = nI k) (e2 : on = !decide (xs (i + 2) = 0)) {H : Heap} {locs : List Loc} {cells slots : Nat} {ls : Array Slot} (hl : lv_has ls 7 [(0, .ref sb), (1, .ref (h 0)), (2, .ref (g 0)), (3, .ref qo), (4, .int (nI i))]) (hP : va_P D vwCl (wV cI cZ cJ h lev tm gn nL nC nE L B C E qo o ++ wM cI cZ g cd lev tm gn nL nC nE L B C F ys ao) H) (hD : va_D A (wV cI cZ cJ h lev tm gn nL nC nE L B C E qo o ++ wM cI cZ g cd lev tm gn nL nC nE L B C F ys ao)) (hS : va_S A s.heap H locs) (hroom : cells + 1 ≤ room_1.cells ∧ slots + 6 ≤ room_1.slots) (kk : ∀ (H1 : Heap) (locs1 : List Loc) (ls1 : Array Slot), lv_has ls1 7 [(0, .ref sb), (1, .ref (h 0)), (2, .ref (g 0)), (3, .ref qo), (4, .int (nI i))] → va_P D vwCl (wX cI cZ h lev tm gn nL nC nE L B C E ++ [(qo, .inl (cJ, 1, .inr (.inl o)))] ++ wM cI cZ g 2 lev tm gn nL nC nE L B C F ys ao) H1 → va_D A (wX cI cZ h lev tm gn nL nC nE L B C E ++ [(qo, .inl (cJ, 1, .inr (.inl o)))] ++ wM cI cZ g 2 lev tm gn nL nC nE L B C F ys ao) → va_S A s.heap H1 locs1 → W p l e room_1 s m #[Value.ref sb] below meth c H1 locs1 (cells + 1) (slots + 6) Q (F0 m 1117 ls1 []))  : W p l e room_1 s m #[Value.ref sb] below meth c H locs cells slots Q (F0 m 600 ls []) := by
  obtain ⟨hx, hb, hr9, hml, hlocks, hown, htsO, hK, hE, hX, hN, hA, hXs, hbl, hbA, hl9, hLn⟩ := cx
  have hts : ∀ w ∈ wsL_law, w.before #[Value.ref sb] s = true := fun w h9 => htsO w (lawO_l h9)
  refine lv_aload_n hx hb dL_law_600 rfl (lv_at hl 1 rfl) ?_
  refine lv_aload_n hx hb dL_law_601 rfl (lv_at hl 0 rfl) ?_
  refine lv_iload hx hb dL_law_602 (lv_at hl 4 rfl) ?_
  refine lv_iconst (v := 1) hx hb dL_law_604 (by decide) ?_
  refine zn_add (i := i) (j := 1) hx hb dL_law_605 ?_
  refine z_sld (k := i + 1) (v := nI k) hx hb hXs hbl hbA hS (by omega) (by omega) e1 dL_law_606 ?_
  refine lv_aload_n hx hb dL_law_607 rfl (lv_at hl 0 rfl) ?_
  refine lv_iload hx hb dL_law_608 (lv_at hl 4 rfl) ?_
  refine lv_iconst (v := 2) hx hb dL_law_610 (by decide) ?_
  refine zn_add (i := i) (j := 2) hx hb dL_law_611 ?_
  refine z_sld (k := i + 2) (v := xs (i + 2)) hx hb hXs hbl hbA hS (by omega) (by omega) rfl dL_law_612 ?_
  refine lv_if_eq (x := xs (i + 2)) (tgt := 620) hx hb dL_law_613 (by decide) (fun c613 => ?_) (fun c613 => ?_)
  · skip
    refine lv_iconst (v := 0) hx hb dL_law_620 (by decide) ?_
    refine z_top (show (0 : Int32) = bI on by rw [e2, decide_eq_true c613]; rfl) ?_
    refine lv_aload_n hx hb dL_law_621 rfl (lv_at hl 3 rfl) ?_
    refine z_backSi (wa := []) (w := (wV cI cZ cJ h lev tm gn nL nC nE L B C E qo o)) (wb := (wM cI cZ g cd lev tm gn nL nC nE L B C F ys ao)) (z_runSL (wa := []) (w := (wV cI cZ cJ h lev tm gn nL nC nE L B C E qo o)) (wb := (wM cI cZ g cd lev tm gn nL nC nE L B C F ys ao)) (n := 4) (As := [.ref (h 0), .int (nI k), .int (bI on), .ref qo]) (rest := []) hx hb hml hown hts hK hE hX hN hS hA hP hD (tL_stuck_xb l D cI cZ cJ h lev tm gn nL nC nE L B C E k hk hL hC on hno qo o sa hl9 _) gL_law_L_stuck rfl rfl rfl (by decide +kernel) ⟨Nat.le_of_ble_eq_true rfl, Nat.le_of_ble_eq_true rfl⟩ rfl hl.1 rfl (Nat.le_of_ble_eq_true rfl) dL_law_622 hroom) hP hD hS hA (fun r1 w1 H locs hp1 hP hD hS => ?_)
    obtain ⟨rfl, rfl⟩ := hp1
    have hP : va_P D vwCl ((wX cI cZ h lev tm gn nL nC nE L B C E ++ [(qo, .inl (cJ, 1, .inr (.inl o)))]) ++ (wM cI cZ g cd lev tm gn nL nC nE L B C F ys ao)) H := hP
    have hD : va_D A ((wX cI cZ h lev tm gn nL nC nE L B C E ++ [(qo, .inl (cJ, 1, .inr (.inl o)))]) ++ (wM cI cZ g cd lev tm gn nL nC nE L B C F ys ao)) := hD
    refine lv_istore (lv' := [(5, .int 2), (0, .ref sb), (1, .ref (h 0)), (2, .ref (g 0)), (3, .ref qo), (4, .int (nI i))]) hx hb dL_law_625 hl (by decide) rfl (fun ls hl => ?_)
    refine lv_aload_n hx hb dL_law_627 rfl (lv_at hl 3 rfl) ?_
    refine lv_aload_n hx hb dL_law_628 rfl (lv_at hl 1 rfl) ?_
    refine lv_iload hx hb dL_law_629 (lv_at hl 5 rfl) ?_
    refine lv_iconst (v := 1) hx hb dL_law_631 (by decide) ?_
    refine zn_add (i := i) (j := 1) hx hb dL_law_632 ?_
    refine z_sld (k := i + 1) (v := nI k) hx hb hXs hbl hbA hS (by omega) (by omega) e1 dL_law_633 ?_
    refine lv_aload_n hx hb dL_law_634 rfl (lv_at hl 1 rfl) ?_
    refine lv_iload hx hb dL_law_635 (lv_at hl 5 rfl) ?_
    refine lv_iconst (v := 2) hx hb dL_law_637 (by decide) ?_
    refine zn_add (i := i) (j := 2) hx hb dL_law_638 ?_
    refine z_sld (k := i + 2) (v := xs (i + 2)) hx hb hXs hbl hbA hS (by omega) (by omega) rfl dL_law_639 ?_
    refine lv_if_eq (x := xs (i + 2)) (tgt := 647) hx hb dL_law_640 (by decide) (fun c640 => ?_) (fun c640 => ?_)
    · skip
      refine lv_iconst (v := 0) hx hb dL_law_647 (by decide) ?_
      refine z_top (show (0 : Int32) = bI on by rw [e2, decide_eq_true c613]; rfl) ?_
      refine z_backTi (wa := (wX cI cZ h lev tm gn nL nC nE L B C E ++ [(qo, .inl (cJ, 1, .inr (.inl o)))])) (w := (wM cI cZ g cd lev tm gn nL nC nE L B C F ys ao)) (z_runVT (wa := (wX cI cZ h lev tm gn nL nC nE L B C E ++ [(qo, .inl (cJ, 1, .inr (.inl o)))])) (w := (wM cI cZ g cd lev tm gn nL nC nE L B C F ys ao)) (n := 2) (As := [.int (nI k), .int (bI on)]) (ci := 5) (rest := []) hx hb hml hown hts hK hE hP hD (tX4_stuck_n2 l D cI cZ cJ g cd lev tm gn nL nC nE L B C F ys ao k m_hk m_hL m_hC on m_hno _) gL_law_X4_stuck rfl rfl rfl (by decide +kernel) ⟨Nat.le_of_ble_eq_true rfl, Nat.le_of_ble_eq_true rfl⟩ rfl rfl rfl hl.1 rfl (Nat.le_of_ble_eq_true rfl) dL_law_648 hroom) hP hD hS hA (fun r2 w1 H locs hp2 hP hD hS => ?_)
      obtain ⟨rfl, rfl⟩ := hp2
      have hP : va_P D vwCl ((wX cI cZ h lev tm gn nL nC nE L B C E ++ [(qo, .inl (cJ, 1, .inr (.inl o)))]) ++ (wM cI cZ g 2 lev tm gn nL nC nE L B C F ys ao)) H := hP
      have hD : va_D A ((wX cI cZ h lev tm gn nL nC nE L B C E ++ [(qo, .inl (cJ, 1, .inr (.inl o)))]) ++ (wM cI cZ g 2 lev tm gn nL nC nE L B C F ys ao)) := hD
      refine lv_istore (lv' := [(6, .int 0), (5, .int 2), (0, .ref sb), (1, .ref (h 0)), (2, .ref (g 0)), (3, .ref qo), (4, .int (nI i))]) hx hb dL_law_651 hl (by decide) rfl (fun ls hl => ?_)
      refine lv_aload_n hx hb dL_law_653 rfl (lv_at hl 4 rfl) ?_
      refine z_backTi (wa := (wX cI cZ h lev tm gn nL nC nE L B C E ++ [(qo, .inl (cJ, 1, .inr (.inl o)))])) (w := (wM cI cZ g 2 lev tm gn nL nC nE L B C F ys ao)) (z_runVT (wa := (wX cI cZ h lev tm gn nL nC nE L B C E ++ [(qo, .inl (cJ, 1, .inr (.inl o)))])) (w := (wM cI cZ g 2 lev tm gn nL nC nE L B C F ys ao)) (n := 0) (As := []) (ci := 5) (rest := []) hx hb hml hown hts hK hE hP hD (tX4_thrown l D cI cZ cJ g 2 lev tm gn nL nC nE L B C F ys ao _) gL_law_X4_thrown rfl rfl rfl (by decide +kernel) ⟨Nat.le_of_ble_eq_true rfl, Nat.le_of_ble_eq_true rfl⟩ rfl rfl rfl hl.1 rfl (Nat.le_of_ble_eq_true rfl) dL_law_654 hroom) hP hD hS hA (fun r3 w1 H locs hp3 hP hD hS => ?_)
      obtain ⟨rfl, rfl⟩ := hp3
      have hP : va_P D vwCl ((wX cI cZ h lev tm gn nL nC nE L B C E ++ [(qo, .inl (cJ, 1, .inr (.inl o)))]) ++ (wM cI cZ g 2 lev tm gn nL nC nE L B C F ys ao)) H := hP
      have hD : va_D A ((wX cI cZ h lev tm gn nL nC nE L B C E ++ [(qo, .inl (cJ, 1, .inr (.inl o)))]) ++ (wM cI cZ g 2 lev tm gn nL nC nE L B C F ys ao)) := hD
      refine lv_iload hx hb dL_law_657 (lv_at hl 1 rfl) ?_
      refine zn_eq (i := 2) (j := 2) (tgt := 664) hx hb (by omega) (by omega) dL_law_659 (by decide) (fun c659 => ?_) (fun c659 => ?_)
      · skip
        refine lv_iload hx hb dL_law_664 (lv_at hl 1 rfl) ?_
        refine lv_if_ne (x := 2) (tgt := 681) hx hb dL_law_666 (by decide) (fun c666 => ?_) (fun c666 => ?_)
        · skip
          refine lv_goto (tgt := 1117) hx hb dL_law_681 (by decide) ?_
          exact kk H locs ls (lv_sub hl [2, 3, 4, 5, 6] rfl) hP hD hS
        · exact absurd c666 (by decide)
      · exact absurd c659 (by omega)
    · exact absurd c613 c640
  · skip
    refine lv_iconst (v := 1) hx hb dL_law_616 (by decide) ?_
    refine lv_goto (tgt := 621) hx hb dL_law_617 (by decide) ?_
    refine z_top (show (1 : Int32) = bI on by rw [e2, decide_eq_false c613]; rfl) ?_
    refine lv_aload_n hx hb dL_law_621 rfl (lv_at hl 3 rfl) ?_
    refine z_backSi (wa := []) (w := (wV cI cZ cJ h lev tm gn nL nC nE L B C E qo o)) (wb := (wM cI cZ g cd lev tm gn nL nC nE L B C F ys ao)) (z_runSL (wa := []) (w := (wV cI cZ cJ h lev tm gn nL nC nE L B C E qo o)) (wb := (wM cI cZ g cd lev tm gn nL nC nE L B C F ys ao)) (n := 4) (As := [.ref (h 0), .int (nI k), .int (bI on), .ref qo]) (rest := []) hx hb hml hown hts hK hE hX hN hS hA hP hD (tL_stuck_xb l D cI cZ cJ h lev tm gn nL nC nE L B C E k hk hL hC on hno qo o sa hl9 _) gL_law_L_stuck rfl rfl rfl (by decide +kernel) ⟨Nat.le_of_ble_eq_true rfl, Nat.le_of_ble_eq_true rfl⟩ rfl hl.1 rfl (Nat.le_of_ble_eq_true rfl) dL_law_622 hroom) hP hD hS hA (fun r4 w1 H locs hp4 hP hD hS => ?_)
    obtain ⟨rfl, rfl⟩ := hp4
    have hP : va_P D vwCl ((wX cI cZ h lev tm gn nL nC nE L B C E ++ [(qo, .inl (cJ, 1, .inr (.inl o)))]) ++ (wM cI cZ g cd lev tm gn nL nC nE L B C F ys ao)) H := hP
    have hD : va_D A ((wX cI cZ h lev tm gn nL nC nE L B C E ++ [(qo, .inl (cJ, 1, .inr (.inl o)))]) ++ (wM cI cZ g cd lev tm gn nL nC nE L B C F ys ao)) := hD
    refine lv_istore (lv' := [(5, .int 2), (0, .ref sb), (1, .ref (h 0)), (2, .ref (g 0)), (3, .ref qo), (4, .int (nI i))]) hx hb dL_law_625 hl (by decide) rfl (fun ls hl => ?_)
    refine lv_aload_n hx hb dL_law_627 rfl (lv_at hl 3 rfl) ?_
    refine lv_aload_n hx hb dL_law_628 rfl (lv_at hl 1 rfl) ?_
    refine lv_iload hx hb dL_law_629 (lv_at hl 5 rfl) ?_
    refine lv_iconst (v := 1) hx hb dL_law_631 (by decide) ?_
    refine zn_add (i := i) (j := 1) hx hb dL_law_632 ?_
    refine z_sld (k := i + 1) (v := nI k) hx hb hXs hbl hbA hS (by omega) (by omega) e1 dL_law_633 ?_
    refine lv_aload_n hx hb dL_law_634 rfl (lv_at hl 1 rfl) ?_
    refine lv_iload hx hb dL_law_635 (lv_at hl 5 rfl) ?_
    refine lv_iconst (v := 2) hx hb dL_law_637 (by decide) ?_
    refine zn_add (i := i) (j := 2) hx hb dL_law_638 ?_
    refine z_sld (k := i + 2) (v := xs (i + 2)) hx hb hXs hbl hbA hS (by omega) (by omega) rfl dL_law_639 ?_
    refine lv_if_eq (x := xs (i + 2)) (tgt := 647) hx hb dL_law_640 (by decide) (fun c640 => ?_) (fun c640 => ?_)
    · exact absurd c640 c613
    · skip
      refine lv_iconst (v := 1) hx hb dL_law_643 (by decide) ?_
      refine lv_goto (tgt := 648) hx hb dL_law_644 (by decide) ?_
      refine z_top (show (1 : Int32) = bI on by rw [e2, decide_eq_false c613]; rfl) ?_
      refine z_backTi (wa := (wX cI cZ h lev tm gn nL nC nE L B C E ++ [(qo, .inl (cJ, 1, .inr (.inl o)))])) (w := (wM cI cZ g cd lev tm gn nL nC nE L B C F ys ao)) (z_runVT (wa := (wX cI cZ h lev tm gn nL nC nE L B C E ++ [(qo, .inl (cJ, 1, .inr (.inl o)))])) (w := (wM cI cZ g cd lev tm gn nL nC nE L B C F ys ao)) (n := 2) (As := [.int (nI k), .int (bI on)]) (ci := 5) (rest := []) hx hb hml hown hts hK hE hP hD (tX4_stuck_n2 l D cI cZ cJ g cd lev tm gn nL nC nE L B C F ys ao k m_hk m_hL m_hC on m_hno _) gL_law_X4_stuck rfl rfl rfl (by decide +kernel) ⟨Nat.le_of_ble_eq_true rfl, Nat.le_of_ble_eq_true rfl⟩ rfl rfl rfl hl.1 rfl (Nat.le_of_ble_eq_true rfl) dL_law_648 hroom) hP hD hS hA (fun r5 w1 H locs hp5 hP hD hS => ?_)
      obtain ⟨rfl, rfl⟩ := hp5
      have hP : va_P D vwCl ((wX cI cZ h lev tm gn nL nC nE L B C E ++ [(qo, .inl (cJ, 1, .inr (.inl o)))]) ++ (wM cI cZ g 2 lev tm gn nL nC nE L B C F ys ao)) H := hP
      have hD : va_D A ((wX cI cZ h lev tm gn nL nC nE L B C E ++ [(qo, .inl (cJ, 1, .inr (.inl o)))]) ++ (wM cI cZ g 2 lev tm gn nL nC nE L B C F ys ao)) := hD
      refine lv_istore (lv' := [(6, .int 0), (5, .int 2), (0, .ref sb), (1, .ref (h 0)), (2, .ref (g 0)), (3, .ref qo), (4, .int (nI i))]) hx hb dL_law_651 hl (by decide) rfl (fun ls hl => ?_)
      refine lv_aload_n hx hb dL_law_653 rfl (lv_at hl 4 rfl) ?_
      refine z_backTi (wa := (wX cI cZ h lev tm gn nL nC nE L B C E ++ [(qo, .inl (cJ, 1, .inr (.inl o)))])) (w := (wM cI cZ g 2 lev tm gn nL nC nE L B C F ys ao)) (z_runVT (wa := (wX cI cZ h lev tm gn nL nC nE L B C E ++ [(qo, .inl (cJ, 1, .inr (.inl o)))])) (w := (wM cI cZ g 2 lev tm gn nL nC nE L B C F ys ao)) (n := 0) (As := []) (ci := 5) (rest := []) hx hb hml hown hts hK hE hP hD (tX4_thrown l D cI cZ cJ g 2 lev tm gn nL nC nE L B C F ys ao _) gL_law_X4_thrown rfl rfl rfl (by decide +kernel) ⟨Nat.le_of_ble_eq_true rfl, Nat.le_of_ble_eq_true rfl⟩ rfl rfl rfl hl.1 rfl (Nat.le_of_ble_eq_true rfl) dL_law_654 hroom) hP hD hS hA (fun r6 w1 H locs hp6 hP hD hS => ?_)
      obtain ⟨rfl, rfl⟩ := hp6
      have hP : va_P D vwCl ((wX cI cZ h lev tm gn nL nC nE L B C E ++ [(qo, .inl (cJ, 1, .inr (.inl o)))]) ++ (wM cI cZ g 2 lev tm gn nL nC nE L B C F ys ao)) H := hP
      have hD : va_D A ((wX cI cZ h lev tm gn nL nC nE L B C E ++ [(qo, .inl (cJ, 1, .inr (.inl o)))]) ++ (wM cI cZ g 2 lev tm gn nL nC nE L B C F ys ao)) := hD
      refine lv_iload hx hb dL_law_657 (lv_at hl 1 rfl) ?_
      refine zn_eq (i := 2) (j := 2) (tgt := 664) hx hb (by omega) (by omega) dL_law_659 (by decide) (fun c659 => ?_) (fun c659 => ?_)
      · skip
        refine lv_iload hx hb dL_law_664 (lv_at hl 1 rfl) ?_
        refine lv_if_ne (x := 2) (tgt := 681) hx hb dL_law_666 (by decide) (fun c666 => ?_) (fun c666 => ?_)
        · skip
          refine lv_goto (tgt := 1117) hx hb dL_law_681 (by decide) ?_
          exact kk H locs ls (lv_sub hl [2, 3, 4, 5, 6] rfl) hP hD hS
        · exact absurd c666 (by decide)
      · exact absurd c659 (by omega)


set_option maxHeartbeats 4000000 in
set_option maxRecDepth 100000 in
theorem law_reserved_ok {p : Program} {l : Launch} {e : Env} {s : State} {m : MethodId} {below : List Frame} {meth : Method} {c : Code} {Q : State → Prop} {sb Ln : Nat} {xs : Nat → Int32} {D : va_G} {cI cZ cJ : ClassId} {A : Nat → Prop} {sa : Nat → Nat} (cx : zCx p l s m meth c sb Ln xs D cI cZ cJ A sa) (h g : Nat → Nat) (lev tm : Nat) (gn : Int32) (nL nC nE : Nat) (L B C E F : Nat → Nat → Int32) (qo : Nat) (o : Nat → Int64) (cd : Int32) (ys ao : Nat → Int32) (i : Nat) (hi : i + 5 ≤ Ln) (k : Nat) (hk : k < nL) (hL : nL ≤ 4) (hC : nC ≤ 24) (on : Bool) (hyes : ¬ B 1 k = bI on) (m_hk : k < nL) (m_hL : nL ≤ 4) (m_hC : nC ≤ 24) (m_hyes : ¬ B 1 k = bI on) (e1 : xs (i + 1) = nI k) (e2 : on = !decide (xs (i + 2) = 0)) (hr : nI (cntW (fun i => isB C i 1 (nI k)) nC + cntW (fun i => isB C i 0 (nI k)) nC) = nI (cntW (fun i => isB C i 1 (nI k)) nC + cntW (fun i => isB C i 0 (nI k)) nC)) {H : Heap} {locs : List Loc} {cells slots : Nat} {ls : Array Slot} (hl : lv_has ls 7 [(0, .ref sb), (1, .ref (h 0)), (2, .ref (g 0)), (3, .ref qo), (4, .int (nI i))]) (hP : va_P D vwCl (wV cI cZ cJ h lev tm gn nL nC nE L B C E qo o ++ wM cI cZ g cd lev tm gn nL nC nE L B C F ys ao) H) (hD : va_D A (wV cI cZ cJ h lev tm gn nL nC nE L B C E qo o ++ wM cI cZ g cd lev tm gn nL nC nE L B C F ys ao)) (hS : va_S A s.heap H locs) (hroom : cells + 1 ≤ room_1.cells ∧ slots + 6 ≤ room_1.slots) (kk : ∀ (H1 : Heap) (locs1 : List Loc) (ls1 : Array Slot), lv_has ls1 7 [(0, .ref sb), (1, .ref (h 0)), (2, .ref (g 0)), (3, .ref qo), (4, .int (nI i))] → va_P D vwCl (wX cI cZ h lev tm gn nL nC nE L (upC B 1 k (bI on)) C E ++ [(qo, .inl (cJ, 1, .inr (.inl (vp_updL o 0 (nI (cntW (fun i => isB C i 1 (nI k)) nC + cntW (fun i => isB C i 0 (nI k)) nC)).toInt64))))] ++ wM cI cZ g 0 lev tm gn nL nC nE L (upC B 1 k (bI on)) C F ys ao) H1 → va_D A (wX cI cZ h lev tm gn nL nC nE L (upC B 1 k (bI on)) C E ++ [(qo, .inl (cJ, 1, .inr (.inl (vp_updL o 0 (nI (cntW (fun i => isB C i 1 (nI k)) nC + cntW (fun i => isB C i 0 (nI k)) nC)).toInt64))))] ++ wM cI cZ g 0 lev tm gn nL nC nE L (upC B 1 k (bI on)) C F ys ao) → va_S A s.heap H1 locs1 → W p l e room_1 s m #[Value.ref sb] below meth c H1 locs1 (cells + 1) (slots + 6) Q (F0 m 1117 ls1 []))  : W p l e room_1 s m #[Value.ref sb] below meth c H locs cells slots Q (F0 m 684 ls []) := by
  obtain ⟨hx, hb, hr9, hml, hlocks, hown, htsO, hK, hE, hX, hN, hA, hXs, hbl, hbA, hl9, hLn⟩ := cx
  have hts : ∀ w ∈ wsL_law, w.before #[Value.ref sb] s = true := fun w h9 => htsO w (lawO_l h9)
  refine lv_aload_n hx hb dL_law_684 rfl (lv_at hl 1 rfl) ?_
  refine lv_aload_n hx hb dL_law_685 rfl (lv_at hl 0 rfl) ?_
  refine lv_iload hx hb dL_law_686 (lv_at hl 4 rfl) ?_
  refine lv_iconst (v := 1) hx hb dL_law_688 (by decide) ?_
  refine zn_add (i := i) (j := 1) hx hb dL_law_689 ?_
  refine z_sld (k := i + 1) (v := nI k) hx hb hXs hbl hbA hS (by omega) (by omega) e1 dL_law_690 ?_
  refine lv_aload_n hx hb dL_law_691 rfl (lv_at hl 0 rfl) ?_
  refine lv_iload hx hb dL_law_692 (lv_at hl 4 rfl) ?_
  refine lv_iconst (v := 2) hx hb dL_law_694 (by decide) ?_
  refine zn_add (i := i) (j := 2) hx hb dL_law_695 ?_
  refine z_sld (k := i + 2) (v := xs (i + 2)) hx hb hXs hbl hbA hS (by omega) (by omega) rfl dL_law_696 ?_
  refine lv_if_eq (x := xs (i + 2)) (tgt := 704) hx hb dL_law_697 (by decide) (fun c697 => ?_) (fun c697 => ?_)
  · skip
    refine lv_iconst (v := 0) hx hb dL_law_704 (by decide) ?_
    refine z_top (show (0 : Int32) = bI on by rw [e2, decide_eq_true c697]; rfl) ?_
    refine lv_aload_n hx hb dL_law_705 rfl (lv_at hl 3 rfl) ?_
    refine z_backSi (wa := []) (w := (wV cI cZ cJ h lev tm gn nL nC nE L B C E qo o)) (wb := (wM cI cZ g cd lev tm gn nL nC nE L B C F ys ao)) (z_runSL (wa := []) (w := (wV cI cZ cJ h lev tm gn nL nC nE L B C E qo o)) (wb := (wM cI cZ g cd lev tm gn nL nC nE L B C F ys ao)) (n := 4) (As := [.ref (h 0), .int (nI k), .int (bI on), .ref qo]) (rest := []) hx hb hml hown hts hK hE hX hN hS hA hP hD (tL_reserved_ok l D cI cZ cJ h lev tm gn nL nC nE L B C E k hk hL hC on hyes qo o sa _) gL_law_L_reserved rfl rfl rfl (by decide +kernel) ⟨Nat.le_of_ble_eq_true rfl, Nat.le_of_ble_eq_true rfl⟩ rfl hl.1 rfl (Nat.le_of_ble_eq_true rfl) dL_law_706 hroom) hP hD hS hA (fun r1 w1 H locs hp1 hP hD hS => ?_)
    obtain ⟨rfl, rfl⟩ := hp1
    have hP : va_P D vwCl ((wX cI cZ h lev tm gn nL nC nE L (upC B 1 k (bI on)) C E ++ [(qo, .inl (cJ, 1, .inr (.inl (vp_updL o 0 (nI (cntW (fun i => isB C i 1 (nI k)) nC + cntW (fun i => isB C i 0 (nI k)) nC)).toInt64))))]) ++ (wM cI cZ g cd lev tm gn nL nC nE L B C F ys ao)) H := hP
    have hD : va_D A ((wX cI cZ h lev tm gn nL nC nE L (upC B 1 k (bI on)) C E ++ [(qo, .inl (cJ, 1, .inr (.inl (vp_updL o 0 (nI (cntW (fun i => isB C i 1 (nI k)) nC + cntW (fun i => isB C i 0 (nI k)) nC)).toInt64))))]) ++ (wM cI cZ g cd lev tm gn nL nC nE L B C F ys ao)) := hD
    refine lv_istore (lv' := [(5, .int 0), (0, .ref sb), (1, .ref (h 0)), (2, .ref (g 0)), (3, .ref qo), (4, .int (nI i))]) hx hb dL_law_709 hl (by decide) rfl (fun ls hl => ?_)
    refine lv_aload_n hx hb dL_law_711 rfl (lv_at hl 3 rfl) ?_
    refine lv_aload_n hx hb dL_law_712 rfl (lv_at hl 1 rfl) ?_
    refine lv_iload hx hb dL_law_713 (lv_at hl 5 rfl) ?_
    refine lv_iconst (v := 1) hx hb dL_law_715 (by decide) ?_
    refine zn_add (i := i) (j := 1) hx hb dL_law_716 ?_
    refine z_sld (k := i + 1) (v := nI k) hx hb hXs hbl hbA hS (by omega) (by omega) e1 dL_law_717 ?_
    refine lv_aload_n hx hb dL_law_718 rfl (lv_at hl 1 rfl) ?_
    refine lv_iload hx hb dL_law_719 (lv_at hl 5 rfl) ?_
    refine lv_iconst (v := 2) hx hb dL_law_721 (by decide) ?_
    refine zn_add (i := i) (j := 2) hx hb dL_law_722 ?_
    refine z_sld (k := i + 2) (v := xs (i + 2)) hx hb hXs hbl hbA hS (by omega) (by omega) rfl dL_law_723 ?_
    refine lv_if_eq (x := xs (i + 2)) (tgt := 731) hx hb dL_law_724 (by decide) (fun c724 => ?_) (fun c724 => ?_)
    · skip
      refine lv_iconst (v := 0) hx hb dL_law_731 (by decide) ?_
      refine z_top (show (0 : Int32) = bI on by rw [e2, decide_eq_true c697]; rfl) ?_
      refine z_backTi (wa := (wX cI cZ h lev tm gn nL nC nE L (upC B 1 k (bI on)) C E ++ [(qo, .inl (cJ, 1, .inr (.inl (vp_updL o 0 (nI (cntW (fun i => isB C i 1 (nI k)) nC + cntW (fun i => isB C i 0 (nI k)) nC)).toInt64))))])) (w := (wM cI cZ g cd lev tm gn nL nC nE L B C F ys ao)) (z_runVT (wa := (wX cI cZ h lev tm gn nL nC nE L (upC B 1 k (bI on)) C E ++ [(qo, .inl (cJ, 1, .inr (.inl (vp_updL o 0 (nI (cntW (fun i => isB C i 1 (nI k)) nC + cntW (fun i => isB C i 0 (nI k)) nC)).toInt64))))])) (w := (wM cI cZ g cd lev tm gn nL nC nE L B C F ys ao)) (n := 2) (As := [.int (nI k), .int (bI on)]) (ci := 5) (rest := []) hx hb hml hown hts hK hE hP hD (tX4_reserved_ok l D cI cZ cJ g cd lev tm gn nL nC nE L B C F ys ao k m_hk m_hL m_hC on m_hyes _) gL_law_X4_reserved rfl rfl rfl (by decide +kernel) ⟨Nat.le_of_ble_eq_true rfl, Nat.le_of_ble_eq_true rfl⟩ rfl rfl rfl hl.1 rfl (Nat.le_of_ble_eq_true rfl) dL_law_732 hroom) hP hD hS hA (fun r2 w1 H locs hp2 hP hD hS => ?_)
      obtain ⟨rfl, rfl⟩ := hp2
      have hP : va_P D vwCl ((wX cI cZ h lev tm gn nL nC nE L (upC B 1 k (bI on)) C E ++ [(qo, .inl (cJ, 1, .inr (.inl (vp_updL o 0 (nI (cntW (fun i => isB C i 1 (nI k)) nC + cntW (fun i => isB C i 0 (nI k)) nC)).toInt64))))]) ++ (wM cI cZ g 0 lev tm gn nL nC nE L (upC B 1 k (bI on)) C F ys ao)) H := hP
      have hD : va_D A ((wX cI cZ h lev tm gn nL nC nE L (upC B 1 k (bI on)) C E ++ [(qo, .inl (cJ, 1, .inr (.inl (vp_updL o 0 (nI (cntW (fun i => isB C i 1 (nI k)) nC + cntW (fun i => isB C i 0 (nI k)) nC)).toInt64))))]) ++ (wM cI cZ g 0 lev tm gn nL nC nE L (upC B 1 k (bI on)) C F ys ao)) := hD
      refine lv_istore (lv' := [(6, .int (nI (cntW (fun i => isB C i 1 (nI k)) nC + cntW (fun i => isB C i 0 (nI k)) nC))), (5, .int 0), (0, .ref sb), (1, .ref (h 0)), (2, .ref (g 0)), (3, .ref qo), (4, .int (nI i))]) hx hb dL_law_735 hl (by decide) rfl (fun ls hl => ?_)
      refine lv_aload_n hx hb dL_law_737 rfl (lv_at hl 4 rfl) ?_
      refine z_backTi (wa := (wX cI cZ h lev tm gn nL nC nE L (upC B 1 k (bI on)) C E ++ [(qo, .inl (cJ, 1, .inr (.inl (vp_updL o 0 (nI (cntW (fun i => isB C i 1 (nI k)) nC + cntW (fun i => isB C i 0 (nI k)) nC)).toInt64))))])) (w := (wM cI cZ g 0 lev tm gn nL nC nE L (upC B 1 k (bI on)) C F ys ao)) (z_runVT (wa := (wX cI cZ h lev tm gn nL nC nE L (upC B 1 k (bI on)) C E ++ [(qo, .inl (cJ, 1, .inr (.inl (vp_updL o 0 (nI (cntW (fun i => isB C i 1 (nI k)) nC + cntW (fun i => isB C i 0 (nI k)) nC)).toInt64))))])) (w := (wM cI cZ g 0 lev tm gn nL nC nE L (upC B 1 k (bI on)) C F ys ao)) (n := 0) (As := []) (ci := 5) (rest := []) hx hb hml hown hts hK hE hP hD (tX4_thrown l D cI cZ cJ g 0 lev tm gn nL nC nE L (upC B 1 k (bI on)) C F ys ao _) gL_law_X4_thrown rfl rfl rfl (by decide +kernel) ⟨Nat.le_of_ble_eq_true rfl, Nat.le_of_ble_eq_true rfl⟩ rfl rfl rfl hl.1 rfl (Nat.le_of_ble_eq_true rfl) dL_law_738 hroom) hP hD hS hA (fun r3 w1 H locs hp3 hP hD hS => ?_)
      obtain ⟨rfl, rfl⟩ := hp3
      have hP : va_P D vwCl ((wX cI cZ h lev tm gn nL nC nE L (upC B 1 k (bI on)) C E ++ [(qo, .inl (cJ, 1, .inr (.inl (vp_updL o 0 (nI (cntW (fun i => isB C i 1 (nI k)) nC + cntW (fun i => isB C i 0 (nI k)) nC)).toInt64))))]) ++ (wM cI cZ g 0 lev tm gn nL nC nE L (upC B 1 k (bI on)) C F ys ao)) H := hP
      have hD : va_D A ((wX cI cZ h lev tm gn nL nC nE L (upC B 1 k (bI on)) C E ++ [(qo, .inl (cJ, 1, .inr (.inl (vp_updL o 0 (nI (cntW (fun i => isB C i 1 (nI k)) nC + cntW (fun i => isB C i 0 (nI k)) nC)).toInt64))))]) ++ (wM cI cZ g 0 lev tm gn nL nC nE L (upC B 1 k (bI on)) C F ys ao)) := hD
      refine lv_iload hx hb dL_law_741 (lv_at hl 1 rfl) ?_
      refine zn_eq (i := 0) (j := 0) (tgt := 748) hx hb (by omega) (by omega) dL_law_743 (by decide) (fun c743 => ?_) (fun c743 => ?_)
      · skip
        refine lv_iload hx hb dL_law_748 (lv_at hl 1 rfl) ?_
        refine lv_if_ne (x := 0) (tgt := 765) hx hb dL_law_750 (by decide) (fun c750 => ?_) (fun c750 => ?_)
        · exact absurd c750 (by decide)
        · skip
          refine lv_aload_n hx hb dL_law_753 rfl (lv_at hl 5 rfl) ?_
          refine lv_iconst (v := 0) hx hb dL_law_754 (by decide) ?_
          refine z_lald0 hx hb hK hP 24 rfl dL_law_755 ?_
          refine lv_iload hx hb dL_law_756 (lv_at hl 0 rfl) ?_
          refine lv_i2l (v := (nI (cntW (fun i => isB C i 1 (nI k)) nC + cntW (fun i => isB C i 0 (nI k)) nC)).toInt64) hx hb dL_law_758 rfl ?_
          refine W.lcmp (x := (vp_updL o 0 (nI (cntW (fun i => isB C i 1 (nI k)) nC + cntW (fun i => isB C i 0 (nI k)) nC)).toInt64) 0) (y := (nI (cntW (fun i => isB C i 1 (nI k)) nC + cntW (fun i => isB C i 0 (nI k)) nC)).toInt64) hx hb dL_law_759 ?_
          refine z_top (lg_eq hr) ?_
          refine lv_if_eq (x := 0) (tgt := 765) hx hb dL_law_760 (by decide) (fun c760 => ?_) (fun c760 => ?_)
          · skip
            refine lv_goto (tgt := 1117) hx hb dL_law_765 (by decide) ?_
            exact kk H locs ls (lv_sub hl [2, 3, 4, 5, 6] rfl) hP hD hS
          · exact absurd c760 (by decide)
      · exact absurd c743 (by omega)
    · exact absurd c697 c724
  · skip
    refine lv_iconst (v := 1) hx hb dL_law_700 (by decide) ?_
    refine lv_goto (tgt := 705) hx hb dL_law_701 (by decide) ?_
    refine z_top (show (1 : Int32) = bI on by rw [e2, decide_eq_false c697]; rfl) ?_
    refine lv_aload_n hx hb dL_law_705 rfl (lv_at hl 3 rfl) ?_
    refine z_backSi (wa := []) (w := (wV cI cZ cJ h lev tm gn nL nC nE L B C E qo o)) (wb := (wM cI cZ g cd lev tm gn nL nC nE L B C F ys ao)) (z_runSL (wa := []) (w := (wV cI cZ cJ h lev tm gn nL nC nE L B C E qo o)) (wb := (wM cI cZ g cd lev tm gn nL nC nE L B C F ys ao)) (n := 4) (As := [.ref (h 0), .int (nI k), .int (bI on), .ref qo]) (rest := []) hx hb hml hown hts hK hE hX hN hS hA hP hD (tL_reserved_ok l D cI cZ cJ h lev tm gn nL nC nE L B C E k hk hL hC on hyes qo o sa _) gL_law_L_reserved rfl rfl rfl (by decide +kernel) ⟨Nat.le_of_ble_eq_true rfl, Nat.le_of_ble_eq_true rfl⟩ rfl hl.1 rfl (Nat.le_of_ble_eq_true rfl) dL_law_706 hroom) hP hD hS hA (fun r4 w1 H locs hp4 hP hD hS => ?_)
    obtain ⟨rfl, rfl⟩ := hp4
    have hP : va_P D vwCl ((wX cI cZ h lev tm gn nL nC nE L (upC B 1 k (bI on)) C E ++ [(qo, .inl (cJ, 1, .inr (.inl (vp_updL o 0 (nI (cntW (fun i => isB C i 1 (nI k)) nC + cntW (fun i => isB C i 0 (nI k)) nC)).toInt64))))]) ++ (wM cI cZ g cd lev tm gn nL nC nE L B C F ys ao)) H := hP
    have hD : va_D A ((wX cI cZ h lev tm gn nL nC nE L (upC B 1 k (bI on)) C E ++ [(qo, .inl (cJ, 1, .inr (.inl (vp_updL o 0 (nI (cntW (fun i => isB C i 1 (nI k)) nC + cntW (fun i => isB C i 0 (nI k)) nC)).toInt64))))]) ++ (wM cI cZ g cd lev tm gn nL nC nE L B C F ys ao)) := hD
    refine lv_istore (lv' := [(5, .int 0), (0, .ref sb), (1, .ref (h 0)), (2, .ref (g 0)), (3, .ref qo), (4, .int (nI i))]) hx hb dL_law_709 hl (by decide) rfl (fun ls hl => ?_)
    refine lv_aload_n hx hb dL_law_711 rfl (lv_at hl 3 rfl) ?_
    refine lv_aload_n hx hb dL_law_712 rfl (lv_at hl 1 rfl) ?_
    refine lv_iload hx hb dL_law_713 (lv_at hl 5 rfl) ?_
    refine lv_iconst (v := 1) hx hb dL_law_715 (by decide) ?_
    refine zn_add (i := i) (j := 1) hx hb dL_law_716 ?_
    refine z_sld (k := i + 1) (v := nI k) hx hb hXs hbl hbA hS (by omega) (by omega) e1 dL_law_717 ?_
    refine lv_aload_n hx hb dL_law_718 rfl (lv_at hl 1 rfl) ?_
    refine lv_iload hx hb dL_law_719 (lv_at hl 5 rfl) ?_
    refine lv_iconst (v := 2) hx hb dL_law_721 (by decide) ?_
    refine zn_add (i := i) (j := 2) hx hb dL_law_722 ?_
    refine z_sld (k := i + 2) (v := xs (i + 2)) hx hb hXs hbl hbA hS (by omega) (by omega) rfl dL_law_723 ?_
    refine lv_if_eq (x := xs (i + 2)) (tgt := 731) hx hb dL_law_724 (by decide) (fun c724 => ?_) (fun c724 => ?_)
    · exact absurd c724 c697
    · skip
      refine lv_iconst (v := 1) hx hb dL_law_727 (by decide) ?_
      refine lv_goto (tgt := 732) hx hb dL_law_728 (by decide) ?_
      refine z_top (show (1 : Int32) = bI on by rw [e2, decide_eq_false c697]; rfl) ?_
      refine z_backTi (wa := (wX cI cZ h lev tm gn nL nC nE L (upC B 1 k (bI on)) C E ++ [(qo, .inl (cJ, 1, .inr (.inl (vp_updL o 0 (nI (cntW (fun i => isB C i 1 (nI k)) nC + cntW (fun i => isB C i 0 (nI k)) nC)).toInt64))))])) (w := (wM cI cZ g cd lev tm gn nL nC nE L B C F ys ao)) (z_runVT (wa := (wX cI cZ h lev tm gn nL nC nE L (upC B 1 k (bI on)) C E ++ [(qo, .inl (cJ, 1, .inr (.inl (vp_updL o 0 (nI (cntW (fun i => isB C i 1 (nI k)) nC + cntW (fun i => isB C i 0 (nI k)) nC)).toInt64))))])) (w := (wM cI cZ g cd lev tm gn nL nC nE L B C F ys ao)) (n := 2) (As := [.int (nI k), .int (bI on)]) (ci := 5) (rest := []) hx hb hml hown hts hK hE hP hD (tX4_reserved_ok l D cI cZ cJ g cd lev tm gn nL nC nE L B C F ys ao k m_hk m_hL m_hC on m_hyes _) gL_law_X4_reserved rfl rfl rfl (by decide +kernel) ⟨Nat.le_of_ble_eq_true rfl, Nat.le_of_ble_eq_true rfl⟩ rfl rfl rfl hl.1 rfl (Nat.le_of_ble_eq_true rfl) dL_law_732 hroom) hP hD hS hA (fun r5 w1 H locs hp5 hP hD hS => ?_)
      obtain ⟨rfl, rfl⟩ := hp5
      have hP : va_P D vwCl ((wX cI cZ h lev tm gn nL nC nE L (upC B 1 k (bI on)) C E ++ [(qo, .inl (cJ, 1, .inr (.inl (vp_updL o 0 (nI (cntW (fun i => isB C i 1 (nI k)) nC + cntW (fun i => isB C i 0 (nI k)) nC)).toInt64))))]) ++ (wM cI cZ g 0 lev tm gn nL nC nE L (upC B 1 k (bI on)) C F ys ao)) H := hP
      have hD : va_D A ((wX cI cZ h lev tm gn nL nC nE L (upC B 1 k (bI on)) C E ++ [(qo, .inl (cJ, 1, .inr (.inl (vp_updL o 0 (nI (cntW (fun i => isB C i 1 (nI k)) nC + cntW (fun i => isB C i 0 (nI k)) nC)).toInt64))))]) ++ (wM cI cZ g 0 lev tm gn nL nC nE L (upC B 1 k (bI on)) C F ys ao)) := hD
      refine lv_istore (lv' := [(6, .int (nI (cntW (fun i => isB C i 1 (nI k)) nC + cntW (fun i => isB C i 0 (nI k)) nC))), (5, .int 0), (0, .ref sb), (1, .ref (h 0)), (2, .ref (g 0)), (3, .ref qo), (4, .int (nI i))]) hx hb dL_law_735 hl (by decide) rfl (fun ls hl => ?_)
      refine lv_aload_n hx hb dL_law_737 rfl (lv_at hl 4 rfl) ?_
      refine z_backTi (wa := (wX cI cZ h lev tm gn nL nC nE L (upC B 1 k (bI on)) C E ++ [(qo, .inl (cJ, 1, .inr (.inl (vp_updL o 0 (nI (cntW (fun i => isB C i 1 (nI k)) nC + cntW (fun i => isB C i 0 (nI k)) nC)).toInt64))))])) (w := (wM cI cZ g 0 lev tm gn nL nC nE L (upC B 1 k (bI on)) C F ys ao)) (z_runVT (wa := (wX cI cZ h lev tm gn nL nC nE L (upC B 1 k (bI on)) C E ++ [(qo, .inl (cJ, 1, .inr (.inl (vp_updL o 0 (nI (cntW (fun i => isB C i 1 (nI k)) nC + cntW (fun i => isB C i 0 (nI k)) nC)).toInt64))))])) (w := (wM cI cZ g 0 lev tm gn nL nC nE L (upC B 1 k (bI on)) C F ys ao)) (n := 0) (As := []) (ci := 5) (rest := []) hx hb hml hown hts hK hE hP hD (tX4_thrown l D cI cZ cJ g 0 lev tm gn nL nC nE L (upC B 1 k (bI on)) C F ys ao _) gL_law_X4_thrown rfl rfl rfl (by decide +kernel) ⟨Nat.le_of_ble_eq_true rfl, Nat.le_of_ble_eq_true rfl⟩ rfl rfl rfl hl.1 rfl (Nat.le_of_ble_eq_true rfl) dL_law_738 hroom) hP hD hS hA (fun r6 w1 H locs hp6 hP hD hS => ?_)
      obtain ⟨rfl, rfl⟩ := hp6
      have hP : va_P D vwCl ((wX cI cZ h lev tm gn nL nC nE L (upC B 1 k (bI on)) C E ++ [(qo, .inl (cJ, 1, .inr (.inl (vp_updL o 0 (nI (cntW (fun i => isB C i 1 (nI k)) nC + cntW (fun i => isB C i 0 (nI k)) nC)).toInt64))))]) ++ (wM cI cZ g 0 lev tm gn nL nC nE L (upC B 1 k (bI on)) C F ys ao)) H := hP
      have hD : va_D A ((wX cI cZ h lev tm gn nL nC nE L (upC B 1 k (bI on)) C E ++ [(qo, .inl (cJ, 1, .inr (.inl (vp_updL o 0 (nI (cntW (fun i => isB C i 1 (nI k)) nC + cntW (fun i => isB C i 0 (nI k)) nC)).toInt64))))]) ++ (wM cI cZ g 0 lev tm gn nL nC nE L (upC B 1 k (bI on)) C F ys ao)) := hD
      refine lv_iload hx hb dL_law_741 (lv_at hl 1 rfl) ?_
      refine zn_eq (i := 0) (j := 0) (tgt := 748) hx hb (by omega) (by omega) dL_law_743 (by decide) (fun c743 => ?_) (fun c743 => ?_)
      · skip
        refine lv_iload hx hb dL_law_748 (lv_at hl 1 rfl) ?_
        refine lv_if_ne (x := 0) (tgt := 765) hx hb dL_law_750 (by decide) (fun c750 => ?_) (fun c750 => ?_)
        · exact absurd c750 (by decide)
        · skip
          refine lv_aload_n hx hb dL_law_753 rfl (lv_at hl 5 rfl) ?_
          refine lv_iconst (v := 0) hx hb dL_law_754 (by decide) ?_
          refine z_lald0 hx hb hK hP 24 rfl dL_law_755 ?_
          refine lv_iload hx hb dL_law_756 (lv_at hl 0 rfl) ?_
          refine lv_i2l (v := (nI (cntW (fun i => isB C i 1 (nI k)) nC + cntW (fun i => isB C i 0 (nI k)) nC)).toInt64) hx hb dL_law_758 rfl ?_
          refine W.lcmp (x := (vp_updL o 0 (nI (cntW (fun i => isB C i 1 (nI k)) nC + cntW (fun i => isB C i 0 (nI k)) nC)).toInt64) 0) (y := (nI (cntW (fun i => isB C i 1 (nI k)) nC + cntW (fun i => isB C i 0 (nI k)) nC)).toInt64) hx hb dL_law_759 ?_
          refine z_top (lg_eq hr) ?_
          refine lv_if_eq (x := 0) (tgt := 765) hx hb dL_law_760 (by decide) (fun c760 => ?_) (fun c760 => ?_)
          · skip
            refine lv_goto (tgt := 1117) hx hb dL_law_765 (by decide) ?_
            exact kk H locs ls (lv_sub hl [2, 3, 4, 5, 6] rfl) hP hD hS
          · exact absurd c760 (by decide)
      · exact absurd c743 (by omega)


set_option maxHeartbeats 4000000 in
set_option maxRecDepth 100000 in
theorem law_reserved_xa {p : Program} {l : Launch} {e : Env} {s : State} {m : MethodId} {below : List Frame} {meth : Method} {c : Code} {Q : State → Prop} {sb Ln : Nat} {xs : Nat → Int32} {D : va_G} {cI cZ cJ : ClassId} {A : Nat → Prop} {sa : Nat → Nat} (cx : zCx p l s m meth c sb Ln xs D cI cZ cJ A sa) (h g : Nat → Nat) (lev tm : Nat) (gn : Int32) (nL nC nE : Nat) (L B C E F : Nat → Nat → Int32) (qo : Nat) (o : Nat → Int64) (cd : Int32) (ys ao : Nat → Int32) (i : Nat) (hi : i + 5 ≤ Ln) (v : Int32) (on : Bool) (hno : inB v 0 (nI nL - 1) = false) (hL : nL ≤ 4) (hC : nC ≤ 24) (m_hno : inB v 0 (nI nL - 1) = false) (e1 : xs (i + 1) = v) (e2 : on = !decide (xs (i + 2) = 0)) {H : Heap} {locs : List Loc} {cells slots : Nat} {ls : Array Slot} (hl : lv_has ls 7 [(0, .ref sb), (1, .ref (h 0)), (2, .ref (g 0)), (3, .ref qo), (4, .int (nI i))]) (hP : va_P D vwCl (wV cI cZ cJ h lev tm gn nL nC nE L B C E qo o ++ wM cI cZ g cd lev tm gn nL nC nE L B C F ys ao) H) (hD : va_D A (wV cI cZ cJ h lev tm gn nL nC nE L B C E qo o ++ wM cI cZ g cd lev tm gn nL nC nE L B C F ys ao)) (hS : va_S A s.heap H locs) (hroom : cells + 1 ≤ room_1.cells ∧ slots + 6 ≤ room_1.slots) (kk : ∀ (H1 : Heap) (locs1 : List Loc) (ls1 : Array Slot), lv_has ls1 7 [(0, .ref sb), (1, .ref (h 0)), (2, .ref (g 0)), (3, .ref qo), (4, .int (nI i))] → va_P D vwCl (wX cI cZ h lev tm gn nL nC nE L B C E ++ [(qo, .inl (cJ, 1, .inr (.inl o)))] ++ wM cI cZ g 1 lev tm gn nL nC nE L B C F ys ao) H1 → va_D A (wX cI cZ h lev tm gn nL nC nE L B C E ++ [(qo, .inl (cJ, 1, .inr (.inl o)))] ++ wM cI cZ g 1 lev tm gn nL nC nE L B C F ys ao) → va_S A s.heap H1 locs1 → W p l e room_1 s m #[Value.ref sb] below meth c H1 locs1 (cells + 1) (slots + 6) Q (F0 m 1117 ls1 []))  : W p l e room_1 s m #[Value.ref sb] below meth c H locs cells slots Q (F0 m 684 ls []) := by
  obtain ⟨hx, hb, hr9, hml, hlocks, hown, htsO, hK, hE, hX, hN, hA, hXs, hbl, hbA, hl9, hLn⟩ := cx
  have hts : ∀ w ∈ wsL_law, w.before #[Value.ref sb] s = true := fun w h9 => htsO w (lawO_l h9)
  refine lv_aload_n hx hb dL_law_684 rfl (lv_at hl 1 rfl) ?_
  refine lv_aload_n hx hb dL_law_685 rfl (lv_at hl 0 rfl) ?_
  refine lv_iload hx hb dL_law_686 (lv_at hl 4 rfl) ?_
  refine lv_iconst (v := 1) hx hb dL_law_688 (by decide) ?_
  refine zn_add (i := i) (j := 1) hx hb dL_law_689 ?_
  refine z_sld (k := i + 1) (v := v) hx hb hXs hbl hbA hS (by omega) (by omega) e1 dL_law_690 ?_
  refine lv_aload_n hx hb dL_law_691 rfl (lv_at hl 0 rfl) ?_
  refine lv_iload hx hb dL_law_692 (lv_at hl 4 rfl) ?_
  refine lv_iconst (v := 2) hx hb dL_law_694 (by decide) ?_
  refine zn_add (i := i) (j := 2) hx hb dL_law_695 ?_
  refine z_sld (k := i + 2) (v := xs (i + 2)) hx hb hXs hbl hbA hS (by omega) (by omega) rfl dL_law_696 ?_
  refine lv_if_eq (x := xs (i + 2)) (tgt := 704) hx hb dL_law_697 (by decide) (fun c697 => ?_) (fun c697 => ?_)
  · skip
    refine lv_iconst (v := 0) hx hb dL_law_704 (by decide) ?_
    refine z_top (show (0 : Int32) = bI on by rw [e2, decide_eq_true c697]; rfl) ?_
    refine lv_aload_n hx hb dL_law_705 rfl (lv_at hl 3 rfl) ?_
    refine z_backSi (wa := []) (w := (wV cI cZ cJ h lev tm gn nL nC nE L B C E qo o)) (wb := (wM cI cZ g cd lev tm gn nL nC nE L B C F ys ao)) (z_runSL (wa := []) (w := (wV cI cZ cJ h lev tm gn nL nC nE L B C E qo o)) (wb := (wM cI cZ g cd lev tm gn nL nC nE L B C F ys ao)) (n := 4) (As := [.ref (h 0), .int v, .int (bI on), .ref qo]) (rest := []) hx hb hml hown hts hK hE hX hN hS hA hP hD (tL_reserved_xa l D cI cZ cJ h lev tm gn nL nC nE L B C E v on hno hL hC qo o sa hl9 _) gL_law_L_reserved rfl rfl rfl (by decide +kernel) ⟨Nat.le_of_ble_eq_true rfl, Nat.le_of_ble_eq_true rfl⟩ rfl hl.1 rfl (Nat.le_of_ble_eq_true rfl) dL_law_706 hroom) hP hD hS hA (fun r1 w1 H locs hp1 hP hD hS => ?_)
    obtain ⟨rfl, rfl⟩ := hp1
    have hP : va_P D vwCl ((wX cI cZ h lev tm gn nL nC nE L B C E ++ [(qo, .inl (cJ, 1, .inr (.inl o)))]) ++ (wM cI cZ g cd lev tm gn nL nC nE L B C F ys ao)) H := hP
    have hD : va_D A ((wX cI cZ h lev tm gn nL nC nE L B C E ++ [(qo, .inl (cJ, 1, .inr (.inl o)))]) ++ (wM cI cZ g cd lev tm gn nL nC nE L B C F ys ao)) := hD
    refine lv_istore (lv' := [(5, .int 1), (0, .ref sb), (1, .ref (h 0)), (2, .ref (g 0)), (3, .ref qo), (4, .int (nI i))]) hx hb dL_law_709 hl (by decide) rfl (fun ls hl => ?_)
    refine lv_aload_n hx hb dL_law_711 rfl (lv_at hl 3 rfl) ?_
    refine lv_aload_n hx hb dL_law_712 rfl (lv_at hl 1 rfl) ?_
    refine lv_iload hx hb dL_law_713 (lv_at hl 5 rfl) ?_
    refine lv_iconst (v := 1) hx hb dL_law_715 (by decide) ?_
    refine zn_add (i := i) (j := 1) hx hb dL_law_716 ?_
    refine z_sld (k := i + 1) (v := v) hx hb hXs hbl hbA hS (by omega) (by omega) e1 dL_law_717 ?_
    refine lv_aload_n hx hb dL_law_718 rfl (lv_at hl 1 rfl) ?_
    refine lv_iload hx hb dL_law_719 (lv_at hl 5 rfl) ?_
    refine lv_iconst (v := 2) hx hb dL_law_721 (by decide) ?_
    refine zn_add (i := i) (j := 2) hx hb dL_law_722 ?_
    refine z_sld (k := i + 2) (v := xs (i + 2)) hx hb hXs hbl hbA hS (by omega) (by omega) rfl dL_law_723 ?_
    refine lv_if_eq (x := xs (i + 2)) (tgt := 731) hx hb dL_law_724 (by decide) (fun c724 => ?_) (fun c724 => ?_)
    · skip
      refine lv_iconst (v := 0) hx hb dL_law_731 (by decide) ?_
      refine z_top (show (0 : Int32) = bI on by rw [e2, decide_eq_true c697]; rfl) ?_
      refine z_backTi (wa := (wX cI cZ h lev tm gn nL nC nE L B C E ++ [(qo, .inl (cJ, 1, .inr (.inl o)))])) (w := (wM cI cZ g cd lev tm gn nL nC nE L B C F ys ao)) (z_runVT (wa := (wX cI cZ h lev tm gn nL nC nE L B C E ++ [(qo, .inl (cJ, 1, .inr (.inl o)))])) (w := (wM cI cZ g cd lev tm gn nL nC nE L B C F ys ao)) (n := 2) (As := [.int v, .int (bI on)]) (ci := 5) (rest := []) hx hb hml hown hts hK hE hP hD (tX4_reserved_n1 l D cI cZ cJ g cd lev tm gn nL nC nE L B C F ys ao v m_hno on _) gL_law_X4_reserved rfl rfl rfl (by decide +kernel) ⟨Nat.le_of_ble_eq_true rfl, Nat.le_of_ble_eq_true rfl⟩ rfl rfl rfl hl.1 rfl (Nat.le_of_ble_eq_true rfl) dL_law_732 hroom) hP hD hS hA (fun r2 w1 H locs hp2 hP hD hS => ?_)
      obtain ⟨rfl, rfl⟩ := hp2
      have hP : va_P D vwCl ((wX cI cZ h lev tm gn nL nC nE L B C E ++ [(qo, .inl (cJ, 1, .inr (.inl o)))]) ++ (wM cI cZ g 1 lev tm gn nL nC nE L B C F ys ao)) H := hP
      have hD : va_D A ((wX cI cZ h lev tm gn nL nC nE L B C E ++ [(qo, .inl (cJ, 1, .inr (.inl o)))]) ++ (wM cI cZ g 1 lev tm gn nL nC nE L B C F ys ao)) := hD
      refine lv_istore (lv' := [(6, .int 0), (5, .int 1), (0, .ref sb), (1, .ref (h 0)), (2, .ref (g 0)), (3, .ref qo), (4, .int (nI i))]) hx hb dL_law_735 hl (by decide) rfl (fun ls hl => ?_)
      refine lv_aload_n hx hb dL_law_737 rfl (lv_at hl 4 rfl) ?_
      refine z_backTi (wa := (wX cI cZ h lev tm gn nL nC nE L B C E ++ [(qo, .inl (cJ, 1, .inr (.inl o)))])) (w := (wM cI cZ g 1 lev tm gn nL nC nE L B C F ys ao)) (z_runVT (wa := (wX cI cZ h lev tm gn nL nC nE L B C E ++ [(qo, .inl (cJ, 1, .inr (.inl o)))])) (w := (wM cI cZ g 1 lev tm gn nL nC nE L B C F ys ao)) (n := 0) (As := []) (ci := 5) (rest := []) hx hb hml hown hts hK hE hP hD (tX4_thrown l D cI cZ cJ g 1 lev tm gn nL nC nE L B C F ys ao _) gL_law_X4_thrown rfl rfl rfl (by decide +kernel) ⟨Nat.le_of_ble_eq_true rfl, Nat.le_of_ble_eq_true rfl⟩ rfl rfl rfl hl.1 rfl (Nat.le_of_ble_eq_true rfl) dL_law_738 hroom) hP hD hS hA (fun r3 w1 H locs hp3 hP hD hS => ?_)
      obtain ⟨rfl, rfl⟩ := hp3
      have hP : va_P D vwCl ((wX cI cZ h lev tm gn nL nC nE L B C E ++ [(qo, .inl (cJ, 1, .inr (.inl o)))]) ++ (wM cI cZ g 1 lev tm gn nL nC nE L B C F ys ao)) H := hP
      have hD : va_D A ((wX cI cZ h lev tm gn nL nC nE L B C E ++ [(qo, .inl (cJ, 1, .inr (.inl o)))]) ++ (wM cI cZ g 1 lev tm gn nL nC nE L B C F ys ao)) := hD
      refine lv_iload hx hb dL_law_741 (lv_at hl 1 rfl) ?_
      refine zn_eq (i := 1) (j := 1) (tgt := 748) hx hb (by omega) (by omega) dL_law_743 (by decide) (fun c743 => ?_) (fun c743 => ?_)
      · skip
        refine lv_iload hx hb dL_law_748 (lv_at hl 1 rfl) ?_
        refine lv_if_ne (x := 1) (tgt := 765) hx hb dL_law_750 (by decide) (fun c750 => ?_) (fun c750 => ?_)
        · skip
          refine lv_goto (tgt := 1117) hx hb dL_law_765 (by decide) ?_
          exact kk H locs ls (lv_sub hl [2, 3, 4, 5, 6] rfl) hP hD hS
        · exact absurd c750 (by decide)
      · exact absurd c743 (by omega)
    · exact absurd c697 c724
  · skip
    refine lv_iconst (v := 1) hx hb dL_law_700 (by decide) ?_
    refine lv_goto (tgt := 705) hx hb dL_law_701 (by decide) ?_
    refine z_top (show (1 : Int32) = bI on by rw [e2, decide_eq_false c697]; rfl) ?_
    refine lv_aload_n hx hb dL_law_705 rfl (lv_at hl 3 rfl) ?_
    refine z_backSi (wa := []) (w := (wV cI cZ cJ h lev tm gn nL nC nE L B C E qo o)) (wb := (wM cI cZ g cd lev tm gn nL nC nE L B C F ys ao)) (z_runSL (wa := []) (w := (wV cI cZ cJ h lev tm gn nL nC nE L B C E qo o)) (wb := (wM cI cZ g cd lev tm gn nL nC nE L B C F ys ao)) (n := 4) (As := [.ref (h 0), .int v, .int (bI on), .ref qo]) (rest := []) hx hb hml hown hts hK hE hX hN hS hA hP hD (tL_reserved_xa l D cI cZ cJ h lev tm gn nL nC nE L B C E v on hno hL hC qo o sa hl9 _) gL_law_L_reserved rfl rfl rfl (by decide +kernel) ⟨Nat.le_of_ble_eq_true rfl, Nat.le_of_ble_eq_true rfl⟩ rfl hl.1 rfl (Nat.le_of_ble_eq_true rfl) dL_law_706 hroom) hP hD hS hA (fun r4 w1 H locs hp4 hP hD hS => ?_)
    obtain ⟨rfl, rfl⟩ := hp4
    have hP : va_P D vwCl ((wX cI cZ h lev tm gn nL nC nE L B C E ++ [(qo, .inl (cJ, 1, .inr (.inl o)))]) ++ (wM cI cZ g cd lev tm gn nL nC nE L B C F ys ao)) H := hP
    have hD : va_D A ((wX cI cZ h lev tm gn nL nC nE L B C E ++ [(qo, .inl (cJ, 1, .inr (.inl o)))]) ++ (wM cI cZ g cd lev tm gn nL nC nE L B C F ys ao)) := hD
    refine lv_istore (lv' := [(5, .int 1), (0, .ref sb), (1, .ref (h 0)), (2, .ref (g 0)), (3, .ref qo), (4, .int (nI i))]) hx hb dL_law_709 hl (by decide) rfl (fun ls hl => ?_)
    refine lv_aload_n hx hb dL_law_711 rfl (lv_at hl 3 rfl) ?_
    refine lv_aload_n hx hb dL_law_712 rfl (lv_at hl 1 rfl) ?_
    refine lv_iload hx hb dL_law_713 (lv_at hl 5 rfl) ?_
    refine lv_iconst (v := 1) hx hb dL_law_715 (by decide) ?_
    refine zn_add (i := i) (j := 1) hx hb dL_law_716 ?_
    refine z_sld (k := i + 1) (v := v) hx hb hXs hbl hbA hS (by omega) (by omega) e1 dL_law_717 ?_
    refine lv_aload_n hx hb dL_law_718 rfl (lv_at hl 1 rfl) ?_
    refine lv_iload hx hb dL_law_719 (lv_at hl 5 rfl) ?_
    refine lv_iconst (v := 2) hx hb dL_law_721 (by decide) ?_
    refine zn_add (i := i) (j := 2) hx hb dL_law_722 ?_
    refine z_sld (k := i + 2) (v := xs (i + 2)) hx hb hXs hbl hbA hS (by omega) (by omega) rfl dL_law_723 ?_
    refine lv_if_eq (x := xs (i + 2)) (tgt := 731) hx hb dL_law_724 (by decide) (fun c724 => ?_) (fun c724 => ?_)
    · exact absurd c724 c697
    · skip
      refine lv_iconst (v := 1) hx hb dL_law_727 (by decide) ?_
      refine lv_goto (tgt := 732) hx hb dL_law_728 (by decide) ?_
      refine z_top (show (1 : Int32) = bI on by rw [e2, decide_eq_false c697]; rfl) ?_
      refine z_backTi (wa := (wX cI cZ h lev tm gn nL nC nE L B C E ++ [(qo, .inl (cJ, 1, .inr (.inl o)))])) (w := (wM cI cZ g cd lev tm gn nL nC nE L B C F ys ao)) (z_runVT (wa := (wX cI cZ h lev tm gn nL nC nE L B C E ++ [(qo, .inl (cJ, 1, .inr (.inl o)))])) (w := (wM cI cZ g cd lev tm gn nL nC nE L B C F ys ao)) (n := 2) (As := [.int v, .int (bI on)]) (ci := 5) (rest := []) hx hb hml hown hts hK hE hP hD (tX4_reserved_n1 l D cI cZ cJ g cd lev tm gn nL nC nE L B C F ys ao v m_hno on _) gL_law_X4_reserved rfl rfl rfl (by decide +kernel) ⟨Nat.le_of_ble_eq_true rfl, Nat.le_of_ble_eq_true rfl⟩ rfl rfl rfl hl.1 rfl (Nat.le_of_ble_eq_true rfl) dL_law_732 hroom) hP hD hS hA (fun r5 w1 H locs hp5 hP hD hS => ?_)
      obtain ⟨rfl, rfl⟩ := hp5
      have hP : va_P D vwCl ((wX cI cZ h lev tm gn nL nC nE L B C E ++ [(qo, .inl (cJ, 1, .inr (.inl o)))]) ++ (wM cI cZ g 1 lev tm gn nL nC nE L B C F ys ao)) H := hP
      have hD : va_D A ((wX cI cZ h lev tm gn nL nC nE L B C E ++ [(qo, .inl (cJ, 1, .inr (.inl o)))]) ++ (wM cI cZ g 1 lev tm gn nL nC nE L B C F ys ao)) := hD
      refine lv_istore (lv' := [(6, .int 0), (5, .int 1), (0, .ref sb), (1, .ref (h 0)), (2, .ref (g 0)), (3, .ref qo), (4, .int (nI i))]) hx hb dL_law_735 hl (by decide) rfl (fun ls hl => ?_)
      refine lv_aload_n hx hb dL_law_737 rfl (lv_at hl 4 rfl) ?_
      refine z_backTi (wa := (wX cI cZ h lev tm gn nL nC nE L B C E ++ [(qo, .inl (cJ, 1, .inr (.inl o)))])) (w := (wM cI cZ g 1 lev tm gn nL nC nE L B C F ys ao)) (z_runVT (wa := (wX cI cZ h lev tm gn nL nC nE L B C E ++ [(qo, .inl (cJ, 1, .inr (.inl o)))])) (w := (wM cI cZ g 1 lev tm gn nL nC nE L B C F ys ao)) (n := 0) (As := []) (ci := 5) (rest := []) hx hb hml hown hts hK hE hP hD (tX4_thrown l D cI cZ cJ g 1 lev tm gn nL nC nE L B C F ys ao _) gL_law_X4_thrown rfl rfl rfl (by decide +kernel) ⟨Nat.le_of_ble_eq_true rfl, Nat.le_of_ble_eq_true rfl⟩ rfl rfl rfl hl.1 rfl (Nat.le_of_ble_eq_true rfl) dL_law_738 hroom) hP hD hS hA (fun r6 w1 H locs hp6 hP hD hS => ?_)
      obtain ⟨rfl, rfl⟩ := hp6
      have hP : va_P D vwCl ((wX cI cZ h lev tm gn nL nC nE L B C E ++ [(qo, .inl (cJ, 1, .inr (.inl o)))]) ++ (wM cI cZ g 1 lev tm gn nL nC nE L B C F ys ao)) H := hP
      have hD : va_D A ((wX cI cZ h lev tm gn nL nC nE L B C E ++ [(qo, .inl (cJ, 1, .inr (.inl o)))]) ++ (wM cI cZ g 1 lev tm gn nL nC nE L B C F ys ao)) := hD
      refine lv_iload hx hb dL_law_741 (lv_at hl 1 rfl) ?_
      refine zn_eq (i := 1) (j := 1) (tgt := 748) hx hb (by omega) (by omega) dL_law_743 (by decide) (fun c743 => ?_) (fun c743 => ?_)
      · skip
        refine lv_iload hx hb dL_law_748 (lv_at hl 1 rfl) ?_
        refine lv_if_ne (x := 1) (tgt := 765) hx hb dL_law_750 (by decide) (fun c750 => ?_) (fun c750 => ?_)
        · skip
          refine lv_goto (tgt := 1117) hx hb dL_law_765 (by decide) ?_
          exact kk H locs ls (lv_sub hl [2, 3, 4, 5, 6] rfl) hP hD hS
        · exact absurd c750 (by decide)
      · exact absurd c743 (by omega)


set_option maxHeartbeats 4000000 in
set_option maxRecDepth 100000 in
theorem law_reserved_xb {p : Program} {l : Launch} {e : Env} {s : State} {m : MethodId} {below : List Frame} {meth : Method} {c : Code} {Q : State → Prop} {sb Ln : Nat} {xs : Nat → Int32} {D : va_G} {cI cZ cJ : ClassId} {A : Nat → Prop} {sa : Nat → Nat} (cx : zCx p l s m meth c sb Ln xs D cI cZ cJ A sa) (h g : Nat → Nat) (lev tm : Nat) (gn : Int32) (nL nC nE : Nat) (L B C E F : Nat → Nat → Int32) (qo : Nat) (o : Nat → Int64) (cd : Int32) (ys ao : Nat → Int32) (i : Nat) (hi : i + 5 ≤ Ln) (k : Nat) (hk : k < nL) (hL : nL ≤ 4) (hC : nC ≤ 24) (on : Bool) (hno : B 1 k = bI on) (m_hk : k < nL) (m_hL : nL ≤ 4) (m_hC : nC ≤ 24) (m_hno : B 1 k = bI on) (e1 : xs (i + 1) = nI k) (e2 : on = !decide (xs (i + 2) = 0)) {H : Heap} {locs : List Loc} {cells slots : Nat} {ls : Array Slot} (hl : lv_has ls 7 [(0, .ref sb), (1, .ref (h 0)), (2, .ref (g 0)), (3, .ref qo), (4, .int (nI i))]) (hP : va_P D vwCl (wV cI cZ cJ h lev tm gn nL nC nE L B C E qo o ++ wM cI cZ g cd lev tm gn nL nC nE L B C F ys ao) H) (hD : va_D A (wV cI cZ cJ h lev tm gn nL nC nE L B C E qo o ++ wM cI cZ g cd lev tm gn nL nC nE L B C F ys ao)) (hS : va_S A s.heap H locs) (hroom : cells + 1 ≤ room_1.cells ∧ slots + 6 ≤ room_1.slots) (kk : ∀ (H1 : Heap) (locs1 : List Loc) (ls1 : Array Slot), lv_has ls1 7 [(0, .ref sb), (1, .ref (h 0)), (2, .ref (g 0)), (3, .ref qo), (4, .int (nI i))] → va_P D vwCl (wX cI cZ h lev tm gn nL nC nE L B C E ++ [(qo, .inl (cJ, 1, .inr (.inl o)))] ++ wM cI cZ g 2 lev tm gn nL nC nE L B C F ys ao) H1 → va_D A (wX cI cZ h lev tm gn nL nC nE L B C E ++ [(qo, .inl (cJ, 1, .inr (.inl o)))] ++ wM cI cZ g 2 lev tm gn nL nC nE L B C F ys ao) → va_S A s.heap H1 locs1 → W p l e room_1 s m #[Value.ref sb] below meth c H1 locs1 (cells + 1) (slots + 6) Q (F0 m 1117 ls1 []))  : W p l e room_1 s m #[Value.ref sb] below meth c H locs cells slots Q (F0 m 684 ls []) := by
  obtain ⟨hx, hb, hr9, hml, hlocks, hown, htsO, hK, hE, hX, hN, hA, hXs, hbl, hbA, hl9, hLn⟩ := cx
  have hts : ∀ w ∈ wsL_law, w.before #[Value.ref sb] s = true := fun w h9 => htsO w (lawO_l h9)
  refine lv_aload_n hx hb dL_law_684 rfl (lv_at hl 1 rfl) ?_
  refine lv_aload_n hx hb dL_law_685 rfl (lv_at hl 0 rfl) ?_
  refine lv_iload hx hb dL_law_686 (lv_at hl 4 rfl) ?_
  refine lv_iconst (v := 1) hx hb dL_law_688 (by decide) ?_
  refine zn_add (i := i) (j := 1) hx hb dL_law_689 ?_
  refine z_sld (k := i + 1) (v := nI k) hx hb hXs hbl hbA hS (by omega) (by omega) e1 dL_law_690 ?_
  refine lv_aload_n hx hb dL_law_691 rfl (lv_at hl 0 rfl) ?_
  refine lv_iload hx hb dL_law_692 (lv_at hl 4 rfl) ?_
  refine lv_iconst (v := 2) hx hb dL_law_694 (by decide) ?_
  refine zn_add (i := i) (j := 2) hx hb dL_law_695 ?_
  refine z_sld (k := i + 2) (v := xs (i + 2)) hx hb hXs hbl hbA hS (by omega) (by omega) rfl dL_law_696 ?_
  refine lv_if_eq (x := xs (i + 2)) (tgt := 704) hx hb dL_law_697 (by decide) (fun c697 => ?_) (fun c697 => ?_)
  · skip
    refine lv_iconst (v := 0) hx hb dL_law_704 (by decide) ?_
    refine z_top (show (0 : Int32) = bI on by rw [e2, decide_eq_true c697]; rfl) ?_
    refine lv_aload_n hx hb dL_law_705 rfl (lv_at hl 3 rfl) ?_
    refine z_backSi (wa := []) (w := (wV cI cZ cJ h lev tm gn nL nC nE L B C E qo o)) (wb := (wM cI cZ g cd lev tm gn nL nC nE L B C F ys ao)) (z_runSL (wa := []) (w := (wV cI cZ cJ h lev tm gn nL nC nE L B C E qo o)) (wb := (wM cI cZ g cd lev tm gn nL nC nE L B C F ys ao)) (n := 4) (As := [.ref (h 0), .int (nI k), .int (bI on), .ref qo]) (rest := []) hx hb hml hown hts hK hE hX hN hS hA hP hD (tL_reserved_xb l D cI cZ cJ h lev tm gn nL nC nE L B C E k hk hL hC on hno qo o sa hl9 _) gL_law_L_reserved rfl rfl rfl (by decide +kernel) ⟨Nat.le_of_ble_eq_true rfl, Nat.le_of_ble_eq_true rfl⟩ rfl hl.1 rfl (Nat.le_of_ble_eq_true rfl) dL_law_706 hroom) hP hD hS hA (fun r1 w1 H locs hp1 hP hD hS => ?_)
    obtain ⟨rfl, rfl⟩ := hp1
    have hP : va_P D vwCl ((wX cI cZ h lev tm gn nL nC nE L B C E ++ [(qo, .inl (cJ, 1, .inr (.inl o)))]) ++ (wM cI cZ g cd lev tm gn nL nC nE L B C F ys ao)) H := hP
    have hD : va_D A ((wX cI cZ h lev tm gn nL nC nE L B C E ++ [(qo, .inl (cJ, 1, .inr (.inl o)))]) ++ (wM cI cZ g cd lev tm gn nL nC nE L B C F ys ao)) := hD
    refine lv_istore (lv' := [(5, .int 2), (0, .ref sb), (1, .ref (h 0)), (2, .ref (g 0)), (3, .ref qo), (4, .int (nI i))]) hx hb dL_law_709 hl (by decide) rfl (fun ls hl => ?_)
    refine lv_aload_n hx hb dL_law_711 rfl (lv_at hl 3 rfl) ?_
    refine lv_aload_n hx hb dL_law_712 rfl (lv_at hl 1 rfl) ?_
    refine lv_iload hx hb dL_law_713 (lv_at hl 5 rfl) ?_
    refine lv_iconst (v := 1) hx hb dL_law_715 (by decide) ?_
    refine zn_add (i := i) (j := 1) hx hb dL_law_716 ?_
    refine z_sld (k := i + 1) (v := nI k) hx hb hXs hbl hbA hS (by omega) (by omega) e1 dL_law_717 ?_
    refine lv_aload_n hx hb dL_law_718 rfl (lv_at hl 1 rfl) ?_
    refine lv_iload hx hb dL_law_719 (lv_at hl 5 rfl) ?_
    refine lv_iconst (v := 2) hx hb dL_law_721 (by decide) ?_
    refine zn_add (i := i) (j := 2) hx hb dL_law_722 ?_
    refine z_sld (k := i + 2) (v := xs (i + 2)) hx hb hXs hbl hbA hS (by omega) (by omega) rfl dL_law_723 ?_
    refine lv_if_eq (x := xs (i + 2)) (tgt := 731) hx hb dL_law_724 (by decide) (fun c724 => ?_) (fun c724 => ?_)
    · skip
      refine lv_iconst (v := 0) hx hb dL_law_731 (by decide) ?_
      refine z_top (show (0 : Int32) = bI on by rw [e2, decide_eq_true c697]; rfl) ?_
      refine z_backTi (wa := (wX cI cZ h lev tm gn nL nC nE L B C E ++ [(qo, .inl (cJ, 1, .inr (.inl o)))])) (w := (wM cI cZ g cd lev tm gn nL nC nE L B C F ys ao)) (z_runVT (wa := (wX cI cZ h lev tm gn nL nC nE L B C E ++ [(qo, .inl (cJ, 1, .inr (.inl o)))])) (w := (wM cI cZ g cd lev tm gn nL nC nE L B C F ys ao)) (n := 2) (As := [.int (nI k), .int (bI on)]) (ci := 5) (rest := []) hx hb hml hown hts hK hE hP hD (tX4_reserved_n2 l D cI cZ cJ g cd lev tm gn nL nC nE L B C F ys ao k m_hk m_hL m_hC on m_hno _) gL_law_X4_reserved rfl rfl rfl (by decide +kernel) ⟨Nat.le_of_ble_eq_true rfl, Nat.le_of_ble_eq_true rfl⟩ rfl rfl rfl hl.1 rfl (Nat.le_of_ble_eq_true rfl) dL_law_732 hroom) hP hD hS hA (fun r2 w1 H locs hp2 hP hD hS => ?_)
      obtain ⟨rfl, rfl⟩ := hp2
      have hP : va_P D vwCl ((wX cI cZ h lev tm gn nL nC nE L B C E ++ [(qo, .inl (cJ, 1, .inr (.inl o)))]) ++ (wM cI cZ g 2 lev tm gn nL nC nE L B C F ys ao)) H := hP
      have hD : va_D A ((wX cI cZ h lev tm gn nL nC nE L B C E ++ [(qo, .inl (cJ, 1, .inr (.inl o)))]) ++ (wM cI cZ g 2 lev tm gn nL nC nE L B C F ys ao)) := hD
      refine lv_istore (lv' := [(6, .int 0), (5, .int 2), (0, .ref sb), (1, .ref (h 0)), (2, .ref (g 0)), (3, .ref qo), (4, .int (nI i))]) hx hb dL_law_735 hl (by decide) rfl (fun ls hl => ?_)
      refine lv_aload_n hx hb dL_law_737 rfl (lv_at hl 4 rfl) ?_
      refine z_backTi (wa := (wX cI cZ h lev tm gn nL nC nE L B C E ++ [(qo, .inl (cJ, 1, .inr (.inl o)))])) (w := (wM cI cZ g 2 lev tm gn nL nC nE L B C F ys ao)) (z_runVT (wa := (wX cI cZ h lev tm gn nL nC nE L B C E ++ [(qo, .inl (cJ, 1, .inr (.inl o)))])) (w := (wM cI cZ g 2 lev tm gn nL nC nE L B C F ys ao)) (n := 0) (As := []) (ci := 5) (rest := []) hx hb hml hown hts hK hE hP hD (tX4_thrown l D cI cZ cJ g 2 lev tm gn nL nC nE L B C F ys ao _) gL_law_X4_thrown rfl rfl rfl (by decide +kernel) ⟨Nat.le_of_ble_eq_true rfl, Nat.le_of_ble_eq_true rfl⟩ rfl rfl rfl hl.1 rfl (Nat.le_of_ble_eq_true rfl) dL_law_738 hroom) hP hD hS hA (fun r3 w1 H locs hp3 hP hD hS => ?_)
      obtain ⟨rfl, rfl⟩ := hp3
      have hP : va_P D vwCl ((wX cI cZ h lev tm gn nL nC nE L B C E ++ [(qo, .inl (cJ, 1, .inr (.inl o)))]) ++ (wM cI cZ g 2 lev tm gn nL nC nE L B C F ys ao)) H := hP
      have hD : va_D A ((wX cI cZ h lev tm gn nL nC nE L B C E ++ [(qo, .inl (cJ, 1, .inr (.inl o)))]) ++ (wM cI cZ g 2 lev tm gn nL nC nE L B C F ys ao)) := hD
      refine lv_iload hx hb dL_law_741 (lv_at hl 1 rfl) ?_
      refine zn_eq (i := 2) (j := 2) (tgt := 748) hx hb (by omega) (by omega) dL_law_743 (by decide) (fun c743 => ?_) (fun c743 => ?_)
      · skip
        refine lv_iload hx hb dL_law_748 (lv_at hl 1 rfl) ?_
        refine lv_if_ne (x := 2) (tgt := 765) hx hb dL_law_750 (by decide) (fun c750 => ?_) (fun c750 => ?_)
        · skip
          refine lv_goto (tgt := 1117) hx hb dL_law_765 (by decide) ?_
          exact kk H locs ls (lv_sub hl [2, 3, 4, 5, 6] rfl) hP hD hS
        · exact absurd c750 (by decide)
      · exact absurd c743 (by omega)
    · exact absurd c697 c724
  · skip
    refine lv_iconst (v := 1) hx hb dL_law_700 (by decide) ?_
    refine lv_goto (tgt := 705) hx hb dL_law_701 (by decide) ?_
    refine z_top (show (1 : Int32) = bI on by rw [e2, decide_eq_false c697]; rfl) ?_
    refine lv_aload_n hx hb dL_law_705 rfl (lv_at hl 3 rfl) ?_
    refine z_backSi (wa := []) (w := (wV cI cZ cJ h lev tm gn nL nC nE L B C E qo o)) (wb := (wM cI cZ g cd lev tm gn nL nC nE L B C F ys ao)) (z_runSL (wa := []) (w := (wV cI cZ cJ h lev tm gn nL nC nE L B C E qo o)) (wb := (wM cI cZ g cd lev tm gn nL nC nE L B C F ys ao)) (n := 4) (As := [.ref (h 0), .int (nI k), .int (bI on), .ref qo]) (rest := []) hx hb hml hown hts hK hE hX hN hS hA hP hD (tL_reserved_xb l D cI cZ cJ h lev tm gn nL nC nE L B C E k hk hL hC on hno qo o sa hl9 _) gL_law_L_reserved rfl rfl rfl (by decide +kernel) ⟨Nat.le_of_ble_eq_true rfl, Nat.le_of_ble_eq_true rfl⟩ rfl hl.1 rfl (Nat.le_of_ble_eq_true rfl) dL_law_706 hroom) hP hD hS hA (fun r4 w1 H locs hp4 hP hD hS => ?_)
    obtain ⟨rfl, rfl⟩ := hp4
    have hP : va_P D vwCl ((wX cI cZ h lev tm gn nL nC nE L B C E ++ [(qo, .inl (cJ, 1, .inr (.inl o)))]) ++ (wM cI cZ g cd lev tm gn nL nC nE L B C F ys ao)) H := hP
    have hD : va_D A ((wX cI cZ h lev tm gn nL nC nE L B C E ++ [(qo, .inl (cJ, 1, .inr (.inl o)))]) ++ (wM cI cZ g cd lev tm gn nL nC nE L B C F ys ao)) := hD
    refine lv_istore (lv' := [(5, .int 2), (0, .ref sb), (1, .ref (h 0)), (2, .ref (g 0)), (3, .ref qo), (4, .int (nI i))]) hx hb dL_law_709 hl (by decide) rfl (fun ls hl => ?_)
    refine lv_aload_n hx hb dL_law_711 rfl (lv_at hl 3 rfl) ?_
    refine lv_aload_n hx hb dL_law_712 rfl (lv_at hl 1 rfl) ?_
    refine lv_iload hx hb dL_law_713 (lv_at hl 5 rfl) ?_
    refine lv_iconst (v := 1) hx hb dL_law_715 (by decide) ?_
    refine zn_add (i := i) (j := 1) hx hb dL_law_716 ?_
    refine z_sld (k := i + 1) (v := nI k) hx hb hXs hbl hbA hS (by omega) (by omega) e1 dL_law_717 ?_
    refine lv_aload_n hx hb dL_law_718 rfl (lv_at hl 1 rfl) ?_
    refine lv_iload hx hb dL_law_719 (lv_at hl 5 rfl) ?_
    refine lv_iconst (v := 2) hx hb dL_law_721 (by decide) ?_
    refine zn_add (i := i) (j := 2) hx hb dL_law_722 ?_
    refine z_sld (k := i + 2) (v := xs (i + 2)) hx hb hXs hbl hbA hS (by omega) (by omega) rfl dL_law_723 ?_
    refine lv_if_eq (x := xs (i + 2)) (tgt := 731) hx hb dL_law_724 (by decide) (fun c724 => ?_) (fun c724 => ?_)
    · exact absurd c724 c697
    · skip
      refine lv_iconst (v := 1) hx hb dL_law_727 (by decide) ?_
      refine lv_goto (tgt := 732) hx hb dL_law_728 (by decide) ?_
      refine z_top (show (1 : Int32) = bI on by rw [e2, decide_eq_false c697]; rfl) ?_
      refine z_backTi (wa := (wX cI cZ h lev tm gn nL nC nE L B C E ++ [(qo, .inl (cJ, 1, .inr (.inl o)))])) (w := (wM cI cZ g cd lev tm gn nL nC nE L B C F ys ao)) (z_runVT (wa := (wX cI cZ h lev tm gn nL nC nE L B C E ++ [(qo, .inl (cJ, 1, .inr (.inl o)))])) (w := (wM cI cZ g cd lev tm gn nL nC nE L B C F ys ao)) (n := 2) (As := [.int (nI k), .int (bI on)]) (ci := 5) (rest := []) hx hb hml hown hts hK hE hP hD (tX4_reserved_n2 l D cI cZ cJ g cd lev tm gn nL nC nE L B C F ys ao k m_hk m_hL m_hC on m_hno _) gL_law_X4_reserved rfl rfl rfl (by decide +kernel) ⟨Nat.le_of_ble_eq_true rfl, Nat.le_of_ble_eq_true rfl⟩ rfl rfl rfl hl.1 rfl (Nat.le_of_ble_eq_true rfl) dL_law_732 hroom) hP hD hS hA (fun r5 w1 H locs hp5 hP hD hS => ?_)
      obtain ⟨rfl, rfl⟩ := hp5
      have hP : va_P D vwCl ((wX cI cZ h lev tm gn nL nC nE L B C E ++ [(qo, .inl (cJ, 1, .inr (.inl o)))]) ++ (wM cI cZ g 2 lev tm gn nL nC nE L B C F ys ao)) H := hP
      have hD : va_D A ((wX cI cZ h lev tm gn nL nC nE L B C E ++ [(qo, .inl (cJ, 1, .inr (.inl o)))]) ++ (wM cI cZ g 2 lev tm gn nL nC nE L B C F ys ao)) := hD
      refine lv_istore (lv' := [(6, .int 0), (5, .int 2), (0, .ref sb), (1, .ref (h 0)), (2, .ref (g 0)), (3, .ref qo), (4, .int (nI i))]) hx hb dL_law_735 hl (by decide) rfl (fun ls hl => ?_)
      refine lv_aload_n hx hb dL_law_737 rfl (lv_at hl 4 rfl) ?_
      refine z_backTi (wa := (wX cI cZ h lev tm gn nL nC nE L B C E ++ [(qo, .inl (cJ, 1, .inr (.inl o)))])) (w := (wM cI cZ g 2 lev tm gn nL nC nE L B C F ys ao)) (z_runVT (wa := (wX cI cZ h lev tm gn nL nC nE L B C E ++ [(qo, .inl (cJ, 1, .inr (.inl o)))])) (w := (wM cI cZ g 2 lev tm gn nL nC nE L B C F ys ao)) (n := 0) (As := []) (ci := 5) (rest := []) hx hb hml hown hts hK hE hP hD (tX4_thrown l D cI cZ cJ g 2 lev tm gn nL nC nE L B C F ys ao _) gL_law_X4_thrown rfl rfl rfl (by decide +kernel) ⟨Nat.le_of_ble_eq_true rfl, Nat.le_of_ble_eq_true rfl⟩ rfl rfl rfl hl.1 rfl (Nat.le_of_ble_eq_true rfl) dL_law_738 hroom) hP hD hS hA (fun r6 w1 H locs hp6 hP hD hS => ?_)
      obtain ⟨rfl, rfl⟩ := hp6
      have hP : va_P D vwCl ((wX cI cZ h lev tm gn nL nC nE L B C E ++ [(qo, .inl (cJ, 1, .inr (.inl o)))]) ++ (wM cI cZ g 2 lev tm gn nL nC nE L B C F ys ao)) H := hP
      have hD : va_D A ((wX cI cZ h lev tm gn nL nC nE L B C E ++ [(qo, .inl (cJ, 1, .inr (.inl o)))]) ++ (wM cI cZ g 2 lev tm gn nL nC nE L B C F ys ao)) := hD
      refine lv_iload hx hb dL_law_741 (lv_at hl 1 rfl) ?_
      refine zn_eq (i := 2) (j := 2) (tgt := 748) hx hb (by omega) (by omega) dL_law_743 (by decide) (fun c743 => ?_) (fun c743 => ?_)
      · skip
        refine lv_iload hx hb dL_law_748 (lv_at hl 1 rfl) ?_
        refine lv_if_ne (x := 2) (tgt := 765) hx hb dL_law_750 (by decide) (fun c750 => ?_) (fun c750 => ?_)
        · skip
          refine lv_goto (tgt := 1117) hx hb dL_law_765 (by decide) ?_
          exact kk H locs ls (lv_sub hl [2, 3, 4, 5, 6] rfl) hP hD hS
        · exact absurd c750 (by decide)
      · exact absurd c743 (by omega)


set_option maxHeartbeats 4000000 in
set_option maxRecDepth 100000 in
theorem law_served_ok {p : Program} {l : Launch} {e : Env} {s : State} {m : MethodId} {below : List Frame} {meth : Method} {c : Code} {Q : State → Prop} {sb Ln : Nat} {xs : Nat → Int32} {D : va_G} {cI cZ cJ : ClassId} {A : Nat → Prop} {sa : Nat → Nat} (cx : zCx p l s m meth c sb Ln xs D cI cZ cJ A sa) (h g : Nat → Nat) (lev tm : Nat) (gn : Int32) (nL nC nE : Nat) (L B C E F : Nat → Nat → Int32) (qo : Nat) (o : Nat → Int64) (cd : Int32) (ys ao : Nat → Int32) (i : Nat) (hi : i + 5 ≤ Ln) (k : Nat) (hk : k < nC) (hL : nL ≤ 4) (hC : nC ≤ 24) (m_hk : k < nC) (m_hC : nC ≤ 24) (e1 : xs (i + 1) = nI k) (hr : C 8 k = C 8 k) {H : Heap} {locs : List Loc} {cells slots : Nat} {ls : Array Slot} (hl : lv_has ls 7 [(0, .ref sb), (1, .ref (h 0)), (2, .ref (g 0)), (3, .ref qo), (4, .int (nI i))]) (hP : va_P D vwCl (wV cI cZ cJ h lev tm gn nL nC nE L B C E qo o ++ wM cI cZ g cd lev tm gn nL nC nE L B C F ys ao) H) (hD : va_D A (wV cI cZ cJ h lev tm gn nL nC nE L B C E qo o ++ wM cI cZ g cd lev tm gn nL nC nE L B C F ys ao)) (hS : va_S A s.heap H locs) (hroom : cells + 1 ≤ room_1.cells ∧ slots + 6 ≤ room_1.slots) (kk : ∀ (H1 : Heap) (locs1 : List Loc) (ls1 : Array Slot), lv_has ls1 7 [(0, .ref sb), (1, .ref (h 0)), (2, .ref (g 0)), (3, .ref qo), (4, .int (nI i))] → va_P D vwCl (wX cI cZ h lev tm gn nL nC nE L B C E ++ [(qo, .inl (cJ, 1, .inr (.inl (vp_updL o 0 (C 8 k).toInt64))))] ++ wM cI cZ g 0 lev tm gn nL nC nE L B C F ys ao) H1 → va_D A (wX cI cZ h lev tm gn nL nC nE L B C E ++ [(qo, .inl (cJ, 1, .inr (.inl (vp_updL o 0 (C 8 k).toInt64))))] ++ wM cI cZ g 0 lev tm gn nL nC nE L B C F ys ao) → va_S A s.heap H1 locs1 → W p l e room_1 s m #[Value.ref sb] below meth c H1 locs1 (cells + 1) (slots + 6) Q (F0 m 1117 ls1 []))  : W p l e room_1 s m #[Value.ref sb] below meth c H locs cells slots Q (F0 m 781 ls []) := by
  obtain ⟨hx, hb, hr9, hml, hlocks, hown, htsO, hK, hE, hX, hN, hA, hXs, hbl, hbA, hl9, hLn⟩ := cx
  have hts : ∀ w ∈ wsL_law, w.before #[Value.ref sb] s = true := fun w h9 => htsO w (lawO_l h9)
  refine lv_aload_n hx hb dL_law_781 rfl (lv_at hl 1 rfl) ?_
  refine lv_aload_n hx hb dL_law_782 rfl (lv_at hl 0 rfl) ?_
  refine lv_iload hx hb dL_law_783 (lv_at hl 4 rfl) ?_
  refine lv_iconst (v := 1) hx hb dL_law_785 (by decide) ?_
  refine zn_add (i := i) (j := 1) hx hb dL_law_786 ?_
  refine z_sld (k := i + 1) (v := nI k) hx hb hXs hbl hbA hS (by omega) (by omega) e1 dL_law_787 ?_
  refine lv_aload_n hx hb dL_law_788 rfl (lv_at hl 3 rfl) ?_
  refine z_backSi (wa := []) (w := (wV cI cZ cJ h lev tm gn nL nC nE L B C E qo o)) (wb := (wM cI cZ g cd lev tm gn nL nC nE L B C F ys ao)) (z_runSL (wa := []) (w := (wV cI cZ cJ h lev tm gn nL nC nE L B C E qo o)) (wb := (wM cI cZ g cd lev tm gn nL nC nE L B C F ys ao)) (n := 3) (As := [.ref (h 0), .int (nI k), .ref qo]) (rest := []) hx hb hml hown hts hK hE hX hN hS hA hP hD (tL_served_ok l D cI cZ cJ h lev tm gn nL nC nE L B C E k hk hL hC qo o sa _) gL_law_L_served rfl rfl rfl (by decide +kernel) ⟨Nat.le_of_ble_eq_true rfl, Nat.le_of_ble_eq_true rfl⟩ rfl hl.1 rfl (Nat.le_of_ble_eq_true rfl) dL_law_789 hroom) hP hD hS hA (fun r1 w1 H locs hp1 hP hD hS => ?_)
  obtain ⟨rfl, rfl⟩ := hp1
  have hP : va_P D vwCl ((wX cI cZ h lev tm gn nL nC nE L B C E ++ [(qo, .inl (cJ, 1, .inr (.inl (vp_updL o 0 (C 8 k).toInt64))))]) ++ (wM cI cZ g cd lev tm gn nL nC nE L B C F ys ao)) H := hP
  have hD : va_D A ((wX cI cZ h lev tm gn nL nC nE L B C E ++ [(qo, .inl (cJ, 1, .inr (.inl (vp_updL o 0 (C 8 k).toInt64))))]) ++ (wM cI cZ g cd lev tm gn nL nC nE L B C F ys ao)) := hD
  refine lv_istore (lv' := [(5, .int 0), (0, .ref sb), (1, .ref (h 0)), (2, .ref (g 0)), (3, .ref qo), (4, .int (nI i))]) hx hb dL_law_792 hl (by decide) rfl (fun ls hl => ?_)
  refine lv_aload_n hx hb dL_law_794 rfl (lv_at hl 3 rfl) ?_
  refine lv_aload_n hx hb dL_law_795 rfl (lv_at hl 1 rfl) ?_
  refine lv_iload hx hb dL_law_796 (lv_at hl 5 rfl) ?_
  refine lv_iconst (v := 1) hx hb dL_law_798 (by decide) ?_
  refine zn_add (i := i) (j := 1) hx hb dL_law_799 ?_
  refine z_sld (k := i + 1) (v := nI k) hx hb hXs hbl hbA hS (by omega) (by omega) e1 dL_law_800 ?_
  refine z_backTi (wa := (wX cI cZ h lev tm gn nL nC nE L B C E ++ [(qo, .inl (cJ, 1, .inr (.inl (vp_updL o 0 (C 8 k).toInt64))))])) (w := (wM cI cZ g cd lev tm gn nL nC nE L B C F ys ao)) (z_runVT (wa := (wX cI cZ h lev tm gn nL nC nE L B C E ++ [(qo, .inl (cJ, 1, .inr (.inl (vp_updL o 0 (C 8 k).toInt64))))])) (w := (wM cI cZ g cd lev tm gn nL nC nE L B C F ys ao)) (n := 1) (As := [.int (nI k)]) (ci := 5) (rest := []) hx hb hml hown hts hK hE hP hD (tX4_served_ok l D cI cZ cJ g cd lev tm gn nL nC nE L B C F ys ao k m_hk m_hC _) gL_law_X4_served rfl rfl rfl (by decide +kernel) ⟨Nat.le_of_ble_eq_true rfl, Nat.le_of_ble_eq_true rfl⟩ rfl rfl rfl hl.1 rfl (Nat.le_of_ble_eq_true rfl) dL_law_801 hroom) hP hD hS hA (fun r2 w1 H locs hp2 hP hD hS => ?_)
  obtain ⟨rfl, rfl⟩ := hp2
  have hP : va_P D vwCl ((wX cI cZ h lev tm gn nL nC nE L B C E ++ [(qo, .inl (cJ, 1, .inr (.inl (vp_updL o 0 (C 8 k).toInt64))))]) ++ (wM cI cZ g 0 lev tm gn nL nC nE L B C F ys ao)) H := hP
  have hD : va_D A ((wX cI cZ h lev tm gn nL nC nE L B C E ++ [(qo, .inl (cJ, 1, .inr (.inl (vp_updL o 0 (C 8 k).toInt64))))]) ++ (wM cI cZ g 0 lev tm gn nL nC nE L B C F ys ao)) := hD
  refine lv_istore (lv' := [(6, .int (C 8 k)), (5, .int 0), (0, .ref sb), (1, .ref (h 0)), (2, .ref (g 0)), (3, .ref qo), (4, .int (nI i))]) hx hb dL_law_804 hl (by decide) rfl (fun ls hl => ?_)
  refine lv_aload_n hx hb dL_law_806 rfl (lv_at hl 4 rfl) ?_
  refine z_backTi (wa := (wX cI cZ h lev tm gn nL nC nE L B C E ++ [(qo, .inl (cJ, 1, .inr (.inl (vp_updL o 0 (C 8 k).toInt64))))])) (w := (wM cI cZ g 0 lev tm gn nL nC nE L B C F ys ao)) (z_runVT (wa := (wX cI cZ h lev tm gn nL nC nE L B C E ++ [(qo, .inl (cJ, 1, .inr (.inl (vp_updL o 0 (C 8 k).toInt64))))])) (w := (wM cI cZ g 0 lev tm gn nL nC nE L B C F ys ao)) (n := 0) (As := []) (ci := 5) (rest := []) hx hb hml hown hts hK hE hP hD (tX4_thrown l D cI cZ cJ g 0 lev tm gn nL nC nE L B C F ys ao _) gL_law_X4_thrown rfl rfl rfl (by decide +kernel) ⟨Nat.le_of_ble_eq_true rfl, Nat.le_of_ble_eq_true rfl⟩ rfl rfl rfl hl.1 rfl (Nat.le_of_ble_eq_true rfl) dL_law_807 hroom) hP hD hS hA (fun r3 w1 H locs hp3 hP hD hS => ?_)
  obtain ⟨rfl, rfl⟩ := hp3
  have hP : va_P D vwCl ((wX cI cZ h lev tm gn nL nC nE L B C E ++ [(qo, .inl (cJ, 1, .inr (.inl (vp_updL o 0 (C 8 k).toInt64))))]) ++ (wM cI cZ g 0 lev tm gn nL nC nE L B C F ys ao)) H := hP
  have hD : va_D A ((wX cI cZ h lev tm gn nL nC nE L B C E ++ [(qo, .inl (cJ, 1, .inr (.inl (vp_updL o 0 (C 8 k).toInt64))))]) ++ (wM cI cZ g 0 lev tm gn nL nC nE L B C F ys ao)) := hD
  refine lv_iload hx hb dL_law_810 (lv_at hl 1 rfl) ?_
  refine zn_eq (i := 0) (j := 0) (tgt := 817) hx hb (by omega) (by omega) dL_law_812 (by decide) (fun c812 => ?_) (fun c812 => ?_)
  · skip
    refine lv_iload hx hb dL_law_817 (lv_at hl 1 rfl) ?_
    refine lv_if_ne (x := 0) (tgt := 834) hx hb dL_law_819 (by decide) (fun c819 => ?_) (fun c819 => ?_)
    · exact absurd c819 (by decide)
    · skip
      refine lv_aload_n hx hb dL_law_822 rfl (lv_at hl 5 rfl) ?_
      refine lv_iconst (v := 0) hx hb dL_law_823 (by decide) ?_
      refine z_lald0 hx hb hK hP 24 rfl dL_law_824 ?_
      refine lv_iload hx hb dL_law_825 (lv_at hl 0 rfl) ?_
      refine lv_i2l (v := (C 8 k).toInt64) hx hb dL_law_827 rfl ?_
      refine W.lcmp (x := (vp_updL o 0 (C 8 k).toInt64) 0) (y := (C 8 k).toInt64) hx hb dL_law_828 ?_
      refine z_top (lg_eq hr) ?_
      refine lv_if_eq (x := 0) (tgt := 834) hx hb dL_law_829 (by decide) (fun c829 => ?_) (fun c829 => ?_)
      · skip
        refine lv_goto (tgt := 1117) hx hb dL_law_834 (by decide) ?_
        exact kk H locs ls (lv_sub hl [2, 3, 4, 5, 6] rfl) hP hD hS
      · exact absurd c829 (by decide)
  · exact absurd c812 (by omega)


set_option maxHeartbeats 4000000 in
set_option maxRecDepth 100000 in
theorem law_served_xa {p : Program} {l : Launch} {e : Env} {s : State} {m : MethodId} {below : List Frame} {meth : Method} {c : Code} {Q : State → Prop} {sb Ln : Nat} {xs : Nat → Int32} {D : va_G} {cI cZ cJ : ClassId} {A : Nat → Prop} {sa : Nat → Nat} (cx : zCx p l s m meth c sb Ln xs D cI cZ cJ A sa) (h g : Nat → Nat) (lev tm : Nat) (gn : Int32) (nL nC nE : Nat) (L B C E F : Nat → Nat → Int32) (qo : Nat) (o : Nat → Int64) (cd : Int32) (ys ao : Nat → Int32) (i : Nat) (hi : i + 5 ≤ Ln) (v : Int32) (hno : inB v 0 (nI nC - 1) = false) (hL : nL ≤ 4) (hC : nC ≤ 24) (m_hno : inB v 0 (nI nC - 1) = false) (e1 : xs (i + 1) = v) {H : Heap} {locs : List Loc} {cells slots : Nat} {ls : Array Slot} (hl : lv_has ls 7 [(0, .ref sb), (1, .ref (h 0)), (2, .ref (g 0)), (3, .ref qo), (4, .int (nI i))]) (hP : va_P D vwCl (wV cI cZ cJ h lev tm gn nL nC nE L B C E qo o ++ wM cI cZ g cd lev tm gn nL nC nE L B C F ys ao) H) (hD : va_D A (wV cI cZ cJ h lev tm gn nL nC nE L B C E qo o ++ wM cI cZ g cd lev tm gn nL nC nE L B C F ys ao)) (hS : va_S A s.heap H locs) (hroom : cells + 1 ≤ room_1.cells ∧ slots + 6 ≤ room_1.slots) (kk : ∀ (H1 : Heap) (locs1 : List Loc) (ls1 : Array Slot), lv_has ls1 7 [(0, .ref sb), (1, .ref (h 0)), (2, .ref (g 0)), (3, .ref qo), (4, .int (nI i))] → va_P D vwCl (wX cI cZ h lev tm gn nL nC nE L B C E ++ [(qo, .inl (cJ, 1, .inr (.inl o)))] ++ wM cI cZ g 1 lev tm gn nL nC nE L B C F ys ao) H1 → va_D A (wX cI cZ h lev tm gn nL nC nE L B C E ++ [(qo, .inl (cJ, 1, .inr (.inl o)))] ++ wM cI cZ g 1 lev tm gn nL nC nE L B C F ys ao) → va_S A s.heap H1 locs1 → W p l e room_1 s m #[Value.ref sb] below meth c H1 locs1 (cells + 1) (slots + 6) Q (F0 m 1117 ls1 []))  : W p l e room_1 s m #[Value.ref sb] below meth c H locs cells slots Q (F0 m 781 ls []) := by
  obtain ⟨hx, hb, hr9, hml, hlocks, hown, htsO, hK, hE, hX, hN, hA, hXs, hbl, hbA, hl9, hLn⟩ := cx
  have hts : ∀ w ∈ wsL_law, w.before #[Value.ref sb] s = true := fun w h9 => htsO w (lawO_l h9)
  refine lv_aload_n hx hb dL_law_781 rfl (lv_at hl 1 rfl) ?_
  refine lv_aload_n hx hb dL_law_782 rfl (lv_at hl 0 rfl) ?_
  refine lv_iload hx hb dL_law_783 (lv_at hl 4 rfl) ?_
  refine lv_iconst (v := 1) hx hb dL_law_785 (by decide) ?_
  refine zn_add (i := i) (j := 1) hx hb dL_law_786 ?_
  refine z_sld (k := i + 1) (v := v) hx hb hXs hbl hbA hS (by omega) (by omega) e1 dL_law_787 ?_
  refine lv_aload_n hx hb dL_law_788 rfl (lv_at hl 3 rfl) ?_
  refine z_backSi (wa := []) (w := (wV cI cZ cJ h lev tm gn nL nC nE L B C E qo o)) (wb := (wM cI cZ g cd lev tm gn nL nC nE L B C F ys ao)) (z_runSL (wa := []) (w := (wV cI cZ cJ h lev tm gn nL nC nE L B C E qo o)) (wb := (wM cI cZ g cd lev tm gn nL nC nE L B C F ys ao)) (n := 3) (As := [.ref (h 0), .int v, .ref qo]) (rest := []) hx hb hml hown hts hK hE hX hN hS hA hP hD (tL_served_xa l D cI cZ cJ h lev tm gn nL nC nE L B C E v hno hL hC qo o sa hl9 _) gL_law_L_served rfl rfl rfl (by decide +kernel) ⟨Nat.le_of_ble_eq_true rfl, Nat.le_of_ble_eq_true rfl⟩ rfl hl.1 rfl (Nat.le_of_ble_eq_true rfl) dL_law_789 hroom) hP hD hS hA (fun r1 w1 H locs hp1 hP hD hS => ?_)
  obtain ⟨rfl, rfl⟩ := hp1
  have hP : va_P D vwCl ((wX cI cZ h lev tm gn nL nC nE L B C E ++ [(qo, .inl (cJ, 1, .inr (.inl o)))]) ++ (wM cI cZ g cd lev tm gn nL nC nE L B C F ys ao)) H := hP
  have hD : va_D A ((wX cI cZ h lev tm gn nL nC nE L B C E ++ [(qo, .inl (cJ, 1, .inr (.inl o)))]) ++ (wM cI cZ g cd lev tm gn nL nC nE L B C F ys ao)) := hD
  refine lv_istore (lv' := [(5, .int 1), (0, .ref sb), (1, .ref (h 0)), (2, .ref (g 0)), (3, .ref qo), (4, .int (nI i))]) hx hb dL_law_792 hl (by decide) rfl (fun ls hl => ?_)
  refine lv_aload_n hx hb dL_law_794 rfl (lv_at hl 3 rfl) ?_
  refine lv_aload_n hx hb dL_law_795 rfl (lv_at hl 1 rfl) ?_
  refine lv_iload hx hb dL_law_796 (lv_at hl 5 rfl) ?_
  refine lv_iconst (v := 1) hx hb dL_law_798 (by decide) ?_
  refine zn_add (i := i) (j := 1) hx hb dL_law_799 ?_
  refine z_sld (k := i + 1) (v := v) hx hb hXs hbl hbA hS (by omega) (by omega) e1 dL_law_800 ?_
  refine z_backTi (wa := (wX cI cZ h lev tm gn nL nC nE L B C E ++ [(qo, .inl (cJ, 1, .inr (.inl o)))])) (w := (wM cI cZ g cd lev tm gn nL nC nE L B C F ys ao)) (z_runVT (wa := (wX cI cZ h lev tm gn nL nC nE L B C E ++ [(qo, .inl (cJ, 1, .inr (.inl o)))])) (w := (wM cI cZ g cd lev tm gn nL nC nE L B C F ys ao)) (n := 1) (As := [.int v]) (ci := 5) (rest := []) hx hb hml hown hts hK hE hP hD (tX4_served_no l D cI cZ cJ g cd lev tm gn nL nC nE L B C F ys ao v m_hno _) gL_law_X4_served rfl rfl rfl (by decide +kernel) ⟨Nat.le_of_ble_eq_true rfl, Nat.le_of_ble_eq_true rfl⟩ rfl rfl rfl hl.1 rfl (Nat.le_of_ble_eq_true rfl) dL_law_801 hroom) hP hD hS hA (fun r2 w1 H locs hp2 hP hD hS => ?_)
  obtain ⟨rfl, rfl⟩ := hp2
  have hP : va_P D vwCl ((wX cI cZ h lev tm gn nL nC nE L B C E ++ [(qo, .inl (cJ, 1, .inr (.inl o)))]) ++ (wM cI cZ g 1 lev tm gn nL nC nE L B C F ys ao)) H := hP
  have hD : va_D A ((wX cI cZ h lev tm gn nL nC nE L B C E ++ [(qo, .inl (cJ, 1, .inr (.inl o)))]) ++ (wM cI cZ g 1 lev tm gn nL nC nE L B C F ys ao)) := hD
  refine lv_istore (lv' := [(6, .int 0), (5, .int 1), (0, .ref sb), (1, .ref (h 0)), (2, .ref (g 0)), (3, .ref qo), (4, .int (nI i))]) hx hb dL_law_804 hl (by decide) rfl (fun ls hl => ?_)
  refine lv_aload_n hx hb dL_law_806 rfl (lv_at hl 4 rfl) ?_
  refine z_backTi (wa := (wX cI cZ h lev tm gn nL nC nE L B C E ++ [(qo, .inl (cJ, 1, .inr (.inl o)))])) (w := (wM cI cZ g 1 lev tm gn nL nC nE L B C F ys ao)) (z_runVT (wa := (wX cI cZ h lev tm gn nL nC nE L B C E ++ [(qo, .inl (cJ, 1, .inr (.inl o)))])) (w := (wM cI cZ g 1 lev tm gn nL nC nE L B C F ys ao)) (n := 0) (As := []) (ci := 5) (rest := []) hx hb hml hown hts hK hE hP hD (tX4_thrown l D cI cZ cJ g 1 lev tm gn nL nC nE L B C F ys ao _) gL_law_X4_thrown rfl rfl rfl (by decide +kernel) ⟨Nat.le_of_ble_eq_true rfl, Nat.le_of_ble_eq_true rfl⟩ rfl rfl rfl hl.1 rfl (Nat.le_of_ble_eq_true rfl) dL_law_807 hroom) hP hD hS hA (fun r3 w1 H locs hp3 hP hD hS => ?_)
  obtain ⟨rfl, rfl⟩ := hp3
  have hP : va_P D vwCl ((wX cI cZ h lev tm gn nL nC nE L B C E ++ [(qo, .inl (cJ, 1, .inr (.inl o)))]) ++ (wM cI cZ g 1 lev tm gn nL nC nE L B C F ys ao)) H := hP
  have hD : va_D A ((wX cI cZ h lev tm gn nL nC nE L B C E ++ [(qo, .inl (cJ, 1, .inr (.inl o)))]) ++ (wM cI cZ g 1 lev tm gn nL nC nE L B C F ys ao)) := hD
  refine lv_iload hx hb dL_law_810 (lv_at hl 1 rfl) ?_
  refine zn_eq (i := 1) (j := 1) (tgt := 817) hx hb (by omega) (by omega) dL_law_812 (by decide) (fun c812 => ?_) (fun c812 => ?_)
  · skip
    refine lv_iload hx hb dL_law_817 (lv_at hl 1 rfl) ?_
    refine lv_if_ne (x := 1) (tgt := 834) hx hb dL_law_819 (by decide) (fun c819 => ?_) (fun c819 => ?_)
    · skip
      refine lv_goto (tgt := 1117) hx hb dL_law_834 (by decide) ?_
      exact kk H locs ls (lv_sub hl [2, 3, 4, 5, 6] rfl) hP hD hS
    · exact absurd c819 (by decide)
  · exact absurd c812 (by omega)


set_option maxHeartbeats 4000000 in
set_option maxRecDepth 100000 in
theorem law_waits_ok {p : Program} {l : Launch} {e : Env} {s : State} {m : MethodId} {below : List Frame} {meth : Method} {c : Code} {Q : State → Prop} {sb Ln : Nat} {xs : Nat → Int32} {D : va_G} {cI cZ cJ : ClassId} {A : Nat → Prop} {sa : Nat → Nat} (cx : zCx p l s m meth c sb Ln xs D cI cZ cJ A sa) (h g : Nat → Nat) (lev tm : Nat) (gn : Int32) (nL nC nE : Nat) (L B C E F : Nat → Nat → Int32) (qo : Nat) (o : Nat → Int64) (cd : Int32) (ys ao : Nat → Int32) (i : Nat) (hi : i + 5 ≤ Ln) (k : Nat) (hk : k < nC) (hL : nL ≤ 4) (hC : nC ≤ 24) (m_hk : k < nC) (m_hC : nC ≤ 24) (e1 : xs (i + 1) = nI k) (hr : (if C 4 k = 0 then nI tm else C 7 k) - C 6 k = (if C 7 k = -1 then nI tm else C 7 k) - C 6 k) {H : Heap} {locs : List Loc} {cells slots : Nat} {ls : Array Slot} (hl : lv_has ls 7 [(0, .ref sb), (1, .ref (h 0)), (2, .ref (g 0)), (3, .ref qo), (4, .int (nI i))]) (hP : va_P D vwCl (wV cI cZ cJ h lev tm gn nL nC nE L B C E qo o ++ wM cI cZ g cd lev tm gn nL nC nE L B C F ys ao) H) (hD : va_D A (wV cI cZ cJ h lev tm gn nL nC nE L B C E qo o ++ wM cI cZ g cd lev tm gn nL nC nE L B C F ys ao)) (hS : va_S A s.heap H locs) (hroom : cells + 1 ≤ room_1.cells ∧ slots + 6 ≤ room_1.slots) (kk : ∀ (H1 : Heap) (locs1 : List Loc) (ls1 : Array Slot), lv_has ls1 7 [(0, .ref sb), (1, .ref (h 0)), (2, .ref (g 0)), (3, .ref qo), (4, .int (nI i))] → va_P D vwCl (wX cI cZ h lev tm gn nL nC nE L B C E ++ [(qo, .inl (cJ, 1, .inr (.inl (vp_updL o 0 ((if C 4 k = 0 then nI tm else C 7 k) - C 6 k).toInt64))))] ++ wM cI cZ g 0 lev tm gn nL nC nE L B C F ys ao) H1 → va_D A (wX cI cZ h lev tm gn nL nC nE L B C E ++ [(qo, .inl (cJ, 1, .inr (.inl (vp_updL o 0 ((if C 4 k = 0 then nI tm else C 7 k) - C 6 k).toInt64))))] ++ wM cI cZ g 0 lev tm gn nL nC nE L B C F ys ao) → va_S A s.heap H1 locs1 → W p l e room_1 s m #[Value.ref sb] below meth c H1 locs1 (cells + 1) (slots + 6) Q (F0 m 1117 ls1 []))  : W p l e room_1 s m #[Value.ref sb] below meth c H locs cells slots Q (F0 m 837 ls []) := by
  obtain ⟨hx, hb, hr9, hml, hlocks, hown, htsO, hK, hE, hX, hN, hA, hXs, hbl, hbA, hl9, hLn⟩ := cx
  have hts : ∀ w ∈ wsL_law, w.before #[Value.ref sb] s = true := fun w h9 => htsO w (lawO_l h9)
  refine lv_aload_n hx hb dL_law_837 rfl (lv_at hl 1 rfl) ?_
  refine lv_aload_n hx hb dL_law_838 rfl (lv_at hl 0 rfl) ?_
  refine lv_iload hx hb dL_law_839 (lv_at hl 4 rfl) ?_
  refine lv_iconst (v := 1) hx hb dL_law_841 (by decide) ?_
  refine zn_add (i := i) (j := 1) hx hb dL_law_842 ?_
  refine z_sld (k := i + 1) (v := nI k) hx hb hXs hbl hbA hS (by omega) (by omega) e1 dL_law_843 ?_
  refine lv_aload_n hx hb dL_law_844 rfl (lv_at hl 3 rfl) ?_
  refine z_backSi (wa := []) (w := (wV cI cZ cJ h lev tm gn nL nC nE L B C E qo o)) (wb := (wM cI cZ g cd lev tm gn nL nC nE L B C F ys ao)) (z_runSL (wa := []) (w := (wV cI cZ cJ h lev tm gn nL nC nE L B C E qo o)) (wb := (wM cI cZ g cd lev tm gn nL nC nE L B C F ys ao)) (n := 3) (As := [.ref (h 0), .int (nI k), .ref qo]) (rest := []) hx hb hml hown hts hK hE hX hN hS hA hP hD (tL_waits_ok l D cI cZ cJ h lev tm gn nL nC nE L B C E k hk hL hC qo o sa _) gL_law_L_waits rfl rfl rfl (by decide +kernel) ⟨Nat.le_of_ble_eq_true rfl, Nat.le_of_ble_eq_true rfl⟩ rfl hl.1 rfl (Nat.le_of_ble_eq_true rfl) dL_law_845 hroom) hP hD hS hA (fun r1 w1 H locs hp1 hP hD hS => ?_)
  obtain ⟨rfl, rfl⟩ := hp1
  have hP : va_P D vwCl ((wX cI cZ h lev tm gn nL nC nE L B C E ++ [(qo, .inl (cJ, 1, .inr (.inl (vp_updL o 0 ((if C 4 k = 0 then nI tm else C 7 k) - C 6 k).toInt64))))]) ++ (wM cI cZ g cd lev tm gn nL nC nE L B C F ys ao)) H := hP
  have hD : va_D A ((wX cI cZ h lev tm gn nL nC nE L B C E ++ [(qo, .inl (cJ, 1, .inr (.inl (vp_updL o 0 ((if C 4 k = 0 then nI tm else C 7 k) - C 6 k).toInt64))))]) ++ (wM cI cZ g cd lev tm gn nL nC nE L B C F ys ao)) := hD
  refine lv_istore (lv' := [(5, .int 0), (0, .ref sb), (1, .ref (h 0)), (2, .ref (g 0)), (3, .ref qo), (4, .int (nI i))]) hx hb dL_law_848 hl (by decide) rfl (fun ls hl => ?_)
  refine lv_aload_n hx hb dL_law_850 rfl (lv_at hl 3 rfl) ?_
  refine lv_aload_n hx hb dL_law_851 rfl (lv_at hl 1 rfl) ?_
  refine lv_iload hx hb dL_law_852 (lv_at hl 5 rfl) ?_
  refine lv_iconst (v := 1) hx hb dL_law_854 (by decide) ?_
  refine zn_add (i := i) (j := 1) hx hb dL_law_855 ?_
  refine z_sld (k := i + 1) (v := nI k) hx hb hXs hbl hbA hS (by omega) (by omega) e1 dL_law_856 ?_
  refine z_backTi (wa := (wX cI cZ h lev tm gn nL nC nE L B C E ++ [(qo, .inl (cJ, 1, .inr (.inl (vp_updL o 0 ((if C 4 k = 0 then nI tm else C 7 k) - C 6 k).toInt64))))])) (w := (wM cI cZ g cd lev tm gn nL nC nE L B C F ys ao)) (z_runVT (wa := (wX cI cZ h lev tm gn nL nC nE L B C E ++ [(qo, .inl (cJ, 1, .inr (.inl (vp_updL o 0 ((if C 4 k = 0 then nI tm else C 7 k) - C 6 k).toInt64))))])) (w := (wM cI cZ g cd lev tm gn nL nC nE L B C F ys ao)) (n := 1) (As := [.int (nI k)]) (ci := 5) (rest := []) hx hb hml hown hts hK hE hP hD (tX4_waits_ok l D cI cZ cJ g cd lev tm gn nL nC nE L B C F ys ao k m_hk m_hC _) gL_law_X4_waits rfl rfl rfl (by decide +kernel) ⟨Nat.le_of_ble_eq_true rfl, Nat.le_of_ble_eq_true rfl⟩ rfl rfl rfl hl.1 rfl (Nat.le_of_ble_eq_true rfl) dL_law_857 hroom) hP hD hS hA (fun r2 w1 H locs hp2 hP hD hS => ?_)
  obtain ⟨rfl, rfl⟩ := hp2
  have hP : va_P D vwCl ((wX cI cZ h lev tm gn nL nC nE L B C E ++ [(qo, .inl (cJ, 1, .inr (.inl (vp_updL o 0 ((if C 4 k = 0 then nI tm else C 7 k) - C 6 k).toInt64))))]) ++ (wM cI cZ g 0 lev tm gn nL nC nE L B C F ys ao)) H := hP
  have hD : va_D A ((wX cI cZ h lev tm gn nL nC nE L B C E ++ [(qo, .inl (cJ, 1, .inr (.inl (vp_updL o 0 ((if C 4 k = 0 then nI tm else C 7 k) - C 6 k).toInt64))))]) ++ (wM cI cZ g 0 lev tm gn nL nC nE L B C F ys ao)) := hD
  refine lv_istore (lv' := [(6, .int ((if C 7 k = -1 then nI tm else C 7 k) - C 6 k)), (5, .int 0), (0, .ref sb), (1, .ref (h 0)), (2, .ref (g 0)), (3, .ref qo), (4, .int (nI i))]) hx hb dL_law_860 hl (by decide) rfl (fun ls hl => ?_)
  refine lv_aload_n hx hb dL_law_862 rfl (lv_at hl 4 rfl) ?_
  refine z_backTi (wa := (wX cI cZ h lev tm gn nL nC nE L B C E ++ [(qo, .inl (cJ, 1, .inr (.inl (vp_updL o 0 ((if C 4 k = 0 then nI tm else C 7 k) - C 6 k).toInt64))))])) (w := (wM cI cZ g 0 lev tm gn nL nC nE L B C F ys ao)) (z_runVT (wa := (wX cI cZ h lev tm gn nL nC nE L B C E ++ [(qo, .inl (cJ, 1, .inr (.inl (vp_updL o 0 ((if C 4 k = 0 then nI tm else C 7 k) - C 6 k).toInt64))))])) (w := (wM cI cZ g 0 lev tm gn nL nC nE L B C F ys ao)) (n := 0) (As := []) (ci := 5) (rest := []) hx hb hml hown hts hK hE hP hD (tX4_thrown l D cI cZ cJ g 0 lev tm gn nL nC nE L B C F ys ao _) gL_law_X4_thrown rfl rfl rfl (by decide +kernel) ⟨Nat.le_of_ble_eq_true rfl, Nat.le_of_ble_eq_true rfl⟩ rfl rfl rfl hl.1 rfl (Nat.le_of_ble_eq_true rfl) dL_law_863 hroom) hP hD hS hA (fun r3 w1 H locs hp3 hP hD hS => ?_)
  obtain ⟨rfl, rfl⟩ := hp3
  have hP : va_P D vwCl ((wX cI cZ h lev tm gn nL nC nE L B C E ++ [(qo, .inl (cJ, 1, .inr (.inl (vp_updL o 0 ((if C 4 k = 0 then nI tm else C 7 k) - C 6 k).toInt64))))]) ++ (wM cI cZ g 0 lev tm gn nL nC nE L B C F ys ao)) H := hP
  have hD : va_D A ((wX cI cZ h lev tm gn nL nC nE L B C E ++ [(qo, .inl (cJ, 1, .inr (.inl (vp_updL o 0 ((if C 4 k = 0 then nI tm else C 7 k) - C 6 k).toInt64))))]) ++ (wM cI cZ g 0 lev tm gn nL nC nE L B C F ys ao)) := hD
  refine lv_iload hx hb dL_law_866 (lv_at hl 1 rfl) ?_
  refine zn_eq (i := 0) (j := 0) (tgt := 873) hx hb (by omega) (by omega) dL_law_868 (by decide) (fun c868 => ?_) (fun c868 => ?_)
  · skip
    refine lv_iload hx hb dL_law_873 (lv_at hl 1 rfl) ?_
    refine lv_if_ne (x := 0) (tgt := 890) hx hb dL_law_875 (by decide) (fun c875 => ?_) (fun c875 => ?_)
    · exact absurd c875 (by decide)
    · skip
      refine lv_aload_n hx hb dL_law_878 rfl (lv_at hl 5 rfl) ?_
      refine lv_iconst (v := 0) hx hb dL_law_879 (by decide) ?_
      refine z_lald0 hx hb hK hP 24 rfl dL_law_880 ?_
      refine lv_iload hx hb dL_law_881 (lv_at hl 0 rfl) ?_
      refine lv_i2l (v := ((if C 7 k = -1 then nI tm else C 7 k) - C 6 k).toInt64) hx hb dL_law_883 rfl ?_
      refine W.lcmp (x := (vp_updL o 0 ((if C 4 k = 0 then nI tm else C 7 k) - C 6 k).toInt64) 0) (y := ((if C 7 k = -1 then nI tm else C 7 k) - C 6 k).toInt64) hx hb dL_law_884 ?_
      refine z_top (lg_eq hr) ?_
      refine lv_if_eq (x := 0) (tgt := 890) hx hb dL_law_885 (by decide) (fun c885 => ?_) (fun c885 => ?_)
      · skip
        refine lv_goto (tgt := 1117) hx hb dL_law_890 (by decide) ?_
        exact kk H locs ls (lv_sub hl [2, 3, 4, 5, 6] rfl) hP hD hS
      · exact absurd c885 (by decide)
  · exact absurd c868 (by omega)


set_option maxHeartbeats 4000000 in
set_option maxRecDepth 100000 in
theorem law_waits_xa {p : Program} {l : Launch} {e : Env} {s : State} {m : MethodId} {below : List Frame} {meth : Method} {c : Code} {Q : State → Prop} {sb Ln : Nat} {xs : Nat → Int32} {D : va_G} {cI cZ cJ : ClassId} {A : Nat → Prop} {sa : Nat → Nat} (cx : zCx p l s m meth c sb Ln xs D cI cZ cJ A sa) (h g : Nat → Nat) (lev tm : Nat) (gn : Int32) (nL nC nE : Nat) (L B C E F : Nat → Nat → Int32) (qo : Nat) (o : Nat → Int64) (cd : Int32) (ys ao : Nat → Int32) (i : Nat) (hi : i + 5 ≤ Ln) (v : Int32) (hno : inB v 0 (nI nC - 1) = false) (hL : nL ≤ 4) (hC : nC ≤ 24) (m_hno : inB v 0 (nI nC - 1) = false) (e1 : xs (i + 1) = v) {H : Heap} {locs : List Loc} {cells slots : Nat} {ls : Array Slot} (hl : lv_has ls 7 [(0, .ref sb), (1, .ref (h 0)), (2, .ref (g 0)), (3, .ref qo), (4, .int (nI i))]) (hP : va_P D vwCl (wV cI cZ cJ h lev tm gn nL nC nE L B C E qo o ++ wM cI cZ g cd lev tm gn nL nC nE L B C F ys ao) H) (hD : va_D A (wV cI cZ cJ h lev tm gn nL nC nE L B C E qo o ++ wM cI cZ g cd lev tm gn nL nC nE L B C F ys ao)) (hS : va_S A s.heap H locs) (hroom : cells + 1 ≤ room_1.cells ∧ slots + 6 ≤ room_1.slots) (kk : ∀ (H1 : Heap) (locs1 : List Loc) (ls1 : Array Slot), lv_has ls1 7 [(0, .ref sb), (1, .ref (h 0)), (2, .ref (g 0)), (3, .ref qo), (4, .int (nI i))] → va_P D vwCl (wX cI cZ h lev tm gn nL nC nE L B C E ++ [(qo, .inl (cJ, 1, .inr (.inl o)))] ++ wM cI cZ g 1 lev tm gn nL nC nE L B C F ys ao) H1 → va_D A (wX cI cZ h lev tm gn nL nC nE L B C E ++ [(qo, .inl (cJ, 1, .inr (.inl o)))] ++ wM cI cZ g 1 lev tm gn nL nC nE L B C F ys ao) → va_S A s.heap H1 locs1 → W p l e room_1 s m #[Value.ref sb] below meth c H1 locs1 (cells + 1) (slots + 6) Q (F0 m 1117 ls1 []))  : W p l e room_1 s m #[Value.ref sb] below meth c H locs cells slots Q (F0 m 837 ls []) := by
  obtain ⟨hx, hb, hr9, hml, hlocks, hown, htsO, hK, hE, hX, hN, hA, hXs, hbl, hbA, hl9, hLn⟩ := cx
  have hts : ∀ w ∈ wsL_law, w.before #[Value.ref sb] s = true := fun w h9 => htsO w (lawO_l h9)
  refine lv_aload_n hx hb dL_law_837 rfl (lv_at hl 1 rfl) ?_
  refine lv_aload_n hx hb dL_law_838 rfl (lv_at hl 0 rfl) ?_
  refine lv_iload hx hb dL_law_839 (lv_at hl 4 rfl) ?_
  refine lv_iconst (v := 1) hx hb dL_law_841 (by decide) ?_
  refine zn_add (i := i) (j := 1) hx hb dL_law_842 ?_
  refine z_sld (k := i + 1) (v := v) hx hb hXs hbl hbA hS (by omega) (by omega) e1 dL_law_843 ?_
  refine lv_aload_n hx hb dL_law_844 rfl (lv_at hl 3 rfl) ?_
  refine z_backSi (wa := []) (w := (wV cI cZ cJ h lev tm gn nL nC nE L B C E qo o)) (wb := (wM cI cZ g cd lev tm gn nL nC nE L B C F ys ao)) (z_runSL (wa := []) (w := (wV cI cZ cJ h lev tm gn nL nC nE L B C E qo o)) (wb := (wM cI cZ g cd lev tm gn nL nC nE L B C F ys ao)) (n := 3) (As := [.ref (h 0), .int v, .ref qo]) (rest := []) hx hb hml hown hts hK hE hX hN hS hA hP hD (tL_waits_xa l D cI cZ cJ h lev tm gn nL nC nE L B C E v hno hL hC qo o sa hl9 _) gL_law_L_waits rfl rfl rfl (by decide +kernel) ⟨Nat.le_of_ble_eq_true rfl, Nat.le_of_ble_eq_true rfl⟩ rfl hl.1 rfl (Nat.le_of_ble_eq_true rfl) dL_law_845 hroom) hP hD hS hA (fun r1 w1 H locs hp1 hP hD hS => ?_)
  obtain ⟨rfl, rfl⟩ := hp1
  have hP : va_P D vwCl ((wX cI cZ h lev tm gn nL nC nE L B C E ++ [(qo, .inl (cJ, 1, .inr (.inl o)))]) ++ (wM cI cZ g cd lev tm gn nL nC nE L B C F ys ao)) H := hP
  have hD : va_D A ((wX cI cZ h lev tm gn nL nC nE L B C E ++ [(qo, .inl (cJ, 1, .inr (.inl o)))]) ++ (wM cI cZ g cd lev tm gn nL nC nE L B C F ys ao)) := hD
  refine lv_istore (lv' := [(5, .int 1), (0, .ref sb), (1, .ref (h 0)), (2, .ref (g 0)), (3, .ref qo), (4, .int (nI i))]) hx hb dL_law_848 hl (by decide) rfl (fun ls hl => ?_)
  refine lv_aload_n hx hb dL_law_850 rfl (lv_at hl 3 rfl) ?_
  refine lv_aload_n hx hb dL_law_851 rfl (lv_at hl 1 rfl) ?_
  refine lv_iload hx hb dL_law_852 (lv_at hl 5 rfl) ?_
  refine lv_iconst (v := 1) hx hb dL_law_854 (by decide) ?_
  refine zn_add (i := i) (j := 1) hx hb dL_law_855 ?_
  refine z_sld (k := i + 1) (v := v) hx hb hXs hbl hbA hS (by omega) (by omega) e1 dL_law_856 ?_
  refine z_backTi (wa := (wX cI cZ h lev tm gn nL nC nE L B C E ++ [(qo, .inl (cJ, 1, .inr (.inl o)))])) (w := (wM cI cZ g cd lev tm gn nL nC nE L B C F ys ao)) (z_runVT (wa := (wX cI cZ h lev tm gn nL nC nE L B C E ++ [(qo, .inl (cJ, 1, .inr (.inl o)))])) (w := (wM cI cZ g cd lev tm gn nL nC nE L B C F ys ao)) (n := 1) (As := [.int v]) (ci := 5) (rest := []) hx hb hml hown hts hK hE hP hD (tX4_waits_no l D cI cZ cJ g cd lev tm gn nL nC nE L B C F ys ao v m_hno _) gL_law_X4_waits rfl rfl rfl (by decide +kernel) ⟨Nat.le_of_ble_eq_true rfl, Nat.le_of_ble_eq_true rfl⟩ rfl rfl rfl hl.1 rfl (Nat.le_of_ble_eq_true rfl) dL_law_857 hroom) hP hD hS hA (fun r2 w1 H locs hp2 hP hD hS => ?_)
  obtain ⟨rfl, rfl⟩ := hp2
  have hP : va_P D vwCl ((wX cI cZ h lev tm gn nL nC nE L B C E ++ [(qo, .inl (cJ, 1, .inr (.inl o)))]) ++ (wM cI cZ g 1 lev tm gn nL nC nE L B C F ys ao)) H := hP
  have hD : va_D A ((wX cI cZ h lev tm gn nL nC nE L B C E ++ [(qo, .inl (cJ, 1, .inr (.inl o)))]) ++ (wM cI cZ g 1 lev tm gn nL nC nE L B C F ys ao)) := hD
  refine lv_istore (lv' := [(6, .int 0), (5, .int 1), (0, .ref sb), (1, .ref (h 0)), (2, .ref (g 0)), (3, .ref qo), (4, .int (nI i))]) hx hb dL_law_860 hl (by decide) rfl (fun ls hl => ?_)
  refine lv_aload_n hx hb dL_law_862 rfl (lv_at hl 4 rfl) ?_
  refine z_backTi (wa := (wX cI cZ h lev tm gn nL nC nE L B C E ++ [(qo, .inl (cJ, 1, .inr (.inl o)))])) (w := (wM cI cZ g 1 lev tm gn nL nC nE L B C F ys ao)) (z_runVT (wa := (wX cI cZ h lev tm gn nL nC nE L B C E ++ [(qo, .inl (cJ, 1, .inr (.inl o)))])) (w := (wM cI cZ g 1 lev tm gn nL nC nE L B C F ys ao)) (n := 0) (As := []) (ci := 5) (rest := []) hx hb hml hown hts hK hE hP hD (tX4_thrown l D cI cZ cJ g 1 lev tm gn nL nC nE L B C F ys ao _) gL_law_X4_thrown rfl rfl rfl (by decide +kernel) ⟨Nat.le_of_ble_eq_true rfl, Nat.le_of_ble_eq_true rfl⟩ rfl rfl rfl hl.1 rfl (Nat.le_of_ble_eq_true rfl) dL_law_863 hroom) hP hD hS hA (fun r3 w1 H locs hp3 hP hD hS => ?_)
  obtain ⟨rfl, rfl⟩ := hp3
  have hP : va_P D vwCl ((wX cI cZ h lev tm gn nL nC nE L B C E ++ [(qo, .inl (cJ, 1, .inr (.inl o)))]) ++ (wM cI cZ g 1 lev tm gn nL nC nE L B C F ys ao)) H := hP
  have hD : va_D A ((wX cI cZ h lev tm gn nL nC nE L B C E ++ [(qo, .inl (cJ, 1, .inr (.inl o)))]) ++ (wM cI cZ g 1 lev tm gn nL nC nE L B C F ys ao)) := hD
  refine lv_iload hx hb dL_law_866 (lv_at hl 1 rfl) ?_
  refine zn_eq (i := 1) (j := 1) (tgt := 873) hx hb (by omega) (by omega) dL_law_868 (by decide) (fun c868 => ?_) (fun c868 => ?_)
  · skip
    refine lv_iload hx hb dL_law_873 (lv_at hl 1 rfl) ?_
    refine lv_if_ne (x := 1) (tgt := 890) hx hb dL_law_875 (by decide) (fun c875 => ?_) (fun c875 => ?_)
    · skip
      refine lv_goto (tgt := 1117) hx hb dL_law_890 (by decide) ?_
      exact kk H locs ls (lv_sub hl [2, 3, 4, 5, 6] rfl) hP hD hS
    · exact absurd c875 (by decide)
  · exact absurd c868 (by omega)
