
set_option maxHeartbeats 4000000 in
set_option maxRecDepth 100000 in
theorem law_told_xb {p : Program} {l : Launch} {e : Env} {s : State} {m : MethodId} {below : List Frame} {meth : Method} {c : Code} {Q : State → Prop} {sb Ln : Nat} {xs : Nat → Int32} {D : va_G} {cI cZ cJ : ClassId} {A : Nat → Prop} {sa : Nat → Nat} (cx : zCx p l s m meth c sb Ln xs D cI cZ cJ A sa) (h g : Nat → Nat) (lev tm : Nat) (gn : Int32) (nL nC nE : Nat) (L B C E F : Nat → Nat → Int32) (qo : Nat) (o : Nat → Int64) (cd : Int32) (ys ao : Nat → Int32) (i : Nat) (hi : i + 5 ≤ Ln) (k : Nat) (hk : k < nL) (hL : nL ≤ 4) (hC : nC ≤ 24) (u : Int32) (hno : inB u 0 7 = false) (m_hk : k < nL) (m_hL : nL ≤ 4) (m_hC : nC ≤ 24) (m_hno : inB u 0 7 = false) (e1 : xs (i + 1) = nI k) (e2 : xs (i + 2) = u) {H : Heap} {locs : List Loc} {cells slots : Nat} {ls : Array Slot} (hl : lv_has ls 7 [(0, .ref sb), (1, .ref (h 0)), (2, .ref (g 0)), (3, .ref qo), (4, .int (nI i))]) (hP : va_P D vwCl (wV cI cZ cJ h lev tm gn nL nC nE L B C E qo o ++ wM cI cZ g cd lev tm gn nL nC nE L B C F ys ao) H) (hD : va_D A (wV cI cZ cJ h lev tm gn nL nC nE L B C E qo o ++ wM cI cZ g cd lev tm gn nL nC nE L B C F ys ao)) (hS : va_S A s.heap H locs) (hroom : cells + 1 ≤ room_1.cells ∧ slots + 6 ≤ room_1.slots) (kk : ∀ (H1 : Heap) (locs1 : List Loc) (ls1 : Array Slot), lv_has ls1 7 [(0, .ref sb), (1, .ref (h 0)), (2, .ref (g 0)), (3, .ref qo), (4, .int (nI i))] → va_P D vwCl (wX cI cZ h lev tm gn nL nC nE L B C E ++ [(qo, .inl (cJ, 1, .inr (.inl o)))] ++ wM cI cZ g 2 lev tm gn nL nC nE L B C F ys ao) H1 → va_D A (wX cI cZ h lev tm gn nL nC nE L B C E ++ [(qo, .inl (cJ, 1, .inr (.inl o)))] ++ wM cI cZ g 2 lev tm gn nL nC nE L B C F ys ao) → va_S A s.heap H1 locs1 → W p l e room_1 s m #[Value.ref sb] below meth c H1 locs1 (cells + 1) (slots + 6) Q (F0 m 1117 ls1 []))  : W p l e room_1 s m #[Value.ref sb] below meth c H locs cells slots Q (F0 m 468 ls []) := by
  obtain ⟨hx, hb, hr9, hml, hlocks, hown, htsO, hK, hE, hX, hN, hA, hXs, hbl, hbA, hl9, hLn⟩ := cx
  have hts : ∀ w ∈ wsL_law, w.before #[Value.ref sb] s = true := fun w h9 => htsO w (lawO_l h9)
  refine lv_aload_n hx hb dL_law_468 rfl (lv_at hl 1 rfl) ?_
  refine lv_aload_n hx hb dL_law_469 rfl (lv_at hl 0 rfl) ?_
  refine lv_iload hx hb dL_law_470 (lv_at hl 4 rfl) ?_
  refine lv_iconst (v := 1) hx hb dL_law_472 (by decide) ?_
  refine zn_add (i := i) (j := 1) hx hb dL_law_473 ?_
  refine z_sld (k := i + 1) (v := nI k) hx hb hXs hbl hbA hS (by omega) (by omega) e1 dL_law_474 ?_
  refine lv_aload_n hx hb dL_law_475 rfl (lv_at hl 0 rfl) ?_
  refine lv_iload hx hb dL_law_476 (lv_at hl 4 rfl) ?_
  refine lv_iconst (v := 2) hx hb dL_law_478 (by decide) ?_
  refine zn_add (i := i) (j := 2) hx hb dL_law_479 ?_
  refine z_sld (k := i + 2) (v := u) hx hb hXs hbl hbA hS (by omega) (by omega) e2 dL_law_480 ?_
  refine lv_aload_n hx hb dL_law_481 rfl (lv_at hl 3 rfl) ?_
  refine z_backSi (wa := []) (w := (wV cI cZ cJ h lev tm gn nL nC nE L B C E qo o)) (wb := (wM cI cZ g cd lev tm gn nL nC nE L B C F ys ao)) (z_runSL (wa := []) (w := (wV cI cZ cJ h lev tm gn nL nC nE L B C E qo o)) (wb := (wM cI cZ g cd lev tm gn nL nC nE L B C F ys ao)) (n := 4) (As := [.ref (h 0), .int (nI k), .int u, .ref qo]) (rest := []) hx hb hml hown hts hK hE hX hN hS hA hP hD (tL_told_xb l D cI cZ cJ h lev tm gn nL nC nE L B C E k hk hL hC u hno qo o sa hl9 _) gL_law_L_told rfl rfl rfl (by decide +kernel) ⟨Nat.le_of_ble_eq_true rfl, Nat.le_of_ble_eq_true rfl⟩ rfl hl.1 rfl (Nat.le_of_ble_eq_true rfl) dL_law_482 hroom) hP hD hS hA (fun r1 w1 H locs hp1 hP hD hS => ?_)
  obtain ⟨rfl, rfl⟩ := hp1
  have hP : va_P D vwCl ((wX cI cZ h lev tm gn nL nC nE L B C E ++ [(qo, .inl (cJ, 1, .inr (.inl o)))]) ++ (wM cI cZ g cd lev tm gn nL nC nE L B C F ys ao)) H := hP
  have hD : va_D A ((wX cI cZ h lev tm gn nL nC nE L B C E ++ [(qo, .inl (cJ, 1, .inr (.inl o)))]) ++ (wM cI cZ g cd lev tm gn nL nC nE L B C F ys ao)) := hD
  refine lv_istore (lv' := [(5, .int 2), (0, .ref sb), (1, .ref (h 0)), (2, .ref (g 0)), (3, .ref qo), (4, .int (nI i))]) hx hb dL_law_485 hl (by decide) rfl (fun ls hl => ?_)
  refine lv_aload_n hx hb dL_law_487 rfl (lv_at hl 3 rfl) ?_
  refine lv_aload_n hx hb dL_law_488 rfl (lv_at hl 1 rfl) ?_
  refine lv_iload hx hb dL_law_489 (lv_at hl 5 rfl) ?_
  refine lv_iconst (v := 1) hx hb dL_law_491 (by decide) ?_
  refine zn_add (i := i) (j := 1) hx hb dL_law_492 ?_
  refine z_sld (k := i + 1) (v := nI k) hx hb hXs hbl hbA hS (by omega) (by omega) e1 dL_law_493 ?_
  refine lv_aload_n hx hb dL_law_494 rfl (lv_at hl 1 rfl) ?_
  refine lv_iload hx hb dL_law_495 (lv_at hl 5 rfl) ?_
  refine lv_iconst (v := 2) hx hb dL_law_497 (by decide) ?_
  refine zn_add (i := i) (j := 2) hx hb dL_law_498 ?_
  refine z_sld (k := i + 2) (v := u) hx hb hXs hbl hbA hS (by omega) (by omega) e2 dL_law_499 ?_
  refine z_backTi (wa := (wX cI cZ h lev tm gn nL nC nE L B C E ++ [(qo, .inl (cJ, 1, .inr (.inl o)))])) (w := (wM cI cZ g cd lev tm gn nL nC nE L B C F ys ao)) (z_runVT (wa := (wX cI cZ h lev tm gn nL nC nE L B C E ++ [(qo, .inl (cJ, 1, .inr (.inl o)))])) (w := (wM cI cZ g cd lev tm gn nL nC nE L B C F ys ao)) (n := 2) (As := [.int (nI k), .int u]) (ci := 5) (rest := []) hx hb hml hown hts hK hE hP hD (tX4_told_n2 l D cI cZ cJ g cd lev tm gn nL nC nE L B C F ys ao k m_hk m_hL m_hC u m_hno _) gL_law_X4_told rfl rfl rfl (by decide +kernel) ⟨Nat.le_of_ble_eq_true rfl, Nat.le_of_ble_eq_true rfl⟩ rfl rfl rfl hl.1 rfl (Nat.le_of_ble_eq_true rfl) dL_law_500 hroom) hP hD hS hA (fun r2 w1 H locs hp2 hP hD hS => ?_)
  obtain ⟨rfl, rfl⟩ := hp2
  have hP : va_P D vwCl ((wX cI cZ h lev tm gn nL nC nE L B C E ++ [(qo, .inl (cJ, 1, .inr (.inl o)))]) ++ (wM cI cZ g 2 lev tm gn nL nC nE L B C F ys ao)) H := hP
  have hD : va_D A ((wX cI cZ h lev tm gn nL nC nE L B C E ++ [(qo, .inl (cJ, 1, .inr (.inl o)))]) ++ (wM cI cZ g 2 lev tm gn nL nC nE L B C F ys ao)) := hD
  refine lv_istore (lv' := [(6, .int 0), (5, .int 2), (0, .ref sb), (1, .ref (h 0)), (2, .ref (g 0)), (3, .ref qo), (4, .int (nI i))]) hx hb dL_law_503 hl (by decide) rfl (fun ls hl => ?_)
  refine lv_aload_n hx hb dL_law_505 rfl (lv_at hl 4 rfl) ?_
  refine z_backTi (wa := (wX cI cZ h lev tm gn nL nC nE L B C E ++ [(qo, .inl (cJ, 1, .inr (.inl o)))])) (w := (wM cI cZ g 2 lev tm gn nL nC nE L B C F ys ao)) (z_runVT (wa := (wX cI cZ h lev tm gn nL nC nE L B C E ++ [(qo, .inl (cJ, 1, .inr (.inl o)))])) (w := (wM cI cZ g 2 lev tm gn nL nC nE L B C F ys ao)) (n := 0) (As := []) (ci := 5) (rest := []) hx hb hml hown hts hK hE hP hD (tX4_thrown l D cI cZ cJ g 2 lev tm gn nL nC nE L B C F ys ao _) gL_law_X4_thrown rfl rfl rfl (by decide +kernel) ⟨Nat.le_of_ble_eq_true rfl, Nat.le_of_ble_eq_true rfl⟩ rfl rfl rfl hl.1 rfl (Nat.le_of_ble_eq_true rfl) dL_law_506 hroom) hP hD hS hA (fun r3 w1 H locs hp3 hP hD hS => ?_)
  obtain ⟨rfl, rfl⟩ := hp3
  have hP : va_P D vwCl ((wX cI cZ h lev tm gn nL nC nE L B C E ++ [(qo, .inl (cJ, 1, .inr (.inl o)))]) ++ (wM cI cZ g 2 lev tm gn nL nC nE L B C F ys ao)) H := hP
  have hD : va_D A ((wX cI cZ h lev tm gn nL nC nE L B C E ++ [(qo, .inl (cJ, 1, .inr (.inl o)))]) ++ (wM cI cZ g 2 lev tm gn nL nC nE L B C F ys ao)) := hD
  refine lv_iload hx hb dL_law_509 (lv_at hl 1 rfl) ?_
  refine zn_eq (i := 2) (j := 2) (tgt := 516) hx hb (by omega) (by omega) dL_law_511 (by decide) (fun c511 => ?_) (fun c511 => ?_)
  · skip
    refine lv_iload hx hb dL_law_516 (lv_at hl 1 rfl) ?_
    refine lv_if_ne (x := 2) (tgt := 533) hx hb dL_law_518 (by decide) (fun c518 => ?_) (fun c518 => ?_)
    · skip
      refine lv_goto (tgt := 1117) hx hb dL_law_533 (by decide) ?_
      exact kk H locs ls (lv_sub hl [2, 3, 4, 5, 6] rfl) hP hD hS
    · exact absurd c518 (by decide)
  · exact absurd c511 (by omega)


set_option maxHeartbeats 4000000 in
set_option maxRecDepth 100000 in
theorem law_door_ok {p : Program} {l : Launch} {e : Env} {s : State} {m : MethodId} {below : List Frame} {meth : Method} {c : Code} {Q : State → Prop} {sb Ln : Nat} {xs : Nat → Int32} {D : va_G} {cI cZ cJ : ClassId} {A : Nat → Prop} {sa : Nat → Nat} (cx : zCx p l s m meth c sb Ln xs D cI cZ cJ A sa) (h g : Nat → Nat) (lev tm : Nat) (gn : Int32) (nL nC nE : Nat) (L B C E F : Nat → Nat → Int32) (qo : Nat) (o : Nat → Int64) (cd : Int32) (ys ao : Nat → Int32) (i : Nat) (hi : i + 5 ≤ Ln) (k : Nat) (hk : k < nL) (hL : nL ≤ 4) (hC : nC ≤ 24) (on : Bool) (hyes : ¬ (B 2 k = bI on ∨ (on = true ∧ L 3 k = 0))) (m_hk : k < nL) (m_hL : nL ≤ 4) (m_hC : nC ≤ 24) (m_hyes : ¬ (B 2 k = bI on ∨ (on = true ∧ L 3 k = 0))) (e1 : xs (i + 1) = nI k) (e2 : on = !decide (xs (i + 2) = 0)) {H : Heap} {locs : List Loc} {cells slots : Nat} {ls : Array Slot} (hl : lv_has ls 7 [(0, .ref sb), (1, .ref (h 0)), (2, .ref (g 0)), (3, .ref qo), (4, .int (nI i))]) (hP : va_P D vwCl (wV cI cZ cJ h lev tm gn nL nC nE L B C E qo o ++ wM cI cZ g cd lev tm gn nL nC nE L B C F ys ao) H) (hD : va_D A (wV cI cZ cJ h lev tm gn nL nC nE L B C E qo o ++ wM cI cZ g cd lev tm gn nL nC nE L B C F ys ao)) (hS : va_S A s.heap H locs) (hroom : cells + 1 ≤ room_1.cells ∧ slots + 6 ≤ room_1.slots) (kk : ∀ (H1 : Heap) (locs1 : List Loc) (ls1 : Array Slot), lv_has ls1 7 [(0, .ref sb), (1, .ref (h 0)), (2, .ref (g 0)), (3, .ref qo), (4, .int (nI i))] → va_P D vwCl (wX cI cZ h lev tm gn nL nC nE L (upC B 2 k (bI on)) C E ++ [(qo, .inl (cJ, 1, .inr (.inl o)))] ++ wM cI cZ g 0 lev tm gn nL nC nE L (upC B 2 k (bI on)) C F ys ao) H1 → va_D A (wX cI cZ h lev tm gn nL nC nE L (upC B 2 k (bI on)) C E ++ [(qo, .inl (cJ, 1, .inr (.inl o)))] ++ wM cI cZ g 0 lev tm gn nL nC nE L (upC B 2 k (bI on)) C F ys ao) → va_S A s.heap H1 locs1 → W p l e room_1 s m #[Value.ref sb] below meth c H1 locs1 (cells + 1) (slots + 6) Q (F0 m 1117 ls1 []))  : W p l e room_1 s m #[Value.ref sb] below meth c H locs cells slots Q (F0 m 536 ls []) := by
  obtain ⟨hx, hb, hr9, hml, hlocks, hown, htsO, hK, hE, hX, hN, hA, hXs, hbl, hbA, hl9, hLn⟩ := cx
  have hts : ∀ w ∈ wsL_law, w.before #[Value.ref sb] s = true := fun w h9 => htsO w (lawO_l h9)
  refine lv_aload_n hx hb dL_law_536 rfl (lv_at hl 1 rfl) ?_
  refine lv_aload_n hx hb dL_law_537 rfl (lv_at hl 0 rfl) ?_
  refine lv_iload hx hb dL_law_538 (lv_at hl 4 rfl) ?_
  refine lv_iconst (v := 1) hx hb dL_law_540 (by decide) ?_
  refine zn_add (i := i) (j := 1) hx hb dL_law_541 ?_
  refine z_sld (k := i + 1) (v := nI k) hx hb hXs hbl hbA hS (by omega) (by omega) e1 dL_law_542 ?_
  refine lv_aload_n hx hb dL_law_543 rfl (lv_at hl 0 rfl) ?_
  refine lv_iload hx hb dL_law_544 (lv_at hl 4 rfl) ?_
  refine lv_iconst (v := 2) hx hb dL_law_546 (by decide) ?_
  refine zn_add (i := i) (j := 2) hx hb dL_law_547 ?_
  refine z_sld (k := i + 2) (v := xs (i + 2)) hx hb hXs hbl hbA hS (by omega) (by omega) rfl dL_law_548 ?_
  refine lv_if_eq (x := xs (i + 2)) (tgt := 556) hx hb dL_law_549 (by decide) (fun c549 => ?_) (fun c549 => ?_)
  · skip
    refine lv_iconst (v := 0) hx hb dL_law_556 (by decide) ?_
    refine z_top (show (0 : Int32) = bI on by rw [e2, decide_eq_true c549]; rfl) ?_
    refine z_backSi (wa := []) (w := (wV cI cZ cJ h lev tm gn nL nC nE L B C E qo o)) (wb := (wM cI cZ g cd lev tm gn nL nC nE L B C F ys ao)) (z_runSL (wa := []) (w := (wV cI cZ cJ h lev tm gn nL nC nE L B C E qo o)) (wb := (wM cI cZ g cd lev tm gn nL nC nE L B C F ys ao)) (n := 3) (As := [.ref (h 0), .int (nI k), .int (bI on)]) (rest := []) hx hb hml hown hts hK hE hX hN hS hA hP hD (tL_door_ok l D cI cZ cJ h lev tm gn nL nC nE L B C E k hk hL hC on hyes qo o sa _) gL_law_L_door rfl rfl rfl (by decide +kernel) ⟨Nat.le_of_ble_eq_true rfl, Nat.le_of_ble_eq_true rfl⟩ rfl hl.1 rfl (Nat.le_of_ble_eq_true rfl) dL_law_557 hroom) hP hD hS hA (fun r1 w1 H locs hp1 hP hD hS => ?_)
    obtain ⟨rfl, rfl⟩ := hp1
    have hP : va_P D vwCl ((wX cI cZ h lev tm gn nL nC nE L (upC B 2 k (bI on)) C E ++ [(qo, .inl (cJ, 1, .inr (.inl o)))]) ++ (wM cI cZ g cd lev tm gn nL nC nE L B C F ys ao)) H := hP
    have hD : va_D A ((wX cI cZ h lev tm gn nL nC nE L (upC B 2 k (bI on)) C E ++ [(qo, .inl (cJ, 1, .inr (.inl o)))]) ++ (wM cI cZ g cd lev tm gn nL nC nE L B C F ys ao)) := hD
    refine lv_istore (lv' := [(5, .int 0), (0, .ref sb), (1, .ref (h 0)), (2, .ref (g 0)), (3, .ref qo), (4, .int (nI i))]) hx hb dL_law_560 hl (by decide) rfl (fun ls hl => ?_)
    refine lv_aload_n hx hb dL_law_562 rfl (lv_at hl 3 rfl) ?_
    refine lv_aload_n hx hb dL_law_563 rfl (lv_at hl 1 rfl) ?_
    refine lv_iload hx hb dL_law_564 (lv_at hl 5 rfl) ?_
    refine lv_iconst (v := 1) hx hb dL_law_566 (by decide) ?_
    refine zn_add (i := i) (j := 1) hx hb dL_law_567 ?_
    refine z_sld (k := i + 1) (v := nI k) hx hb hXs hbl hbA hS (by omega) (by omega) e1 dL_law_568 ?_
    refine lv_aload_n hx hb dL_law_569 rfl (lv_at hl 1 rfl) ?_
    refine lv_iload hx hb dL_law_570 (lv_at hl 5 rfl) ?_
    refine lv_iconst (v := 2) hx hb dL_law_572 (by decide) ?_
    refine zn_add (i := i) (j := 2) hx hb dL_law_573 ?_
    refine z_sld (k := i + 2) (v := xs (i + 2)) hx hb hXs hbl hbA hS (by omega) (by omega) rfl dL_law_574 ?_
    refine lv_if_eq (x := xs (i + 2)) (tgt := 582) hx hb dL_law_575 (by decide) (fun c575 => ?_) (fun c575 => ?_)
    · skip
      refine lv_iconst (v := 0) hx hb dL_law_582 (by decide) ?_
      refine z_top (show (0 : Int32) = bI on by rw [e2, decide_eq_true c549]; rfl) ?_
      refine z_backTv (wa := (wX cI cZ h lev tm gn nL nC nE L (upC B 2 k (bI on)) C E ++ [(qo, .inl (cJ, 1, .inr (.inl o)))])) (w := (wM cI cZ g cd lev tm gn nL nC nE L B C F ys ao)) (z_runVT (wa := (wX cI cZ h lev tm gn nL nC nE L (upC B 2 k (bI on)) C E ++ [(qo, .inl (cJ, 1, .inr (.inl o)))])) (w := (wM cI cZ g cd lev tm gn nL nC nE L B C F ys ao)) (n := 2) (As := [.int (nI k), .int (bI on)]) (ci := 5) (rest := []) hx hb hml hown hts hK hE hP hD (tX4_door_ok l D cI cZ cJ g cd lev tm gn nL nC nE L B C F ys ao k m_hk m_hL m_hC on m_hyes _) gL_law_X4_door rfl rfl rfl (by decide +kernel) ⟨Nat.le_of_ble_eq_true rfl, Nat.le_of_ble_eq_true rfl⟩ rfl rfl rfl hl.1 rfl (Nat.le_of_ble_eq_true rfl) dL_law_583 hroom) hP hD hS hA (fun w1 H locs hp2 hP hD hS => ?_)
      obtain rfl := hp2
      have hP : va_P D vwCl ((wX cI cZ h lev tm gn nL nC nE L (upC B 2 k (bI on)) C E ++ [(qo, .inl (cJ, 1, .inr (.inl o)))]) ++ (wM cI cZ g 0 lev tm gn nL nC nE L (upC B 2 k (bI on)) C F ys ao)) H := hP
      have hD : va_D A ((wX cI cZ h lev tm gn nL nC nE L (upC B 2 k (bI on)) C E ++ [(qo, .inl (cJ, 1, .inr (.inl o)))]) ++ (wM cI cZ g 0 lev tm gn nL nC nE L (upC B 2 k (bI on)) C F ys ao)) := hD
      refine lv_aload_n hx hb dL_law_586 rfl (lv_at hl 3 rfl) ?_
      refine z_backTi (wa := (wX cI cZ h lev tm gn nL nC nE L (upC B 2 k (bI on)) C E ++ [(qo, .inl (cJ, 1, .inr (.inl o)))])) (w := (wM cI cZ g 0 lev tm gn nL nC nE L (upC B 2 k (bI on)) C F ys ao)) (z_runVT (wa := (wX cI cZ h lev tm gn nL nC nE L (upC B 2 k (bI on)) C E ++ [(qo, .inl (cJ, 1, .inr (.inl o)))])) (w := (wM cI cZ g 0 lev tm gn nL nC nE L (upC B 2 k (bI on)) C F ys ao)) (n := 0) (As := []) (ci := 5) (rest := []) hx hb hml hown hts hK hE hP hD (tX4_thrown l D cI cZ cJ g 0 lev tm gn nL nC nE L (upC B 2 k (bI on)) C F ys ao _) gL_law_X4_thrown rfl rfl rfl (by decide +kernel) ⟨Nat.le_of_ble_eq_true rfl, Nat.le_of_ble_eq_true rfl⟩ rfl rfl rfl hl.1 rfl (Nat.le_of_ble_eq_true rfl) dL_law_587 hroom) hP hD hS hA (fun r3 w1 H locs hp3 hP hD hS => ?_)
      obtain ⟨rfl, rfl⟩ := hp3
      have hP : va_P D vwCl ((wX cI cZ h lev tm gn nL nC nE L (upC B 2 k (bI on)) C E ++ [(qo, .inl (cJ, 1, .inr (.inl o)))]) ++ (wM cI cZ g 0 lev tm gn nL nC nE L (upC B 2 k (bI on)) C F ys ao)) H := hP
      have hD : va_D A ((wX cI cZ h lev tm gn nL nC nE L (upC B 2 k (bI on)) C E ++ [(qo, .inl (cJ, 1, .inr (.inl o)))]) ++ (wM cI cZ g 0 lev tm gn nL nC nE L (upC B 2 k (bI on)) C F ys ao)) := hD
      refine lv_iload hx hb dL_law_590 (lv_at hl 0 rfl) ?_
      refine zn_eq (i := 0) (j := 0) (tgt := 597) hx hb (by omega) (by omega) dL_law_592 (by decide) (fun c592 => ?_) (fun c592 => ?_)
      · skip
        refine lv_goto (tgt := 1117) hx hb dL_law_597 (by decide) ?_
        exact kk H locs ls (lv_sub hl [1, 2, 3, 4, 5] rfl) hP hD hS
      · exact absurd c592 (by omega)
    · exact absurd c549 c575
  · skip
    refine lv_iconst (v := 1) hx hb dL_law_552 (by decide) ?_
    refine lv_goto (tgt := 557) hx hb dL_law_553 (by decide) ?_
    refine z_top (show (1 : Int32) = bI on by rw [e2, decide_eq_false c549]; rfl) ?_
    refine z_backSi (wa := []) (w := (wV cI cZ cJ h lev tm gn nL nC nE L B C E qo o)) (wb := (wM cI cZ g cd lev tm gn nL nC nE L B C F ys ao)) (z_runSL (wa := []) (w := (wV cI cZ cJ h lev tm gn nL nC nE L B C E qo o)) (wb := (wM cI cZ g cd lev tm gn nL nC nE L B C F ys ao)) (n := 3) (As := [.ref (h 0), .int (nI k), .int (bI on)]) (rest := []) hx hb hml hown hts hK hE hX hN hS hA hP hD (tL_door_ok l D cI cZ cJ h lev tm gn nL nC nE L B C E k hk hL hC on hyes qo o sa _) gL_law_L_door rfl rfl rfl (by decide +kernel) ⟨Nat.le_of_ble_eq_true rfl, Nat.le_of_ble_eq_true rfl⟩ rfl hl.1 rfl (Nat.le_of_ble_eq_true rfl) dL_law_557 hroom) hP hD hS hA (fun r4 w1 H locs hp4 hP hD hS => ?_)
    obtain ⟨rfl, rfl⟩ := hp4
    have hP : va_P D vwCl ((wX cI cZ h lev tm gn nL nC nE L (upC B 2 k (bI on)) C E ++ [(qo, .inl (cJ, 1, .inr (.inl o)))]) ++ (wM cI cZ g cd lev tm gn nL nC nE L B C F ys ao)) H := hP
    have hD : va_D A ((wX cI cZ h lev tm gn nL nC nE L (upC B 2 k (bI on)) C E ++ [(qo, .inl (cJ, 1, .inr (.inl o)))]) ++ (wM cI cZ g cd lev tm gn nL nC nE L B C F ys ao)) := hD
    refine lv_istore (lv' := [(5, .int 0), (0, .ref sb), (1, .ref (h 0)), (2, .ref (g 0)), (3, .ref qo), (4, .int (nI i))]) hx hb dL_law_560 hl (by decide) rfl (fun ls hl => ?_)
    refine lv_aload_n hx hb dL_law_562 rfl (lv_at hl 3 rfl) ?_
    refine lv_aload_n hx hb dL_law_563 rfl (lv_at hl 1 rfl) ?_
    refine lv_iload hx hb dL_law_564 (lv_at hl 5 rfl) ?_
    refine lv_iconst (v := 1) hx hb dL_law_566 (by decide) ?_
    refine zn_add (i := i) (j := 1) hx hb dL_law_567 ?_
    refine z_sld (k := i + 1) (v := nI k) hx hb hXs hbl hbA hS (by omega) (by omega) e1 dL_law_568 ?_
    refine lv_aload_n hx hb dL_law_569 rfl (lv_at hl 1 rfl) ?_
    refine lv_iload hx hb dL_law_570 (lv_at hl 5 rfl) ?_
    refine lv_iconst (v := 2) hx hb dL_law_572 (by decide) ?_
    refine zn_add (i := i) (j := 2) hx hb dL_law_573 ?_
    refine z_sld (k := i + 2) (v := xs (i + 2)) hx hb hXs hbl hbA hS (by omega) (by omega) rfl dL_law_574 ?_
    refine lv_if_eq (x := xs (i + 2)) (tgt := 582) hx hb dL_law_575 (by decide) (fun c575 => ?_) (fun c575 => ?_)
    · exact absurd c575 c549
    · skip
      refine lv_iconst (v := 1) hx hb dL_law_578 (by decide) ?_
      refine lv_goto (tgt := 583) hx hb dL_law_579 (by decide) ?_
      refine z_top (show (1 : Int32) = bI on by rw [e2, decide_eq_false c549]; rfl) ?_
      refine z_backTv (wa := (wX cI cZ h lev tm gn nL nC nE L (upC B 2 k (bI on)) C E ++ [(qo, .inl (cJ, 1, .inr (.inl o)))])) (w := (wM cI cZ g cd lev tm gn nL nC nE L B C F ys ao)) (z_runVT (wa := (wX cI cZ h lev tm gn nL nC nE L (upC B 2 k (bI on)) C E ++ [(qo, .inl (cJ, 1, .inr (.inl o)))])) (w := (wM cI cZ g cd lev tm gn nL nC nE L B C F ys ao)) (n := 2) (As := [.int (nI k), .int (bI on)]) (ci := 5) (rest := []) hx hb hml hown hts hK hE hP hD (tX4_door_ok l D cI cZ cJ g cd lev tm gn nL nC nE L B C F ys ao k m_hk m_hL m_hC on m_hyes _) gL_law_X4_door rfl rfl rfl (by decide +kernel) ⟨Nat.le_of_ble_eq_true rfl, Nat.le_of_ble_eq_true rfl⟩ rfl rfl rfl hl.1 rfl (Nat.le_of_ble_eq_true rfl) dL_law_583 hroom) hP hD hS hA (fun w1 H locs hp5 hP hD hS => ?_)
      obtain rfl := hp5
      have hP : va_P D vwCl ((wX cI cZ h lev tm gn nL nC nE L (upC B 2 k (bI on)) C E ++ [(qo, .inl (cJ, 1, .inr (.inl o)))]) ++ (wM cI cZ g 0 lev tm gn nL nC nE L (upC B 2 k (bI on)) C F ys ao)) H := hP
      have hD : va_D A ((wX cI cZ h lev tm gn nL nC nE L (upC B 2 k (bI on)) C E ++ [(qo, .inl (cJ, 1, .inr (.inl o)))]) ++ (wM cI cZ g 0 lev tm gn nL nC nE L (upC B 2 k (bI on)) C F ys ao)) := hD
      refine lv_aload_n hx hb dL_law_586 rfl (lv_at hl 3 rfl) ?_
      refine z_backTi (wa := (wX cI cZ h lev tm gn nL nC nE L (upC B 2 k (bI on)) C E ++ [(qo, .inl (cJ, 1, .inr (.inl o)))])) (w := (wM cI cZ g 0 lev tm gn nL nC nE L (upC B 2 k (bI on)) C F ys ao)) (z_runVT (wa := (wX cI cZ h lev tm gn nL nC nE L (upC B 2 k (bI on)) C E ++ [(qo, .inl (cJ, 1, .inr (.inl o)))])) (w := (wM cI cZ g 0 lev tm gn nL nC nE L (upC B 2 k (bI on)) C F ys ao)) (n := 0) (As := []) (ci := 5) (rest := []) hx hb hml hown hts hK hE hP hD (tX4_thrown l D cI cZ cJ g 0 lev tm gn nL nC nE L (upC B 2 k (bI on)) C F ys ao _) gL_law_X4_thrown rfl rfl rfl (by decide +kernel) ⟨Nat.le_of_ble_eq_true rfl, Nat.le_of_ble_eq_true rfl⟩ rfl rfl rfl hl.1 rfl (Nat.le_of_ble_eq_true rfl) dL_law_587 hroom) hP hD hS hA (fun r6 w1 H locs hp6 hP hD hS => ?_)
      obtain ⟨rfl, rfl⟩ := hp6
      have hP : va_P D vwCl ((wX cI cZ h lev tm gn nL nC nE L (upC B 2 k (bI on)) C E ++ [(qo, .inl (cJ, 1, .inr (.inl o)))]) ++ (wM cI cZ g 0 lev tm gn nL nC nE L (upC B 2 k (bI on)) C F ys ao)) H := hP
      have hD : va_D A ((wX cI cZ h lev tm gn nL nC nE L (upC B 2 k (bI on)) C E ++ [(qo, .inl (cJ, 1, .inr (.inl o)))]) ++ (wM cI cZ g 0 lev tm gn nL nC nE L (upC B 2 k (bI on)) C F ys ao)) := hD
      refine lv_iload hx hb dL_law_590 (lv_at hl 0 rfl) ?_
      refine zn_eq (i := 0) (j := 0) (tgt := 597) hx hb (by omega) (by omega) dL_law_592 (by decide) (fun c592 => ?_) (fun c592 => ?_)
      · skip
        refine lv_goto (tgt := 1117) hx hb dL_law_597 (by decide) ?_
        exact kk H locs ls (lv_sub hl [1, 2, 3, 4, 5] rfl) hP hD hS
      · exact absurd c592 (by omega)


set_option maxHeartbeats 4000000 in
set_option maxRecDepth 100000 in
theorem law_door_xa {p : Program} {l : Launch} {e : Env} {s : State} {m : MethodId} {below : List Frame} {meth : Method} {c : Code} {Q : State → Prop} {sb Ln : Nat} {xs : Nat → Int32} {D : va_G} {cI cZ cJ : ClassId} {A : Nat → Prop} {sa : Nat → Nat} (cx : zCx p l s m meth c sb Ln xs D cI cZ cJ A sa) (h g : Nat → Nat) (lev tm : Nat) (gn : Int32) (nL nC nE : Nat) (L B C E F : Nat → Nat → Int32) (qo : Nat) (o : Nat → Int64) (cd : Int32) (ys ao : Nat → Int32) (i : Nat) (hi : i + 5 ≤ Ln) (v : Int32) (on : Bool) (hno : inB v 0 (nI nL - 1) = false) (hL : nL ≤ 4) (hC : nC ≤ 24) (m_hno : inB v 0 (nI nL - 1) = false) (e1 : xs (i + 1) = v) (e2 : on = !decide (xs (i + 2) = 0)) {H : Heap} {locs : List Loc} {cells slots : Nat} {ls : Array Slot} (hl : lv_has ls 7 [(0, .ref sb), (1, .ref (h 0)), (2, .ref (g 0)), (3, .ref qo), (4, .int (nI i))]) (hP : va_P D vwCl (wV cI cZ cJ h lev tm gn nL nC nE L B C E qo o ++ wM cI cZ g cd lev tm gn nL nC nE L B C F ys ao) H) (hD : va_D A (wV cI cZ cJ h lev tm gn nL nC nE L B C E qo o ++ wM cI cZ g cd lev tm gn nL nC nE L B C F ys ao)) (hS : va_S A s.heap H locs) (hroom : cells + 1 ≤ room_1.cells ∧ slots + 6 ≤ room_1.slots) (kk : ∀ (H1 : Heap) (locs1 : List Loc) (ls1 : Array Slot), lv_has ls1 7 [(0, .ref sb), (1, .ref (h 0)), (2, .ref (g 0)), (3, .ref qo), (4, .int (nI i))] → va_P D vwCl (wX cI cZ h lev tm gn nL nC nE L B C E ++ [(qo, .inl (cJ, 1, .inr (.inl o)))] ++ wM cI cZ g 1 lev tm gn nL nC nE L B C F ys ao) H1 → va_D A (wX cI cZ h lev tm gn nL nC nE L B C E ++ [(qo, .inl (cJ, 1, .inr (.inl o)))] ++ wM cI cZ g 1 lev tm gn nL nC nE L B C F ys ao) → va_S A s.heap H1 locs1 → W p l e room_1 s m #[Value.ref sb] below meth c H1 locs1 (cells + 1) (slots + 6) Q (F0 m 1117 ls1 []))  : W p l e room_1 s m #[Value.ref sb] below meth c H locs cells slots Q (F0 m 536 ls []) := by
  obtain ⟨hx, hb, hr9, hml, hlocks, hown, htsO, hK, hE, hX, hN, hA, hXs, hbl, hbA, hl9, hLn⟩ := cx
  have hts : ∀ w ∈ wsL_law, w.before #[Value.ref sb] s = true := fun w h9 => htsO w (lawO_l h9)
  refine lv_aload_n hx hb dL_law_536 rfl (lv_at hl 1 rfl) ?_
  refine lv_aload_n hx hb dL_law_537 rfl (lv_at hl 0 rfl) ?_
  refine lv_iload hx hb dL_law_538 (lv_at hl 4 rfl) ?_
  refine lv_iconst (v := 1) hx hb dL_law_540 (by decide) ?_
  refine zn_add (i := i) (j := 1) hx hb dL_law_541 ?_
  refine z_sld (k := i + 1) (v := v) hx hb hXs hbl hbA hS (by omega) (by omega) e1 dL_law_542 ?_
  refine lv_aload_n hx hb dL_law_543 rfl (lv_at hl 0 rfl) ?_
  refine lv_iload hx hb dL_law_544 (lv_at hl 4 rfl) ?_
  refine lv_iconst (v := 2) hx hb dL_law_546 (by decide) ?_
  refine zn_add (i := i) (j := 2) hx hb dL_law_547 ?_
  refine z_sld (k := i + 2) (v := xs (i + 2)) hx hb hXs hbl hbA hS (by omega) (by omega) rfl dL_law_548 ?_
  refine lv_if_eq (x := xs (i + 2)) (tgt := 556) hx hb dL_law_549 (by decide) (fun c549 => ?_) (fun c549 => ?_)
  · skip
    refine lv_iconst (v := 0) hx hb dL_law_556 (by decide) ?_
    refine z_top (show (0 : Int32) = bI on by rw [e2, decide_eq_true c549]; rfl) ?_
    refine z_backSi (wa := []) (w := (wV cI cZ cJ h lev tm gn nL nC nE L B C E qo o)) (wb := (wM cI cZ g cd lev tm gn nL nC nE L B C F ys ao)) (z_runSL (wa := []) (w := (wV cI cZ cJ h lev tm gn nL nC nE L B C E qo o)) (wb := (wM cI cZ g cd lev tm gn nL nC nE L B C F ys ao)) (n := 3) (As := [.ref (h 0), .int v, .int (bI on)]) (rest := []) hx hb hml hown hts hK hE hX hN hS hA hP hD (tL_door_xa l D cI cZ cJ h lev tm gn nL nC nE L B C E v on hno hL hC qo o sa hl9 _) gL_law_L_door rfl rfl rfl (by decide +kernel) ⟨Nat.le_of_ble_eq_true rfl, Nat.le_of_ble_eq_true rfl⟩ rfl hl.1 rfl (Nat.le_of_ble_eq_true rfl) dL_law_557 hroom) hP hD hS hA (fun r1 w1 H locs hp1 hP hD hS => ?_)
    obtain ⟨rfl, rfl⟩ := hp1
    have hP : va_P D vwCl ((wX cI cZ h lev tm gn nL nC nE L B C E ++ [(qo, .inl (cJ, 1, .inr (.inl o)))]) ++ (wM cI cZ g cd lev tm gn nL nC nE L B C F ys ao)) H := hP
    have hD : va_D A ((wX cI cZ h lev tm gn nL nC nE L B C E ++ [(qo, .inl (cJ, 1, .inr (.inl o)))]) ++ (wM cI cZ g cd lev tm gn nL nC nE L B C F ys ao)) := hD
    refine lv_istore (lv' := [(5, .int 1), (0, .ref sb), (1, .ref (h 0)), (2, .ref (g 0)), (3, .ref qo), (4, .int (nI i))]) hx hb dL_law_560 hl (by decide) rfl (fun ls hl => ?_)
    refine lv_aload_n hx hb dL_law_562 rfl (lv_at hl 3 rfl) ?_
    refine lv_aload_n hx hb dL_law_563 rfl (lv_at hl 1 rfl) ?_
    refine lv_iload hx hb dL_law_564 (lv_at hl 5 rfl) ?_
    refine lv_iconst (v := 1) hx hb dL_law_566 (by decide) ?_
    refine zn_add (i := i) (j := 1) hx hb dL_law_567 ?_
    refine z_sld (k := i + 1) (v := v) hx hb hXs hbl hbA hS (by omega) (by omega) e1 dL_law_568 ?_
    refine lv_aload_n hx hb dL_law_569 rfl (lv_at hl 1 rfl) ?_
    refine lv_iload hx hb dL_law_570 (lv_at hl 5 rfl) ?_
    refine lv_iconst (v := 2) hx hb dL_law_572 (by decide) ?_
    refine zn_add (i := i) (j := 2) hx hb dL_law_573 ?_
    refine z_sld (k := i + 2) (v := xs (i + 2)) hx hb hXs hbl hbA hS (by omega) (by omega) rfl dL_law_574 ?_
    refine lv_if_eq (x := xs (i + 2)) (tgt := 582) hx hb dL_law_575 (by decide) (fun c575 => ?_) (fun c575 => ?_)
    · skip
      refine lv_iconst (v := 0) hx hb dL_law_582 (by decide) ?_
      refine z_top (show (0 : Int32) = bI on by rw [e2, decide_eq_true c549]; rfl) ?_
      refine z_backTv (wa := (wX cI cZ h lev tm gn nL nC nE L B C E ++ [(qo, .inl (cJ, 1, .inr (.inl o)))])) (w := (wM cI cZ g cd lev tm gn nL nC nE L B C F ys ao)) (z_runVT (wa := (wX cI cZ h lev tm gn nL nC nE L B C E ++ [(qo, .inl (cJ, 1, .inr (.inl o)))])) (w := (wM cI cZ g cd lev tm gn nL nC nE L B C F ys ao)) (n := 2) (As := [.int v, .int (bI on)]) (ci := 5) (rest := []) hx hb hml hown hts hK hE hP hD (tX4_door_n1 l D cI cZ cJ g cd lev tm gn nL nC nE L B C F ys ao v m_hno on _) gL_law_X4_door rfl rfl rfl (by decide +kernel) ⟨Nat.le_of_ble_eq_true rfl, Nat.le_of_ble_eq_true rfl⟩ rfl rfl rfl hl.1 rfl (Nat.le_of_ble_eq_true rfl) dL_law_583 hroom) hP hD hS hA (fun w1 H locs hp2 hP hD hS => ?_)
      obtain rfl := hp2
      have hP : va_P D vwCl ((wX cI cZ h lev tm gn nL nC nE L B C E ++ [(qo, .inl (cJ, 1, .inr (.inl o)))]) ++ (wM cI cZ g 1 lev tm gn nL nC nE L B C F ys ao)) H := hP
      have hD : va_D A ((wX cI cZ h lev tm gn nL nC nE L B C E ++ [(qo, .inl (cJ, 1, .inr (.inl o)))]) ++ (wM cI cZ g 1 lev tm gn nL nC nE L B C F ys ao)) := hD
      refine lv_aload_n hx hb dL_law_586 rfl (lv_at hl 3 rfl) ?_
      refine z_backTi (wa := (wX cI cZ h lev tm gn nL nC nE L B C E ++ [(qo, .inl (cJ, 1, .inr (.inl o)))])) (w := (wM cI cZ g 1 lev tm gn nL nC nE L B C F ys ao)) (z_runVT (wa := (wX cI cZ h lev tm gn nL nC nE L B C E ++ [(qo, .inl (cJ, 1, .inr (.inl o)))])) (w := (wM cI cZ g 1 lev tm gn nL nC nE L B C F ys ao)) (n := 0) (As := []) (ci := 5) (rest := []) hx hb hml hown hts hK hE hP hD (tX4_thrown l D cI cZ cJ g 1 lev tm gn nL nC nE L B C F ys ao _) gL_law_X4_thrown rfl rfl rfl (by decide +kernel) ⟨Nat.le_of_ble_eq_true rfl, Nat.le_of_ble_eq_true rfl⟩ rfl rfl rfl hl.1 rfl (Nat.le_of_ble_eq_true rfl) dL_law_587 hroom) hP hD hS hA (fun r3 w1 H locs hp3 hP hD hS => ?_)
      obtain ⟨rfl, rfl⟩ := hp3
      have hP : va_P D vwCl ((wX cI cZ h lev tm gn nL nC nE L B C E ++ [(qo, .inl (cJ, 1, .inr (.inl o)))]) ++ (wM cI cZ g 1 lev tm gn nL nC nE L B C F ys ao)) H := hP
      have hD : va_D A ((wX cI cZ h lev tm gn nL nC nE L B C E ++ [(qo, .inl (cJ, 1, .inr (.inl o)))]) ++ (wM cI cZ g 1 lev tm gn nL nC nE L B C F ys ao)) := hD
      refine lv_iload hx hb dL_law_590 (lv_at hl 0 rfl) ?_
      refine zn_eq (i := 1) (j := 1) (tgt := 597) hx hb (by omega) (by omega) dL_law_592 (by decide) (fun c592 => ?_) (fun c592 => ?_)
      · skip
        refine lv_goto (tgt := 1117) hx hb dL_law_597 (by decide) ?_
        exact kk H locs ls (lv_sub hl [1, 2, 3, 4, 5] rfl) hP hD hS
      · exact absurd c592 (by omega)
    · exact absurd c549 c575
  · skip
    refine lv_iconst (v := 1) hx hb dL_law_552 (by decide) ?_
    refine lv_goto (tgt := 557) hx hb dL_law_553 (by decide) ?_
    refine z_top (show (1 : Int32) = bI on by rw [e2, decide_eq_false c549]; rfl) ?_
    refine z_backSi (wa := []) (w := (wV cI cZ cJ h lev tm gn nL nC nE L B C E qo o)) (wb := (wM cI cZ g cd lev tm gn nL nC nE L B C F ys ao)) (z_runSL (wa := []) (w := (wV cI cZ cJ h lev tm gn nL nC nE L B C E qo o)) (wb := (wM cI cZ g cd lev tm gn nL nC nE L B C F ys ao)) (n := 3) (As := [.ref (h 0), .int v, .int (bI on)]) (rest := []) hx hb hml hown hts hK hE hX hN hS hA hP hD (tL_door_xa l D cI cZ cJ h lev tm gn nL nC nE L B C E v on hno hL hC qo o sa hl9 _) gL_law_L_door rfl rfl rfl (by decide +kernel) ⟨Nat.le_of_ble_eq_true rfl, Nat.le_of_ble_eq_true rfl⟩ rfl hl.1 rfl (Nat.le_of_ble_eq_true rfl) dL_law_557 hroom) hP hD hS hA (fun r4 w1 H locs hp4 hP hD hS => ?_)
    obtain ⟨rfl, rfl⟩ := hp4
    have hP : va_P D vwCl ((wX cI cZ h lev tm gn nL nC nE L B C E ++ [(qo, .inl (cJ, 1, .inr (.inl o)))]) ++ (wM cI cZ g cd lev tm gn nL nC nE L B C F ys ao)) H := hP
    have hD : va_D A ((wX cI cZ h lev tm gn nL nC nE L B C E ++ [(qo, .inl (cJ, 1, .inr (.inl o)))]) ++ (wM cI cZ g cd lev tm gn nL nC nE L B C F ys ao)) := hD
    refine lv_istore (lv' := [(5, .int 1), (0, .ref sb), (1, .ref (h 0)), (2, .ref (g 0)), (3, .ref qo), (4, .int (nI i))]) hx hb dL_law_560 hl (by decide) rfl (fun ls hl => ?_)
    refine lv_aload_n hx hb dL_law_562 rfl (lv_at hl 3 rfl) ?_
    refine lv_aload_n hx hb dL_law_563 rfl (lv_at hl 1 rfl) ?_
    refine lv_iload hx hb dL_law_564 (lv_at hl 5 rfl) ?_
    refine lv_iconst (v := 1) hx hb dL_law_566 (by decide) ?_
    refine zn_add (i := i) (j := 1) hx hb dL_law_567 ?_
    refine z_sld (k := i + 1) (v := v) hx hb hXs hbl hbA hS (by omega) (by omega) e1 dL_law_568 ?_
    refine lv_aload_n hx hb dL_law_569 rfl (lv_at hl 1 rfl) ?_
    refine lv_iload hx hb dL_law_570 (lv_at hl 5 rfl) ?_
    refine lv_iconst (v := 2) hx hb dL_law_572 (by decide) ?_
    refine zn_add (i := i) (j := 2) hx hb dL_law_573 ?_
    refine z_sld (k := i + 2) (v := xs (i + 2)) hx hb hXs hbl hbA hS (by omega) (by omega) rfl dL_law_574 ?_
    refine lv_if_eq (x := xs (i + 2)) (tgt := 582) hx hb dL_law_575 (by decide) (fun c575 => ?_) (fun c575 => ?_)
    · exact absurd c575 c549
    · skip
      refine lv_iconst (v := 1) hx hb dL_law_578 (by decide) ?_
      refine lv_goto (tgt := 583) hx hb dL_law_579 (by decide) ?_
      refine z_top (show (1 : Int32) = bI on by rw [e2, decide_eq_false c549]; rfl) ?_
      refine z_backTv (wa := (wX cI cZ h lev tm gn nL nC nE L B C E ++ [(qo, .inl (cJ, 1, .inr (.inl o)))])) (w := (wM cI cZ g cd lev tm gn nL nC nE L B C F ys ao)) (z_runVT (wa := (wX cI cZ h lev tm gn nL nC nE L B C E ++ [(qo, .inl (cJ, 1, .inr (.inl o)))])) (w := (wM cI cZ g cd lev tm gn nL nC nE L B C F ys ao)) (n := 2) (As := [.int v, .int (bI on)]) (ci := 5) (rest := []) hx hb hml hown hts hK hE hP hD (tX4_door_n1 l D cI cZ cJ g cd lev tm gn nL nC nE L B C F ys ao v m_hno on _) gL_law_X4_door rfl rfl rfl (by decide +kernel) ⟨Nat.le_of_ble_eq_true rfl, Nat.le_of_ble_eq_true rfl⟩ rfl rfl rfl hl.1 rfl (Nat.le_of_ble_eq_true rfl) dL_law_583 hroom) hP hD hS hA (fun w1 H locs hp5 hP hD hS => ?_)
      obtain rfl := hp5
      have hP : va_P D vwCl ((wX cI cZ h lev tm gn nL nC nE L B C E ++ [(qo, .inl (cJ, 1, .inr (.inl o)))]) ++ (wM cI cZ g 1 lev tm gn nL nC nE L B C F ys ao)) H := hP
      have hD : va_D A ((wX cI cZ h lev tm gn nL nC nE L B C E ++ [(qo, .inl (cJ, 1, .inr (.inl o)))]) ++ (wM cI cZ g 1 lev tm gn nL nC nE L B C F ys ao)) := hD
      refine lv_aload_n hx hb dL_law_586 rfl (lv_at hl 3 rfl) ?_
      refine z_backTi (wa := (wX cI cZ h lev tm gn nL nC nE L B C E ++ [(qo, .inl (cJ, 1, .inr (.inl o)))])) (w := (wM cI cZ g 1 lev tm gn nL nC nE L B C F ys ao)) (z_runVT (wa := (wX cI cZ h lev tm gn nL nC nE L B C E ++ [(qo, .inl (cJ, 1, .inr (.inl o)))])) (w := (wM cI cZ g 1 lev tm gn nL nC nE L B C F ys ao)) (n := 0) (As := []) (ci := 5) (rest := []) hx hb hml hown hts hK hE hP hD (tX4_thrown l D cI cZ cJ g 1 lev tm gn nL nC nE L B C F ys ao _) gL_law_X4_thrown rfl rfl rfl (by decide +kernel) ⟨Nat.le_of_ble_eq_true rfl, Nat.le_of_ble_eq_true rfl⟩ rfl rfl rfl hl.1 rfl (Nat.le_of_ble_eq_true rfl) dL_law_587 hroom) hP hD hS hA (fun r6 w1 H locs hp6 hP hD hS => ?_)
      obtain ⟨rfl, rfl⟩ := hp6
      have hP : va_P D vwCl ((wX cI cZ h lev tm gn nL nC nE L B C E ++ [(qo, .inl (cJ, 1, .inr (.inl o)))]) ++ (wM cI cZ g 1 lev tm gn nL nC nE L B C F ys ao)) H := hP
      have hD : va_D A ((wX cI cZ h lev tm gn nL nC nE L B C E ++ [(qo, .inl (cJ, 1, .inr (.inl o)))]) ++ (wM cI cZ g 1 lev tm gn nL nC nE L B C F ys ao)) := hD
      refine lv_iload hx hb dL_law_590 (lv_at hl 0 rfl) ?_
      refine zn_eq (i := 1) (j := 1) (tgt := 597) hx hb (by omega) (by omega) dL_law_592 (by decide) (fun c592 => ?_) (fun c592 => ?_)
      · skip
        refine lv_goto (tgt := 1117) hx hb dL_law_597 (by decide) ?_
        exact kk H locs ls (lv_sub hl [1, 2, 3, 4, 5] rfl) hP hD hS
      · exact absurd c592 (by omega)


set_option maxHeartbeats 4000000 in
set_option maxRecDepth 100000 in
theorem law_door_xb {p : Program} {l : Launch} {e : Env} {s : State} {m : MethodId} {below : List Frame} {meth : Method} {c : Code} {Q : State → Prop} {sb Ln : Nat} {xs : Nat → Int32} {D : va_G} {cI cZ cJ : ClassId} {A : Nat → Prop} {sa : Nat → Nat} (cx : zCx p l s m meth c sb Ln xs D cI cZ cJ A sa) (h g : Nat → Nat) (lev tm : Nat) (gn : Int32) (nL nC nE : Nat) (L B C E F : Nat → Nat → Int32) (qo : Nat) (o : Nat → Int64) (cd : Int32) (ys ao : Nat → Int32) (i : Nat) (hi : i + 5 ≤ Ln) (k : Nat) (hk : k < nL) (hL : nL ≤ 4) (hC : nC ≤ 24) (on : Bool) (hno : B 2 k = bI on) (m_hk : k < nL) (m_hL : nL ≤ 4) (m_hC : nC ≤ 24) (m_hno : B 2 k = bI on ∨ (on = true ∧ L 3 k = 0)) (e1 : xs (i + 1) = nI k) (e2 : on = !decide (xs (i + 2) = 0)) {H : Heap} {locs : List Loc} {cells slots : Nat} {ls : Array Slot} (hl : lv_has ls 7 [(0, .ref sb), (1, .ref (h 0)), (2, .ref (g 0)), (3, .ref qo), (4, .int (nI i))]) (hP : va_P D vwCl (wV cI cZ cJ h lev tm gn nL nC nE L B C E qo o ++ wM cI cZ g cd lev tm gn nL nC nE L B C F ys ao) H) (hD : va_D A (wV cI cZ cJ h lev tm gn nL nC nE L B C E qo o ++ wM cI cZ g cd lev tm gn nL nC nE L B C F ys ao)) (hS : va_S A s.heap H locs) (hroom : cells + 1 ≤ room_1.cells ∧ slots + 6 ≤ room_1.slots) (kk : ∀ (H1 : Heap) (locs1 : List Loc) (ls1 : Array Slot), lv_has ls1 7 [(0, .ref sb), (1, .ref (h 0)), (2, .ref (g 0)), (3, .ref qo), (4, .int (nI i))] → va_P D vwCl (wX cI cZ h lev tm gn nL nC nE L B C E ++ [(qo, .inl (cJ, 1, .inr (.inl o)))] ++ wM cI cZ g 2 lev tm gn nL nC nE L B C F ys ao) H1 → va_D A (wX cI cZ h lev tm gn nL nC nE L B C E ++ [(qo, .inl (cJ, 1, .inr (.inl o)))] ++ wM cI cZ g 2 lev tm gn nL nC nE L B C F ys ao) → va_S A s.heap H1 locs1 → W p l e room_1 s m #[Value.ref sb] below meth c H1 locs1 (cells + 1) (slots + 6) Q (F0 m 1117 ls1 []))  : W p l e room_1 s m #[Value.ref sb] below meth c H locs cells slots Q (F0 m 536 ls []) := by
  obtain ⟨hx, hb, hr9, hml, hlocks, hown, htsO, hK, hE, hX, hN, hA, hXs, hbl, hbA, hl9, hLn⟩ := cx
  have hts : ∀ w ∈ wsL_law, w.before #[Value.ref sb] s = true := fun w h9 => htsO w (lawO_l h9)
  refine lv_aload_n hx hb dL_law_536 rfl (lv_at hl 1 rfl) ?_
  refine lv_aload_n hx hb dL_law_537 rfl (lv_at hl 0 rfl) ?_
  refine lv_iload hx hb dL_law_538 (lv_at hl 4 rfl) ?_
  refine lv_iconst (v := 1) hx hb dL_law_540 (by decide) ?_
  refine zn_add (i := i) (j := 1) hx hb dL_law_541 ?_
  refine z_sld (k := i + 1) (v := nI k) hx hb hXs hbl hbA hS (by omega) (by omega) e1 dL_law_542 ?_
  refine lv_aload_n hx hb dL_law_543 rfl (lv_at hl 0 rfl) ?_
  refine lv_iload hx hb dL_law_544 (lv_at hl 4 rfl) ?_
  refine lv_iconst (v := 2) hx hb dL_law_546 (by decide) ?_
  refine zn_add (i := i) (j := 2) hx hb dL_law_547 ?_
  refine z_sld (k := i + 2) (v := xs (i + 2)) hx hb hXs hbl hbA hS (by omega) (by omega) rfl dL_law_548 ?_
  refine lv_if_eq (x := xs (i + 2)) (tgt := 556) hx hb dL_law_549 (by decide) (fun c549 => ?_) (fun c549 => ?_)
  · skip
    refine lv_iconst (v := 0) hx hb dL_law_556 (by decide) ?_
    refine z_top (show (0 : Int32) = bI on by rw [e2, decide_eq_true c549]; rfl) ?_
    refine z_backSi (wa := []) (w := (wV cI cZ cJ h lev tm gn nL nC nE L B C E qo o)) (wb := (wM cI cZ g cd lev tm gn nL nC nE L B C F ys ao)) (z_runSL (wa := []) (w := (wV cI cZ cJ h lev tm gn nL nC nE L B C E qo o)) (wb := (wM cI cZ g cd lev tm gn nL nC nE L B C F ys ao)) (n := 3) (As := [.ref (h 0), .int (nI k), .int (bI on)]) (rest := []) hx hb hml hown hts hK hE hX hN hS hA hP hD (tL_door_xb l D cI cZ cJ h lev tm gn nL nC nE L B C E k hk hL hC on hno qo o sa hl9 _) gL_law_L_door rfl rfl rfl (by decide +kernel) ⟨Nat.le_of_ble_eq_true rfl, Nat.le_of_ble_eq_true rfl⟩ rfl hl.1 rfl (Nat.le_of_ble_eq_true rfl) dL_law_557 hroom) hP hD hS hA (fun r1 w1 H locs hp1 hP hD hS => ?_)
    obtain ⟨rfl, rfl⟩ := hp1
    have hP : va_P D vwCl ((wX cI cZ h lev tm gn nL nC nE L B C E ++ [(qo, .inl (cJ, 1, .inr (.inl o)))]) ++ (wM cI cZ g cd lev tm gn nL nC nE L B C F ys ao)) H := hP
    have hD : va_D A ((wX cI cZ h lev tm gn nL nC nE L B C E ++ [(qo, .inl (cJ, 1, .inr (.inl o)))]) ++ (wM cI cZ g cd lev tm gn nL nC nE L B C F ys ao)) := hD
    refine lv_istore (lv' := [(5, .int 2), (0, .ref sb), (1, .ref (h 0)), (2, .ref (g 0)), (3, .ref qo), (4, .int (nI i))]) hx hb dL_law_560 hl (by decide) rfl (fun ls hl => ?_)
    refine lv_aload_n hx hb dL_law_562 rfl (lv_at hl 3 rfl) ?_
    refine lv_aload_n hx hb dL_law_563 rfl (lv_at hl 1 rfl) ?_
    refine lv_iload hx hb dL_law_564 (lv_at hl 5 rfl) ?_
    refine lv_iconst (v := 1) hx hb dL_law_566 (by decide) ?_
    refine zn_add (i := i) (j := 1) hx hb dL_law_567 ?_
    refine z_sld (k := i + 1) (v := nI k) hx hb hXs hbl hbA hS (by omega) (by omega) e1 dL_law_568 ?_
    refine lv_aload_n hx hb dL_law_569 rfl (lv_at hl 1 rfl) ?_
    refine lv_iload hx hb dL_law_570 (lv_at hl 5 rfl) ?_
    refine lv_iconst (v := 2) hx hb dL_law_572 (by decide) ?_
    refine zn_add (i := i) (j := 2) hx hb dL_law_573 ?_
    refine z_sld (k := i + 2) (v := xs (i + 2)) hx hb hXs hbl hbA hS (by omega) (by omega) rfl dL_law_574 ?_
    refine lv_if_eq (x := xs (i + 2)) (tgt := 582) hx hb dL_law_575 (by decide) (fun c575 => ?_) (fun c575 => ?_)
    · skip
      refine lv_iconst (v := 0) hx hb dL_law_582 (by decide) ?_
      refine z_top (show (0 : Int32) = bI on by rw [e2, decide_eq_true c549]; rfl) ?_
      refine z_backTv (wa := (wX cI cZ h lev tm gn nL nC nE L B C E ++ [(qo, .inl (cJ, 1, .inr (.inl o)))])) (w := (wM cI cZ g cd lev tm gn nL nC nE L B C F ys ao)) (z_runVT (wa := (wX cI cZ h lev tm gn nL nC nE L B C E ++ [(qo, .inl (cJ, 1, .inr (.inl o)))])) (w := (wM cI cZ g cd lev tm gn nL nC nE L B C F ys ao)) (n := 2) (As := [.int (nI k), .int (bI on)]) (ci := 5) (rest := []) hx hb hml hown hts hK hE hP hD (tX4_door_n2 l D cI cZ cJ g cd lev tm gn nL nC nE L B C F ys ao k m_hk m_hL m_hC on m_hno _) gL_law_X4_door rfl rfl rfl (by decide +kernel) ⟨Nat.le_of_ble_eq_true rfl, Nat.le_of_ble_eq_true rfl⟩ rfl rfl rfl hl.1 rfl (Nat.le_of_ble_eq_true rfl) dL_law_583 hroom) hP hD hS hA (fun w1 H locs hp2 hP hD hS => ?_)
      obtain rfl := hp2
      have hP : va_P D vwCl ((wX cI cZ h lev tm gn nL nC nE L B C E ++ [(qo, .inl (cJ, 1, .inr (.inl o)))]) ++ (wM cI cZ g 2 lev tm gn nL nC nE L B C F ys ao)) H := hP
      have hD : va_D A ((wX cI cZ h lev tm gn nL nC nE L B C E ++ [(qo, .inl (cJ, 1, .inr (.inl o)))]) ++ (wM cI cZ g 2 lev tm gn nL nC nE L B C F ys ao)) := hD
      refine lv_aload_n hx hb dL_law_586 rfl (lv_at hl 3 rfl) ?_
      refine z_backTi (wa := (wX cI cZ h lev tm gn nL nC nE L B C E ++ [(qo, .inl (cJ, 1, .inr (.inl o)))])) (w := (wM cI cZ g 2 lev tm gn nL nC nE L B C F ys ao)) (z_runVT (wa := (wX cI cZ h lev tm gn nL nC nE L B C E ++ [(qo, .inl (cJ, 1, .inr (.inl o)))])) (w := (wM cI cZ g 2 lev tm gn nL nC nE L B C F ys ao)) (n := 0) (As := []) (ci := 5) (rest := []) hx hb hml hown hts hK hE hP hD (tX4_thrown l D cI cZ cJ g 2 lev tm gn nL nC nE L B C F ys ao _) gL_law_X4_thrown rfl rfl rfl (by decide +kernel) ⟨Nat.le_of_ble_eq_true rfl, Nat.le_of_ble_eq_true rfl⟩ rfl rfl rfl hl.1 rfl (Nat.le_of_ble_eq_true rfl) dL_law_587 hroom) hP hD hS hA (fun r3 w1 H locs hp3 hP hD hS => ?_)
      obtain ⟨rfl, rfl⟩ := hp3
      have hP : va_P D vwCl ((wX cI cZ h lev tm gn nL nC nE L B C E ++ [(qo, .inl (cJ, 1, .inr (.inl o)))]) ++ (wM cI cZ g 2 lev tm gn nL nC nE L B C F ys ao)) H := hP
      have hD : va_D A ((wX cI cZ h lev tm gn nL nC nE L B C E ++ [(qo, .inl (cJ, 1, .inr (.inl o)))]) ++ (wM cI cZ g 2 lev tm gn nL nC nE L B C F ys ao)) := hD
      refine lv_iload hx hb dL_law_590 (lv_at hl 0 rfl) ?_
      refine zn_eq (i := 2) (j := 2) (tgt := 597) hx hb (by omega) (by omega) dL_law_592 (by decide) (fun c592 => ?_) (fun c592 => ?_)
      · skip
        refine lv_goto (tgt := 1117) hx hb dL_law_597 (by decide) ?_
        exact kk H locs ls (lv_sub hl [1, 2, 3, 4, 5] rfl) hP hD hS
      · exact absurd c592 (by omega)
    · exact absurd c549 c575
  · skip
    refine lv_iconst (v := 1) hx hb dL_law_552 (by decide) ?_
    refine lv_goto (tgt := 557) hx hb dL_law_553 (by decide) ?_
    refine z_top (show (1 : Int32) = bI on by rw [e2, decide_eq_false c549]; rfl) ?_
    refine z_backSi (wa := []) (w := (wV cI cZ cJ h lev tm gn nL nC nE L B C E qo o)) (wb := (wM cI cZ g cd lev tm gn nL nC nE L B C F ys ao)) (z_runSL (wa := []) (w := (wV cI cZ cJ h lev tm gn nL nC nE L B C E qo o)) (wb := (wM cI cZ g cd lev tm gn nL nC nE L B C F ys ao)) (n := 3) (As := [.ref (h 0), .int (nI k), .int (bI on)]) (rest := []) hx hb hml hown hts hK hE hX hN hS hA hP hD (tL_door_xb l D cI cZ cJ h lev tm gn nL nC nE L B C E k hk hL hC on hno qo o sa hl9 _) gL_law_L_door rfl rfl rfl (by decide +kernel) ⟨Nat.le_of_ble_eq_true rfl, Nat.le_of_ble_eq_true rfl⟩ rfl hl.1 rfl (Nat.le_of_ble_eq_true rfl) dL_law_557 hroom) hP hD hS hA (fun r4 w1 H locs hp4 hP hD hS => ?_)
    obtain ⟨rfl, rfl⟩ := hp4
    have hP : va_P D vwCl ((wX cI cZ h lev tm gn nL nC nE L B C E ++ [(qo, .inl (cJ, 1, .inr (.inl o)))]) ++ (wM cI cZ g cd lev tm gn nL nC nE L B C F ys ao)) H := hP
    have hD : va_D A ((wX cI cZ h lev tm gn nL nC nE L B C E ++ [(qo, .inl (cJ, 1, .inr (.inl o)))]) ++ (wM cI cZ g cd lev tm gn nL nC nE L B C F ys ao)) := hD
    refine lv_istore (lv' := [(5, .int 2), (0, .ref sb), (1, .ref (h 0)), (2, .ref (g 0)), (3, .ref qo), (4, .int (nI i))]) hx hb dL_law_560 hl (by decide) rfl (fun ls hl => ?_)
    refine lv_aload_n hx hb dL_law_562 rfl (lv_at hl 3 rfl) ?_
    refine lv_aload_n hx hb dL_law_563 rfl (lv_at hl 1 rfl) ?_
    refine lv_iload hx hb dL_law_564 (lv_at hl 5 rfl) ?_
    refine lv_iconst (v := 1) hx hb dL_law_566 (by decide) ?_
    refine zn_add (i := i) (j := 1) hx hb dL_law_567 ?_
    refine z_sld (k := i + 1) (v := nI k) hx hb hXs hbl hbA hS (by omega) (by omega) e1 dL_law_568 ?_
    refine lv_aload_n hx hb dL_law_569 rfl (lv_at hl 1 rfl) ?_
    refine lv_iload hx hb dL_law_570 (lv_at hl 5 rfl) ?_
    refine lv_iconst (v := 2) hx hb dL_law_572 (by decide) ?_
    refine zn_add (i := i) (j := 2) hx hb dL_law_573 ?_
    refine z_sld (k := i + 2) (v := xs (i + 2)) hx hb hXs hbl hbA hS (by omega) (by omega) rfl dL_law_574 ?_
    refine lv_if_eq (x := xs (i + 2)) (tgt := 582) hx hb dL_law_575 (by decide) (fun c575 => ?_) (fun c575 => ?_)
    · exact absurd c575 c549
    · skip
      refine lv_iconst (v := 1) hx hb dL_law_578 (by decide) ?_
      refine lv_goto (tgt := 583) hx hb dL_law_579 (by decide) ?_
      refine z_top (show (1 : Int32) = bI on by rw [e2, decide_eq_false c549]; rfl) ?_
      refine z_backTv (wa := (wX cI cZ h lev tm gn nL nC nE L B C E ++ [(qo, .inl (cJ, 1, .inr (.inl o)))])) (w := (wM cI cZ g cd lev tm gn nL nC nE L B C F ys ao)) (z_runVT (wa := (wX cI cZ h lev tm gn nL nC nE L B C E ++ [(qo, .inl (cJ, 1, .inr (.inl o)))])) (w := (wM cI cZ g cd lev tm gn nL nC nE L B C F ys ao)) (n := 2) (As := [.int (nI k), .int (bI on)]) (ci := 5) (rest := []) hx hb hml hown hts hK hE hP hD (tX4_door_n2 l D cI cZ cJ g cd lev tm gn nL nC nE L B C F ys ao k m_hk m_hL m_hC on m_hno _) gL_law_X4_door rfl rfl rfl (by decide +kernel) ⟨Nat.le_of_ble_eq_true rfl, Nat.le_of_ble_eq_true rfl⟩ rfl rfl rfl hl.1 rfl (Nat.le_of_ble_eq_true rfl) dL_law_583 hroom) hP hD hS hA (fun w1 H locs hp5 hP hD hS => ?_)
      obtain rfl := hp5
      have hP : va_P D vwCl ((wX cI cZ h lev tm gn nL nC nE L B C E ++ [(qo, .inl (cJ, 1, .inr (.inl o)))]) ++ (wM cI cZ g 2 lev tm gn nL nC nE L B C F ys ao)) H := hP
      have hD : va_D A ((wX cI cZ h lev tm gn nL nC nE L B C E ++ [(qo, .inl (cJ, 1, .inr (.inl o)))]) ++ (wM cI cZ g 2 lev tm gn nL nC nE L B C F ys ao)) := hD
      refine lv_aload_n hx hb dL_law_586 rfl (lv_at hl 3 rfl) ?_
      refine z_backTi (wa := (wX cI cZ h lev tm gn nL nC nE L B C E ++ [(qo, .inl (cJ, 1, .inr (.inl o)))])) (w := (wM cI cZ g 2 lev tm gn nL nC nE L B C F ys ao)) (z_runVT (wa := (wX cI cZ h lev tm gn nL nC nE L B C E ++ [(qo, .inl (cJ, 1, .inr (.inl o)))])) (w := (wM cI cZ g 2 lev tm gn nL nC nE L B C F ys ao)) (n := 0) (As := []) (ci := 5) (rest := []) hx hb hml hown hts hK hE hP hD (tX4_thrown l D cI cZ cJ g 2 lev tm gn nL nC nE L B C F ys ao _) gL_law_X4_thrown rfl rfl rfl (by decide +kernel) ⟨Nat.le_of_ble_eq_true rfl, Nat.le_of_ble_eq_true rfl⟩ rfl rfl rfl hl.1 rfl (Nat.le_of_ble_eq_true rfl) dL_law_587 hroom) hP hD hS hA (fun r6 w1 H locs hp6 hP hD hS => ?_)
      obtain ⟨rfl, rfl⟩ := hp6
      have hP : va_P D vwCl ((wX cI cZ h lev tm gn nL nC nE L B C E ++ [(qo, .inl (cJ, 1, .inr (.inl o)))]) ++ (wM cI cZ g 2 lev tm gn nL nC nE L B C F ys ao)) H := hP
      have hD : va_D A ((wX cI cZ h lev tm gn nL nC nE L B C E ++ [(qo, .inl (cJ, 1, .inr (.inl o)))]) ++ (wM cI cZ g 2 lev tm gn nL nC nE L B C F ys ao)) := hD
      refine lv_iload hx hb dL_law_590 (lv_at hl 0 rfl) ?_
      refine zn_eq (i := 2) (j := 2) (tgt := 597) hx hb (by omega) (by omega) dL_law_592 (by decide) (fun c592 => ?_) (fun c592 => ?_)
      · skip
        refine lv_goto (tgt := 1117) hx hb dL_law_597 (by decide) ?_
        exact kk H locs ls (lv_sub hl [1, 2, 3, 4, 5] rfl) hP hD hS
      · exact absurd c592 (by omega)


set_option maxHeartbeats 4000000 in
set_option maxRecDepth 100000 in
theorem law_door_xc {p : Program} {l : Launch} {e : Env} {s : State} {m : MethodId} {below : List Frame} {meth : Method} {c : Code} {Q : State → Prop} {sb Ln : Nat} {xs : Nat → Int32} {D : va_G} {cI cZ cJ : ClassId} {A : Nat → Prop} {sa : Nat → Nat} (cx : zCx p l s m meth c sb Ln xs D cI cZ cJ A sa) (h g : Nat → Nat) (lev tm : Nat) (gn : Int32) (nL nC nE : Nat) (L B C E F : Nat → Nat → Int32) (qo : Nat) (o : Nat → Int64) (cd : Int32) (ys ao : Nat → Int32) (i : Nat) (hi : i + 5 ≤ Ln) (k : Nat) (hk : k < nL) (hL : nL ≤ 4) (hC : nC ≤ 24) (on : Bool) (hyes : ¬ B 2 k = bI on) (hon : on = true) (ho : L 3 k = 0) (m_hk : k < nL) (m_hL : nL ≤ 4) (m_hC : nC ≤ 24) (m_hno : B 2 k = bI on ∨ (on = true ∧ L 3 k = 0)) (e1 : xs (i + 1) = nI k) (e2 : on = !decide (xs (i + 2) = 0)) {H : Heap} {locs : List Loc} {cells slots : Nat} {ls : Array Slot} (hl : lv_has ls 7 [(0, .ref sb), (1, .ref (h 0)), (2, .ref (g 0)), (3, .ref qo), (4, .int (nI i))]) (hP : va_P D vwCl (wV cI cZ cJ h lev tm gn nL nC nE L B C E qo o ++ wM cI cZ g cd lev tm gn nL nC nE L B C F ys ao) H) (hD : va_D A (wV cI cZ cJ h lev tm gn nL nC nE L B C E qo o ++ wM cI cZ g cd lev tm gn nL nC nE L B C F ys ao)) (hS : va_S A s.heap H locs) (hroom : cells + 1 ≤ room_1.cells ∧ slots + 6 ≤ room_1.slots) (kk : ∀ (H1 : Heap) (locs1 : List Loc) (ls1 : Array Slot), lv_has ls1 7 [(0, .ref sb), (1, .ref (h 0)), (2, .ref (g 0)), (3, .ref qo), (4, .int (nI i))] → va_P D vwCl (wX cI cZ h lev tm gn nL nC nE L B C E ++ [(qo, .inl (cJ, 1, .inr (.inl o)))] ++ wM cI cZ g 2 lev tm gn nL nC nE L B C F ys ao) H1 → va_D A (wX cI cZ h lev tm gn nL nC nE L B C E ++ [(qo, .inl (cJ, 1, .inr (.inl o)))] ++ wM cI cZ g 2 lev tm gn nL nC nE L B C F ys ao) → va_S A s.heap H1 locs1 → W p l e room_1 s m #[Value.ref sb] below meth c H1 locs1 (cells + 1) (slots + 6) Q (F0 m 1117 ls1 []))  : W p l e room_1 s m #[Value.ref sb] below meth c H locs cells slots Q (F0 m 536 ls []) := by
  obtain ⟨hx, hb, hr9, hml, hlocks, hown, htsO, hK, hE, hX, hN, hA, hXs, hbl, hbA, hl9, hLn⟩ := cx
  have hts : ∀ w ∈ wsL_law, w.before #[Value.ref sb] s = true := fun w h9 => htsO w (lawO_l h9)
  refine lv_aload_n hx hb dL_law_536 rfl (lv_at hl 1 rfl) ?_
  refine lv_aload_n hx hb dL_law_537 rfl (lv_at hl 0 rfl) ?_
  refine lv_iload hx hb dL_law_538 (lv_at hl 4 rfl) ?_
  refine lv_iconst (v := 1) hx hb dL_law_540 (by decide) ?_
  refine zn_add (i := i) (j := 1) hx hb dL_law_541 ?_
  refine z_sld (k := i + 1) (v := nI k) hx hb hXs hbl hbA hS (by omega) (by omega) e1 dL_law_542 ?_
  refine lv_aload_n hx hb dL_law_543 rfl (lv_at hl 0 rfl) ?_
  refine lv_iload hx hb dL_law_544 (lv_at hl 4 rfl) ?_
  refine lv_iconst (v := 2) hx hb dL_law_546 (by decide) ?_
  refine zn_add (i := i) (j := 2) hx hb dL_law_547 ?_
  refine z_sld (k := i + 2) (v := xs (i + 2)) hx hb hXs hbl hbA hS (by omega) (by omega) rfl dL_law_548 ?_
  refine lv_if_eq (x := xs (i + 2)) (tgt := 556) hx hb dL_law_549 (by decide) (fun c549 => ?_) (fun c549 => ?_)
  · skip
    refine lv_iconst (v := 0) hx hb dL_law_556 (by decide) ?_
    refine z_top (show (0 : Int32) = bI on by rw [e2, decide_eq_true c549]; rfl) ?_
    refine z_backSi (wa := []) (w := (wV cI cZ cJ h lev tm gn nL nC nE L B C E qo o)) (wb := (wM cI cZ g cd lev tm gn nL nC nE L B C F ys ao)) (z_runSL (wa := []) (w := (wV cI cZ cJ h lev tm gn nL nC nE L B C E qo o)) (wb := (wM cI cZ g cd lev tm gn nL nC nE L B C F ys ao)) (n := 3) (As := [.ref (h 0), .int (nI k), .int (bI on)]) (rest := []) hx hb hml hown hts hK hE hX hN hS hA hP hD (tL_door_xc l D cI cZ cJ h lev tm gn nL nC nE L B C E k hk hL hC on hyes hon ho qo o sa hl9 _) gL_law_L_door rfl rfl rfl (by decide +kernel) ⟨Nat.le_of_ble_eq_true rfl, Nat.le_of_ble_eq_true rfl⟩ rfl hl.1 rfl (Nat.le_of_ble_eq_true rfl) dL_law_557 hroom) hP hD hS hA (fun r1 w1 H locs hp1 hP hD hS => ?_)
    obtain ⟨rfl, rfl⟩ := hp1
    have hP : va_P D vwCl ((wX cI cZ h lev tm gn nL nC nE L B C E ++ [(qo, .inl (cJ, 1, .inr (.inl o)))]) ++ (wM cI cZ g cd lev tm gn nL nC nE L B C F ys ao)) H := hP
    have hD : va_D A ((wX cI cZ h lev tm gn nL nC nE L B C E ++ [(qo, .inl (cJ, 1, .inr (.inl o)))]) ++ (wM cI cZ g cd lev tm gn nL nC nE L B C F ys ao)) := hD
    refine lv_istore (lv' := [(5, .int 2), (0, .ref sb), (1, .ref (h 0)), (2, .ref (g 0)), (3, .ref qo), (4, .int (nI i))]) hx hb dL_law_560 hl (by decide) rfl (fun ls hl => ?_)
    refine lv_aload_n hx hb dL_law_562 rfl (lv_at hl 3 rfl) ?_
    refine lv_aload_n hx hb dL_law_563 rfl (lv_at hl 1 rfl) ?_
    refine lv_iload hx hb dL_law_564 (lv_at hl 5 rfl) ?_
    refine lv_iconst (v := 1) hx hb dL_law_566 (by decide) ?_
    refine zn_add (i := i) (j := 1) hx hb dL_law_567 ?_
    refine z_sld (k := i + 1) (v := nI k) hx hb hXs hbl hbA hS (by omega) (by omega) e1 dL_law_568 ?_
    refine lv_aload_n hx hb dL_law_569 rfl (lv_at hl 1 rfl) ?_
    refine lv_iload hx hb dL_law_570 (lv_at hl 5 rfl) ?_
    refine lv_iconst (v := 2) hx hb dL_law_572 (by decide) ?_
    refine zn_add (i := i) (j := 2) hx hb dL_law_573 ?_
    refine z_sld (k := i + 2) (v := xs (i + 2)) hx hb hXs hbl hbA hS (by omega) (by omega) rfl dL_law_574 ?_
    refine lv_if_eq (x := xs (i + 2)) (tgt := 582) hx hb dL_law_575 (by decide) (fun c575 => ?_) (fun c575 => ?_)
    · skip
      refine lv_iconst (v := 0) hx hb dL_law_582 (by decide) ?_
      refine z_top (show (0 : Int32) = bI on by rw [e2, decide_eq_true c549]; rfl) ?_
      refine z_backTv (wa := (wX cI cZ h lev tm gn nL nC nE L B C E ++ [(qo, .inl (cJ, 1, .inr (.inl o)))])) (w := (wM cI cZ g cd lev tm gn nL nC nE L B C F ys ao)) (z_runVT (wa := (wX cI cZ h lev tm gn nL nC nE L B C E ++ [(qo, .inl (cJ, 1, .inr (.inl o)))])) (w := (wM cI cZ g cd lev tm gn nL nC nE L B C F ys ao)) (n := 2) (As := [.int (nI k), .int (bI on)]) (ci := 5) (rest := []) hx hb hml hown hts hK hE hP hD (tX4_door_n2 l D cI cZ cJ g cd lev tm gn nL nC nE L B C F ys ao k m_hk m_hL m_hC on m_hno _) gL_law_X4_door rfl rfl rfl (by decide +kernel) ⟨Nat.le_of_ble_eq_true rfl, Nat.le_of_ble_eq_true rfl⟩ rfl rfl rfl hl.1 rfl (Nat.le_of_ble_eq_true rfl) dL_law_583 hroom) hP hD hS hA (fun w1 H locs hp2 hP hD hS => ?_)
      obtain rfl := hp2
      have hP : va_P D vwCl ((wX cI cZ h lev tm gn nL nC nE L B C E ++ [(qo, .inl (cJ, 1, .inr (.inl o)))]) ++ (wM cI cZ g 2 lev tm gn nL nC nE L B C F ys ao)) H := hP
      have hD : va_D A ((wX cI cZ h lev tm gn nL nC nE L B C E ++ [(qo, .inl (cJ, 1, .inr (.inl o)))]) ++ (wM cI cZ g 2 lev tm gn nL nC nE L B C F ys ao)) := hD
      refine lv_aload_n hx hb dL_law_586 rfl (lv_at hl 3 rfl) ?_
      refine z_backTi (wa := (wX cI cZ h lev tm gn nL nC nE L B C E ++ [(qo, .inl (cJ, 1, .inr (.inl o)))])) (w := (wM cI cZ g 2 lev tm gn nL nC nE L B C F ys ao)) (z_runVT (wa := (wX cI cZ h lev tm gn nL nC nE L B C E ++ [(qo, .inl (cJ, 1, .inr (.inl o)))])) (w := (wM cI cZ g 2 lev tm gn nL nC nE L B C F ys ao)) (n := 0) (As := []) (ci := 5) (rest := []) hx hb hml hown hts hK hE hP hD (tX4_thrown l D cI cZ cJ g 2 lev tm gn nL nC nE L B C F ys ao _) gL_law_X4_thrown rfl rfl rfl (by decide +kernel) ⟨Nat.le_of_ble_eq_true rfl, Nat.le_of_ble_eq_true rfl⟩ rfl rfl rfl hl.1 rfl (Nat.le_of_ble_eq_true rfl) dL_law_587 hroom) hP hD hS hA (fun r3 w1 H locs hp3 hP hD hS => ?_)
      obtain ⟨rfl, rfl⟩ := hp3
      have hP : va_P D vwCl ((wX cI cZ h lev tm gn nL nC nE L B C E ++ [(qo, .inl (cJ, 1, .inr (.inl o)))]) ++ (wM cI cZ g 2 lev tm gn nL nC nE L B C F ys ao)) H := hP
      have hD : va_D A ((wX cI cZ h lev tm gn nL nC nE L B C E ++ [(qo, .inl (cJ, 1, .inr (.inl o)))]) ++ (wM cI cZ g 2 lev tm gn nL nC nE L B C F ys ao)) := hD
      refine lv_iload hx hb dL_law_590 (lv_at hl 0 rfl) ?_
      refine zn_eq (i := 2) (j := 2) (tgt := 597) hx hb (by omega) (by omega) dL_law_592 (by decide) (fun c592 => ?_) (fun c592 => ?_)
      · skip
        refine lv_goto (tgt := 1117) hx hb dL_law_597 (by decide) ?_
        exact kk H locs ls (lv_sub hl [1, 2, 3, 4, 5] rfl) hP hD hS
      · exact absurd c592 (by omega)
    · exact absurd c549 c575
  · skip
    refine lv_iconst (v := 1) hx hb dL_law_552 (by decide) ?_
    refine lv_goto (tgt := 557) hx hb dL_law_553 (by decide) ?_
    refine z_top (show (1 : Int32) = bI on by rw [e2, decide_eq_false c549]; rfl) ?_
    refine z_backSi (wa := []) (w := (wV cI cZ cJ h lev tm gn nL nC nE L B C E qo o)) (wb := (wM cI cZ g cd lev tm gn nL nC nE L B C F ys ao)) (z_runSL (wa := []) (w := (wV cI cZ cJ h lev tm gn nL nC nE L B C E qo o)) (wb := (wM cI cZ g cd lev tm gn nL nC nE L B C F ys ao)) (n := 3) (As := [.ref (h 0), .int (nI k), .int (bI on)]) (rest := []) hx hb hml hown hts hK hE hX hN hS hA hP hD (tL_door_xc l D cI cZ cJ h lev tm gn nL nC nE L B C E k hk hL hC on hyes hon ho qo o sa hl9 _) gL_law_L_door rfl rfl rfl (by decide +kernel) ⟨Nat.le_of_ble_eq_true rfl, Nat.le_of_ble_eq_true rfl⟩ rfl hl.1 rfl (Nat.le_of_ble_eq_true rfl) dL_law_557 hroom) hP hD hS hA (fun r4 w1 H locs hp4 hP hD hS => ?_)
    obtain ⟨rfl, rfl⟩ := hp4
    have hP : va_P D vwCl ((wX cI cZ h lev tm gn nL nC nE L B C E ++ [(qo, .inl (cJ, 1, .inr (.inl o)))]) ++ (wM cI cZ g cd lev tm gn nL nC nE L B C F ys ao)) H := hP
    have hD : va_D A ((wX cI cZ h lev tm gn nL nC nE L B C E ++ [(qo, .inl (cJ, 1, .inr (.inl o)))]) ++ (wM cI cZ g cd lev tm gn nL nC nE L B C F ys ao)) := hD
    refine lv_istore (lv' := [(5, .int 2), (0, .ref sb), (1, .ref (h 0)), (2, .ref (g 0)), (3, .ref qo), (4, .int (nI i))]) hx hb dL_law_560 hl (by decide) rfl (fun ls hl => ?_)
    refine lv_aload_n hx hb dL_law_562 rfl (lv_at hl 3 rfl) ?_
    refine lv_aload_n hx hb dL_law_563 rfl (lv_at hl 1 rfl) ?_
    refine lv_iload hx hb dL_law_564 (lv_at hl 5 rfl) ?_
    refine lv_iconst (v := 1) hx hb dL_law_566 (by decide) ?_
    refine zn_add (i := i) (j := 1) hx hb dL_law_567 ?_
    refine z_sld (k := i + 1) (v := nI k) hx hb hXs hbl hbA hS (by omega) (by omega) e1 dL_law_568 ?_
    refine lv_aload_n hx hb dL_law_569 rfl (lv_at hl 1 rfl) ?_
    refine lv_iload hx hb dL_law_570 (lv_at hl 5 rfl) ?_
    refine lv_iconst (v := 2) hx hb dL_law_572 (by decide) ?_
    refine zn_add (i := i) (j := 2) hx hb dL_law_573 ?_
    refine z_sld (k := i + 2) (v := xs (i + 2)) hx hb hXs hbl hbA hS (by omega) (by omega) rfl dL_law_574 ?_
    refine lv_if_eq (x := xs (i + 2)) (tgt := 582) hx hb dL_law_575 (by decide) (fun c575 => ?_) (fun c575 => ?_)
    · exact absurd c575 c549
    · skip
      refine lv_iconst (v := 1) hx hb dL_law_578 (by decide) ?_
      refine lv_goto (tgt := 583) hx hb dL_law_579 (by decide) ?_
      refine z_top (show (1 : Int32) = bI on by rw [e2, decide_eq_false c549]; rfl) ?_
      refine z_backTv (wa := (wX cI cZ h lev tm gn nL nC nE L B C E ++ [(qo, .inl (cJ, 1, .inr (.inl o)))])) (w := (wM cI cZ g cd lev tm gn nL nC nE L B C F ys ao)) (z_runVT (wa := (wX cI cZ h lev tm gn nL nC nE L B C E ++ [(qo, .inl (cJ, 1, .inr (.inl o)))])) (w := (wM cI cZ g cd lev tm gn nL nC nE L B C F ys ao)) (n := 2) (As := [.int (nI k), .int (bI on)]) (ci := 5) (rest := []) hx hb hml hown hts hK hE hP hD (tX4_door_n2 l D cI cZ cJ g cd lev tm gn nL nC nE L B C F ys ao k m_hk m_hL m_hC on m_hno _) gL_law_X4_door rfl rfl rfl (by decide +kernel) ⟨Nat.le_of_ble_eq_true rfl, Nat.le_of_ble_eq_true rfl⟩ rfl rfl rfl hl.1 rfl (Nat.le_of_ble_eq_true rfl) dL_law_583 hroom) hP hD hS hA (fun w1 H locs hp5 hP hD hS => ?_)
      obtain rfl := hp5
      have hP : va_P D vwCl ((wX cI cZ h lev tm gn nL nC nE L B C E ++ [(qo, .inl (cJ, 1, .inr (.inl o)))]) ++ (wM cI cZ g 2 lev tm gn nL nC nE L B C F ys ao)) H := hP
      have hD : va_D A ((wX cI cZ h lev tm gn nL nC nE L B C E ++ [(qo, .inl (cJ, 1, .inr (.inl o)))]) ++ (wM cI cZ g 2 lev tm gn nL nC nE L B C F ys ao)) := hD
      refine lv_aload_n hx hb dL_law_586 rfl (lv_at hl 3 rfl) ?_
      refine z_backTi (wa := (wX cI cZ h lev tm gn nL nC nE L B C E ++ [(qo, .inl (cJ, 1, .inr (.inl o)))])) (w := (wM cI cZ g 2 lev tm gn nL nC nE L B C F ys ao)) (z_runVT (wa := (wX cI cZ h lev tm gn nL nC nE L B C E ++ [(qo, .inl (cJ, 1, .inr (.inl o)))])) (w := (wM cI cZ g 2 lev tm gn nL nC nE L B C F ys ao)) (n := 0) (As := []) (ci := 5) (rest := []) hx hb hml hown hts hK hE hP hD (tX4_thrown l D cI cZ cJ g 2 lev tm gn nL nC nE L B C F ys ao _) gL_law_X4_thrown rfl rfl rfl (by decide +kernel) ⟨Nat.le_of_ble_eq_true rfl, Nat.le_of_ble_eq_true rfl⟩ rfl rfl rfl hl.1 rfl (Nat.le_of_ble_eq_true rfl) dL_law_587 hroom) hP hD hS hA (fun r6 w1 H locs hp6 hP hD hS => ?_)
      obtain ⟨rfl, rfl⟩ := hp6
      have hP : va_P D vwCl ((wX cI cZ h lev tm gn nL nC nE L B C E ++ [(qo, .inl (cJ, 1, .inr (.inl o)))]) ++ (wM cI cZ g 2 lev tm gn nL nC nE L B C F ys ao)) H := hP
      have hD : va_D A ((wX cI cZ h lev tm gn nL nC nE L B C E ++ [(qo, .inl (cJ, 1, .inr (.inl o)))]) ++ (wM cI cZ g 2 lev tm gn nL nC nE L B C F ys ao)) := hD
      refine lv_iload hx hb dL_law_590 (lv_at hl 0 rfl) ?_
      refine zn_eq (i := 2) (j := 2) (tgt := 597) hx hb (by omega) (by omega) dL_law_592 (by decide) (fun c592 => ?_) (fun c592 => ?_)
      · skip
        refine lv_goto (tgt := 1117) hx hb dL_law_597 (by decide) ?_
        exact kk H locs ls (lv_sub hl [1, 2, 3, 4, 5] rfl) hP hD hS
      · exact absurd c592 (by omega)


set_option maxHeartbeats 4000000 in
set_option maxRecDepth 100000 in
theorem law_stuck_of {p : Program} {l : Launch} {e : Env} {s : State} {m : MethodId} {below : List Frame} {meth : Method} {c : Code} {Q : State → Prop} {sb Ln : Nat} {xs : Nat → Int32} {D : va_G} {cI cZ cJ : ClassId} {A : Nat → Prop} {sa : Nat → Nat} (cx : zCx p l s m meth c sb Ln xs D cI cZ cJ A sa) (h g : Nat → Nat) (lev tm : Nat) (gn : Int32) (nL nC nE : Nat) (L B C E F : Nat → Nat → Int32) (qo : Nat) (o : Nat → Int64) (cd : Int32) (ys ao : Nat → Int32) (i : Nat) (hi : i + 5 ≤ Ln) (k : Nat) (hk : k < nL) (hL : nL ≤ 4) (hC : nC ≤ 24) (hyes : ¬ B 0 k = 0) (m_hk : k < nL) (m_hL : nL ≤ 4) (m_hC : nC ≤ 24) (m_hyes : ¬ B 0 k = 0) (e1 : xs (i + 1) = nI k) (e2 : false = !decide (xs (i + 2) = 0)) (hr : nI (cntW (fun i => isB C i 1 (nI k)) nC) = nI (cntW (fun i => isB C i 1 (nI k)) nC)) {H : Heap} {locs : List Loc} {cells slots : Nat} {ls : Array Slot} (hl : lv_has ls 7 [(0, .ref sb), (1, .ref (h 0)), (2, .ref (g 0)), (3, .ref qo), (4, .int (nI i))]) (hP : va_P D vwCl (wV cI cZ cJ h lev tm gn nL nC nE L B C E qo o ++ wM cI cZ g cd lev tm gn nL nC nE L B C F ys ao) H) (hD : va_D A (wV cI cZ cJ h lev tm gn nL nC nE L B C E qo o ++ wM cI cZ g cd lev tm gn nL nC nE L B C F ys ao)) (hS : va_S A s.heap H locs) (hroom : cells + 1 ≤ room_1.cells ∧ slots + 6 ≤ room_1.slots) (kk : ∀ (H1 : Heap) (locs1 : List Loc) (ls1 : Array Slot), lv_has ls1 7 [(0, .ref sb), (1, .ref (h 0)), (2, .ref (g 0)), (3, .ref qo), (4, .int (nI i))] → va_P D vwCl (wX cI cZ h lev tm gn nL nC nE L (upC B 0 k 0) C E ++ [(qo, .inl (cJ, 1, .inr (.inl (vp_updL o 0 (nI (cntW (fun i => isB C i 1 (nI k)) nC)).toInt64))))] ++ wM cI cZ g 0 lev tm gn nL nC nE L (upC B 0 k 0) C F ys ao) H1 → va_D A (wX cI cZ h lev tm gn nL nC nE L (upC B 0 k 0) C E ++ [(qo, .inl (cJ, 1, .inr (.inl (vp_updL o 0 (nI (cntW (fun i => isB C i 1 (nI k)) nC)).toInt64))))] ++ wM cI cZ g 0 lev tm gn nL nC nE L (upC B 0 k 0) C F ys ao) → va_S A s.heap H1 locs1 → W p l e room_1 s m #[Value.ref sb] below meth c H1 locs1 (cells + 1) (slots + 6) Q (F0 m 1117 ls1 []))  : W p l e room_1 s m #[Value.ref sb] below meth c H locs cells slots Q (F0 m 600 ls []) := by
  obtain ⟨hx, hb, hr9, hml, hlocks, hown, htsO, hK, hE, hX, hN, hA, hXs, hbl, hbA, hl9, hLn⟩ := cx
  have hts : ∀ w ∈ wsL_law, w.before #[Value.ref sb] s = true := fun w h9 => htsO w (lawO_l h9)
  refine lv_aload_n hx hb dL_law_600 rfl (lv_at hl 1 rfl) ?_
  refine lv_aload_n hx hb dL_law_601 rfl (lv_at hl 0 rfl) ?_
  refine lv_iload hx hb dL_law_602 (lv_at hl 4 rfl) ?_
  refine lv_iconst (v := 1) hx hb dL_law_604 (by decide) ?_
  refine zn_add (i := i) (j := 1) hx hb dL_law_605 ?_
  refine z_sld (k := i + 1) (v := nI k) hx hb hXs hbl hbA hS (by omega) (by omega) e1 dL_law_606 ?_
  refine lv_aload_n hx hb dL_law_607 rfl (lv_at hl 0 rfl) ?_
  refine lv_iload hx hb dL_law_608 (lv_at hl 4 rfl) ?_
  refine lv_iconst (v := 2) hx hb dL_law_610 (by decide) ?_
  refine zn_add (i := i) (j := 2) hx hb dL_law_611 ?_
  refine z_sld (k := i + 2) (v := xs (i + 2)) hx hb hXs hbl hbA hS (by omega) (by omega) rfl dL_law_612 ?_
  refine lv_if_eq (x := xs (i + 2)) (tgt := 620) hx hb dL_law_613 (by decide) (fun c613 => ?_) (fun c613 => ?_)
  · skip
    refine lv_iconst (v := 0) hx hb dL_law_620 (by decide) ?_
    refine z_top (show (0 : Int32) = bI false by rw [e2, decide_eq_true c613]; rfl) ?_
    refine lv_aload_n hx hb dL_law_621 rfl (lv_at hl 3 rfl) ?_
    refine z_backSi (wa := []) (w := (wV cI cZ cJ h lev tm gn nL nC nE L B C E qo o)) (wb := (wM cI cZ g cd lev tm gn nL nC nE L B C F ys ao)) (z_runSL (wa := []) (w := (wV cI cZ cJ h lev tm gn nL nC nE L B C E qo o)) (wb := (wM cI cZ g cd lev tm gn nL nC nE L B C F ys ao)) (n := 4) (As := [.ref (h 0), .int (nI k), .int (bI false), .ref qo]) (rest := []) hx hb hml hown hts hK hE hX hN hS hA hP hD (tL_stuck_of l D cI cZ cJ h lev tm gn nL nC nE L B C E k hk hL hC hyes qo o sa _) gL_law_L_stuck rfl rfl rfl (by decide +kernel) ⟨Nat.le_of_ble_eq_true rfl, Nat.le_of_ble_eq_true rfl⟩ rfl hl.1 rfl (Nat.le_of_ble_eq_true rfl) dL_law_622 hroom) hP hD hS hA (fun r1 w1 H locs hp1 hP hD hS => ?_)
    obtain ⟨rfl, rfl⟩ := hp1
    have hP : va_P D vwCl ((wX cI cZ h lev tm gn nL nC nE L (upC B 0 k 0) C E ++ [(qo, .inl (cJ, 1, .inr (.inl (vp_updL o 0 (nI (cntW (fun i => isB C i 1 (nI k)) nC)).toInt64))))]) ++ (wM cI cZ g cd lev tm gn nL nC nE L B C F ys ao)) H := hP
    have hD : va_D A ((wX cI cZ h lev tm gn nL nC nE L (upC B 0 k 0) C E ++ [(qo, .inl (cJ, 1, .inr (.inl (vp_updL o 0 (nI (cntW (fun i => isB C i 1 (nI k)) nC)).toInt64))))]) ++ (wM cI cZ g cd lev tm gn nL nC nE L B C F ys ao)) := hD
    refine lv_istore (lv' := [(5, .int 0), (0, .ref sb), (1, .ref (h 0)), (2, .ref (g 0)), (3, .ref qo), (4, .int (nI i))]) hx hb dL_law_625 hl (by decide) rfl (fun ls hl => ?_)
    refine lv_aload_n hx hb dL_law_627 rfl (lv_at hl 3 rfl) ?_
    refine lv_aload_n hx hb dL_law_628 rfl (lv_at hl 1 rfl) ?_
    refine lv_iload hx hb dL_law_629 (lv_at hl 5 rfl) ?_
    refine lv_iconst (v := 1) hx hb dL_law_631 (by decide) ?_
    refine zn_add (i := i) (j := 1) hx hb dL_law_632 ?_
    refine z_sld (k := i + 1) (v := nI k) hx hb hXs hbl hbA hS (by omega) (by omega) e1 dL_law_633 ?_
    refine lv_aload_n hx hb dL_law_634 rfl (lv_at hl 1 rfl) ?_
    refine lv_iload hx hb dL_law_635 (lv_at hl 5 rfl) ?_
    refine lv_iconst (v := 2) hx hb dL_law_637 (by decide) ?_
    refine zn_add (i := i) (j := 2) hx hb dL_law_638 ?_
    refine z_sld (k := i + 2) (v := xs (i + 2)) hx hb hXs hbl hbA hS (by omega) (by omega) rfl dL_law_639 ?_
    refine lv_if_eq (x := xs (i + 2)) (tgt := 647) hx hb dL_law_640 (by decide) (fun c640 => ?_) (fun c640 => ?_)
    · skip
      refine lv_iconst (v := 0) hx hb dL_law_647 (by decide) ?_
      refine z_top (show (0 : Int32) = bI false by rw [e2, decide_eq_true c613]; rfl) ?_
      refine z_backTi (wa := (wX cI cZ h lev tm gn nL nC nE L (upC B 0 k 0) C E ++ [(qo, .inl (cJ, 1, .inr (.inl (vp_updL o 0 (nI (cntW (fun i => isB C i 1 (nI k)) nC)).toInt64))))])) (w := (wM cI cZ g cd lev tm gn nL nC nE L B C F ys ao)) (z_runVT (wa := (wX cI cZ h lev tm gn nL nC nE L (upC B 0 k 0) C E ++ [(qo, .inl (cJ, 1, .inr (.inl (vp_updL o 0 (nI (cntW (fun i => isB C i 1 (nI k)) nC)).toInt64))))])) (w := (wM cI cZ g cd lev tm gn nL nC nE L B C F ys ao)) (n := 2) (As := [.int (nI k), .int (bI false)]) (ci := 5) (rest := []) hx hb hml hown hts hK hE hP hD (tX4_stuck_of l D cI cZ cJ g cd lev tm gn nL nC nE L B C F ys ao k m_hk m_hL m_hC m_hyes _) gL_law_X4_stuck rfl rfl rfl (by decide +kernel) ⟨Nat.le_of_ble_eq_true rfl, Nat.le_of_ble_eq_true rfl⟩ rfl rfl rfl hl.1 rfl (Nat.le_of_ble_eq_true rfl) dL_law_648 hroom) hP hD hS hA (fun r2 w1 H locs hp2 hP hD hS => ?_)
      obtain ⟨rfl, rfl⟩ := hp2
      have hP : va_P D vwCl ((wX cI cZ h lev tm gn nL nC nE L (upC B 0 k 0) C E ++ [(qo, .inl (cJ, 1, .inr (.inl (vp_updL o 0 (nI (cntW (fun i => isB C i 1 (nI k)) nC)).toInt64))))]) ++ (wM cI cZ g 0 lev tm gn nL nC nE L (upC B 0 k 0) C F ys ao)) H := hP
      have hD : va_D A ((wX cI cZ h lev tm gn nL nC nE L (upC B 0 k 0) C E ++ [(qo, .inl (cJ, 1, .inr (.inl (vp_updL o 0 (nI (cntW (fun i => isB C i 1 (nI k)) nC)).toInt64))))]) ++ (wM cI cZ g 0 lev tm gn nL nC nE L (upC B 0 k 0) C F ys ao)) := hD
      refine lv_istore (lv' := [(6, .int (nI (cntW (fun i => isB C i 1 (nI k)) nC))), (5, .int 0), (0, .ref sb), (1, .ref (h 0)), (2, .ref (g 0)), (3, .ref qo), (4, .int (nI i))]) hx hb dL_law_651 hl (by decide) rfl (fun ls hl => ?_)
      refine lv_aload_n hx hb dL_law_653 rfl (lv_at hl 4 rfl) ?_
      refine z_backTi (wa := (wX cI cZ h lev tm gn nL nC nE L (upC B 0 k 0) C E ++ [(qo, .inl (cJ, 1, .inr (.inl (vp_updL o 0 (nI (cntW (fun i => isB C i 1 (nI k)) nC)).toInt64))))])) (w := (wM cI cZ g 0 lev tm gn nL nC nE L (upC B 0 k 0) C F ys ao)) (z_runVT (wa := (wX cI cZ h lev tm gn nL nC nE L (upC B 0 k 0) C E ++ [(qo, .inl (cJ, 1, .inr (.inl (vp_updL o 0 (nI (cntW (fun i => isB C i 1 (nI k)) nC)).toInt64))))])) (w := (wM cI cZ g 0 lev tm gn nL nC nE L (upC B 0 k 0) C F ys ao)) (n := 0) (As := []) (ci := 5) (rest := []) hx hb hml hown hts hK hE hP hD (tX4_thrown l D cI cZ cJ g 0 lev tm gn nL nC nE L (upC B 0 k 0) C F ys ao _) gL_law_X4_thrown rfl rfl rfl (by decide +kernel) ⟨Nat.le_of_ble_eq_true rfl, Nat.le_of_ble_eq_true rfl⟩ rfl rfl rfl hl.1 rfl (Nat.le_of_ble_eq_true rfl) dL_law_654 hroom) hP hD hS hA (fun r3 w1 H locs hp3 hP hD hS => ?_)
      obtain ⟨rfl, rfl⟩ := hp3
      have hP : va_P D vwCl ((wX cI cZ h lev tm gn nL nC nE L (upC B 0 k 0) C E ++ [(qo, .inl (cJ, 1, .inr (.inl (vp_updL o 0 (nI (cntW (fun i => isB C i 1 (nI k)) nC)).toInt64))))]) ++ (wM cI cZ g 0 lev tm gn nL nC nE L (upC B 0 k 0) C F ys ao)) H := hP
      have hD : va_D A ((wX cI cZ h lev tm gn nL nC nE L (upC B 0 k 0) C E ++ [(qo, .inl (cJ, 1, .inr (.inl (vp_updL o 0 (nI (cntW (fun i => isB C i 1 (nI k)) nC)).toInt64))))]) ++ (wM cI cZ g 0 lev tm gn nL nC nE L (upC B 0 k 0) C F ys ao)) := hD
      refine lv_iload hx hb dL_law_657 (lv_at hl 1 rfl) ?_
      refine zn_eq (i := 0) (j := 0) (tgt := 664) hx hb (by omega) (by omega) dL_law_659 (by decide) (fun c659 => ?_) (fun c659 => ?_)
      · skip
        refine lv_iload hx hb dL_law_664 (lv_at hl 1 rfl) ?_
        refine lv_if_ne (x := 0) (tgt := 681) hx hb dL_law_666 (by decide) (fun c666 => ?_) (fun c666 => ?_)
        · exact absurd c666 (by decide)
        · skip
          refine lv_aload_n hx hb dL_law_669 rfl (lv_at hl 5 rfl) ?_
          refine lv_iconst (v := 0) hx hb dL_law_670 (by decide) ?_
          refine z_lald0 hx hb hK hP 24 rfl dL_law_671 ?_
          refine lv_iload hx hb dL_law_672 (lv_at hl 0 rfl) ?_
          refine lv_i2l (v := (nI (cntW (fun i => isB C i 1 (nI k)) nC)).toInt64) hx hb dL_law_674 rfl ?_
          refine W.lcmp (x := (vp_updL o 0 (nI (cntW (fun i => isB C i 1 (nI k)) nC)).toInt64) 0) (y := (nI (cntW (fun i => isB C i 1 (nI k)) nC)).toInt64) hx hb dL_law_675 ?_
          refine z_top (lg_eq hr) ?_
          refine lv_if_eq (x := 0) (tgt := 681) hx hb dL_law_676 (by decide) (fun c676 => ?_) (fun c676 => ?_)
          · skip
            refine lv_goto (tgt := 1117) hx hb dL_law_681 (by decide) ?_
            exact kk H locs ls (lv_sub hl [2, 3, 4, 5, 6] rfl) hP hD hS
          · exact absurd c676 (by decide)
      · exact absurd c659 (by omega)
    · exact absurd c613 c640
  · skip
    refine lv_iconst (v := 1) hx hb dL_law_616 (by decide) ?_
    refine lv_goto (tgt := 621) hx hb dL_law_617 (by decide) ?_
    refine z_top (show (1 : Int32) = bI false by rw [e2, decide_eq_false c613]; rfl) ?_
    refine lv_aload_n hx hb dL_law_621 rfl (lv_at hl 3 rfl) ?_
    refine z_backSi (wa := []) (w := (wV cI cZ cJ h lev tm gn nL nC nE L B C E qo o)) (wb := (wM cI cZ g cd lev tm gn nL nC nE L B C F ys ao)) (z_runSL (wa := []) (w := (wV cI cZ cJ h lev tm gn nL nC nE L B C E qo o)) (wb := (wM cI cZ g cd lev tm gn nL nC nE L B C F ys ao)) (n := 4) (As := [.ref (h 0), .int (nI k), .int (bI false), .ref qo]) (rest := []) hx hb hml hown hts hK hE hX hN hS hA hP hD (tL_stuck_of l D cI cZ cJ h lev tm gn nL nC nE L B C E k hk hL hC hyes qo o sa _) gL_law_L_stuck rfl rfl rfl (by decide +kernel) ⟨Nat.le_of_ble_eq_true rfl, Nat.le_of_ble_eq_true rfl⟩ rfl hl.1 rfl (Nat.le_of_ble_eq_true rfl) dL_law_622 hroom) hP hD hS hA (fun r4 w1 H locs hp4 hP hD hS => ?_)
    obtain ⟨rfl, rfl⟩ := hp4
    have hP : va_P D vwCl ((wX cI cZ h lev tm gn nL nC nE L (upC B 0 k 0) C E ++ [(qo, .inl (cJ, 1, .inr (.inl (vp_updL o 0 (nI (cntW (fun i => isB C i 1 (nI k)) nC)).toInt64))))]) ++ (wM cI cZ g cd lev tm gn nL nC nE L B C F ys ao)) H := hP
    have hD : va_D A ((wX cI cZ h lev tm gn nL nC nE L (upC B 0 k 0) C E ++ [(qo, .inl (cJ, 1, .inr (.inl (vp_updL o 0 (nI (cntW (fun i => isB C i 1 (nI k)) nC)).toInt64))))]) ++ (wM cI cZ g cd lev tm gn nL nC nE L B C F ys ao)) := hD
    refine lv_istore (lv' := [(5, .int 0), (0, .ref sb), (1, .ref (h 0)), (2, .ref (g 0)), (3, .ref qo), (4, .int (nI i))]) hx hb dL_law_625 hl (by decide) rfl (fun ls hl => ?_)
    refine lv_aload_n hx hb dL_law_627 rfl (lv_at hl 3 rfl) ?_
    refine lv_aload_n hx hb dL_law_628 rfl (lv_at hl 1 rfl) ?_
    refine lv_iload hx hb dL_law_629 (lv_at hl 5 rfl) ?_
    refine lv_iconst (v := 1) hx hb dL_law_631 (by decide) ?_
    refine zn_add (i := i) (j := 1) hx hb dL_law_632 ?_
    refine z_sld (k := i + 1) (v := nI k) hx hb hXs hbl hbA hS (by omega) (by omega) e1 dL_law_633 ?_
    refine lv_aload_n hx hb dL_law_634 rfl (lv_at hl 1 rfl) ?_
    refine lv_iload hx hb dL_law_635 (lv_at hl 5 rfl) ?_
    refine lv_iconst (v := 2) hx hb dL_law_637 (by decide) ?_
    refine zn_add (i := i) (j := 2) hx hb dL_law_638 ?_
    refine z_sld (k := i + 2) (v := xs (i + 2)) hx hb hXs hbl hbA hS (by omega) (by omega) rfl dL_law_639 ?_
    refine lv_if_eq (x := xs (i + 2)) (tgt := 647) hx hb dL_law_640 (by decide) (fun c640 => ?_) (fun c640 => ?_)
    · exact absurd c640 c613
    · skip
      refine lv_iconst (v := 1) hx hb dL_law_643 (by decide) ?_
      refine lv_goto (tgt := 648) hx hb dL_law_644 (by decide) ?_
      refine z_top (show (1 : Int32) = bI false by rw [e2, decide_eq_false c613]; rfl) ?_
      refine z_backTi (wa := (wX cI cZ h lev tm gn nL nC nE L (upC B 0 k 0) C E ++ [(qo, .inl (cJ, 1, .inr (.inl (vp_updL o 0 (nI (cntW (fun i => isB C i 1 (nI k)) nC)).toInt64))))])) (w := (wM cI cZ g cd lev tm gn nL nC nE L B C F ys ao)) (z_runVT (wa := (wX cI cZ h lev tm gn nL nC nE L (upC B 0 k 0) C E ++ [(qo, .inl (cJ, 1, .inr (.inl (vp_updL o 0 (nI (cntW (fun i => isB C i 1 (nI k)) nC)).toInt64))))])) (w := (wM cI cZ g cd lev tm gn nL nC nE L B C F ys ao)) (n := 2) (As := [.int (nI k), .int (bI false)]) (ci := 5) (rest := []) hx hb hml hown hts hK hE hP hD (tX4_stuck_of l D cI cZ cJ g cd lev tm gn nL nC nE L B C F ys ao k m_hk m_hL m_hC m_hyes _) gL_law_X4_stuck rfl rfl rfl (by decide +kernel) ⟨Nat.le_of_ble_eq_true rfl, Nat.le_of_ble_eq_true rfl⟩ rfl rfl rfl hl.1 rfl (Nat.le_of_ble_eq_true rfl) dL_law_648 hroom) hP hD hS hA (fun r5 w1 H locs hp5 hP hD hS => ?_)
      obtain ⟨rfl, rfl⟩ := hp5
      have hP : va_P D vwCl ((wX cI cZ h lev tm gn nL nC nE L (upC B 0 k 0) C E ++ [(qo, .inl (cJ, 1, .inr (.inl (vp_updL o 0 (nI (cntW (fun i => isB C i 1 (nI k)) nC)).toInt64))))]) ++ (wM cI cZ g 0 lev tm gn nL nC nE L (upC B 0 k 0) C F ys ao)) H := hP
      have hD : va_D A ((wX cI cZ h lev tm gn nL nC nE L (upC B 0 k 0) C E ++ [(qo, .inl (cJ, 1, .inr (.inl (vp_updL o 0 (nI (cntW (fun i => isB C i 1 (nI k)) nC)).toInt64))))]) ++ (wM cI cZ g 0 lev tm gn nL nC nE L (upC B 0 k 0) C F ys ao)) := hD
      refine lv_istore (lv' := [(6, .int (nI (cntW (fun i => isB C i 1 (nI k)) nC))), (5, .int 0), (0, .ref sb), (1, .ref (h 0)), (2, .ref (g 0)), (3, .ref qo), (4, .int (nI i))]) hx hb dL_law_651 hl (by decide) rfl (fun ls hl => ?_)
      refine lv_aload_n hx hb dL_law_653 rfl (lv_at hl 4 rfl) ?_
      refine z_backTi (wa := (wX cI cZ h lev tm gn nL nC nE L (upC B 0 k 0) C E ++ [(qo, .inl (cJ, 1, .inr (.inl (vp_updL o 0 (nI (cntW (fun i => isB C i 1 (nI k)) nC)).toInt64))))])) (w := (wM cI cZ g 0 lev tm gn nL nC nE L (upC B 0 k 0) C F ys ao)) (z_runVT (wa := (wX cI cZ h lev tm gn nL nC nE L (upC B 0 k 0) C E ++ [(qo, .inl (cJ, 1, .inr (.inl (vp_updL o 0 (nI (cntW (fun i => isB C i 1 (nI k)) nC)).toInt64))))])) (w := (wM cI cZ g 0 lev tm gn nL nC nE L (upC B 0 k 0) C F ys ao)) (n := 0) (As := []) (ci := 5) (rest := []) hx hb hml hown hts hK hE hP hD (tX4_thrown l D cI cZ cJ g 0 lev tm gn nL nC nE L (upC B 0 k 0) C F ys ao _) gL_law_X4_thrown rfl rfl rfl (by decide +kernel) ⟨Nat.le_of_ble_eq_true rfl, Nat.le_of_ble_eq_true rfl⟩ rfl rfl rfl hl.1 rfl (Nat.le_of_ble_eq_true rfl) dL_law_654 hroom) hP hD hS hA (fun r6 w1 H locs hp6 hP hD hS => ?_)
      obtain ⟨rfl, rfl⟩ := hp6
      have hP : va_P D vwCl ((wX cI cZ h lev tm gn nL nC nE L (upC B 0 k 0) C E ++ [(qo, .inl (cJ, 1, .inr (.inl (vp_updL o 0 (nI (cntW (fun i => isB C i 1 (nI k)) nC)).toInt64))))]) ++ (wM cI cZ g 0 lev tm gn nL nC nE L (upC B 0 k 0) C F ys ao)) H := hP
      have hD : va_D A ((wX cI cZ h lev tm gn nL nC nE L (upC B 0 k 0) C E ++ [(qo, .inl (cJ, 1, .inr (.inl (vp_updL o 0 (nI (cntW (fun i => isB C i 1 (nI k)) nC)).toInt64))))]) ++ (wM cI cZ g 0 lev tm gn nL nC nE L (upC B 0 k 0) C F ys ao)) := hD
      refine lv_iload hx hb dL_law_657 (lv_at hl 1 rfl) ?_
      refine zn_eq (i := 0) (j := 0) (tgt := 664) hx hb (by omega) (by omega) dL_law_659 (by decide) (fun c659 => ?_) (fun c659 => ?_)
      · skip
        refine lv_iload hx hb dL_law_664 (lv_at hl 1 rfl) ?_
        refine lv_if_ne (x := 0) (tgt := 681) hx hb dL_law_666 (by decide) (fun c666 => ?_) (fun c666 => ?_)
        · exact absurd c666 (by decide)
        · skip
          refine lv_aload_n hx hb dL_law_669 rfl (lv_at hl 5 rfl) ?_
          refine lv_iconst (v := 0) hx hb dL_law_670 (by decide) ?_
          refine z_lald0 hx hb hK hP 24 rfl dL_law_671 ?_
          refine lv_iload hx hb dL_law_672 (lv_at hl 0 rfl) ?_
          refine lv_i2l (v := (nI (cntW (fun i => isB C i 1 (nI k)) nC)).toInt64) hx hb dL_law_674 rfl ?_
          refine W.lcmp (x := (vp_updL o 0 (nI (cntW (fun i => isB C i 1 (nI k)) nC)).toInt64) 0) (y := (nI (cntW (fun i => isB C i 1 (nI k)) nC)).toInt64) hx hb dL_law_675 ?_
          refine z_top (lg_eq hr) ?_
          refine lv_if_eq (x := 0) (tgt := 681) hx hb dL_law_676 (by decide) (fun c676 => ?_) (fun c676 => ?_)
          · skip
            refine lv_goto (tgt := 1117) hx hb dL_law_681 (by decide) ?_
            exact kk H locs ls (lv_sub hl [2, 3, 4, 5, 6] rfl) hP hD hS
          · exact absurd c676 (by decide)
      · exact absurd c659 (by omega)


set_option maxHeartbeats 4000000 in
set_option maxRecDepth 100000 in
theorem law_stuck_on {p : Program} {l : Launch} {e : Env} {s : State} {m : MethodId} {below : List Frame} {meth : Method} {c : Code} {Q : State → Prop} {sb Ln : Nat} {xs : Nat → Int32} {D : va_G} {cI cZ cJ : ClassId} {A : Nat → Prop} {sa : Nat → Nat} (cx : zCx p l s m meth c sb Ln xs D cI cZ cJ A sa) (h g : Nat → Nat) (lev tm : Nat) (gn : Int32) (nL nC nE : Nat) (L B C E F : Nat → Nat → Int32) (qo : Nat) (o : Nat → Int64) (cd : Int32) (ys ao : Nat → Int32) (i : Nat) (hi : i + 5 ≤ Ln) (k : Nat) (hk : k < nL) (hL : nL ≤ 4) (hC : nC ≤ 24) (hyes : ¬ B 0 k = 1) (m_hk : k < nL) (m_hL : nL ≤ 4) (m_hC : nC ≤ 24) (m_hyes : ¬ B 0 k = 1) (e1 : xs (i + 1) = nI k) (e2 : true = !decide (xs (i + 2) = 0)) (hr : nI (cntW (fun i => isB (gaF L (upC B 0 k 1) nL (nI k) C nC).1 i 1 (nI k)) nC) = nI (cntW (fun i => isB (gmF L (upC B 0 k 1) nL (nI k) C nC).1 i 1 (nI k)) nC)) {H : Heap} {locs : List Loc} {cells slots : Nat} {ls : Array Slot} (hl : lv_has ls 7 [(0, .ref sb), (1, .ref (h 0)), (2, .ref (g 0)), (3, .ref qo), (4, .int (nI i))]) (hP : va_P D vwCl (wV cI cZ cJ h lev tm gn nL nC nE L B C E qo o ++ wM cI cZ g cd lev tm gn nL nC nE L B C F ys ao) H) (hD : va_D A (wV cI cZ cJ h lev tm gn nL nC nE L B C E qo o ++ wM cI cZ g cd lev tm gn nL nC nE L B C F ys ao)) (hS : va_S A s.heap H locs) (hroom : cells + 1 ≤ room_1.cells ∧ slots + 6 ≤ room_1.slots) (kk : ∀ (H1 : Heap) (locs1 : List Loc) (ls1 : Array Slot), lv_has ls1 7 [(0, .ref sb), (1, .ref (h 0)), (2, .ref (g 0)), (3, .ref qo), (4, .int (nI i))] → va_P D vwCl (wX cI cZ h lev tm gn nL nC nE L (upC B 0 k 1) ((gaF L (upC B 0 k 1) nL (nI k) C nC).1) E ++ [(qo, .inl (cJ, 1, .inr (.inl (vp_updL o 0 (nI (cntW (fun i => isB (gaF L (upC B 0 k 1) nL (nI k) C nC).1 i 1 (nI k)) nC)).toInt64))))] ++ wM cI cZ g 0 lev tm gn nL nC nE L (upC B 0 k 1) ((gmF L (upC B 0 k 1) nL (nI k) C nC).1) F ys ao) H1 → va_D A (wX cI cZ h lev tm gn nL nC nE L (upC B 0 k 1) ((gaF L (upC B 0 k 1) nL (nI k) C nC).1) E ++ [(qo, .inl (cJ, 1, .inr (.inl (vp_updL o 0 (nI (cntW (fun i => isB (gaF L (upC B 0 k 1) nL (nI k) C nC).1 i 1 (nI k)) nC)).toInt64))))] ++ wM cI cZ g 0 lev tm gn nL nC nE L (upC B 0 k 1) ((gmF L (upC B 0 k 1) nL (nI k) C nC).1) F ys ao) → va_S A s.heap H1 locs1 → W p l e room_1 s m #[Value.ref sb] below meth c H1 locs1 (cells + 1) (slots + 6) Q (F0 m 1117 ls1 []))  : W p l e room_1 s m #[Value.ref sb] below meth c H locs cells slots Q (F0 m 600 ls []) := by
  obtain ⟨hx, hb, hr9, hml, hlocks, hown, htsO, hK, hE, hX, hN, hA, hXs, hbl, hbA, hl9, hLn⟩ := cx
  have hts : ∀ w ∈ wsL_law, w.before #[Value.ref sb] s = true := fun w h9 => htsO w (lawO_l h9)
  refine lv_aload_n hx hb dL_law_600 rfl (lv_at hl 1 rfl) ?_
  refine lv_aload_n hx hb dL_law_601 rfl (lv_at hl 0 rfl) ?_
  refine lv_iload hx hb dL_law_602 (lv_at hl 4 rfl) ?_
  refine lv_iconst (v := 1) hx hb dL_law_604 (by decide) ?_
  refine zn_add (i := i) (j := 1) hx hb dL_law_605 ?_
  refine z_sld (k := i + 1) (v := nI k) hx hb hXs hbl hbA hS (by omega) (by omega) e1 dL_law_606 ?_
  refine lv_aload_n hx hb dL_law_607 rfl (lv_at hl 0 rfl) ?_
  refine lv_iload hx hb dL_law_608 (lv_at hl 4 rfl) ?_
  refine lv_iconst (v := 2) hx hb dL_law_610 (by decide) ?_
  refine zn_add (i := i) (j := 2) hx hb dL_law_611 ?_
  refine z_sld (k := i + 2) (v := xs (i + 2)) hx hb hXs hbl hbA hS (by omega) (by omega) rfl dL_law_612 ?_
  refine lv_if_eq (x := xs (i + 2)) (tgt := 620) hx hb dL_law_613 (by decide) (fun c613 => ?_) (fun c613 => ?_)
  · skip
    refine lv_iconst (v := 0) hx hb dL_law_620 (by decide) ?_
    refine z_top (show (0 : Int32) = bI true by rw [e2, decide_eq_true c613]; rfl) ?_
    refine lv_aload_n hx hb dL_law_621 rfl (lv_at hl 3 rfl) ?_
    refine z_backSi (wa := []) (w := (wV cI cZ cJ h lev tm gn nL nC nE L B C E qo o)) (wb := (wM cI cZ g cd lev tm gn nL nC nE L B C F ys ao)) (z_runSL (wa := []) (w := (wV cI cZ cJ h lev tm gn nL nC nE L B C E qo o)) (wb := (wM cI cZ g cd lev tm gn nL nC nE L B C F ys ao)) (n := 4) (As := [.ref (h 0), .int (nI k), .int (bI true), .ref qo]) (rest := []) hx hb hml hown hts hK hE hX hN hS hA hP hD (tL_stuck_on l D cI cZ cJ h lev tm gn nL nC nE L B C E k hk hL hC hyes qo o sa _) gL_law_L_stuck rfl rfl rfl (by decide +kernel) ⟨Nat.le_of_ble_eq_true rfl, Nat.le_of_ble_eq_true rfl⟩ rfl hl.1 rfl (Nat.le_of_ble_eq_true rfl) dL_law_622 hroom) hP hD hS hA (fun r1 w1 H locs hp1 hP hD hS => ?_)
    obtain ⟨rfl, rfl⟩ := hp1
    have hP : va_P D vwCl ((wX cI cZ h lev tm gn nL nC nE L (upC B 0 k 1) ((gaF L (upC B 0 k 1) nL (nI k) C nC).1) E ++ [(qo, .inl (cJ, 1, .inr (.inl (vp_updL o 0 (nI (cntW (fun i => isB (gaF L (upC B 0 k 1) nL (nI k) C nC).1 i 1 (nI k)) nC)).toInt64))))]) ++ (wM cI cZ g cd lev tm gn nL nC nE L B C F ys ao)) H := hP
    have hD : va_D A ((wX cI cZ h lev tm gn nL nC nE L (upC B 0 k 1) ((gaF L (upC B 0 k 1) nL (nI k) C nC).1) E ++ [(qo, .inl (cJ, 1, .inr (.inl (vp_updL o 0 (nI (cntW (fun i => isB (gaF L (upC B 0 k 1) nL (nI k) C nC).1 i 1 (nI k)) nC)).toInt64))))]) ++ (wM cI cZ g cd lev tm gn nL nC nE L B C F ys ao)) := hD
    refine lv_istore (lv' := [(5, .int 0), (0, .ref sb), (1, .ref (h 0)), (2, .ref (g 0)), (3, .ref qo), (4, .int (nI i))]) hx hb dL_law_625 hl (by decide) rfl (fun ls hl => ?_)
    refine lv_aload_n hx hb dL_law_627 rfl (lv_at hl 3 rfl) ?_
    refine lv_aload_n hx hb dL_law_628 rfl (lv_at hl 1 rfl) ?_
    refine lv_iload hx hb dL_law_629 (lv_at hl 5 rfl) ?_
    refine lv_iconst (v := 1) hx hb dL_law_631 (by decide) ?_
    refine zn_add (i := i) (j := 1) hx hb dL_law_632 ?_
    refine z_sld (k := i + 1) (v := nI k) hx hb hXs hbl hbA hS (by omega) (by omega) e1 dL_law_633 ?_
    refine lv_aload_n hx hb dL_law_634 rfl (lv_at hl 1 rfl) ?_
    refine lv_iload hx hb dL_law_635 (lv_at hl 5 rfl) ?_
    refine lv_iconst (v := 2) hx hb dL_law_637 (by decide) ?_
    refine zn_add (i := i) (j := 2) hx hb dL_law_638 ?_
    refine z_sld (k := i + 2) (v := xs (i + 2)) hx hb hXs hbl hbA hS (by omega) (by omega) rfl dL_law_639 ?_
    refine lv_if_eq (x := xs (i + 2)) (tgt := 647) hx hb dL_law_640 (by decide) (fun c640 => ?_) (fun c640 => ?_)
    · skip
      refine lv_iconst (v := 0) hx hb dL_law_647 (by decide) ?_
      refine z_top (show (0 : Int32) = bI true by rw [e2, decide_eq_true c613]; rfl) ?_
      refine z_backTi (wa := (wX cI cZ h lev tm gn nL nC nE L (upC B 0 k 1) ((gaF L (upC B 0 k 1) nL (nI k) C nC).1) E ++ [(qo, .inl (cJ, 1, .inr (.inl (vp_updL o 0 (nI (cntW (fun i => isB (gaF L (upC B 0 k 1) nL (nI k) C nC).1 i 1 (nI k)) nC)).toInt64))))])) (w := (wM cI cZ g cd lev tm gn nL nC nE L B C F ys ao)) (z_runVT (wa := (wX cI cZ h lev tm gn nL nC nE L (upC B 0 k 1) ((gaF L (upC B 0 k 1) nL (nI k) C nC).1) E ++ [(qo, .inl (cJ, 1, .inr (.inl (vp_updL o 0 (nI (cntW (fun i => isB (gaF L (upC B 0 k 1) nL (nI k) C nC).1 i 1 (nI k)) nC)).toInt64))))])) (w := (wM cI cZ g cd lev tm gn nL nC nE L B C F ys ao)) (n := 2) (As := [.int (nI k), .int (bI true)]) (ci := 5) (rest := []) hx hb hml hown hts hK hE hP hD (tX4_stuck_on l D cI cZ cJ g cd lev tm gn nL nC nE L B C F ys ao k m_hk m_hL m_hC m_hyes _) gL_law_X4_stuck rfl rfl rfl (by decide +kernel) ⟨Nat.le_of_ble_eq_true rfl, Nat.le_of_ble_eq_true rfl⟩ rfl rfl rfl hl.1 rfl (Nat.le_of_ble_eq_true rfl) dL_law_648 hroom) hP hD hS hA (fun r2 w1 H locs hp2 hP hD hS => ?_)
      obtain ⟨rfl, rfl⟩ := hp2
      have hP : va_P D vwCl ((wX cI cZ h lev tm gn nL nC nE L (upC B 0 k 1) ((gaF L (upC B 0 k 1) nL (nI k) C nC).1) E ++ [(qo, .inl (cJ, 1, .inr (.inl (vp_updL o 0 (nI (cntW (fun i => isB (gaF L (upC B 0 k 1) nL (nI k) C nC).1 i 1 (nI k)) nC)).toInt64))))]) ++ (wM cI cZ g 0 lev tm gn nL nC nE L (upC B 0 k 1) ((gmF L (upC B 0 k 1) nL (nI k) C nC).1) F ys ao)) H := hP
      have hD : va_D A ((wX cI cZ h lev tm gn nL nC nE L (upC B 0 k 1) ((gaF L (upC B 0 k 1) nL (nI k) C nC).1) E ++ [(qo, .inl (cJ, 1, .inr (.inl (vp_updL o 0 (nI (cntW (fun i => isB (gaF L (upC B 0 k 1) nL (nI k) C nC).1 i 1 (nI k)) nC)).toInt64))))]) ++ (wM cI cZ g 0 lev tm gn nL nC nE L (upC B 0 k 1) ((gmF L (upC B 0 k 1) nL (nI k) C nC).1) F ys ao)) := hD
      refine lv_istore (lv' := [(6, .int (nI (cntW (fun i => isB (gmF L (upC B 0 k 1) nL (nI k) C nC).1 i 1 (nI k)) nC))), (5, .int 0), (0, .ref sb), (1, .ref (h 0)), (2, .ref (g 0)), (3, .ref qo), (4, .int (nI i))]) hx hb dL_law_651 hl (by decide) rfl (fun ls hl => ?_)
      refine lv_aload_n hx hb dL_law_653 rfl (lv_at hl 4 rfl) ?_
      refine z_backTi (wa := (wX cI cZ h lev tm gn nL nC nE L (upC B 0 k 1) ((gaF L (upC B 0 k 1) nL (nI k) C nC).1) E ++ [(qo, .inl (cJ, 1, .inr (.inl (vp_updL o 0 (nI (cntW (fun i => isB (gaF L (upC B 0 k 1) nL (nI k) C nC).1 i 1 (nI k)) nC)).toInt64))))])) (w := (wM cI cZ g 0 lev tm gn nL nC nE L (upC B 0 k 1) ((gmF L (upC B 0 k 1) nL (nI k) C nC).1) F ys ao)) (z_runVT (wa := (wX cI cZ h lev tm gn nL nC nE L (upC B 0 k 1) ((gaF L (upC B 0 k 1) nL (nI k) C nC).1) E ++ [(qo, .inl (cJ, 1, .inr (.inl (vp_updL o 0 (nI (cntW (fun i => isB (gaF L (upC B 0 k 1) nL (nI k) C nC).1 i 1 (nI k)) nC)).toInt64))))])) (w := (wM cI cZ g 0 lev tm gn nL nC nE L (upC B 0 k 1) ((gmF L (upC B 0 k 1) nL (nI k) C nC).1) F ys ao)) (n := 0) (As := []) (ci := 5) (rest := []) hx hb hml hown hts hK hE hP hD (tX4_thrown l D cI cZ cJ g 0 lev tm gn nL nC nE L (upC B 0 k 1) ((gmF L (upC B 0 k 1) nL (nI k) C nC).1) F ys ao _) gL_law_X4_thrown rfl rfl rfl (by decide +kernel) ⟨Nat.le_of_ble_eq_true rfl, Nat.le_of_ble_eq_true rfl⟩ rfl rfl rfl hl.1 rfl (Nat.le_of_ble_eq_true rfl) dL_law_654 hroom) hP hD hS hA (fun r3 w1 H locs hp3 hP hD hS => ?_)
      obtain ⟨rfl, rfl⟩ := hp3
      have hP : va_P D vwCl ((wX cI cZ h lev tm gn nL nC nE L (upC B 0 k 1) ((gaF L (upC B 0 k 1) nL (nI k) C nC).1) E ++ [(qo, .inl (cJ, 1, .inr (.inl (vp_updL o 0 (nI (cntW (fun i => isB (gaF L (upC B 0 k 1) nL (nI k) C nC).1 i 1 (nI k)) nC)).toInt64))))]) ++ (wM cI cZ g 0 lev tm gn nL nC nE L (upC B 0 k 1) ((gmF L (upC B 0 k 1) nL (nI k) C nC).1) F ys ao)) H := hP
      have hD : va_D A ((wX cI cZ h lev tm gn nL nC nE L (upC B 0 k 1) ((gaF L (upC B 0 k 1) nL (nI k) C nC).1) E ++ [(qo, .inl (cJ, 1, .inr (.inl (vp_updL o 0 (nI (cntW (fun i => isB (gaF L (upC B 0 k 1) nL (nI k) C nC).1 i 1 (nI k)) nC)).toInt64))))]) ++ (wM cI cZ g 0 lev tm gn nL nC nE L (upC B 0 k 1) ((gmF L (upC B 0 k 1) nL (nI k) C nC).1) F ys ao)) := hD
      refine lv_iload hx hb dL_law_657 (lv_at hl 1 rfl) ?_
      refine zn_eq (i := 0) (j := 0) (tgt := 664) hx hb (by omega) (by omega) dL_law_659 (by decide) (fun c659 => ?_) (fun c659 => ?_)
      · skip
        refine lv_iload hx hb dL_law_664 (lv_at hl 1 rfl) ?_
        refine lv_if_ne (x := 0) (tgt := 681) hx hb dL_law_666 (by decide) (fun c666 => ?_) (fun c666 => ?_)
        · exact absurd c666 (by decide)
        · skip
          refine lv_aload_n hx hb dL_law_669 rfl (lv_at hl 5 rfl) ?_
          refine lv_iconst (v := 0) hx hb dL_law_670 (by decide) ?_
          refine z_lald0 hx hb hK hP 24 rfl dL_law_671 ?_
          refine lv_iload hx hb dL_law_672 (lv_at hl 0 rfl) ?_
          refine lv_i2l (v := (nI (cntW (fun i => isB (gmF L (upC B 0 k 1) nL (nI k) C nC).1 i 1 (nI k)) nC)).toInt64) hx hb dL_law_674 rfl ?_
          refine W.lcmp (x := (vp_updL o 0 (nI (cntW (fun i => isB (gaF L (upC B 0 k 1) nL (nI k) C nC).1 i 1 (nI k)) nC)).toInt64) 0) (y := (nI (cntW (fun i => isB (gmF L (upC B 0 k 1) nL (nI k) C nC).1 i 1 (nI k)) nC)).toInt64) hx hb dL_law_675 ?_
          refine z_top (lg_eq hr) ?_
          refine lv_if_eq (x := 0) (tgt := 681) hx hb dL_law_676 (by decide) (fun c676 => ?_) (fun c676 => ?_)
          · skip
            refine lv_goto (tgt := 1117) hx hb dL_law_681 (by decide) ?_
            exact kk H locs ls (lv_sub hl [2, 3, 4, 5, 6] rfl) hP hD hS
          · exact absurd c676 (by decide)
      · exact absurd c659 (by omega)
    · exact absurd c613 c640
  · skip
    refine lv_iconst (v := 1) hx hb dL_law_616 (by decide) ?_
    refine lv_goto (tgt := 621) hx hb dL_law_617 (by decide) ?_
    refine z_top (show (1 : Int32) = bI true by rw [e2, decide_eq_false c613]; rfl) ?_
    refine lv_aload_n hx hb dL_law_621 rfl (lv_at hl 3 rfl) ?_
    refine z_backSi (wa := []) (w := (wV cI cZ cJ h lev tm gn nL nC nE L B C E qo o)) (wb := (wM cI cZ g cd lev tm gn nL nC nE L B C F ys ao)) (z_runSL (wa := []) (w := (wV cI cZ cJ h lev tm gn nL nC nE L B C E qo o)) (wb := (wM cI cZ g cd lev tm gn nL nC nE L B C F ys ao)) (n := 4) (As := [.ref (h 0), .int (nI k), .int (bI true), .ref qo]) (rest := []) hx hb hml hown hts hK hE hX hN hS hA hP hD (tL_stuck_on l D cI cZ cJ h lev tm gn nL nC nE L B C E k hk hL hC hyes qo o sa _) gL_law_L_stuck rfl rfl rfl (by decide +kernel) ⟨Nat.le_of_ble_eq_true rfl, Nat.le_of_ble_eq_true rfl⟩ rfl hl.1 rfl (Nat.le_of_ble_eq_true rfl) dL_law_622 hroom) hP hD hS hA (fun r4 w1 H locs hp4 hP hD hS => ?_)
    obtain ⟨rfl, rfl⟩ := hp4
    have hP : va_P D vwCl ((wX cI cZ h lev tm gn nL nC nE L (upC B 0 k 1) ((gaF L (upC B 0 k 1) nL (nI k) C nC).1) E ++ [(qo, .inl (cJ, 1, .inr (.inl (vp_updL o 0 (nI (cntW (fun i => isB (gaF L (upC B 0 k 1) nL (nI k) C nC).1 i 1 (nI k)) nC)).toInt64))))]) ++ (wM cI cZ g cd lev tm gn nL nC nE L B C F ys ao)) H := hP
    have hD : va_D A ((wX cI cZ h lev tm gn nL nC nE L (upC B 0 k 1) ((gaF L (upC B 0 k 1) nL (nI k) C nC).1) E ++ [(qo, .inl (cJ, 1, .inr (.inl (vp_updL o 0 (nI (cntW (fun i => isB (gaF L (upC B 0 k 1) nL (nI k) C nC).1 i 1 (nI k)) nC)).toInt64))))]) ++ (wM cI cZ g cd lev tm gn nL nC nE L B C F ys ao)) := hD
    refine lv_istore (lv' := [(5, .int 0), (0, .ref sb), (1, .ref (h 0)), (2, .ref (g 0)), (3, .ref qo), (4, .int (nI i))]) hx hb dL_law_625 hl (by decide) rfl (fun ls hl => ?_)
    refine lv_aload_n hx hb dL_law_627 rfl (lv_at hl 3 rfl) ?_
    refine lv_aload_n hx hb dL_law_628 rfl (lv_at hl 1 rfl) ?_
    refine lv_iload hx hb dL_law_629 (lv_at hl 5 rfl) ?_
    refine lv_iconst (v := 1) hx hb dL_law_631 (by decide) ?_
    refine zn_add (i := i) (j := 1) hx hb dL_law_632 ?_
    refine z_sld (k := i + 1) (v := nI k) hx hb hXs hbl hbA hS (by omega) (by omega) e1 dL_law_633 ?_
    refine lv_aload_n hx hb dL_law_634 rfl (lv_at hl 1 rfl) ?_
    refine lv_iload hx hb dL_law_635 (lv_at hl 5 rfl) ?_
    refine lv_iconst (v := 2) hx hb dL_law_637 (by decide) ?_
    refine zn_add (i := i) (j := 2) hx hb dL_law_638 ?_
    refine z_sld (k := i + 2) (v := xs (i + 2)) hx hb hXs hbl hbA hS (by omega) (by omega) rfl dL_law_639 ?_
    refine lv_if_eq (x := xs (i + 2)) (tgt := 647) hx hb dL_law_640 (by decide) (fun c640 => ?_) (fun c640 => ?_)
    · exact absurd c640 c613
    · skip
      refine lv_iconst (v := 1) hx hb dL_law_643 (by decide) ?_
      refine lv_goto (tgt := 648) hx hb dL_law_644 (by decide) ?_
      refine z_top (show (1 : Int32) = bI true by rw [e2, decide_eq_false c613]; rfl) ?_
      refine z_backTi (wa := (wX cI cZ h lev tm gn nL nC nE L (upC B 0 k 1) ((gaF L (upC B 0 k 1) nL (nI k) C nC).1) E ++ [(qo, .inl (cJ, 1, .inr (.inl (vp_updL o 0 (nI (cntW (fun i => isB (gaF L (upC B 0 k 1) nL (nI k) C nC).1 i 1 (nI k)) nC)).toInt64))))])) (w := (wM cI cZ g cd lev tm gn nL nC nE L B C F ys ao)) (z_runVT (wa := (wX cI cZ h lev tm gn nL nC nE L (upC B 0 k 1) ((gaF L (upC B 0 k 1) nL (nI k) C nC).1) E ++ [(qo, .inl (cJ, 1, .inr (.inl (vp_updL o 0 (nI (cntW (fun i => isB (gaF L (upC B 0 k 1) nL (nI k) C nC).1 i 1 (nI k)) nC)).toInt64))))])) (w := (wM cI cZ g cd lev tm gn nL nC nE L B C F ys ao)) (n := 2) (As := [.int (nI k), .int (bI true)]) (ci := 5) (rest := []) hx hb hml hown hts hK hE hP hD (tX4_stuck_on l D cI cZ cJ g cd lev tm gn nL nC nE L B C F ys ao k m_hk m_hL m_hC m_hyes _) gL_law_X4_stuck rfl rfl rfl (by decide +kernel) ⟨Nat.le_of_ble_eq_true rfl, Nat.le_of_ble_eq_true rfl⟩ rfl rfl rfl hl.1 rfl (Nat.le_of_ble_eq_true rfl) dL_law_648 hroom) hP hD hS hA (fun r5 w1 H locs hp5 hP hD hS => ?_)
      obtain ⟨rfl, rfl⟩ := hp5
      have hP : va_P D vwCl ((wX cI cZ h lev tm gn nL nC nE L (upC B 0 k 1) ((gaF L (upC B 0 k 1) nL (nI k) C nC).1) E ++ [(qo, .inl (cJ, 1, .inr (.inl (vp_updL o 0 (nI (cntW (fun i => isB (gaF L (upC B 0 k 1) nL (nI k) C nC).1 i 1 (nI k)) nC)).toInt64))))]) ++ (wM cI cZ g 0 lev tm gn nL nC nE L (upC B 0 k 1) ((gmF L (upC B 0 k 1) nL (nI k) C nC).1) F ys ao)) H := hP
      have hD : va_D A ((wX cI cZ h lev tm gn nL nC nE L (upC B 0 k 1) ((gaF L (upC B 0 k 1) nL (nI k) C nC).1) E ++ [(qo, .inl (cJ, 1, .inr (.inl (vp_updL o 0 (nI (cntW (fun i => isB (gaF L (upC B 0 k 1) nL (nI k) C nC).1 i 1 (nI k)) nC)).toInt64))))]) ++ (wM cI cZ g 0 lev tm gn nL nC nE L (upC B 0 k 1) ((gmF L (upC B 0 k 1) nL (nI k) C nC).1) F ys ao)) := hD
      refine lv_istore (lv' := [(6, .int (nI (cntW (fun i => isB (gmF L (upC B 0 k 1) nL (nI k) C nC).1 i 1 (nI k)) nC))), (5, .int 0), (0, .ref sb), (1, .ref (h 0)), (2, .ref (g 0)), (3, .ref qo), (4, .int (nI i))]) hx hb dL_law_651 hl (by decide) rfl (fun ls hl => ?_)
      refine lv_aload_n hx hb dL_law_653 rfl (lv_at hl 4 rfl) ?_
      refine z_backTi (wa := (wX cI cZ h lev tm gn nL nC nE L (upC B 0 k 1) ((gaF L (upC B 0 k 1) nL (nI k) C nC).1) E ++ [(qo, .inl (cJ, 1, .inr (.inl (vp_updL o 0 (nI (cntW (fun i => isB (gaF L (upC B 0 k 1) nL (nI k) C nC).1 i 1 (nI k)) nC)).toInt64))))])) (w := (wM cI cZ g 0 lev tm gn nL nC nE L (upC B 0 k 1) ((gmF L (upC B 0 k 1) nL (nI k) C nC).1) F ys ao)) (z_runVT (wa := (wX cI cZ h lev tm gn nL nC nE L (upC B 0 k 1) ((gaF L (upC B 0 k 1) nL (nI k) C nC).1) E ++ [(qo, .inl (cJ, 1, .inr (.inl (vp_updL o 0 (nI (cntW (fun i => isB (gaF L (upC B 0 k 1) nL (nI k) C nC).1 i 1 (nI k)) nC)).toInt64))))])) (w := (wM cI cZ g 0 lev tm gn nL nC nE L (upC B 0 k 1) ((gmF L (upC B 0 k 1) nL (nI k) C nC).1) F ys ao)) (n := 0) (As := []) (ci := 5) (rest := []) hx hb hml hown hts hK hE hP hD (tX4_thrown l D cI cZ cJ g 0 lev tm gn nL nC nE L (upC B 0 k 1) ((gmF L (upC B 0 k 1) nL (nI k) C nC).1) F ys ao _) gL_law_X4_thrown rfl rfl rfl (by decide +kernel) ⟨Nat.le_of_ble_eq_true rfl, Nat.le_of_ble_eq_true rfl⟩ rfl rfl rfl hl.1 rfl (Nat.le_of_ble_eq_true rfl) dL_law_654 hroom) hP hD hS hA (fun r6 w1 H locs hp6 hP hD hS => ?_)
      obtain ⟨rfl, rfl⟩ := hp6
      have hP : va_P D vwCl ((wX cI cZ h lev tm gn nL nC nE L (upC B 0 k 1) ((gaF L (upC B 0 k 1) nL (nI k) C nC).1) E ++ [(qo, .inl (cJ, 1, .inr (.inl (vp_updL o 0 (nI (cntW (fun i => isB (gaF L (upC B 0 k 1) nL (nI k) C nC).1 i 1 (nI k)) nC)).toInt64))))]) ++ (wM cI cZ g 0 lev tm gn nL nC nE L (upC B 0 k 1) ((gmF L (upC B 0 k 1) nL (nI k) C nC).1) F ys ao)) H := hP
      have hD : va_D A ((wX cI cZ h lev tm gn nL nC nE L (upC B 0 k 1) ((gaF L (upC B 0 k 1) nL (nI k) C nC).1) E ++ [(qo, .inl (cJ, 1, .inr (.inl (vp_updL o 0 (nI (cntW (fun i => isB (gaF L (upC B 0 k 1) nL (nI k) C nC).1 i 1 (nI k)) nC)).toInt64))))]) ++ (wM cI cZ g 0 lev tm gn nL nC nE L (upC B 0 k 1) ((gmF L (upC B 0 k 1) nL (nI k) C nC).1) F ys ao)) := hD
      refine lv_iload hx hb dL_law_657 (lv_at hl 1 rfl) ?_
      refine zn_eq (i := 0) (j := 0) (tgt := 664) hx hb (by omega) (by omega) dL_law_659 (by decide) (fun c659 => ?_) (fun c659 => ?_)
      · skip
        refine lv_iload hx hb dL_law_664 (lv_at hl 1 rfl) ?_
        refine lv_if_ne (x := 0) (tgt := 681) hx hb dL_law_666 (by decide) (fun c666 => ?_) (fun c666 => ?_)
        · exact absurd c666 (by decide)
        · skip
          refine lv_aload_n hx hb dL_law_669 rfl (lv_at hl 5 rfl) ?_
          refine lv_iconst (v := 0) hx hb dL_law_670 (by decide) ?_
          refine z_lald0 hx hb hK hP 24 rfl dL_law_671 ?_
          refine lv_iload hx hb dL_law_672 (lv_at hl 0 rfl) ?_
          refine lv_i2l (v := (nI (cntW (fun i => isB (gmF L (upC B 0 k 1) nL (nI k) C nC).1 i 1 (nI k)) nC)).toInt64) hx hb dL_law_674 rfl ?_
          refine W.lcmp (x := (vp_updL o 0 (nI (cntW (fun i => isB (gaF L (upC B 0 k 1) nL (nI k) C nC).1 i 1 (nI k)) nC)).toInt64) 0) (y := (nI (cntW (fun i => isB (gmF L (upC B 0 k 1) nL (nI k) C nC).1 i 1 (nI k)) nC)).toInt64) hx hb dL_law_675 ?_
          refine z_top (lg_eq hr) ?_
          refine lv_if_eq (x := 0) (tgt := 681) hx hb dL_law_676 (by decide) (fun c676 => ?_) (fun c676 => ?_)
          · skip
            refine lv_goto (tgt := 1117) hx hb dL_law_681 (by decide) ?_
            exact kk H locs ls (lv_sub hl [2, 3, 4, 5, 6] rfl) hP hD hS
          · exact absurd c676 (by decide)
      · exact absurd c659 (by omega)


set_option maxHeartbeats 4000000 in
set_option maxRecDepth 100000 in
theorem law_stuck_xa {p : Program} {l : Launch} {e : Env} {s : State} {m : MethodId} {below : List Frame} {meth : Method} {c : Code} {Q : State → Prop} {sb Ln : Nat} {xs : Nat → Int32} {D : va_G} {cI cZ cJ : ClassId} {A : Nat → Prop} {sa : Nat → Nat} (cx : zCx p l s m meth c sb Ln xs D cI cZ cJ A sa) (h g : Nat → Nat) (lev tm : Nat) (gn : Int32) (nL nC nE : Nat) (L B C E F : Nat → Nat → Int32) (qo : Nat) (o : Nat → Int64) (cd : Int32) (ys ao : Nat → Int32) (i : Nat) (hi : i + 5 ≤ Ln) (v : Int32) (on : Bool) (hno : inB v 0 (nI nL - 1) = false) (hL : nL ≤ 4) (hC : nC ≤ 24) (m_hno : inB v 0 (nI nL - 1) = false) (e1 : xs (i + 1) = v) (e2 : on = !decide (xs (i + 2) = 0)) {H : Heap} {locs : List Loc} {cells slots : Nat} {ls : Array Slot} (hl : lv_has ls 7 [(0, .ref sb), (1, .ref (h 0)), (2, .ref (g 0)), (3, .ref qo), (4, .int (nI i))]) (hP : va_P D vwCl (wV cI cZ cJ h lev tm gn nL nC nE L B C E qo o ++ wM cI cZ g cd lev tm gn nL nC nE L B C F ys ao) H) (hD : va_D A (wV cI cZ cJ h lev tm gn nL nC nE L B C E qo o ++ wM cI cZ g cd lev tm gn nL nC nE L B C F ys ao)) (hS : va_S A s.heap H locs) (hroom : cells + 1 ≤ room_1.cells ∧ slots + 6 ≤ room_1.slots) (kk : ∀ (H1 : Heap) (locs1 : List Loc) (ls1 : Array Slot), lv_has ls1 7 [(0, .ref sb), (1, .ref (h 0)), (2, .ref (g 0)), (3, .ref qo), (4, .int (nI i))] → va_P D vwCl (wX cI cZ h lev tm gn nL nC nE L B C E ++ [(qo, .inl (cJ, 1, .inr (.inl o)))] ++ wM cI cZ g 1 lev tm gn nL nC nE L B C F ys ao) H1 → va_D A (wX cI cZ h lev tm gn nL nC nE L B C E ++ [(qo, .inl (cJ, 1, .inr (.inl o)))] ++ wM cI cZ g 1 lev tm gn nL nC nE L B C F ys ao) → va_S A s.heap H1 locs1 → W p l e room_1 s m #[Value.ref sb] below meth c H1 locs1 (cells + 1) (slots + 6) Q (F0 m 1117 ls1 []))  : W p l e room_1 s m #[Value.ref sb] below meth c H locs cells slots Q (F0 m 600 ls []) := by
  obtain ⟨hx, hb, hr9, hml, hlocks, hown, htsO, hK, hE, hX, hN, hA, hXs, hbl, hbA, hl9, hLn⟩ := cx
  have hts : ∀ w ∈ wsL_law, w.before #[Value.ref sb] s = true := fun w h9 => htsO w (lawO_l h9)
  refine lv_aload_n hx hb dL_law_600 rfl (lv_at hl 1 rfl) ?_
  refine lv_aload_n hx hb dL_law_601 rfl (lv_at hl 0 rfl) ?_
  refine lv_iload hx hb dL_law_602 (lv_at hl 4 rfl) ?_
  refine lv_iconst (v := 1) hx hb dL_law_604 (by decide) ?_
  refine zn_add (i := i) (j := 1) hx hb dL_law_605 ?_
  refine z_sld (k := i + 1) (v := v) hx hb hXs hbl hbA hS (by omega) (by omega) e1 dL_law_606 ?_
  refine lv_aload_n hx hb dL_law_607 rfl (lv_at hl 0 rfl) ?_
  refine lv_iload hx hb dL_law_608 (lv_at hl 4 rfl) ?_
  refine lv_iconst (v := 2) hx hb dL_law_610 (by decide) ?_
  refine zn_add (i := i) (j := 2) hx hb dL_law_611 ?_
  refine z_sld (k := i + 2) (v := xs (i + 2)) hx hb hXs hbl hbA hS (by omega) (by omega) rfl dL_law_612 ?_
  refine lv_if_eq (x := xs (i + 2)) (tgt := 620) hx hb dL_law_613 (by decide) (fun c613 => ?_) (fun c613 => ?_)
  · skip
    refine lv_iconst (v := 0) hx hb dL_law_620 (by decide) ?_
    refine z_top (show (0 : Int32) = bI on by rw [e2, decide_eq_true c613]; rfl) ?_
    refine lv_aload_n hx hb dL_law_621 rfl (lv_at hl 3 rfl) ?_
    refine z_backSi (wa := []) (w := (wV cI cZ cJ h lev tm gn nL nC nE L B C E qo o)) (wb := (wM cI cZ g cd lev tm gn nL nC nE L B C F ys ao)) (z_runSL (wa := []) (w := (wV cI cZ cJ h lev tm gn nL nC nE L B C E qo o)) (wb := (wM cI cZ g cd lev tm gn nL nC nE L B C F ys ao)) (n := 4) (As := [.ref (h 0), .int v, .int (bI on), .ref qo]) (rest := []) hx hb hml hown hts hK hE hX hN hS hA hP hD (tL_stuck_xa l D cI cZ cJ h lev tm gn nL nC nE L B C E v on hno hL hC qo o sa hl9 _) gL_law_L_stuck rfl rfl rfl (by decide +kernel) ⟨Nat.le_of_ble_eq_true rfl, Nat.le_of_ble_eq_true rfl⟩ rfl hl.1 rfl (Nat.le_of_ble_eq_true rfl) dL_law_622 hroom) hP hD hS hA (fun r1 w1 H locs hp1 hP hD hS => ?_)
    obtain ⟨rfl, rfl⟩ := hp1
    have hP : va_P D vwCl ((wX cI cZ h lev tm gn nL nC nE L B C E ++ [(qo, .inl (cJ, 1, .inr (.inl o)))]) ++ (wM cI cZ g cd lev tm gn nL nC nE L B C F ys ao)) H := hP
    have hD : va_D A ((wX cI cZ h lev tm gn nL nC nE L B C E ++ [(qo, .inl (cJ, 1, .inr (.inl o)))]) ++ (wM cI cZ g cd lev tm gn nL nC nE L B C F ys ao)) := hD
    refine lv_istore (lv' := [(5, .int 1), (0, .ref sb), (1, .ref (h 0)), (2, .ref (g 0)), (3, .ref qo), (4, .int (nI i))]) hx hb dL_law_625 hl (by decide) rfl (fun ls hl => ?_)
    refine lv_aload_n hx hb dL_law_627 rfl (lv_at hl 3 rfl) ?_
    refine lv_aload_n hx hb dL_law_628 rfl (lv_at hl 1 rfl) ?_
    refine lv_iload hx hb dL_law_629 (lv_at hl 5 rfl) ?_
    refine lv_iconst (v := 1) hx hb dL_law_631 (by decide) ?_
    refine zn_add (i := i) (j := 1) hx hb dL_law_632 ?_
    refine z_sld (k := i + 1) (v := v) hx hb hXs hbl hbA hS (by omega) (by omega) e1 dL_law_633 ?_
    refine lv_aload_n hx hb dL_law_634 rfl (lv_at hl 1 rfl) ?_
    refine lv_iload hx hb dL_law_635 (lv_at hl 5 rfl) ?_
    refine lv_iconst (v := 2) hx hb dL_law_637 (by decide) ?_
    refine zn_add (i := i) (j := 2) hx hb dL_law_638 ?_
    refine z_sld (k := i + 2) (v := xs (i + 2)) hx hb hXs hbl hbA hS (by omega) (by omega) rfl dL_law_639 ?_
    refine lv_if_eq (x := xs (i + 2)) (tgt := 647) hx hb dL_law_640 (by decide) (fun c640 => ?_) (fun c640 => ?_)
    · skip
      refine lv_iconst (v := 0) hx hb dL_law_647 (by decide) ?_
      refine z_top (show (0 : Int32) = bI on by rw [e2, decide_eq_true c613]; rfl) ?_
      refine z_backTi (wa := (wX cI cZ h lev tm gn nL nC nE L B C E ++ [(qo, .inl (cJ, 1, .inr (.inl o)))])) (w := (wM cI cZ g cd lev tm gn nL nC nE L B C F ys ao)) (z_runVT (wa := (wX cI cZ h lev tm gn nL nC nE L B C E ++ [(qo, .inl (cJ, 1, .inr (.inl o)))])) (w := (wM cI cZ g cd lev tm gn nL nC nE L B C F ys ao)) (n := 2) (As := [.int v, .int (bI on)]) (ci := 5) (rest := []) hx hb hml hown hts hK hE hP hD (tX4_stuck_n1 l D cI cZ cJ g cd lev tm gn nL nC nE L B C F ys ao v m_hno on _) gL_law_X4_stuck rfl rfl rfl (by decide +kernel) ⟨Nat.le_of_ble_eq_true rfl, Nat.le_of_ble_eq_true rfl⟩ rfl rfl rfl hl.1 rfl (Nat.le_of_ble_eq_true rfl) dL_law_648 hroom) hP hD hS hA (fun r2 w1 H locs hp2 hP hD hS => ?_)
      obtain ⟨rfl, rfl⟩ := hp2
      have hP : va_P D vwCl ((wX cI cZ h lev tm gn nL nC nE L B C E ++ [(qo, .inl (cJ, 1, .inr (.inl o)))]) ++ (wM cI cZ g 1 lev tm gn nL nC nE L B C F ys ao)) H := hP
      have hD : va_D A ((wX cI cZ h lev tm gn nL nC nE L B C E ++ [(qo, .inl (cJ, 1, .inr (.inl o)))]) ++ (wM cI cZ g 1 lev tm gn nL nC nE L B C F ys ao)) := hD
      refine lv_istore (lv' := [(6, .int 0), (5, .int 1), (0, .ref sb), (1, .ref (h 0)), (2, .ref (g 0)), (3, .ref qo), (4, .int (nI i))]) hx hb dL_law_651 hl (by decide) rfl (fun ls hl => ?_)
      refine lv_aload_n hx hb dL_law_653 rfl (lv_at hl 4 rfl) ?_
      refine z_backTi (wa := (wX cI cZ h lev tm gn nL nC nE L B C E ++ [(qo, .inl (cJ, 1, .inr (.inl o)))])) (w := (wM cI cZ g 1 lev tm gn nL nC nE L B C F ys ao)) (z_runVT (wa := (wX cI cZ h lev tm gn nL nC nE L B C E ++ [(qo, .inl (cJ, 1, .inr (.inl o)))])) (w := (wM cI cZ g 1 lev tm gn nL nC nE L B C F ys ao)) (n := 0) (As := []) (ci := 5) (rest := []) hx hb hml hown hts hK hE hP hD (tX4_thrown l D cI cZ cJ g 1 lev tm gn nL nC nE L B C F ys ao _) gL_law_X4_thrown rfl rfl rfl (by decide +kernel) ⟨Nat.le_of_ble_eq_true rfl, Nat.le_of_ble_eq_true rfl⟩ rfl rfl rfl hl.1 rfl (Nat.le_of_ble_eq_true rfl) dL_law_654 hroom) hP hD hS hA (fun r3 w1 H locs hp3 hP hD hS => ?_)
      obtain ⟨rfl, rfl⟩ := hp3
      have hP : va_P D vwCl ((wX cI cZ h lev tm gn nL nC nE L B C E ++ [(qo, .inl (cJ, 1, .inr (.inl o)))]) ++ (wM cI cZ g 1 lev tm gn nL nC nE L B C F ys ao)) H := hP
      have hD : va_D A ((wX cI cZ h lev tm gn nL nC nE L B C E ++ [(qo, .inl (cJ, 1, .inr (.inl o)))]) ++ (wM cI cZ g 1 lev tm gn nL nC nE L B C F ys ao)) := hD
      refine lv_iload hx hb dL_law_657 (lv_at hl 1 rfl) ?_
      refine zn_eq (i := 1) (j := 1) (tgt := 664) hx hb (by omega) (by omega) dL_law_659 (by decide) (fun c659 => ?_) (fun c659 => ?_)
      · skip
        refine lv_iload hx hb dL_law_664 (lv_at hl 1 rfl) ?_
        refine lv_if_ne (x := 1) (tgt := 681) hx hb dL_law_666 (by decide) (fun c666 => ?_) (fun c666 => ?_)
        · skip
          refine lv_goto (tgt := 1117) hx hb dL_law_681 (by decide) ?_
          exact kk H locs ls (lv_sub hl [2, 3, 4, 5, 6] rfl) hP hD hS
        · exact absurd c666 (by decide)
      · exact absurd c659 (by omega)
    · exact absurd c613 c640
  · skip
    refine lv_iconst (v := 1) hx hb dL_law_616 (by decide) ?_
    refine lv_goto (tgt := 621) hx hb dL_law_617 (by decide) ?_
    refine z_top (show (1 : Int32) = bI on by rw [e2, decide_eq_false c613]; rfl) ?_
    refine lv_aload_n hx hb dL_law_621 rfl (lv_at hl 3 rfl) ?_
    refine z_backSi (wa := []) (w := (wV cI cZ cJ h lev tm gn nL nC nE L B C E qo o)) (wb := (wM cI cZ g cd lev tm gn nL nC nE L B C F ys ao)) (z_runSL (wa := []) (w := (wV cI cZ cJ h lev tm gn nL nC nE L B C E qo o)) (wb := (wM cI cZ g cd lev tm gn nL nC nE L B C F ys ao)) (n := 4) (As := [.ref (h 0), .int v, .int (bI on), .ref qo]) (rest := []) hx hb hml hown hts hK hE hX hN hS hA hP hD (tL_stuck_xa l D cI cZ cJ h lev tm gn nL nC nE L B C E v on hno hL hC qo o sa hl9 _) gL_law_L_stuck rfl rfl rfl (by decide +kernel) ⟨Nat.le_of_ble_eq_true rfl, Nat.le_of_ble_eq_true rfl⟩ rfl hl.1 rfl (Nat.le_of_ble_eq_true rfl) dL_law_622 hroom) hP hD hS hA (fun r4 w1 H locs hp4 hP hD hS => ?_)
    obtain ⟨rfl, rfl⟩ := hp4
    have hP : va_P D vwCl ((wX cI cZ h lev tm gn nL nC nE L B C E ++ [(qo, .inl (cJ, 1, .inr (.inl o)))]) ++ (wM cI cZ g cd lev tm gn nL nC nE L B C F ys ao)) H := hP
    have hD : va_D A ((wX cI cZ h lev tm gn nL nC nE L B C E ++ [(qo, .inl (cJ, 1, .inr (.inl o)))]) ++ (wM cI cZ g cd lev tm gn nL nC nE L B C F ys ao)) := hD
    refine lv_istore (lv' := [(5, .int 1), (0, .ref sb), (1, .ref (h 0)), (2, .ref (g 0)), (3, .ref qo), (4, .int (nI i))]) hx hb dL_law_625 hl (by decide) rfl (fun ls hl => ?_)
    refine lv_aload_n hx hb dL_law_627 rfl (lv_at hl 3 rfl) ?_
    refine lv_aload_n hx hb dL_law_628 rfl (lv_at hl 1 rfl) ?_
    refine lv_iload hx hb dL_law_629 (lv_at hl 5 rfl) ?_
    refine lv_iconst (v := 1) hx hb dL_law_631 (by decide) ?_
    refine zn_add (i := i) (j := 1) hx hb dL_law_632 ?_
    refine z_sld (k := i + 1) (v := v) hx hb hXs hbl hbA hS (by omega) (by omega) e1 dL_law_633 ?_
    refine lv_aload_n hx hb dL_law_634 rfl (lv_at hl 1 rfl) ?_
    refine lv_iload hx hb dL_law_635 (lv_at hl 5 rfl) ?_
    refine lv_iconst (v := 2) hx hb dL_law_637 (by decide) ?_
    refine zn_add (i := i) (j := 2) hx hb dL_law_638 ?_
    refine z_sld (k := i + 2) (v := xs (i + 2)) hx hb hXs hbl hbA hS (by omega) (by omega) rfl dL_law_639 ?_
    refine lv_if_eq (x := xs (i + 2)) (tgt := 647) hx hb dL_law_640 (by decide) (fun c640 => ?_) (fun c640 => ?_)
    · exact absurd c640 c613
    · skip
      refine lv_iconst (v := 1) hx hb dL_law_643 (by decide) ?_
      refine lv_goto (tgt := 648) hx hb dL_law_644 (by decide) ?_
      refine z_top (show (1 : Int32) = bI on by rw [e2, decide_eq_false c613]; rfl) ?_
      refine z_backTi (wa := (wX cI cZ h lev tm gn nL nC nE L B C E ++ [(qo, .inl (cJ, 1, .inr (.inl o)))])) (w := (wM cI cZ g cd lev tm gn nL nC nE L B C F ys ao)) (z_runVT (wa := (wX cI cZ h lev tm gn nL nC nE L B C E ++ [(qo, .inl (cJ, 1, .inr (.inl o)))])) (w := (wM cI cZ g cd lev tm gn nL nC nE L B C F ys ao)) (n := 2) (As := [.int v, .int (bI on)]) (ci := 5) (rest := []) hx hb hml hown hts hK hE hP hD (tX4_stuck_n1 l D cI cZ cJ g cd lev tm gn nL nC nE L B C F ys ao v m_hno on _) gL_law_X4_stuck rfl rfl rfl (by decide +kernel) ⟨Nat.le_of_ble_eq_true rfl, Nat.le_of_ble_eq_true rfl⟩ rfl rfl rfl hl.1 rfl (Nat.le_of_ble_eq_true rfl) dL_law_648 hroom) hP hD hS hA (fun r5 w1 H locs hp5 hP hD hS => ?_)
      obtain ⟨rfl, rfl⟩ := hp5
      have hP : va_P D vwCl ((wX cI cZ h lev tm gn nL nC nE L B C E ++ [(qo, .inl (cJ, 1, .inr (.inl o)))]) ++ (wM cI cZ g 1 lev tm gn nL nC nE L B C F ys ao)) H := hP
      have hD : va_D A ((wX cI cZ h lev tm gn nL nC nE L B C E ++ [(qo, .inl (cJ, 1, .inr (.inl o)))]) ++ (wM cI cZ g 1 lev tm gn nL nC nE L B C F ys ao)) := hD
      refine lv_istore (lv' := [(6, .int 0), (5, .int 1), (0, .ref sb), (1, .ref (h 0)), (2, .ref (g 0)), (3, .ref qo), (4, .int (nI i))]) hx hb dL_law_651 hl (by decide) rfl (fun ls hl => ?_)
      refine lv_aload_n hx hb dL_law_653 rfl (lv_at hl 4 rfl) ?_
      refine z_backTi (wa := (wX cI cZ h lev tm gn nL nC nE L B C E ++ [(qo, .inl (cJ, 1, .inr (.inl o)))])) (w := (wM cI cZ g 1 lev tm gn nL nC nE L B C F ys ao)) (z_runVT (wa := (wX cI cZ h lev tm gn nL nC nE L B C E ++ [(qo, .inl (cJ, 1, .inr (.inl o)))])) (w := (wM cI cZ g 1 lev tm gn nL nC nE L B C F ys ao)) (n := 0) (As := []) (ci := 5) (rest := []) hx hb hml hown hts hK hE hP hD (tX4_thrown l D cI cZ cJ g 1 lev tm gn nL nC nE L B C F ys ao _) gL_law_X4_thrown rfl rfl rfl (by decide +kernel) ⟨Nat.le_of_ble_eq_true rfl, Nat.le_of_ble_eq_true rfl⟩ rfl rfl rfl hl.1 rfl (Nat.le_of_ble_eq_true rfl) dL_law_654 hroom) hP hD hS hA (fun r6 w1 H locs hp6 hP hD hS => ?_)
      obtain ⟨rfl, rfl⟩ := hp6
      have hP : va_P D vwCl ((wX cI cZ h lev tm gn nL nC nE L B C E ++ [(qo, .inl (cJ, 1, .inr (.inl o)))]) ++ (wM cI cZ g 1 lev tm gn nL nC nE L B C F ys ao)) H := hP
      have hD : va_D A ((wX cI cZ h lev tm gn nL nC nE L B C E ++ [(qo, .inl (cJ, 1, .inr (.inl o)))]) ++ (wM cI cZ g 1 lev tm gn nL nC nE L B C F ys ao)) := hD
      refine lv_iload hx hb dL_law_657 (lv_at hl 1 rfl) ?_
      refine zn_eq (i := 1) (j := 1) (tgt := 664) hx hb (by omega) (by omega) dL_law_659 (by decide) (fun c659 => ?_) (fun c659 => ?_)
      · skip
        refine lv_iload hx hb dL_law_664 (lv_at hl 1 rfl) ?_
        refine lv_if_ne (x := 1) (tgt := 681) hx hb dL_law_666 (by decide) (fun c666 => ?_) (fun c666 => ?_)
        · skip
          refine lv_goto (tgt := 1117) hx hb dL_law_681 (by decide) ?_
          exact kk H locs ls (lv_sub hl [2, 3, 4, 5, 6] rfl) hP hD hS
        · exact absurd c666 (by decide)
      · exact absurd c659 (by omega)
