
set_option maxHeartbeats 4000000 in
set_option maxRecDepth 100000 in
theorem law_least_many {p : Program} {l : Launch} {e : Env} {s : State} {m : MethodId} {below : List Frame} {meth : Method} {c : Code} {Q : State → Prop} {sb Ln : Nat} {xs : Nat → Int32} {D : va_G} {cI cZ cJ : ClassId} {A : Nat → Prop} {sa : Nat → Nat} (cx : zCx p l s m meth c sb Ln xs D cI cZ cJ A sa) (h g : Nat → Nat) (lev tm : Nat) (gn : Int32) (nL nC nE : Nat) (L B C E F : Nat → Nat → Int32) (qo : Nat) (o : Nat → Int64) (cd : Int32) (ys ao : Nat → Int32) (i : Nat) (hi : i + 5 ≤ Ln) (k : Nat) (hk : k < nL) (hL : nL ≤ 4) (hC : nC ≤ 24) (hn : 4 < cntW (lsB C (nI k)) nC) (m_hk : k < nL) (m_hL : nL ≤ 4) (m_hC : nC ≤ 24) (m_hn : 4 < cntW (lsB C (nI k)) nC) (e1 : xs (i + 1) = nI k) (hr : -1 = -1) {H : Heap} {locs : List Loc} {cells slots : Nat} {ls : Array Slot} (hl : lv_has ls 7 [(0, .ref sb), (1, .ref (h 0)), (2, .ref (g 0)), (3, .ref qo), (4, .int (nI i))]) (hP : va_P D vwCl (wV cI cZ cJ h lev tm gn nL nC nE L B C E qo o ++ wM cI cZ g cd lev tm gn nL nC nE L B C F ys ao) H) (hD : va_D A (wV cI cZ cJ h lev tm gn nL nC nE L B C E qo o ++ wM cI cZ g cd lev tm gn nL nC nE L B C F ys ao)) (hS : va_S A s.heap H locs) (hroom : cells + 1 ≤ room_1.cells ∧ slots + 6 ≤ room_1.slots) (kk : ∀ (H1 : Heap) (locs1 : List Loc) (ls1 : Array Slot), lv_has ls1 7 [(0, .ref sb), (1, .ref (h 0)), (2, .ref (g 0)), (3, .ref qo), (4, .int (nI i))] → va_P D vwCl (wX cI cZ h lev tm gn nL nC nE L B C E ++ [(qo, .inl (cJ, 1, .inr (.inl (vp_updL o 0 (-1).toInt64))))] ++ wM cI cZ g 0 lev tm gn nL nC nE L B C F ys ao) H1 → va_D A (wX cI cZ h lev tm gn nL nC nE L B C E ++ [(qo, .inl (cJ, 1, .inr (.inl (vp_updL o 0 (-1).toInt64))))] ++ wM cI cZ g 0 lev tm gn nL nC nE L B C F ys ao) → va_S A s.heap H1 locs1 → W p l e room_1 s m #[Value.ref sb] below meth c H1 locs1 (cells + 1) (slots + 6) Q (F0 m 1117 ls1 []))  : W p l e room_1 s m #[Value.ref sb] below meth c H locs cells slots Q (F0 m 893 ls []) := by
  obtain ⟨hx, hb, hr9, hml, hlocks, hown, htsO, hK, hE, hX, hN, hA, hXs, hbl, hbA, hl9, hLn⟩ := cx
  have hts : ∀ w ∈ wsL_law, w.before #[Value.ref sb] s = true := fun w h9 => htsO w (lawO_l h9)
  refine lv_aload_n hx hb dL_law_893 rfl (lv_at hl 1 rfl) ?_
  refine lv_aload_n hx hb dL_law_894 rfl (lv_at hl 0 rfl) ?_
  refine lv_iload hx hb dL_law_895 (lv_at hl 4 rfl) ?_
  refine lv_iconst (v := 1) hx hb dL_law_897 (by decide) ?_
  refine zn_add (i := i) (j := 1) hx hb dL_law_898 ?_
  refine z_sld (k := i + 1) (v := nI k) hx hb hXs hbl hbA hS (by omega) (by omega) e1 dL_law_899 ?_
  refine lv_aload_n hx hb dL_law_900 rfl (lv_at hl 3 rfl) ?_
  refine z_backSi (wa := []) (w := (wV cI cZ cJ h lev tm gn nL nC nE L B C E qo o)) (wb := (wM cI cZ g cd lev tm gn nL nC nE L B C F ys ao)) (z_runSL (wa := []) (w := (wV cI cZ cJ h lev tm gn nL nC nE L B C E qo o)) (wb := (wM cI cZ g cd lev tm gn nL nC nE L B C F ys ao)) (n := 3) (As := [.ref (h 0), .int (nI k), .ref qo]) (rest := []) hx hb hml hown hts hK hE hX hN hS hA hP hD (tL_least_many l D cI cZ cJ h lev tm gn nL nC nE L B C E k hk hL hC hn qo o sa _) gL_law_L_least rfl rfl rfl (by decide +kernel) ⟨Nat.le_of_ble_eq_true rfl, Nat.le_of_ble_eq_true rfl⟩ rfl hl.1 rfl (Nat.le_of_ble_eq_true rfl) dL_law_901 hroom) hP hD hS hA (fun r1 w1 H locs hp1 hP hD hS => ?_)
  obtain ⟨rfl, rfl⟩ := hp1
  have hP : va_P D vwCl ((wX cI cZ h lev tm gn nL nC nE L B C E ++ [(qo, .inl (cJ, 1, .inr (.inl (vp_updL o 0 (-1).toInt64))))]) ++ (wM cI cZ g cd lev tm gn nL nC nE L B C F ys ao)) H := hP
  have hD : va_D A ((wX cI cZ h lev tm gn nL nC nE L B C E ++ [(qo, .inl (cJ, 1, .inr (.inl (vp_updL o 0 (-1).toInt64))))]) ++ (wM cI cZ g cd lev tm gn nL nC nE L B C F ys ao)) := hD
  refine lv_istore (lv' := [(5, .int 0), (0, .ref sb), (1, .ref (h 0)), (2, .ref (g 0)), (3, .ref qo), (4, .int (nI i))]) hx hb dL_law_904 hl (by decide) rfl (fun ls hl => ?_)
  refine lv_aload_n hx hb dL_law_906 rfl (lv_at hl 3 rfl) ?_
  refine lv_aload_n hx hb dL_law_907 rfl (lv_at hl 1 rfl) ?_
  refine lv_iload hx hb dL_law_908 (lv_at hl 5 rfl) ?_
  refine lv_iconst (v := 1) hx hb dL_law_910 (by decide) ?_
  refine zn_add (i := i) (j := 1) hx hb dL_law_911 ?_
  refine z_sld (k := i + 1) (v := nI k) hx hb hXs hbl hbA hS (by omega) (by omega) e1 dL_law_912 ?_
  refine z_backTi (wa := (wX cI cZ h lev tm gn nL nC nE L B C E ++ [(qo, .inl (cJ, 1, .inr (.inl (vp_updL o 0 (-1).toInt64))))])) (w := (wM cI cZ g cd lev tm gn nL nC nE L B C F ys ao)) (z_runVT (wa := (wX cI cZ h lev tm gn nL nC nE L B C E ++ [(qo, .inl (cJ, 1, .inr (.inl (vp_updL o 0 (-1).toInt64))))])) (w := (wM cI cZ g cd lev tm gn nL nC nE L B C F ys ao)) (n := 1) (As := [.int (nI k)]) (ci := 5) (rest := []) hx hb hml hown hts hK hE hP hD (tX4_least_many l D cI cZ cJ g cd lev tm gn nL nC nE L B C F ys ao k m_hk m_hL m_hC m_hn _) gL_law_X4_least rfl rfl rfl (by decide +kernel) ⟨Nat.le_of_ble_eq_true rfl, Nat.le_of_ble_eq_true rfl⟩ rfl rfl rfl hl.1 rfl (Nat.le_of_ble_eq_true rfl) dL_law_913 hroom) hP hD hS hA (fun r2 w1 H locs hp2 hP hD hS => ?_)
  obtain ⟨rfl, rfl⟩ := hp2
  have hP : va_P D vwCl ((wX cI cZ h lev tm gn nL nC nE L B C E ++ [(qo, .inl (cJ, 1, .inr (.inl (vp_updL o 0 (-1).toInt64))))]) ++ (wM cI cZ g 0 lev tm gn nL nC nE L B C F ys ao)) H := hP
  have hD : va_D A ((wX cI cZ h lev tm gn nL nC nE L B C E ++ [(qo, .inl (cJ, 1, .inr (.inl (vp_updL o 0 (-1).toInt64))))]) ++ (wM cI cZ g 0 lev tm gn nL nC nE L B C F ys ao)) := hD
  refine lv_istore (lv' := [(6, .int (-1)), (5, .int 0), (0, .ref sb), (1, .ref (h 0)), (2, .ref (g 0)), (3, .ref qo), (4, .int (nI i))]) hx hb dL_law_916 hl (by decide) rfl (fun ls hl => ?_)
  refine lv_aload_n hx hb dL_law_918 rfl (lv_at hl 4 rfl) ?_
  refine z_backTi (wa := (wX cI cZ h lev tm gn nL nC nE L B C E ++ [(qo, .inl (cJ, 1, .inr (.inl (vp_updL o 0 (-1).toInt64))))])) (w := (wM cI cZ g 0 lev tm gn nL nC nE L B C F ys ao)) (z_runVT (wa := (wX cI cZ h lev tm gn nL nC nE L B C E ++ [(qo, .inl (cJ, 1, .inr (.inl (vp_updL o 0 (-1).toInt64))))])) (w := (wM cI cZ g 0 lev tm gn nL nC nE L B C F ys ao)) (n := 0) (As := []) (ci := 5) (rest := []) hx hb hml hown hts hK hE hP hD (tX4_thrown l D cI cZ cJ g 0 lev tm gn nL nC nE L B C F ys ao _) gL_law_X4_thrown rfl rfl rfl (by decide +kernel) ⟨Nat.le_of_ble_eq_true rfl, Nat.le_of_ble_eq_true rfl⟩ rfl rfl rfl hl.1 rfl (Nat.le_of_ble_eq_true rfl) dL_law_919 hroom) hP hD hS hA (fun r3 w1 H locs hp3 hP hD hS => ?_)
  obtain ⟨rfl, rfl⟩ := hp3
  have hP : va_P D vwCl ((wX cI cZ h lev tm gn nL nC nE L B C E ++ [(qo, .inl (cJ, 1, .inr (.inl (vp_updL o 0 (-1).toInt64))))]) ++ (wM cI cZ g 0 lev tm gn nL nC nE L B C F ys ao)) H := hP
  have hD : va_D A ((wX cI cZ h lev tm gn nL nC nE L B C E ++ [(qo, .inl (cJ, 1, .inr (.inl (vp_updL o 0 (-1).toInt64))))]) ++ (wM cI cZ g 0 lev tm gn nL nC nE L B C F ys ao)) := hD
  refine lv_iload hx hb dL_law_922 (lv_at hl 1 rfl) ?_
  refine zn_eq (i := 0) (j := 0) (tgt := 929) hx hb (by omega) (by omega) dL_law_924 (by decide) (fun c924 => ?_) (fun c924 => ?_)
  · skip
    refine lv_iload hx hb dL_law_929 (lv_at hl 1 rfl) ?_
    refine lv_if_ne (x := 0) (tgt := 946) hx hb dL_law_931 (by decide) (fun c931 => ?_) (fun c931 => ?_)
    · exact absurd c931 (by decide)
    · skip
      refine lv_aload_n hx hb dL_law_934 rfl (lv_at hl 5 rfl) ?_
      refine lv_iconst (v := 0) hx hb dL_law_935 (by decide) ?_
      refine z_lald0 hx hb hK hP 24 rfl dL_law_936 ?_
      refine lv_iload hx hb dL_law_937 (lv_at hl 0 rfl) ?_
      refine lv_i2l (v := (-1).toInt64) hx hb dL_law_939 rfl ?_
      refine W.lcmp (x := (vp_updL o 0 (-1).toInt64) 0) (y := (-1).toInt64) hx hb dL_law_940 ?_
      refine z_top (lg_eq (o := o) (a := -1) (b := -1) rfl) ?_
      refine lv_if_eq (x := 0) (tgt := 946) hx hb dL_law_941 (by decide) (fun c941 => ?_) (fun c941 => ?_)
      · skip
        refine lv_goto (tgt := 1117) hx hb dL_law_946 (by decide) ?_
        exact kk H locs ls (lv_sub hl [2, 3, 4, 5, 6] rfl) hP hD hS
      · exact absurd c941 (by decide)
  · exact absurd c924 (by omega)


set_option maxHeartbeats 4000000 in
set_option maxRecDepth 100000 in
theorem law_least_ok {p : Program} {l : Launch} {e : Env} {s : State} {m : MethodId} {below : List Frame} {meth : Method} {c : Code} {Q : State → Prop} {sb Ln : Nat} {xs : Nat → Int32} {D : va_G} {cI cZ cJ : ClassId} {A : Nat → Prop} {sa : Nat → Nat} (cx : zCx p l s m meth c sb Ln xs D cI cZ cJ A sa) (h g : Nat → Nat) (lev tm : Nat) (gn : Int32) (nL nC nE : Nat) (L B C E F : Nat → Nat → Int32) (qo : Nat) (o : Nat → Int64) (cd : Int32) (ys ao : Nat → Int32) (i : Nat) (hi : i + 5 ≤ Ln) (k : Nat) (hk : k < nL) (hL : nL ≤ 4) (hC : nC ≤ 24) (hn : cntW (lsB C (nI k)) nC ≤ 4) (m_hk : k < nL) (m_hL : nL ≤ 4) (m_hC : nC ≤ 24) (m_hn : cntW (lsB C (nI k)) nC ≤ 4) (a0 : Nat) (m_hat0 : L 0 k = nI a0) (m_ha0 : a0 < 20) (m_hlev : lev ≤ 20) (fN : Nat → Nat) (tN : Nat → Nat) (m_hF : ∀ c, c < 24 → C 0 c = nI (fN c) ∧ fN c < 20) (m_hT : ∀ c, c < 24 → C 1 c = nI (tN c) ∧ tN c < 20) (e1 : xs (i + 1) = nI k) (hr : lwF C nC 8 (L 0 k) (setG (fun k9 => isB C k9 0 (nI k)) nI nC) (setG (fun k9 => isB C k9 1 (nI k)) nI nC) = ldR fN tN C (nI k) nC lev a0 ys) {H : Heap} {locs : List Loc} {cells slots : Nat} {ls : Array Slot} (hl : lv_has ls 7 [(0, .ref sb), (1, .ref (h 0)), (2, .ref (g 0)), (3, .ref qo), (4, .int (nI i))]) (hP : va_P D vwCl (wV cI cZ cJ h lev tm gn nL nC nE L B C E qo o ++ wM cI cZ g cd lev tm gn nL nC nE L B C F ys ao) H) (hD : va_D A (wV cI cZ cJ h lev tm gn nL nC nE L B C E qo o ++ wM cI cZ g cd lev tm gn nL nC nE L B C F ys ao)) (hS : va_S A s.heap H locs) (hroom : cells + 1 ≤ room_1.cells ∧ slots + 6 ≤ room_1.slots) (kk : ∀ (H1 : Heap) (locs1 : List Loc) (ls1 : Array Slot), lv_has ls1 7 [(0, .ref sb), (1, .ref (h 0)), (2, .ref (g 0)), (3, .ref qo), (4, .int (nI i))] → va_P D vwCl (wX cI cZ h lev tm gn nL nC nE L B C E ++ [(qo, .inl (cJ, 1, .inr (.inl (vp_updL o 0 (lwF C nC 8 (L 0 k) (setG (fun k9 => isB C k9 0 (nI k)) nI nC) (setG (fun k9 => isB C k9 1 (nI k)) nI nC)).toInt64))))] ++ wM cI cZ g 0 lev tm gn nL nC nE L B C F (ldY fN tN C (nI k) nC lev a0 ys) (aoF C (nI k) ao nC)) H1 → va_D A (wX cI cZ h lev tm gn nL nC nE L B C E ++ [(qo, .inl (cJ, 1, .inr (.inl (vp_updL o 0 (lwF C nC 8 (L 0 k) (setG (fun k9 => isB C k9 0 (nI k)) nI nC) (setG (fun k9 => isB C k9 1 (nI k)) nI nC)).toInt64))))] ++ wM cI cZ g 0 lev tm gn nL nC nE L B C F (ldY fN tN C (nI k) nC lev a0 ys) (aoF C (nI k) ao nC)) → va_S A s.heap H1 locs1 → W p l e room_1 s m #[Value.ref sb] below meth c H1 locs1 (cells + 1) (slots + 6) Q (F0 m 1117 ls1 []))  : W p l e room_1 s m #[Value.ref sb] below meth c H locs cells slots Q (F0 m 893 ls []) := by
  obtain ⟨hx, hb, hr9, hml, hlocks, hown, htsO, hK, hE, hX, hN, hA, hXs, hbl, hbA, hl9, hLn⟩ := cx
  have hts : ∀ w ∈ wsL_law, w.before #[Value.ref sb] s = true := fun w h9 => htsO w (lawO_l h9)
  refine lv_aload_n hx hb dL_law_893 rfl (lv_at hl 1 rfl) ?_
  refine lv_aload_n hx hb dL_law_894 rfl (lv_at hl 0 rfl) ?_
  refine lv_iload hx hb dL_law_895 (lv_at hl 4 rfl) ?_
  refine lv_iconst (v := 1) hx hb dL_law_897 (by decide) ?_
  refine zn_add (i := i) (j := 1) hx hb dL_law_898 ?_
  refine z_sld (k := i + 1) (v := nI k) hx hb hXs hbl hbA hS (by omega) (by omega) e1 dL_law_899 ?_
  refine lv_aload_n hx hb dL_law_900 rfl (lv_at hl 3 rfl) ?_
  refine z_backSi (wa := []) (w := (wV cI cZ cJ h lev tm gn nL nC nE L B C E qo o)) (wb := (wM cI cZ g cd lev tm gn nL nC nE L B C F ys ao)) (z_runSL (wa := []) (w := (wV cI cZ cJ h lev tm gn nL nC nE L B C E qo o)) (wb := (wM cI cZ g cd lev tm gn nL nC nE L B C F ys ao)) (n := 3) (As := [.ref (h 0), .int (nI k), .ref qo]) (rest := []) hx hb hml hown hts hK hE hX hN hS hA hP hD (tL_least_ok l D cI cZ cJ h lev tm gn nL nC nE L B C E k hk hL hC hn qo o sa _) gL_law_L_least rfl rfl rfl (by decide +kernel) ⟨Nat.le_of_ble_eq_true rfl, Nat.le_of_ble_eq_true rfl⟩ rfl hl.1 rfl (Nat.le_of_ble_eq_true rfl) dL_law_901 hroom) hP hD hS hA (fun r1 w1 H locs hp1 hP hD hS => ?_)
  obtain ⟨rfl, rfl⟩ := hp1
  have hP : va_P D vwCl ((wX cI cZ h lev tm gn nL nC nE L B C E ++ [(qo, .inl (cJ, 1, .inr (.inl (vp_updL o 0 (lwF C nC 8 (L 0 k) (setG (fun k9 => isB C k9 0 (nI k)) nI nC) (setG (fun k9 => isB C k9 1 (nI k)) nI nC)).toInt64))))]) ++ (wM cI cZ g cd lev tm gn nL nC nE L B C F ys ao)) H := hP
  have hD : va_D A ((wX cI cZ h lev tm gn nL nC nE L B C E ++ [(qo, .inl (cJ, 1, .inr (.inl (vp_updL o 0 (lwF C nC 8 (L 0 k) (setG (fun k9 => isB C k9 0 (nI k)) nI nC) (setG (fun k9 => isB C k9 1 (nI k)) nI nC)).toInt64))))]) ++ (wM cI cZ g cd lev tm gn nL nC nE L B C F ys ao)) := hD
  refine lv_istore (lv' := [(5, .int 0), (0, .ref sb), (1, .ref (h 0)), (2, .ref (g 0)), (3, .ref qo), (4, .int (nI i))]) hx hb dL_law_904 hl (by decide) rfl (fun ls hl => ?_)
  refine lv_aload_n hx hb dL_law_906 rfl (lv_at hl 3 rfl) ?_
  refine lv_aload_n hx hb dL_law_907 rfl (lv_at hl 1 rfl) ?_
  refine lv_iload hx hb dL_law_908 (lv_at hl 5 rfl) ?_
  refine lv_iconst (v := 1) hx hb dL_law_910 (by decide) ?_
  refine zn_add (i := i) (j := 1) hx hb dL_law_911 ?_
  refine z_sld (k := i + 1) (v := nI k) hx hb hXs hbl hbA hS (by omega) (by omega) e1 dL_law_912 ?_
  refine z_backTi (wa := (wX cI cZ h lev tm gn nL nC nE L B C E ++ [(qo, .inl (cJ, 1, .inr (.inl (vp_updL o 0 (lwF C nC 8 (L 0 k) (setG (fun k9 => isB C k9 0 (nI k)) nI nC) (setG (fun k9 => isB C k9 1 (nI k)) nI nC)).toInt64))))])) (w := (wM cI cZ g cd lev tm gn nL nC nE L B C F ys ao)) (z_runVT (wa := (wX cI cZ h lev tm gn nL nC nE L B C E ++ [(qo, .inl (cJ, 1, .inr (.inl (vp_updL o 0 (lwF C nC 8 (L 0 k) (setG (fun k9 => isB C k9 0 (nI k)) nI nC) (setG (fun k9 => isB C k9 1 (nI k)) nI nC)).toInt64))))])) (w := (wM cI cZ g cd lev tm gn nL nC nE L B C F ys ao)) (n := 1) (As := [.int (nI k)]) (ci := 5) (rest := []) hx hb hml hown hts hK hE hP hD (tX4_least_ok l D cI cZ cJ g cd lev tm gn nL nC nE L B C F ys ao k m_hk m_hL m_hC m_hn a0 m_hat0 m_ha0 m_hlev fN tN m_hF m_hT _) gL_law_X4_least rfl rfl rfl (by decide +kernel) ⟨Nat.le_of_ble_eq_true rfl, Nat.le_of_ble_eq_true rfl⟩ rfl rfl rfl hl.1 rfl (Nat.le_of_ble_eq_true rfl) dL_law_913 hroom) hP hD hS hA (fun r2 w1 H locs hp2 hP hD hS => ?_)
  obtain ⟨rfl, rfl⟩ := hp2
  have hP : va_P D vwCl ((wX cI cZ h lev tm gn nL nC nE L B C E ++ [(qo, .inl (cJ, 1, .inr (.inl (vp_updL o 0 (lwF C nC 8 (L 0 k) (setG (fun k9 => isB C k9 0 (nI k)) nI nC) (setG (fun k9 => isB C k9 1 (nI k)) nI nC)).toInt64))))]) ++ (wM cI cZ g 0 lev tm gn nL nC nE L B C F (ldY fN tN C (nI k) nC lev a0 ys) (aoF C (nI k) ao nC))) H := hP
  have hD : va_D A ((wX cI cZ h lev tm gn nL nC nE L B C E ++ [(qo, .inl (cJ, 1, .inr (.inl (vp_updL o 0 (lwF C nC 8 (L 0 k) (setG (fun k9 => isB C k9 0 (nI k)) nI nC) (setG (fun k9 => isB C k9 1 (nI k)) nI nC)).toInt64))))]) ++ (wM cI cZ g 0 lev tm gn nL nC nE L B C F (ldY fN tN C (nI k) nC lev a0 ys) (aoF C (nI k) ao nC))) := hD
  refine lv_istore (lv' := [(6, .int (ldR fN tN C (nI k) nC lev a0 ys)), (5, .int 0), (0, .ref sb), (1, .ref (h 0)), (2, .ref (g 0)), (3, .ref qo), (4, .int (nI i))]) hx hb dL_law_916 hl (by decide) rfl (fun ls hl => ?_)
  refine lv_aload_n hx hb dL_law_918 rfl (lv_at hl 4 rfl) ?_
  refine z_backTi (wa := (wX cI cZ h lev tm gn nL nC nE L B C E ++ [(qo, .inl (cJ, 1, .inr (.inl (vp_updL o 0 (lwF C nC 8 (L 0 k) (setG (fun k9 => isB C k9 0 (nI k)) nI nC) (setG (fun k9 => isB C k9 1 (nI k)) nI nC)).toInt64))))])) (w := (wM cI cZ g 0 lev tm gn nL nC nE L B C F (ldY fN tN C (nI k) nC lev a0 ys) (aoF C (nI k) ao nC))) (z_runVT (wa := (wX cI cZ h lev tm gn nL nC nE L B C E ++ [(qo, .inl (cJ, 1, .inr (.inl (vp_updL o 0 (lwF C nC 8 (L 0 k) (setG (fun k9 => isB C k9 0 (nI k)) nI nC) (setG (fun k9 => isB C k9 1 (nI k)) nI nC)).toInt64))))])) (w := (wM cI cZ g 0 lev tm gn nL nC nE L B C F (ldY fN tN C (nI k) nC lev a0 ys) (aoF C (nI k) ao nC))) (n := 0) (As := []) (ci := 5) (rest := []) hx hb hml hown hts hK hE hP hD (tX4_thrown l D cI cZ cJ g 0 lev tm gn nL nC nE L B C F (ldY fN tN C (nI k) nC lev a0 ys) (aoF C (nI k) ao nC) _) gL_law_X4_thrown rfl rfl rfl (by decide +kernel) ⟨Nat.le_of_ble_eq_true rfl, Nat.le_of_ble_eq_true rfl⟩ rfl rfl rfl hl.1 rfl (Nat.le_of_ble_eq_true rfl) dL_law_919 hroom) hP hD hS hA (fun r3 w1 H locs hp3 hP hD hS => ?_)
  obtain ⟨rfl, rfl⟩ := hp3
  have hP : va_P D vwCl ((wX cI cZ h lev tm gn nL nC nE L B C E ++ [(qo, .inl (cJ, 1, .inr (.inl (vp_updL o 0 (lwF C nC 8 (L 0 k) (setG (fun k9 => isB C k9 0 (nI k)) nI nC) (setG (fun k9 => isB C k9 1 (nI k)) nI nC)).toInt64))))]) ++ (wM cI cZ g 0 lev tm gn nL nC nE L B C F (ldY fN tN C (nI k) nC lev a0 ys) (aoF C (nI k) ao nC))) H := hP
  have hD : va_D A ((wX cI cZ h lev tm gn nL nC nE L B C E ++ [(qo, .inl (cJ, 1, .inr (.inl (vp_updL o 0 (lwF C nC 8 (L 0 k) (setG (fun k9 => isB C k9 0 (nI k)) nI nC) (setG (fun k9 => isB C k9 1 (nI k)) nI nC)).toInt64))))]) ++ (wM cI cZ g 0 lev tm gn nL nC nE L B C F (ldY fN tN C (nI k) nC lev a0 ys) (aoF C (nI k) ao nC))) := hD
  refine lv_iload hx hb dL_law_922 (lv_at hl 1 rfl) ?_
  refine zn_eq (i := 0) (j := 0) (tgt := 929) hx hb (by omega) (by omega) dL_law_924 (by decide) (fun c924 => ?_) (fun c924 => ?_)
  · skip
    refine lv_iload hx hb dL_law_929 (lv_at hl 1 rfl) ?_
    refine lv_if_ne (x := 0) (tgt := 946) hx hb dL_law_931 (by decide) (fun c931 => ?_) (fun c931 => ?_)
    · exact absurd c931 (by decide)
    · skip
      refine lv_aload_n hx hb dL_law_934 rfl (lv_at hl 5 rfl) ?_
      refine lv_iconst (v := 0) hx hb dL_law_935 (by decide) ?_
      refine z_lald0 hx hb hK hP 24 rfl dL_law_936 ?_
      refine lv_iload hx hb dL_law_937 (lv_at hl 0 rfl) ?_
      refine lv_i2l (v := (ldR fN tN C (nI k) nC lev a0 ys).toInt64) hx hb dL_law_939 rfl ?_
      refine W.lcmp (x := (vp_updL o 0 (lwF C nC 8 (L 0 k) (setG (fun k9 => isB C k9 0 (nI k)) nI nC) (setG (fun k9 => isB C k9 1 (nI k)) nI nC)).toInt64) 0) (y := (ldR fN tN C (nI k) nC lev a0 ys).toInt64) hx hb dL_law_940 ?_
      refine z_top (lg_eq hr) ?_
      refine lv_if_eq (x := 0) (tgt := 946) hx hb dL_law_941 (by decide) (fun c941 => ?_) (fun c941 => ?_)
      · skip
        refine lv_goto (tgt := 1117) hx hb dL_law_946 (by decide) ?_
        exact kk H locs ls (lv_sub hl [2, 3, 4, 5, 6] rfl) hP hD hS
      · exact absurd c941 (by decide)
  · exact absurd c924 (by omega)


set_option maxHeartbeats 4000000 in
set_option maxRecDepth 100000 in
theorem law_least_xa {p : Program} {l : Launch} {e : Env} {s : State} {m : MethodId} {below : List Frame} {meth : Method} {c : Code} {Q : State → Prop} {sb Ln : Nat} {xs : Nat → Int32} {D : va_G} {cI cZ cJ : ClassId} {A : Nat → Prop} {sa : Nat → Nat} (cx : zCx p l s m meth c sb Ln xs D cI cZ cJ A sa) (h g : Nat → Nat) (lev tm : Nat) (gn : Int32) (nL nC nE : Nat) (L B C E F : Nat → Nat → Int32) (qo : Nat) (o : Nat → Int64) (cd : Int32) (ys ao : Nat → Int32) (i : Nat) (hi : i + 5 ≤ Ln) (v : Int32) (hno : inB v 0 (nI nL - 1) = false) (hL : nL ≤ 4) (hC : nC ≤ 24) (m_hno : inB v 0 (nI nL - 1) = false) (e1 : xs (i + 1) = v) {H : Heap} {locs : List Loc} {cells slots : Nat} {ls : Array Slot} (hl : lv_has ls 7 [(0, .ref sb), (1, .ref (h 0)), (2, .ref (g 0)), (3, .ref qo), (4, .int (nI i))]) (hP : va_P D vwCl (wV cI cZ cJ h lev tm gn nL nC nE L B C E qo o ++ wM cI cZ g cd lev tm gn nL nC nE L B C F ys ao) H) (hD : va_D A (wV cI cZ cJ h lev tm gn nL nC nE L B C E qo o ++ wM cI cZ g cd lev tm gn nL nC nE L B C F ys ao)) (hS : va_S A s.heap H locs) (hroom : cells + 1 ≤ room_1.cells ∧ slots + 6 ≤ room_1.slots) (kk : ∀ (H1 : Heap) (locs1 : List Loc) (ls1 : Array Slot), lv_has ls1 7 [(0, .ref sb), (1, .ref (h 0)), (2, .ref (g 0)), (3, .ref qo), (4, .int (nI i))] → va_P D vwCl (wX cI cZ h lev tm gn nL nC nE L B C E ++ [(qo, .inl (cJ, 1, .inr (.inl o)))] ++ wM cI cZ g 1 lev tm gn nL nC nE L B C F ys ao) H1 → va_D A (wX cI cZ h lev tm gn nL nC nE L B C E ++ [(qo, .inl (cJ, 1, .inr (.inl o)))] ++ wM cI cZ g 1 lev tm gn nL nC nE L B C F ys ao) → va_S A s.heap H1 locs1 → W p l e room_1 s m #[Value.ref sb] below meth c H1 locs1 (cells + 1) (slots + 6) Q (F0 m 1117 ls1 []))  : W p l e room_1 s m #[Value.ref sb] below meth c H locs cells slots Q (F0 m 893 ls []) := by
  obtain ⟨hx, hb, hr9, hml, hlocks, hown, htsO, hK, hE, hX, hN, hA, hXs, hbl, hbA, hl9, hLn⟩ := cx
  have hts : ∀ w ∈ wsL_law, w.before #[Value.ref sb] s = true := fun w h9 => htsO w (lawO_l h9)
  refine lv_aload_n hx hb dL_law_893 rfl (lv_at hl 1 rfl) ?_
  refine lv_aload_n hx hb dL_law_894 rfl (lv_at hl 0 rfl) ?_
  refine lv_iload hx hb dL_law_895 (lv_at hl 4 rfl) ?_
  refine lv_iconst (v := 1) hx hb dL_law_897 (by decide) ?_
  refine zn_add (i := i) (j := 1) hx hb dL_law_898 ?_
  refine z_sld (k := i + 1) (v := v) hx hb hXs hbl hbA hS (by omega) (by omega) e1 dL_law_899 ?_
  refine lv_aload_n hx hb dL_law_900 rfl (lv_at hl 3 rfl) ?_
  refine z_backSi (wa := []) (w := (wV cI cZ cJ h lev tm gn nL nC nE L B C E qo o)) (wb := (wM cI cZ g cd lev tm gn nL nC nE L B C F ys ao)) (z_runSL (wa := []) (w := (wV cI cZ cJ h lev tm gn nL nC nE L B C E qo o)) (wb := (wM cI cZ g cd lev tm gn nL nC nE L B C F ys ao)) (n := 3) (As := [.ref (h 0), .int v, .ref qo]) (rest := []) hx hb hml hown hts hK hE hX hN hS hA hP hD (tL_least_xa l D cI cZ cJ h lev tm gn nL nC nE L B C E v hno hL hC qo o sa hl9 _) gL_law_L_least rfl rfl rfl (by decide +kernel) ⟨Nat.le_of_ble_eq_true rfl, Nat.le_of_ble_eq_true rfl⟩ rfl hl.1 rfl (Nat.le_of_ble_eq_true rfl) dL_law_901 hroom) hP hD hS hA (fun r1 w1 H locs hp1 hP hD hS => ?_)
  obtain ⟨rfl, rfl⟩ := hp1
  have hP : va_P D vwCl ((wX cI cZ h lev tm gn nL nC nE L B C E ++ [(qo, .inl (cJ, 1, .inr (.inl o)))]) ++ (wM cI cZ g cd lev tm gn nL nC nE L B C F ys ao)) H := hP
  have hD : va_D A ((wX cI cZ h lev tm gn nL nC nE L B C E ++ [(qo, .inl (cJ, 1, .inr (.inl o)))]) ++ (wM cI cZ g cd lev tm gn nL nC nE L B C F ys ao)) := hD
  refine lv_istore (lv' := [(5, .int 1), (0, .ref sb), (1, .ref (h 0)), (2, .ref (g 0)), (3, .ref qo), (4, .int (nI i))]) hx hb dL_law_904 hl (by decide) rfl (fun ls hl => ?_)
  refine lv_aload_n hx hb dL_law_906 rfl (lv_at hl 3 rfl) ?_
  refine lv_aload_n hx hb dL_law_907 rfl (lv_at hl 1 rfl) ?_
  refine lv_iload hx hb dL_law_908 (lv_at hl 5 rfl) ?_
  refine lv_iconst (v := 1) hx hb dL_law_910 (by decide) ?_
  refine zn_add (i := i) (j := 1) hx hb dL_law_911 ?_
  refine z_sld (k := i + 1) (v := v) hx hb hXs hbl hbA hS (by omega) (by omega) e1 dL_law_912 ?_
  refine z_backTi (wa := (wX cI cZ h lev tm gn nL nC nE L B C E ++ [(qo, .inl (cJ, 1, .inr (.inl o)))])) (w := (wM cI cZ g cd lev tm gn nL nC nE L B C F ys ao)) (z_runVT (wa := (wX cI cZ h lev tm gn nL nC nE L B C E ++ [(qo, .inl (cJ, 1, .inr (.inl o)))])) (w := (wM cI cZ g cd lev tm gn nL nC nE L B C F ys ao)) (n := 1) (As := [.int v]) (ci := 5) (rest := []) hx hb hml hown hts hK hE hP hD (tX4_least_no l D cI cZ cJ g cd lev tm gn nL nC nE L B C F ys ao v m_hno _) gL_law_X4_least rfl rfl rfl (by decide +kernel) ⟨Nat.le_of_ble_eq_true rfl, Nat.le_of_ble_eq_true rfl⟩ rfl rfl rfl hl.1 rfl (Nat.le_of_ble_eq_true rfl) dL_law_913 hroom) hP hD hS hA (fun r2 w1 H locs hp2 hP hD hS => ?_)
  obtain ⟨rfl, rfl⟩ := hp2
  have hP : va_P D vwCl ((wX cI cZ h lev tm gn nL nC nE L B C E ++ [(qo, .inl (cJ, 1, .inr (.inl o)))]) ++ (wM cI cZ g 1 lev tm gn nL nC nE L B C F ys ao)) H := hP
  have hD : va_D A ((wX cI cZ h lev tm gn nL nC nE L B C E ++ [(qo, .inl (cJ, 1, .inr (.inl o)))]) ++ (wM cI cZ g 1 lev tm gn nL nC nE L B C F ys ao)) := hD
  refine lv_istore (lv' := [(6, .int 0), (5, .int 1), (0, .ref sb), (1, .ref (h 0)), (2, .ref (g 0)), (3, .ref qo), (4, .int (nI i))]) hx hb dL_law_916 hl (by decide) rfl (fun ls hl => ?_)
  refine lv_aload_n hx hb dL_law_918 rfl (lv_at hl 4 rfl) ?_
  refine z_backTi (wa := (wX cI cZ h lev tm gn nL nC nE L B C E ++ [(qo, .inl (cJ, 1, .inr (.inl o)))])) (w := (wM cI cZ g 1 lev tm gn nL nC nE L B C F ys ao)) (z_runVT (wa := (wX cI cZ h lev tm gn nL nC nE L B C E ++ [(qo, .inl (cJ, 1, .inr (.inl o)))])) (w := (wM cI cZ g 1 lev tm gn nL nC nE L B C F ys ao)) (n := 0) (As := []) (ci := 5) (rest := []) hx hb hml hown hts hK hE hP hD (tX4_thrown l D cI cZ cJ g 1 lev tm gn nL nC nE L B C F ys ao _) gL_law_X4_thrown rfl rfl rfl (by decide +kernel) ⟨Nat.le_of_ble_eq_true rfl, Nat.le_of_ble_eq_true rfl⟩ rfl rfl rfl hl.1 rfl (Nat.le_of_ble_eq_true rfl) dL_law_919 hroom) hP hD hS hA (fun r3 w1 H locs hp3 hP hD hS => ?_)
  obtain ⟨rfl, rfl⟩ := hp3
  have hP : va_P D vwCl ((wX cI cZ h lev tm gn nL nC nE L B C E ++ [(qo, .inl (cJ, 1, .inr (.inl o)))]) ++ (wM cI cZ g 1 lev tm gn nL nC nE L B C F ys ao)) H := hP
  have hD : va_D A ((wX cI cZ h lev tm gn nL nC nE L B C E ++ [(qo, .inl (cJ, 1, .inr (.inl o)))]) ++ (wM cI cZ g 1 lev tm gn nL nC nE L B C F ys ao)) := hD
  refine lv_iload hx hb dL_law_922 (lv_at hl 1 rfl) ?_
  refine zn_eq (i := 1) (j := 1) (tgt := 929) hx hb (by omega) (by omega) dL_law_924 (by decide) (fun c924 => ?_) (fun c924 => ?_)
  · skip
    refine lv_iload hx hb dL_law_929 (lv_at hl 1 rfl) ?_
    refine lv_if_ne (x := 1) (tgt := 946) hx hb dL_law_931 (by decide) (fun c931 => ?_) (fun c931 => ?_)
    · skip
      refine lv_goto (tgt := 1117) hx hb dL_law_946 (by decide) ?_
      exact kk H locs ls (lv_sub hl [2, 3, 4, 5, 6] rfl) hP hD hS
    · exact absurd c931 (by decide)
  · exact absurd c924 (by omega)


set_option maxHeartbeats 4000000 in
set_option maxRecDepth 100000 in
theorem law_joins_ok {p : Program} {l : Launch} {e : Env} {s : State} {m : MethodId} {below : List Frame} {meth : Method} {c : Code} {Q : State → Prop} {sb Ln : Nat} {xs : Nat → Int32} {D : va_G} {cI cZ cJ : ClassId} {A : Nat → Prop} {sa : Nat → Nat} (cx : zCx p l s m meth c sb Ln xs D cI cZ cJ A sa) (h g : Nat → Nat) (lev tm : Nat) (gn : Int32) (nL nC nE : Nat) (L B C E F : Nat → Nat → Int32) (qo : Nat) (o : Nat → Int64) (cd : Int32) (ys ao : Nat → Int32) (i : Nat) (hi : i + 5 ≤ Ln) (k k2 : Nat) (hk : k < nC) (hk2 : k2 < nC) (hL : nL ≤ 4) (hC : nC ≤ 24) (hy : C 4 k = 0) (hy2 : C 4 k2 = 0) (m_hk : k < nC) (m_hk2 : k2 < nC) (m_hC : nC ≤ 24) (m_hy : C 4 k = 0) (m_hy2 : C 4 k2 = 0) (e1 : xs (i + 1) = nI k) (e2 : xs (i + 2) = nI k2) (hr : (decide (C 0 k = C 0 k2) && decide (C 1 k = C 1 k2)) = (decide (C 0 k = C 0 k2) && decide (C 1 k = C 1 k2))) {H : Heap} {locs : List Loc} {cells slots : Nat} {ls : Array Slot} (hl : lv_has ls 7 [(0, .ref sb), (1, .ref (h 0)), (2, .ref (g 0)), (3, .ref qo), (4, .int (nI i))]) (hP : va_P D vwCl (wV cI cZ cJ h lev tm gn nL nC nE L B C E qo o ++ wM cI cZ g cd lev tm gn nL nC nE L B C F ys ao) H) (hD : va_D A (wV cI cZ cJ h lev tm gn nL nC nE L B C E qo o ++ wM cI cZ g cd lev tm gn nL nC nE L B C F ys ao)) (hS : va_S A s.heap H locs) (hroom : cells + 1 ≤ room_1.cells ∧ slots + 6 ≤ room_1.slots) (kk : ∀ (H1 : Heap) (locs1 : List Loc) (ls1 : Array Slot), lv_has ls1 7 [(0, .ref sb), (1, .ref (h 0)), (2, .ref (g 0)), (3, .ref qo), (4, .int (nI i))] → va_P D vwCl (wX cI cZ h lev tm gn nL nC nE L B C E ++ [(qo, .inl (cJ, 1, .inr (.inl (vp_updL o 0 (bI (decide (C 0 k = C 0 k2) && decide (C 1 k = C 1 k2))).toInt64))))] ++ wM cI cZ g 0 lev tm gn nL nC nE L B C F ys ao) H1 → va_D A (wX cI cZ h lev tm gn nL nC nE L B C E ++ [(qo, .inl (cJ, 1, .inr (.inl (vp_updL o 0 (bI (decide (C 0 k = C 0 k2) && decide (C 1 k = C 1 k2))).toInt64))))] ++ wM cI cZ g 0 lev tm gn nL nC nE L B C F ys ao) → va_S A s.heap H1 locs1 → W p l e room_1 s m #[Value.ref sb] below meth c H1 locs1 (cells + 1) (slots + 6) Q (F0 m 1117 ls1 []))  : W p l e room_1 s m #[Value.ref sb] below meth c H locs cells slots Q (F0 m 949 ls []) := by
  obtain ⟨hx, hb, hr9, hml, hlocks, hown, htsO, hK, hE, hX, hN, hA, hXs, hbl, hbA, hl9, hLn⟩ := cx
  have hts : ∀ w ∈ wsL_law, w.before #[Value.ref sb] s = true := fun w h9 => htsO w (lawO_l h9)
  refine lv_aload_n hx hb dL_law_949 rfl (lv_at hl 1 rfl) ?_
  refine lv_aload_n hx hb dL_law_950 rfl (lv_at hl 0 rfl) ?_
  refine lv_iload hx hb dL_law_951 (lv_at hl 4 rfl) ?_
  refine lv_iconst (v := 1) hx hb dL_law_953 (by decide) ?_
  refine zn_add (i := i) (j := 1) hx hb dL_law_954 ?_
  refine z_sld (k := i + 1) (v := nI k) hx hb hXs hbl hbA hS (by omega) (by omega) e1 dL_law_955 ?_
  refine lv_aload_n hx hb dL_law_956 rfl (lv_at hl 0 rfl) ?_
  refine lv_iload hx hb dL_law_957 (lv_at hl 4 rfl) ?_
  refine lv_iconst (v := 2) hx hb dL_law_959 (by decide) ?_
  refine zn_add (i := i) (j := 2) hx hb dL_law_960 ?_
  refine z_sld (k := i + 2) (v := nI k2) hx hb hXs hbl hbA hS (by omega) (by omega) e2 dL_law_961 ?_
  refine lv_aload_n hx hb dL_law_962 rfl (lv_at hl 3 rfl) ?_
  refine z_backSi (wa := []) (w := (wV cI cZ cJ h lev tm gn nL nC nE L B C E qo o)) (wb := (wM cI cZ g cd lev tm gn nL nC nE L B C F ys ao)) (z_runSL (wa := []) (w := (wV cI cZ cJ h lev tm gn nL nC nE L B C E qo o)) (wb := (wM cI cZ g cd lev tm gn nL nC nE L B C F ys ao)) (n := 4) (As := [.ref (h 0), .int (nI k), .int (nI k2), .ref qo]) (rest := []) hx hb hml hown hts hK hE hX hN hS hA hP hD (tL_joins_ok l D cI cZ cJ h lev tm gn nL nC nE L B C E k k2 hk hk2 hL hC hy hy2 qo o sa _) gL_law_L_joins rfl rfl rfl (by decide +kernel) ⟨Nat.le_of_ble_eq_true rfl, Nat.le_of_ble_eq_true rfl⟩ rfl hl.1 rfl (Nat.le_of_ble_eq_true rfl) dL_law_963 hroom) hP hD hS hA (fun r1 w1 H locs hp1 hP hD hS => ?_)
  obtain ⟨rfl, rfl⟩ := hp1
  have hP : va_P D vwCl ((wX cI cZ h lev tm gn nL nC nE L B C E ++ [(qo, .inl (cJ, 1, .inr (.inl (vp_updL o 0 (bI (decide (C 0 k = C 0 k2) && decide (C 1 k = C 1 k2))).toInt64))))]) ++ (wM cI cZ g cd lev tm gn nL nC nE L B C F ys ao)) H := hP
  have hD : va_D A ((wX cI cZ h lev tm gn nL nC nE L B C E ++ [(qo, .inl (cJ, 1, .inr (.inl (vp_updL o 0 (bI (decide (C 0 k = C 0 k2) && decide (C 1 k = C 1 k2))).toInt64))))]) ++ (wM cI cZ g cd lev tm gn nL nC nE L B C F ys ao)) := hD
  refine lv_istore (lv' := [(5, .int 0), (0, .ref sb), (1, .ref (h 0)), (2, .ref (g 0)), (3, .ref qo), (4, .int (nI i))]) hx hb dL_law_966 hl (by decide) rfl (fun ls hl => ?_)
  refine lv_aload_n hx hb dL_law_968 rfl (lv_at hl 3 rfl) ?_
  refine lv_aload_n hx hb dL_law_969 rfl (lv_at hl 1 rfl) ?_
  refine lv_iload hx hb dL_law_970 (lv_at hl 5 rfl) ?_
  refine lv_iconst (v := 1) hx hb dL_law_972 (by decide) ?_
  refine zn_add (i := i) (j := 1) hx hb dL_law_973 ?_
  refine z_sld (k := i + 1) (v := nI k) hx hb hXs hbl hbA hS (by omega) (by omega) e1 dL_law_974 ?_
  refine lv_aload_n hx hb dL_law_975 rfl (lv_at hl 1 rfl) ?_
  refine lv_iload hx hb dL_law_976 (lv_at hl 5 rfl) ?_
  refine lv_iconst (v := 2) hx hb dL_law_978 (by decide) ?_
  refine zn_add (i := i) (j := 2) hx hb dL_law_979 ?_
  refine z_sld (k := i + 2) (v := nI k2) hx hb hXs hbl hbA hS (by omega) (by omega) e2 dL_law_980 ?_
  refine z_backTi (wa := (wX cI cZ h lev tm gn nL nC nE L B C E ++ [(qo, .inl (cJ, 1, .inr (.inl (vp_updL o 0 (bI (decide (C 0 k = C 0 k2) && decide (C 1 k = C 1 k2))).toInt64))))])) (w := (wM cI cZ g cd lev tm gn nL nC nE L B C F ys ao)) (z_runVT (wa := (wX cI cZ h lev tm gn nL nC nE L B C E ++ [(qo, .inl (cJ, 1, .inr (.inl (vp_updL o 0 (bI (decide (C 0 k = C 0 k2) && decide (C 1 k = C 1 k2))).toInt64))))])) (w := (wM cI cZ g cd lev tm gn nL nC nE L B C F ys ao)) (n := 2) (As := [.int (nI k), .int (nI k2)]) (ci := 5) (rest := []) hx hb hml hown hts hK hE hP hD (tX4_joins_ok l D cI cZ cJ g cd lev tm gn nL nC nE L B C F ys ao k k2 m_hk m_hk2 m_hC m_hy m_hy2 _) gL_law_X4_joins rfl rfl rfl (by decide +kernel) ⟨Nat.le_of_ble_eq_true rfl, Nat.le_of_ble_eq_true rfl⟩ rfl rfl rfl hl.1 rfl (Nat.le_of_ble_eq_true rfl) dL_law_981 hroom) hP hD hS hA (fun r2 w1 H locs hp2 hP hD hS => ?_)
  obtain ⟨rfl, rfl⟩ := hp2
  have hP : va_P D vwCl ((wX cI cZ h lev tm gn nL nC nE L B C E ++ [(qo, .inl (cJ, 1, .inr (.inl (vp_updL o 0 (bI (decide (C 0 k = C 0 k2) && decide (C 1 k = C 1 k2))).toInt64))))]) ++ (wM cI cZ g 0 lev tm gn nL nC nE L B C F ys ao)) H := hP
  have hD : va_D A ((wX cI cZ h lev tm gn nL nC nE L B C E ++ [(qo, .inl (cJ, 1, .inr (.inl (vp_updL o 0 (bI (decide (C 0 k = C 0 k2) && decide (C 1 k = C 1 k2))).toInt64))))]) ++ (wM cI cZ g 0 lev tm gn nL nC nE L B C F ys ao)) := hD
  refine lv_istore (lv' := [(6, .int (bI (decide (C 0 k = C 0 k2) && decide (C 1 k = C 1 k2)))), (5, .int 0), (0, .ref sb), (1, .ref (h 0)), (2, .ref (g 0)), (3, .ref qo), (4, .int (nI i))]) hx hb dL_law_984 hl (by decide) rfl (fun ls hl => ?_)
  refine lv_aload_n hx hb dL_law_986 rfl (lv_at hl 4 rfl) ?_
  refine z_backTi (wa := (wX cI cZ h lev tm gn nL nC nE L B C E ++ [(qo, .inl (cJ, 1, .inr (.inl (vp_updL o 0 (bI (decide (C 0 k = C 0 k2) && decide (C 1 k = C 1 k2))).toInt64))))])) (w := (wM cI cZ g 0 lev tm gn nL nC nE L B C F ys ao)) (z_runVT (wa := (wX cI cZ h lev tm gn nL nC nE L B C E ++ [(qo, .inl (cJ, 1, .inr (.inl (vp_updL o 0 (bI (decide (C 0 k = C 0 k2) && decide (C 1 k = C 1 k2))).toInt64))))])) (w := (wM cI cZ g 0 lev tm gn nL nC nE L B C F ys ao)) (n := 0) (As := []) (ci := 5) (rest := []) hx hb hml hown hts hK hE hP hD (tX4_thrown l D cI cZ cJ g 0 lev tm gn nL nC nE L B C F ys ao _) gL_law_X4_thrown rfl rfl rfl (by decide +kernel) ⟨Nat.le_of_ble_eq_true rfl, Nat.le_of_ble_eq_true rfl⟩ rfl rfl rfl hl.1 rfl (Nat.le_of_ble_eq_true rfl) dL_law_987 hroom) hP hD hS hA (fun r3 w1 H locs hp3 hP hD hS => ?_)
  obtain ⟨rfl, rfl⟩ := hp3
  have hP : va_P D vwCl ((wX cI cZ h lev tm gn nL nC nE L B C E ++ [(qo, .inl (cJ, 1, .inr (.inl (vp_updL o 0 (bI (decide (C 0 k = C 0 k2) && decide (C 1 k = C 1 k2))).toInt64))))]) ++ (wM cI cZ g 0 lev tm gn nL nC nE L B C F ys ao)) H := hP
  have hD : va_D A ((wX cI cZ h lev tm gn nL nC nE L B C E ++ [(qo, .inl (cJ, 1, .inr (.inl (vp_updL o 0 (bI (decide (C 0 k = C 0 k2) && decide (C 1 k = C 1 k2))).toInt64))))]) ++ (wM cI cZ g 0 lev tm gn nL nC nE L B C F ys ao)) := hD
  refine lv_iload hx hb dL_law_990 (lv_at hl 1 rfl) ?_
  refine zn_eq (i := 0) (j := 0) (tgt := 997) hx hb (by omega) (by omega) dL_law_992 (by decide) (fun c992 => ?_) (fun c992 => ?_)
  · skip
    refine lv_iload hx hb dL_law_997 (lv_at hl 1 rfl) ?_
    refine lv_if_ne (x := 0) (tgt := 1021) hx hb dL_law_999 (by decide) (fun c999 => ?_) (fun c999 => ?_)
    · exact absurd c999 (by decide)
    · skip
      refine lv_aload_n hx hb dL_law_1002 rfl (lv_at hl 5 rfl) ?_
      refine lv_iconst (v := 0) hx hb dL_law_1003 (by decide) ?_
      refine z_lald0 hx hb hK hP 24 rfl dL_law_1004 ?_
      refine lv_iload hx hb dL_law_1005 (lv_at hl 0 rfl) ?_
      refine zb_eq (b := (decide (C 0 k = C 0 k2) && decide (C 1 k = C 1 k2))) (tgt := 1014) hx hb dL_law_1007 (by decide) (fun c1007 => ?_) (fun c1007 => ?_)
      · skip
        refine lv_lconst (v := 0) hx hb dL_law_1014 (by decide) ?_
        refine W.lcmp (x := (vp_updL o 0 (bI (decide (C 0 k = C 0 k2) && decide (C 1 k = C 1 k2))).toInt64) 0) (y := 0) hx hb dL_law_1015 ?_
        refine z_top (lg_eqf hr c1007) ?_
        refine lv_if_eq (x := 0) (tgt := 1021) hx hb dL_law_1016 (by decide) (fun c1016 => ?_) (fun c1016 => ?_)
        · skip
          refine lv_goto (tgt := 1117) hx hb dL_law_1021 (by decide) ?_
          exact kk H locs ls (lv_sub hl [2, 3, 4, 5, 6] rfl) hP hD hS
        · exact absurd c1016 (by decide)
      · skip
        refine lv_lconst (v := 1) hx hb dL_law_1010 (by decide) ?_
        refine lv_goto (tgt := 1015) hx hb dL_law_1011 (by decide) ?_
        refine W.lcmp (x := (vp_updL o 0 (bI (decide (C 0 k = C 0 k2) && decide (C 1 k = C 1 k2))).toInt64) 0) (y := 1) hx hb dL_law_1015 ?_
        refine z_top (lg_eqt hr c1007) ?_
        refine lv_if_eq (x := 0) (tgt := 1021) hx hb dL_law_1016 (by decide) (fun c1016 => ?_) (fun c1016 => ?_)
        · skip
          refine lv_goto (tgt := 1117) hx hb dL_law_1021 (by decide) ?_
          exact kk H locs ls (lv_sub hl [2, 3, 4, 5, 6] rfl) hP hD hS
        · exact absurd c1016 (by decide)
  · exact absurd c992 (by omega)


set_option maxHeartbeats 4000000 in
set_option maxRecDepth 100000 in
theorem law_joins_xa {p : Program} {l : Launch} {e : Env} {s : State} {m : MethodId} {below : List Frame} {meth : Method} {c : Code} {Q : State → Prop} {sb Ln : Nat} {xs : Nat → Int32} {D : va_G} {cI cZ cJ : ClassId} {A : Nat → Prop} {sa : Nat → Nat} (cx : zCx p l s m meth c sb Ln xs D cI cZ cJ A sa) (h g : Nat → Nat) (lev tm : Nat) (gn : Int32) (nL nC nE : Nat) (L B C E F : Nat → Nat → Int32) (qo : Nat) (o : Nat → Int64) (cd : Int32) (ys ao : Nat → Int32) (i : Nat) (hi : i + 5 ≤ Ln) (v v2 : Int32) (hno : inB v 0 (nI nC - 1) = false) (hL : nL ≤ 4) (hC : nC ≤ 24) (m_hno : (inB v 0 (nI nC - 1) && inB v2 0 (nI nC - 1)) = false) (e1 : xs (i + 1) = v) (e2 : xs (i + 2) = v2) {H : Heap} {locs : List Loc} {cells slots : Nat} {ls : Array Slot} (hl : lv_has ls 7 [(0, .ref sb), (1, .ref (h 0)), (2, .ref (g 0)), (3, .ref qo), (4, .int (nI i))]) (hP : va_P D vwCl (wV cI cZ cJ h lev tm gn nL nC nE L B C E qo o ++ wM cI cZ g cd lev tm gn nL nC nE L B C F ys ao) H) (hD : va_D A (wV cI cZ cJ h lev tm gn nL nC nE L B C E qo o ++ wM cI cZ g cd lev tm gn nL nC nE L B C F ys ao)) (hS : va_S A s.heap H locs) (hroom : cells + 1 ≤ room_1.cells ∧ slots + 6 ≤ room_1.slots) (kk : ∀ (H1 : Heap) (locs1 : List Loc) (ls1 : Array Slot), lv_has ls1 7 [(0, .ref sb), (1, .ref (h 0)), (2, .ref (g 0)), (3, .ref qo), (4, .int (nI i))] → va_P D vwCl (wX cI cZ h lev tm gn nL nC nE L B C E ++ [(qo, .inl (cJ, 1, .inr (.inl o)))] ++ wM cI cZ g 1 lev tm gn nL nC nE L B C F ys ao) H1 → va_D A (wX cI cZ h lev tm gn nL nC nE L B C E ++ [(qo, .inl (cJ, 1, .inr (.inl o)))] ++ wM cI cZ g 1 lev tm gn nL nC nE L B C F ys ao) → va_S A s.heap H1 locs1 → W p l e room_1 s m #[Value.ref sb] below meth c H1 locs1 (cells + 1) (slots + 6) Q (F0 m 1117 ls1 []))  : W p l e room_1 s m #[Value.ref sb] below meth c H locs cells slots Q (F0 m 949 ls []) := by
  obtain ⟨hx, hb, hr9, hml, hlocks, hown, htsO, hK, hE, hX, hN, hA, hXs, hbl, hbA, hl9, hLn⟩ := cx
  have hts : ∀ w ∈ wsL_law, w.before #[Value.ref sb] s = true := fun w h9 => htsO w (lawO_l h9)
  refine lv_aload_n hx hb dL_law_949 rfl (lv_at hl 1 rfl) ?_
  refine lv_aload_n hx hb dL_law_950 rfl (lv_at hl 0 rfl) ?_
  refine lv_iload hx hb dL_law_951 (lv_at hl 4 rfl) ?_
  refine lv_iconst (v := 1) hx hb dL_law_953 (by decide) ?_
  refine zn_add (i := i) (j := 1) hx hb dL_law_954 ?_
  refine z_sld (k := i + 1) (v := v) hx hb hXs hbl hbA hS (by omega) (by omega) e1 dL_law_955 ?_
  refine lv_aload_n hx hb dL_law_956 rfl (lv_at hl 0 rfl) ?_
  refine lv_iload hx hb dL_law_957 (lv_at hl 4 rfl) ?_
  refine lv_iconst (v := 2) hx hb dL_law_959 (by decide) ?_
  refine zn_add (i := i) (j := 2) hx hb dL_law_960 ?_
  refine z_sld (k := i + 2) (v := v2) hx hb hXs hbl hbA hS (by omega) (by omega) e2 dL_law_961 ?_
  refine lv_aload_n hx hb dL_law_962 rfl (lv_at hl 3 rfl) ?_
  refine z_backSi (wa := []) (w := (wV cI cZ cJ h lev tm gn nL nC nE L B C E qo o)) (wb := (wM cI cZ g cd lev tm gn nL nC nE L B C F ys ao)) (z_runSL (wa := []) (w := (wV cI cZ cJ h lev tm gn nL nC nE L B C E qo o)) (wb := (wM cI cZ g cd lev tm gn nL nC nE L B C F ys ao)) (n := 4) (As := [.ref (h 0), .int v, .int v2, .ref qo]) (rest := []) hx hb hml hown hts hK hE hX hN hS hA hP hD (tL_joins_xa l D cI cZ cJ h lev tm gn nL nC nE L B C E v v2 hno hL hC qo o sa hl9 _) gL_law_L_joins rfl rfl rfl (by decide +kernel) ⟨Nat.le_of_ble_eq_true rfl, Nat.le_of_ble_eq_true rfl⟩ rfl hl.1 rfl (Nat.le_of_ble_eq_true rfl) dL_law_963 hroom) hP hD hS hA (fun r1 w1 H locs hp1 hP hD hS => ?_)
  obtain ⟨rfl, rfl⟩ := hp1
  have hP : va_P D vwCl ((wX cI cZ h lev tm gn nL nC nE L B C E ++ [(qo, .inl (cJ, 1, .inr (.inl o)))]) ++ (wM cI cZ g cd lev tm gn nL nC nE L B C F ys ao)) H := hP
  have hD : va_D A ((wX cI cZ h lev tm gn nL nC nE L B C E ++ [(qo, .inl (cJ, 1, .inr (.inl o)))]) ++ (wM cI cZ g cd lev tm gn nL nC nE L B C F ys ao)) := hD
  refine lv_istore (lv' := [(5, .int 1), (0, .ref sb), (1, .ref (h 0)), (2, .ref (g 0)), (3, .ref qo), (4, .int (nI i))]) hx hb dL_law_966 hl (by decide) rfl (fun ls hl => ?_)
  refine lv_aload_n hx hb dL_law_968 rfl (lv_at hl 3 rfl) ?_
  refine lv_aload_n hx hb dL_law_969 rfl (lv_at hl 1 rfl) ?_
  refine lv_iload hx hb dL_law_970 (lv_at hl 5 rfl) ?_
  refine lv_iconst (v := 1) hx hb dL_law_972 (by decide) ?_
  refine zn_add (i := i) (j := 1) hx hb dL_law_973 ?_
  refine z_sld (k := i + 1) (v := v) hx hb hXs hbl hbA hS (by omega) (by omega) e1 dL_law_974 ?_
  refine lv_aload_n hx hb dL_law_975 rfl (lv_at hl 1 rfl) ?_
  refine lv_iload hx hb dL_law_976 (lv_at hl 5 rfl) ?_
  refine lv_iconst (v := 2) hx hb dL_law_978 (by decide) ?_
  refine zn_add (i := i) (j := 2) hx hb dL_law_979 ?_
  refine z_sld (k := i + 2) (v := v2) hx hb hXs hbl hbA hS (by omega) (by omega) e2 dL_law_980 ?_
  refine z_backTi (wa := (wX cI cZ h lev tm gn nL nC nE L B C E ++ [(qo, .inl (cJ, 1, .inr (.inl o)))])) (w := (wM cI cZ g cd lev tm gn nL nC nE L B C F ys ao)) (z_runVT (wa := (wX cI cZ h lev tm gn nL nC nE L B C E ++ [(qo, .inl (cJ, 1, .inr (.inl o)))])) (w := (wM cI cZ g cd lev tm gn nL nC nE L B C F ys ao)) (n := 2) (As := [.int v, .int v2]) (ci := 5) (rest := []) hx hb hml hown hts hK hE hP hD (tX4_joins_n1 l D cI cZ cJ g cd lev tm gn nL nC nE L B C F ys ao v v2 m_hno _) gL_law_X4_joins rfl rfl rfl (by decide +kernel) ⟨Nat.le_of_ble_eq_true rfl, Nat.le_of_ble_eq_true rfl⟩ rfl rfl rfl hl.1 rfl (Nat.le_of_ble_eq_true rfl) dL_law_981 hroom) hP hD hS hA (fun r2 w1 H locs hp2 hP hD hS => ?_)
  obtain ⟨rfl, rfl⟩ := hp2
  have hP : va_P D vwCl ((wX cI cZ h lev tm gn nL nC nE L B C E ++ [(qo, .inl (cJ, 1, .inr (.inl o)))]) ++ (wM cI cZ g 1 lev tm gn nL nC nE L B C F ys ao)) H := hP
  have hD : va_D A ((wX cI cZ h lev tm gn nL nC nE L B C E ++ [(qo, .inl (cJ, 1, .inr (.inl o)))]) ++ (wM cI cZ g 1 lev tm gn nL nC nE L B C F ys ao)) := hD
  refine lv_istore (lv' := [(6, .int 0), (5, .int 1), (0, .ref sb), (1, .ref (h 0)), (2, .ref (g 0)), (3, .ref qo), (4, .int (nI i))]) hx hb dL_law_984 hl (by decide) rfl (fun ls hl => ?_)
  refine lv_aload_n hx hb dL_law_986 rfl (lv_at hl 4 rfl) ?_
  refine z_backTi (wa := (wX cI cZ h lev tm gn nL nC nE L B C E ++ [(qo, .inl (cJ, 1, .inr (.inl o)))])) (w := (wM cI cZ g 1 lev tm gn nL nC nE L B C F ys ao)) (z_runVT (wa := (wX cI cZ h lev tm gn nL nC nE L B C E ++ [(qo, .inl (cJ, 1, .inr (.inl o)))])) (w := (wM cI cZ g 1 lev tm gn nL nC nE L B C F ys ao)) (n := 0) (As := []) (ci := 5) (rest := []) hx hb hml hown hts hK hE hP hD (tX4_thrown l D cI cZ cJ g 1 lev tm gn nL nC nE L B C F ys ao _) gL_law_X4_thrown rfl rfl rfl (by decide +kernel) ⟨Nat.le_of_ble_eq_true rfl, Nat.le_of_ble_eq_true rfl⟩ rfl rfl rfl hl.1 rfl (Nat.le_of_ble_eq_true rfl) dL_law_987 hroom) hP hD hS hA (fun r3 w1 H locs hp3 hP hD hS => ?_)
  obtain ⟨rfl, rfl⟩ := hp3
  have hP : va_P D vwCl ((wX cI cZ h lev tm gn nL nC nE L B C E ++ [(qo, .inl (cJ, 1, .inr (.inl o)))]) ++ (wM cI cZ g 1 lev tm gn nL nC nE L B C F ys ao)) H := hP
  have hD : va_D A ((wX cI cZ h lev tm gn nL nC nE L B C E ++ [(qo, .inl (cJ, 1, .inr (.inl o)))]) ++ (wM cI cZ g 1 lev tm gn nL nC nE L B C F ys ao)) := hD
  refine lv_iload hx hb dL_law_990 (lv_at hl 1 rfl) ?_
  refine zn_eq (i := 1) (j := 1) (tgt := 997) hx hb (by omega) (by omega) dL_law_992 (by decide) (fun c992 => ?_) (fun c992 => ?_)
  · skip
    refine lv_iload hx hb dL_law_997 (lv_at hl 1 rfl) ?_
    refine lv_if_ne (x := 1) (tgt := 1021) hx hb dL_law_999 (by decide) (fun c999 => ?_) (fun c999 => ?_)
    · skip
      refine lv_goto (tgt := 1117) hx hb dL_law_1021 (by decide) ?_
      exact kk H locs ls (lv_sub hl [2, 3, 4, 5, 6] rfl) hP hD hS
    · exact absurd c999 (by decide)
  · exact absurd c992 (by omega)


set_option maxHeartbeats 4000000 in
set_option maxRecDepth 100000 in
theorem law_joins_xb {p : Program} {l : Launch} {e : Env} {s : State} {m : MethodId} {below : List Frame} {meth : Method} {c : Code} {Q : State → Prop} {sb Ln : Nat} {xs : Nat → Int32} {D : va_G} {cI cZ cJ : ClassId} {A : Nat → Prop} {sa : Nat → Nat} (cx : zCx p l s m meth c sb Ln xs D cI cZ cJ A sa) (h g : Nat → Nat) (lev tm : Nat) (gn : Int32) (nL nC nE : Nat) (L B C E F : Nat → Nat → Int32) (qo : Nat) (o : Nat → Int64) (cd : Int32) (ys ao : Nat → Int32) (i : Nat) (hi : i + 5 ≤ Ln) (k : Nat) (hk : k < nC) (hL : nL ≤ 4) (hC : nC ≤ 24) (v2 : Int32) (hno : inB v2 0 (nI nC - 1) = false) (m_hno : (inB (nI k) 0 (nI nC - 1) && inB v2 0 (nI nC - 1)) = false) (e1 : xs (i + 1) = nI k) (e2 : xs (i + 2) = v2) {H : Heap} {locs : List Loc} {cells slots : Nat} {ls : Array Slot} (hl : lv_has ls 7 [(0, .ref sb), (1, .ref (h 0)), (2, .ref (g 0)), (3, .ref qo), (4, .int (nI i))]) (hP : va_P D vwCl (wV cI cZ cJ h lev tm gn nL nC nE L B C E qo o ++ wM cI cZ g cd lev tm gn nL nC nE L B C F ys ao) H) (hD : va_D A (wV cI cZ cJ h lev tm gn nL nC nE L B C E qo o ++ wM cI cZ g cd lev tm gn nL nC nE L B C F ys ao)) (hS : va_S A s.heap H locs) (hroom : cells + 1 ≤ room_1.cells ∧ slots + 6 ≤ room_1.slots) (kk : ∀ (H1 : Heap) (locs1 : List Loc) (ls1 : Array Slot), lv_has ls1 7 [(0, .ref sb), (1, .ref (h 0)), (2, .ref (g 0)), (3, .ref qo), (4, .int (nI i))] → va_P D vwCl (wX cI cZ h lev tm gn nL nC nE L B C E ++ [(qo, .inl (cJ, 1, .inr (.inl o)))] ++ wM cI cZ g 1 lev tm gn nL nC nE L B C F ys ao) H1 → va_D A (wX cI cZ h lev tm gn nL nC nE L B C E ++ [(qo, .inl (cJ, 1, .inr (.inl o)))] ++ wM cI cZ g 1 lev tm gn nL nC nE L B C F ys ao) → va_S A s.heap H1 locs1 → W p l e room_1 s m #[Value.ref sb] below meth c H1 locs1 (cells + 1) (slots + 6) Q (F0 m 1117 ls1 []))  : W p l e room_1 s m #[Value.ref sb] below meth c H locs cells slots Q (F0 m 949 ls []) := by
  obtain ⟨hx, hb, hr9, hml, hlocks, hown, htsO, hK, hE, hX, hN, hA, hXs, hbl, hbA, hl9, hLn⟩ := cx
  have hts : ∀ w ∈ wsL_law, w.before #[Value.ref sb] s = true := fun w h9 => htsO w (lawO_l h9)
  refine lv_aload_n hx hb dL_law_949 rfl (lv_at hl 1 rfl) ?_
  refine lv_aload_n hx hb dL_law_950 rfl (lv_at hl 0 rfl) ?_
  refine lv_iload hx hb dL_law_951 (lv_at hl 4 rfl) ?_
  refine lv_iconst (v := 1) hx hb dL_law_953 (by decide) ?_
  refine zn_add (i := i) (j := 1) hx hb dL_law_954 ?_
  refine z_sld (k := i + 1) (v := nI k) hx hb hXs hbl hbA hS (by omega) (by omega) e1 dL_law_955 ?_
  refine lv_aload_n hx hb dL_law_956 rfl (lv_at hl 0 rfl) ?_
  refine lv_iload hx hb dL_law_957 (lv_at hl 4 rfl) ?_
  refine lv_iconst (v := 2) hx hb dL_law_959 (by decide) ?_
  refine zn_add (i := i) (j := 2) hx hb dL_law_960 ?_
  refine z_sld (k := i + 2) (v := v2) hx hb hXs hbl hbA hS (by omega) (by omega) e2 dL_law_961 ?_
  refine lv_aload_n hx hb dL_law_962 rfl (lv_at hl 3 rfl) ?_
  refine z_backSi (wa := []) (w := (wV cI cZ cJ h lev tm gn nL nC nE L B C E qo o)) (wb := (wM cI cZ g cd lev tm gn nL nC nE L B C F ys ao)) (z_runSL (wa := []) (w := (wV cI cZ cJ h lev tm gn nL nC nE L B C E qo o)) (wb := (wM cI cZ g cd lev tm gn nL nC nE L B C F ys ao)) (n := 4) (As := [.ref (h 0), .int (nI k), .int v2, .ref qo]) (rest := []) hx hb hml hown hts hK hE hX hN hS hA hP hD (tL_joins_xb l D cI cZ cJ h lev tm gn nL nC nE L B C E k hk hL hC v2 hno qo o sa hl9 _) gL_law_L_joins rfl rfl rfl (by decide +kernel) ⟨Nat.le_of_ble_eq_true rfl, Nat.le_of_ble_eq_true rfl⟩ rfl hl.1 rfl (Nat.le_of_ble_eq_true rfl) dL_law_963 hroom) hP hD hS hA (fun r1 w1 H locs hp1 hP hD hS => ?_)
  obtain ⟨rfl, rfl⟩ := hp1
  have hP : va_P D vwCl ((wX cI cZ h lev tm gn nL nC nE L B C E ++ [(qo, .inl (cJ, 1, .inr (.inl o)))]) ++ (wM cI cZ g cd lev tm gn nL nC nE L B C F ys ao)) H := hP
  have hD : va_D A ((wX cI cZ h lev tm gn nL nC nE L B C E ++ [(qo, .inl (cJ, 1, .inr (.inl o)))]) ++ (wM cI cZ g cd lev tm gn nL nC nE L B C F ys ao)) := hD
  refine lv_istore (lv' := [(5, .int 1), (0, .ref sb), (1, .ref (h 0)), (2, .ref (g 0)), (3, .ref qo), (4, .int (nI i))]) hx hb dL_law_966 hl (by decide) rfl (fun ls hl => ?_)
  refine lv_aload_n hx hb dL_law_968 rfl (lv_at hl 3 rfl) ?_
  refine lv_aload_n hx hb dL_law_969 rfl (lv_at hl 1 rfl) ?_
  refine lv_iload hx hb dL_law_970 (lv_at hl 5 rfl) ?_
  refine lv_iconst (v := 1) hx hb dL_law_972 (by decide) ?_
  refine zn_add (i := i) (j := 1) hx hb dL_law_973 ?_
  refine z_sld (k := i + 1) (v := nI k) hx hb hXs hbl hbA hS (by omega) (by omega) e1 dL_law_974 ?_
  refine lv_aload_n hx hb dL_law_975 rfl (lv_at hl 1 rfl) ?_
  refine lv_iload hx hb dL_law_976 (lv_at hl 5 rfl) ?_
  refine lv_iconst (v := 2) hx hb dL_law_978 (by decide) ?_
  refine zn_add (i := i) (j := 2) hx hb dL_law_979 ?_
  refine z_sld (k := i + 2) (v := v2) hx hb hXs hbl hbA hS (by omega) (by omega) e2 dL_law_980 ?_
  refine z_backTi (wa := (wX cI cZ h lev tm gn nL nC nE L B C E ++ [(qo, .inl (cJ, 1, .inr (.inl o)))])) (w := (wM cI cZ g cd lev tm gn nL nC nE L B C F ys ao)) (z_runVT (wa := (wX cI cZ h lev tm gn nL nC nE L B C E ++ [(qo, .inl (cJ, 1, .inr (.inl o)))])) (w := (wM cI cZ g cd lev tm gn nL nC nE L B C F ys ao)) (n := 2) (As := [.int (nI k), .int v2]) (ci := 5) (rest := []) hx hb hml hown hts hK hE hP hD (tX4_joins_n1 l D cI cZ cJ g cd lev tm gn nL nC nE L B C F ys ao (nI k) v2 m_hno _) gL_law_X4_joins rfl rfl rfl (by decide +kernel) ⟨Nat.le_of_ble_eq_true rfl, Nat.le_of_ble_eq_true rfl⟩ rfl rfl rfl hl.1 rfl (Nat.le_of_ble_eq_true rfl) dL_law_981 hroom) hP hD hS hA (fun r2 w1 H locs hp2 hP hD hS => ?_)
  obtain ⟨rfl, rfl⟩ := hp2
  have hP : va_P D vwCl ((wX cI cZ h lev tm gn nL nC nE L B C E ++ [(qo, .inl (cJ, 1, .inr (.inl o)))]) ++ (wM cI cZ g 1 lev tm gn nL nC nE L B C F ys ao)) H := hP
  have hD : va_D A ((wX cI cZ h lev tm gn nL nC nE L B C E ++ [(qo, .inl (cJ, 1, .inr (.inl o)))]) ++ (wM cI cZ g 1 lev tm gn nL nC nE L B C F ys ao)) := hD
  refine lv_istore (lv' := [(6, .int 0), (5, .int 1), (0, .ref sb), (1, .ref (h 0)), (2, .ref (g 0)), (3, .ref qo), (4, .int (nI i))]) hx hb dL_law_984 hl (by decide) rfl (fun ls hl => ?_)
  refine lv_aload_n hx hb dL_law_986 rfl (lv_at hl 4 rfl) ?_
  refine z_backTi (wa := (wX cI cZ h lev tm gn nL nC nE L B C E ++ [(qo, .inl (cJ, 1, .inr (.inl o)))])) (w := (wM cI cZ g 1 lev tm gn nL nC nE L B C F ys ao)) (z_runVT (wa := (wX cI cZ h lev tm gn nL nC nE L B C E ++ [(qo, .inl (cJ, 1, .inr (.inl o)))])) (w := (wM cI cZ g 1 lev tm gn nL nC nE L B C F ys ao)) (n := 0) (As := []) (ci := 5) (rest := []) hx hb hml hown hts hK hE hP hD (tX4_thrown l D cI cZ cJ g 1 lev tm gn nL nC nE L B C F ys ao _) gL_law_X4_thrown rfl rfl rfl (by decide +kernel) ⟨Nat.le_of_ble_eq_true rfl, Nat.le_of_ble_eq_true rfl⟩ rfl rfl rfl hl.1 rfl (Nat.le_of_ble_eq_true rfl) dL_law_987 hroom) hP hD hS hA (fun r3 w1 H locs hp3 hP hD hS => ?_)
  obtain ⟨rfl, rfl⟩ := hp3
  have hP : va_P D vwCl ((wX cI cZ h lev tm gn nL nC nE L B C E ++ [(qo, .inl (cJ, 1, .inr (.inl o)))]) ++ (wM cI cZ g 1 lev tm gn nL nC nE L B C F ys ao)) H := hP
  have hD : va_D A ((wX cI cZ h lev tm gn nL nC nE L B C E ++ [(qo, .inl (cJ, 1, .inr (.inl o)))]) ++ (wM cI cZ g 1 lev tm gn nL nC nE L B C F ys ao)) := hD
  refine lv_iload hx hb dL_law_990 (lv_at hl 1 rfl) ?_
  refine zn_eq (i := 1) (j := 1) (tgt := 997) hx hb (by omega) (by omega) dL_law_992 (by decide) (fun c992 => ?_) (fun c992 => ?_)
  · skip
    refine lv_iload hx hb dL_law_997 (lv_at hl 1 rfl) ?_
    refine lv_if_ne (x := 1) (tgt := 1021) hx hb dL_law_999 (by decide) (fun c999 => ?_) (fun c999 => ?_)
    · skip
      refine lv_goto (tgt := 1117) hx hb dL_law_1021 (by decide) ?_
      exact kk H locs ls (lv_sub hl [2, 3, 4, 5, 6] rfl) hP hD hS
    · exact absurd c999 (by decide)
  · exact absurd c992 (by omega)


set_option maxHeartbeats 4000000 in
set_option maxRecDepth 100000 in
theorem law_joins_xc {p : Program} {l : Launch} {e : Env} {s : State} {m : MethodId} {below : List Frame} {meth : Method} {c : Code} {Q : State → Prop} {sb Ln : Nat} {xs : Nat → Int32} {D : va_G} {cI cZ cJ : ClassId} {A : Nat → Prop} {sa : Nat → Nat} (cx : zCx p l s m meth c sb Ln xs D cI cZ cJ A sa) (h g : Nat → Nat) (lev tm : Nat) (gn : Int32) (nL nC nE : Nat) (L B C E F : Nat → Nat → Int32) (qo : Nat) (o : Nat → Int64) (cd : Int32) (ys ao : Nat → Int32) (i : Nat) (hi : i + 5 ≤ Ln) (k k2 : Nat) (hk : k < nC) (hk2 : k2 < nC) (hL : nL ≤ 4) (hC : nC ≤ 24) (hno : ¬ (C 4 k = 0 ∧ C 4 k2 = 0)) (m_hk : k < nC) (m_hk2 : k2 < nC) (m_hC : nC ≤ 24) (m_hno : ¬ (C 4 k = 0 ∧ C 4 k2 = 0)) (e1 : xs (i + 1) = nI k) (e2 : xs (i + 2) = nI k2) {H : Heap} {locs : List Loc} {cells slots : Nat} {ls : Array Slot} (hl : lv_has ls 7 [(0, .ref sb), (1, .ref (h 0)), (2, .ref (g 0)), (3, .ref qo), (4, .int (nI i))]) (hP : va_P D vwCl (wV cI cZ cJ h lev tm gn nL nC nE L B C E qo o ++ wM cI cZ g cd lev tm gn nL nC nE L B C F ys ao) H) (hD : va_D A (wV cI cZ cJ h lev tm gn nL nC nE L B C E qo o ++ wM cI cZ g cd lev tm gn nL nC nE L B C F ys ao)) (hS : va_S A s.heap H locs) (hroom : cells + 1 ≤ room_1.cells ∧ slots + 6 ≤ room_1.slots) (kk : ∀ (H1 : Heap) (locs1 : List Loc) (ls1 : Array Slot), lv_has ls1 7 [(0, .ref sb), (1, .ref (h 0)), (2, .ref (g 0)), (3, .ref qo), (4, .int (nI i))] → va_P D vwCl (wX cI cZ h lev tm gn nL nC nE L B C E ++ [(qo, .inl (cJ, 1, .inr (.inl o)))] ++ wM cI cZ g 2 lev tm gn nL nC nE L B C F ys ao) H1 → va_D A (wX cI cZ h lev tm gn nL nC nE L B C E ++ [(qo, .inl (cJ, 1, .inr (.inl o)))] ++ wM cI cZ g 2 lev tm gn nL nC nE L B C F ys ao) → va_S A s.heap H1 locs1 → W p l e room_1 s m #[Value.ref sb] below meth c H1 locs1 (cells + 1) (slots + 6) Q (F0 m 1117 ls1 []))  : W p l e room_1 s m #[Value.ref sb] below meth c H locs cells slots Q (F0 m 949 ls []) := by
  obtain ⟨hx, hb, hr9, hml, hlocks, hown, htsO, hK, hE, hX, hN, hA, hXs, hbl, hbA, hl9, hLn⟩ := cx
  have hts : ∀ w ∈ wsL_law, w.before #[Value.ref sb] s = true := fun w h9 => htsO w (lawO_l h9)
  refine lv_aload_n hx hb dL_law_949 rfl (lv_at hl 1 rfl) ?_
  refine lv_aload_n hx hb dL_law_950 rfl (lv_at hl 0 rfl) ?_
  refine lv_iload hx hb dL_law_951 (lv_at hl 4 rfl) ?_
  refine lv_iconst (v := 1) hx hb dL_law_953 (by decide) ?_
  refine zn_add (i := i) (j := 1) hx hb dL_law_954 ?_
  refine z_sld (k := i + 1) (v := nI k) hx hb hXs hbl hbA hS (by omega) (by omega) e1 dL_law_955 ?_
  refine lv_aload_n hx hb dL_law_956 rfl (lv_at hl 0 rfl) ?_
  refine lv_iload hx hb dL_law_957 (lv_at hl 4 rfl) ?_
  refine lv_iconst (v := 2) hx hb dL_law_959 (by decide) ?_
  refine zn_add (i := i) (j := 2) hx hb dL_law_960 ?_
  refine z_sld (k := i + 2) (v := nI k2) hx hb hXs hbl hbA hS (by omega) (by omega) e2 dL_law_961 ?_
  refine lv_aload_n hx hb dL_law_962 rfl (lv_at hl 3 rfl) ?_
  refine z_backSi (wa := []) (w := (wV cI cZ cJ h lev tm gn nL nC nE L B C E qo o)) (wb := (wM cI cZ g cd lev tm gn nL nC nE L B C F ys ao)) (z_runSL (wa := []) (w := (wV cI cZ cJ h lev tm gn nL nC nE L B C E qo o)) (wb := (wM cI cZ g cd lev tm gn nL nC nE L B C F ys ao)) (n := 4) (As := [.ref (h 0), .int (nI k), .int (nI k2), .ref qo]) (rest := []) hx hb hml hown hts hK hE hX hN hS hA hP hD (tL_joins_xc l D cI cZ cJ h lev tm gn nL nC nE L B C E k k2 hk hk2 hL hC hno qo o sa hl9 _) gL_law_L_joins rfl rfl rfl (by decide +kernel) ⟨Nat.le_of_ble_eq_true rfl, Nat.le_of_ble_eq_true rfl⟩ rfl hl.1 rfl (Nat.le_of_ble_eq_true rfl) dL_law_963 hroom) hP hD hS hA (fun r1 w1 H locs hp1 hP hD hS => ?_)
  obtain ⟨rfl, rfl⟩ := hp1
  have hP : va_P D vwCl ((wX cI cZ h lev tm gn nL nC nE L B C E ++ [(qo, .inl (cJ, 1, .inr (.inl o)))]) ++ (wM cI cZ g cd lev tm gn nL nC nE L B C F ys ao)) H := hP
  have hD : va_D A ((wX cI cZ h lev tm gn nL nC nE L B C E ++ [(qo, .inl (cJ, 1, .inr (.inl o)))]) ++ (wM cI cZ g cd lev tm gn nL nC nE L B C F ys ao)) := hD
  refine lv_istore (lv' := [(5, .int 2), (0, .ref sb), (1, .ref (h 0)), (2, .ref (g 0)), (3, .ref qo), (4, .int (nI i))]) hx hb dL_law_966 hl (by decide) rfl (fun ls hl => ?_)
  refine lv_aload_n hx hb dL_law_968 rfl (lv_at hl 3 rfl) ?_
  refine lv_aload_n hx hb dL_law_969 rfl (lv_at hl 1 rfl) ?_
  refine lv_iload hx hb dL_law_970 (lv_at hl 5 rfl) ?_
  refine lv_iconst (v := 1) hx hb dL_law_972 (by decide) ?_
  refine zn_add (i := i) (j := 1) hx hb dL_law_973 ?_
  refine z_sld (k := i + 1) (v := nI k) hx hb hXs hbl hbA hS (by omega) (by omega) e1 dL_law_974 ?_
  refine lv_aload_n hx hb dL_law_975 rfl (lv_at hl 1 rfl) ?_
  refine lv_iload hx hb dL_law_976 (lv_at hl 5 rfl) ?_
  refine lv_iconst (v := 2) hx hb dL_law_978 (by decide) ?_
  refine zn_add (i := i) (j := 2) hx hb dL_law_979 ?_
  refine z_sld (k := i + 2) (v := nI k2) hx hb hXs hbl hbA hS (by omega) (by omega) e2 dL_law_980 ?_
  refine z_backTi (wa := (wX cI cZ h lev tm gn nL nC nE L B C E ++ [(qo, .inl (cJ, 1, .inr (.inl o)))])) (w := (wM cI cZ g cd lev tm gn nL nC nE L B C F ys ao)) (z_runVT (wa := (wX cI cZ h lev tm gn nL nC nE L B C E ++ [(qo, .inl (cJ, 1, .inr (.inl o)))])) (w := (wM cI cZ g cd lev tm gn nL nC nE L B C F ys ao)) (n := 2) (As := [.int (nI k), .int (nI k2)]) (ci := 5) (rest := []) hx hb hml hown hts hK hE hP hD (tX4_joins_n2 l D cI cZ cJ g cd lev tm gn nL nC nE L B C F ys ao k k2 m_hk m_hk2 m_hC m_hno _) gL_law_X4_joins rfl rfl rfl (by decide +kernel) ⟨Nat.le_of_ble_eq_true rfl, Nat.le_of_ble_eq_true rfl⟩ rfl rfl rfl hl.1 rfl (Nat.le_of_ble_eq_true rfl) dL_law_981 hroom) hP hD hS hA (fun r2 w1 H locs hp2 hP hD hS => ?_)
  obtain ⟨rfl, rfl⟩ := hp2
  have hP : va_P D vwCl ((wX cI cZ h lev tm gn nL nC nE L B C E ++ [(qo, .inl (cJ, 1, .inr (.inl o)))]) ++ (wM cI cZ g 2 lev tm gn nL nC nE L B C F ys ao)) H := hP
  have hD : va_D A ((wX cI cZ h lev tm gn nL nC nE L B C E ++ [(qo, .inl (cJ, 1, .inr (.inl o)))]) ++ (wM cI cZ g 2 lev tm gn nL nC nE L B C F ys ao)) := hD
  refine lv_istore (lv' := [(6, .int 0), (5, .int 2), (0, .ref sb), (1, .ref (h 0)), (2, .ref (g 0)), (3, .ref qo), (4, .int (nI i))]) hx hb dL_law_984 hl (by decide) rfl (fun ls hl => ?_)
  refine lv_aload_n hx hb dL_law_986 rfl (lv_at hl 4 rfl) ?_
  refine z_backTi (wa := (wX cI cZ h lev tm gn nL nC nE L B C E ++ [(qo, .inl (cJ, 1, .inr (.inl o)))])) (w := (wM cI cZ g 2 lev tm gn nL nC nE L B C F ys ao)) (z_runVT (wa := (wX cI cZ h lev tm gn nL nC nE L B C E ++ [(qo, .inl (cJ, 1, .inr (.inl o)))])) (w := (wM cI cZ g 2 lev tm gn nL nC nE L B C F ys ao)) (n := 0) (As := []) (ci := 5) (rest := []) hx hb hml hown hts hK hE hP hD (tX4_thrown l D cI cZ cJ g 2 lev tm gn nL nC nE L B C F ys ao _) gL_law_X4_thrown rfl rfl rfl (by decide +kernel) ⟨Nat.le_of_ble_eq_true rfl, Nat.le_of_ble_eq_true rfl⟩ rfl rfl rfl hl.1 rfl (Nat.le_of_ble_eq_true rfl) dL_law_987 hroom) hP hD hS hA (fun r3 w1 H locs hp3 hP hD hS => ?_)
  obtain ⟨rfl, rfl⟩ := hp3
  have hP : va_P D vwCl ((wX cI cZ h lev tm gn nL nC nE L B C E ++ [(qo, .inl (cJ, 1, .inr (.inl o)))]) ++ (wM cI cZ g 2 lev tm gn nL nC nE L B C F ys ao)) H := hP
  have hD : va_D A ((wX cI cZ h lev tm gn nL nC nE L B C E ++ [(qo, .inl (cJ, 1, .inr (.inl o)))]) ++ (wM cI cZ g 2 lev tm gn nL nC nE L B C F ys ao)) := hD
  refine lv_iload hx hb dL_law_990 (lv_at hl 1 rfl) ?_
  refine zn_eq (i := 2) (j := 2) (tgt := 997) hx hb (by omega) (by omega) dL_law_992 (by decide) (fun c992 => ?_) (fun c992 => ?_)
  · skip
    refine lv_iload hx hb dL_law_997 (lv_at hl 1 rfl) ?_
    refine lv_if_ne (x := 2) (tgt := 1021) hx hb dL_law_999 (by decide) (fun c999 => ?_) (fun c999 => ?_)
    · skip
      refine lv_goto (tgt := 1117) hx hb dL_law_1021 (by decide) ?_
      exact kk H locs ls (lv_sub hl [2, 3, 4, 5, 6] rfl) hP hD hS
    · exact absurd c999 (by decide)
  · exact absurd c992 (by omega)


set_option maxHeartbeats 4000000 in
set_option maxRecDepth 100000 in
theorem law_known_ok {p : Program} {l : Launch} {e : Env} {s : State} {m : MethodId} {below : List Frame} {meth : Method} {c : Code} {Q : State → Prop} {sb Ln : Nat} {xs : Nat → Int32} {D : va_G} {cI cZ cJ : ClassId} {A : Nat → Prop} {sa : Nat → Nat} (cx : zCx p l s m meth c sb Ln xs D cI cZ cJ A sa) (h g : Nat → Nat) (lev tm : Nat) (gn : Int32) (nL nC nE : Nat) (L B C E F : Nat → Nat → Int32) (qo : Nat) (o : Nat → Int64) (cd : Int32) (ys ao : Nat → Int32) (i : Nat) (hi : i + 5 ≤ Ln) (k : Nat) (hk : k < nC) (hL : nL ≤ 4) (hC : nC ≤ 24) (u : Int32) (h2 : inB u 0 5 = true) (m_hk : k < nC) (m_hC : nC ≤ 24) (m_h2 : inB u 0 5 = true) (e1 : xs (i + 1) = nI k) (e2 : xs (i + 2) = u) (hr : knI C k u = knI C k u) {H : Heap} {locs : List Loc} {cells slots : Nat} {ls : Array Slot} (hl : lv_has ls 7 [(0, .ref sb), (1, .ref (h 0)), (2, .ref (g 0)), (3, .ref qo), (4, .int (nI i))]) (hP : va_P D vwCl (wV cI cZ cJ h lev tm gn nL nC nE L B C E qo o ++ wM cI cZ g cd lev tm gn nL nC nE L B C F ys ao) H) (hD : va_D A (wV cI cZ cJ h lev tm gn nL nC nE L B C E qo o ++ wM cI cZ g cd lev tm gn nL nC nE L B C F ys ao)) (hS : va_S A s.heap H locs) (hroom : cells + 1 ≤ room_1.cells ∧ slots + 6 ≤ room_1.slots) (kk : ∀ (H1 : Heap) (locs1 : List Loc) (ls1 : Array Slot), lv_has ls1 7 [(0, .ref sb), (1, .ref (h 0)), (2, .ref (g 0)), (3, .ref qo), (4, .int (nI i))] → va_P D vwCl (wX cI cZ h lev tm gn nL nC nE L B C E ++ [(qo, .inl (cJ, 1, .inr (.inl (vp_updL o 0 (knI C k u).toInt64))))] ++ wM cI cZ g 0 lev tm gn nL nC nE L B C F ys ao) H1 → va_D A (wX cI cZ h lev tm gn nL nC nE L B C E ++ [(qo, .inl (cJ, 1, .inr (.inl (vp_updL o 0 (knI C k u).toInt64))))] ++ wM cI cZ g 0 lev tm gn nL nC nE L B C F ys ao) → va_S A s.heap H1 locs1 → W p l e room_1 s m #[Value.ref sb] below meth c H1 locs1 (cells + 1) (slots + 6) Q (F0 m 1117 ls1 []))  : W p l e room_1 s m #[Value.ref sb] below meth c H locs cells slots Q (F0 m 1024 ls []) := by
  obtain ⟨hx, hb, hr9, hml, hlocks, hown, htsO, hK, hE, hX, hN, hA, hXs, hbl, hbA, hl9, hLn⟩ := cx
  have hts : ∀ w ∈ wsL_law, w.before #[Value.ref sb] s = true := fun w h9 => htsO w (lawO_l h9)
  refine lv_aload_n hx hb dL_law_1024 rfl (lv_at hl 1 rfl) ?_
  refine lv_aload_n hx hb dL_law_1025 rfl (lv_at hl 0 rfl) ?_
  refine lv_iload hx hb dL_law_1026 (lv_at hl 4 rfl) ?_
  refine lv_iconst (v := 1) hx hb dL_law_1028 (by decide) ?_
  refine zn_add (i := i) (j := 1) hx hb dL_law_1029 ?_
  refine z_sld (k := i + 1) (v := nI k) hx hb hXs hbl hbA hS (by omega) (by omega) e1 dL_law_1030 ?_
  refine lv_aload_n hx hb dL_law_1031 rfl (lv_at hl 0 rfl) ?_
  refine lv_iload hx hb dL_law_1032 (lv_at hl 4 rfl) ?_
  refine lv_iconst (v := 2) hx hb dL_law_1034 (by decide) ?_
  refine zn_add (i := i) (j := 2) hx hb dL_law_1035 ?_
  refine z_sld (k := i + 2) (v := u) hx hb hXs hbl hbA hS (by omega) (by omega) e2 dL_law_1036 ?_
  refine lv_aload_n hx hb dL_law_1037 rfl (lv_at hl 3 rfl) ?_
  refine z_backSi (wa := []) (w := (wV cI cZ cJ h lev tm gn nL nC nE L B C E qo o)) (wb := (wM cI cZ g cd lev tm gn nL nC nE L B C F ys ao)) (z_runSL (wa := []) (w := (wV cI cZ cJ h lev tm gn nL nC nE L B C E qo o)) (wb := (wM cI cZ g cd lev tm gn nL nC nE L B C F ys ao)) (n := 4) (As := [.ref (h 0), .int (nI k), .int u, .ref qo]) (rest := []) hx hb hml hown hts hK hE hX hN hS hA hP hD (tL_known_ok l D cI cZ cJ h lev tm gn nL nC nE L B C E k hk hL hC u h2 qo o sa _) gL_law_L_known rfl rfl rfl (by decide +kernel) ⟨Nat.le_of_ble_eq_true rfl, Nat.le_of_ble_eq_true rfl⟩ rfl hl.1 rfl (Nat.le_of_ble_eq_true rfl) dL_law_1038 hroom) hP hD hS hA (fun r1 w1 H locs hp1 hP hD hS => ?_)
  obtain ⟨rfl, rfl⟩ := hp1
  have hP : va_P D vwCl ((wX cI cZ h lev tm gn nL nC nE L B C E ++ [(qo, .inl (cJ, 1, .inr (.inl (vp_updL o 0 (knI C k u).toInt64))))]) ++ (wM cI cZ g cd lev tm gn nL nC nE L B C F ys ao)) H := hP
  have hD : va_D A ((wX cI cZ h lev tm gn nL nC nE L B C E ++ [(qo, .inl (cJ, 1, .inr (.inl (vp_updL o 0 (knI C k u).toInt64))))]) ++ (wM cI cZ g cd lev tm gn nL nC nE L B C F ys ao)) := hD
  refine lv_istore (lv' := [(5, .int 0), (0, .ref sb), (1, .ref (h 0)), (2, .ref (g 0)), (3, .ref qo), (4, .int (nI i))]) hx hb dL_law_1041 hl (by decide) rfl (fun ls hl => ?_)
  refine lv_aload_n hx hb dL_law_1043 rfl (lv_at hl 3 rfl) ?_
  refine lv_aload_n hx hb dL_law_1044 rfl (lv_at hl 1 rfl) ?_
  refine lv_iload hx hb dL_law_1045 (lv_at hl 5 rfl) ?_
  refine lv_iconst (v := 1) hx hb dL_law_1047 (by decide) ?_
  refine zn_add (i := i) (j := 1) hx hb dL_law_1048 ?_
  refine z_sld (k := i + 1) (v := nI k) hx hb hXs hbl hbA hS (by omega) (by omega) e1 dL_law_1049 ?_
  refine lv_aload_n hx hb dL_law_1050 rfl (lv_at hl 1 rfl) ?_
  refine lv_iload hx hb dL_law_1051 (lv_at hl 5 rfl) ?_
  refine lv_iconst (v := 2) hx hb dL_law_1053 (by decide) ?_
  refine zn_add (i := i) (j := 2) hx hb dL_law_1054 ?_
  refine z_sld (k := i + 2) (v := u) hx hb hXs hbl hbA hS (by omega) (by omega) e2 dL_law_1055 ?_
  refine z_backTi (wa := (wX cI cZ h lev tm gn nL nC nE L B C E ++ [(qo, .inl (cJ, 1, .inr (.inl (vp_updL o 0 (knI C k u).toInt64))))])) (w := (wM cI cZ g cd lev tm gn nL nC nE L B C F ys ao)) (z_runVT (wa := (wX cI cZ h lev tm gn nL nC nE L B C E ++ [(qo, .inl (cJ, 1, .inr (.inl (vp_updL o 0 (knI C k u).toInt64))))])) (w := (wM cI cZ g cd lev tm gn nL nC nE L B C F ys ao)) (n := 2) (As := [.int (nI k), .int u]) (ci := 5) (rest := []) hx hb hml hown hts hK hE hP hD (tX4_known_ok l D cI cZ cJ g cd lev tm gn nL nC nE L B C F ys ao k m_hk m_hC u m_h2 _) gL_law_X4_known rfl rfl rfl (by decide +kernel) ⟨Nat.le_of_ble_eq_true rfl, Nat.le_of_ble_eq_true rfl⟩ rfl rfl rfl hl.1 rfl (Nat.le_of_ble_eq_true rfl) dL_law_1056 hroom) hP hD hS hA (fun r2 w1 H locs hp2 hP hD hS => ?_)
  obtain ⟨rfl, rfl⟩ := hp2
  have hP : va_P D vwCl ((wX cI cZ h lev tm gn nL nC nE L B C E ++ [(qo, .inl (cJ, 1, .inr (.inl (vp_updL o 0 (knI C k u).toInt64))))]) ++ (wM cI cZ g 0 lev tm gn nL nC nE L B C F ys ao)) H := hP
  have hD : va_D A ((wX cI cZ h lev tm gn nL nC nE L B C E ++ [(qo, .inl (cJ, 1, .inr (.inl (vp_updL o 0 (knI C k u).toInt64))))]) ++ (wM cI cZ g 0 lev tm gn nL nC nE L B C F ys ao)) := hD
  refine lv_istore (lv' := [(6, .int (knI C k u)), (5, .int 0), (0, .ref sb), (1, .ref (h 0)), (2, .ref (g 0)), (3, .ref qo), (4, .int (nI i))]) hx hb dL_law_1059 hl (by decide) rfl (fun ls hl => ?_)
  refine lv_aload_n hx hb dL_law_1061 rfl (lv_at hl 4 rfl) ?_
  refine z_backTi (wa := (wX cI cZ h lev tm gn nL nC nE L B C E ++ [(qo, .inl (cJ, 1, .inr (.inl (vp_updL o 0 (knI C k u).toInt64))))])) (w := (wM cI cZ g 0 lev tm gn nL nC nE L B C F ys ao)) (z_runVT (wa := (wX cI cZ h lev tm gn nL nC nE L B C E ++ [(qo, .inl (cJ, 1, .inr (.inl (vp_updL o 0 (knI C k u).toInt64))))])) (w := (wM cI cZ g 0 lev tm gn nL nC nE L B C F ys ao)) (n := 0) (As := []) (ci := 5) (rest := []) hx hb hml hown hts hK hE hP hD (tX4_thrown l D cI cZ cJ g 0 lev tm gn nL nC nE L B C F ys ao _) gL_law_X4_thrown rfl rfl rfl (by decide +kernel) ⟨Nat.le_of_ble_eq_true rfl, Nat.le_of_ble_eq_true rfl⟩ rfl rfl rfl hl.1 rfl (Nat.le_of_ble_eq_true rfl) dL_law_1062 hroom) hP hD hS hA (fun r3 w1 H locs hp3 hP hD hS => ?_)
  obtain ⟨rfl, rfl⟩ := hp3
  have hP : va_P D vwCl ((wX cI cZ h lev tm gn nL nC nE L B C E ++ [(qo, .inl (cJ, 1, .inr (.inl (vp_updL o 0 (knI C k u).toInt64))))]) ++ (wM cI cZ g 0 lev tm gn nL nC nE L B C F ys ao)) H := hP
  have hD : va_D A ((wX cI cZ h lev tm gn nL nC nE L B C E ++ [(qo, .inl (cJ, 1, .inr (.inl (vp_updL o 0 (knI C k u).toInt64))))]) ++ (wM cI cZ g 0 lev tm gn nL nC nE L B C F ys ao)) := hD
  refine lv_iload hx hb dL_law_1065 (lv_at hl 1 rfl) ?_
  refine zn_eq (i := 0) (j := 0) (tgt := 1072) hx hb (by omega) (by omega) dL_law_1067 (by decide) (fun c1067 => ?_) (fun c1067 => ?_)
  · skip
    refine lv_iload hx hb dL_law_1072 (lv_at hl 1 rfl) ?_
    refine lv_if_ne (x := 0) (tgt := 1089) hx hb dL_law_1074 (by decide) (fun c1074 => ?_) (fun c1074 => ?_)
    · exact absurd c1074 (by decide)
    · skip
      refine lv_aload_n hx hb dL_law_1077 rfl (lv_at hl 5 rfl) ?_
      refine lv_iconst (v := 0) hx hb dL_law_1078 (by decide) ?_
      refine z_lald0 hx hb hK hP 24 rfl dL_law_1079 ?_
      refine lv_iload hx hb dL_law_1080 (lv_at hl 0 rfl) ?_
      refine lv_i2l (v := (knI C k u).toInt64) hx hb dL_law_1082 rfl ?_
      refine W.lcmp (x := (vp_updL o 0 (knI C k u).toInt64) 0) (y := (knI C k u).toInt64) hx hb dL_law_1083 ?_
      refine z_top (lg_eq hr) ?_
      refine lv_if_eq (x := 0) (tgt := 1089) hx hb dL_law_1084 (by decide) (fun c1084 => ?_) (fun c1084 => ?_)
      · skip
        refine lv_goto (tgt := 1117) hx hb dL_law_1089 (by decide) ?_
        exact kk H locs ls (lv_sub hl [2, 3, 4, 5, 6] rfl) hP hD hS
      · exact absurd c1084 (by decide)
  · exact absurd c1067 (by omega)
