
set_option maxHeartbeats 4000000 in
set_option maxRecDepth 100000 in
theorem law_known_xa {p : Program} {l : Launch} {e : Env} {s : State} {m : MethodId} {below : List Frame} {meth : Method} {c : Code} {Q : State → Prop} {sb Ln : Nat} {xs : Nat → Int32} {D : va_G} {cI cZ cJ : ClassId} {A : Nat → Prop} {sa : Nat → Nat} (cx : zCx p l s m meth c sb Ln xs D cI cZ cJ A sa) (h g : Nat → Nat) (lev tm : Nat) (gn : Int32) (nL nC nE : Nat) (L B C E F : Nat → Nat → Int32) (qo : Nat) (o : Nat → Int64) (cd : Int32) (ys ao : Nat → Int32) (i : Nat) (hi : i + 5 ≤ Ln) (v u : Int32) (hno : inB v 0 (nI nC - 1) = false) (hL : nL ≤ 4) (hC : nC ≤ 24) (m_hno : inB v 0 (nI nC - 1) = false) (e1 : xs (i + 1) = v) (e2 : xs (i + 2) = u) {H : Heap} {locs : List Loc} {cells slots : Nat} {ls : Array Slot} (hl : lv_has ls 7 [(0, .ref sb), (1, .ref (h 0)), (2, .ref (g 0)), (3, .ref qo), (4, .int (nI i))]) (hP : va_P D vwCl (wV cI cZ cJ h lev tm gn nL nC nE L B C E qo o ++ wM cI cZ g cd lev tm gn nL nC nE L B C F ys ao) H) (hD : va_D A (wV cI cZ cJ h lev tm gn nL nC nE L B C E qo o ++ wM cI cZ g cd lev tm gn nL nC nE L B C F ys ao)) (hS : va_S A s.heap H locs) (hroom : cells + 1 ≤ room_1.cells ∧ slots + 6 ≤ room_1.slots) (kk : ∀ (H1 : Heap) (locs1 : List Loc) (ls1 : Array Slot), lv_has ls1 7 [(0, .ref sb), (1, .ref (h 0)), (2, .ref (g 0)), (3, .ref qo), (4, .int (nI i))] → va_P D vwCl (wX cI cZ h lev tm gn nL nC nE L B C E ++ [(qo, .inl (cJ, 1, .inr (.inl o)))] ++ wM cI cZ g 1 lev tm gn nL nC nE L B C F ys ao) H1 → va_D A (wX cI cZ h lev tm gn nL nC nE L B C E ++ [(qo, .inl (cJ, 1, .inr (.inl o)))] ++ wM cI cZ g 1 lev tm gn nL nC nE L B C F ys ao) → va_S A s.heap H1 locs1 → W p l e room_1 s m #[Value.ref sb] below meth c H1 locs1 (cells + 1) (slots + 6) Q (F0 m 1117 ls1 []))  : W p l e room_1 s m #[Value.ref sb] below meth c H locs cells slots Q (F0 m 1024 ls []) := by
  obtain ⟨hx, hb, hr9, hml, hlocks, hown, htsO, hK, hE, hX, hN, hA, hXs, hbl, hbA, hl9, hLn⟩ := cx
  have hts : ∀ w ∈ wsL_law, w.before #[Value.ref sb] s = true := fun w h9 => htsO w (lawO_l h9)
  refine lv_aload_n hx hb dL_law_1024 rfl (lv_at hl 1 rfl) ?_
  refine lv_aload_n hx hb dL_law_1025 rfl (lv_at hl 0 rfl) ?_
  refine lv_iload hx hb dL_law_1026 (lv_at hl 4 rfl) ?_
  refine lv_iconst (v := 1) hx hb dL_law_1028 (by decide) ?_
  refine zn_add (i := i) (j := 1) hx hb dL_law_1029 ?_
  refine z_sld (k := i + 1) (v := v) hx hb hXs hbl hbA hS (by omega) (by omega) e1 dL_law_1030 ?_
  refine lv_aload_n hx hb dL_law_1031 rfl (lv_at hl 0 rfl) ?_
  refine lv_iload hx hb dL_law_1032 (lv_at hl 4 rfl) ?_
  refine lv_iconst (v := 2) hx hb dL_law_1034 (by decide) ?_
  refine zn_add (i := i) (j := 2) hx hb dL_law_1035 ?_
  refine z_sld (k := i + 2) (v := u) hx hb hXs hbl hbA hS (by omega) (by omega) e2 dL_law_1036 ?_
  refine lv_aload_n hx hb dL_law_1037 rfl (lv_at hl 3 rfl) ?_
  refine z_backSi (wa := []) (w := (wV cI cZ cJ h lev tm gn nL nC nE L B C E qo o)) (wb := (wM cI cZ g cd lev tm gn nL nC nE L B C F ys ao)) (z_runSL (wa := []) (w := (wV cI cZ cJ h lev tm gn nL nC nE L B C E qo o)) (wb := (wM cI cZ g cd lev tm gn nL nC nE L B C F ys ao)) (n := 4) (As := [.ref (h 0), .int v, .int u, .ref qo]) (rest := []) hx hb hml hown hts hK hE hX hN hS hA hP hD (tL_known_xa l D cI cZ cJ h lev tm gn nL nC nE L B C E v u hno hL hC qo o sa hl9 _) gL_law_L_known rfl rfl rfl (by decide +kernel) ⟨Nat.le_of_ble_eq_true rfl, Nat.le_of_ble_eq_true rfl⟩ rfl hl.1 rfl (Nat.le_of_ble_eq_true rfl) dL_law_1038 hroom) hP hD hS hA (fun r1 w1 H locs hp1 hP hD hS => ?_)
  obtain ⟨rfl, rfl⟩ := hp1
  have hP : va_P D vwCl ((wX cI cZ h lev tm gn nL nC nE L B C E ++ [(qo, .inl (cJ, 1, .inr (.inl o)))]) ++ (wM cI cZ g cd lev tm gn nL nC nE L B C F ys ao)) H := hP
  have hD : va_D A ((wX cI cZ h lev tm gn nL nC nE L B C E ++ [(qo, .inl (cJ, 1, .inr (.inl o)))]) ++ (wM cI cZ g cd lev tm gn nL nC nE L B C F ys ao)) := hD
  refine lv_istore (lv' := [(5, .int 1), (0, .ref sb), (1, .ref (h 0)), (2, .ref (g 0)), (3, .ref qo), (4, .int (nI i))]) hx hb dL_law_1041 hl (by decide) rfl (fun ls hl => ?_)
  refine lv_aload_n hx hb dL_law_1043 rfl (lv_at hl 3 rfl) ?_
  refine lv_aload_n hx hb dL_law_1044 rfl (lv_at hl 1 rfl) ?_
  refine lv_iload hx hb dL_law_1045 (lv_at hl 5 rfl) ?_
  refine lv_iconst (v := 1) hx hb dL_law_1047 (by decide) ?_
  refine zn_add (i := i) (j := 1) hx hb dL_law_1048 ?_
  refine z_sld (k := i + 1) (v := v) hx hb hXs hbl hbA hS (by omega) (by omega) e1 dL_law_1049 ?_
  refine lv_aload_n hx hb dL_law_1050 rfl (lv_at hl 1 rfl) ?_
  refine lv_iload hx hb dL_law_1051 (lv_at hl 5 rfl) ?_
  refine lv_iconst (v := 2) hx hb dL_law_1053 (by decide) ?_
  refine zn_add (i := i) (j := 2) hx hb dL_law_1054 ?_
  refine z_sld (k := i + 2) (v := u) hx hb hXs hbl hbA hS (by omega) (by omega) e2 dL_law_1055 ?_
  refine z_backTi (wa := (wX cI cZ h lev tm gn nL nC nE L B C E ++ [(qo, .inl (cJ, 1, .inr (.inl o)))])) (w := (wM cI cZ g cd lev tm gn nL nC nE L B C F ys ao)) (z_runVT (wa := (wX cI cZ h lev tm gn nL nC nE L B C E ++ [(qo, .inl (cJ, 1, .inr (.inl o)))])) (w := (wM cI cZ g cd lev tm gn nL nC nE L B C F ys ao)) (n := 2) (As := [.int v, .int u]) (ci := 5) (rest := []) hx hb hml hown hts hK hE hP hD (tX4_known_n1 l D cI cZ cJ g cd lev tm gn nL nC nE L B C F ys ao v m_hno u _) gL_law_X4_known rfl rfl rfl (by decide +kernel) ⟨Nat.le_of_ble_eq_true rfl, Nat.le_of_ble_eq_true rfl⟩ rfl rfl rfl hl.1 rfl (Nat.le_of_ble_eq_true rfl) dL_law_1056 hroom) hP hD hS hA (fun r2 w1 H locs hp2 hP hD hS => ?_)
  obtain ⟨rfl, rfl⟩ := hp2
  have hP : va_P D vwCl ((wX cI cZ h lev tm gn nL nC nE L B C E ++ [(qo, .inl (cJ, 1, .inr (.inl o)))]) ++ (wM cI cZ g 1 lev tm gn nL nC nE L B C F ys ao)) H := hP
  have hD : va_D A ((wX cI cZ h lev tm gn nL nC nE L B C E ++ [(qo, .inl (cJ, 1, .inr (.inl o)))]) ++ (wM cI cZ g 1 lev tm gn nL nC nE L B C F ys ao)) := hD
  refine lv_istore (lv' := [(6, .int 0), (5, .int 1), (0, .ref sb), (1, .ref (h 0)), (2, .ref (g 0)), (3, .ref qo), (4, .int (nI i))]) hx hb dL_law_1059 hl (by decide) rfl (fun ls hl => ?_)
  refine lv_aload_n hx hb dL_law_1061 rfl (lv_at hl 4 rfl) ?_
  refine z_backTi (wa := (wX cI cZ h lev tm gn nL nC nE L B C E ++ [(qo, .inl (cJ, 1, .inr (.inl o)))])) (w := (wM cI cZ g 1 lev tm gn nL nC nE L B C F ys ao)) (z_runVT (wa := (wX cI cZ h lev tm gn nL nC nE L B C E ++ [(qo, .inl (cJ, 1, .inr (.inl o)))])) (w := (wM cI cZ g 1 lev tm gn nL nC nE L B C F ys ao)) (n := 0) (As := []) (ci := 5) (rest := []) hx hb hml hown hts hK hE hP hD (tX4_thrown l D cI cZ cJ g 1 lev tm gn nL nC nE L B C F ys ao _) gL_law_X4_thrown rfl rfl rfl (by decide +kernel) ⟨Nat.le_of_ble_eq_true rfl, Nat.le_of_ble_eq_true rfl⟩ rfl rfl rfl hl.1 rfl (Nat.le_of_ble_eq_true rfl) dL_law_1062 hroom) hP hD hS hA (fun r3 w1 H locs hp3 hP hD hS => ?_)
  obtain ⟨rfl, rfl⟩ := hp3
  have hP : va_P D vwCl ((wX cI cZ h lev tm gn nL nC nE L B C E ++ [(qo, .inl (cJ, 1, .inr (.inl o)))]) ++ (wM cI cZ g 1 lev tm gn nL nC nE L B C F ys ao)) H := hP
  have hD : va_D A ((wX cI cZ h lev tm gn nL nC nE L B C E ++ [(qo, .inl (cJ, 1, .inr (.inl o)))]) ++ (wM cI cZ g 1 lev tm gn nL nC nE L B C F ys ao)) := hD
  refine lv_iload hx hb dL_law_1065 (lv_at hl 1 rfl) ?_
  refine zn_eq (i := 1) (j := 1) (tgt := 1072) hx hb (by omega) (by omega) dL_law_1067 (by decide) (fun c1067 => ?_) (fun c1067 => ?_)
  · skip
    refine lv_iload hx hb dL_law_1072 (lv_at hl 1 rfl) ?_
    refine lv_if_ne (x := 1) (tgt := 1089) hx hb dL_law_1074 (by decide) (fun c1074 => ?_) (fun c1074 => ?_)
    · skip
      refine lv_goto (tgt := 1117) hx hb dL_law_1089 (by decide) ?_
      exact kk H locs ls (lv_sub hl [2, 3, 4, 5, 6] rfl) hP hD hS
    · exact absurd c1074 (by decide)
  · exact absurd c1067 (by omega)


set_option maxHeartbeats 4000000 in
set_option maxRecDepth 100000 in
theorem law_known_xb {p : Program} {l : Launch} {e : Env} {s : State} {m : MethodId} {below : List Frame} {meth : Method} {c : Code} {Q : State → Prop} {sb Ln : Nat} {xs : Nat → Int32} {D : va_G} {cI cZ cJ : ClassId} {A : Nat → Prop} {sa : Nat → Nat} (cx : zCx p l s m meth c sb Ln xs D cI cZ cJ A sa) (h g : Nat → Nat) (lev tm : Nat) (gn : Int32) (nL nC nE : Nat) (L B C E F : Nat → Nat → Int32) (qo : Nat) (o : Nat → Int64) (cd : Int32) (ys ao : Nat → Int32) (i : Nat) (hi : i + 5 ≤ Ln) (k : Nat) (hk : k < nC) (hL : nL ≤ 4) (hC : nC ≤ 24) (u : Int32) (hno : inB u 0 5 = false) (m_hk : k < nC) (m_hC : nC ≤ 24) (m_hno : inB u 0 5 = false) (e1 : xs (i + 1) = nI k) (e2 : xs (i + 2) = u) {H : Heap} {locs : List Loc} {cells slots : Nat} {ls : Array Slot} (hl : lv_has ls 7 [(0, .ref sb), (1, .ref (h 0)), (2, .ref (g 0)), (3, .ref qo), (4, .int (nI i))]) (hP : va_P D vwCl (wV cI cZ cJ h lev tm gn nL nC nE L B C E qo o ++ wM cI cZ g cd lev tm gn nL nC nE L B C F ys ao) H) (hD : va_D A (wV cI cZ cJ h lev tm gn nL nC nE L B C E qo o ++ wM cI cZ g cd lev tm gn nL nC nE L B C F ys ao)) (hS : va_S A s.heap H locs) (hroom : cells + 1 ≤ room_1.cells ∧ slots + 6 ≤ room_1.slots) (kk : ∀ (H1 : Heap) (locs1 : List Loc) (ls1 : Array Slot), lv_has ls1 7 [(0, .ref sb), (1, .ref (h 0)), (2, .ref (g 0)), (3, .ref qo), (4, .int (nI i))] → va_P D vwCl (wX cI cZ h lev tm gn nL nC nE L B C E ++ [(qo, .inl (cJ, 1, .inr (.inl o)))] ++ wM cI cZ g 2 lev tm gn nL nC nE L B C F ys ao) H1 → va_D A (wX cI cZ h lev tm gn nL nC nE L B C E ++ [(qo, .inl (cJ, 1, .inr (.inl o)))] ++ wM cI cZ g 2 lev tm gn nL nC nE L B C F ys ao) → va_S A s.heap H1 locs1 → W p l e room_1 s m #[Value.ref sb] below meth c H1 locs1 (cells + 1) (slots + 6) Q (F0 m 1117 ls1 []))  : W p l e room_1 s m #[Value.ref sb] below meth c H locs cells slots Q (F0 m 1024 ls []) := by
  obtain ⟨hx, hb, hr9, hml, hlocks, hown, htsO, hK, hE, hX, hN, hA, hXs, hbl, hbA, hl9, hLn⟩ := cx
  have hts : ∀ w ∈ wsL_law, w.before #[Value.ref sb] s = true := fun w h9 => htsO w (lawO_l h9)
  refine lv_aload_n hx hb dL_law_1024 rfl (lv_at hl 1 rfl) ?_
  refine lv_aload_n hx hb dL_law_1025 rfl (lv_at hl 0 rfl) ?_
  refine lv_iload hx hb dL_law_1026 (lv_at hl 4 rfl) ?_
  refine lv_iconst (v := 1) hx hb dL_law_1028 (by decide) ?_
  refine zn_add (i := i) (j := 1) hx hb dL_law_1029 ?_
  refine z_sld (k := i + 1) (v := nI k) hx hb hXs hbl hbA hS (by omega) (by omega) e1 dL_law_1030 ?_
  refine lv_aload_n hx hb dL_law_1031 rfl (lv_at hl 0 rfl) ?_
  refine lv_iload hx hb dL_law_1032 (lv_at hl 4 rfl) ?_
  refine lv_iconst (v := 2) hx hb dL_law_1034 (by decide) ?_
  refine zn_add (i := i) (j := 2) hx hb dL_law_1035 ?_
  refine z_sld (k := i + 2) (v := u) hx hb hXs hbl hbA hS (by omega) (by omega) e2 dL_law_1036 ?_
  refine lv_aload_n hx hb dL_law_1037 rfl (lv_at hl 3 rfl) ?_
  refine z_backSi (wa := []) (w := (wV cI cZ cJ h lev tm gn nL nC nE L B C E qo o)) (wb := (wM cI cZ g cd lev tm gn nL nC nE L B C F ys ao)) (z_runSL (wa := []) (w := (wV cI cZ cJ h lev tm gn nL nC nE L B C E qo o)) (wb := (wM cI cZ g cd lev tm gn nL nC nE L B C F ys ao)) (n := 4) (As := [.ref (h 0), .int (nI k), .int u, .ref qo]) (rest := []) hx hb hml hown hts hK hE hX hN hS hA hP hD (tL_known_xb l D cI cZ cJ h lev tm gn nL nC nE L B C E k hk hL hC u hno qo o sa hl9 _) gL_law_L_known rfl rfl rfl (by decide +kernel) ⟨Nat.le_of_ble_eq_true rfl, Nat.le_of_ble_eq_true rfl⟩ rfl hl.1 rfl (Nat.le_of_ble_eq_true rfl) dL_law_1038 hroom) hP hD hS hA (fun r1 w1 H locs hp1 hP hD hS => ?_)
  obtain ⟨rfl, rfl⟩ := hp1
  have hP : va_P D vwCl ((wX cI cZ h lev tm gn nL nC nE L B C E ++ [(qo, .inl (cJ, 1, .inr (.inl o)))]) ++ (wM cI cZ g cd lev tm gn nL nC nE L B C F ys ao)) H := hP
  have hD : va_D A ((wX cI cZ h lev tm gn nL nC nE L B C E ++ [(qo, .inl (cJ, 1, .inr (.inl o)))]) ++ (wM cI cZ g cd lev tm gn nL nC nE L B C F ys ao)) := hD
  refine lv_istore (lv' := [(5, .int 2), (0, .ref sb), (1, .ref (h 0)), (2, .ref (g 0)), (3, .ref qo), (4, .int (nI i))]) hx hb dL_law_1041 hl (by decide) rfl (fun ls hl => ?_)
  refine lv_aload_n hx hb dL_law_1043 rfl (lv_at hl 3 rfl) ?_
  refine lv_aload_n hx hb dL_law_1044 rfl (lv_at hl 1 rfl) ?_
  refine lv_iload hx hb dL_law_1045 (lv_at hl 5 rfl) ?_
  refine lv_iconst (v := 1) hx hb dL_law_1047 (by decide) ?_
  refine zn_add (i := i) (j := 1) hx hb dL_law_1048 ?_
  refine z_sld (k := i + 1) (v := nI k) hx hb hXs hbl hbA hS (by omega) (by omega) e1 dL_law_1049 ?_
  refine lv_aload_n hx hb dL_law_1050 rfl (lv_at hl 1 rfl) ?_
  refine lv_iload hx hb dL_law_1051 (lv_at hl 5 rfl) ?_
  refine lv_iconst (v := 2) hx hb dL_law_1053 (by decide) ?_
  refine zn_add (i := i) (j := 2) hx hb dL_law_1054 ?_
  refine z_sld (k := i + 2) (v := u) hx hb hXs hbl hbA hS (by omega) (by omega) e2 dL_law_1055 ?_
  refine z_backTi (wa := (wX cI cZ h lev tm gn nL nC nE L B C E ++ [(qo, .inl (cJ, 1, .inr (.inl o)))])) (w := (wM cI cZ g cd lev tm gn nL nC nE L B C F ys ao)) (z_runVT (wa := (wX cI cZ h lev tm gn nL nC nE L B C E ++ [(qo, .inl (cJ, 1, .inr (.inl o)))])) (w := (wM cI cZ g cd lev tm gn nL nC nE L B C F ys ao)) (n := 2) (As := [.int (nI k), .int u]) (ci := 5) (rest := []) hx hb hml hown hts hK hE hP hD (tX4_known_n2 l D cI cZ cJ g cd lev tm gn nL nC nE L B C F ys ao k m_hk m_hC u m_hno _) gL_law_X4_known rfl rfl rfl (by decide +kernel) ⟨Nat.le_of_ble_eq_true rfl, Nat.le_of_ble_eq_true rfl⟩ rfl rfl rfl hl.1 rfl (Nat.le_of_ble_eq_true rfl) dL_law_1056 hroom) hP hD hS hA (fun r2 w1 H locs hp2 hP hD hS => ?_)
  obtain ⟨rfl, rfl⟩ := hp2
  have hP : va_P D vwCl ((wX cI cZ h lev tm gn nL nC nE L B C E ++ [(qo, .inl (cJ, 1, .inr (.inl o)))]) ++ (wM cI cZ g 2 lev tm gn nL nC nE L B C F ys ao)) H := hP
  have hD : va_D A ((wX cI cZ h lev tm gn nL nC nE L B C E ++ [(qo, .inl (cJ, 1, .inr (.inl o)))]) ++ (wM cI cZ g 2 lev tm gn nL nC nE L B C F ys ao)) := hD
  refine lv_istore (lv' := [(6, .int 0), (5, .int 2), (0, .ref sb), (1, .ref (h 0)), (2, .ref (g 0)), (3, .ref qo), (4, .int (nI i))]) hx hb dL_law_1059 hl (by decide) rfl (fun ls hl => ?_)
  refine lv_aload_n hx hb dL_law_1061 rfl (lv_at hl 4 rfl) ?_
  refine z_backTi (wa := (wX cI cZ h lev tm gn nL nC nE L B C E ++ [(qo, .inl (cJ, 1, .inr (.inl o)))])) (w := (wM cI cZ g 2 lev tm gn nL nC nE L B C F ys ao)) (z_runVT (wa := (wX cI cZ h lev tm gn nL nC nE L B C E ++ [(qo, .inl (cJ, 1, .inr (.inl o)))])) (w := (wM cI cZ g 2 lev tm gn nL nC nE L B C F ys ao)) (n := 0) (As := []) (ci := 5) (rest := []) hx hb hml hown hts hK hE hP hD (tX4_thrown l D cI cZ cJ g 2 lev tm gn nL nC nE L B C F ys ao _) gL_law_X4_thrown rfl rfl rfl (by decide +kernel) ⟨Nat.le_of_ble_eq_true rfl, Nat.le_of_ble_eq_true rfl⟩ rfl rfl rfl hl.1 rfl (Nat.le_of_ble_eq_true rfl) dL_law_1062 hroom) hP hD hS hA (fun r3 w1 H locs hp3 hP hD hS => ?_)
  obtain ⟨rfl, rfl⟩ := hp3
  have hP : va_P D vwCl ((wX cI cZ h lev tm gn nL nC nE L B C E ++ [(qo, .inl (cJ, 1, .inr (.inl o)))]) ++ (wM cI cZ g 2 lev tm gn nL nC nE L B C F ys ao)) H := hP
  have hD : va_D A ((wX cI cZ h lev tm gn nL nC nE L B C E ++ [(qo, .inl (cJ, 1, .inr (.inl o)))]) ++ (wM cI cZ g 2 lev tm gn nL nC nE L B C F ys ao)) := hD
  refine lv_iload hx hb dL_law_1065 (lv_at hl 1 rfl) ?_
  refine zn_eq (i := 2) (j := 2) (tgt := 1072) hx hb (by omega) (by omega) dL_law_1067 (by decide) (fun c1067 => ?_) (fun c1067 => ?_)
  · skip
    refine lv_iload hx hb dL_law_1072 (lv_at hl 1 rfl) ?_
    refine lv_if_ne (x := 2) (tgt := 1089) hx hb dL_law_1074 (by decide) (fun c1074 => ?_) (fun c1074 => ?_)
    · skip
      refine lv_goto (tgt := 1117) hx hb dL_law_1089 (by decide) ?_
      exact kk H locs ls (lv_sub hl [2, 3, 4, 5, 6] rfl) hP hD hS
    · exact absurd c1074 (by decide)
  · exact absurd c1067 (by omega)


set_option maxHeartbeats 4000000 in
set_option maxRecDepth 100000 in
theorem law_call_xa {p : Program} {l : Launch} {e : Env} {s : State} {m : MethodId} {below : List Frame} {meth : Method} {c : Code} {Q : State → Prop} {sb Ln : Nat} {xs : Nat → Int32} {D : va_G} {cI cZ cJ : ClassId} {A : Nat → Prop} {sa : Nat → Nat} (cx : zCx p l s m meth c sb Ln xs D cI cZ cJ A sa) (h g : Nat → Nat) (lev tm : Nat) (gn : Int32) (nL nC nE : Nat) (L B C E F : Nat → Nat → Int32) (qo : Nat) (o : Nat → Int64) (cd : Int32) (ys ao : Nat → Int32) (i : Nat) (hi : i + 5 ≤ Ln) (a b rk q : Int32) (hno : inB a 0 (nI lev - 1) = false) (hL : nL ≤ 4) (hC : nC ≤ 24) (m_hno : ((((inB a 0 (nI lev - 1) && inB b 0 (nI lev - 1)) && !decide (a = b)) && inB rk 1 3) && inB q 1 50) = false) (e1 : xs (i + 1) = a) (e2 : xs (i + 2) = b) (e3 : xs (i + 3) = rk) (e4 : xs (i + 4) = q) {H : Heap} {locs : List Loc} {cells slots : Nat} {ls : Array Slot} (hl : lv_has ls 7 [(0, .ref sb), (1, .ref (h 0)), (2, .ref (g 0)), (3, .ref qo), (4, .int (nI i))]) (hP : va_P D vwCl (wV cI cZ cJ h lev tm gn nL nC nE L B C E qo o ++ wM cI cZ g cd lev tm gn nL nC nE L B C F ys ao) H) (hD : va_D A (wV cI cZ cJ h lev tm gn nL nC nE L B C E qo o ++ wM cI cZ g cd lev tm gn nL nC nE L B C F ys ao)) (hS : va_S A s.heap H locs) (hroom : cells + 1 ≤ room_1.cells ∧ slots + 6 ≤ room_1.slots) (kk : ∀ (H1 : Heap) (locs1 : List Loc) (ls1 : Array Slot), lv_has ls1 7 [(0, .ref sb), (1, .ref (h 0)), (2, .ref (g 0)), (3, .ref qo), (4, .int (nI i))] → va_P D vwCl (wX cI cZ h lev tm gn nL nC nE L B C E ++ [(qo, .inl (cJ, 1, .inr (.inl o)))] ++ wM cI cZ g 1 lev tm gn nL nC nE L B C F ys ao) H1 → va_D A (wX cI cZ h lev tm gn nL nC nE L B C E ++ [(qo, .inl (cJ, 1, .inr (.inl o)))] ++ wM cI cZ g 1 lev tm gn nL nC nE L B C F ys ao) → va_S A s.heap H1 locs1 → W p l e room_1 s m #[Value.ref sb] below meth c H1 locs1 (cells + 1) (slots + 6) Q (F0 m 1117 ls1 []))  : W p l e room_1 s m #[Value.ref sb] below meth c H locs cells slots Q (F0 m 196 ls []) := by
  obtain ⟨hx, hb, hr9, hml, hlocks, hown, htsO, hK, hE, hX, hN, hA, hXs, hbl, hbA, hl9, hLn⟩ := cx
  have hts : ∀ w ∈ wsL_law, w.before #[Value.ref sb] s = true := fun w h9 => htsO w (lawO_l h9)
  refine lv_aload_n hx hb dL_law_196 rfl (lv_at hl 1 rfl) ?_
  refine lv_aload_n hx hb dL_law_197 rfl (lv_at hl 0 rfl) ?_
  refine lv_iload hx hb dL_law_198 (lv_at hl 4 rfl) ?_
  refine lv_iconst (v := 1) hx hb dL_law_200 (by decide) ?_
  refine zn_add (i := i) (j := 1) hx hb dL_law_201 ?_
  refine z_sld (k := i + 1) (v := a) hx hb hXs hbl hbA hS (by omega) (by omega) e1 dL_law_202 ?_
  refine lv_aload_n hx hb dL_law_203 rfl (lv_at hl 0 rfl) ?_
  refine lv_iload hx hb dL_law_204 (lv_at hl 4 rfl) ?_
  refine lv_iconst (v := 2) hx hb dL_law_206 (by decide) ?_
  refine zn_add (i := i) (j := 2) hx hb dL_law_207 ?_
  refine z_sld (k := i + 2) (v := b) hx hb hXs hbl hbA hS (by omega) (by omega) e2 dL_law_208 ?_
  refine lv_aload_n hx hb dL_law_209 rfl (lv_at hl 0 rfl) ?_
  refine lv_iload hx hb dL_law_210 (lv_at hl 4 rfl) ?_
  refine lv_iconst (v := 3) hx hb dL_law_212 (by decide) ?_
  refine zn_add (i := i) (j := 3) hx hb dL_law_213 ?_
  refine z_sld (k := i + 3) (v := rk) hx hb hXs hbl hbA hS (by omega) (by omega) e3 dL_law_214 ?_
  refine lv_aload_n hx hb dL_law_215 rfl (lv_at hl 0 rfl) ?_
  refine lv_iload hx hb dL_law_216 (lv_at hl 4 rfl) ?_
  refine lv_iconst (v := 4) hx hb dL_law_218 (by decide) ?_
  refine zn_add (i := i) (j := 4) hx hb dL_law_219 ?_
  refine z_sld (k := i + 4) (v := q) hx hb hXs hbl hbA hS (by omega) (by omega) e4 dL_law_220 ?_
  refine lv_aload_n hx hb dL_law_221 rfl (lv_at hl 3 rfl) ?_
  refine z_backSi (wa := []) (w := (wV cI cZ cJ h lev tm gn nL nC nE L B C E qo o)) (wb := (wM cI cZ g cd lev tm gn nL nC nE L B C F ys ao)) (z_runSL (wa := []) (w := (wV cI cZ cJ h lev tm gn nL nC nE L B C E qo o)) (wb := (wM cI cZ g cd lev tm gn nL nC nE L B C F ys ao)) (n := 6) (As := [.ref (h 0), .int a, .int b, .int rk, .int q, .ref qo]) (rest := []) hx hb hml hown hts hK hE hX hN hS hA hP hD (tL_call_xa l D cI cZ cJ h lev tm gn nL nC nE L B C E a b rk q hno hL hC qo o sa hl9 _) gL_law_L_call rfl rfl rfl (by decide +kernel) ⟨Nat.le_of_ble_eq_true rfl, Nat.le_of_ble_eq_true rfl⟩ rfl hl.1 rfl (Nat.le_of_ble_eq_true rfl) dL_law_222 hroom) hP hD hS hA (fun r1 w1 H locs hp1 hP hD hS => ?_)
  obtain ⟨rfl, rfl⟩ := hp1
  have hP : va_P D vwCl ((wX cI cZ h lev tm gn nL nC nE L B C E ++ [(qo, .inl (cJ, 1, .inr (.inl o)))]) ++ (wM cI cZ g cd lev tm gn nL nC nE L B C F ys ao)) H := hP
  have hD : va_D A ((wX cI cZ h lev tm gn nL nC nE L B C E ++ [(qo, .inl (cJ, 1, .inr (.inl o)))]) ++ (wM cI cZ g cd lev tm gn nL nC nE L B C F ys ao)) := hD
  refine lv_istore (lv' := [(5, .int 1), (0, .ref sb), (1, .ref (h 0)), (2, .ref (g 0)), (3, .ref qo), (4, .int (nI i))]) hx hb dL_law_225 hl (by decide) rfl (fun ls hl => ?_)
  refine lv_aload_n hx hb dL_law_227 rfl (lv_at hl 3 rfl) ?_
  refine lv_aload_n hx hb dL_law_228 rfl (lv_at hl 1 rfl) ?_
  refine lv_iload hx hb dL_law_229 (lv_at hl 5 rfl) ?_
  refine lv_iconst (v := 1) hx hb dL_law_231 (by decide) ?_
  refine zn_add (i := i) (j := 1) hx hb dL_law_232 ?_
  refine z_sld (k := i + 1) (v := a) hx hb hXs hbl hbA hS (by omega) (by omega) e1 dL_law_233 ?_
  refine lv_aload_n hx hb dL_law_234 rfl (lv_at hl 1 rfl) ?_
  refine lv_iload hx hb dL_law_235 (lv_at hl 5 rfl) ?_
  refine lv_iconst (v := 2) hx hb dL_law_237 (by decide) ?_
  refine zn_add (i := i) (j := 2) hx hb dL_law_238 ?_
  refine z_sld (k := i + 2) (v := b) hx hb hXs hbl hbA hS (by omega) (by omega) e2 dL_law_239 ?_
  refine lv_aload_n hx hb dL_law_240 rfl (lv_at hl 1 rfl) ?_
  refine lv_iload hx hb dL_law_241 (lv_at hl 5 rfl) ?_
  refine lv_iconst (v := 3) hx hb dL_law_243 (by decide) ?_
  refine zn_add (i := i) (j := 3) hx hb dL_law_244 ?_
  refine z_sld (k := i + 3) (v := rk) hx hb hXs hbl hbA hS (by omega) (by omega) e3 dL_law_245 ?_
  refine lv_aload_n hx hb dL_law_246 rfl (lv_at hl 1 rfl) ?_
  refine lv_iload hx hb dL_law_247 (lv_at hl 5 rfl) ?_
  refine lv_iconst (v := 4) hx hb dL_law_249 (by decide) ?_
  refine zn_add (i := i) (j := 4) hx hb dL_law_250 ?_
  refine z_sld (k := i + 4) (v := q) hx hb hXs hbl hbA hS (by omega) (by omega) e4 dL_law_251 ?_
  refine z_backTi (wa := (wX cI cZ h lev tm gn nL nC nE L B C E ++ [(qo, .inl (cJ, 1, .inr (.inl o)))])) (w := (wM cI cZ g cd lev tm gn nL nC nE L B C F ys ao)) (z_runVT (wa := (wX cI cZ h lev tm gn nL nC nE L B C E ++ [(qo, .inl (cJ, 1, .inr (.inl o)))])) (w := (wM cI cZ g cd lev tm gn nL nC nE L B C F ys ao)) (n := 4) (As := [.int a, .int b, .int rk, .int q]) (ci := 5) (rest := []) hx hb hml hown hts hK hE hP hD (tX4_call_n1 l D cI cZ cJ g cd lev tm gn nL nC nE L B C F ys ao a b rk q m_hno _) gL_law_X4_call rfl rfl rfl (by decide +kernel) ⟨Nat.le_of_ble_eq_true rfl, Nat.le_of_ble_eq_true rfl⟩ rfl rfl rfl hl.1 rfl (Nat.le_of_ble_eq_true rfl) dL_law_252 hroom) hP hD hS hA (fun r2 w1 H locs hp2 hP hD hS => ?_)
  obtain ⟨rfl, rfl⟩ := hp2
  have hP : va_P D vwCl ((wX cI cZ h lev tm gn nL nC nE L B C E ++ [(qo, .inl (cJ, 1, .inr (.inl o)))]) ++ (wM cI cZ g 1 lev tm gn nL nC nE L B C F ys ao)) H := hP
  have hD : va_D A ((wX cI cZ h lev tm gn nL nC nE L B C E ++ [(qo, .inl (cJ, 1, .inr (.inl o)))]) ++ (wM cI cZ g 1 lev tm gn nL nC nE L B C F ys ao)) := hD
  refine lv_istore (lv' := [(6, .int 0), (5, .int 1), (0, .ref sb), (1, .ref (h 0)), (2, .ref (g 0)), (3, .ref qo), (4, .int (nI i))]) hx hb dL_law_255 hl (by decide) rfl (fun ls hl => ?_)
  refine lv_aload_n hx hb dL_law_257 rfl (lv_at hl 4 rfl) ?_
  refine z_backTi (wa := (wX cI cZ h lev tm gn nL nC nE L B C E ++ [(qo, .inl (cJ, 1, .inr (.inl o)))])) (w := (wM cI cZ g 1 lev tm gn nL nC nE L B C F ys ao)) (z_runVT (wa := (wX cI cZ h lev tm gn nL nC nE L B C E ++ [(qo, .inl (cJ, 1, .inr (.inl o)))])) (w := (wM cI cZ g 1 lev tm gn nL nC nE L B C F ys ao)) (n := 0) (As := []) (ci := 5) (rest := []) hx hb hml hown hts hK hE hP hD (tX4_thrown l D cI cZ cJ g 1 lev tm gn nL nC nE L B C F ys ao _) gL_law_X4_thrown rfl rfl rfl (by decide +kernel) ⟨Nat.le_of_ble_eq_true rfl, Nat.le_of_ble_eq_true rfl⟩ rfl rfl rfl hl.1 rfl (Nat.le_of_ble_eq_true rfl) dL_law_258 hroom) hP hD hS hA (fun r3 w1 H locs hp3 hP hD hS => ?_)
  obtain ⟨rfl, rfl⟩ := hp3
  have hP : va_P D vwCl ((wX cI cZ h lev tm gn nL nC nE L B C E ++ [(qo, .inl (cJ, 1, .inr (.inl o)))]) ++ (wM cI cZ g 1 lev tm gn nL nC nE L B C F ys ao)) H := hP
  have hD : va_D A ((wX cI cZ h lev tm gn nL nC nE L B C E ++ [(qo, .inl (cJ, 1, .inr (.inl o)))]) ++ (wM cI cZ g 1 lev tm gn nL nC nE L B C F ys ao)) := hD
  refine lv_iload hx hb dL_law_261 (lv_at hl 1 rfl) ?_
  refine zn_eq (i := 1) (j := 1) (tgt := 268) hx hb (by omega) (by omega) dL_law_263 (by decide) (fun c263 => ?_) (fun c263 => ?_)
  · skip
    refine lv_iload hx hb dL_law_268 (lv_at hl 1 rfl) ?_
    refine lv_if_ne (x := 1) (tgt := 285) hx hb dL_law_270 (by decide) (fun c270 => ?_) (fun c270 => ?_)
    · skip
      refine lv_goto (tgt := 1117) hx hb dL_law_285 (by decide) ?_
      exact kk H locs ls (lv_sub hl [2, 3, 4, 5, 6] rfl) hP hD hS
    · exact absurd c270 (by decide)
  · exact absurd c263 (by omega)


set_option maxHeartbeats 4000000 in
set_option maxRecDepth 100000 in
theorem law_call_xb {p : Program} {l : Launch} {e : Env} {s : State} {m : MethodId} {below : List Frame} {meth : Method} {c : Code} {Q : State → Prop} {sb Ln : Nat} {xs : Nat → Int32} {D : va_G} {cI cZ cJ : ClassId} {A : Nat → Prop} {sa : Nat → Nat} (cx : zCx p l s m meth c sb Ln xs D cI cZ cJ A sa) (h g : Nat → Nat) (lev tm : Nat) (gn : Int32) (nL nC nE : Nat) (L B C E F : Nat → Nat → Int32) (qo : Nat) (o : Nat → Int64) (cd : Int32) (ys ao : Nat → Int32) (i : Nat) (hi : i + 5 ≤ Ln) (a b rk q : Int32) (h1 : inB a 0 (nI lev - 1) = true) (hno : inB b 0 (nI lev - 1) = false) (hL : nL ≤ 4) (hC : nC ≤ 24) (m_hno : ((((inB a 0 (nI lev - 1) && inB b 0 (nI lev - 1)) && !decide (a = b)) && inB rk 1 3) && inB q 1 50) = false) (e1 : xs (i + 1) = a) (e2 : xs (i + 2) = b) (e3 : xs (i + 3) = rk) (e4 : xs (i + 4) = q) {H : Heap} {locs : List Loc} {cells slots : Nat} {ls : Array Slot} (hl : lv_has ls 7 [(0, .ref sb), (1, .ref (h 0)), (2, .ref (g 0)), (3, .ref qo), (4, .int (nI i))]) (hP : va_P D vwCl (wV cI cZ cJ h lev tm gn nL nC nE L B C E qo o ++ wM cI cZ g cd lev tm gn nL nC nE L B C F ys ao) H) (hD : va_D A (wV cI cZ cJ h lev tm gn nL nC nE L B C E qo o ++ wM cI cZ g cd lev tm gn nL nC nE L B C F ys ao)) (hS : va_S A s.heap H locs) (hroom : cells + 1 ≤ room_1.cells ∧ slots + 6 ≤ room_1.slots) (kk : ∀ (H1 : Heap) (locs1 : List Loc) (ls1 : Array Slot), lv_has ls1 7 [(0, .ref sb), (1, .ref (h 0)), (2, .ref (g 0)), (3, .ref qo), (4, .int (nI i))] → va_P D vwCl (wX cI cZ h lev tm gn nL nC nE L B C E ++ [(qo, .inl (cJ, 1, .inr (.inl o)))] ++ wM cI cZ g 1 lev tm gn nL nC nE L B C F ys ao) H1 → va_D A (wX cI cZ h lev tm gn nL nC nE L B C E ++ [(qo, .inl (cJ, 1, .inr (.inl o)))] ++ wM cI cZ g 1 lev tm gn nL nC nE L B C F ys ao) → va_S A s.heap H1 locs1 → W p l e room_1 s m #[Value.ref sb] below meth c H1 locs1 (cells + 1) (slots + 6) Q (F0 m 1117 ls1 []))  : W p l e room_1 s m #[Value.ref sb] below meth c H locs cells slots Q (F0 m 196 ls []) := by
  obtain ⟨hx, hb, hr9, hml, hlocks, hown, htsO, hK, hE, hX, hN, hA, hXs, hbl, hbA, hl9, hLn⟩ := cx
  have hts : ∀ w ∈ wsL_law, w.before #[Value.ref sb] s = true := fun w h9 => htsO w (lawO_l h9)
  refine lv_aload_n hx hb dL_law_196 rfl (lv_at hl 1 rfl) ?_
  refine lv_aload_n hx hb dL_law_197 rfl (lv_at hl 0 rfl) ?_
  refine lv_iload hx hb dL_law_198 (lv_at hl 4 rfl) ?_
  refine lv_iconst (v := 1) hx hb dL_law_200 (by decide) ?_
  refine zn_add (i := i) (j := 1) hx hb dL_law_201 ?_
  refine z_sld (k := i + 1) (v := a) hx hb hXs hbl hbA hS (by omega) (by omega) e1 dL_law_202 ?_
  refine lv_aload_n hx hb dL_law_203 rfl (lv_at hl 0 rfl) ?_
  refine lv_iload hx hb dL_law_204 (lv_at hl 4 rfl) ?_
  refine lv_iconst (v := 2) hx hb dL_law_206 (by decide) ?_
  refine zn_add (i := i) (j := 2) hx hb dL_law_207 ?_
  refine z_sld (k := i + 2) (v := b) hx hb hXs hbl hbA hS (by omega) (by omega) e2 dL_law_208 ?_
  refine lv_aload_n hx hb dL_law_209 rfl (lv_at hl 0 rfl) ?_
  refine lv_iload hx hb dL_law_210 (lv_at hl 4 rfl) ?_
  refine lv_iconst (v := 3) hx hb dL_law_212 (by decide) ?_
  refine zn_add (i := i) (j := 3) hx hb dL_law_213 ?_
  refine z_sld (k := i + 3) (v := rk) hx hb hXs hbl hbA hS (by omega) (by omega) e3 dL_law_214 ?_
  refine lv_aload_n hx hb dL_law_215 rfl (lv_at hl 0 rfl) ?_
  refine lv_iload hx hb dL_law_216 (lv_at hl 4 rfl) ?_
  refine lv_iconst (v := 4) hx hb dL_law_218 (by decide) ?_
  refine zn_add (i := i) (j := 4) hx hb dL_law_219 ?_
  refine z_sld (k := i + 4) (v := q) hx hb hXs hbl hbA hS (by omega) (by omega) e4 dL_law_220 ?_
  refine lv_aload_n hx hb dL_law_221 rfl (lv_at hl 3 rfl) ?_
  refine z_backSi (wa := []) (w := (wV cI cZ cJ h lev tm gn nL nC nE L B C E qo o)) (wb := (wM cI cZ g cd lev tm gn nL nC nE L B C F ys ao)) (z_runSL (wa := []) (w := (wV cI cZ cJ h lev tm gn nL nC nE L B C E qo o)) (wb := (wM cI cZ g cd lev tm gn nL nC nE L B C F ys ao)) (n := 6) (As := [.ref (h 0), .int a, .int b, .int rk, .int q, .ref qo]) (rest := []) hx hb hml hown hts hK hE hX hN hS hA hP hD (tL_call_xb l D cI cZ cJ h lev tm gn nL nC nE L B C E a b rk q h1 hno hL hC qo o sa hl9 _) gL_law_L_call rfl rfl rfl (by decide +kernel) ⟨Nat.le_of_ble_eq_true rfl, Nat.le_of_ble_eq_true rfl⟩ rfl hl.1 rfl (Nat.le_of_ble_eq_true rfl) dL_law_222 hroom) hP hD hS hA (fun r1 w1 H locs hp1 hP hD hS => ?_)
  obtain ⟨rfl, rfl⟩ := hp1
  have hP : va_P D vwCl ((wX cI cZ h lev tm gn nL nC nE L B C E ++ [(qo, .inl (cJ, 1, .inr (.inl o)))]) ++ (wM cI cZ g cd lev tm gn nL nC nE L B C F ys ao)) H := hP
  have hD : va_D A ((wX cI cZ h lev tm gn nL nC nE L B C E ++ [(qo, .inl (cJ, 1, .inr (.inl o)))]) ++ (wM cI cZ g cd lev tm gn nL nC nE L B C F ys ao)) := hD
  refine lv_istore (lv' := [(5, .int 1), (0, .ref sb), (1, .ref (h 0)), (2, .ref (g 0)), (3, .ref qo), (4, .int (nI i))]) hx hb dL_law_225 hl (by decide) rfl (fun ls hl => ?_)
  refine lv_aload_n hx hb dL_law_227 rfl (lv_at hl 3 rfl) ?_
  refine lv_aload_n hx hb dL_law_228 rfl (lv_at hl 1 rfl) ?_
  refine lv_iload hx hb dL_law_229 (lv_at hl 5 rfl) ?_
  refine lv_iconst (v := 1) hx hb dL_law_231 (by decide) ?_
  refine zn_add (i := i) (j := 1) hx hb dL_law_232 ?_
  refine z_sld (k := i + 1) (v := a) hx hb hXs hbl hbA hS (by omega) (by omega) e1 dL_law_233 ?_
  refine lv_aload_n hx hb dL_law_234 rfl (lv_at hl 1 rfl) ?_
  refine lv_iload hx hb dL_law_235 (lv_at hl 5 rfl) ?_
  refine lv_iconst (v := 2) hx hb dL_law_237 (by decide) ?_
  refine zn_add (i := i) (j := 2) hx hb dL_law_238 ?_
  refine z_sld (k := i + 2) (v := b) hx hb hXs hbl hbA hS (by omega) (by omega) e2 dL_law_239 ?_
  refine lv_aload_n hx hb dL_law_240 rfl (lv_at hl 1 rfl) ?_
  refine lv_iload hx hb dL_law_241 (lv_at hl 5 rfl) ?_
  refine lv_iconst (v := 3) hx hb dL_law_243 (by decide) ?_
  refine zn_add (i := i) (j := 3) hx hb dL_law_244 ?_
  refine z_sld (k := i + 3) (v := rk) hx hb hXs hbl hbA hS (by omega) (by omega) e3 dL_law_245 ?_
  refine lv_aload_n hx hb dL_law_246 rfl (lv_at hl 1 rfl) ?_
  refine lv_iload hx hb dL_law_247 (lv_at hl 5 rfl) ?_
  refine lv_iconst (v := 4) hx hb dL_law_249 (by decide) ?_
  refine zn_add (i := i) (j := 4) hx hb dL_law_250 ?_
  refine z_sld (k := i + 4) (v := q) hx hb hXs hbl hbA hS (by omega) (by omega) e4 dL_law_251 ?_
  refine z_backTi (wa := (wX cI cZ h lev tm gn nL nC nE L B C E ++ [(qo, .inl (cJ, 1, .inr (.inl o)))])) (w := (wM cI cZ g cd lev tm gn nL nC nE L B C F ys ao)) (z_runVT (wa := (wX cI cZ h lev tm gn nL nC nE L B C E ++ [(qo, .inl (cJ, 1, .inr (.inl o)))])) (w := (wM cI cZ g cd lev tm gn nL nC nE L B C F ys ao)) (n := 4) (As := [.int a, .int b, .int rk, .int q]) (ci := 5) (rest := []) hx hb hml hown hts hK hE hP hD (tX4_call_n1 l D cI cZ cJ g cd lev tm gn nL nC nE L B C F ys ao a b rk q m_hno _) gL_law_X4_call rfl rfl rfl (by decide +kernel) ⟨Nat.le_of_ble_eq_true rfl, Nat.le_of_ble_eq_true rfl⟩ rfl rfl rfl hl.1 rfl (Nat.le_of_ble_eq_true rfl) dL_law_252 hroom) hP hD hS hA (fun r2 w1 H locs hp2 hP hD hS => ?_)
  obtain ⟨rfl, rfl⟩ := hp2
  have hP : va_P D vwCl ((wX cI cZ h lev tm gn nL nC nE L B C E ++ [(qo, .inl (cJ, 1, .inr (.inl o)))]) ++ (wM cI cZ g 1 lev tm gn nL nC nE L B C F ys ao)) H := hP
  have hD : va_D A ((wX cI cZ h lev tm gn nL nC nE L B C E ++ [(qo, .inl (cJ, 1, .inr (.inl o)))]) ++ (wM cI cZ g 1 lev tm gn nL nC nE L B C F ys ao)) := hD
  refine lv_istore (lv' := [(6, .int 0), (5, .int 1), (0, .ref sb), (1, .ref (h 0)), (2, .ref (g 0)), (3, .ref qo), (4, .int (nI i))]) hx hb dL_law_255 hl (by decide) rfl (fun ls hl => ?_)
  refine lv_aload_n hx hb dL_law_257 rfl (lv_at hl 4 rfl) ?_
  refine z_backTi (wa := (wX cI cZ h lev tm gn nL nC nE L B C E ++ [(qo, .inl (cJ, 1, .inr (.inl o)))])) (w := (wM cI cZ g 1 lev tm gn nL nC nE L B C F ys ao)) (z_runVT (wa := (wX cI cZ h lev tm gn nL nC nE L B C E ++ [(qo, .inl (cJ, 1, .inr (.inl o)))])) (w := (wM cI cZ g 1 lev tm gn nL nC nE L B C F ys ao)) (n := 0) (As := []) (ci := 5) (rest := []) hx hb hml hown hts hK hE hP hD (tX4_thrown l D cI cZ cJ g 1 lev tm gn nL nC nE L B C F ys ao _) gL_law_X4_thrown rfl rfl rfl (by decide +kernel) ⟨Nat.le_of_ble_eq_true rfl, Nat.le_of_ble_eq_true rfl⟩ rfl rfl rfl hl.1 rfl (Nat.le_of_ble_eq_true rfl) dL_law_258 hroom) hP hD hS hA (fun r3 w1 H locs hp3 hP hD hS => ?_)
  obtain ⟨rfl, rfl⟩ := hp3
  have hP : va_P D vwCl ((wX cI cZ h lev tm gn nL nC nE L B C E ++ [(qo, .inl (cJ, 1, .inr (.inl o)))]) ++ (wM cI cZ g 1 lev tm gn nL nC nE L B C F ys ao)) H := hP
  have hD : va_D A ((wX cI cZ h lev tm gn nL nC nE L B C E ++ [(qo, .inl (cJ, 1, .inr (.inl o)))]) ++ (wM cI cZ g 1 lev tm gn nL nC nE L B C F ys ao)) := hD
  refine lv_iload hx hb dL_law_261 (lv_at hl 1 rfl) ?_
  refine zn_eq (i := 1) (j := 1) (tgt := 268) hx hb (by omega) (by omega) dL_law_263 (by decide) (fun c263 => ?_) (fun c263 => ?_)
  · skip
    refine lv_iload hx hb dL_law_268 (lv_at hl 1 rfl) ?_
    refine lv_if_ne (x := 1) (tgt := 285) hx hb dL_law_270 (by decide) (fun c270 => ?_) (fun c270 => ?_)
    · skip
      refine lv_goto (tgt := 1117) hx hb dL_law_285 (by decide) ?_
      exact kk H locs ls (lv_sub hl [2, 3, 4, 5, 6] rfl) hP hD hS
    · exact absurd c270 (by decide)
  · exact absurd c263 (by omega)


set_option maxHeartbeats 4000000 in
set_option maxRecDepth 100000 in
theorem law_call_xc {p : Program} {l : Launch} {e : Env} {s : State} {m : MethodId} {below : List Frame} {meth : Method} {c : Code} {Q : State → Prop} {sb Ln : Nat} {xs : Nat → Int32} {D : va_G} {cI cZ cJ : ClassId} {A : Nat → Prop} {sa : Nat → Nat} (cx : zCx p l s m meth c sb Ln xs D cI cZ cJ A sa) (h g : Nat → Nat) (lev tm : Nat) (gn : Int32) (nL nC nE : Nat) (L B C E F : Nat → Nat → Int32) (qo : Nat) (o : Nat → Int64) (cd : Int32) (ys ao : Nat → Int32) (i : Nat) (hi : i + 5 ≤ Ln) (a b rk q : Int32) (h1 : inB a 0 (nI lev - 1) = true) (h2 : inB b 0 (nI lev - 1) = true) (hno : inB rk 1 3 = false) (hL : nL ≤ 4) (hC : nC ≤ 24) (m_hno : ((((inB a 0 (nI lev - 1) && inB b 0 (nI lev - 1)) && !decide (a = b)) && inB rk 1 3) && inB q 1 50) = false) (e1 : xs (i + 1) = a) (e2 : xs (i + 2) = b) (e3 : xs (i + 3) = rk) (e4 : xs (i + 4) = q) {H : Heap} {locs : List Loc} {cells slots : Nat} {ls : Array Slot} (hl : lv_has ls 7 [(0, .ref sb), (1, .ref (h 0)), (2, .ref (g 0)), (3, .ref qo), (4, .int (nI i))]) (hP : va_P D vwCl (wV cI cZ cJ h lev tm gn nL nC nE L B C E qo o ++ wM cI cZ g cd lev tm gn nL nC nE L B C F ys ao) H) (hD : va_D A (wV cI cZ cJ h lev tm gn nL nC nE L B C E qo o ++ wM cI cZ g cd lev tm gn nL nC nE L B C F ys ao)) (hS : va_S A s.heap H locs) (hroom : cells + 1 ≤ room_1.cells ∧ slots + 6 ≤ room_1.slots) (kk : ∀ (H1 : Heap) (locs1 : List Loc) (ls1 : Array Slot), lv_has ls1 7 [(0, .ref sb), (1, .ref (h 0)), (2, .ref (g 0)), (3, .ref qo), (4, .int (nI i))] → va_P D vwCl (wX cI cZ h lev tm gn nL nC nE L B C E ++ [(qo, .inl (cJ, 1, .inr (.inl o)))] ++ wM cI cZ g 1 lev tm gn nL nC nE L B C F ys ao) H1 → va_D A (wX cI cZ h lev tm gn nL nC nE L B C E ++ [(qo, .inl (cJ, 1, .inr (.inl o)))] ++ wM cI cZ g 1 lev tm gn nL nC nE L B C F ys ao) → va_S A s.heap H1 locs1 → W p l e room_1 s m #[Value.ref sb] below meth c H1 locs1 (cells + 1) (slots + 6) Q (F0 m 1117 ls1 []))  : W p l e room_1 s m #[Value.ref sb] below meth c H locs cells slots Q (F0 m 196 ls []) := by
  obtain ⟨hx, hb, hr9, hml, hlocks, hown, htsO, hK, hE, hX, hN, hA, hXs, hbl, hbA, hl9, hLn⟩ := cx
  have hts : ∀ w ∈ wsL_law, w.before #[Value.ref sb] s = true := fun w h9 => htsO w (lawO_l h9)
  refine lv_aload_n hx hb dL_law_196 rfl (lv_at hl 1 rfl) ?_
  refine lv_aload_n hx hb dL_law_197 rfl (lv_at hl 0 rfl) ?_
  refine lv_iload hx hb dL_law_198 (lv_at hl 4 rfl) ?_
  refine lv_iconst (v := 1) hx hb dL_law_200 (by decide) ?_
  refine zn_add (i := i) (j := 1) hx hb dL_law_201 ?_
  refine z_sld (k := i + 1) (v := a) hx hb hXs hbl hbA hS (by omega) (by omega) e1 dL_law_202 ?_
  refine lv_aload_n hx hb dL_law_203 rfl (lv_at hl 0 rfl) ?_
  refine lv_iload hx hb dL_law_204 (lv_at hl 4 rfl) ?_
  refine lv_iconst (v := 2) hx hb dL_law_206 (by decide) ?_
  refine zn_add (i := i) (j := 2) hx hb dL_law_207 ?_
  refine z_sld (k := i + 2) (v := b) hx hb hXs hbl hbA hS (by omega) (by omega) e2 dL_law_208 ?_
  refine lv_aload_n hx hb dL_law_209 rfl (lv_at hl 0 rfl) ?_
  refine lv_iload hx hb dL_law_210 (lv_at hl 4 rfl) ?_
  refine lv_iconst (v := 3) hx hb dL_law_212 (by decide) ?_
  refine zn_add (i := i) (j := 3) hx hb dL_law_213 ?_
  refine z_sld (k := i + 3) (v := rk) hx hb hXs hbl hbA hS (by omega) (by omega) e3 dL_law_214 ?_
  refine lv_aload_n hx hb dL_law_215 rfl (lv_at hl 0 rfl) ?_
  refine lv_iload hx hb dL_law_216 (lv_at hl 4 rfl) ?_
  refine lv_iconst (v := 4) hx hb dL_law_218 (by decide) ?_
  refine zn_add (i := i) (j := 4) hx hb dL_law_219 ?_
  refine z_sld (k := i + 4) (v := q) hx hb hXs hbl hbA hS (by omega) (by omega) e4 dL_law_220 ?_
  refine lv_aload_n hx hb dL_law_221 rfl (lv_at hl 3 rfl) ?_
  refine z_backSi (wa := []) (w := (wV cI cZ cJ h lev tm gn nL nC nE L B C E qo o)) (wb := (wM cI cZ g cd lev tm gn nL nC nE L B C F ys ao)) (z_runSL (wa := []) (w := (wV cI cZ cJ h lev tm gn nL nC nE L B C E qo o)) (wb := (wM cI cZ g cd lev tm gn nL nC nE L B C F ys ao)) (n := 6) (As := [.ref (h 0), .int a, .int b, .int rk, .int q, .ref qo]) (rest := []) hx hb hml hown hts hK hE hX hN hS hA hP hD (tL_call_xc l D cI cZ cJ h lev tm gn nL nC nE L B C E a b rk q h1 h2 hno hL hC qo o sa hl9 _) gL_law_L_call rfl rfl rfl (by decide +kernel) ⟨Nat.le_of_ble_eq_true rfl, Nat.le_of_ble_eq_true rfl⟩ rfl hl.1 rfl (Nat.le_of_ble_eq_true rfl) dL_law_222 hroom) hP hD hS hA (fun r1 w1 H locs hp1 hP hD hS => ?_)
  obtain ⟨rfl, rfl⟩ := hp1
  have hP : va_P D vwCl ((wX cI cZ h lev tm gn nL nC nE L B C E ++ [(qo, .inl (cJ, 1, .inr (.inl o)))]) ++ (wM cI cZ g cd lev tm gn nL nC nE L B C F ys ao)) H := hP
  have hD : va_D A ((wX cI cZ h lev tm gn nL nC nE L B C E ++ [(qo, .inl (cJ, 1, .inr (.inl o)))]) ++ (wM cI cZ g cd lev tm gn nL nC nE L B C F ys ao)) := hD
  refine lv_istore (lv' := [(5, .int 1), (0, .ref sb), (1, .ref (h 0)), (2, .ref (g 0)), (3, .ref qo), (4, .int (nI i))]) hx hb dL_law_225 hl (by decide) rfl (fun ls hl => ?_)
  refine lv_aload_n hx hb dL_law_227 rfl (lv_at hl 3 rfl) ?_
  refine lv_aload_n hx hb dL_law_228 rfl (lv_at hl 1 rfl) ?_
  refine lv_iload hx hb dL_law_229 (lv_at hl 5 rfl) ?_
  refine lv_iconst (v := 1) hx hb dL_law_231 (by decide) ?_
  refine zn_add (i := i) (j := 1) hx hb dL_law_232 ?_
  refine z_sld (k := i + 1) (v := a) hx hb hXs hbl hbA hS (by omega) (by omega) e1 dL_law_233 ?_
  refine lv_aload_n hx hb dL_law_234 rfl (lv_at hl 1 rfl) ?_
  refine lv_iload hx hb dL_law_235 (lv_at hl 5 rfl) ?_
  refine lv_iconst (v := 2) hx hb dL_law_237 (by decide) ?_
  refine zn_add (i := i) (j := 2) hx hb dL_law_238 ?_
  refine z_sld (k := i + 2) (v := b) hx hb hXs hbl hbA hS (by omega) (by omega) e2 dL_law_239 ?_
  refine lv_aload_n hx hb dL_law_240 rfl (lv_at hl 1 rfl) ?_
  refine lv_iload hx hb dL_law_241 (lv_at hl 5 rfl) ?_
  refine lv_iconst (v := 3) hx hb dL_law_243 (by decide) ?_
  refine zn_add (i := i) (j := 3) hx hb dL_law_244 ?_
  refine z_sld (k := i + 3) (v := rk) hx hb hXs hbl hbA hS (by omega) (by omega) e3 dL_law_245 ?_
  refine lv_aload_n hx hb dL_law_246 rfl (lv_at hl 1 rfl) ?_
  refine lv_iload hx hb dL_law_247 (lv_at hl 5 rfl) ?_
  refine lv_iconst (v := 4) hx hb dL_law_249 (by decide) ?_
  refine zn_add (i := i) (j := 4) hx hb dL_law_250 ?_
  refine z_sld (k := i + 4) (v := q) hx hb hXs hbl hbA hS (by omega) (by omega) e4 dL_law_251 ?_
  refine z_backTi (wa := (wX cI cZ h lev tm gn nL nC nE L B C E ++ [(qo, .inl (cJ, 1, .inr (.inl o)))])) (w := (wM cI cZ g cd lev tm gn nL nC nE L B C F ys ao)) (z_runVT (wa := (wX cI cZ h lev tm gn nL nC nE L B C E ++ [(qo, .inl (cJ, 1, .inr (.inl o)))])) (w := (wM cI cZ g cd lev tm gn nL nC nE L B C F ys ao)) (n := 4) (As := [.int a, .int b, .int rk, .int q]) (ci := 5) (rest := []) hx hb hml hown hts hK hE hP hD (tX4_call_n1 l D cI cZ cJ g cd lev tm gn nL nC nE L B C F ys ao a b rk q m_hno _) gL_law_X4_call rfl rfl rfl (by decide +kernel) ⟨Nat.le_of_ble_eq_true rfl, Nat.le_of_ble_eq_true rfl⟩ rfl rfl rfl hl.1 rfl (Nat.le_of_ble_eq_true rfl) dL_law_252 hroom) hP hD hS hA (fun r2 w1 H locs hp2 hP hD hS => ?_)
  obtain ⟨rfl, rfl⟩ := hp2
  have hP : va_P D vwCl ((wX cI cZ h lev tm gn nL nC nE L B C E ++ [(qo, .inl (cJ, 1, .inr (.inl o)))]) ++ (wM cI cZ g 1 lev tm gn nL nC nE L B C F ys ao)) H := hP
  have hD : va_D A ((wX cI cZ h lev tm gn nL nC nE L B C E ++ [(qo, .inl (cJ, 1, .inr (.inl o)))]) ++ (wM cI cZ g 1 lev tm gn nL nC nE L B C F ys ao)) := hD
  refine lv_istore (lv' := [(6, .int 0), (5, .int 1), (0, .ref sb), (1, .ref (h 0)), (2, .ref (g 0)), (3, .ref qo), (4, .int (nI i))]) hx hb dL_law_255 hl (by decide) rfl (fun ls hl => ?_)
  refine lv_aload_n hx hb dL_law_257 rfl (lv_at hl 4 rfl) ?_
  refine z_backTi (wa := (wX cI cZ h lev tm gn nL nC nE L B C E ++ [(qo, .inl (cJ, 1, .inr (.inl o)))])) (w := (wM cI cZ g 1 lev tm gn nL nC nE L B C F ys ao)) (z_runVT (wa := (wX cI cZ h lev tm gn nL nC nE L B C E ++ [(qo, .inl (cJ, 1, .inr (.inl o)))])) (w := (wM cI cZ g 1 lev tm gn nL nC nE L B C F ys ao)) (n := 0) (As := []) (ci := 5) (rest := []) hx hb hml hown hts hK hE hP hD (tX4_thrown l D cI cZ cJ g 1 lev tm gn nL nC nE L B C F ys ao _) gL_law_X4_thrown rfl rfl rfl (by decide +kernel) ⟨Nat.le_of_ble_eq_true rfl, Nat.le_of_ble_eq_true rfl⟩ rfl rfl rfl hl.1 rfl (Nat.le_of_ble_eq_true rfl) dL_law_258 hroom) hP hD hS hA (fun r3 w1 H locs hp3 hP hD hS => ?_)
  obtain ⟨rfl, rfl⟩ := hp3
  have hP : va_P D vwCl ((wX cI cZ h lev tm gn nL nC nE L B C E ++ [(qo, .inl (cJ, 1, .inr (.inl o)))]) ++ (wM cI cZ g 1 lev tm gn nL nC nE L B C F ys ao)) H := hP
  have hD : va_D A ((wX cI cZ h lev tm gn nL nC nE L B C E ++ [(qo, .inl (cJ, 1, .inr (.inl o)))]) ++ (wM cI cZ g 1 lev tm gn nL nC nE L B C F ys ao)) := hD
  refine lv_iload hx hb dL_law_261 (lv_at hl 1 rfl) ?_
  refine zn_eq (i := 1) (j := 1) (tgt := 268) hx hb (by omega) (by omega) dL_law_263 (by decide) (fun c263 => ?_) (fun c263 => ?_)
  · skip
    refine lv_iload hx hb dL_law_268 (lv_at hl 1 rfl) ?_
    refine lv_if_ne (x := 1) (tgt := 285) hx hb dL_law_270 (by decide) (fun c270 => ?_) (fun c270 => ?_)
    · skip
      refine lv_goto (tgt := 1117) hx hb dL_law_285 (by decide) ?_
      exact kk H locs ls (lv_sub hl [2, 3, 4, 5, 6] rfl) hP hD hS
    · exact absurd c270 (by decide)
  · exact absurd c263 (by omega)


set_option maxHeartbeats 4000000 in
set_option maxRecDepth 100000 in
theorem law_call_xd {p : Program} {l : Launch} {e : Env} {s : State} {m : MethodId} {below : List Frame} {meth : Method} {c : Code} {Q : State → Prop} {sb Ln : Nat} {xs : Nat → Int32} {D : va_G} {cI cZ cJ : ClassId} {A : Nat → Prop} {sa : Nat → Nat} (cx : zCx p l s m meth c sb Ln xs D cI cZ cJ A sa) (h g : Nat → Nat) (lev tm : Nat) (gn : Int32) (nL nC nE : Nat) (L B C E F : Nat → Nat → Int32) (qo : Nat) (o : Nat → Int64) (cd : Int32) (ys ao : Nat → Int32) (i : Nat) (hi : i + 5 ≤ Ln) (a b rk q : Int32) (h1 : inB a 0 (nI lev - 1) = true) (h2 : inB b 0 (nI lev - 1) = true) (h4 : inB rk 1 3 = true) (hno : inB q 1 50 = false) (hL : nL ≤ 4) (hC : nC ≤ 24) (m_hno : ((((inB a 0 (nI lev - 1) && inB b 0 (nI lev - 1)) && !decide (a = b)) && inB rk 1 3) && inB q 1 50) = false) (e1 : xs (i + 1) = a) (e2 : xs (i + 2) = b) (e3 : xs (i + 3) = rk) (e4 : xs (i + 4) = q) {H : Heap} {locs : List Loc} {cells slots : Nat} {ls : Array Slot} (hl : lv_has ls 7 [(0, .ref sb), (1, .ref (h 0)), (2, .ref (g 0)), (3, .ref qo), (4, .int (nI i))]) (hP : va_P D vwCl (wV cI cZ cJ h lev tm gn nL nC nE L B C E qo o ++ wM cI cZ g cd lev tm gn nL nC nE L B C F ys ao) H) (hD : va_D A (wV cI cZ cJ h lev tm gn nL nC nE L B C E qo o ++ wM cI cZ g cd lev tm gn nL nC nE L B C F ys ao)) (hS : va_S A s.heap H locs) (hroom : cells + 1 ≤ room_1.cells ∧ slots + 6 ≤ room_1.slots) (kk : ∀ (H1 : Heap) (locs1 : List Loc) (ls1 : Array Slot), lv_has ls1 7 [(0, .ref sb), (1, .ref (h 0)), (2, .ref (g 0)), (3, .ref qo), (4, .int (nI i))] → va_P D vwCl (wX cI cZ h lev tm gn nL nC nE L B C E ++ [(qo, .inl (cJ, 1, .inr (.inl o)))] ++ wM cI cZ g 1 lev tm gn nL nC nE L B C F ys ao) H1 → va_D A (wX cI cZ h lev tm gn nL nC nE L B C E ++ [(qo, .inl (cJ, 1, .inr (.inl o)))] ++ wM cI cZ g 1 lev tm gn nL nC nE L B C F ys ao) → va_S A s.heap H1 locs1 → W p l e room_1 s m #[Value.ref sb] below meth c H1 locs1 (cells + 1) (slots + 6) Q (F0 m 1117 ls1 []))  : W p l e room_1 s m #[Value.ref sb] below meth c H locs cells slots Q (F0 m 196 ls []) := by
  obtain ⟨hx, hb, hr9, hml, hlocks, hown, htsO, hK, hE, hX, hN, hA, hXs, hbl, hbA, hl9, hLn⟩ := cx
  have hts : ∀ w ∈ wsL_law, w.before #[Value.ref sb] s = true := fun w h9 => htsO w (lawO_l h9)
  refine lv_aload_n hx hb dL_law_196 rfl (lv_at hl 1 rfl) ?_
  refine lv_aload_n hx hb dL_law_197 rfl (lv_at hl 0 rfl) ?_
  refine lv_iload hx hb dL_law_198 (lv_at hl 4 rfl) ?_
  refine lv_iconst (v := 1) hx hb dL_law_200 (by decide) ?_
  refine zn_add (i := i) (j := 1) hx hb dL_law_201 ?_
  refine z_sld (k := i + 1) (v := a) hx hb hXs hbl hbA hS (by omega) (by omega) e1 dL_law_202 ?_
  refine lv_aload_n hx hb dL_law_203 rfl (lv_at hl 0 rfl) ?_
  refine lv_iload hx hb dL_law_204 (lv_at hl 4 rfl) ?_
  refine lv_iconst (v := 2) hx hb dL_law_206 (by decide) ?_
  refine zn_add (i := i) (j := 2) hx hb dL_law_207 ?_
  refine z_sld (k := i + 2) (v := b) hx hb hXs hbl hbA hS (by omega) (by omega) e2 dL_law_208 ?_
  refine lv_aload_n hx hb dL_law_209 rfl (lv_at hl 0 rfl) ?_
  refine lv_iload hx hb dL_law_210 (lv_at hl 4 rfl) ?_
  refine lv_iconst (v := 3) hx hb dL_law_212 (by decide) ?_
  refine zn_add (i := i) (j := 3) hx hb dL_law_213 ?_
  refine z_sld (k := i + 3) (v := rk) hx hb hXs hbl hbA hS (by omega) (by omega) e3 dL_law_214 ?_
  refine lv_aload_n hx hb dL_law_215 rfl (lv_at hl 0 rfl) ?_
  refine lv_iload hx hb dL_law_216 (lv_at hl 4 rfl) ?_
  refine lv_iconst (v := 4) hx hb dL_law_218 (by decide) ?_
  refine zn_add (i := i) (j := 4) hx hb dL_law_219 ?_
  refine z_sld (k := i + 4) (v := q) hx hb hXs hbl hbA hS (by omega) (by omega) e4 dL_law_220 ?_
  refine lv_aload_n hx hb dL_law_221 rfl (lv_at hl 3 rfl) ?_
  refine z_backSi (wa := []) (w := (wV cI cZ cJ h lev tm gn nL nC nE L B C E qo o)) (wb := (wM cI cZ g cd lev tm gn nL nC nE L B C F ys ao)) (z_runSL (wa := []) (w := (wV cI cZ cJ h lev tm gn nL nC nE L B C E qo o)) (wb := (wM cI cZ g cd lev tm gn nL nC nE L B C F ys ao)) (n := 6) (As := [.ref (h 0), .int a, .int b, .int rk, .int q, .ref qo]) (rest := []) hx hb hml hown hts hK hE hX hN hS hA hP hD (tL_call_xd l D cI cZ cJ h lev tm gn nL nC nE L B C E a b rk q h1 h2 h4 hno hL hC qo o sa hl9 _) gL_law_L_call rfl rfl rfl (by decide +kernel) ⟨Nat.le_of_ble_eq_true rfl, Nat.le_of_ble_eq_true rfl⟩ rfl hl.1 rfl (Nat.le_of_ble_eq_true rfl) dL_law_222 hroom) hP hD hS hA (fun r1 w1 H locs hp1 hP hD hS => ?_)
  obtain ⟨rfl, rfl⟩ := hp1
  have hP : va_P D vwCl ((wX cI cZ h lev tm gn nL nC nE L B C E ++ [(qo, .inl (cJ, 1, .inr (.inl o)))]) ++ (wM cI cZ g cd lev tm gn nL nC nE L B C F ys ao)) H := hP
  have hD : va_D A ((wX cI cZ h lev tm gn nL nC nE L B C E ++ [(qo, .inl (cJ, 1, .inr (.inl o)))]) ++ (wM cI cZ g cd lev tm gn nL nC nE L B C F ys ao)) := hD
  refine lv_istore (lv' := [(5, .int 1), (0, .ref sb), (1, .ref (h 0)), (2, .ref (g 0)), (3, .ref qo), (4, .int (nI i))]) hx hb dL_law_225 hl (by decide) rfl (fun ls hl => ?_)
  refine lv_aload_n hx hb dL_law_227 rfl (lv_at hl 3 rfl) ?_
  refine lv_aload_n hx hb dL_law_228 rfl (lv_at hl 1 rfl) ?_
  refine lv_iload hx hb dL_law_229 (lv_at hl 5 rfl) ?_
  refine lv_iconst (v := 1) hx hb dL_law_231 (by decide) ?_
  refine zn_add (i := i) (j := 1) hx hb dL_law_232 ?_
  refine z_sld (k := i + 1) (v := a) hx hb hXs hbl hbA hS (by omega) (by omega) e1 dL_law_233 ?_
  refine lv_aload_n hx hb dL_law_234 rfl (lv_at hl 1 rfl) ?_
  refine lv_iload hx hb dL_law_235 (lv_at hl 5 rfl) ?_
  refine lv_iconst (v := 2) hx hb dL_law_237 (by decide) ?_
  refine zn_add (i := i) (j := 2) hx hb dL_law_238 ?_
  refine z_sld (k := i + 2) (v := b) hx hb hXs hbl hbA hS (by omega) (by omega) e2 dL_law_239 ?_
  refine lv_aload_n hx hb dL_law_240 rfl (lv_at hl 1 rfl) ?_
  refine lv_iload hx hb dL_law_241 (lv_at hl 5 rfl) ?_
  refine lv_iconst (v := 3) hx hb dL_law_243 (by decide) ?_
  refine zn_add (i := i) (j := 3) hx hb dL_law_244 ?_
  refine z_sld (k := i + 3) (v := rk) hx hb hXs hbl hbA hS (by omega) (by omega) e3 dL_law_245 ?_
  refine lv_aload_n hx hb dL_law_246 rfl (lv_at hl 1 rfl) ?_
  refine lv_iload hx hb dL_law_247 (lv_at hl 5 rfl) ?_
  refine lv_iconst (v := 4) hx hb dL_law_249 (by decide) ?_
  refine zn_add (i := i) (j := 4) hx hb dL_law_250 ?_
  refine z_sld (k := i + 4) (v := q) hx hb hXs hbl hbA hS (by omega) (by omega) e4 dL_law_251 ?_
  refine z_backTi (wa := (wX cI cZ h lev tm gn nL nC nE L B C E ++ [(qo, .inl (cJ, 1, .inr (.inl o)))])) (w := (wM cI cZ g cd lev tm gn nL nC nE L B C F ys ao)) (z_runVT (wa := (wX cI cZ h lev tm gn nL nC nE L B C E ++ [(qo, .inl (cJ, 1, .inr (.inl o)))])) (w := (wM cI cZ g cd lev tm gn nL nC nE L B C F ys ao)) (n := 4) (As := [.int a, .int b, .int rk, .int q]) (ci := 5) (rest := []) hx hb hml hown hts hK hE hP hD (tX4_call_n1 l D cI cZ cJ g cd lev tm gn nL nC nE L B C F ys ao a b rk q m_hno _) gL_law_X4_call rfl rfl rfl (by decide +kernel) ⟨Nat.le_of_ble_eq_true rfl, Nat.le_of_ble_eq_true rfl⟩ rfl rfl rfl hl.1 rfl (Nat.le_of_ble_eq_true rfl) dL_law_252 hroom) hP hD hS hA (fun r2 w1 H locs hp2 hP hD hS => ?_)
  obtain ⟨rfl, rfl⟩ := hp2
  have hP : va_P D vwCl ((wX cI cZ h lev tm gn nL nC nE L B C E ++ [(qo, .inl (cJ, 1, .inr (.inl o)))]) ++ (wM cI cZ g 1 lev tm gn nL nC nE L B C F ys ao)) H := hP
  have hD : va_D A ((wX cI cZ h lev tm gn nL nC nE L B C E ++ [(qo, .inl (cJ, 1, .inr (.inl o)))]) ++ (wM cI cZ g 1 lev tm gn nL nC nE L B C F ys ao)) := hD
  refine lv_istore (lv' := [(6, .int 0), (5, .int 1), (0, .ref sb), (1, .ref (h 0)), (2, .ref (g 0)), (3, .ref qo), (4, .int (nI i))]) hx hb dL_law_255 hl (by decide) rfl (fun ls hl => ?_)
  refine lv_aload_n hx hb dL_law_257 rfl (lv_at hl 4 rfl) ?_
  refine z_backTi (wa := (wX cI cZ h lev tm gn nL nC nE L B C E ++ [(qo, .inl (cJ, 1, .inr (.inl o)))])) (w := (wM cI cZ g 1 lev tm gn nL nC nE L B C F ys ao)) (z_runVT (wa := (wX cI cZ h lev tm gn nL nC nE L B C E ++ [(qo, .inl (cJ, 1, .inr (.inl o)))])) (w := (wM cI cZ g 1 lev tm gn nL nC nE L B C F ys ao)) (n := 0) (As := []) (ci := 5) (rest := []) hx hb hml hown hts hK hE hP hD (tX4_thrown l D cI cZ cJ g 1 lev tm gn nL nC nE L B C F ys ao _) gL_law_X4_thrown rfl rfl rfl (by decide +kernel) ⟨Nat.le_of_ble_eq_true rfl, Nat.le_of_ble_eq_true rfl⟩ rfl rfl rfl hl.1 rfl (Nat.le_of_ble_eq_true rfl) dL_law_258 hroom) hP hD hS hA (fun r3 w1 H locs hp3 hP hD hS => ?_)
  obtain ⟨rfl, rfl⟩ := hp3
  have hP : va_P D vwCl ((wX cI cZ h lev tm gn nL nC nE L B C E ++ [(qo, .inl (cJ, 1, .inr (.inl o)))]) ++ (wM cI cZ g 1 lev tm gn nL nC nE L B C F ys ao)) H := hP
  have hD : va_D A ((wX cI cZ h lev tm gn nL nC nE L B C E ++ [(qo, .inl (cJ, 1, .inr (.inl o)))]) ++ (wM cI cZ g 1 lev tm gn nL nC nE L B C F ys ao)) := hD
  refine lv_iload hx hb dL_law_261 (lv_at hl 1 rfl) ?_
  refine zn_eq (i := 1) (j := 1) (tgt := 268) hx hb (by omega) (by omega) dL_law_263 (by decide) (fun c263 => ?_) (fun c263 => ?_)
  · skip
    refine lv_iload hx hb dL_law_268 (lv_at hl 1 rfl) ?_
    refine lv_if_ne (x := 1) (tgt := 285) hx hb dL_law_270 (by decide) (fun c270 => ?_) (fun c270 => ?_)
    · skip
      refine lv_goto (tgt := 1117) hx hb dL_law_285 (by decide) ?_
      exact kk H locs ls (lv_sub hl [2, 3, 4, 5, 6] rfl) hP hD hS
    · exact absurd c270 (by decide)
  · exact absurd c263 (by omega)


set_option maxHeartbeats 4000000 in
set_option maxRecDepth 100000 in
theorem law_call_xe {p : Program} {l : Launch} {e : Env} {s : State} {m : MethodId} {below : List Frame} {meth : Method} {c : Code} {Q : State → Prop} {sb Ln : Nat} {xs : Nat → Int32} {D : va_G} {cI cZ cJ : ClassId} {A : Nat → Prop} {sa : Nat → Nat} (cx : zCx p l s m meth c sb Ln xs D cI cZ cJ A sa) (h g : Nat → Nat) (lev tm : Nat) (gn : Int32) (nL nC nE : Nat) (L B C E F : Nat → Nat → Int32) (qo : Nat) (o : Nat → Int64) (cd : Int32) (ys ao : Nat → Int32) (i : Nat) (hi : i + 5 ≤ Ln) (a b rk q : Int32) (h1 : inB a 0 (nI lev - 1) = true) (h2 : inB b 0 (nI lev - 1) = true) (h4 : inB rk 1 3 = true) (h5 : inB q 1 50 = true) (hno : a = b) (hL : nL ≤ 4) (hC : nC ≤ 24) (m_hno : ((((inB a 0 (nI lev - 1) && inB b 0 (nI lev - 1)) && !decide (a = b)) && inB rk 1 3) && inB q 1 50) = false) (e1 : xs (i + 1) = a) (e2 : xs (i + 2) = b) (e3 : xs (i + 3) = rk) (e4 : xs (i + 4) = q) {H : Heap} {locs : List Loc} {cells slots : Nat} {ls : Array Slot} (hl : lv_has ls 7 [(0, .ref sb), (1, .ref (h 0)), (2, .ref (g 0)), (3, .ref qo), (4, .int (nI i))]) (hP : va_P D vwCl (wV cI cZ cJ h lev tm gn nL nC nE L B C E qo o ++ wM cI cZ g cd lev tm gn nL nC nE L B C F ys ao) H) (hD : va_D A (wV cI cZ cJ h lev tm gn nL nC nE L B C E qo o ++ wM cI cZ g cd lev tm gn nL nC nE L B C F ys ao)) (hS : va_S A s.heap H locs) (hroom : cells + 1 ≤ room_1.cells ∧ slots + 6 ≤ room_1.slots) (kk : ∀ (H1 : Heap) (locs1 : List Loc) (ls1 : Array Slot), lv_has ls1 7 [(0, .ref sb), (1, .ref (h 0)), (2, .ref (g 0)), (3, .ref qo), (4, .int (nI i))] → va_P D vwCl (wX cI cZ h lev tm gn nL nC nE L B C E ++ [(qo, .inl (cJ, 1, .inr (.inl o)))] ++ wM cI cZ g 1 lev tm gn nL nC nE L B C F ys ao) H1 → va_D A (wX cI cZ h lev tm gn nL nC nE L B C E ++ [(qo, .inl (cJ, 1, .inr (.inl o)))] ++ wM cI cZ g 1 lev tm gn nL nC nE L B C F ys ao) → va_S A s.heap H1 locs1 → W p l e room_1 s m #[Value.ref sb] below meth c H1 locs1 (cells + 1) (slots + 6) Q (F0 m 1117 ls1 []))  : W p l e room_1 s m #[Value.ref sb] below meth c H locs cells slots Q (F0 m 196 ls []) := by
  obtain ⟨hx, hb, hr9, hml, hlocks, hown, htsO, hK, hE, hX, hN, hA, hXs, hbl, hbA, hl9, hLn⟩ := cx
  have hts : ∀ w ∈ wsL_law, w.before #[Value.ref sb] s = true := fun w h9 => htsO w (lawO_l h9)
  refine lv_aload_n hx hb dL_law_196 rfl (lv_at hl 1 rfl) ?_
  refine lv_aload_n hx hb dL_law_197 rfl (lv_at hl 0 rfl) ?_
  refine lv_iload hx hb dL_law_198 (lv_at hl 4 rfl) ?_
  refine lv_iconst (v := 1) hx hb dL_law_200 (by decide) ?_
  refine zn_add (i := i) (j := 1) hx hb dL_law_201 ?_
  refine z_sld (k := i + 1) (v := a) hx hb hXs hbl hbA hS (by omega) (by omega) e1 dL_law_202 ?_
  refine lv_aload_n hx hb dL_law_203 rfl (lv_at hl 0 rfl) ?_
  refine lv_iload hx hb dL_law_204 (lv_at hl 4 rfl) ?_
  refine lv_iconst (v := 2) hx hb dL_law_206 (by decide) ?_
  refine zn_add (i := i) (j := 2) hx hb dL_law_207 ?_
  refine z_sld (k := i + 2) (v := b) hx hb hXs hbl hbA hS (by omega) (by omega) e2 dL_law_208 ?_
  refine lv_aload_n hx hb dL_law_209 rfl (lv_at hl 0 rfl) ?_
  refine lv_iload hx hb dL_law_210 (lv_at hl 4 rfl) ?_
  refine lv_iconst (v := 3) hx hb dL_law_212 (by decide) ?_
  refine zn_add (i := i) (j := 3) hx hb dL_law_213 ?_
  refine z_sld (k := i + 3) (v := rk) hx hb hXs hbl hbA hS (by omega) (by omega) e3 dL_law_214 ?_
  refine lv_aload_n hx hb dL_law_215 rfl (lv_at hl 0 rfl) ?_
  refine lv_iload hx hb dL_law_216 (lv_at hl 4 rfl) ?_
  refine lv_iconst (v := 4) hx hb dL_law_218 (by decide) ?_
  refine zn_add (i := i) (j := 4) hx hb dL_law_219 ?_
  refine z_sld (k := i + 4) (v := q) hx hb hXs hbl hbA hS (by omega) (by omega) e4 dL_law_220 ?_
  refine lv_aload_n hx hb dL_law_221 rfl (lv_at hl 3 rfl) ?_
  refine z_backSi (wa := []) (w := (wV cI cZ cJ h lev tm gn nL nC nE L B C E qo o)) (wb := (wM cI cZ g cd lev tm gn nL nC nE L B C F ys ao)) (z_runSL (wa := []) (w := (wV cI cZ cJ h lev tm gn nL nC nE L B C E qo o)) (wb := (wM cI cZ g cd lev tm gn nL nC nE L B C F ys ao)) (n := 6) (As := [.ref (h 0), .int a, .int b, .int rk, .int q, .ref qo]) (rest := []) hx hb hml hown hts hK hE hX hN hS hA hP hD (tL_call_xe l D cI cZ cJ h lev tm gn nL nC nE L B C E a b rk q h1 h2 h4 h5 hno hL hC qo o sa hl9 _) gL_law_L_call rfl rfl rfl (by decide +kernel) ⟨Nat.le_of_ble_eq_true rfl, Nat.le_of_ble_eq_true rfl⟩ rfl hl.1 rfl (Nat.le_of_ble_eq_true rfl) dL_law_222 hroom) hP hD hS hA (fun r1 w1 H locs hp1 hP hD hS => ?_)
  obtain ⟨rfl, rfl⟩ := hp1
  have hP : va_P D vwCl ((wX cI cZ h lev tm gn nL nC nE L B C E ++ [(qo, .inl (cJ, 1, .inr (.inl o)))]) ++ (wM cI cZ g cd lev tm gn nL nC nE L B C F ys ao)) H := hP
  have hD : va_D A ((wX cI cZ h lev tm gn nL nC nE L B C E ++ [(qo, .inl (cJ, 1, .inr (.inl o)))]) ++ (wM cI cZ g cd lev tm gn nL nC nE L B C F ys ao)) := hD
  refine lv_istore (lv' := [(5, .int 1), (0, .ref sb), (1, .ref (h 0)), (2, .ref (g 0)), (3, .ref qo), (4, .int (nI i))]) hx hb dL_law_225 hl (by decide) rfl (fun ls hl => ?_)
  refine lv_aload_n hx hb dL_law_227 rfl (lv_at hl 3 rfl) ?_
  refine lv_aload_n hx hb dL_law_228 rfl (lv_at hl 1 rfl) ?_
  refine lv_iload hx hb dL_law_229 (lv_at hl 5 rfl) ?_
  refine lv_iconst (v := 1) hx hb dL_law_231 (by decide) ?_
  refine zn_add (i := i) (j := 1) hx hb dL_law_232 ?_
  refine z_sld (k := i + 1) (v := a) hx hb hXs hbl hbA hS (by omega) (by omega) e1 dL_law_233 ?_
  refine lv_aload_n hx hb dL_law_234 rfl (lv_at hl 1 rfl) ?_
  refine lv_iload hx hb dL_law_235 (lv_at hl 5 rfl) ?_
  refine lv_iconst (v := 2) hx hb dL_law_237 (by decide) ?_
  refine zn_add (i := i) (j := 2) hx hb dL_law_238 ?_
  refine z_sld (k := i + 2) (v := b) hx hb hXs hbl hbA hS (by omega) (by omega) e2 dL_law_239 ?_
  refine lv_aload_n hx hb dL_law_240 rfl (lv_at hl 1 rfl) ?_
  refine lv_iload hx hb dL_law_241 (lv_at hl 5 rfl) ?_
  refine lv_iconst (v := 3) hx hb dL_law_243 (by decide) ?_
  refine zn_add (i := i) (j := 3) hx hb dL_law_244 ?_
  refine z_sld (k := i + 3) (v := rk) hx hb hXs hbl hbA hS (by omega) (by omega) e3 dL_law_245 ?_
  refine lv_aload_n hx hb dL_law_246 rfl (lv_at hl 1 rfl) ?_
  refine lv_iload hx hb dL_law_247 (lv_at hl 5 rfl) ?_
  refine lv_iconst (v := 4) hx hb dL_law_249 (by decide) ?_
  refine zn_add (i := i) (j := 4) hx hb dL_law_250 ?_
  refine z_sld (k := i + 4) (v := q) hx hb hXs hbl hbA hS (by omega) (by omega) e4 dL_law_251 ?_
  refine z_backTi (wa := (wX cI cZ h lev tm gn nL nC nE L B C E ++ [(qo, .inl (cJ, 1, .inr (.inl o)))])) (w := (wM cI cZ g cd lev tm gn nL nC nE L B C F ys ao)) (z_runVT (wa := (wX cI cZ h lev tm gn nL nC nE L B C E ++ [(qo, .inl (cJ, 1, .inr (.inl o)))])) (w := (wM cI cZ g cd lev tm gn nL nC nE L B C F ys ao)) (n := 4) (As := [.int a, .int b, .int rk, .int q]) (ci := 5) (rest := []) hx hb hml hown hts hK hE hP hD (tX4_call_n1 l D cI cZ cJ g cd lev tm gn nL nC nE L B C F ys ao a b rk q m_hno _) gL_law_X4_call rfl rfl rfl (by decide +kernel) ⟨Nat.le_of_ble_eq_true rfl, Nat.le_of_ble_eq_true rfl⟩ rfl rfl rfl hl.1 rfl (Nat.le_of_ble_eq_true rfl) dL_law_252 hroom) hP hD hS hA (fun r2 w1 H locs hp2 hP hD hS => ?_)
  obtain ⟨rfl, rfl⟩ := hp2
  have hP : va_P D vwCl ((wX cI cZ h lev tm gn nL nC nE L B C E ++ [(qo, .inl (cJ, 1, .inr (.inl o)))]) ++ (wM cI cZ g 1 lev tm gn nL nC nE L B C F ys ao)) H := hP
  have hD : va_D A ((wX cI cZ h lev tm gn nL nC nE L B C E ++ [(qo, .inl (cJ, 1, .inr (.inl o)))]) ++ (wM cI cZ g 1 lev tm gn nL nC nE L B C F ys ao)) := hD
  refine lv_istore (lv' := [(6, .int 0), (5, .int 1), (0, .ref sb), (1, .ref (h 0)), (2, .ref (g 0)), (3, .ref qo), (4, .int (nI i))]) hx hb dL_law_255 hl (by decide) rfl (fun ls hl => ?_)
  refine lv_aload_n hx hb dL_law_257 rfl (lv_at hl 4 rfl) ?_
  refine z_backTi (wa := (wX cI cZ h lev tm gn nL nC nE L B C E ++ [(qo, .inl (cJ, 1, .inr (.inl o)))])) (w := (wM cI cZ g 1 lev tm gn nL nC nE L B C F ys ao)) (z_runVT (wa := (wX cI cZ h lev tm gn nL nC nE L B C E ++ [(qo, .inl (cJ, 1, .inr (.inl o)))])) (w := (wM cI cZ g 1 lev tm gn nL nC nE L B C F ys ao)) (n := 0) (As := []) (ci := 5) (rest := []) hx hb hml hown hts hK hE hP hD (tX4_thrown l D cI cZ cJ g 1 lev tm gn nL nC nE L B C F ys ao _) gL_law_X4_thrown rfl rfl rfl (by decide +kernel) ⟨Nat.le_of_ble_eq_true rfl, Nat.le_of_ble_eq_true rfl⟩ rfl rfl rfl hl.1 rfl (Nat.le_of_ble_eq_true rfl) dL_law_258 hroom) hP hD hS hA (fun r3 w1 H locs hp3 hP hD hS => ?_)
  obtain ⟨rfl, rfl⟩ := hp3
  have hP : va_P D vwCl ((wX cI cZ h lev tm gn nL nC nE L B C E ++ [(qo, .inl (cJ, 1, .inr (.inl o)))]) ++ (wM cI cZ g 1 lev tm gn nL nC nE L B C F ys ao)) H := hP
  have hD : va_D A ((wX cI cZ h lev tm gn nL nC nE L B C E ++ [(qo, .inl (cJ, 1, .inr (.inl o)))]) ++ (wM cI cZ g 1 lev tm gn nL nC nE L B C F ys ao)) := hD
  refine lv_iload hx hb dL_law_261 (lv_at hl 1 rfl) ?_
  refine zn_eq (i := 1) (j := 1) (tgt := 268) hx hb (by omega) (by omega) dL_law_263 (by decide) (fun c263 => ?_) (fun c263 => ?_)
  · skip
    refine lv_iload hx hb dL_law_268 (lv_at hl 1 rfl) ?_
    refine lv_if_ne (x := 1) (tgt := 285) hx hb dL_law_270 (by decide) (fun c270 => ?_) (fun c270 => ?_)
    · skip
      refine lv_goto (tgt := 1117) hx hb dL_law_285 (by decide) ?_
      exact kk H locs ls (lv_sub hl [2, 3, 4, 5, 6] rfl) hP hD hS
    · exact absurd c270 (by decide)
  · exact absurd c263 (by omega)


set_option maxHeartbeats 4000000 in
set_option maxRecDepth 100000 in
theorem law_freed {p : Program} {l : Launch} {e : Env} {s : State} {m : MethodId} {below : List Frame} {meth : Method} {c : Code} {Q : State → Prop} {sb Ln : Nat} {xs : Nat → Int32} {D : va_G} {cI cZ cJ : ClassId} {A : Nat → Prop} {sa : Nat → Nat} (cx : zCx p l s m meth c sb Ln xs D cI cZ cJ A sa) (h g : Nat → Nat) (lev tm : Nat) (gn : Int32) (nL nC nE : Nat) (L B C E F : Nat → Nat → Int32) (qo : Nat) (o : Nat → Int64) (cd : Int32) (ys ao : Nat → Int32) (i : Nat) (hi : i + 5 ≤ Ln) (hL : nL ≤ 4) (hC : nC ≤ 24) (hr : (gaF L B nL (-1) C nC).2 = (gmF L B nL (-1) C nC).2) {H : Heap} {locs : List Loc} {cells slots : Nat} {ls : Array Slot} (hl : lv_has ls 7 [(0, .ref sb), (1, .ref (h 0)), (2, .ref (g 0)), (3, .ref qo), (4, .int (nI i))]) (hP : va_P D vwCl (wV cI cZ cJ h lev tm gn nL nC nE L B C E qo o ++ wM cI cZ g cd lev tm gn nL nC nE L B C F ys ao) H) (hD : va_D A (wV cI cZ cJ h lev tm gn nL nC nE L B C E qo o ++ wM cI cZ g cd lev tm gn nL nC nE L B C F ys ao)) (hS : va_S A s.heap H locs) (hroom : cells + 1 ≤ room_1.cells ∧ slots + 6 ≤ room_1.slots) (kk : ∀ (H1 : Heap) (locs1 : List Loc) (ls1 : Array Slot), lv_has ls1 7 [(0, .ref sb), (1, .ref (h 0)), (2, .ref (g 0)), (3, .ref qo), (4, .int (nI i))] → va_P D vwCl (wX cI cZ h lev tm gn nL nC nE L B ((gaF L B nL (-1) C nC).1) E ++ [(qo, .inl (cJ, 1, .inr (.inl o)))] ++ wM cI cZ g 0 lev tm gn nL nC nE L B ((gmF L B nL (-1) C nC).1) F ys ao) H1 → va_D A (wX cI cZ h lev tm gn nL nC nE L B ((gaF L B nL (-1) C nC).1) E ++ [(qo, .inl (cJ, 1, .inr (.inl o)))] ++ wM cI cZ g 0 lev tm gn nL nC nE L B ((gmF L B nL (-1) C nC).1) F ys ao) → va_S A s.heap H1 locs1 → W p l e room_1 s m #[Value.ref sb] below meth c H1 locs1 (cells + 1) (slots + 6) Q (F0 m 1117 ls1 []))  : W p l e room_1 s m #[Value.ref sb] below meth c H locs cells slots Q (F0 m 768 ls []) := by
  obtain ⟨hx, hb, hr9, hml, hlocks, hown, htsO, hK, hE, hX, hN, hA, hXs, hbl, hbA, hl9, hLn⟩ := cx
  have hts : ∀ w ∈ wsL_law, w.before #[Value.ref sb] s = true := fun w h9 => htsO w (lawO_l h9)
  refine lv_aload_n hx hb dL_law_768 rfl (lv_at hl 1 rfl) ?_
  refine z_backSi (wa := []) (w := (wX cI cZ h lev tm gn nL nC nE L B C E)) (wb := ([(qo, .inl (cJ, 1, .inr (.inl o)))] ++ wM cI cZ g cd lev tm gn nL nC nE L B C F ys ao)) (z_runVS (wa := []) (w := (wX cI cZ h lev tm gn nL nC nE L B C E)) (wb := ([(qo, .inl (cJ, 1, .inr (.inl o)))] ++ wM cI cZ g cd lev tm gn nL nC nE L B C F ys ao)) (n := 0) (As := []) (ci := 4) (rest := []) hx hb hml hown hts hK hE hP hD (tX3_freed l D cI cZ cJ h lev tm gn nL nC nE L B C E hL hC _) gL_law_X3_freed rfl rfl rfl (by decide +kernel) ⟨Nat.le_of_ble_eq_true rfl, Nat.le_of_ble_eq_true rfl⟩ rfl rfl rfl hl.1 rfl (Nat.le_of_ble_eq_true rfl) dL_law_769 ⟨Nat.le_of_succ_le hroom.1, Nat.le_trans (Nat.le_add_right _ _) hroom.2⟩) hP hD hS hA (fun r1 w1 H locs hp1 hP hD hS => ?_)
  obtain ⟨rfl, rfl⟩ := hp1
  have hP : va_P D vwCl ((wX cI cZ h lev tm gn nL nC nE L B ((gaF L B nL (-1) C nC).1) E ++ [(qo, .inl (cJ, 1, .inr (.inl o)))]) ++ (wM cI cZ g cd lev tm gn nL nC nE L B C F ys ao)) H := hP
  have hD : va_D A ((wX cI cZ h lev tm gn nL nC nE L B ((gaF L B nL (-1) C nC).1) E ++ [(qo, .inl (cJ, 1, .inr (.inl o)))]) ++ (wM cI cZ g cd lev tm gn nL nC nE L B C F ys ao)) := hD
  refine lv_aload_n hx hb dL_law_772 rfl (lv_at hl 2 rfl) ?_
  refine z_backTi (wa := (wX cI cZ h lev tm gn nL nC nE L B ((gaF L B nL (-1) C nC).1) E ++ [(qo, .inl (cJ, 1, .inr (.inl o)))])) (w := (wM cI cZ g cd lev tm gn nL nC nE L B C F ys ao)) (z_runVT (wa := (wX cI cZ h lev tm gn nL nC nE L B ((gaF L B nL (-1) C nC).1) E ++ [(qo, .inl (cJ, 1, .inr (.inl o)))])) (w := (wM cI cZ g cd lev tm gn nL nC nE L B C F ys ao)) (n := 0) (As := []) (ci := 5) (rest := [.int ((gaF L B nL (-1) C nC).2)]) hx hb hml hown hts hK hE hP hD (tX4_freed l D cI cZ cJ g cd lev tm gn nL nC nE L B C F ys ao hL hC _) gL_law_X4_freed rfl rfl rfl (by decide +kernel) ⟨Nat.le_of_ble_eq_true rfl, Nat.le_of_ble_eq_true rfl⟩ rfl rfl rfl hl.1 rfl (Nat.le_of_ble_eq_true rfl) dL_law_773 ⟨Nat.le_of_succ_le hroom.1, Nat.le_trans (Nat.le_add_right _ _) hroom.2⟩) hP hD hS hA (fun r2 w1 H locs hp2 hP hD hS => ?_)
  obtain ⟨rfl, rfl⟩ := hp2
  have hP : va_P D vwCl ((wX cI cZ h lev tm gn nL nC nE L B ((gaF L B nL (-1) C nC).1) E ++ [(qo, .inl (cJ, 1, .inr (.inl o)))]) ++ (wM cI cZ g 0 lev tm gn nL nC nE L B ((gmF L B nL (-1) C nC).1) F ys ao)) H := hP
  have hD : va_D A ((wX cI cZ h lev tm gn nL nC nE L B ((gaF L B nL (-1) C nC).1) E ++ [(qo, .inl (cJ, 1, .inr (.inl o)))]) ++ (wM cI cZ g 0 lev tm gn nL nC nE L B ((gmF L B nL (-1) C nC).1) F ys ao)) := hD
  refine lv_icmp_eq (x := (gaF L B nL (-1) C nC).2) (y := (gmF L B nL (-1) C nC).2) (tgt := 1117) hx hb dL_law_776 (by decide) (fun c776 => ?_) (fun c776 => ?_)
  · skip
    refine W.widen (k := cells + 1) (n := slots + 6) (Nat.le_add_right _ _) (Nat.le_add_right _ _) ?_
    exact kk H locs ls (lv_sub hl [0, 1, 2, 3, 4] rfl) hP hD hS
  · exact absurd hr c776
