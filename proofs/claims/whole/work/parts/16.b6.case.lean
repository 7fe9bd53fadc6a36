
set_option maxHeartbeats 4000000 in
set_option maxRecDepth 100000 in
theorem law_count {p : Program} {l : Launch} {e : Env} {s : State} {m : MethodId} {below : List Frame} {meth : Method} {c : Code} {Q : State → Prop} {sb Ln : Nat} {xs : Nat → Int32} {D : va_G} {cI cZ cJ : ClassId} {A : Nat → Prop} {sa : Nat → Nat} (cx : zCx p l s m meth c sb Ln xs D cI cZ cJ A sa) (h g : Nat → Nat) (lev tm : Nat) (gn : Int32) (nL nC nE : Nat) (L B C E F : Nat → Nat → Int32) (qo : Nat) (o : Nat → Int64) (cd : Int32) (ys ao : Nat → Int32) (i : Nat) (hi : i + 5 ≤ Ln) (u : Int32) (hL : nL ≤ 4) (hC : nC ≤ 24) (e1 : xs (i + 1) = u) (hr : ctX lev tm gn nL nC nE C u = cnI lev tm gn nL nC nE C u) {H : Heap} {locs : List Loc} {cells slots : Nat} {ls : Array Slot} (hl : lv_has ls 7 [(0, .ref sb), (1, .ref (h 0)), (2, .ref (g 0)), (3, .ref qo), (4, .int (nI i))]) (hP : va_P D vwCl (wV cI cZ cJ h lev tm gn nL nC nE L B C E qo o ++ wM cI cZ g cd lev tm gn nL nC nE L B C F ys ao) H) (hD : va_D A (wV cI cZ cJ h lev tm gn nL nC nE L B C E qo o ++ wM cI cZ g cd lev tm gn nL nC nE L B C F ys ao)) (hS : va_S A s.heap H locs) (hroom : cells + 1 ≤ room_1.cells ∧ slots + 6 ≤ room_1.slots) (kk : ∀ (H1 : Heap) (locs1 : List Loc) (ls1 : Array Slot), lv_has ls1 7 [(0, .ref sb), (1, .ref (h 0)), (2, .ref (g 0)), (3, .ref qo), (4, .int (nI i))] → va_P D vwCl (wX cI cZ h lev tm gn nL nC nE L B C E ++ [(qo, .inl (cJ, 1, .inr (.inl o)))] ++ wM cI cZ g 0 lev tm gn nL nC nE L B C F ys ao) H1 → va_D A (wX cI cZ h lev tm gn nL nC nE L B C E ++ [(qo, .inl (cJ, 1, .inr (.inl o)))] ++ wM cI cZ g 0 lev tm gn nL nC nE L B C F ys ao) → va_S A s.heap H1 locs1 → W p l e room_1 s m #[Value.ref sb] below meth c H1 locs1 (cells + 1) (slots + 6) Q (F0 m 1117 ls1 []))  : W p l e room_1 s m #[Value.ref sb] below meth c H locs cells slots Q (F0 m 1092 ls []) := by
  obtain ⟨hx, hb, hr9, hml, hlocks, hown, htsO, hK, hE, hX, hN, hA, hXs, hbl, hbA, hl9, hLn⟩ := cx
  have hts : ∀ w ∈ wsL_law, w.before #[Value.ref sb] s = true := fun w h9 => htsO w (lawO_l h9)
  refine lv_aload_n hx hb dL_law_1092 rfl (lv_at hl 1 rfl) ?_
  refine lv_aload_n hx hb dL_law_1093 rfl (lv_at hl 0 rfl) ?_
  refine lv_iload hx hb dL_law_1094 (lv_at hl 4 rfl) ?_
  refine lv_iconst (v := 1) hx hb dL_law_1096 (by decide) ?_
  refine zn_add (i := i) (j := 1) hx hb dL_law_1097 ?_
  refine z_sld (k := i + 1) (v := u) hx hb hXs hbl hbA hS (by omega) (by omega) e1 dL_law_1098 ?_
  refine z_backSi (wa := []) (w := (wX cI cZ h lev tm gn nL nC nE L B C E)) (wb := ([(qo, .inl (cJ, 1, .inr (.inl o)))] ++ wM cI cZ g cd lev tm gn nL nC nE L B C F ys ao)) (z_runVS (wa := []) (w := (wX cI cZ h lev tm gn nL nC nE L B C E)) (wb := ([(qo, .inl (cJ, 1, .inr (.inl o)))] ++ wM cI cZ g cd lev tm gn nL nC nE L B C F ys ao)) (n := 1) (As := [.int u]) (ci := 4) (rest := []) hx hb hml hown hts hK hE hP hD (tX3_count l D cI cZ cJ h lev tm gn nL nC nE L B C E u hL hC _) gL_law_X3_count rfl rfl rfl (by decide +kernel) ⟨Nat.le_of_ble_eq_true rfl, Nat.le_of_ble_eq_true rfl⟩ rfl rfl rfl hl.1 rfl (Nat.le_of_ble_eq_true rfl) dL_law_1099 ⟨Nat.le_of_succ_le hroom.1, Nat.le_trans (Nat.le_add_right _ _) hroom.2⟩) hP hD hS hA (fun r1 w1 H locs hp1 hP hD hS => ?_)
  obtain ⟨rfl, rfl⟩ := hp1
  have hP : va_P D vwCl ((wX cI cZ h lev tm gn nL nC nE L B C E ++ [(qo, .inl (cJ, 1, .inr (.inl o)))]) ++ (wM cI cZ g cd lev tm gn nL nC nE L B C F ys ao)) H := hP
  have hD : va_D A ((wX cI cZ h lev tm gn nL nC nE L B C E ++ [(qo, .inl (cJ, 1, .inr (.inl o)))]) ++ (wM cI cZ g cd lev tm gn nL nC nE L B C F ys ao)) := hD
  refine lv_aload_n hx hb dL_law_1102 rfl (lv_at hl 2 rfl) ?_
  refine lv_aload_n hx hb dL_law_1103 rfl (lv_at hl 0 rfl) ?_
  refine lv_iload hx hb dL_law_1104 (lv_at hl 4 rfl) ?_
  refine lv_iconst (v := 1) hx hb dL_law_1106 (by decide) ?_
  refine zn_add (i := i) (j := 1) hx hb dL_law_1107 ?_
  refine z_sld (k := i + 1) (v := u) hx hb hXs hbl hbA hS (by omega) (by omega) e1 dL_law_1108 ?_
  refine z_backTi (wa := (wX cI cZ h lev tm gn nL nC nE L B C E ++ [(qo, .inl (cJ, 1, .inr (.inl o)))])) (w := (wM cI cZ g cd lev tm gn nL nC nE L B C F ys ao)) (z_runVT (wa := (wX cI cZ h lev tm gn nL nC nE L B C E ++ [(qo, .inl (cJ, 1, .inr (.inl o)))])) (w := (wM cI cZ g cd lev tm gn nL nC nE L B C F ys ao)) (n := 1) (As := [.int u]) (ci := 5) (rest := [.int (ctX lev tm gn nL nC nE C u)]) hx hb hml hown hts hK hE hP hD (tX4_count l D cI cZ cJ g cd lev tm gn nL nC nE L B C F ys ao u hC _) gL_law_X4_count rfl rfl rfl (by decide +kernel) ⟨Nat.le_of_ble_eq_true rfl, Nat.le_of_ble_eq_true rfl⟩ rfl rfl rfl hl.1 rfl (Nat.le_of_ble_eq_true rfl) dL_law_1109 ⟨Nat.le_of_succ_le hroom.1, Nat.le_trans (Nat.le_add_right _ _) hroom.2⟩) hP hD hS hA (fun r2 w1 H locs hp2 hP hD hS => ?_)
  obtain ⟨rfl, rfl⟩ := hp2
  have hP : va_P D vwCl ((wX cI cZ h lev tm gn nL nC nE L B C E ++ [(qo, .inl (cJ, 1, .inr (.inl o)))]) ++ (wM cI cZ g 0 lev tm gn nL nC nE L B C F ys ao)) H := hP
  have hD : va_D A ((wX cI cZ h lev tm gn nL nC nE L B C E ++ [(qo, .inl (cJ, 1, .inr (.inl o)))]) ++ (wM cI cZ g 0 lev tm gn nL nC nE L B C F ys ao)) := hD
  refine lv_icmp_eq (x := ctX lev tm gn nL nC nE C u) (y := cnI lev tm gn nL nC nE C u) (tgt := 1117) hx hb dL_law_1112 (by decide) (fun c1112 => ?_) (fun c1112 => ?_)
  · skip
    refine W.widen (k := cells + 1) (n := slots + 6) (Nat.le_add_right _ _) (Nat.le_add_right _ _) ?_
    exact kk H locs ls (lv_sub hl [0, 1, 2, 3, 4] rfl) hP hD hS
  · exact absurd hr c1112
