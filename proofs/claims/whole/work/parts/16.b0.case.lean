
set_option maxHeartbeats 4000000 in
set_option maxRecDepth 100000 in
theorem law_lift_ok {p : Program} {l : Launch} {e : Env} {s : State} {m : MethodId} {below : List Frame} {meth : Method} {c : Code} {Q : State → Prop} {sb Ln : Nat} {xs : Nat → Int32} {D : va_G} {cI cZ cJ : ClassId} {A : Nat → Prop} {sa : Nat → Nat} (cx : zCx p l s m meth c sb Ln xs D cI cZ cJ A sa) (h g : Nat → Nat) (lev tm : Nat) (gn : Int32) (nL nC nE : Nat) (L B C E F : Nat → Nat → Int32) (qo : Nat) (o : Nat → Int64) (cd : Int32) (ys ao : Nat → Int32) (i : Nat) (hi : i + 5 ≤ Ln) (v u : Int32) (h1 : inB v 0 (nI lev - 1) = true) (h2 : inB u 1 50 = true) (h4 : nL < 4) (m_h1 : inB v 0 (nI lev - 1) = true) (m_h2 : inB u 1 50 = true) (m_h4 : nL < 4) (e1 : xs (i + 1) = v) (e2 : xs (i + 2) = u) (hr : nI nL = nI nL) {H : Heap} {locs : List Loc} {cells slots : Nat} {ls : Array Slot} (hl : lv_has ls 7 [(0, .ref sb), (1, .ref (h 0)), (2, .ref (g 0)), (3, .ref qo), (4, .int (nI i))]) (hP : va_P D vwCl (wV cI cZ cJ h lev tm gn nL nC nE L B C E qo o ++ wM cI cZ g cd lev tm gn nL nC nE L B C F ys ao) H) (hD : va_D A (wV cI cZ cJ h lev tm gn nL nC nE L B C E qo o ++ wM cI cZ g cd lev tm gn nL nC nE L B C F ys ao)) (hS : va_S A s.heap H locs) (hroom : cells + 1 ≤ room_1.cells ∧ slots + 6 ≤ room_1.slots) (kk : ∀ (H1 : Heap) (locs1 : List Loc) (ls1 : Array Slot), lv_has ls1 7 [(0, .ref sb), (1, .ref (h 0)), (2, .ref (g 0)), (3, .ref qo), (4, .int (nI i))] → va_P D vwCl (wX cI cZ h lev tm gn (nL + 1) nC nE (upC (upC L 0 nL v) 1 nL u) B C E ++ [(qo, .inl (cJ, 1, .inr (.inl (vp_updL o 0 (nI nL).toInt64))))] ++ wM cI cZ g 0 lev tm gn (nL + 1) nC nE (upC (upC L 0 nL v) 1 nL u) B C F ys ao) H1 → va_D A (wX cI cZ h lev tm gn (nL + 1) nC nE (upC (upC L 0 nL v) 1 nL u) B C E ++ [(qo, .inl (cJ, 1, .inr (.inl (vp_updL o 0 (nI nL).toInt64))))] ++ wM cI cZ g 0 lev tm gn (nL + 1) nC nE (upC (upC L 0 nL v) 1 nL u) B C F ys ao) → va_S A s.heap H1 locs1 → W p l e room_1 s m #[Value.ref sb] below meth c H1 locs1 (cells + 1) (slots + 6) Q (F0 m 1117 ls1 []))  : W p l e room_1 s m #[Value.ref sb] below meth c H locs cells slots Q (F0 m 128 ls []) := by
  obtain ⟨hx, hb, hr9, hml, hlocks, hown, htsO, hK, hE, hX, hN, hA, hXs, hbl, hbA, hl9, hLn⟩ := cx
  have hts : ∀ w ∈ wsL_law, w.before #[Value.ref sb] s = true := fun w h9 => htsO w (lawO_l h9)
  refine lv_aload_n hx hb dL_law_128 rfl (lv_at hl 1 rfl) ?_
  refine lv_aload_n hx hb dL_law_129 rfl (lv_at hl 0 rfl) ?_
  refine lv_iload hx hb dL_law_130 (lv_at hl 4 rfl) ?_
  refine lv_iconst (v := 1) hx hb dL_law_132 (by decide) ?_
  refine zn_add (i := i) (j := 1) hx hb dL_law_133 ?_
  refine z_sld (k := i + 1) (v := v) hx hb hXs hbl hbA hS (by omega) (by omega) e1 dL_law_134 ?_
  refine lv_aload_n hx hb dL_law_135 rfl (lv_at hl 0 rfl) ?_
  refine lv_iload hx hb dL_law_136 (lv_at hl 4 rfl) ?_
  refine lv_iconst (v := 2) hx hb dL_law_138 (by decide) ?_
  refine zn_add (i := i) (j := 2) hx hb dL_law_139 ?_
  refine z_sld (k := i + 2) (v := u) hx hb hXs hbl hbA hS (by omega) (by omega) e2 dL_law_140 ?_
  refine lv_aload_n hx hb dL_law_141 rfl (lv_at hl 3 rfl) ?_
  refine z_backSi (wa := []) (w := (wV cI cZ cJ h lev tm gn nL nC nE L B C E qo o)) (wb := (wM cI cZ g cd lev tm gn nL nC nE L B C F ys ao)) (z_runSL (wa := []) (w := (wV cI cZ cJ h lev tm gn nL nC nE L B C E qo o)) (wb := (wM cI cZ g cd lev tm gn nL nC nE L B C F ys ao)) (n := 4) (As := [.ref (h 0), .int v, .int u, .ref qo]) (rest := []) hx hb hml hown hts hK hE hX hN hS hA hP hD (tL_lift_ok l D cI cZ cJ h lev tm gn nL nC nE L B C E v u h1 h2 h4 qo o sa _) gL_law_L_lift rfl rfl rfl (by decide +kernel) ⟨Nat.le_of_ble_eq_true rfl, Nat.le_of_ble_eq_true rfl⟩ rfl hl.1 rfl (Nat.le_of_ble_eq_true rfl) dL_law_142 hroom) hP hD hS hA (fun r1 w1 H locs hp1 hP hD hS => ?_)
  obtain ⟨rfl, rfl⟩ := hp1
  have hP : va_P D vwCl ((wX cI cZ h lev tm gn (nL + 1) nC nE (upC (upC L 0 nL v) 1 nL u) B C E ++ [(qo, .inl (cJ, 1, .inr (.inl (vp_updL o 0 (nI nL).toInt64))))]) ++ (wM cI cZ g cd lev tm gn nL nC nE L B C F ys ao)) H := hP
  have hD : va_D A ((wX cI cZ h lev tm gn (nL + 1) nC nE (upC (upC L 0 nL v) 1 nL u) B C E ++ [(qo, .inl (cJ, 1, .inr (.inl (vp_updL o 0 (nI nL).toInt64))))]) ++ (wM cI cZ g cd lev tm gn nL nC nE L B C F ys ao)) := hD
  refine lv_istore (lv' := [(5, .int 0), (0, .ref sb), (1, .ref (h 0)), (2, .ref (g 0)), (3, .ref qo), (4, .int (nI i))]) hx hb dL_law_145 hl (by decide) rfl (fun ls hl => ?_)
  refine lv_aload_n hx hb dL_law_147 rfl (lv_at hl 3 rfl) ?_
  refine lv_aload_n hx hb dL_law_148 rfl (lv_at hl 1 rfl) ?_
  refine lv_iload hx hb dL_law_149 (lv_at hl 5 rfl) ?_
  refine lv_iconst (v := 1) hx hb dL_law_151 (by decide) ?_
  refine zn_add (i := i) (j := 1) hx hb dL_law_152 ?_
  refine z_sld (k := i + 1) (v := v) hx hb hXs hbl hbA hS (by omega) (by omega) e1 dL_law_153 ?_
  refine lv_aload_n hx hb dL_law_154 rfl (lv_at hl 1 rfl) ?_
  refine lv_iload hx hb dL_law_155 (lv_at hl 5 rfl) ?_
  refine lv_iconst (v := 2) hx hb dL_law_157 (by decide) ?_
  refine zn_add (i := i) (j := 2) hx hb dL_law_158 ?_
  refine z_sld (k := i + 2) (v := u) hx hb hXs hbl hbA hS (by omega) (by omega) e2 dL_law_159 ?_
  refine z_backTi (wa := (wX cI cZ h lev tm gn (nL + 1) nC nE (upC (upC L 0 nL v) 1 nL u) B C E ++ [(qo, .inl (cJ, 1, .inr (.inl (vp_updL o 0 (nI nL).toInt64))))])) (w := (wM cI cZ g cd lev tm gn nL nC nE L B C F ys ao)) (z_runVT (wa := (wX cI cZ h lev tm gn (nL + 1) nC nE (upC (upC L 0 nL v) 1 nL u) B C E ++ [(qo, .inl (cJ, 1, .inr (.inl (vp_updL o 0 (nI nL).toInt64))))])) (w := (wM cI cZ g cd lev tm gn nL nC nE L B C F ys ao)) (n := 2) (As := [.int v, .int u]) (ci := 5) (rest := []) hx hb hml hown hts hK hE hP hD (tX4_lift_ok l D cI cZ cJ g cd lev tm gn nL nC nE L B C F ys ao v u m_h1 m_h2 m_h4 _) gL_law_X4_lift rfl rfl rfl (by decide +kernel) ⟨Nat.le_of_ble_eq_true rfl, Nat.le_of_ble_eq_true rfl⟩ rfl rfl rfl hl.1 rfl (Nat.le_of_ble_eq_true rfl) dL_law_160 hroom) hP hD hS hA (fun r2 w1 H locs hp2 hP hD hS => ?_)
  obtain ⟨rfl, rfl⟩ := hp2
  have hP : va_P D vwCl ((wX cI cZ h lev tm gn (nL + 1) nC nE (upC (upC L 0 nL v) 1 nL u) B C E ++ [(qo, .inl (cJ, 1, .inr (.inl (vp_updL o 0 (nI nL).toInt64))))]) ++ (wM cI cZ g 0 lev tm gn (nL + 1) nC nE (upC (upC L 0 nL v) 1 nL u) B C F ys ao)) H := hP
  have hD : va_D A ((wX cI cZ h lev tm gn (nL + 1) nC nE (upC (upC L 0 nL v) 1 nL u) B C E ++ [(qo, .inl (cJ, 1, .inr (.inl (vp_updL o 0 (nI nL).toInt64))))]) ++ (wM cI cZ g 0 lev tm gn (nL + 1) nC nE (upC (upC L 0 nL v) 1 nL u) B C F ys ao)) := hD
  refine lv_istore (lv' := [(6, .int (nI nL)), (5, .int 0), (0, .ref sb), (1, .ref (h 0)), (2, .ref (g 0)), (3, .ref qo), (4, .int (nI i))]) hx hb dL_law_163 hl (by decide) rfl (fun ls hl => ?_)
  refine lv_aload_n hx hb dL_law_165 rfl (lv_at hl 4 rfl) ?_
  refine z_backTi (wa := (wX cI cZ h lev tm gn (nL + 1) nC nE (upC (upC L 0 nL v) 1 nL u) B C E ++ [(qo, .inl (cJ, 1, .inr (.inl (vp_updL o 0 (nI nL).toInt64))))])) (w := (wM cI cZ g 0 lev tm gn (nL + 1) nC nE (upC (upC L 0 nL v) 1 nL u) B C F ys ao)) (z_runVT (wa := (wX cI cZ h lev tm gn (nL + 1) nC nE (upC (upC L 0 nL v) 1 nL u) B C E ++ [(qo, .inl (cJ, 1, .inr (.inl (vp_updL o 0 (nI nL).toInt64))))])) (w := (wM cI cZ g 0 lev tm gn (nL + 1) nC nE (upC (upC L 0 nL v) 1 nL u) B C F ys ao)) (n := 0) (As := []) (ci := 5) (rest := []) hx hb hml hown hts hK hE hP hD (tX4_thrown l D cI cZ cJ g 0 lev tm gn (nL + 1) nC nE (upC (upC L 0 nL v) 1 nL u) B C F ys ao _) gL_law_X4_thrown rfl rfl rfl (by decide +kernel) ⟨Nat.le_of_ble_eq_true rfl, Nat.le_of_ble_eq_true rfl⟩ rfl rfl rfl hl.1 rfl (Nat.le_of_ble_eq_true rfl) dL_law_166 hroom) hP hD hS hA (fun r3 w1 H locs hp3 hP hD hS => ?_)
  obtain ⟨rfl, rfl⟩ := hp3
  have hP : va_P D vwCl ((wX cI cZ h lev tm gn (nL + 1) nC nE (upC (upC L 0 nL v) 1 nL u) B C E ++ [(qo, .inl (cJ, 1, .inr (.inl (vp_updL o 0 (nI nL).toInt64))))]) ++ (wM cI cZ g 0 lev tm gn (nL + 1) nC nE (upC (upC L 0 nL v) 1 nL u) B C F ys ao)) H := hP
  have hD : va_D A ((wX cI cZ h lev tm gn (nL + 1) nC nE (upC (upC L 0 nL v) 1 nL u) B C E ++ [(qo, .inl (cJ, 1, .inr (.inl (vp_updL o 0 (nI nL).toInt64))))]) ++ (wM cI cZ g 0 lev tm gn (nL + 1) nC nE (upC (upC L 0 nL v) 1 nL u) B C F ys ao)) := hD
  refine lv_iload hx hb dL_law_169 (lv_at hl 1 rfl) ?_
  refine zn_eq (i := 0) (j := 0) (tgt := 176) hx hb (by omega) (by omega) dL_law_171 (by decide) (fun c171 => ?_) (fun c171 => ?_)
  · skip
    refine lv_iload hx hb dL_law_176 (lv_at hl 1 rfl) ?_
    refine lv_if_ne (x := 0) (tgt := 193) hx hb dL_law_178 (by decide) (fun c178 => ?_) (fun c178 => ?_)
    · exact absurd c178 (by decide)
    · skip
      refine lv_aload_n hx hb dL_law_181 rfl (lv_at hl 5 rfl) ?_
      refine lv_iconst (v := 0) hx hb dL_law_182 (by decide) ?_
      refine z_lald0 hx hb hK hP 24 rfl dL_law_183 ?_
      refine lv_iload hx hb dL_law_184 (lv_at hl 0 rfl) ?_
      refine lv_i2l (v := (nI nL).toInt64) hx hb dL_law_186 rfl ?_
      refine W.lcmp (x := (vp_updL o 0 (nI nL).toInt64) 0) (y := (nI nL).toInt64) hx hb dL_law_187 ?_
      refine z_top (lg_eq hr) ?_
      refine lv_if_eq (x := 0) (tgt := 193) hx hb dL_law_188 (by decide) (fun c188 => ?_) (fun c188 => ?_)
      · skip
        refine lv_goto (tgt := 1117) hx hb dL_law_193 (by decide) ?_
        exact kk H locs ls (lv_sub hl [2, 3, 4, 5, 6] rfl) hP hD hS
      · exact absurd c188 (by decide)
  · exact absurd c171 (by omega)


set_option maxHeartbeats 4000000 in
set_option maxRecDepth 100000 in
theorem law_lift_xa {p : Program} {l : Launch} {e : Env} {s : State} {m : MethodId} {below : List Frame} {meth : Method} {c : Code} {Q : State → Prop} {sb Ln : Nat} {xs : Nat → Int32} {D : va_G} {cI cZ cJ : ClassId} {A : Nat → Prop} {sa : Nat → Nat} (cx : zCx p l s m meth c sb Ln xs D cI cZ cJ A sa) (h g : Nat → Nat) (lev tm : Nat) (gn : Int32) (nL nC nE : Nat) (L B C E F : Nat → Nat → Int32) (qo : Nat) (o : Nat → Int64) (cd : Int32) (ys ao : Nat → Int32) (i : Nat) (hi : i + 5 ≤ Ln) (v u : Int32) (hno : inB v 0 (nI lev - 1) = false) (hL : nL ≤ 4) (hC : nC ≤ 24) (m_hno : (inB v 0 (nI lev - 1) && inB u 1 50) = false) (e1 : xs (i + 1) = v) (e2 : xs (i + 2) = u) {H : Heap} {locs : List Loc} {cells slots : Nat} {ls : Array Slot} (hl : lv_has ls 7 [(0, .ref sb), (1, .ref (h 0)), (2, .ref (g 0)), (3, .ref qo), (4, .int (nI i))]) (hP : va_P D vwCl (wV cI cZ cJ h lev tm gn nL nC nE L B C E qo o ++ wM cI cZ g cd lev tm gn nL nC nE L B C F ys ao) H) (hD : va_D A (wV cI cZ cJ h lev tm gn nL nC nE L B C E qo o ++ wM cI cZ g cd lev tm gn nL nC nE L B C F ys ao)) (hS : va_S A s.heap H locs) (hroom : cells + 1 ≤ room_1.cells ∧ slots + 6 ≤ room_1.slots) (kk : ∀ (H1 : Heap) (locs1 : List Loc) (ls1 : Array Slot), lv_has ls1 7 [(0, .ref sb), (1, .ref (h 0)), (2, .ref (g 0)), (3, .ref qo), (4, .int (nI i))] → va_P D vwCl (wX cI cZ h lev tm gn nL nC nE L B C E ++ [(qo, .inl (cJ, 1, .inr (.inl o)))] ++ wM cI cZ g 1 lev tm gn nL nC nE L B C F ys ao) H1 → va_D A (wX cI cZ h lev tm gn nL nC nE L B C E ++ [(qo, .inl (cJ, 1, .inr (.inl o)))] ++ wM cI cZ g 1 lev tm gn nL nC nE L B C F ys ao) → va_S A s.heap H1 locs1 → W p l e room_1 s m #[Value.ref sb] below meth c H1 locs1 (cells + 1) (slots + 6) Q (F0 m 1117 ls1 []))  : W p l e room_1 s m #[Value.ref sb] below meth c H locs cells slots Q (F0 m 128 ls []) := by
  obtain ⟨hx, hb, hr9, hml, hlocks, hown, htsO, hK, hE, hX, hN, hA, hXs, hbl, hbA, hl9, hLn⟩ := cx
  have hts : ∀ w ∈ wsL_law, w.before #[Value.ref sb] s = true := fun w h9 => htsO w (lawO_l h9)
  refine lv_aload_n hx hb dL_law_128 rfl (lv_at hl 1 rfl) ?_
  refine lv_aload_n hx hb dL_law_129 rfl (lv_at hl 0 rfl) ?_
  refine lv_iload hx hb dL_law_130 (lv_at hl 4 rfl) ?_
  refine lv_iconst (v := 1) hx hb dL_law_132 (by decide) ?_
  refine zn_add (i := i) (j := 1) hx hb dL_law_133 ?_
  refine z_sld (k := i + 1) (v := v) hx hb hXs hbl hbA hS (by omega) (by omega) e1 dL_law_134 ?_
  refine lv_aload_n hx hb dL_law_135 rfl (lv_at hl 0 rfl) ?_
  refine lv_iload hx hb dL_law_136 (lv_at hl 4 rfl) ?_
  refine lv_iconst (v := 2) hx hb dL_law_138 (by decide) ?_
  refine zn_add (i := i) (j := 2) hx hb dL_law_139 ?_
  refine z_sld (k := i + 2) (v := u) hx hb hXs hbl hbA hS (by omega) (by omega) e2 dL_law_140 ?_
  refine lv_aload_n hx hb dL_law_141 rfl (lv_at hl 3 rfl) ?_
  refine z_backSi (wa := []) (w := (wV cI cZ cJ h lev tm gn nL nC nE L B C E qo o)) (wb := (wM cI cZ g cd lev tm gn nL nC nE L B C F ys ao)) (z_runSL (wa := []) (w := (wV cI cZ cJ h lev tm gn nL nC nE L B C E qo o)) (wb := (wM cI cZ g cd lev tm gn nL nC nE L B C F ys ao)) (n := 4) (As := [.ref (h 0), .int v, .int u, .ref qo]) (rest := []) hx hb hml hown hts hK hE hX hN hS hA hP hD (tL_lift_xa l D cI cZ cJ h lev tm gn nL nC nE L B C E v u hno hL hC qo o sa hl9 _) gL_law_L_lift rfl rfl rfl (by decide +kernel) ⟨Nat.le_of_ble_eq_true rfl, Nat.le_of_ble_eq_true rfl⟩ rfl hl.1 rfl (Nat.le_of_ble_eq_true rfl) dL_law_142 hroom) hP hD hS hA (fun r1 w1 H locs hp1 hP hD hS => ?_)
  obtain ⟨rfl, rfl⟩ := hp1
  have hP : va_P D vwCl ((wX cI cZ h lev tm gn nL nC nE L B C E ++ [(qo, .inl (cJ, 1, .inr (.inl o)))]) ++ (wM cI cZ g cd lev tm gn nL nC nE L B C F ys ao)) H := hP
  have hD : va_D A ((wX cI cZ h lev tm gn nL nC nE L B C E ++ [(qo, .inl (cJ, 1, .inr (.inl o)))]) ++ (wM cI cZ g cd lev tm gn nL nC nE L B C F ys ao)) := hD
  refine lv_istore (lv' := [(5, .int 1), (0, .ref sb), (1, .ref (h 0)), (2, .ref (g 0)), (3, .ref qo), (4, .int (nI i))]) hx hb dL_law_145 hl (by decide) rfl (fun ls hl => ?_)
  refine lv_aload_n hx hb dL_law_147 rfl (lv_at hl 3 rfl) ?_
  refine lv_aload_n hx hb dL_law_148 rfl (lv_at hl 1 rfl) ?_
  refine lv_iload hx hb dL_law_149 (lv_at hl 5 rfl) ?_
  refine lv_iconst (v := 1) hx hb dL_law_151 (by decide) ?_
  refine zn_add (i := i) (j := 1) hx hb dL_law_152 ?_
  refine z_sld (k := i + 1) (v := v) hx hb hXs hbl hbA hS (by omega) (by omega) e1 dL_law_153 ?_
  refine lv_aload_n hx hb dL_law_154 rfl (lv_at hl 1 rfl) ?_
  refine lv_iload hx hb dL_law_155 (lv_at hl 5 rfl) ?_
  refine lv_iconst (v := 2) hx hb dL_law_157 (by decide) ?_
  refine zn_add (i := i) (j := 2) hx hb dL_law_158 ?_
  refine z_sld (k := i + 2) (v := u) hx hb hXs hbl hbA hS (by omega) (by omega) e2 dL_law_159 ?_
  refine z_backTi (wa := (wX cI cZ h lev tm gn nL nC nE L B C E ++ [(qo, .inl (cJ, 1, .inr (.inl o)))])) (w := (wM cI cZ g cd lev tm gn nL nC nE L B C F ys ao)) (z_runVT (wa := (wX cI cZ h lev tm gn nL nC nE L B C E ++ [(qo, .inl (cJ, 1, .inr (.inl o)))])) (w := (wM cI cZ g cd lev tm gn nL nC nE L B C F ys ao)) (n := 2) (As := [.int v, .int u]) (ci := 5) (rest := []) hx hb hml hown hts hK hE hP hD (tX4_lift_n1 l D cI cZ cJ g cd lev tm gn nL nC nE L B C F ys ao v u m_hno _) gL_law_X4_lift rfl rfl rfl (by decide +kernel) ⟨Nat.le_of_ble_eq_true rfl, Nat.le_of_ble_eq_true rfl⟩ rfl rfl rfl hl.1 rfl (Nat.le_of_ble_eq_true rfl) dL_law_160 hroom) hP hD hS hA (fun r2 w1 H locs hp2 hP hD hS => ?_)
  obtain ⟨rfl, rfl⟩ := hp2
  have hP : va_P D vwCl ((wX cI cZ h lev tm gn nL nC nE L B C E ++ [(qo, .inl (cJ, 1, .inr (.inl o)))]) ++ (wM cI cZ g 1 lev tm gn nL nC nE L B C F ys ao)) H := hP
  have hD : va_D A ((wX cI cZ h lev tm gn nL nC nE L B C E ++ [(qo, .inl (cJ, 1, .inr (.inl o)))]) ++ (wM cI cZ g 1 lev tm gn nL nC nE L B C F ys ao)) := hD
  refine lv_istore (lv' := [(6, .int 0), (5, .int 1), (0, .ref sb), (1, .ref (h 0)), (2, .ref (g 0)), (3, .ref qo), (4, .int (nI i))]) hx hb dL_law_163 hl (by decide) rfl (fun ls hl => ?_)
  refine lv_aload_n hx hb dL_law_165 rfl (lv_at hl 4 rfl) ?_
  refine z_backTi (wa := (wX cI cZ h lev tm gn nL nC nE L B C E ++ [(qo, .inl (cJ, 1, .inr (.inl o)))])) (w := (wM cI cZ g 1 lev tm gn nL nC nE L B C F ys ao)) (z_runVT (wa := (wX cI cZ h lev tm gn nL nC nE L B C E ++ [(qo, .inl (cJ, 1, .inr (.inl o)))])) (w := (wM cI cZ g 1 lev tm gn nL nC nE L B C F ys ao)) (n := 0) (As := []) (ci := 5) (rest := []) hx hb hml hown hts hK hE hP hD (tX4_thrown l D cI cZ cJ g 1 lev tm gn nL nC nE L B C F ys ao _) gL_law_X4_thrown rfl rfl rfl (by decide +kernel) ⟨Nat.le_of_ble_eq_true rfl, Nat.le_of_ble_eq_true rfl⟩ rfl rfl rfl hl.1 rfl (Nat.le_of_ble_eq_true rfl) dL_law_166 hroom) hP hD hS hA (fun r3 w1 H locs hp3 hP hD hS => ?_)
  obtain ⟨rfl, rfl⟩ := hp3
  have hP : va_P D vwCl ((wX cI cZ h lev tm gn nL nC nE L B C E ++ [(qo, .inl (cJ, 1, .inr (.inl o)))]) ++ (wM cI cZ g 1 lev tm gn nL nC nE L B C F ys ao)) H := hP
  have hD : va_D A ((wX cI cZ h lev tm gn nL nC nE L B C E ++ [(qo, .inl (cJ, 1, .inr (.inl o)))]) ++ (wM cI cZ g 1 lev tm gn nL nC nE L B C F ys ao)) := hD
  refine lv_iload hx hb dL_law_169 (lv_at hl 1 rfl) ?_
  refine zn_eq (i := 1) (j := 1) (tgt := 176) hx hb (by omega) (by omega) dL_law_171 (by decide) (fun c171 => ?_) (fun c171 => ?_)
  · skip
    refine lv_iload hx hb dL_law_176 (lv_at hl 1 rfl) ?_
    refine lv_if_ne (x := 1) (tgt := 193) hx hb dL_law_178 (by decide) (fun c178 => ?_) (fun c178 => ?_)
    · skip
      refine lv_goto (tgt := 1117) hx hb dL_law_193 (by decide) ?_
      exact kk H locs ls (lv_sub hl [2, 3, 4, 5, 6] rfl) hP hD hS
    · exact absurd c178 (by decide)
  · exact absurd c171 (by omega)


set_option maxHeartbeats 4000000 in
set_option maxRecDepth 100000 in
theorem law_lift_xb {p : Program} {l : Launch} {e : Env} {s : State} {m : MethodId} {below : List Frame} {meth : Method} {c : Code} {Q : State → Prop} {sb Ln : Nat} {xs : Nat → Int32} {D : va_G} {cI cZ cJ : ClassId} {A : Nat → Prop} {sa : Nat → Nat} (cx : zCx p l s m meth c sb Ln xs D cI cZ cJ A sa) (h g : Nat → Nat) (lev tm : Nat) (gn : Int32) (nL nC nE : Nat) (L B C E F : Nat → Nat → Int32) (qo : Nat) (o : Nat → Int64) (cd : Int32) (ys ao : Nat → Int32) (i : Nat) (hi : i + 5 ≤ Ln) (v u : Int32) (h1 : inB v 0 (nI lev - 1) = true) (hno : inB u 1 50 = false) (hL : nL ≤ 4) (hC : nC ≤ 24) (m_hno : (inB v 0 (nI lev - 1) && inB u 1 50) = false) (e1 : xs (i + 1) = v) (e2 : xs (i + 2) = u) {H : Heap} {locs : List Loc} {cells slots : Nat} {ls : Array Slot} (hl : lv_has ls 7 [(0, .ref sb), (1, .ref (h 0)), (2, .ref (g 0)), (3, .ref qo), (4, .int (nI i))]) (hP : va_P D vwCl (wV cI cZ cJ h lev tm gn nL nC nE L B C E qo o ++ wM cI cZ g cd lev tm gn nL nC nE L B C F ys ao) H) (hD : va_D A (wV cI cZ cJ h lev tm gn nL nC nE L B C E qo o ++ wM cI cZ g cd lev tm gn nL nC nE L B C F ys ao)) (hS : va_S A s.heap H locs) (hroom : cells + 1 ≤ room_1.cells ∧ slots + 6 ≤ room_1.slots) (kk : ∀ (H1 : Heap) (locs1 : List Loc) (ls1 : Array Slot), lv_has ls1 7 [(0, .ref sb), (1, .ref (h 0)), (2, .ref (g 0)), (3, .ref qo), (4, .int (nI i))] → va_P D vwCl (wX cI cZ h lev tm gn nL nC nE L B C E ++ [(qo, .inl (cJ, 1, .inr (.inl o)))] ++ wM cI cZ g 1 lev tm gn nL nC nE L B C F ys ao) H1 → va_D A (wX cI cZ h lev tm gn nL nC nE L B C E ++ [(qo, .inl (cJ, 1, .inr (.inl o)))] ++ wM cI cZ g 1 lev tm gn nL nC nE L B C F ys ao) → va_S A s.heap H1 locs1 → W p l e room_1 s m #[Value.ref sb] below meth c H1 locs1 (cells + 1) (slots + 6) Q (F0 m 1117 ls1 []))  : W p l e room_1 s m #[Value.ref sb] below meth c H locs cells slots Q (F0 m 128 ls []) := by
  obtain ⟨hx, hb, hr9, hml, hlocks, hown, htsO, hK, hE, hX, hN, hA, hXs, hbl, hbA, hl9, hLn⟩ := cx
  have hts : ∀ w ∈ wsL_law, w.before #[Value.ref sb] s = true := fun w h9 => htsO w (lawO_l h9)
  refine lv_aload_n hx hb dL_law_128 rfl (lv_at hl 1 rfl) ?_
  refine lv_aload_n hx hb dL_law_129 rfl (lv_at hl 0 rfl) ?_
  refine lv_iload hx hb dL_law_130 (lv_at hl 4 rfl) ?_
  refine lv_iconst (v := 1) hx hb dL_law_132 (by decide) ?_
  refine zn_add (i := i) (j := 1) hx hb dL_law_133 ?_
  refine z_sld (k := i + 1) (v := v) hx hb hXs hbl hbA hS (by omega) (by omega) e1 dL_law_134 ?_
  refine lv_aload_n hx hb dL_law_135 rfl (lv_at hl 0 rfl) ?_
  refine lv_iload hx hb dL_law_136 (lv_at hl 4 rfl) ?_
  refine lv_iconst (v := 2) hx hb dL_law_138 (by decide) ?_
  refine zn_add (i := i) (j := 2) hx hb dL_law_139 ?_
  refine z_sld (k := i + 2) (v := u) hx hb hXs hbl hbA hS (by omega) (by omega) e2 dL_law_140 ?_
  refine lv_aload_n hx hb dL_law_141 rfl (lv_at hl 3 rfl) ?_
  refine z_backSi (wa := []) (w := (wV cI cZ cJ h lev tm gn nL nC nE L B C E qo o)) (wb := (wM cI cZ g cd lev tm gn nL nC nE L B C F ys ao)) (z_runSL (wa := []) (w := (wV cI cZ cJ h lev tm gn nL nC nE L B C E qo o)) (wb := (wM cI cZ g cd lev tm gn nL nC nE L B C F ys ao)) (n := 4) (As := [.ref (h 0), .int v, .int u, .ref qo]) (rest := []) hx hb hml hown hts hK hE hX hN hS hA hP hD (tL_lift_xb l D cI cZ cJ h lev tm gn nL nC nE L B C E v u h1 hno hL hC qo o sa hl9 _) gL_law_L_lift rfl rfl rfl (by decide +kernel) ⟨Nat.le_of_ble_eq_true rfl, Nat.le_of_ble_eq_true rfl⟩ rfl hl.1 rfl (Nat.le_of_ble_eq_true rfl) dL_law_142 hroom) hP hD hS hA (fun r1 w1 H locs hp1 hP hD hS => ?_)
  obtain ⟨rfl, rfl⟩ := hp1
  have hP : va_P D vwCl ((wX cI cZ h lev tm gn nL nC nE L B C E ++ [(qo, .inl (cJ, 1, .inr (.inl o)))]) ++ (wM cI cZ g cd lev tm gn nL nC nE L B C F ys ao)) H := hP
  have hD : va_D A ((wX cI cZ h lev tm gn nL nC nE L B C E ++ [(qo, .inl (cJ, 1, .inr (.inl o)))]) ++ (wM cI cZ g cd lev tm gn nL nC nE L B C F ys ao)) := hD
  refine lv_istore (lv' := [(5, .int 1), (0, .ref sb), (1, .ref (h 0)), (2, .ref (g 0)), (3, .ref qo), (4, .int (nI i))]) hx hb dL_law_145 hl (by decide) rfl (fun ls hl => ?_)
  refine lv_aload_n hx hb dL_law_147 rfl (lv_at hl 3 rfl) ?_
  refine lv_aload_n hx hb dL_law_148 rfl (lv_at hl 1 rfl) ?_
  refine lv_iload hx hb dL_law_149 (lv_at hl 5 rfl) ?_
  refine lv_iconst (v := 1) hx hb dL_law_151 (by decide) ?_
  refine zn_add (i := i) (j := 1) hx hb dL_law_152 ?_
  refine z_sld (k := i + 1) (v := v) hx hb hXs hbl hbA hS (by omega) (by omega) e1 dL_law_153 ?_
  refine lv_aload_n hx hb dL_law_154 rfl (lv_at hl 1 rfl) ?_
  refine lv_iload hx hb dL_law_155 (lv_at hl 5 rfl) ?_
  refine lv_iconst (v := 2) hx hb dL_law_157 (by decide) ?_
  refine zn_add (i := i) (j := 2) hx hb dL_law_158 ?_
  refine z_sld (k := i + 2) (v := u) hx hb hXs hbl hbA hS (by omega) (by omega) e2 dL_law_159 ?_
  refine z_backTi (wa := (wX cI cZ h lev tm gn nL nC nE L B C E ++ [(qo, .inl (cJ, 1, .inr (.inl o)))])) (w := (wM cI cZ g cd lev tm gn nL nC nE L B C F ys ao)) (z_runVT (wa := (wX cI cZ h lev tm gn nL nC nE L B C E ++ [(qo, .inl (cJ, 1, .inr (.inl o)))])) (w := (wM cI cZ g cd lev tm gn nL nC nE L B C F ys ao)) (n := 2) (As := [.int v, .int u]) (ci := 5) (rest := []) hx hb hml hown hts hK hE hP hD (tX4_lift_n1 l D cI cZ cJ g cd lev tm gn nL nC nE L B C F ys ao v u m_hno _) gL_law_X4_lift rfl rfl rfl (by decide +kernel) ⟨Nat.le_of_ble_eq_true rfl, Nat.le_of_ble_eq_true rfl⟩ rfl rfl rfl hl.1 rfl (Nat.le_of_ble_eq_true rfl) dL_law_160 hroom) hP hD hS hA (fun r2 w1 H locs hp2 hP hD hS => ?_)
  obtain ⟨rfl, rfl⟩ := hp2
  have hP : va_P D vwCl ((wX cI cZ h lev tm gn nL nC nE L B C E ++ [(qo, .inl (cJ, 1, .inr (.inl o)))]) ++ (wM cI cZ g 1 lev tm gn nL nC nE L B C F ys ao)) H := hP
  have hD : va_D A ((wX cI cZ h lev tm gn nL nC nE L B C E ++ [(qo, .inl (cJ, 1, .inr (.inl o)))]) ++ (wM cI cZ g 1 lev tm gn nL nC nE L B C F ys ao)) := hD
  refine lv_istore (lv' := [(6, .int 0), (5, .int 1), (0, .ref sb), (1, .ref (h 0)), (2, .ref (g 0)), (3, .ref qo), (4, .int (nI i))]) hx hb dL_law_163 hl (by decide) rfl (fun ls hl => ?_)
  refine lv_aload_n hx hb dL_law_165 rfl (lv_at hl 4 rfl) ?_
  refine z_backTi (wa := (wX cI cZ h lev tm gn nL nC nE L B C E ++ [(qo, .inl (cJ, 1, .inr (.inl o)))])) (w := (wM cI cZ g 1 lev tm gn nL nC nE L B C F ys ao)) (z_runVT (wa := (wX cI cZ h lev tm gn nL nC nE L B C E ++ [(qo, .inl (cJ, 1, .inr (.inl o)))])) (w := (wM cI cZ g 1 lev tm gn nL nC nE L B C F ys ao)) (n := 0) (As := []) (ci := 5) (rest := []) hx hb hml hown hts hK hE hP hD (tX4_thrown l D cI cZ cJ g 1 lev tm gn nL nC nE L B C F ys ao _) gL_law_X4_thrown rfl rfl rfl (by decide +kernel) ⟨Nat.le_of_ble_eq_true rfl, Nat.le_of_ble_eq_true rfl⟩ rfl rfl rfl hl.1 rfl (Nat.le_of_ble_eq_true rfl) dL_law_166 hroom) hP hD hS hA (fun r3 w1 H locs hp3 hP hD hS => ?_)
  obtain ⟨rfl, rfl⟩ := hp3
  have hP : va_P D vwCl ((wX cI cZ h lev tm gn nL nC nE L B C E ++ [(qo, .inl (cJ, 1, .inr (.inl o)))]) ++ (wM cI cZ g 1 lev tm gn nL nC nE L B C F ys ao)) H := hP
  have hD : va_D A ((wX cI cZ h lev tm gn nL nC nE L B C E ++ [(qo, .inl (cJ, 1, .inr (.inl o)))]) ++ (wM cI cZ g 1 lev tm gn nL nC nE L B C F ys ao)) := hD
  refine lv_iload hx hb dL_law_169 (lv_at hl 1 rfl) ?_
  refine zn_eq (i := 1) (j := 1) (tgt := 176) hx hb (by omega) (by omega) dL_law_171 (by decide) (fun c171 => ?_) (fun c171 => ?_)
  · skip
    refine lv_iload hx hb dL_law_176 (lv_at hl 1 rfl) ?_
    refine lv_if_ne (x := 1) (tgt := 193) hx hb dL_law_178 (by decide) (fun c178 => ?_) (fun c178 => ?_)
    · skip
      refine lv_goto (tgt := 1117) hx hb dL_law_193 (by decide) ?_
      exact kk H locs ls (lv_sub hl [2, 3, 4, 5, 6] rfl) hP hD hS
    · exact absurd c178 (by decide)
  · exact absurd c171 (by omega)


set_option maxHeartbeats 4000000 in
set_option maxRecDepth 100000 in
theorem law_lift_xc {p : Program} {l : Launch} {e : Env} {s : State} {m : MethodId} {below : List Frame} {meth : Method} {c : Code} {Q : State → Prop} {sb Ln : Nat} {xs : Nat → Int32} {D : va_G} {cI cZ cJ : ClassId} {A : Nat → Prop} {sa : Nat → Nat} (cx : zCx p l s m meth c sb Ln xs D cI cZ cJ A sa) (h g : Nat → Nat) (lev tm : Nat) (gn : Int32) (nL nC nE : Nat) (L B C E F : Nat → Nat → Int32) (qo : Nat) (o : Nat → Int64) (cd : Int32) (ys ao : Nat → Int32) (i : Nat) (hi : i + 5 ≤ Ln) (v u : Int32) (h1 : inB v 0 (nI lev - 1) = true) (h2 : inB u 1 50 = true) (h4 : nL = 4) (hL : nL ≤ 4) (hC : nC ≤ 24) (m_h1 : inB v 0 (nI lev - 1) = true) (m_h2 : inB u 1 50 = true) (m_h4 : nL = 4) (e1 : xs (i + 1) = v) (e2 : xs (i + 2) = u) {H : Heap} {locs : List Loc} {cells slots : Nat} {ls : Array Slot} (hl : lv_has ls 7 [(0, .ref sb), (1, .ref (h 0)), (2, .ref (g 0)), (3, .ref qo), (4, .int (nI i))]) (hP : va_P D vwCl (wV cI cZ cJ h lev tm gn nL nC nE L B C E qo o ++ wM cI cZ g cd lev tm gn nL nC nE L B C F ys ao) H) (hD : va_D A (wV cI cZ cJ h lev tm gn nL nC nE L B C E qo o ++ wM cI cZ g cd lev tm gn nL nC nE L B C F ys ao)) (hS : va_S A s.heap H locs) (hroom : cells + 1 ≤ room_1.cells ∧ slots + 6 ≤ room_1.slots) (kk : ∀ (H1 : Heap) (locs1 : List Loc) (ls1 : Array Slot), lv_has ls1 7 [(0, .ref sb), (1, .ref (h 0)), (2, .ref (g 0)), (3, .ref qo), (4, .int (nI i))] → va_P D vwCl (wX cI cZ h lev tm gn nL nC nE L B C E ++ [(qo, .inl (cJ, 1, .inr (.inl o)))] ++ wM cI cZ g 2 lev tm gn nL nC nE L B C F ys ao) H1 → va_D A (wX cI cZ h lev tm gn nL nC nE L B C E ++ [(qo, .inl (cJ, 1, .inr (.inl o)))] ++ wM cI cZ g 2 lev tm gn nL nC nE L B C F ys ao) → va_S A s.heap H1 locs1 → W p l e room_1 s m #[Value.ref sb] below meth c H1 locs1 (cells + 1) (slots + 6) Q (F0 m 1117 ls1 []))  : W p l e room_1 s m #[Value.ref sb] below meth c H locs cells slots Q (F0 m 128 ls []) := by
  obtain ⟨hx, hb, hr9, hml, hlocks, hown, htsO, hK, hE, hX, hN, hA, hXs, hbl, hbA, hl9, hLn⟩ := cx
  have hts : ∀ w ∈ wsL_law, w.before #[Value.ref sb] s = true := fun w h9 => htsO w (lawO_l h9)
  refine lv_aload_n hx hb dL_law_128 rfl (lv_at hl 1 rfl) ?_
  refine lv_aload_n hx hb dL_law_129 rfl (lv_at hl 0 rfl) ?_
  refine lv_iload hx hb dL_law_130 (lv_at hl 4 rfl) ?_
  refine lv_iconst (v := 1) hx hb dL_law_132 (by decide) ?_
  refine zn_add (i := i) (j := 1) hx hb dL_law_133 ?_
  refine z_sld (k := i + 1) (v := v) hx hb hXs hbl hbA hS (by omega) (by omega) e1 dL_law_134 ?_
  refine lv_aload_n hx hb dL_law_135 rfl (lv_at hl 0 rfl) ?_
  refine lv_iload hx hb dL_law_136 (lv_at hl 4 rfl) ?_
  refine lv_iconst (v := 2) hx hb dL_law_138 (by decide) ?_
  refine zn_add (i := i) (j := 2) hx hb dL_law_139 ?_
  refine z_sld (k := i + 2) (v := u) hx hb hXs hbl hbA hS (by omega) (by omega) e2 dL_law_140 ?_
  refine lv_aload_n hx hb dL_law_141 rfl (lv_at hl 3 rfl) ?_
  refine z_backSi (wa := []) (w := (wV cI cZ cJ h lev tm gn nL nC nE L B C E qo o)) (wb := (wM cI cZ g cd lev tm gn nL nC nE L B C F ys ao)) (z_runSL (wa := []) (w := (wV cI cZ cJ h lev tm gn nL nC nE L B C E qo o)) (wb := (wM cI cZ g cd lev tm gn nL nC nE L B C F ys ao)) (n := 4) (As := [.ref (h 0), .int v, .int u, .ref qo]) (rest := []) hx hb hml hown hts hK hE hX hN hS hA hP hD (tL_lift_xc l D cI cZ cJ h lev tm gn nL nC nE L B C E v u h1 h2 h4 hL hC qo o sa hl9 _) gL_law_L_lift rfl rfl rfl (by decide +kernel) ⟨Nat.le_of_ble_eq_true rfl, Nat.le_of_ble_eq_true rfl⟩ rfl hl.1 rfl (Nat.le_of_ble_eq_true rfl) dL_law_142 hroom) hP hD hS hA (fun r1 w1 H locs hp1 hP hD hS => ?_)
  obtain ⟨rfl, rfl⟩ := hp1
  have hP : va_P D vwCl ((wX cI cZ h lev tm gn nL nC nE L B C E ++ [(qo, .inl (cJ, 1, .inr (.inl o)))]) ++ (wM cI cZ g cd lev tm gn nL nC nE L B C F ys ao)) H := hP
  have hD : va_D A ((wX cI cZ h lev tm gn nL nC nE L B C E ++ [(qo, .inl (cJ, 1, .inr (.inl o)))]) ++ (wM cI cZ g cd lev tm gn nL nC nE L B C F ys ao)) := hD
  refine lv_istore (lv' := [(5, .int 2), (0, .ref sb), (1, .ref (h 0)), (2, .ref (g 0)), (3, .ref qo), (4, .int (nI i))]) hx hb dL_law_145 hl (by decide) rfl (fun ls hl => ?_)
  refine lv_aload_n hx hb dL_law_147 rfl (lv_at hl 3 rfl) ?_
  refine lv_aload_n hx hb dL_law_148 rfl (lv_at hl 1 rfl) ?_
  refine lv_iload hx hb dL_law_149 (lv_at hl 5 rfl) ?_
  refine lv_iconst (v := 1) hx hb dL_law_151 (by decide) ?_
  refine zn_add (i := i) (j := 1) hx hb dL_law_152 ?_
  refine z_sld (k := i + 1) (v := v) hx hb hXs hbl hbA hS (by omega) (by omega) e1 dL_law_153 ?_
  refine lv_aload_n hx hb dL_law_154 rfl (lv_at hl 1 rfl) ?_
  refine lv_iload hx hb dL_law_155 (lv_at hl 5 rfl) ?_
  refine lv_iconst (v := 2) hx hb dL_law_157 (by decide) ?_
  refine zn_add (i := i) (j := 2) hx hb dL_law_158 ?_
  refine z_sld (k := i + 2) (v := u) hx hb hXs hbl hbA hS (by omega) (by omega) e2 dL_law_159 ?_
  refine z_backTi (wa := (wX cI cZ h lev tm gn nL nC nE L B C E ++ [(qo, .inl (cJ, 1, .inr (.inl o)))])) (w := (wM cI cZ g cd lev tm gn nL nC nE L B C F ys ao)) (z_runVT (wa := (wX cI cZ h lev tm gn nL nC nE L B C E ++ [(qo, .inl (cJ, 1, .inr (.inl o)))])) (w := (wM cI cZ g cd lev tm gn nL nC nE L B C F ys ao)) (n := 2) (As := [.int v, .int u]) (ci := 5) (rest := []) hx hb hml hown hts hK hE hP hD (tX4_lift_n2 l D cI cZ cJ g cd lev tm gn nL nC nE L B C F ys ao v u m_h1 m_h2 m_h4 _) gL_law_X4_lift rfl rfl rfl (by decide +kernel) ⟨Nat.le_of_ble_eq_true rfl, Nat.le_of_ble_eq_true rfl⟩ rfl rfl rfl hl.1 rfl (Nat.le_of_ble_eq_true rfl) dL_law_160 hroom) hP hD hS hA (fun r2 w1 H locs hp2 hP hD hS => ?_)
  obtain ⟨rfl, rfl⟩ := hp2
  have hP : va_P D vwCl ((wX cI cZ h lev tm gn nL nC nE L B C E ++ [(qo, .inl (cJ, 1, .inr (.inl o)))]) ++ (wM cI cZ g 2 lev tm gn nL nC nE L B C F ys ao)) H := hP
  have hD : va_D A ((wX cI cZ h lev tm gn nL nC nE L B C E ++ [(qo, .inl (cJ, 1, .inr (.inl o)))]) ++ (wM cI cZ g 2 lev tm gn nL nC nE L B C F ys ao)) := hD
  refine lv_istore (lv' := [(6, .int 0), (5, .int 2), (0, .ref sb), (1, .ref (h 0)), (2, .ref (g 0)), (3, .ref qo), (4, .int (nI i))]) hx hb dL_law_163 hl (by decide) rfl (fun ls hl => ?_)
  refine lv_aload_n hx hb dL_law_165 rfl (lv_at hl 4 rfl) ?_
  refine z_backTi (wa := (wX cI cZ h lev tm gn nL nC nE L B C E ++ [(qo, .inl (cJ, 1, .inr (.inl o)))])) (w := (wM cI cZ g 2 lev tm gn nL nC nE L B C F ys ao)) (z_runVT (wa := (wX cI cZ h lev tm gn nL nC nE L B C E ++ [(qo, .inl (cJ, 1, .inr (.inl o)))])) (w := (wM cI cZ g 2 lev tm gn nL nC nE L B C F ys ao)) (n := 0) (As := []) (ci := 5) (rest := []) hx hb hml hown hts hK hE hP hD (tX4_thrown l D cI cZ cJ g 2 lev tm gn nL nC nE L B C F ys ao _) gL_law_X4_thrown rfl rfl rfl (by decide +kernel) ⟨Nat.le_of_ble_eq_true rfl, Nat.le_of_ble_eq_true rfl⟩ rfl rfl rfl hl.1 rfl (Nat.le_of_ble_eq_true rfl) dL_law_166 hroom) hP hD hS hA (fun r3 w1 H locs hp3 hP hD hS => ?_)
  obtain ⟨rfl, rfl⟩ := hp3
  have hP : va_P D vwCl ((wX cI cZ h lev tm gn nL nC nE L B C E ++ [(qo, .inl (cJ, 1, .inr (.inl o)))]) ++ (wM cI cZ g 2 lev tm gn nL nC nE L B C F ys ao)) H := hP
  have hD : va_D A ((wX cI cZ h lev tm gn nL nC nE L B C E ++ [(qo, .inl (cJ, 1, .inr (.inl o)))]) ++ (wM cI cZ g 2 lev tm gn nL nC nE L B C F ys ao)) := hD
  refine lv_iload hx hb dL_law_169 (lv_at hl 1 rfl) ?_
  refine zn_eq (i := 2) (j := 2) (tgt := 176) hx hb (by omega) (by omega) dL_law_171 (by decide) (fun c171 => ?_) (fun c171 => ?_)
  · skip
    refine lv_iload hx hb dL_law_176 (lv_at hl 1 rfl) ?_
    refine lv_if_ne (x := 2) (tgt := 193) hx hb dL_law_178 (by decide) (fun c178 => ?_) (fun c178 => ?_)
    · skip
      refine lv_goto (tgt := 1117) hx hb dL_law_193 (by decide) ?_
      exact kk H locs ls (lv_sub hl [2, 3, 4, 5, 6] rfl) hP hD hS
    · exact absurd c178 (by decide)
  · exact absurd c171 (by omega)


set_option maxHeartbeats 4000000 in
set_option maxRecDepth 100000 in
theorem law_call_ok {p : Program} {l : Launch} {e : Env} {s : State} {m : MethodId} {below : List Frame} {meth : Method} {c : Code} {Q : State → Prop} {sb Ln : Nat} {xs : Nat → Int32} {D : va_G} {cI cZ cJ : ClassId} {A : Nat → Prop} {sa : Nat → Nat} (cx : zCx p l s m meth c sb Ln xs D cI cZ cJ A sa) (h g : Nat → Nat) (lev tm : Nat) (gn : Int32) (nL nC nE : Nat) (L B C E F : Nat → Nat → Int32) (qo : Nat) (o : Nat → Int64) (cd : Int32) (ys ao : Nat → Int32) (i : Nat) (hi : i + 5 ≤ Ln) (a b rk q : Int32) (h1 : inB a 0 (nI lev - 1) = true) (h2 : inB b 0 (nI lev - 1) = true) (h3 : ¬ a = b) (h4 : inB rk 1 3 = true) (h5 : inB q 1 50 = true) (h6 : nC < 24) (hL : nL ≤ 4) (m_h1 : inB a 0 (nI lev - 1) = true) (m_h2 : inB b 0 (nI lev - 1) = true) (m_h3 : ¬ a = b) (m_h4 : inB rk 1 3 = true) (m_h5 : inB q 1 50 = true) (m_h6 : nC < 24) (m_hL : nL ≤ 4) (e1 : xs (i + 1) = a) (e2 : xs (i + 2) = b) (e3 : xs (i + 3) = rk) (e4 : xs (i + 4) = q) (hr : nI nC = nI nC) {H : Heap} {locs : List Loc} {cells slots : Nat} {ls : Array Slot} (hl : lv_has ls 7 [(0, .ref sb), (1, .ref (h 0)), (2, .ref (g 0)), (3, .ref qo), (4, .int (nI i))]) (hP : va_P D vwCl (wV cI cZ cJ h lev tm gn nL nC nE L B C E qo o ++ wM cI cZ g cd lev tm gn nL nC nE L B C F ys ao) H) (hD : va_D A (wV cI cZ cJ h lev tm gn nL nC nE L B C E qo o ++ wM cI cZ g cd lev tm gn nL nC nE L B C F ys ao)) (hS : va_S A s.heap H locs) (hroom : cells + 1 ≤ room_1.cells ∧ slots + 6 ≤ room_1.slots) (kk : ∀ (H1 : Heap) (locs1 : List Loc) (ls1 : Array Slot), lv_has ls1 7 [(0, .ref sb), (1, .ref (h 0)), (2, .ref (g 0)), (3, .ref qo), (4, .int (nI i))] → va_P D vwCl (wX cI cZ h lev tm gn nL (nC + 1) nE L B (upC (addC C nC a b rk q (nI tm)) 5 nC (nlF L B a q nL).1) E ++ [(qo, .inl (cJ, 1, .inr (.inl (vp_updL o 0 (nI nC).toInt64))))] ++ wM cI cZ g 0 lev tm gn nL (nC + 1) nE L B (upC (upC (upC (upC (upC (upC (upC (upC C 0 nC a) 1 nC b) 2 nC rk) 3 nC q) 6 nC (nI tm)) 7 nC (-1)) 8 nC (-1)) 5 nC (encO (nmF L B a q nL))) F ys ao) H1 → va_D A (wX cI cZ h lev tm gn nL (nC + 1) nE L B (upC (addC C nC a b rk q (nI tm)) 5 nC (nlF L B a q nL).1) E ++ [(qo, .inl (cJ, 1, .inr (.inl (vp_updL o 0 (nI nC).toInt64))))] ++ wM cI cZ g 0 lev tm gn nL (nC + 1) nE L B (upC (upC (upC (upC (upC (upC (upC (upC C 0 nC a) 1 nC b) 2 nC rk) 3 nC q) 6 nC (nI tm)) 7 nC (-1)) 8 nC (-1)) 5 nC (encO (nmF L B a q nL))) F ys ao) → va_S A s.heap H1 locs1 → W p l e room_1 s m #[Value.ref sb] below meth c H1 locs1 (cells + 1) (slots + 6) Q (F0 m 1117 ls1 []))  : W p l e room_1 s m #[Value.ref sb] below meth c H locs cells slots Q (F0 m 196 ls []) := by
  obtain ⟨hx, hb, hr9, hml, hlocks, hown, htsO, hK, hE, hX, hN, hA, hXs, hbl, hbA, hl9, hLn⟩ := cx
  have hts : ∀ w ∈ wsL_law, w.before #[Value.ref sb] s = true := fun w h9 => htsO w (lawO_l h9)
  refine lv_aload_n hx hb dL_law_196 rfl (lv_at hl 1 rfl) ?_
  refine lv_aload_n hx hb dL_law_197 rfl (lv_at hl 0 rfl) ?_
  refine lv_iload hx hb dL_law_198 (lv_at hl 4 rfl) ?_
  refine lv_iconst (v := 1) hx hb dL_law_200 (by decide) ?_
  refine zn_add (i := i) (j := 1) hx hb dL_law_201 ?_
  refine z_sld (k := i + 1) (v := a) hx hb hXs hbl hbA hS (by omega) (by omega) e1 dL_law_202 ?_
  refine lv_aload_n hx hb dL_law_203 rfl (lv_at hl 0 rfl) ?_
  refine lv_iload hx hb dL_law_204 (lv_at hl 4 rfl) ?_
  refine lv_iconst (v := 2) hx hb dL_law_206 (by decide) ?_
  refine zn_add (i := i) (j := 2) hx hb dL_law_207 ?_
  refine z_sld (k := i + 2) (v := b) hx hb hXs hbl hbA hS (by omega) (by omega) e2 dL_law_208 ?_
  refine lv_aload_n hx hb dL_law_209 rfl (lv_at hl 0 rfl) ?_
  refine lv_iload hx hb dL_law_210 (lv_at hl 4 rfl) ?_
  refine lv_iconst (v := 3) hx hb dL_law_212 (by decide) ?_
  refine zn_add (i := i) (j := 3) hx hb dL_law_213 ?_
  refine z_sld (k := i + 3) (v := rk) hx hb hXs hbl hbA hS (by omega) (by omega) e3 dL_law_214 ?_
  refine lv_aload_n hx hb dL_law_215 rfl (lv_at hl 0 rfl) ?_
  refine lv_iload hx hb dL_law_216 (lv_at hl 4 rfl) ?_
  refine lv_iconst (v := 4) hx hb dL_law_218 (by decide) ?_
  refine zn_add (i := i) (j := 4) hx hb dL_law_219 ?_
  refine z_sld (k := i + 4) (v := q) hx hb hXs hbl hbA hS (by omega) (by omega) e4 dL_law_220 ?_
  refine lv_aload_n hx hb dL_law_221 rfl (lv_at hl 3 rfl) ?_
  refine z_backSi (wa := []) (w := (wV cI cZ cJ h lev tm gn nL nC nE L B C E qo o)) (wb := (wM cI cZ g cd lev tm gn nL nC nE L B C F ys ao)) (z_runSL (wa := []) (w := (wV cI cZ cJ h lev tm gn nL nC nE L B C E qo o)) (wb := (wM cI cZ g cd lev tm gn nL nC nE L B C F ys ao)) (n := 6) (As := [.ref (h 0), .int a, .int b, .int rk, .int q, .ref qo]) (rest := []) hx hb hml hown hts hK hE hX hN hS hA hP hD (tL_call_ok l D cI cZ cJ h lev tm gn nL nC nE L B C E a b rk q h1 h2 h3 h4 h5 h6 hL qo o sa _) gL_law_L_call rfl rfl rfl (by decide +kernel) ⟨Nat.le_of_ble_eq_true rfl, Nat.le_of_ble_eq_true rfl⟩ rfl hl.1 rfl (Nat.le_of_ble_eq_true rfl) dL_law_222 hroom) hP hD hS hA (fun r1 w1 H locs hp1 hP hD hS => ?_)
  obtain ⟨rfl, rfl⟩ := hp1
  have hP : va_P D vwCl ((wX cI cZ h lev tm gn nL (nC + 1) nE L B (upC (addC C nC a b rk q (nI tm)) 5 nC (nlF L B a q nL).1) E ++ [(qo, .inl (cJ, 1, .inr (.inl (vp_updL o 0 (nI nC).toInt64))))]) ++ (wM cI cZ g cd lev tm gn nL nC nE L B C F ys ao)) H := hP
  have hD : va_D A ((wX cI cZ h lev tm gn nL (nC + 1) nE L B (upC (addC C nC a b rk q (nI tm)) 5 nC (nlF L B a q nL).1) E ++ [(qo, .inl (cJ, 1, .inr (.inl (vp_updL o 0 (nI nC).toInt64))))]) ++ (wM cI cZ g cd lev tm gn nL nC nE L B C F ys ao)) := hD
  refine lv_istore (lv' := [(5, .int 0), (0, .ref sb), (1, .ref (h 0)), (2, .ref (g 0)), (3, .ref qo), (4, .int (nI i))]) hx hb dL_law_225 hl (by decide) rfl (fun ls hl => ?_)
  refine lv_aload_n hx hb dL_law_227 rfl (lv_at hl 3 rfl) ?_
  refine lv_aload_n hx hb dL_law_228 rfl (lv_at hl 1 rfl) ?_
  refine lv_iload hx hb dL_law_229 (lv_at hl 5 rfl) ?_
  refine lv_iconst (v := 1) hx hb dL_law_231 (by decide) ?_
  refine zn_add (i := i) (j := 1) hx hb dL_law_232 ?_
  refine z_sld (k := i + 1) (v := a) hx hb hXs hbl hbA hS (by omega) (by omega) e1 dL_law_233 ?_
  refine lv_aload_n hx hb dL_law_234 rfl (lv_at hl 1 rfl) ?_
  refine lv_iload hx hb dL_law_235 (lv_at hl 5 rfl) ?_
  refine lv_iconst (v := 2) hx hb dL_law_237 (by decide) ?_
  refine zn_add (i := i) (j := 2) hx hb dL_law_238 ?_
  refine z_sld (k := i + 2) (v := b) hx hb hXs hbl hbA hS (by omega) (by omega) e2 dL_law_239 ?_
  refine lv_aload_n hx hb dL_law_240 rfl (lv_at hl 1 rfl) ?_
  refine lv_iload hx hb dL_law_241 (lv_at hl 5 rfl) ?_
  refine lv_iconst (v := 3) hx hb dL_law_243 (by decide) ?_
  refine zn_add (i := i) (j := 3) hx hb dL_law_244 ?_
  refine z_sld (k := i + 3) (v := rk) hx hb hXs hbl hbA hS (by omega) (by omega) e3 dL_law_245 ?_
  refine lv_aload_n hx hb dL_law_246 rfl (lv_at hl 1 rfl) ?_
  refine lv_iload hx hb dL_law_247 (lv_at hl 5 rfl) ?_
  refine lv_iconst (v := 4) hx hb dL_law_249 (by decide) ?_
  refine zn_add (i := i) (j := 4) hx hb dL_law_250 ?_
  refine z_sld (k := i + 4) (v := q) hx hb hXs hbl hbA hS (by omega) (by omega) e4 dL_law_251 ?_
  refine z_backTi (wa := (wX cI cZ h lev tm gn nL (nC + 1) nE L B (upC (addC C nC a b rk q (nI tm)) 5 nC (nlF L B a q nL).1) E ++ [(qo, .inl (cJ, 1, .inr (.inl (vp_updL o 0 (nI nC).toInt64))))])) (w := (wM cI cZ g cd lev tm gn nL nC nE L B C F ys ao)) (z_runVT (wa := (wX cI cZ h lev tm gn nL (nC + 1) nE L B (upC (addC C nC a b rk q (nI tm)) 5 nC (nlF L B a q nL).1) E ++ [(qo, .inl (cJ, 1, .inr (.inl (vp_updL o 0 (nI nC).toInt64))))])) (w := (wM cI cZ g cd lev tm gn nL nC nE L B C F ys ao)) (n := 4) (As := [.int a, .int b, .int rk, .int q]) (ci := 5) (rest := []) hx hb hml hown hts hK hE hP hD (tX4_call_ok l D cI cZ cJ g cd lev tm gn nL nC nE L B C F ys ao a b rk q m_h1 m_h2 m_h3 m_h4 m_h5 m_h6 m_hL _) gL_law_X4_call rfl rfl rfl (by decide +kernel) ⟨Nat.le_of_ble_eq_true rfl, Nat.le_of_ble_eq_true rfl⟩ rfl rfl rfl hl.1 rfl (Nat.le_of_ble_eq_true rfl) dL_law_252 hroom) hP hD hS hA (fun r2 w1 H locs hp2 hP hD hS => ?_)
  obtain ⟨rfl, rfl⟩ := hp2
  have hP : va_P D vwCl ((wX cI cZ h lev tm gn nL (nC + 1) nE L B (upC (addC C nC a b rk q (nI tm)) 5 nC (nlF L B a q nL).1) E ++ [(qo, .inl (cJ, 1, .inr (.inl (vp_updL o 0 (nI nC).toInt64))))]) ++ (wM cI cZ g 0 lev tm gn nL (nC + 1) nE L B (upC (upC (upC (upC (upC (upC (upC (upC C 0 nC a) 1 nC b) 2 nC rk) 3 nC q) 6 nC (nI tm)) 7 nC (-1)) 8 nC (-1)) 5 nC (encO (nmF L B a q nL))) F ys ao)) H := hP
  have hD : va_D A ((wX cI cZ h lev tm gn nL (nC + 1) nE L B (upC (addC C nC a b rk q (nI tm)) 5 nC (nlF L B a q nL).1) E ++ [(qo, .inl (cJ, 1, .inr (.inl (vp_updL o 0 (nI nC).toInt64))))]) ++ (wM cI cZ g 0 lev tm gn nL (nC + 1) nE L B (upC (upC (upC (upC (upC (upC (upC (upC C 0 nC a) 1 nC b) 2 nC rk) 3 nC q) 6 nC (nI tm)) 7 nC (-1)) 8 nC (-1)) 5 nC (encO (nmF L B a q nL))) F ys ao)) := hD
  refine lv_istore (lv' := [(6, .int (nI nC)), (5, .int 0), (0, .ref sb), (1, .ref (h 0)), (2, .ref (g 0)), (3, .ref qo), (4, .int (nI i))]) hx hb dL_law_255 hl (by decide) rfl (fun ls hl => ?_)
  refine lv_aload_n hx hb dL_law_257 rfl (lv_at hl 4 rfl) ?_
  refine z_backTi (wa := (wX cI cZ h lev tm gn nL (nC + 1) nE L B (upC (addC C nC a b rk q (nI tm)) 5 nC (nlF L B a q nL).1) E ++ [(qo, .inl (cJ, 1, .inr (.inl (vp_updL o 0 (nI nC).toInt64))))])) (w := (wM cI cZ g 0 lev tm gn nL (nC + 1) nE L B (upC (upC (upC (upC (upC (upC (upC (upC C 0 nC a) 1 nC b) 2 nC rk) 3 nC q) 6 nC (nI tm)) 7 nC (-1)) 8 nC (-1)) 5 nC (encO (nmF L B a q nL))) F ys ao)) (z_runVT (wa := (wX cI cZ h lev tm gn nL (nC + 1) nE L B (upC (addC C nC a b rk q (nI tm)) 5 nC (nlF L B a q nL).1) E ++ [(qo, .inl (cJ, 1, .inr (.inl (vp_updL o 0 (nI nC).toInt64))))])) (w := (wM cI cZ g 0 lev tm gn nL (nC + 1) nE L B (upC (upC (upC (upC (upC (upC (upC (upC C 0 nC a) 1 nC b) 2 nC rk) 3 nC q) 6 nC (nI tm)) 7 nC (-1)) 8 nC (-1)) 5 nC (encO (nmF L B a q nL))) F ys ao)) (n := 0) (As := []) (ci := 5) (rest := []) hx hb hml hown hts hK hE hP hD (tX4_thrown l D cI cZ cJ g 0 lev tm gn nL (nC + 1) nE L B (upC (upC (upC (upC (upC (upC (upC (upC C 0 nC a) 1 nC b) 2 nC rk) 3 nC q) 6 nC (nI tm)) 7 nC (-1)) 8 nC (-1)) 5 nC (encO (nmF L B a q nL))) F ys ao _) gL_law_X4_thrown rfl rfl rfl (by decide +kernel) ⟨Nat.le_of_ble_eq_true rfl, Nat.le_of_ble_eq_true rfl⟩ rfl rfl rfl hl.1 rfl (Nat.le_of_ble_eq_true rfl) dL_law_258 hroom) hP hD hS hA (fun r3 w1 H locs hp3 hP hD hS => ?_)
  obtain ⟨rfl, rfl⟩ := hp3
  have hP : va_P D vwCl ((wX cI cZ h lev tm gn nL (nC + 1) nE L B (upC (addC C nC a b rk q (nI tm)) 5 nC (nlF L B a q nL).1) E ++ [(qo, .inl (cJ, 1, .inr (.inl (vp_updL o 0 (nI nC).toInt64))))]) ++ (wM cI cZ g 0 lev tm gn nL (nC + 1) nE L B (upC (upC (upC (upC (upC (upC (upC (upC C 0 nC a) 1 nC b) 2 nC rk) 3 nC q) 6 nC (nI tm)) 7 nC (-1)) 8 nC (-1)) 5 nC (encO (nmF L B a q nL))) F ys ao)) H := hP
  have hD : va_D A ((wX cI cZ h lev tm gn nL (nC + 1) nE L B (upC (addC C nC a b rk q (nI tm)) 5 nC (nlF L B a q nL).1) E ++ [(qo, .inl (cJ, 1, .inr (.inl (vp_updL o 0 (nI nC).toInt64))))]) ++ (wM cI cZ g 0 lev tm gn nL (nC + 1) nE L B (upC (upC (upC (upC (upC (upC (upC (upC C 0 nC a) 1 nC b) 2 nC rk) 3 nC q) 6 nC (nI tm)) 7 nC (-1)) 8 nC (-1)) 5 nC (encO (nmF L B a q nL))) F ys ao)) := hD
  refine lv_iload hx hb dL_law_261 (lv_at hl 1 rfl) ?_
  refine zn_eq (i := 0) (j := 0) (tgt := 268) hx hb (by omega) (by omega) dL_law_263 (by decide) (fun c263 => ?_) (fun c263 => ?_)
  · skip
    refine lv_iload hx hb dL_law_268 (lv_at hl 1 rfl) ?_
    refine lv_if_ne (x := 0) (tgt := 285) hx hb dL_law_270 (by decide) (fun c270 => ?_) (fun c270 => ?_)
    · exact absurd c270 (by decide)
    · skip
      refine lv_aload_n hx hb dL_law_273 rfl (lv_at hl 5 rfl) ?_
      refine lv_iconst (v := 0) hx hb dL_law_274 (by decide) ?_
      refine z_lald0 hx hb hK hP 24 rfl dL_law_275 ?_
      refine lv_iload hx hb dL_law_276 (lv_at hl 0 rfl) ?_
      refine lv_i2l (v := (nI nC).toInt64) hx hb dL_law_278 rfl ?_
      refine W.lcmp (x := (vp_updL o 0 (nI nC).toInt64) 0) (y := (nI nC).toInt64) hx hb dL_law_279 ?_
      refine z_top (lg_eq hr) ?_
      refine lv_if_eq (x := 0) (tgt := 285) hx hb dL_law_280 (by decide) (fun c280 => ?_) (fun c280 => ?_)
      · skip
        refine lv_goto (tgt := 1117) hx hb dL_law_285 (by decide) ?_
        exact kk H locs ls (lv_sub hl [2, 3, 4, 5, 6] rfl) hP hD hS
      · exact absurd c280 (by decide)
  · exact absurd c263 (by omega)


set_option maxHeartbeats 4000000 in
set_option maxRecDepth 100000 in
theorem law_call_xf {p : Program} {l : Launch} {e : Env} {s : State} {m : MethodId} {below : List Frame} {meth : Method} {c : Code} {Q : State → Prop} {sb Ln : Nat} {xs : Nat → Int32} {D : va_G} {cI cZ cJ : ClassId} {A : Nat → Prop} {sa : Nat → Nat} (cx : zCx p l s m meth c sb Ln xs D cI cZ cJ A sa) (h g : Nat → Nat) (lev tm : Nat) (gn : Int32) (nL nC nE : Nat) (L B C E F : Nat → Nat → Int32) (qo : Nat) (o : Nat → Int64) (cd : Int32) (ys ao : Nat → Int32) (i : Nat) (hi : i + 5 ≤ Ln) (a b rk q : Int32) (h1 : inB a 0 (nI lev - 1) = true) (h2 : inB b 0 (nI lev - 1) = true) (h4 : inB rk 1 3 = true) (h5 : inB q 1 50 = true) (h3 : ¬ a = b) (h6 : nC = 24) (hL : nL ≤ 4) (hC : nC ≤ 24) (m_h1 : inB a 0 (nI lev - 1) = true) (m_h2 : inB b 0 (nI lev - 1) = true) (m_h3 : ¬ a = b) (m_h4 : inB rk 1 3 = true) (m_h5 : inB q 1 50 = true) (m_h6 : nC = 24) (e1 : xs (i + 1) = a) (e2 : xs (i + 2) = b) (e3 : xs (i + 3) = rk) (e4 : xs (i + 4) = q) {H : Heap} {locs : List Loc} {cells slots : Nat} {ls : Array Slot} (hl : lv_has ls 7 [(0, .ref sb), (1, .ref (h 0)), (2, .ref (g 0)), (3, .ref qo), (4, .int (nI i))]) (hP : va_P D vwCl (wV cI cZ cJ h lev tm gn nL nC nE L B C E qo o ++ wM cI cZ g cd lev tm gn nL nC nE L B C F ys ao) H) (hD : va_D A (wV cI cZ cJ h lev tm gn nL nC nE L B C E qo o ++ wM cI cZ g cd lev tm gn nL nC nE L B C F ys ao)) (hS : va_S A s.heap H locs) (hroom : cells + 1 ≤ room_1.cells ∧ slots + 6 ≤ room_1.slots) (kk : ∀ (H1 : Heap) (locs1 : List Loc) (ls1 : Array Slot), lv_has ls1 7 [(0, .ref sb), (1, .ref (h 0)), (2, .ref (g 0)), (3, .ref qo), (4, .int (nI i))] → va_P D vwCl (wX cI cZ h lev tm gn nL nC nE L B C E ++ [(qo, .inl (cJ, 1, .inr (.inl o)))] ++ wM cI cZ g 2 lev tm gn nL nC nE L B C F ys ao) H1 → va_D A (wX cI cZ h lev tm gn nL nC nE L B C E ++ [(qo, .inl (cJ, 1, .inr (.inl o)))] ++ wM cI cZ g 2 lev tm gn nL nC nE L B C F ys ao) → va_S A s.heap H1 locs1 → W p l e room_1 s m #[Value.ref sb] below meth c H1 locs1 (cells + 1) (slots + 6) Q (F0 m 1117 ls1 []))  : W p l e room_1 s m #[Value.ref sb] below meth c H locs cells slots Q (F0 m 196 ls []) := by
  obtain ⟨hx, hb, hr9, hml, hlocks, hown, htsO, hK, hE, hX, hN, hA, hXs, hbl, hbA, hl9, hLn⟩ := cx
  have hts : ∀ w ∈ wsL_law, w.before #[Value.ref sb] s = true := fun w h9 => htsO w (lawO_l h9)
  refine lv_aload_n hx hb dL_law_196 rfl (lv_at hl 1 rfl) ?_
  refine lv_aload_n hx hb dL_law_197 rfl (lv_at hl 0 rfl) ?_
  refine lv_iload hx hb dL_law_198 (lv_at hl 4 rfl) ?_
  refine lv_iconst (v := 1) hx hb dL_law_200 (by decide) ?_
  refine zn_add (i := i) (j := 1) hx hb dL_law_201 ?_
  refine z_sld (k := i + 1) (v := a) hx hb hXs hbl hbA hS (by omega) (by omega) e1 dL_law_202 ?_
  refine lv_aload_n hx hb dL_law_203 rfl (lv_at hl 0 rfl) ?_
  refine lv_iload hx hb dL_law_204 (lv_at hl 4 rfl) ?_
  refine lv_iconst (v := 2) hx hb dL_law_206 (by decide) ?_
  refine zn_add (i := i) (j := 2) hx hb dL_law_207 ?_
  refine z_sld (k := i + 2) (v := b) hx hb hXs hbl hbA hS (by omega) (by omega) e2 dL_law_208 ?_
  refine lv_aload_n hx hb dL_law_209 rfl (lv_at hl 0 rfl) ?_
  refine lv_iload hx hb dL_law_210 (lv_at hl 4 rfl) ?_
  refine lv_iconst (v := 3) hx hb dL_law_212 (by decide) ?_
  refine zn_add (i := i) (j := 3) hx hb dL_law_213 ?_
  refine z_sld (k := i + 3) (v := rk) hx hb hXs hbl hbA hS (by omega) (by omega) e3 dL_law_214 ?_
  refine lv_aload_n hx hb dL_law_215 rfl (lv_at hl 0 rfl) ?_
  refine lv_iload hx hb dL_law_216 (lv_at hl 4 rfl) ?_
  refine lv_iconst (v := 4) hx hb dL_law_218 (by decide) ?_
  refine zn_add (i := i) (j := 4) hx hb dL_law_219 ?_
  refine z_sld (k := i + 4) (v := q) hx hb hXs hbl hbA hS (by omega) (by omega) e4 dL_law_220 ?_
  refine lv_aload_n hx hb dL_law_221 rfl (lv_at hl 3 rfl) ?_
  refine z_backSi (wa := []) (w := (wV cI cZ cJ h lev tm gn nL nC nE L B C E qo o)) (wb := (wM cI cZ g cd lev tm gn nL nC nE L B C F ys ao)) (z_runSL (wa := []) (w := (wV cI cZ cJ h lev tm gn nL nC nE L B C E qo o)) (wb := (wM cI cZ g cd lev tm gn nL nC nE L B C F ys ao)) (n := 6) (As := [.ref (h 0), .int a, .int b, .int rk, .int q, .ref qo]) (rest := []) hx hb hml hown hts hK hE hX hN hS hA hP hD (tL_call_xf l D cI cZ cJ h lev tm gn nL nC nE L B C E a b rk q h1 h2 h4 h5 h3 h6 hL hC qo o sa hl9 _) gL_law_L_call rfl rfl rfl (by decide +kernel) ⟨Nat.le_of_ble_eq_true rfl, Nat.le_of_ble_eq_true rfl⟩ rfl hl.1 rfl (Nat.le_of_ble_eq_true rfl) dL_law_222 hroom) hP hD hS hA (fun r1 w1 H locs hp1 hP hD hS => ?_)
  obtain ⟨rfl, rfl⟩ := hp1
  have hP : va_P D vwCl ((wX cI cZ h lev tm gn nL nC nE L B C E ++ [(qo, .inl (cJ, 1, .inr (.inl o)))]) ++ (wM cI cZ g cd lev tm gn nL nC nE L B C F ys ao)) H := hP
  have hD : va_D A ((wX cI cZ h lev tm gn nL nC nE L B C E ++ [(qo, .inl (cJ, 1, .inr (.inl o)))]) ++ (wM cI cZ g cd lev tm gn nL nC nE L B C F ys ao)) := hD
  refine lv_istore (lv' := [(5, .int 2), (0, .ref sb), (1, .ref (h 0)), (2, .ref (g 0)), (3, .ref qo), (4, .int (nI i))]) hx hb dL_law_225 hl (by decide) rfl (fun ls hl => ?_)
  refine lv_aload_n hx hb dL_law_227 rfl (lv_at hl 3 rfl) ?_
  refine lv_aload_n hx hb dL_law_228 rfl (lv_at hl 1 rfl) ?_
  refine lv_iload hx hb dL_law_229 (lv_at hl 5 rfl) ?_
  refine lv_iconst (v := 1) hx hb dL_law_231 (by decide) ?_
  refine zn_add (i := i) (j := 1) hx hb dL_law_232 ?_
  refine z_sld (k := i + 1) (v := a) hx hb hXs hbl hbA hS (by omega) (by omega) e1 dL_law_233 ?_
  refine lv_aload_n hx hb dL_law_234 rfl (lv_at hl 1 rfl) ?_
  refine lv_iload hx hb dL_law_235 (lv_at hl 5 rfl) ?_
  refine lv_iconst (v := 2) hx hb dL_law_237 (by decide) ?_
  refine zn_add (i := i) (j := 2) hx hb dL_law_238 ?_
  refine z_sld (k := i + 2) (v := b) hx hb hXs hbl hbA hS (by omega) (by omega) e2 dL_law_239 ?_
  refine lv_aload_n hx hb dL_law_240 rfl (lv_at hl 1 rfl) ?_
  refine lv_iload hx hb dL_law_241 (lv_at hl 5 rfl) ?_
  refine lv_iconst (v := 3) hx hb dL_law_243 (by decide) ?_
  refine zn_add (i := i) (j := 3) hx hb dL_law_244 ?_
  refine z_sld (k := i + 3) (v := rk) hx hb hXs hbl hbA hS (by omega) (by omega) e3 dL_law_245 ?_
  refine lv_aload_n hx hb dL_law_246 rfl (lv_at hl 1 rfl) ?_
  refine lv_iload hx hb dL_law_247 (lv_at hl 5 rfl) ?_
  refine lv_iconst (v := 4) hx hb dL_law_249 (by decide) ?_
  refine zn_add (i := i) (j := 4) hx hb dL_law_250 ?_
  refine z_sld (k := i + 4) (v := q) hx hb hXs hbl hbA hS (by omega) (by omega) e4 dL_law_251 ?_
  refine z_backTi (wa := (wX cI cZ h lev tm gn nL nC nE L B C E ++ [(qo, .inl (cJ, 1, .inr (.inl o)))])) (w := (wM cI cZ g cd lev tm gn nL nC nE L B C F ys ao)) (z_runVT (wa := (wX cI cZ h lev tm gn nL nC nE L B C E ++ [(qo, .inl (cJ, 1, .inr (.inl o)))])) (w := (wM cI cZ g cd lev tm gn nL nC nE L B C F ys ao)) (n := 4) (As := [.int a, .int b, .int rk, .int q]) (ci := 5) (rest := []) hx hb hml hown hts hK hE hP hD (tX4_call_n2 l D cI cZ cJ g cd lev tm gn nL nC nE L B C F ys ao a b rk q m_h1 m_h2 m_h3 m_h4 m_h5 m_h6 _) gL_law_X4_call rfl rfl rfl (by decide +kernel) ⟨Nat.le_of_ble_eq_true rfl, Nat.le_of_ble_eq_true rfl⟩ rfl rfl rfl hl.1 rfl (Nat.le_of_ble_eq_true rfl) dL_law_252 hroom) hP hD hS hA (fun r2 w1 H locs hp2 hP hD hS => ?_)
  obtain ⟨rfl, rfl⟩ := hp2
  have hP : va_P D vwCl ((wX cI cZ h lev tm gn nL nC nE L B C E ++ [(qo, .inl (cJ, 1, .inr (.inl o)))]) ++ (wM cI cZ g 2 lev tm gn nL nC nE L B C F ys ao)) H := hP
  have hD : va_D A ((wX cI cZ h lev tm gn nL nC nE L B C E ++ [(qo, .inl (cJ, 1, .inr (.inl o)))]) ++ (wM cI cZ g 2 lev tm gn nL nC nE L B C F ys ao)) := hD
  refine lv_istore (lv' := [(6, .int 0), (5, .int 2), (0, .ref sb), (1, .ref (h 0)), (2, .ref (g 0)), (3, .ref qo), (4, .int (nI i))]) hx hb dL_law_255 hl (by decide) rfl (fun ls hl => ?_)
  refine lv_aload_n hx hb dL_law_257 rfl (lv_at hl 4 rfl) ?_
  refine z_backTi (wa := (wX cI cZ h lev tm gn nL nC nE L B C E ++ [(qo, .inl (cJ, 1, .inr (.inl o)))])) (w := (wM cI cZ g 2 lev tm gn nL nC nE L B C F ys ao)) (z_runVT (wa := (wX cI cZ h lev tm gn nL nC nE L B C E ++ [(qo, .inl (cJ, 1, .inr (.inl o)))])) (w := (wM cI cZ g 2 lev tm gn nL nC nE L B C F ys ao)) (n := 0) (As := []) (ci := 5) (rest := []) hx hb hml hown hts hK hE hP hD (tX4_thrown l D cI cZ cJ g 2 lev tm gn nL nC nE L B C F ys ao _) gL_law_X4_thrown rfl rfl rfl (by decide +kernel) ⟨Nat.le_of_ble_eq_true rfl, Nat.le_of_ble_eq_true rfl⟩ rfl rfl rfl hl.1 rfl (Nat.le_of_ble_eq_true rfl) dL_law_258 hroom) hP hD hS hA (fun r3 w1 H locs hp3 hP hD hS => ?_)
  obtain ⟨rfl, rfl⟩ := hp3
  have hP : va_P D vwCl ((wX cI cZ h lev tm gn nL nC nE L B C E ++ [(qo, .inl (cJ, 1, .inr (.inl o)))]) ++ (wM cI cZ g 2 lev tm gn nL nC nE L B C F ys ao)) H := hP
  have hD : va_D A ((wX cI cZ h lev tm gn nL nC nE L B C E ++ [(qo, .inl (cJ, 1, .inr (.inl o)))]) ++ (wM cI cZ g 2 lev tm gn nL nC nE L B C F ys ao)) := hD
  refine lv_iload hx hb dL_law_261 (lv_at hl 1 rfl) ?_
  refine zn_eq (i := 2) (j := 2) (tgt := 268) hx hb (by omega) (by omega) dL_law_263 (by decide) (fun c263 => ?_) (fun c263 => ?_)
  · skip
    refine lv_iload hx hb dL_law_268 (lv_at hl 1 rfl) ?_
    refine lv_if_ne (x := 2) (tgt := 285) hx hb dL_law_270 (by decide) (fun c270 => ?_) (fun c270 => ?_)
    · skip
      refine lv_goto (tgt := 1117) hx hb dL_law_285 (by decide) ?_
      exact kk H locs ls (lv_sub hl [2, 3, 4, 5, 6] rfl) hP hD hS
    · exact absurd c270 (by decide)
  · exact absurd c263 (by omega)


set_option maxHeartbeats 4000000 in
set_option maxRecDepth 100000 in
theorem law_step_ok {p : Program} {l : Launch} {e : Env} {s : State} {m : MethodId} {below : List Frame} {meth : Method} {c : Code} {Q : State → Prop} {sb Ln : Nat} {xs : Nat → Int32} {D : va_G} {cI cZ cJ : ClassId} {A : Nat → Prop} {sa : Nat → Nat} (cx : zCx p l s m meth c sb Ln xs D cI cZ cJ A sa) (h g : Nat → Nat) (lev tm : Nat) (gn : Int32) (nL nC nE : Nat) (L B C E F : Nat → Nat → Int32) (qo : Nat) (o : Nat → Int64) (cd : Int32) (ys ao : Nat → Int32) (i : Nat) (hi : i + 5 ≤ Ln) (n : Nat) (hn : n ≤ 200) (hL : nL ≤ 4) (hC : nC ≤ 24) (hNE : nE ≤ 48) (m_hn : n ≤ 200) (m_hL : nL ≤ 4) (m_hC : nC ≤ 24) (m_hok : stOK C nC nE) (e1 : xs (i + 1) = nI n) (hr : nI (stpZ tm nL nC B (gn, nE, L, C, E) n).2.1 - nI nE = nI (stpM tm nL nC B (gn, nE, L, C, F) n).2.1 - nI nE) {H : Heap} {locs : List Loc} {cells slots : Nat} {ls : Array Slot} (hl : lv_has ls 7 [(0, .ref sb), (1, .ref (h 0)), (2, .ref (g 0)), (3, .ref qo), (4, .int (nI i))]) (hP : va_P D vwCl (wV cI cZ cJ h lev tm gn nL nC nE L B C E qo o ++ wM cI cZ g cd lev tm gn nL nC nE L B C F ys ao) H) (hD : va_D A (wV cI cZ cJ h lev tm gn nL nC nE L B C E qo o ++ wM cI cZ g cd lev tm gn nL nC nE L B C F ys ao)) (hS : va_S A s.heap H locs) (hroom : cells + 1 ≤ room_1.cells ∧ slots + 6 ≤ room_1.slots) (kk : ∀ (H1 : Heap) (locs1 : List Loc) (ls1 : Array Slot), lv_has ls1 7 [(0, .ref sb), (1, .ref (h 0)), (2, .ref (g 0)), (3, .ref qo), (4, .int (nI i))] → va_P D vwCl (wZ cI cZ h lev (tm + n) nL nC B (stpZ tm nL nC B (gn, nE, L, C, E) n) ++ [(qo, .inl (cJ, 1, .inr (.inl (vp_updL o 0 (nI (stpZ tm nL nC B (gn, nE, L, C, E) n).2.1 - nI nE).toInt64))))] ++ wM cI cZ g 0 lev (tm + n) (stpM tm nL nC B (gn, nE, L, C, F) n).1 nL nC (stpM tm nL nC B (gn, nE, L, C, F) n).2.1 (stpM tm nL nC B (gn, nE, L, C, F) n).2.2.1 B (stpM tm nL nC B (gn, nE, L, C, F) n).2.2.2.1 (stpM tm nL nC B (gn, nE, L, C, F) n).2.2.2.2 ys ao) H1 → va_D A (wZ cI cZ h lev (tm + n) nL nC B (stpZ tm nL nC B (gn, nE, L, C, E) n) ++ [(qo, .inl (cJ, 1, .inr (.inl (vp_updL o 0 (nI (stpZ tm nL nC B (gn, nE, L, C, E) n).2.1 - nI nE).toInt64))))] ++ wM cI cZ g 0 lev (tm + n) (stpM tm nL nC B (gn, nE, L, C, F) n).1 nL nC (stpM tm nL nC B (gn, nE, L, C, F) n).2.1 (stpM tm nL nC B (gn, nE, L, C, F) n).2.2.1 B (stpM tm nL nC B (gn, nE, L, C, F) n).2.2.2.1 (stpM tm nL nC B (gn, nE, L, C, F) n).2.2.2.2 ys ao) → va_S A s.heap H1 locs1 → W p l e room_1 s m #[Value.ref sb] below meth c H1 locs1 (cells + 1) (slots + 6) Q (F0 m 1117 ls1 []))  : W p l e room_1 s m #[Value.ref sb] below meth c H locs cells slots Q (F0 m 288 ls []) := by
  obtain ⟨hx, hb, hr9, hml, hlocks, hown, htsO, hK, hE, hX, hN, hA, hXs, hbl, hbA, hl9, hLn⟩ := cx
  have hts : ∀ w ∈ wsL_law, w.before #[Value.ref sb] s = true := fun w h9 => htsO w (lawO_l h9)
  refine lv_aload_n hx hb dL_law_288 rfl (lv_at hl 1 rfl) ?_
  refine lv_aload_n hx hb dL_law_289 rfl (lv_at hl 0 rfl) ?_
  refine lv_iload hx hb dL_law_290 (lv_at hl 4 rfl) ?_
  refine lv_iconst (v := 1) hx hb dL_law_292 (by decide) ?_
  refine zn_add (i := i) (j := 1) hx hb dL_law_293 ?_
  refine z_sld (k := i + 1) (v := nI n) hx hb hXs hbl hbA hS (by omega) (by omega) e1 dL_law_294 ?_
  refine lv_aload_n hx hb dL_law_295 rfl (lv_at hl 3 rfl) ?_
  refine z_backSi (wa := []) (w := (wV cI cZ cJ h lev tm gn nL nC nE L B C E qo o)) (wb := (wM cI cZ g cd lev tm gn nL nC nE L B C F ys ao)) (z_runSL (wa := []) (w := (wV cI cZ cJ h lev tm gn nL nC nE L B C E qo o)) (wb := (wM cI cZ g cd lev tm gn nL nC nE L B C F ys ao)) (n := 3) (As := [.ref (h 0), .int (nI n), .ref qo]) (rest := []) hx hb hml hown hts hK hE hX hN hS hA hP hD (tL_step_ok l D cI cZ cJ h lev tm gn nL nC nE L B C E n hn hL hC hNE qo o sa _) gL_law_L_step rfl rfl rfl (by decide +kernel) ⟨Nat.le_of_ble_eq_true rfl, Nat.le_of_ble_eq_true rfl⟩ rfl hl.1 rfl (Nat.le_of_ble_eq_true rfl) dL_law_296 hroom) hP hD hS hA (fun r1 w1 H locs hp1 hP hD hS => ?_)
  obtain ⟨rfl, rfl⟩ := hp1
  have hP : va_P D vwCl ((wZ cI cZ h lev (tm + n) nL nC B (stpZ tm nL nC B (gn, nE, L, C, E) n) ++ [(qo, .inl (cJ, 1, .inr (.inl (vp_updL o 0 (nI (stpZ tm nL nC B (gn, nE, L, C, E) n).2.1 - nI nE).toInt64))))]) ++ (wM cI cZ g cd lev tm gn nL nC nE L B C F ys ao)) H := hP
  have hD : va_D A ((wZ cI cZ h lev (tm + n) nL nC B (stpZ tm nL nC B (gn, nE, L, C, E) n) ++ [(qo, .inl (cJ, 1, .inr (.inl (vp_updL o 0 (nI (stpZ tm nL nC B (gn, nE, L, C, E) n).2.1 - nI nE).toInt64))))]) ++ (wM cI cZ g cd lev tm gn nL nC nE L B C F ys ao)) := hD
  refine lv_istore (lv' := [(5, .int 0), (0, .ref sb), (1, .ref (h 0)), (2, .ref (g 0)), (3, .ref qo), (4, .int (nI i))]) hx hb dL_law_299 hl (by decide) rfl (fun ls hl => ?_)
  refine lv_aload_n hx hb dL_law_301 rfl (lv_at hl 3 rfl) ?_
  refine lv_aload_n hx hb dL_law_302 rfl (lv_at hl 1 rfl) ?_
  refine lv_iload hx hb dL_law_303 (lv_at hl 5 rfl) ?_
  refine lv_iconst (v := 1) hx hb dL_law_305 (by decide) ?_
  refine zn_add (i := i) (j := 1) hx hb dL_law_306 ?_
  refine z_sld (k := i + 1) (v := nI n) hx hb hXs hbl hbA hS (by omega) (by omega) e1 dL_law_307 ?_
  refine z_backTi (wa := (wZ cI cZ h lev (tm + n) nL nC B (stpZ tm nL nC B (gn, nE, L, C, E) n) ++ [(qo, .inl (cJ, 1, .inr (.inl (vp_updL o 0 (nI (stpZ tm nL nC B (gn, nE, L, C, E) n).2.1 - nI nE).toInt64))))])) (w := (wM cI cZ g cd lev tm gn nL nC nE L B C F ys ao)) (z_runVT (wa := (wZ cI cZ h lev (tm + n) nL nC B (stpZ tm nL nC B (gn, nE, L, C, E) n) ++ [(qo, .inl (cJ, 1, .inr (.inl (vp_updL o 0 (nI (stpZ tm nL nC B (gn, nE, L, C, E) n).2.1 - nI nE).toInt64))))])) (w := (wM cI cZ g cd lev tm gn nL nC nE L B C F ys ao)) (n := 1) (As := [.int (nI n)]) (ci := 5) (rest := []) hx hb hml hown hts hK hE hP hD (tX4_step_ok l D cI cZ cJ g cd lev tm gn nL nC nE L B C F ys ao n m_hn m_hL m_hC m_hok _) gL_law_X4_step rfl rfl rfl (by decide +kernel) ⟨Nat.le_of_ble_eq_true rfl, Nat.le_of_ble_eq_true rfl⟩ rfl rfl rfl hl.1 rfl (Nat.le_of_ble_eq_true rfl) dL_law_308 hroom) hP hD hS hA (fun r2 w1 H locs hp2 hP hD hS => ?_)
  obtain ⟨rfl, rfl⟩ := hp2
  have hP : va_P D vwCl ((wZ cI cZ h lev (tm + n) nL nC B (stpZ tm nL nC B (gn, nE, L, C, E) n) ++ [(qo, .inl (cJ, 1, .inr (.inl (vp_updL o 0 (nI (stpZ tm nL nC B (gn, nE, L, C, E) n).2.1 - nI nE).toInt64))))]) ++ (wM cI cZ g 0 lev (tm + n) (stpM tm nL nC B (gn, nE, L, C, F) n).1 nL nC (stpM tm nL nC B (gn, nE, L, C, F) n).2.1 (stpM tm nL nC B (gn, nE, L, C, F) n).2.2.1 B (stpM tm nL nC B (gn, nE, L, C, F) n).2.2.2.1 (stpM tm nL nC B (gn, nE, L, C, F) n).2.2.2.2 ys ao)) H := hP
  have hD : va_D A ((wZ cI cZ h lev (tm + n) nL nC B (stpZ tm nL nC B (gn, nE, L, C, E) n) ++ [(qo, .inl (cJ, 1, .inr (.inl (vp_updL o 0 (nI (stpZ tm nL nC B (gn, nE, L, C, E) n).2.1 - nI nE).toInt64))))]) ++ (wM cI cZ g 0 lev (tm + n) (stpM tm nL nC B (gn, nE, L, C, F) n).1 nL nC (stpM tm nL nC B (gn, nE, L, C, F) n).2.1 (stpM tm nL nC B (gn, nE, L, C, F) n).2.2.1 B (stpM tm nL nC B (gn, nE, L, C, F) n).2.2.2.1 (stpM tm nL nC B (gn, nE, L, C, F) n).2.2.2.2 ys ao)) := hD
  refine lv_istore (lv' := [(6, .int (nI (stpM tm nL nC B (gn, nE, L, C, F) n).2.1 - nI nE)), (5, .int 0), (0, .ref sb), (1, .ref (h 0)), (2, .ref (g 0)), (3, .ref qo), (4, .int (nI i))]) hx hb dL_law_311 hl (by decide) rfl (fun ls hl => ?_)
  refine lv_aload_n hx hb dL_law_313 rfl (lv_at hl 4 rfl) ?_
  refine z_backTi (wa := (wZ cI cZ h lev (tm + n) nL nC B (stpZ tm nL nC B (gn, nE, L, C, E) n) ++ [(qo, .inl (cJ, 1, .inr (.inl (vp_updL o 0 (nI (stpZ tm nL nC B (gn, nE, L, C, E) n).2.1 - nI nE).toInt64))))])) (w := (wM cI cZ g 0 lev (tm + n) (stpM tm nL nC B (gn, nE, L, C, F) n).1 nL nC (stpM tm nL nC B (gn, nE, L, C, F) n).2.1 (stpM tm nL nC B (gn, nE, L, C, F) n).2.2.1 B (stpM tm nL nC B (gn, nE, L, C, F) n).2.2.2.1 (stpM tm nL nC B (gn, nE, L, C, F) n).2.2.2.2 ys ao)) (z_runVT (wa := (wZ cI cZ h lev (tm + n) nL nC B (stpZ tm nL nC B (gn, nE, L, C, E) n) ++ [(qo, .inl (cJ, 1, .inr (.inl (vp_updL o 0 (nI (stpZ tm nL nC B (gn, nE, L, C, E) n).2.1 - nI nE).toInt64))))])) (w := (wM cI cZ g 0 lev (tm + n) (stpM tm nL nC B (gn, nE, L, C, F) n).1 nL nC (stpM tm nL nC B (gn, nE, L, C, F) n).2.1 (stpM tm nL nC B (gn, nE, L, C, F) n).2.2.1 B (stpM tm nL nC B (gn, nE, L, C, F) n).2.2.2.1 (stpM tm nL nC B (gn, nE, L, C, F) n).2.2.2.2 ys ao)) (n := 0) (As := []) (ci := 5) (rest := []) hx hb hml hown hts hK hE hP hD (tX4_thrown l D cI cZ cJ g 0 lev (tm + n) (stpM tm nL nC B (gn, nE, L, C, F) n).1 nL nC (stpM tm nL nC B (gn, nE, L, C, F) n).2.1 (stpM tm nL nC B (gn, nE, L, C, F) n).2.2.1 B (stpM tm nL nC B (gn, nE, L, C, F) n).2.2.2.1 (stpM tm nL nC B (gn, nE, L, C, F) n).2.2.2.2 ys ao _) gL_law_X4_thrown rfl rfl rfl (by decide +kernel) ⟨Nat.le_of_ble_eq_true rfl, Nat.le_of_ble_eq_true rfl⟩ rfl rfl rfl hl.1 rfl (Nat.le_of_ble_eq_true rfl) dL_law_314 hroom) hP hD hS hA (fun r3 w1 H locs hp3 hP hD hS => ?_)
  obtain ⟨rfl, rfl⟩ := hp3
  have hP : va_P D vwCl ((wZ cI cZ h lev (tm + n) nL nC B (stpZ tm nL nC B (gn, nE, L, C, E) n) ++ [(qo, .inl (cJ, 1, .inr (.inl (vp_updL o 0 (nI (stpZ tm nL nC B (gn, nE, L, C, E) n).2.1 - nI nE).toInt64))))]) ++ (wM cI cZ g 0 lev (tm + n) (stpM tm nL nC B (gn, nE, L, C, F) n).1 nL nC (stpM tm nL nC B (gn, nE, L, C, F) n).2.1 (stpM tm nL nC B (gn, nE, L, C, F) n).2.2.1 B (stpM tm nL nC B (gn, nE, L, C, F) n).2.2.2.1 (stpM tm nL nC B (gn, nE, L, C, F) n).2.2.2.2 ys ao)) H := hP
  have hD : va_D A ((wZ cI cZ h lev (tm + n) nL nC B (stpZ tm nL nC B (gn, nE, L, C, E) n) ++ [(qo, .inl (cJ, 1, .inr (.inl (vp_updL o 0 (nI (stpZ tm nL nC B (gn, nE, L, C, E) n).2.1 - nI nE).toInt64))))]) ++ (wM cI cZ g 0 lev (tm + n) (stpM tm nL nC B (gn, nE, L, C, F) n).1 nL nC (stpM tm nL nC B (gn, nE, L, C, F) n).2.1 (stpM tm nL nC B (gn, nE, L, C, F) n).2.2.1 B (stpM tm nL nC B (gn, nE, L, C, F) n).2.2.2.1 (stpM tm nL nC B (gn, nE, L, C, F) n).2.2.2.2 ys ao)) := hD
  refine lv_iload hx hb dL_law_317 (lv_at hl 1 rfl) ?_
  refine zn_eq (i := 0) (j := 0) (tgt := 324) hx hb (by omega) (by omega) dL_law_319 (by decide) (fun c319 => ?_) (fun c319 => ?_)
  · skip
    refine lv_iload hx hb dL_law_324 (lv_at hl 1 rfl) ?_
    refine lv_if_ne (x := 0) (tgt := 341) hx hb dL_law_326 (by decide) (fun c326 => ?_) (fun c326 => ?_)
    · exact absurd c326 (by decide)
    · skip
      refine lv_aload_n hx hb dL_law_329 rfl (lv_at hl 5 rfl) ?_
      refine lv_iconst (v := 0) hx hb dL_law_330 (by decide) ?_
      refine z_lald0 hx hb hK hP 24 rfl dL_law_331 ?_
      refine lv_iload hx hb dL_law_332 (lv_at hl 0 rfl) ?_
      refine lv_i2l (v := (nI (stpM tm nL nC B (gn, nE, L, C, F) n).2.1 - nI nE).toInt64) hx hb dL_law_334 rfl ?_
      refine W.lcmp (x := (vp_updL o 0 (nI (stpZ tm nL nC B (gn, nE, L, C, E) n).2.1 - nI nE).toInt64) 0) (y := (nI (stpM tm nL nC B (gn, nE, L, C, F) n).2.1 - nI nE).toInt64) hx hb dL_law_335 ?_
      refine z_top (lg_eq hr) ?_
      refine lv_if_eq (x := 0) (tgt := 341) hx hb dL_law_336 (by decide) (fun c336 => ?_) (fun c336 => ?_)
      · skip
        refine lv_goto (tgt := 1117) hx hb dL_law_341 (by decide) ?_
        exact kk H locs ls (lv_sub hl [2, 3, 4, 5, 6] rfl) hP hD hS
      · exact absurd c336 (by decide)
  · exact absurd c319 (by omega)


set_option maxHeartbeats 4000000 in
set_option maxRecDepth 100000 in
theorem law_step_xa {p : Program} {l : Launch} {e : Env} {s : State} {m : MethodId} {below : List Frame} {meth : Method} {c : Code} {Q : State → Prop} {sb Ln : Nat} {xs : Nat → Int32} {D : va_G} {cI cZ cJ : ClassId} {A : Nat → Prop} {sa : Nat → Nat} (cx : zCx p l s m meth c sb Ln xs D cI cZ cJ A sa) (h g : Nat → Nat) (lev tm : Nat) (gn : Int32) (nL nC nE : Nat) (L B C E F : Nat → Nat → Int32) (qo : Nat) (o : Nat → Int64) (cd : Int32) (ys ao : Nat → Int32) (i : Nat) (hi : i + 5 ≤ Ln) (v : Int32) (hno : inB v 0 200 = false) (hL : nL ≤ 4) (hC : nC ≤ 24) (m_hno : inB v 0 200 = false) (e1 : xs (i + 1) = v) {H : Heap} {locs : List Loc} {cells slots : Nat} {ls : Array Slot} (hl : lv_has ls 7 [(0, .ref sb), (1, .ref (h 0)), (2, .ref (g 0)), (3, .ref qo), (4, .int (nI i))]) (hP : va_P D vwCl (wV cI cZ cJ h lev tm gn nL nC nE L B C E qo o ++ wM cI cZ g cd lev tm gn nL nC nE L B C F ys ao) H) (hD : va_D A (wV cI cZ cJ h lev tm gn nL nC nE L B C E qo o ++ wM cI cZ g cd lev tm gn nL nC nE L B C F ys ao)) (hS : va_S A s.heap H locs) (hroom : cells + 1 ≤ room_1.cells ∧ slots + 6 ≤ room_1.slots) (kk : ∀ (H1 : Heap) (locs1 : List Loc) (ls1 : Array Slot), lv_has ls1 7 [(0, .ref sb), (1, .ref (h 0)), (2, .ref (g 0)), (3, .ref qo), (4, .int (nI i))] → va_P D vwCl (wX cI cZ h lev tm gn nL nC nE L B C E ++ [(qo, .inl (cJ, 1, .inr (.inl o)))] ++ wM cI cZ g 1 lev tm gn nL nC nE L B C F ys ao) H1 → va_D A (wX cI cZ h lev tm gn nL nC nE L B C E ++ [(qo, .inl (cJ, 1, .inr (.inl o)))] ++ wM cI cZ g 1 lev tm gn nL nC nE L B C F ys ao) → va_S A s.heap H1 locs1 → W p l e room_1 s m #[Value.ref sb] below meth c H1 locs1 (cells + 1) (slots + 6) Q (F0 m 1117 ls1 []))  : W p l e room_1 s m #[Value.ref sb] below meth c H locs cells slots Q (F0 m 288 ls []) := by
  obtain ⟨hx, hb, hr9, hml, hlocks, hown, htsO, hK, hE, hX, hN, hA, hXs, hbl, hbA, hl9, hLn⟩ := cx
  have hts : ∀ w ∈ wsL_law, w.before #[Value.ref sb] s = true := fun w h9 => htsO w (lawO_l h9)
  refine lv_aload_n hx hb dL_law_288 rfl (lv_at hl 1 rfl) ?_
  refine lv_aload_n hx hb dL_law_289 rfl (lv_at hl 0 rfl) ?_
  refine lv_iload hx hb dL_law_290 (lv_at hl 4 rfl) ?_
  refine lv_iconst (v := 1) hx hb dL_law_292 (by decide) ?_
  refine zn_add (i := i) (j := 1) hx hb dL_law_293 ?_
  refine z_sld (k := i + 1) (v := v) hx hb hXs hbl hbA hS (by omega) (by omega) e1 dL_law_294 ?_
  refine lv_aload_n hx hb dL_law_295 rfl (lv_at hl 3 rfl) ?_
  refine z_backSi (wa := []) (w := (wV cI cZ cJ h lev tm gn nL nC nE L B C E qo o)) (wb := (wM cI cZ g cd lev tm gn nL nC nE L B C F ys ao)) (z_runSL (wa := []) (w := (wV cI cZ cJ h lev tm gn nL nC nE L B C E qo o)) (wb := (wM cI cZ g cd lev tm gn nL nC nE L B C F ys ao)) (n := 3) (As := [.ref (h 0), .int v, .ref qo]) (rest := []) hx hb hml hown hts hK hE hX hN hS hA hP hD (tL_step_xa l D cI cZ cJ h lev tm gn nL nC nE L B C E v hno hL hC qo o sa hl9 _) gL_law_L_step rfl rfl rfl (by decide +kernel) ⟨Nat.le_of_ble_eq_true rfl, Nat.le_of_ble_eq_true rfl⟩ rfl hl.1 rfl (Nat.le_of_ble_eq_true rfl) dL_law_296 hroom) hP hD hS hA (fun r1 w1 H locs hp1 hP hD hS => ?_)
  obtain ⟨rfl, rfl⟩ := hp1
  have hP : va_P D vwCl ((wX cI cZ h lev tm gn nL nC nE L B C E ++ [(qo, .inl (cJ, 1, .inr (.inl o)))]) ++ (wM cI cZ g cd lev tm gn nL nC nE L B C F ys ao)) H := hP
  have hD : va_D A ((wX cI cZ h lev tm gn nL nC nE L B C E ++ [(qo, .inl (cJ, 1, .inr (.inl o)))]) ++ (wM cI cZ g cd lev tm gn nL nC nE L B C F ys ao)) := hD
  refine lv_istore (lv' := [(5, .int 1), (0, .ref sb), (1, .ref (h 0)), (2, .ref (g 0)), (3, .ref qo), (4, .int (nI i))]) hx hb dL_law_299 hl (by decide) rfl (fun ls hl => ?_)
  refine lv_aload_n hx hb dL_law_301 rfl (lv_at hl 3 rfl) ?_
  refine lv_aload_n hx hb dL_law_302 rfl (lv_at hl 1 rfl) ?_
  refine lv_iload hx hb dL_law_303 (lv_at hl 5 rfl) ?_
  refine lv_iconst (v := 1) hx hb dL_law_305 (by decide) ?_
  refine zn_add (i := i) (j := 1) hx hb dL_law_306 ?_
  refine z_sld (k := i + 1) (v := v) hx hb hXs hbl hbA hS (by omega) (by omega) e1 dL_law_307 ?_
  refine z_backTi (wa := (wX cI cZ h lev tm gn nL nC nE L B C E ++ [(qo, .inl (cJ, 1, .inr (.inl o)))])) (w := (wM cI cZ g cd lev tm gn nL nC nE L B C F ys ao)) (z_runVT (wa := (wX cI cZ h lev tm gn nL nC nE L B C E ++ [(qo, .inl (cJ, 1, .inr (.inl o)))])) (w := (wM cI cZ g cd lev tm gn nL nC nE L B C F ys ao)) (n := 1) (As := [.int v]) (ci := 5) (rest := []) hx hb hml hown hts hK hE hP hD (tX4_step_no l D cI cZ cJ g cd lev tm gn nL nC nE L B C F ys ao v m_hno _) gL_law_X4_step rfl rfl rfl (by decide +kernel) ⟨Nat.le_of_ble_eq_true rfl, Nat.le_of_ble_eq_true rfl⟩ rfl rfl rfl hl.1 rfl (Nat.le_of_ble_eq_true rfl) dL_law_308 hroom) hP hD hS hA (fun r2 w1 H locs hp2 hP hD hS => ?_)
  obtain ⟨rfl, rfl⟩ := hp2
  have hP : va_P D vwCl ((wX cI cZ h lev tm gn nL nC nE L B C E ++ [(qo, .inl (cJ, 1, .inr (.inl o)))]) ++ (wM cI cZ g 1 lev tm gn nL nC nE L B C F ys ao)) H := hP
  have hD : va_D A ((wX cI cZ h lev tm gn nL nC nE L B C E ++ [(qo, .inl (cJ, 1, .inr (.inl o)))]) ++ (wM cI cZ g 1 lev tm gn nL nC nE L B C F ys ao)) := hD
  refine lv_istore (lv' := [(6, .int 0), (5, .int 1), (0, .ref sb), (1, .ref (h 0)), (2, .ref (g 0)), (3, .ref qo), (4, .int (nI i))]) hx hb dL_law_311 hl (by decide) rfl (fun ls hl => ?_)
  refine lv_aload_n hx hb dL_law_313 rfl (lv_at hl 4 rfl) ?_
  refine z_backTi (wa := (wX cI cZ h lev tm gn nL nC nE L B C E ++ [(qo, .inl (cJ, 1, .inr (.inl o)))])) (w := (wM cI cZ g 1 lev tm gn nL nC nE L B C F ys ao)) (z_runVT (wa := (wX cI cZ h lev tm gn nL nC nE L B C E ++ [(qo, .inl (cJ, 1, .inr (.inl o)))])) (w := (wM cI cZ g 1 lev tm gn nL nC nE L B C F ys ao)) (n := 0) (As := []) (ci := 5) (rest := []) hx hb hml hown hts hK hE hP hD (tX4_thrown l D cI cZ cJ g 1 lev tm gn nL nC nE L B C F ys ao _) gL_law_X4_thrown rfl rfl rfl (by decide +kernel) ⟨Nat.le_of_ble_eq_true rfl, Nat.le_of_ble_eq_true rfl⟩ rfl rfl rfl hl.1 rfl (Nat.le_of_ble_eq_true rfl) dL_law_314 hroom) hP hD hS hA (fun r3 w1 H locs hp3 hP hD hS => ?_)
  obtain ⟨rfl, rfl⟩ := hp3
  have hP : va_P D vwCl ((wX cI cZ h lev tm gn nL nC nE L B C E ++ [(qo, .inl (cJ, 1, .inr (.inl o)))]) ++ (wM cI cZ g 1 lev tm gn nL nC nE L B C F ys ao)) H := hP
  have hD : va_D A ((wX cI cZ h lev tm gn nL nC nE L B C E ++ [(qo, .inl (cJ, 1, .inr (.inl o)))]) ++ (wM cI cZ g 1 lev tm gn nL nC nE L B C F ys ao)) := hD
  refine lv_iload hx hb dL_law_317 (lv_at hl 1 rfl) ?_
  refine zn_eq (i := 1) (j := 1) (tgt := 324) hx hb (by omega) (by omega) dL_law_319 (by decide) (fun c319 => ?_) (fun c319 => ?_)
  · skip
    refine lv_iload hx hb dL_law_324 (lv_at hl 1 rfl) ?_
    refine lv_if_ne (x := 1) (tgt := 341) hx hb dL_law_326 (by decide) (fun c326 => ?_) (fun c326 => ?_)
    · skip
      refine lv_goto (tgt := 1117) hx hb dL_law_341 (by decide) ?_
      exact kk H locs ls (lv_sub hl [2, 3, 4, 5, 6] rfl) hP hD hS
    · exact absurd c326 (by decide)
  · exact absurd c319 (by omega)
