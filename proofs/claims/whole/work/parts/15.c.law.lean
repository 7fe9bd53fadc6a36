def wsL_levelO : List Cond := .codeWith yL_level cL_level 4 (some .int) [(0, 9, 12, 28), (0, 9, 15, 33)] :: (wsL_level.tail ++ [Cond.classLink RL 33 zAO] ++ zWO.filter goodWord)
set_option maxRecDepth 100000 in
theorem gL_levelO : GoodIn wsL_levelO (wsV RL 30 RX3 yX3_level wsX3_levelO) := goodIn_of _ (by decide +kernel)

set_option maxHeartbeats 4000000 in
set_option maxRecDepth 100000 in
theorem tL_lift_ok (l : Launch) (D : va_G) (cI cZ cJ : ClassId) (h : Nat → Nat) (lev tm : Nat) (gn : Int32) (nL nC nE : Nat) (L B C E : Nat → Nat → Int32) (v u : Int32) (h1 : inB v 0 (nI lev - 1) = true) (h2 : inB u 1 50 = true) (h4 : nL < 4) (qo : Nat) (o : Nat → Int64) (sa : Nat → Nat)  : ∀ sz : Nat, zML l yL_lift wsL_lift ({ frames := 2, cells := 1, slots := 6, locals := 45 } : Room) D cI cZ cJ (wV cI cZ cJ h lev tm gn nL nC nE L B C E qo o) sz [.ref (h 0), .int v, .int u, .ref qo] sa (fun r w' => r = 0 ∧ w' = wX cI cZ h lev tm gn (nL + 1) nC nE (upC (upC L 0 nL v) 1 nL u) B C E ++ [(qo, .inl (cJ, 1, .inr (.inl (vp_updL o 0 (nI nL).toInt64))))]) := by
  intro sz
  refine z_headL (y := yL_lift) (av := [.ref (h 0), .int v, .int u, .ref qo]) (w := (wV cI cZ cJ h lev tm gn nL nC nE L B C E qo o)) (cc := cL_lift) (maxL := 5) (ret := (some .int)) (hh := [(0, 10, 13, 13), (0, 10, 17, 15)]) (by decide) rfl (Nat.le_of_ble_eq_true rfl) ?_
  intro p e s m below meth c ls A hat hX hN hT hP hD hS hl
  obtain ⟨hx, hb, hr, hml, hlocks, hts, hown, hin, hK, hE, hA⟩ := hat
  have hP : va_P D vwCl (wX cI cZ h lev tm gn nL nC nE L B C E ++ [(qo, .inl (cJ, 1, .inr (.inl o)))]) s.heap := hP
  have hD : va_D A (wX cI cZ h lev tm gn nL nC nE L B C E ++ [(qo, .inl (cJ, 1, .inr (.inl o)))]) := hD
  have hl : lv_has ls 5 [(0, .ref (h 0)), (1, .int v), (2, .int u), (3, .ref qo)] := hl
  refine lv_aload_n hx hb dL_lift_0 rfl (lv_at hl 3 rfl) ?_
  refine lv_iconst (v := 0) hx hb dL_lift_1 (by decide) ?_
  refine lv_aload_n hx hb dL_lift_2 rfl (lv_at hl 0 rfl) ?_
  refine lv_iload_n hx hb dL_lift_3 rfl (lv_at hl 1 rfl) ?_
  refine lv_iload_n hx hb dL_lift_4 rfl (lv_at hl 2 rfl) ?_
  refine z_backSi (wa := []) (w := (wX cI cZ h lev tm gn nL nC nE L B C E)) (wb := [(qo, .inl (cJ, 1, .inr (.inl o)))]) (z_runVS (wa := []) (w := (wX cI cZ h lev tm gn nL nC nE L B C E)) (wb := [(qo, .inl (cJ, 1, .inr (.inl o)))]) (n := 2) (As := [.int v, .int u]) (ci := 4) (rest := [.int 0, .ref qo]) hx hb hml hown hts hK hE hP hD (tX3_lift_ok l D cI cZ cJ h lev tm gn nL nC nE L B C E v u h1 h2 h4 _) gL_lift_X3_lift rfl rfl rfl (by decide +kernel) ⟨Nat.le_of_ble_eq_true rfl, Nat.le_of_ble_eq_true rfl⟩ rfl rfl rfl hl.1 rfl (Nat.le_of_ble_eq_true rfl) dL_lift_5 ⟨Nat.zero_le _, Nat.zero_le _⟩) hP hD hS hA (fun r1 w1 H locs hp1 hP hD hS => ?_)
  obtain ⟨rfl, rfl⟩ := hp1
  have hP : va_P D vwCl (wX cI cZ h lev tm gn (nL + 1) nC nE (upC (upC L 0 nL v) 1 nL u) B C E ++ [(qo, .inl (cJ, 1, .inr (.inl o)))]) H := hP
  have hD : va_D A (wX cI cZ h lev tm gn (nL + 1) nC nE (upC (upC L 0 nL v) 1 nL u) B C E ++ [(qo, .inl (cJ, 1, .inr (.inl o)))]) := hD
  refine lv_i2l (v := (nI nL).toInt64) hx hb dL_lift_8 rfl ?_
  refine z_last0 (x := (nI nL).toInt64) hx hb hK hP hD hS 24 rfl dL_lift_9 (fun H locs hP hD hS => ?_)
  have hP : va_P D vwCl (wX cI cZ h lev tm gn (nL + 1) nC nE (upC (upC L 0 nL v) 1 nL u) B C E ++ [(qo, .inl (cJ, 1, .inr (.inl (vp_updL o 0 ((nI nL).toInt64)))))]) H := hP
  have hD : va_D A (wX cI cZ h lev tm gn (nL + 1) nC nE (upC (upC L 0 nL v) 1 nL u) B C E ++ [(qo, .inl (cJ, 1, .inr (.inl (vp_updL o 0 ((nI nL).toInt64)))))]) := hD
  refine lv_goto (tgt := 21) hx hb dL_lift_10 (by decide) ?_
  refine lv_iconst (v := 0) hx hb dL_lift_21 (by decide) ?_
  refine W.widen (k := 1) (n := 6) (Nat.zero_le _) (Nat.zero_le _) ?_
  exact z_iret hx hb hr hlocks hS hP rfl dL_lift_22 (⟨rfl, rfl⟩)


set_option maxHeartbeats 4000000 in
set_option maxRecDepth 100000 in
theorem tL_call_ok (l : Launch) (D : va_G) (cI cZ cJ : ClassId) (h : Nat → Nat) (lev tm : Nat) (gn : Int32) (nL nC nE : Nat) (L B C E : Nat → Nat → Int32) (a b rk q : Int32) (h1 : inB a 0 (nI lev - 1) = true) (h2 : inB b 0 (nI lev - 1) = true) (h3 : ¬ a = b) (h4 : inB rk 1 3 = true) (h5 : inB q 1 50 = true) (h6 : nC < 24) (hL : nL ≤ 4) (qo : Nat) (o : Nat → Int64) (sa : Nat → Nat)  : ∀ sz : Nat, zML l yL_call wsL_call ({ frames := 3, cells := 1, slots := 6, locals := 73 } : Room) D cI cZ cJ (wV cI cZ cJ h lev tm gn nL nC nE L B C E qo o) sz [.ref (h 0), .int a, .int b, .int rk, .int q, .ref qo] sa (fun r w' => r = 0 ∧ w' = wX cI cZ h lev tm gn nL (nC + 1) nE L B (upC (addC C nC a b rk q (nI tm)) 5 nC (nlF L B a q nL).1) E ++ [(qo, .inl (cJ, 1, .inr (.inl (vp_updL o 0 (nI nC).toInt64))))]) := by
  intro sz
  refine z_headL (y := yL_call) (av := [.ref (h 0), .int a, .int b, .int rk, .int q, .ref qo]) (w := (wV cI cZ cJ h lev tm gn nL nC nE L B C E qo o)) (cc := cL_call) (maxL := 7) (ret := (some .int)) (hh := [(0, 14, 17, 13), (0, 14, 21, 15)]) (by decide) rfl (Nat.le_of_ble_eq_true rfl) ?_
  intro p e s m below meth c ls A hat hX hN hT hP hD hS hl
  obtain ⟨hx, hb, hr, hml, hlocks, hts, hown, hin, hK, hE, hA⟩ := hat
  have hP : va_P D vwCl (wX cI cZ h lev tm gn nL nC nE L B C E ++ [(qo, .inl (cJ, 1, .inr (.inl o)))]) s.heap := hP
  have hD : va_D A (wX cI cZ h lev tm gn nL nC nE L B C E ++ [(qo, .inl (cJ, 1, .inr (.inl o)))]) := hD
  have hl : lv_has ls 7 [(0, .ref (h 0)), (1, .int a), (2, .int b), (3, .int rk), (4, .int q), (5, .ref qo)] := hl
  refine lv_aload hx hb dL_call_0 (lv_at hl 5 rfl) ?_
  refine lv_iconst (v := 0) hx hb dL_call_2 (by decide) ?_
  refine lv_aload_n hx hb dL_call_3 rfl (lv_at hl 0 rfl) ?_
  refine lv_iload_n hx hb dL_call_4 rfl (lv_at hl 1 rfl) ?_
  refine lv_iload_n hx hb dL_call_5 rfl (lv_at hl 2 rfl) ?_
  refine lv_iload_n hx hb dL_call_6 rfl (lv_at hl 3 rfl) ?_
  refine lv_iload hx hb dL_call_7 (lv_at hl 4 rfl) ?_
  refine z_backSi (wa := []) (w := (wX cI cZ h lev tm gn nL nC nE L B C E)) (wb := [(qo, .inl (cJ, 1, .inr (.inl o)))]) (z_runVS (wa := []) (w := (wX cI cZ h lev tm gn nL nC nE L B C E)) (wb := [(qo, .inl (cJ, 1, .inr (.inl o)))]) (n := 4) (As := [.int a, .int b, .int rk, .int q]) (ci := 4) (rest := [.int 0, .ref qo]) hx hb hml hown hts hK hE hP hD (tX3_call_ok l D cI cZ cJ h lev tm gn nL nC nE L B C E a b rk q h1 h2 h3 h4 h5 h6 hL _) gL_call_X3_call rfl rfl rfl (by decide +kernel) ⟨Nat.le_of_ble_eq_true rfl, Nat.le_of_ble_eq_true rfl⟩ rfl rfl rfl hl.1 rfl (Nat.le_of_ble_eq_true rfl) dL_call_9 ⟨Nat.zero_le _, Nat.zero_le _⟩) hP hD hS hA (fun r1 w1 H locs hp1 hP hD hS => ?_)
  obtain ⟨rfl, rfl⟩ := hp1
  have hP : va_P D vwCl (wX cI cZ h lev tm gn nL (nC + 1) nE L B (upC (addC C nC a b rk q (nI tm)) 5 nC (nlF L B a q nL).1) E ++ [(qo, .inl (cJ, 1, .inr (.inl o)))]) H := hP
  have hD : va_D A (wX cI cZ h lev tm gn nL (nC + 1) nE L B (upC (addC C nC a b rk q (nI tm)) 5 nC (nlF L B a q nL).1) E ++ [(qo, .inl (cJ, 1, .inr (.inl o)))]) := hD
  refine lv_i2l (v := (nI nC).toInt64) hx hb dL_call_12 rfl ?_
  refine z_last0 (x := (nI nC).toInt64) hx hb hK hP hD hS 24 rfl dL_call_13 (fun H locs hP hD hS => ?_)
  have hP : va_P D vwCl (wX cI cZ h lev tm gn nL (nC + 1) nE L B (upC (addC C nC a b rk q (nI tm)) 5 nC (nlF L B a q nL).1) E ++ [(qo, .inl (cJ, 1, .inr (.inl (vp_updL o 0 ((nI nC).toInt64)))))]) H := hP
  have hD : va_D A (wX cI cZ h lev tm gn nL (nC + 1) nE L B (upC (addC C nC a b rk q (nI tm)) 5 nC (nlF L B a q nL).1) E ++ [(qo, .inl (cJ, 1, .inr (.inl (vp_updL o 0 ((nI nC).toInt64)))))]) := hD
  refine lv_goto (tgt := 25) hx hb dL_call_14 (by decide) ?_
  refine lv_iconst (v := 0) hx hb dL_call_25 (by decide) ?_
  refine W.widen (k := 1) (n := 6) (Nat.zero_le _) (Nat.zero_le _) ?_
  exact z_iret hx hb hr hlocks hS hP rfl dL_call_26 (⟨rfl, rfl⟩)


set_option maxHeartbeats 4000000 in
set_option maxRecDepth 100000 in
theorem tL_step_ok (l : Launch) (D : va_G) (cI cZ cJ : ClassId) (h : Nat → Nat) (lev tm : Nat) (gn : Int32) (nL nC nE : Nat) (L B C E : Nat → Nat → Int32) (n : Nat) (hn : n ≤ 200) (hL : nL ≤ 4) (hC : nC ≤ 24) (hNE : nE ≤ 48) (qo : Nat) (o : Nat → Int64) (sa : Nat → Nat)  : ∀ sz : Nat, zML l yL_step wsL_step ({ frames := 7, cells := 1, slots := 6, locals := 159 } : Room) D cI cZ cJ (wV cI cZ cJ h lev tm gn nL nC nE L B C E qo o) sz [.ref (h 0), .int (nI n), .ref qo] sa (fun r w' => r = 0 ∧ w' = wZ cI cZ h lev (tm + n) nL nC B (stpZ tm nL nC B (gn, nE, L, C, E) n) ++ [(qo, .inl (cJ, 1, .inr (.inl (vp_updL o 0 (nI (stpZ tm nL nC B (gn, nE, L, C, E) n).2.1 - nI nE).toInt64))))]) := by
  intro sz
  refine z_headL (y := yL_step) (av := [.ref (h 0), .int (nI n), .ref qo]) (w := (wV cI cZ cJ h lev tm gn nL nC nE L B C E qo o)) (cc := cL_step) (maxL := 4) (ret := (some .int)) (hh := [(0, 9, 12, 13)]) (by decide) rfl (Nat.le_of_ble_eq_true rfl) ?_
  intro p e s m below meth c ls A hat hX hN hT hP hD hS hl
  obtain ⟨hx, hb, hr, hml, hlocks, hts, hown, hin, hK, hE, hA⟩ := hat
  have hP : va_P D vwCl (wX cI cZ h lev tm gn nL nC nE L B C E ++ [(qo, .inl (cJ, 1, .inr (.inl o)))]) s.heap := hP
  have hD : va_D A (wX cI cZ h lev tm gn nL nC nE L B C E ++ [(qo, .inl (cJ, 1, .inr (.inl o)))]) := hD
  have hl : lv_has ls 4 [(0, .ref (h 0)), (1, .int (nI n)), (2, .ref qo)] := hl
  refine lv_aload_n hx hb dL_step_0 rfl (lv_at hl 2 rfl) ?_
  refine lv_iconst (v := 0) hx hb dL_step_1 (by decide) ?_
  refine lv_aload_n hx hb dL_step_2 rfl (lv_at hl 0 rfl) ?_
  refine lv_iload_n hx hb dL_step_3 rfl (lv_at hl 1 rfl) ?_
  refine z_backSi (wa := []) (w := (wX cI cZ h lev tm gn nL nC nE L B C E)) (wb := [(qo, .inl (cJ, 1, .inr (.inl o)))]) (z_runVS (wa := []) (w := (wX cI cZ h lev tm gn nL nC nE L B C E)) (wb := [(qo, .inl (cJ, 1, .inr (.inl o)))]) (n := 1) (As := [.int (nI n)]) (ci := 4) (rest := [.int 0, .ref qo]) hx hb hml hown hts hK hE hP hD (tX3_step_ok l D cI cZ cJ h lev tm gn nL nC nE L B C E n hn hL hC hNE _) gL_step_X3_step rfl rfl rfl (by decide +kernel) ⟨Nat.le_of_ble_eq_true rfl, Nat.le_of_ble_eq_true rfl⟩ rfl rfl rfl hl.1 rfl (Nat.le_of_ble_eq_true rfl) dL_step_4 ⟨Nat.zero_le _, Nat.zero_le _⟩) hP hD hS hA (fun r1 w1 H locs hp1 hP hD hS => ?_)
  obtain ⟨rfl, rfl⟩ := hp1
  have hP : va_P D vwCl (wZ cI cZ h lev (tm + n) nL nC B (stpZ tm nL nC B (gn, nE, L, C, E) n) ++ [(qo, .inl (cJ, 1, .inr (.inl o)))]) H := hP
  have hD : va_D A (wZ cI cZ h lev (tm + n) nL nC B (stpZ tm nL nC B (gn, nE, L, C, E) n) ++ [(qo, .inl (cJ, 1, .inr (.inl o)))]) := hD
  refine lv_i2l (v := (nI (stpZ tm nL nC B (gn, nE, L, C, E) n).2.1 - nI nE).toInt64) hx hb dL_step_7 rfl ?_
  refine z_last0 (x := (nI (stpZ tm nL nC B (gn, nE, L, C, E) n).2.1 - nI nE).toInt64) hx hb hK hP hD hS 24 rfl dL_step_8 (fun H locs hP hD hS => ?_)
  have hP : va_P D vwCl (wZ cI cZ h lev (tm + n) nL nC B (stpZ tm nL nC B (gn, nE, L, C, E) n) ++ [(qo, .inl (cJ, 1, .inr (.inl (vp_updL o 0 ((nI (stpZ tm nL nC B (gn, nE, L, C, E) n).2.1 - nI nE).toInt64)))))]) H := hP
  have hD : va_D A (wZ cI cZ h lev (tm + n) nL nC B (stpZ tm nL nC B (gn, nE, L, C, E) n) ++ [(qo, .inl (cJ, 1, .inr (.inl (vp_updL o 0 ((nI (stpZ tm nL nC B (gn, nE, L, C, E) n).2.1 - nI nE).toInt64)))))]) := hD
  refine lv_goto (tgt := 15) hx hb dL_step_9 (by decide) ?_
  refine lv_iconst (v := 0) hx hb dL_step_15 (by decide) ?_
  refine W.widen (k := 1) (n := 6) (Nat.zero_le _) (Nat.zero_le _) ?_
  exact z_iret hx hb hr hlocks hS hP rfl dL_step_16 (⟨rfl, rfl⟩)


set_option maxHeartbeats 4000000 in
set_option maxRecDepth 100000 in
theorem tL_event_ok (l : Launch) (D : va_G) (cI cZ cJ : ClassId) (h : Nat → Nat) (lev tm : Nat) (gn : Int32) (nL nC nE : Nat) (L B C E : Nat → Nat → Int32) (k : Nat) (hk : k < nE) (hNE : nE ≤ 48) (u : Int32) (h2 : inB u 0 3 = true) (qo : Nat) (o : Nat → Int64) (sa : Nat → Nat)  : ∀ sz : Nat, zML l yL_event wsL_event ({ frames := 2, cells := 1, slots := 6, locals := 44 } : Room) D cI cZ cJ (wV cI cZ cJ h lev tm gn nL nC nE L B C E qo o) sz [.ref (h 0), .int (nI k), .int u, .ref qo] sa (fun r w' => r = 0 ∧ w' = wX cI cZ h lev tm gn nL nC nE L B C E ++ [(qo, .inl (cJ, 1, .inr (.inl (vp_updL o 0 (evX E k u).toInt64))))]) := by
  intro sz
  refine z_headL (y := yL_event) (av := [.ref (h 0), .int (nI k), .int u, .ref qo]) (w := (wV cI cZ cJ h lev tm gn nL nC nE L B C E qo o)) (cc := cL_event) (maxL := 5) (ret := (some .int)) (hh := [(0, 10, 13, 28), (0, 10, 17, 13)]) (by decide) rfl (Nat.le_of_ble_eq_true rfl) ?_
  intro p e s m below meth c ls A hat hX hN hT hP hD hS hl
  obtain ⟨hx, hb, hr, hml, hlocks, hts, hown, hin, hK, hE, hA⟩ := hat
  have hP : va_P D vwCl (wX cI cZ h lev tm gn nL nC nE L B C E ++ [(qo, .inl (cJ, 1, .inr (.inl o)))]) s.heap := hP
  have hD : va_D A (wX cI cZ h lev tm gn nL nC nE L B C E ++ [(qo, .inl (cJ, 1, .inr (.inl o)))]) := hD
  have hl : lv_has ls 5 [(0, .ref (h 0)), (1, .int (nI k)), (2, .int u), (3, .ref qo)] := hl
  refine lv_aload_n hx hb dL_event_0 rfl (lv_at hl 3 rfl) ?_
  refine lv_iconst (v := 0) hx hb dL_event_1 (by decide) ?_
  refine lv_aload_n hx hb dL_event_2 rfl (lv_at hl 0 rfl) ?_
  refine lv_iload_n hx hb dL_event_3 rfl (lv_at hl 1 rfl) ?_
  refine lv_iload_n hx hb dL_event_4 rfl (lv_at hl 2 rfl) ?_
  refine z_backSi (wa := []) (w := (wX cI cZ h lev tm gn nL nC nE L B C E)) (wb := [(qo, .inl (cJ, 1, .inr (.inl o)))]) (z_runVS (wa := []) (w := (wX cI cZ h lev tm gn nL nC nE L B C E)) (wb := [(qo, .inl (cJ, 1, .inr (.inl o)))]) (n := 2) (As := [.int (nI k), .int u]) (ci := 4) (rest := [.int 0, .ref qo]) hx hb hml hown hts hK hE hP hD (tX3_event_ok l D cI cZ cJ h lev tm gn nL nC nE L B C E k hk hNE u h2 _) gL_event_X3_event rfl rfl rfl (by decide +kernel) ⟨Nat.le_of_ble_eq_true rfl, Nat.le_of_ble_eq_true rfl⟩ rfl rfl rfl hl.1 rfl (Nat.le_of_ble_eq_true rfl) dL_event_5 ⟨Nat.zero_le _, Nat.zero_le _⟩) hP hD hS hA (fun r1 w1 H locs hp1 hP hD hS => ?_)
  obtain ⟨rfl, rfl⟩ := hp1
  have hP : va_P D vwCl (wX cI cZ h lev tm gn nL nC nE L B C E ++ [(qo, .inl (cJ, 1, .inr (.inl o)))]) H := hP
  have hD : va_D A (wX cI cZ h lev tm gn nL nC nE L B C E ++ [(qo, .inl (cJ, 1, .inr (.inl o)))]) := hD
  refine lv_i2l (v := (evX E k u).toInt64) hx hb dL_event_8 rfl ?_
  refine z_last0 (x := (evX E k u).toInt64) hx hb hK hP hD hS 24 rfl dL_event_9 (fun H locs hP hD hS => ?_)
  have hP : va_P D vwCl (wX cI cZ h lev tm gn nL nC nE L B C E ++ [(qo, .inl (cJ, 1, .inr (.inl (vp_updL o 0 ((evX E k u).toInt64)))))]) H := hP
  have hD : va_D A (wX cI cZ h lev tm gn nL nC nE L B C E ++ [(qo, .inl (cJ, 1, .inr (.inl (vp_updL o 0 ((evX E k u).toInt64)))))]) := hD
  refine lv_goto (tgt := 21) hx hb dL_event_10 (by decide) ?_
  refine lv_iconst (v := 0) hx hb dL_event_21 (by decide) ?_
  refine W.widen (k := 1) (n := 6) (Nat.zero_le _) (Nat.zero_le _) ?_
  exact z_iret hx hb hr hlocks hS hP rfl dL_event_22 (⟨rfl, rfl⟩)


set_option maxHeartbeats 4000000 in
set_option maxRecDepth 100000 in
theorem tL_level_ok (l : Launch) (D : va_G) (cI cZ cJ : ClassId) (h : Nat → Nat) (lev tm : Nat) (gn : Int32) (nL nC nE : Nat) (L B C E : Nat → Nat → Int32) (k : Nat) (hk : k < nL) (hL : nL ≤ 4) (hC : nC ≤ 24) (qo : Nat) (o : Nat → Int64) (sa : Nat → Nat)  : ∀ sz : Nat, zML l yL_level wsL_level ({ frames := 2, cells := 1, slots := 6, locals := 42 } : Room) D cI cZ cJ (wV cI cZ cJ h lev tm gn nL nC nE L B C E qo o) sz [.ref (h 0), .int (nI k), .ref qo] sa (fun r w' => r = 0 ∧ w' = wX cI cZ h lev tm gn nL nC nE L B C E ++ [(qo, .inl (cJ, 1, .inr (.inl (vp_updL o 0 (L 0 k).toInt64))))]) := by
  intro sz
  refine z_headL (y := yL_level) (av := [.ref (h 0), .int (nI k), .ref qo]) (w := (wV cI cZ cJ h lev tm gn nL nC nE L B C E qo o)) (cc := cL_level) (maxL := 4) (ret := (some .int)) (hh := [(0, 9, 12, 28), (0, 9, 15, 33)]) (by decide) rfl (Nat.le_of_ble_eq_true rfl) ?_
  intro p e s m below meth c ls A hat hX hN hT hP hD hS hl
  obtain ⟨hx, hb, hr, hml, hlocks, hts, hown, hin, hK, hE, hA⟩ := hat
  have hP : va_P D vwCl (wX cI cZ h lev tm gn nL nC nE L B C E ++ [(qo, .inl (cJ, 1, .inr (.inl o)))]) s.heap := hP
  have hD : va_D A (wX cI cZ h lev tm gn nL nC nE L B C E ++ [(qo, .inl (cJ, 1, .inr (.inl o)))]) := hD
  have hl : lv_has ls 4 [(0, .ref (h 0)), (1, .int (nI k)), (2, .ref qo)] := hl
  refine lv_aload_n hx hb dL_level_0 rfl (lv_at hl 2 rfl) ?_
  refine lv_iconst (v := 0) hx hb dL_level_1 (by decide) ?_
  refine lv_aload_n hx hb dL_level_2 rfl (lv_at hl 0 rfl) ?_
  refine lv_iload_n hx hb dL_level_3 rfl (lv_at hl 1 rfl) ?_
  refine z_backSi (wa := []) (w := (wX cI cZ h lev tm gn nL nC nE L B C E)) (wb := [(qo, .inl (cJ, 1, .inr (.inl o)))]) (z_runVS (wa := []) (w := (wX cI cZ h lev tm gn nL nC nE L B C E)) (wb := [(qo, .inl (cJ, 1, .inr (.inl o)))]) (n := 1) (As := [.int (nI k)]) (ci := 4) (rest := [.int 0, .ref qo]) hx hb hml hown hts hK hE hP hD (tX3_level_ok l D cI cZ cJ h lev tm gn nL nC nE L B C E k hk hL hC _) gL_level_X3_level rfl rfl rfl (by decide +kernel) ⟨Nat.le_of_ble_eq_true rfl, Nat.le_of_ble_eq_true rfl⟩ rfl rfl rfl hl.1 rfl (Nat.le_of_ble_eq_true rfl) dL_level_4 ⟨Nat.zero_le _, Nat.zero_le _⟩) hP hD hS hA (fun r1 w1 H locs hp1 hP hD hS => ?_)
  obtain ⟨rfl, rfl⟩ := hp1
  have hP : va_P D vwCl (wX cI cZ h lev tm gn nL nC nE L B C E ++ [(qo, .inl (cJ, 1, .inr (.inl o)))]) H := hP
  have hD : va_D A (wX cI cZ h lev tm gn nL nC nE L B C E ++ [(qo, .inl (cJ, 1, .inr (.inl o)))]) := hD
  refine lv_i2l (v := (L 0 k).toInt64) hx hb dL_level_7 rfl ?_
  refine z_last0 (x := (L 0 k).toInt64) hx hb hK hP hD hS 24 rfl dL_level_8 (fun H locs hP hD hS => ?_)
  have hP : va_P D vwCl (wX cI cZ h lev tm gn nL nC nE L B C E ++ [(qo, .inl (cJ, 1, .inr (.inl (vp_updL o 0 ((L 0 k).toInt64)))))]) H := hP
  have hD : va_D A (wX cI cZ h lev tm gn nL nC nE L B C E ++ [(qo, .inl (cJ, 1, .inr (.inl (vp_updL o 0 ((L 0 k).toInt64)))))]) := hD
  refine lv_goto (tgt := 18) hx hb dL_level_9 (by decide) ?_
  refine lv_iconst (v := 0) hx hb dL_level_18 (by decide) ?_
  refine W.widen (k := 1) (n := 6) (Nat.zero_le _) (Nat.zero_le _) ?_
  exact z_iret hx hb hr hlocks hS hP rfl dL_level_19 (⟨rfl, rfl⟩)


set_option maxHeartbeats 4000000 in
set_option maxRecDepth 100000 in
theorem tL_told_ok (l : Launch) (D : va_G) (cI cZ cJ : ClassId) (h : Nat → Nat) (lev tm : Nat) (gn : Int32) (nL nC nE : Nat) (L B C E : Nat → Nat → Int32) (k : Nat) (hk : k < nL) (hL : nL ≤ 4) (hC : nC ≤ 24) (u : Int32) (h2 : inB u 0 7 = true) (qo : Nat) (o : Nat → Int64) (sa : Nat → Nat)  : ∀ sz : Nat, zML l yL_told wsL_told ({ frames := 4, cells := 1, slots := 6, locals := 91 } : Room) D cI cZ cJ (wV cI cZ cJ h lev tm gn nL nC nE L B C E qo o) sz [.ref (h 0), .int (nI k), .int u, .ref qo] sa (fun r w' => r = 0 ∧ w' = wX cI cZ h lev tm gn nL nC nE L B C E ++ [(qo, .inl (cJ, 1, .inr (.inl (vp_updL o 0 (tdX L B C k nC u).toInt64))))]) := by
  intro sz
  refine z_headL (y := yL_told) (av := [.ref (h 0), .int (nI k), .int u, .ref qo]) (w := (wV cI cZ cJ h lev tm gn nL nC nE L B C E qo o)) (cc := cL_told) (maxL := 5) (ret := (some .int)) (hh := [(0, 10, 13, 28), (0, 10, 17, 13)]) (by decide) rfl (Nat.le_of_ble_eq_true rfl) ?_
  intro p e s m below meth c ls A hat hX hN hT hP hD hS hl
  obtain ⟨hx, hb, hr, hml, hlocks, hts, hown, hin, hK, hE, hA⟩ := hat
  have hP : va_P D vwCl (wX cI cZ h lev tm gn nL nC nE L B C E ++ [(qo, .inl (cJ, 1, .inr (.inl o)))]) s.heap := hP
  have hD : va_D A (wX cI cZ h lev tm gn nL nC nE L B C E ++ [(qo, .inl (cJ, 1, .inr (.inl o)))]) := hD
  have hl : lv_has ls 5 [(0, .ref (h 0)), (1, .int (nI k)), (2, .int u), (3, .ref qo)] := hl
  refine lv_aload_n hx hb dL_told_0 rfl (lv_at hl 3 rfl) ?_
  refine lv_iconst (v := 0) hx hb dL_told_1 (by decide) ?_
  refine lv_aload_n hx hb dL_told_2 rfl (lv_at hl 0 rfl) ?_
  refine lv_iload_n hx hb dL_told_3 rfl (lv_at hl 1 rfl) ?_
  refine lv_iload_n hx hb dL_told_4 rfl (lv_at hl 2 rfl) ?_
  refine z_backSi (wa := []) (w := (wX cI cZ h lev tm gn nL nC nE L B C E)) (wb := [(qo, .inl (cJ, 1, .inr (.inl o)))]) (z_runVS (wa := []) (w := (wX cI cZ h lev tm gn nL nC nE L B C E)) (wb := [(qo, .inl (cJ, 1, .inr (.inl o)))]) (n := 2) (As := [.int (nI k), .int u]) (ci := 4) (rest := [.int 0, .ref qo]) hx hb hml hown hts hK hE hP hD (tX3_told_ok l D cI cZ cJ h lev tm gn nL nC nE L B C E k hk hL hC u h2 _) gL_told_X3_told rfl rfl rfl (by decide +kernel) ⟨Nat.le_of_ble_eq_true rfl, Nat.le_of_ble_eq_true rfl⟩ rfl rfl rfl hl.1 rfl (Nat.le_of_ble_eq_true rfl) dL_told_5 ⟨Nat.zero_le _, Nat.zero_le _⟩) hP hD hS hA (fun r1 w1 H locs hp1 hP hD hS => ?_)
  obtain ⟨rfl, rfl⟩ := hp1
  have hP : va_P D vwCl (wX cI cZ h lev tm gn nL nC nE L B C E ++ [(qo, .inl (cJ, 1, .inr (.inl o)))]) H := hP
  have hD : va_D A (wX cI cZ h lev tm gn nL nC nE L B C E ++ [(qo, .inl (cJ, 1, .inr (.inl o)))]) := hD
  refine lv_i2l (v := (tdX L B C k nC u).toInt64) hx hb dL_told_8 rfl ?_
  refine z_last0 (x := (tdX L B C k nC u).toInt64) hx hb hK hP hD hS 24 rfl dL_told_9 (fun H locs hP hD hS => ?_)
  have hP : va_P D vwCl (wX cI cZ h lev tm gn nL nC nE L B C E ++ [(qo, .inl (cJ, 1, .inr (.inl (vp_updL o 0 ((tdX L B C k nC u).toInt64)))))]) H := hP
  have hD : va_D A (wX cI cZ h lev tm gn nL nC nE L B C E ++ [(qo, .inl (cJ, 1, .inr (.inl (vp_updL o 0 ((tdX L B C k nC u).toInt64)))))]) := hD
  refine lv_goto (tgt := 21) hx hb dL_told_10 (by decide) ?_
  refine lv_iconst (v := 0) hx hb dL_told_21 (by decide) ?_
  refine W.widen (k := 1) (n := 6) (Nat.zero_le _) (Nat.zero_le _) ?_
  exact z_iret hx hb hr hlocks hS hP rfl dL_told_22 (⟨rfl, rfl⟩)


set_option maxHeartbeats 4000000 in
set_option maxRecDepth 100000 in
theorem tL_door_ok (l : Launch) (D : va_G) (cI cZ cJ : ClassId) (h : Nat → Nat) (lev tm : Nat) (gn : Int32) (nL nC nE : Nat) (L B C E : Nat → Nat → Int32) (k : Nat) (hk : k < nL) (hL : nL ≤ 4) (hC : nC ≤ 24) (on : Bool) (hyes : ¬ (B 2 k = bI on ∨ (on = true ∧ L 3 k = 0))) (qo : Nat) (o : Nat → Int64) (sa : Nat → Nat)  : ∀ sz : Nat, zML l yL_door wsL_door ({ frames := 2, cells := 1, slots := 6, locals := 43 } : Room) D cI cZ cJ (wV cI cZ cJ h lev tm gn nL nC nE L B C E qo o) sz [.ref (h 0), .int (nI k), .int (bI on)] sa (fun r w' => r = 0 ∧ w' = wX cI cZ h lev tm gn nL nC nE L (upC B 2 k (bI on)) C E ++ [(qo, .inl (cJ, 1, .inr (.inl o)))]) := by
  intro sz
  refine z_headL (y := yL_door) (av := [.ref (h 0), .int (nI k), .int (bI on)]) (w := (wV cI cZ cJ h lev tm gn nL nC nE L B C E qo o)) (cc := cL_door) (maxL := 4) (ret := (some .int)) (hh := [(0, 6, 9, 28), (0, 6, 12, 42)]) (by decide) rfl (Nat.le_of_ble_eq_true rfl) ?_
  intro p e s m below meth c ls A hat hX hN hT hP hD hS hl
  obtain ⟨hx, hb, hr, hml, hlocks, hts, hown, hin, hK, hE, hA⟩ := hat
  have hP : va_P D vwCl (wX cI cZ h lev tm gn nL nC nE L B C E ++ [(qo, .inl (cJ, 1, .inr (.inl o)))]) s.heap := hP
  have hD : va_D A (wX cI cZ h lev tm gn nL nC nE L B C E ++ [(qo, .inl (cJ, 1, .inr (.inl o)))]) := hD
  have hl : lv_has ls 4 [(0, .ref (h 0)), (1, .int (nI k)), (2, .int (bI on))] := hl
  refine lv_aload_n hx hb dL_door_0 rfl (lv_at hl 0 rfl) ?_
  refine lv_iload_n hx hb dL_door_1 rfl (lv_at hl 1 rfl) ?_
  refine lv_iload_n hx hb dL_door_2 rfl (lv_at hl 2 rfl) ?_
  refine z_backSv (wa := []) (w := (wX cI cZ h lev tm gn nL nC nE L B C E)) (wb := [(qo, .inl (cJ, 1, .inr (.inl o)))]) (z_runVS (wa := []) (w := (wX cI cZ h lev tm gn nL nC nE L B C E)) (wb := [(qo, .inl (cJ, 1, .inr (.inl o)))]) (n := 2) (As := [.int (nI k), .int (bI on)]) (ci := 4) (rest := []) hx hb hml hown hts hK hE hP hD (tX3_door_ok l D cI cZ cJ h lev tm gn nL nC nE L B C E k hk hL hC on hyes _) gL_door_X3_door rfl rfl rfl (by decide +kernel) ⟨Nat.le_of_ble_eq_true rfl, Nat.le_of_ble_eq_true rfl⟩ rfl rfl rfl hl.1 rfl (Nat.le_of_ble_eq_true rfl) dL_door_3 ⟨Nat.zero_le _, Nat.zero_le _⟩) hP hD hS hA (fun w1 H locs hp1 hP hD hS => ?_)
  obtain rfl := hp1
  have hP : va_P D vwCl (wX cI cZ h lev tm gn nL nC nE L (upC B 2 k (bI on)) C E ++ [(qo, .inl (cJ, 1, .inr (.inl o)))]) H := hP
  have hD : va_D A (wX cI cZ h lev tm gn nL nC nE L (upC B 2 k (bI on)) C E ++ [(qo, .inl (cJ, 1, .inr (.inl o)))]) := hD
  refine lv_goto (tgt := 15) hx hb dL_door_6 (by decide) ?_
  refine lv_iconst (v := 0) hx hb dL_door_15 (by decide) ?_
  refine W.widen (k := 1) (n := 6) (Nat.zero_le _) (Nat.zero_le _) ?_
  exact z_iret hx hb hr hlocks hS hP rfl dL_door_16 (⟨rfl, rfl⟩)


set_option maxHeartbeats 4000000 in
set_option maxRecDepth 100000 in
theorem tL_stuck_of (l : Launch) (D : va_G) (cI cZ cJ : ClassId) (h : Nat → Nat) (lev tm : Nat) (gn : Int32) (nL nC nE : Nat) (L B C E : Nat → Nat → Int32) (k : Nat) (hk : k < nL) (hL : nL ≤ 4) (hC : nC ≤ 24) (hyes : ¬ B 0 k = 0) (qo : Nat) (o : Nat → Int64) (sa : Nat → Nat)  : ∀ sz : Nat, zML l yL_stuck wsL_stuck ({ frames := 4, cells := 1, slots := 6, locals := 93 } : Room) D cI cZ cJ (wV cI cZ cJ h lev tm gn nL nC nE L B C E qo o) sz [.ref (h 0), .int (nI k), .int (bI false), .ref qo] sa (fun r w' => r = 0 ∧ w' = wX cI cZ h lev tm gn nL nC nE L (upC B 0 k 0) C E ++ [(qo, .inl (cJ, 1, .inr (.inl (vp_updL o 0 (nI (cntW (fun i => isB C i 1 (nI k)) nC)).toInt64))))]) := by
  intro sz
  refine z_headL (y := yL_stuck) (av := [.ref (h 0), .int (nI k), .int (bI false), .ref qo]) (w := (wV cI cZ cJ h lev tm gn nL nC nE L B C E qo o)) (cc := cL_stuck) (maxL := 5) (ret := (some .int)) (hh := [(0, 10, 13, 28), (0, 10, 17, 42)]) (by decide) rfl (Nat.le_of_ble_eq_true rfl) ?_
  intro p e s m below meth c ls A hat hX hN hT hP hD hS hl
  obtain ⟨hx, hb, hr, hml, hlocks, hts, hown, hin, hK, hE, hA⟩ := hat
  have hP : va_P D vwCl (wX cI cZ h lev tm gn nL nC nE L B C E ++ [(qo, .inl (cJ, 1, .inr (.inl o)))]) s.heap := hP
  have hD : va_D A (wX cI cZ h lev tm gn nL nC nE L B C E ++ [(qo, .inl (cJ, 1, .inr (.inl o)))]) := hD
  have hl : lv_has ls 5 [(0, .ref (h 0)), (1, .int (nI k)), (2, .int (bI false)), (3, .ref qo)] := hl
  refine lv_aload_n hx hb dL_stuck_0 rfl (lv_at hl 3 rfl) ?_
  refine lv_iconst (v := 0) hx hb dL_stuck_1 (by decide) ?_
  refine lv_aload_n hx hb dL_stuck_2 rfl (lv_at hl 0 rfl) ?_
  refine lv_iload_n hx hb dL_stuck_3 rfl (lv_at hl 1 rfl) ?_
  refine lv_iload_n hx hb dL_stuck_4 rfl (lv_at hl 2 rfl) ?_
  refine z_backSi (wa := []) (w := (wX cI cZ h lev tm gn nL nC nE L B C E)) (wb := [(qo, .inl (cJ, 1, .inr (.inl o)))]) (z_runVS (wa := []) (w := (wX cI cZ h lev tm gn nL nC nE L B C E)) (wb := [(qo, .inl (cJ, 1, .inr (.inl o)))]) (n := 2) (As := [.int (nI k), .int (bI false)]) (ci := 4) (rest := [.int 0, .ref qo]) hx hb hml hown hts hK hE hP hD (tX3_stuck_of l D cI cZ cJ h lev tm gn nL nC nE L B C E k hk hL hC hyes _) gL_stuck_X3_stuck rfl rfl rfl (by decide +kernel) ⟨Nat.le_of_ble_eq_true rfl, Nat.le_of_ble_eq_true rfl⟩ rfl rfl rfl hl.1 rfl (Nat.le_of_ble_eq_true rfl) dL_stuck_5 ⟨Nat.zero_le _, Nat.zero_le _⟩) hP hD hS hA (fun r1 w1 H locs hp1 hP hD hS => ?_)
  obtain ⟨rfl, rfl⟩ := hp1
  have hP : va_P D vwCl (wX cI cZ h lev tm gn nL nC nE L (upC B 0 k 0) C E ++ [(qo, .inl (cJ, 1, .inr (.inl o)))]) H := hP
  have hD : va_D A (wX cI cZ h lev tm gn nL nC nE L (upC B 0 k 0) C E ++ [(qo, .inl (cJ, 1, .inr (.inl o)))]) := hD
  refine lv_i2l (v := (nI (cntW (fun i => isB C i 1 (nI k)) nC)).toInt64) hx hb dL_stuck_8 rfl ?_
  refine z_last0 (x := (nI (cntW (fun i => isB C i 1 (nI k)) nC)).toInt64) hx hb hK hP hD hS 24 rfl dL_stuck_9 (fun H locs hP hD hS => ?_)
  have hP : va_P D vwCl (wX cI cZ h lev tm gn nL nC nE L (upC B 0 k 0) C E ++ [(qo, .inl (cJ, 1, .inr (.inl (vp_updL o 0 ((nI (cntW (fun i => isB C i 1 (nI k)) nC)).toInt64)))))]) H := hP
  have hD : va_D A (wX cI cZ h lev tm gn nL nC nE L (upC B 0 k 0) C E ++ [(qo, .inl (cJ, 1, .inr (.inl (vp_updL o 0 ((nI (cntW (fun i => isB C i 1 (nI k)) nC)).toInt64)))))]) := hD
  refine lv_goto (tgt := 21) hx hb dL_stuck_10 (by decide) ?_
  refine lv_iconst (v := 0) hx hb dL_stuck_21 (by decide) ?_
  refine W.widen (k := 1) (n := 6) (Nat.zero_le _) (Nat.zero_le _) ?_
  exact z_iret hx hb hr hlocks hS hP rfl dL_stuck_22 (⟨rfl, rfl⟩)


set_option maxHeartbeats 4000000 in
set_option maxRecDepth 100000 in
theorem tL_stuck_on (l : Launch) (D : va_G) (cI cZ cJ : ClassId) (h : Nat → Nat) (lev tm : Nat) (gn : Int32) (nL nC nE : Nat) (L B C E : Nat → Nat → Int32) (k : Nat) (hk : k < nL) (hL : nL ≤ 4) (hC : nC ≤ 24) (hyes : ¬ B 0 k = 1) (qo : Nat) (o : Nat → Int64) (sa : Nat → Nat)  : ∀ sz : Nat, zML l yL_stuck wsL_stuck ({ frames := 4, cells := 1, slots := 6, locals := 93 } : Room) D cI cZ cJ (wV cI cZ cJ h lev tm gn nL nC nE L B C E qo o) sz [.ref (h 0), .int (nI k), .int (bI true), .ref qo] sa (fun r w' => r = 0 ∧ w' = wX cI cZ h lev tm gn nL nC nE L (upC B 0 k 1) ((gaF L (upC B 0 k 1) nL (nI k) C nC).1) E ++ [(qo, .inl (cJ, 1, .inr (.inl (vp_updL o 0 (nI (cntW (fun i => isB (gaF L (upC B 0 k 1) nL (nI k) C nC).1 i 1 (nI k)) nC)).toInt64))))]) := by
  intro sz
  refine z_headL (y := yL_stuck) (av := [.ref (h 0), .int (nI k), .int (bI true), .ref qo]) (w := (wV cI cZ cJ h lev tm gn nL nC nE L B C E qo o)) (cc := cL_stuck) (maxL := 5) (ret := (some .int)) (hh := [(0, 10, 13, 28), (0, 10, 17, 42)]) (by decide) rfl (Nat.le_of_ble_eq_true rfl) ?_
  intro p e s m below meth c ls A hat hX hN hT hP hD hS hl
  obtain ⟨hx, hb, hr, hml, hlocks, hts, hown, hin, hK, hE, hA⟩ := hat
  have hP : va_P D vwCl (wX cI cZ h lev tm gn nL nC nE L B C E ++ [(qo, .inl (cJ, 1, .inr (.inl o)))]) s.heap := hP
  have hD : va_D A (wX cI cZ h lev tm gn nL nC nE L B C E ++ [(qo, .inl (cJ, 1, .inr (.inl o)))]) := hD
  have hl : lv_has ls 5 [(0, .ref (h 0)), (1, .int (nI k)), (2, .int (bI true)), (3, .ref qo)] := hl
  refine lv_aload_n hx hb dL_stuck_0 rfl (lv_at hl 3 rfl) ?_
  refine lv_iconst (v := 0) hx hb dL_stuck_1 (by decide) ?_
  refine lv_aload_n hx hb dL_stuck_2 rfl (lv_at hl 0 rfl) ?_
  refine lv_iload_n hx hb dL_stuck_3 rfl (lv_at hl 1 rfl) ?_
  refine lv_iload_n hx hb dL_stuck_4 rfl (lv_at hl 2 rfl) ?_
  refine z_backSi (wa := []) (w := (wX cI cZ h lev tm gn nL nC nE L B C E)) (wb := [(qo, .inl (cJ, 1, .inr (.inl o)))]) (z_runVS (wa := []) (w := (wX cI cZ h lev tm gn nL nC nE L B C E)) (wb := [(qo, .inl (cJ, 1, .inr (.inl o)))]) (n := 2) (As := [.int (nI k), .int (bI true)]) (ci := 4) (rest := [.int 0, .ref qo]) hx hb hml hown hts hK hE hP hD (tX3_stuck_on l D cI cZ cJ h lev tm gn nL nC nE L B C E k hk hL hC hyes _) gL_stuck_X3_stuck rfl rfl rfl (by decide +kernel) ⟨Nat.le_of_ble_eq_true rfl, Nat.le_of_ble_eq_true rfl⟩ rfl rfl rfl hl.1 rfl (Nat.le_of_ble_eq_true rfl) dL_stuck_5 ⟨Nat.zero_le _, Nat.zero_le _⟩) hP hD hS hA (fun r1 w1 H locs hp1 hP hD hS => ?_)
  obtain ⟨rfl, rfl⟩ := hp1
  have hP : va_P D vwCl (wX cI cZ h lev tm gn nL nC nE L (upC B 0 k 1) ((gaF L (upC B 0 k 1) nL (nI k) C nC).1) E ++ [(qo, .inl (cJ, 1, .inr (.inl o)))]) H := hP
  have hD : va_D A (wX cI cZ h lev tm gn nL nC nE L (upC B 0 k 1) ((gaF L (upC B 0 k 1) nL (nI k) C nC).1) E ++ [(qo, .inl (cJ, 1, .inr (.inl o)))]) := hD
  refine lv_i2l (v := (nI (cntW (fun i => isB (gaF L (upC B 0 k 1) nL (nI k) C nC).1 i 1 (nI k)) nC)).toInt64) hx hb dL_stuck_8 rfl ?_
  refine z_last0 (x := (nI (cntW (fun i => isB (gaF L (upC B 0 k 1) nL (nI k) C nC).1 i 1 (nI k)) nC)).toInt64) hx hb hK hP hD hS 24 rfl dL_stuck_9 (fun H locs hP hD hS => ?_)
  have hP : va_P D vwCl (wX cI cZ h lev tm gn nL nC nE L (upC B 0 k 1) ((gaF L (upC B 0 k 1) nL (nI k) C nC).1) E ++ [(qo, .inl (cJ, 1, .inr (.inl (vp_updL o 0 ((nI (cntW (fun i => isB (gaF L (upC B 0 k 1) nL (nI k) C nC).1 i 1 (nI k)) nC)).toInt64)))))]) H := hP
  have hD : va_D A (wX cI cZ h lev tm gn nL nC nE L (upC B 0 k 1) ((gaF L (upC B 0 k 1) nL (nI k) C nC).1) E ++ [(qo, .inl (cJ, 1, .inr (.inl (vp_updL o 0 ((nI (cntW (fun i => isB (gaF L (upC B 0 k 1) nL (nI k) C nC).1 i 1 (nI k)) nC)).toInt64)))))]) := hD
  refine lv_goto (tgt := 21) hx hb dL_stuck_10 (by decide) ?_
  refine lv_iconst (v := 0) hx hb dL_stuck_21 (by decide) ?_
  refine W.widen (k := 1) (n := 6) (Nat.zero_le _) (Nat.zero_le _) ?_
  exact z_iret hx hb hr hlocks hS hP rfl dL_stuck_22 (⟨rfl, rfl⟩)


set_option maxHeartbeats 4000000 in
set_option maxRecDepth 100000 in
theorem tL_reserved_ok (l : Launch) (D : va_G) (cI cZ cJ : ClassId) (h : Nat → Nat) (lev tm : Nat) (gn : Int32) (nL nC nE : Nat) (L B C E : Nat → Nat → Int32) (k : Nat) (hk : k < nL) (hL : nL ≤ 4) (hC : nC ≤ 24) (on : Bool) (hyes : ¬ B 1 k = bI on) (qo : Nat) (o : Nat → Int64) (sa : Nat → Nat)  : ∀ sz : Nat, zML l yL_reserved wsL_reserved ({ frames := 4, cells := 1, slots := 6, locals := 91 } : Room) D cI cZ cJ (wV cI cZ cJ h lev tm gn nL nC nE L B C E qo o) sz [.ref (h 0), .int (nI k), .int (bI on), .ref qo] sa (fun r w' => r = 0 ∧ w' = wX cI cZ h lev tm gn nL nC nE L (upC B 1 k (bI on)) C E ++ [(qo, .inl (cJ, 1, .inr (.inl (vp_updL o 0 (nI (cntW (fun i => isB C i 1 (nI k)) nC + cntW (fun i => isB C i 0 (nI k)) nC)).toInt64))))]) := by
  intro sz
  refine z_headL (y := yL_reserved) (av := [.ref (h 0), .int (nI k), .int (bI on), .ref qo]) (w := (wV cI cZ cJ h lev tm gn nL nC nE L B C E qo o)) (cc := cL_reserved) (maxL := 5) (ret := (some .int)) (hh := [(0, 10, 13, 28), (0, 10, 17, 42)]) (by decide) rfl (Nat.le_of_ble_eq_true rfl) ?_
  intro p e s m below meth c ls A hat hX hN hT hP hD hS hl
  obtain ⟨hx, hb, hr, hml, hlocks, hts, hown, hin, hK, hE, hA⟩ := hat
  have hP : va_P D vwCl (wX cI cZ h lev tm gn nL nC nE L B C E ++ [(qo, .inl (cJ, 1, .inr (.inl o)))]) s.heap := hP
  have hD : va_D A (wX cI cZ h lev tm gn nL nC nE L B C E ++ [(qo, .inl (cJ, 1, .inr (.inl o)))]) := hD
  have hl : lv_has ls 5 [(0, .ref (h 0)), (1, .int (nI k)), (2, .int (bI on)), (3, .ref qo)] := hl
  refine lv_aload_n hx hb dL_reserved_0 rfl (lv_at hl 3 rfl) ?_
  refine lv_iconst (v := 0) hx hb dL_reserved_1 (by decide) ?_
  refine lv_aload_n hx hb dL_reserved_2 rfl (lv_at hl 0 rfl) ?_
  refine lv_iload_n hx hb dL_reserved_3 rfl (lv_at hl 1 rfl) ?_
  refine lv_iload_n hx hb dL_reserved_4 rfl (lv_at hl 2 rfl) ?_
  refine z_backSi (wa := []) (w := (wX cI cZ h lev tm gn nL nC nE L B C E)) (wb := [(qo, .inl (cJ, 1, .inr (.inl o)))]) (z_runVS (wa := []) (w := (wX cI cZ h lev tm gn nL nC nE L B C E)) (wb := [(qo, .inl (cJ, 1, .inr (.inl o)))]) (n := 2) (As := [.int (nI k), .int (bI on)]) (ci := 4) (rest := [.int 0, .ref qo]) hx hb hml hown hts hK hE hP hD (tX3_reserved_ok l D cI cZ cJ h lev tm gn nL nC nE L B C E k hk hL hC on hyes _) gL_reserved_X3_reserved rfl rfl rfl (by decide +kernel) ⟨Nat.le_of_ble_eq_true rfl, Nat.le_of_ble_eq_true rfl⟩ rfl rfl rfl hl.1 rfl (Nat.le_of_ble_eq_true rfl) dL_reserved_5 ⟨Nat.zero_le _, Nat.zero_le _⟩) hP hD hS hA (fun r1 w1 H locs hp1 hP hD hS => ?_)
  obtain ⟨rfl, rfl⟩ := hp1
  have hP : va_P D vwCl (wX cI cZ h lev tm gn nL nC nE L (upC B 1 k (bI on)) C E ++ [(qo, .inl (cJ, 1, .inr (.inl o)))]) H := hP
  have hD : va_D A (wX cI cZ h lev tm gn nL nC nE L (upC B 1 k (bI on)) C E ++ [(qo, .inl (cJ, 1, .inr (.inl o)))]) := hD
  refine lv_i2l (v := (nI (cntW (fun i => isB C i 1 (nI k)) nC + cntW (fun i => isB C i 0 (nI k)) nC)).toInt64) hx hb dL_reserved_8 rfl ?_
  refine z_last0 (x := (nI (cntW (fun i => isB C i 1 (nI k)) nC + cntW (fun i => isB C i 0 (nI k)) nC)).toInt64) hx hb hK hP hD hS 24 rfl dL_reserved_9 (fun H locs hP hD hS => ?_)
  have hP : va_P D vwCl (wX cI cZ h lev tm gn nL nC nE L (upC B 1 k (bI on)) C E ++ [(qo, .inl (cJ, 1, .inr (.inl (vp_updL o 0 ((nI (cntW (fun i => isB C i 1 (nI k)) nC + cntW (fun i => isB C i 0 (nI k)) nC)).toInt64)))))]) H := hP
  have hD : va_D A (wX cI cZ h lev tm gn nL nC nE L (upC B 1 k (bI on)) C E ++ [(qo, .inl (cJ, 1, .inr (.inl (vp_updL o 0 ((nI (cntW (fun i => isB C i 1 (nI k)) nC + cntW (fun i => isB C i 0 (nI k)) nC)).toInt64)))))]) := hD
  refine lv_goto (tgt := 21) hx hb dL_reserved_10 (by decide) ?_
  refine lv_iconst (v := 0) hx hb dL_reserved_21 (by decide) ?_
  refine W.widen (k := 1) (n := 6) (Nat.zero_le _) (Nat.zero_le _) ?_
  exact z_iret hx hb hr hlocks hS hP rfl dL_reserved_22 (⟨rfl, rfl⟩)


set_option maxHeartbeats 4000000 in
set_option maxRecDepth 100000 in
theorem tL_served_ok (l : Launch) (D : va_G) (cI cZ cJ : ClassId) (h : Nat → Nat) (lev tm : Nat) (gn : Int32) (nL nC nE : Nat) (L B C E : Nat → Nat → Int32) (k : Nat) (hk : k < nC) (hL : nL ≤ 4) (hC : nC ≤ 24) (qo : Nat) (o : Nat → Int64) (sa : Nat → Nat)  : ∀ sz : Nat, zML l yL_served wsL_served ({ frames := 2, cells := 1, slots := 6, locals := 42 } : Room) D cI cZ cJ (wV cI cZ cJ h lev tm gn nL nC nE L B C E qo o) sz [.ref (h 0), .int (nI k), .ref qo] sa (fun r w' => r = 0 ∧ w' = wX cI cZ h lev tm gn nL nC nE L B C E ++ [(qo, .inl (cJ, 1, .inr (.inl (vp_updL o 0 (C 8 k).toInt64))))]) := by
  intro sz
  refine z_headL (y := yL_served) (av := [.ref (h 0), .int (nI k), .ref qo]) (w := (wV cI cZ cJ h lev tm gn nL nC nE L B C E qo o)) (cc := cL_served) (maxL := 4) (ret := (some .int)) (hh := [(0, 9, 12, 28)]) (by decide) rfl (Nat.le_of_ble_eq_true rfl) ?_
  intro p e s m below meth c ls A hat hX hN hT hP hD hS hl
  obtain ⟨hx, hb, hr, hml, hlocks, hts, hown, hin, hK, hE, hA⟩ := hat
  have hP : va_P D vwCl (wX cI cZ h lev tm gn nL nC nE L B C E ++ [(qo, .inl (cJ, 1, .inr (.inl o)))]) s.heap := hP
  have hD : va_D A (wX cI cZ h lev tm gn nL nC nE L B C E ++ [(qo, .inl (cJ, 1, .inr (.inl o)))]) := hD
  have hl : lv_has ls 4 [(0, .ref (h 0)), (1, .int (nI k)), (2, .ref qo)] := hl
  refine lv_aload_n hx hb dL_served_0 rfl (lv_at hl 2 rfl) ?_
  refine lv_iconst (v := 0) hx hb dL_served_1 (by decide) ?_
  refine lv_aload_n hx hb dL_served_2 rfl (lv_at hl 0 rfl) ?_
  refine lv_iload_n hx hb dL_served_3 rfl (lv_at hl 1 rfl) ?_
  refine z_backSi (wa := []) (w := (wX cI cZ h lev tm gn nL nC nE L B C E)) (wb := [(qo, .inl (cJ, 1, .inr (.inl o)))]) (z_runVS (wa := []) (w := (wX cI cZ h lev tm gn nL nC nE L B C E)) (wb := [(qo, .inl (cJ, 1, .inr (.inl o)))]) (n := 1) (As := [.int (nI k)]) (ci := 4) (rest := [.int 0, .ref qo]) hx hb hml hown hts hK hE hP hD (tX3_served_ok l D cI cZ cJ h lev tm gn nL nC nE L B C E k hk hL hC _) gL_served_X3_served rfl rfl rfl (by decide +kernel) ⟨Nat.le_of_ble_eq_true rfl, Nat.le_of_ble_eq_true rfl⟩ rfl rfl rfl hl.1 rfl (Nat.le_of_ble_eq_true rfl) dL_served_4 ⟨Nat.zero_le _, Nat.zero_le _⟩) hP hD hS hA (fun r1 w1 H locs hp1 hP hD hS => ?_)
  obtain ⟨rfl, rfl⟩ := hp1
  have hP : va_P D vwCl (wX cI cZ h lev tm gn nL nC nE L B C E ++ [(qo, .inl (cJ, 1, .inr (.inl o)))]) H := hP
  have hD : va_D A (wX cI cZ h lev tm gn nL nC nE L B C E ++ [(qo, .inl (cJ, 1, .inr (.inl o)))]) := hD
  refine lv_i2l (v := (C 8 k).toInt64) hx hb dL_served_7 rfl ?_
  refine z_last0 (x := (C 8 k).toInt64) hx hb hK hP hD hS 24 rfl dL_served_8 (fun H locs hP hD hS => ?_)
  have hP : va_P D vwCl (wX cI cZ h lev tm gn nL nC nE L B C E ++ [(qo, .inl (cJ, 1, .inr (.inl (vp_updL o 0 ((C 8 k).toInt64)))))]) H := hP
  have hD : va_D A (wX cI cZ h lev tm gn nL nC nE L B C E ++ [(qo, .inl (cJ, 1, .inr (.inl (vp_updL o 0 ((C 8 k).toInt64)))))]) := hD
  refine lv_goto (tgt := 15) hx hb dL_served_9 (by decide) ?_
  refine lv_iconst (v := 0) hx hb dL_served_15 (by decide) ?_
  refine W.widen (k := 1) (n := 6) (Nat.zero_le _) (Nat.zero_le _) ?_
  exact z_iret hx hb hr hlocks hS hP rfl dL_served_16 (⟨rfl, rfl⟩)


set_option maxHeartbeats 4000000 in
set_option maxRecDepth 100000 in
theorem tL_waits_ok (l : Launch) (D : va_G) (cI cZ cJ : ClassId) (h : Nat → Nat) (lev tm : Nat) (gn : Int32) (nL nC nE : Nat) (L B C E : Nat → Nat → Int32) (k : Nat) (hk : k < nC) (hL : nL ≤ 4) (hC : nC ≤ 24) (qo : Nat) (o : Nat → Int64) (sa : Nat → Nat)  : ∀ sz : Nat, zML l yL_waits wsL_waits ({ frames := 2, cells := 1, slots := 6, locals := 43 } : Room) D cI cZ cJ (wV cI cZ cJ h lev tm gn nL nC nE L B C E qo o) sz [.ref (h 0), .int (nI k), .ref qo] sa (fun r w' => r = 0 ∧ w' = wX cI cZ h lev tm gn nL nC nE L B C E ++ [(qo, .inl (cJ, 1, .inr (.inl (vp_updL o 0 ((if C 4 k = 0 then nI tm else C 7 k) - C 6 k).toInt64))))]) := by
  intro sz
  refine z_headL (y := yL_waits) (av := [.ref (h 0), .int (nI k), .ref qo]) (w := (wV cI cZ cJ h lev tm gn nL nC nE L B C E qo o)) (cc := cL_waits) (maxL := 4) (ret := (some .int)) (hh := [(0, 9, 12, 28)]) (by decide) rfl (Nat.le_of_ble_eq_true rfl) ?_
  intro p e s m below meth c ls A hat hX hN hT hP hD hS hl
  obtain ⟨hx, hb, hr, hml, hlocks, hts, hown, hin, hK, hE, hA⟩ := hat
  have hP : va_P D vwCl (wX cI cZ h lev tm gn nL nC nE L B C E ++ [(qo, .inl (cJ, 1, .inr (.inl o)))]) s.heap := hP
  have hD : va_D A (wX cI cZ h lev tm gn nL nC nE L B C E ++ [(qo, .inl (cJ, 1, .inr (.inl o)))]) := hD
  have hl : lv_has ls 4 [(0, .ref (h 0)), (1, .int (nI k)), (2, .ref qo)] := hl
  refine lv_aload_n hx hb dL_waits_0 rfl (lv_at hl 2 rfl) ?_
  refine lv_iconst (v := 0) hx hb dL_waits_1 (by decide) ?_
  refine lv_aload_n hx hb dL_waits_2 rfl (lv_at hl 0 rfl) ?_
  refine lv_iload_n hx hb dL_waits_3 rfl (lv_at hl 1 rfl) ?_
  refine z_backSi (wa := []) (w := (wX cI cZ h lev tm gn nL nC nE L B C E)) (wb := [(qo, .inl (cJ, 1, .inr (.inl o)))]) (z_runVS (wa := []) (w := (wX cI cZ h lev tm gn nL nC nE L B C E)) (wb := [(qo, .inl (cJ, 1, .inr (.inl o)))]) (n := 1) (As := [.int (nI k)]) (ci := 4) (rest := [.int 0, .ref qo]) hx hb hml hown hts hK hE hP hD (tX3_waits_ok l D cI cZ cJ h lev tm gn nL nC nE L B C E k hk hL hC _) gL_waits_X3_waits rfl rfl rfl (by decide +kernel) ⟨Nat.le_of_ble_eq_true rfl, Nat.le_of_ble_eq_true rfl⟩ rfl rfl rfl hl.1 rfl (Nat.le_of_ble_eq_true rfl) dL_waits_4 ⟨Nat.zero_le _, Nat.zero_le _⟩) hP hD hS hA (fun r1 w1 H locs hp1 hP hD hS => ?_)
  obtain ⟨rfl, rfl⟩ := hp1
  have hP : va_P D vwCl (wX cI cZ h lev tm gn nL nC nE L B C E ++ [(qo, .inl (cJ, 1, .inr (.inl o)))]) H := hP
  have hD : va_D A (wX cI cZ h lev tm gn nL nC nE L B C E ++ [(qo, .inl (cJ, 1, .inr (.inl o)))]) := hD
  refine lv_i2l (v := ((if C 4 k = 0 then nI tm else C 7 k) - C 6 k).toInt64) hx hb dL_waits_7 rfl ?_
  refine z_last0 (x := ((if C 4 k = 0 then nI tm else C 7 k) - C 6 k).toInt64) hx hb hK hP hD hS 24 rfl dL_waits_8 (fun H locs hP hD hS => ?_)
  have hP : va_P D vwCl (wX cI cZ h lev tm gn nL nC nE L B C E ++ [(qo, .inl (cJ, 1, .inr (.inl (vp_updL o 0 (((if C 4 k = 0 then nI tm else C 7 k) - C 6 k).toInt64)))))]) H := hP
  have hD : va_D A (wX cI cZ h lev tm gn nL nC nE L B C E ++ [(qo, .inl (cJ, 1, .inr (.inl (vp_updL o 0 (((if C 4 k = 0 then nI tm else C 7 k) - C 6 k).toInt64)))))]) := hD
  refine lv_goto (tgt := 15) hx hb dL_waits_9 (by decide) ?_
  refine lv_iconst (v := 0) hx hb dL_waits_15 (by decide) ?_
  refine W.widen (k := 1) (n := 6) (Nat.zero_le _) (Nat.zero_le _) ?_
  exact z_iret hx hb hr hlocks hS hP rfl dL_waits_16 (⟨rfl, rfl⟩)


set_option maxHeartbeats 4000000 in
set_option maxRecDepth 100000 in
theorem tL_least_many (l : Launch) (D : va_G) (cI cZ cJ : ClassId) (h : Nat → Nat) (lev tm : Nat) (gn : Int32) (nL nC nE : Nat) (L B C E : Nat → Nat → Int32) (k : Nat) (hk : k < nL) (hL : nL ≤ 4) (hC : nC ≤ 24) (hn : 4 < cntW (lsB C (nI k)) nC) (qo : Nat) (o : Nat → Int64) (sa : Nat → Nat)  : ∀ sz : Nat, zML l yL_least wsL_least ({ frames := 12, cells := 1, slots := 6, locals := 382 } : Room) D cI cZ cJ (wV cI cZ cJ h lev tm gn nL nC nE L B C E qo o) sz [.ref (h 0), .int (nI k), .ref qo] sa (fun r w' => r = 0 ∧ w' = wX cI cZ h lev tm gn nL nC nE L B C E ++ [(qo, .inl (cJ, 1, .inr (.inl (vp_updL o 0 (-1).toInt64))))]) := by
  intro sz
  refine z_headL (y := yL_least) (av := [.ref (h 0), .int (nI k), .ref qo]) (w := (wV cI cZ cJ h lev tm gn nL nC nE L B C E qo o)) (cc := cL_least) (maxL := 4) (ret := (some .int)) (hh := [(0, 9, 12, 28)]) (by decide) rfl (Nat.le_of_ble_eq_true rfl) ?_
  intro p e s m below meth c ls A hat hX hN hT hP hD hS hl
  obtain ⟨hx, hb, hr, hml, hlocks, hts, hown, hin, hK, hE, hA⟩ := hat
  have hP : va_P D vwCl (wX cI cZ h lev tm gn nL nC nE L B C E ++ [(qo, .inl (cJ, 1, .inr (.inl o)))]) s.heap := hP
  have hD : va_D A (wX cI cZ h lev tm gn nL nC nE L B C E ++ [(qo, .inl (cJ, 1, .inr (.inl o)))]) := hD
  have hl : lv_has ls 4 [(0, .ref (h 0)), (1, .int (nI k)), (2, .ref qo)] := hl
  refine lv_aload_n hx hb dL_least_0 rfl (lv_at hl 2 rfl) ?_
  refine lv_iconst (v := 0) hx hb dL_least_1 (by decide) ?_
  refine lv_aload_n hx hb dL_least_2 rfl (lv_at hl 0 rfl) ?_
  refine lv_iload_n hx hb dL_least_3 rfl (lv_at hl 1 rfl) ?_
  refine z_backSi (wa := []) (w := (wX cI cZ h lev tm gn nL nC nE L B C E)) (wb := [(qo, .inl (cJ, 1, .inr (.inl o)))]) (z_runVS (wa := []) (w := (wX cI cZ h lev tm gn nL nC nE L B C E)) (wb := [(qo, .inl (cJ, 1, .inr (.inl o)))]) (n := 1) (As := [.int (nI k)]) (ci := 4) (rest := [.int 0, .ref qo]) hx hb hml hown hts hK hE hP hD (tX3_least_many l D cI cZ cJ h lev tm gn nL nC nE L B C E k hk hL hC hn _) gL_least_X3_least rfl rfl rfl (by decide +kernel) ⟨Nat.le_of_ble_eq_true rfl, Nat.le_of_ble_eq_true rfl⟩ rfl rfl rfl hl.1 rfl (Nat.le_of_ble_eq_true rfl) dL_least_4 ⟨Nat.zero_le _, Nat.zero_le _⟩) hP hD hS hA (fun r1 w1 H locs hp1 hP hD hS => ?_)
  obtain ⟨rfl, rfl⟩ := hp1
  have hP : va_P D vwCl (wX cI cZ h lev tm gn nL nC nE L B C E ++ [(qo, .inl (cJ, 1, .inr (.inl o)))]) H := hP
  have hD : va_D A (wX cI cZ h lev tm gn nL nC nE L B C E ++ [(qo, .inl (cJ, 1, .inr (.inl o)))]) := hD
  refine lv_i2l (v := (-1).toInt64) hx hb dL_least_7 rfl ?_
  refine z_last0 (x := (-1).toInt64) hx hb hK hP hD hS 24 rfl dL_least_8 (fun H locs hP hD hS => ?_)
  have hP : va_P D vwCl (wX cI cZ h lev tm gn nL nC nE L B C E ++ [(qo, .inl (cJ, 1, .inr (.inl (vp_updL o 0 ((-1).toInt64)))))]) H := hP
  have hD : va_D A (wX cI cZ h lev tm gn nL nC nE L B C E ++ [(qo, .inl (cJ, 1, .inr (.inl (vp_updL o 0 ((-1).toInt64)))))]) := hD
  refine lv_goto (tgt := 15) hx hb dL_least_9 (by decide) ?_
  refine lv_iconst (v := 0) hx hb dL_least_15 (by decide) ?_
  refine W.widen (k := 1) (n := 6) (Nat.zero_le _) (Nat.zero_le _) ?_
  exact z_iret hx hb hr hlocks hS hP rfl dL_least_16 (⟨rfl, rfl⟩)


set_option maxHeartbeats 4000000 in
set_option maxRecDepth 100000 in
theorem tL_least_ok (l : Launch) (D : va_G) (cI cZ cJ : ClassId) (h : Nat → Nat) (lev tm : Nat) (gn : Int32) (nL nC nE : Nat) (L B C E : Nat → Nat → Int32) (k : Nat) (hk : k < nL) (hL : nL ≤ 4) (hC : nC ≤ 24) (hn : cntW (lsB C (nI k)) nC ≤ 4) (qo : Nat) (o : Nat → Int64) (sa : Nat → Nat)  : ∀ sz : Nat, zML l yL_least wsL_least ({ frames := 12, cells := 1, slots := 6, locals := 382 } : Room) D cI cZ cJ (wV cI cZ cJ h lev tm gn nL nC nE L B C E qo o) sz [.ref (h 0), .int (nI k), .ref qo] sa (fun r w' => r = 0 ∧ w' = wX cI cZ h lev tm gn nL nC nE L B C E ++ [(qo, .inl (cJ, 1, .inr (.inl (vp_updL o 0 (lwF C nC 8 (L 0 k) (setG (fun k9 => isB C k9 0 (nI k)) nI nC) (setG (fun k9 => isB C k9 1 (nI k)) nI nC)).toInt64))))]) := by
  intro sz
  refine z_headL (y := yL_least) (av := [.ref (h 0), .int (nI k), .ref qo]) (w := (wV cI cZ cJ h lev tm gn nL nC nE L B C E qo o)) (cc := cL_least) (maxL := 4) (ret := (some .int)) (hh := [(0, 9, 12, 28)]) (by decide) rfl (Nat.le_of_ble_eq_true rfl) ?_
  intro p e s m below meth c ls A hat hX hN hT hP hD hS hl
  obtain ⟨hx, hb, hr, hml, hlocks, hts, hown, hin, hK, hE, hA⟩ := hat
  have hP : va_P D vwCl (wX cI cZ h lev tm gn nL nC nE L B C E ++ [(qo, .inl (cJ, 1, .inr (.inl o)))]) s.heap := hP
  have hD : va_D A (wX cI cZ h lev tm gn nL nC nE L B C E ++ [(qo, .inl (cJ, 1, .inr (.inl o)))]) := hD
  have hl : lv_has ls 4 [(0, .ref (h 0)), (1, .int (nI k)), (2, .ref qo)] := hl
  refine lv_aload_n hx hb dL_least_0 rfl (lv_at hl 2 rfl) ?_
  refine lv_iconst (v := 0) hx hb dL_least_1 (by decide) ?_
  refine lv_aload_n hx hb dL_least_2 rfl (lv_at hl 0 rfl) ?_
  refine lv_iload_n hx hb dL_least_3 rfl (lv_at hl 1 rfl) ?_
  refine z_backSi (wa := []) (w := (wX cI cZ h lev tm gn nL nC nE L B C E)) (wb := [(qo, .inl (cJ, 1, .inr (.inl o)))]) (z_runVS (wa := []) (w := (wX cI cZ h lev tm gn nL nC nE L B C E)) (wb := [(qo, .inl (cJ, 1, .inr (.inl o)))]) (n := 1) (As := [.int (nI k)]) (ci := 4) (rest := [.int 0, .ref qo]) hx hb hml hown hts hK hE hP hD (tX3_least_ok l D cI cZ cJ h lev tm gn nL nC nE L B C E k hk hL hC hn _) gL_least_X3_least rfl rfl rfl (by decide +kernel) ⟨Nat.le_of_ble_eq_true rfl, Nat.le_of_ble_eq_true rfl⟩ rfl rfl rfl hl.1 rfl (Nat.le_of_ble_eq_true rfl) dL_least_4 ⟨Nat.zero_le _, Nat.zero_le _⟩) hP hD hS hA (fun r1 w1 H locs hp1 hP hD hS => ?_)
  obtain ⟨rfl, rfl⟩ := hp1
  have hP : va_P D vwCl (wX cI cZ h lev tm gn nL nC nE L B C E ++ [(qo, .inl (cJ, 1, .inr (.inl o)))]) H := hP
  have hD : va_D A (wX cI cZ h lev tm gn nL nC nE L B C E ++ [(qo, .inl (cJ, 1, .inr (.inl o)))]) := hD
  refine lv_i2l (v := (lwF C nC 8 (L 0 k) (setG (fun k9 => isB C k9 0 (nI k)) nI nC) (setG (fun k9 => isB C k9 1 (nI k)) nI nC)).toInt64) hx hb dL_least_7 rfl ?_
  refine z_last0 (x := (lwF C nC 8 (L 0 k) (setG (fun k9 => isB C k9 0 (nI k)) nI nC) (setG (fun k9 => isB C k9 1 (nI k)) nI nC)).toInt64) hx hb hK hP hD hS 24 rfl dL_least_8 (fun H locs hP hD hS => ?_)
  have hP : va_P D vwCl (wX cI cZ h lev tm gn nL nC nE L B C E ++ [(qo, .inl (cJ, 1, .inr (.inl (vp_updL o 0 ((lwF C nC 8 (L 0 k) (setG (fun k9 => isB C k9 0 (nI k)) nI nC) (setG (fun k9 => isB C k9 1 (nI k)) nI nC)).toInt64)))))]) H := hP
  have hD : va_D A (wX cI cZ h lev tm gn nL nC nE L B C E ++ [(qo, .inl (cJ, 1, .inr (.inl (vp_updL o 0 ((lwF C nC 8 (L 0 k) (setG (fun k9 => isB C k9 0 (nI k)) nI nC) (setG (fun k9 => isB C k9 1 (nI k)) nI nC)).toInt64)))))]) := hD
  refine lv_goto (tgt := 15) hx hb dL_least_9 (by decide) ?_
  refine lv_iconst (v := 0) hx hb dL_least_15 (by decide) ?_
  refine W.widen (k := 1) (n := 6) (Nat.zero_le _) (Nat.zero_le _) ?_
  exact z_iret hx hb hr hlocks hS hP rfl dL_least_16 (⟨rfl, rfl⟩)


set_option maxHeartbeats 4000000 in
set_option maxRecDepth 100000 in
theorem tL_joins_ok (l : Launch) (D : va_G) (cI cZ cJ : ClassId) (h : Nat → Nat) (lev tm : Nat) (gn : Int32) (nL nC nE : Nat) (L B C E : Nat → Nat → Int32) (k k2 : Nat) (hk : k < nC) (hk2 : k2 < nC) (hL : nL ≤ 4) (hC : nC ≤ 24) (hy : C 4 k = 0) (hy2 : C 4 k2 = 0) (qo : Nat) (o : Nat → Int64) (sa : Nat → Nat)  : ∀ sz : Nat, zML l yL_joins wsL_joins ({ frames := 2, cells := 1, slots := 6, locals := 43 } : Room) D cI cZ cJ (wV cI cZ cJ h lev tm gn nL nC nE L B C E qo o) sz [.ref (h 0), .int (nI k), .int (nI k2), .ref qo] sa (fun r w' => r = 0 ∧ w' = wX cI cZ h lev tm gn nL nC nE L B C E ++ [(qo, .inl (cJ, 1, .inr (.inl (vp_updL o 0 (bI (decide (C 0 k = C 0 k2) && decide (C 1 k = C 1 k2))).toInt64))))]) := by
  intro sz
  refine z_headL (y := yL_joins) (av := [.ref (h 0), .int (nI k), .int (nI k2), .ref qo]) (w := (wV cI cZ cJ h lev tm gn nL nC nE L B C E qo o)) (cc := cL_joins) (maxL := 5) (ret := (some .int)) (hh := [(0, 17, 20, 28), (0, 17, 24, 42)]) (by decide) rfl (Nat.le_of_ble_eq_true rfl) ?_
  intro p e s m below meth c ls A hat hX hN hT hP hD hS hl
  obtain ⟨hx, hb, hr, hml, hlocks, hts, hown, hin, hK, hE, hA⟩ := hat
  have hP : va_P D vwCl (wX cI cZ h lev tm gn nL nC nE L B C E ++ [(qo, .inl (cJ, 1, .inr (.inl o)))]) s.heap := hP
  have hD : va_D A (wX cI cZ h lev tm gn nL nC nE L B C E ++ [(qo, .inl (cJ, 1, .inr (.inl o)))]) := hD
  have hl : lv_has ls 5 [(0, .ref (h 0)), (1, .int (nI k)), (2, .int (nI k2)), (3, .ref qo)] := hl
  refine lv_aload_n hx hb dL_joins_0 rfl (lv_at hl 3 rfl) ?_
  refine lv_iconst (v := 0) hx hb dL_joins_1 (by decide) ?_
  refine lv_aload_n hx hb dL_joins_2 rfl (lv_at hl 0 rfl) ?_
  refine lv_iload_n hx hb dL_joins_3 rfl (lv_at hl 1 rfl) ?_
  refine lv_iload_n hx hb dL_joins_4 rfl (lv_at hl 2 rfl) ?_
  refine z_backSi (wa := []) (w := (wX cI cZ h lev tm gn nL nC nE L B C E)) (wb := [(qo, .inl (cJ, 1, .inr (.inl o)))]) (z_runVS (wa := []) (w := (wX cI cZ h lev tm gn nL nC nE L B C E)) (wb := [(qo, .inl (cJ, 1, .inr (.inl o)))]) (n := 2) (As := [.int (nI k), .int (nI k2)]) (ci := 4) (rest := [.int 0, .ref qo]) hx hb hml hown hts hK hE hP hD (tX3_joins_ok l D cI cZ cJ h lev tm gn nL nC nE L B C E k k2 hk hk2 hL hC hy hy2 _) gL_joins_X3_joins rfl rfl rfl (by decide +kernel) ⟨Nat.le_of_ble_eq_true rfl, Nat.le_of_ble_eq_true rfl⟩ rfl rfl rfl hl.1 rfl (Nat.le_of_ble_eq_true rfl) dL_joins_5 ⟨Nat.zero_le _, Nat.zero_le _⟩) hP hD hS hA (fun r1 w1 H locs hp1 hP hD hS => ?_)
  obtain ⟨rfl, rfl⟩ := hp1
  have hP : va_P D vwCl (wX cI cZ h lev tm gn nL nC nE L B C E ++ [(qo, .inl (cJ, 1, .inr (.inl o)))]) H := hP
  have hD : va_D A (wX cI cZ h lev tm gn nL nC nE L B C E ++ [(qo, .inl (cJ, 1, .inr (.inl o)))]) := hD
  refine zb_eq (b := (decide (C 0 k = C 0 k2) && decide (C 1 k = C 1 k2))) (tgt := 15) hx hb dL_joins_8 (by decide) (fun c8 => ?_) (fun c8 => ?_)
  · skip
    refine lv_lconst (v := 0) hx hb dL_joins_15 (by decide) ?_
    refine z_last0 (x := 0) hx hb hK hP hD hS 24 rfl dL_joins_16 (fun H locs hP hD hS => ?_)
    have hP : va_P D vwCl (wX cI cZ h lev tm gn nL nC nE L B C E ++ [(qo, .inl (cJ, 1, .inr (.inl (vp_updL o 0 0))))]) H := hP
    have hD : va_D A (wX cI cZ h lev tm gn nL nC nE L B C E ++ [(qo, .inl (cJ, 1, .inr (.inl (vp_updL o 0 0))))]) := hD
    refine lv_goto (tgt := 28) hx hb dL_joins_17 (by decide) ?_
    refine lv_iconst (v := 0) hx hb dL_joins_28 (by decide) ?_
    refine W.widen (k := 1) (n := 6) (Nat.zero_le _) (Nat.zero_le _) ?_
    exact z_iret hx hb hr hlocks hS hP rfl dL_joins_29 (⟨rfl, by rw [c8]; rfl⟩)
  · skip
    refine lv_lconst (v := 1) hx hb dL_joins_11 (by decide) ?_
    refine lv_goto (tgt := 16) hx hb dL_joins_12 (by decide) ?_
    refine z_last0 (x := 1) hx hb hK hP hD hS 24 rfl dL_joins_16 (fun H locs hP hD hS => ?_)
    have hP : va_P D vwCl (wX cI cZ h lev tm gn nL nC nE L B C E ++ [(qo, .inl (cJ, 1, .inr (.inl (vp_updL o 0 1))))]) H := hP
    have hD : va_D A (wX cI cZ h lev tm gn nL nC nE L B C E ++ [(qo, .inl (cJ, 1, .inr (.inl (vp_updL o 0 1))))]) := hD
    refine lv_goto (tgt := 28) hx hb dL_joins_17 (by decide) ?_
    refine lv_iconst (v := 0) hx hb dL_joins_28 (by decide) ?_
    refine W.widen (k := 1) (n := 6) (Nat.zero_le _) (Nat.zero_le _) ?_
    exact z_iret hx hb hr hlocks hS hP rfl dL_joins_29 (⟨rfl, by rw [c8]; rfl⟩)


set_option maxHeartbeats 4000000 in
set_option maxRecDepth 100000 in
theorem tL_known_ok (l : Launch) (D : va_G) (cI cZ cJ : ClassId) (h : Nat → Nat) (lev tm : Nat) (gn : Int32) (nL nC nE : Nat) (L B C E : Nat → Nat → Int32) (k : Nat) (hk : k < nC) (hL : nL ≤ 4) (hC : nC ≤ 24) (u : Int32) (h2 : inB u 0 5 = true) (qo : Nat) (o : Nat → Int64) (sa : Nat → Nat)  : ∀ sz : Nat, zML l yL_known wsL_known ({ frames := 2, cells := 1, slots := 6, locals := 44 } : Room) D cI cZ cJ (wV cI cZ cJ h lev tm gn nL nC nE L B C E qo o) sz [.ref (h 0), .int (nI k), .int u, .ref qo] sa (fun r w' => r = 0 ∧ w' = wX cI cZ h lev tm gn nL nC nE L B C E ++ [(qo, .inl (cJ, 1, .inr (.inl (vp_updL o 0 (knI C k u).toInt64))))]) := by
  intro sz
  refine z_headL (y := yL_known) (av := [.ref (h 0), .int (nI k), .int u, .ref qo]) (w := (wV cI cZ cJ h lev tm gn nL nC nE L B C E qo o)) (cc := cL_known) (maxL := 5) (ret := (some .int)) (hh := [(0, 10, 13, 28), (0, 10, 17, 13)]) (by decide) rfl (Nat.le_of_ble_eq_true rfl) ?_
  intro p e s m below meth c ls A hat hX hN hT hP hD hS hl
  obtain ⟨hx, hb, hr, hml, hlocks, hts, hown, hin, hK, hE, hA⟩ := hat
  have hP : va_P D vwCl (wX cI cZ h lev tm gn nL nC nE L B C E ++ [(qo, .inl (cJ, 1, .inr (.inl o)))]) s.heap := hP
  have hD : va_D A (wX cI cZ h lev tm gn nL nC nE L B C E ++ [(qo, .inl (cJ, 1, .inr (.inl o)))]) := hD
  have hl : lv_has ls 5 [(0, .ref (h 0)), (1, .int (nI k)), (2, .int u), (3, .ref qo)] := hl
  refine lv_aload_n hx hb dL_known_0 rfl (lv_at hl 3 rfl) ?_
  refine lv_iconst (v := 0) hx hb dL_known_1 (by decide) ?_
  refine lv_aload_n hx hb dL_known_2 rfl (lv_at hl 0 rfl) ?_
  refine lv_iload_n hx hb dL_known_3 rfl (lv_at hl 1 rfl) ?_
  refine lv_iload_n hx hb dL_known_4 rfl (lv_at hl 2 rfl) ?_
  refine z_backSi (wa := []) (w := (wX cI cZ h lev tm gn nL nC nE L B C E)) (wb := [(qo, .inl (cJ, 1, .inr (.inl o)))]) (z_runVS (wa := []) (w := (wX cI cZ h lev tm gn nL nC nE L B C E)) (wb := [(qo, .inl (cJ, 1, .inr (.inl o)))]) (n := 2) (As := [.int (nI k), .int u]) (ci := 4) (rest := [.int 0, .ref qo]) hx hb hml hown hts hK hE hP hD (tX3_known_ok l D cI cZ cJ h lev tm gn nL nC nE L B C E k hk hL hC u h2 _) gL_known_X3_known rfl rfl rfl (by decide +kernel) ⟨Nat.le_of_ble_eq_true rfl, Nat.le_of_ble_eq_true rfl⟩ rfl rfl rfl hl.1 rfl (Nat.le_of_ble_eq_true rfl) dL_known_5 ⟨Nat.zero_le _, Nat.zero_le _⟩) hP hD hS hA (fun r1 w1 H locs hp1 hP hD hS => ?_)
  obtain ⟨rfl, rfl⟩ := hp1
  have hP : va_P D vwCl (wX cI cZ h lev tm gn nL nC nE L B C E ++ [(qo, .inl (cJ, 1, .inr (.inl o)))]) H := hP
  have hD : va_D A (wX cI cZ h lev tm gn nL nC nE L B C E ++ [(qo, .inl (cJ, 1, .inr (.inl o)))]) := hD
  refine lv_i2l (v := (knI C k u).toInt64) hx hb dL_known_8 rfl ?_
  refine z_last0 (x := (knI C k u).toInt64) hx hb hK hP hD hS 24 rfl dL_known_9 (fun H locs hP hD hS => ?_)
  have hP : va_P D vwCl (wX cI cZ h lev tm gn nL nC nE L B C E ++ [(qo, .inl (cJ, 1, .inr (.inl (vp_updL o 0 ((knI C k u).toInt64)))))]) H := hP
  have hD : va_D A (wX cI cZ h lev tm gn nL nC nE L B C E ++ [(qo, .inl (cJ, 1, .inr (.inl (vp_updL o 0 ((knI C k u).toInt64)))))]) := hD
  refine lv_goto (tgt := 21) hx hb dL_known_10 (by decide) ?_
  refine lv_iconst (v := 0) hx hb dL_known_21 (by decide) ?_
  refine W.widen (k := 1) (n := 6) (Nat.zero_le _) (Nat.zero_le _) ?_
  exact z_iret hx hb hr hlocks hS hP rfl dL_known_22 (⟨rfl, rfl⟩)

theorem kL_lift_l13 : Cond.classLink RL 13 zIA ∈ wsL_lift := by decide +kernel
set_option maxHeartbeats 4000000 in
set_option maxRecDepth 100000 in
theorem tL_lift_xa (l : Launch) (D : va_G) (cI cZ cJ : ClassId) (h : Nat → Nat) (lev tm : Nat) (gn : Int32) (nL nC nE : Nat) (L B C E : Nat → Nat → Int32) (v u : Int32) (hno : inB v 0 (nI lev - 1) = false) (hL : nL ≤ 4) (hC : nC ≤ 24) (qo : Nat) (o : Nat → Int64) (sa : Nat → Nat) (hl9 : l.stackTraces = false)  : ∀ sz : Nat, zML l yL_lift wsL_lift ({ frames := 8, cells := 1, slots := 6, locals := 126 } : Room) D cI cZ cJ (wV cI cZ cJ h lev tm gn nL nC nE L B C E qo o) sz [.ref (h 0), .int v, .int u, .ref qo] sa (fun r w' => r = 1 ∧ w' = wV cI cZ cJ h lev tm gn nL nC nE L B C E qo o) := by
  intro sz
  refine z_headL (y := yL_lift) (av := [.ref (h 0), .int v, .int u, .ref qo]) (w := (wV cI cZ cJ h lev tm gn nL nC nE L B C E qo o)) (cc := cL_lift) (maxL := 5) (ret := (some .int)) (hh := [(0, 10, 13, 13), (0, 10, 17, 15)]) (by decide) rfl (Nat.le_of_ble_eq_true rfl) ?_
  intro p e s m below meth c ls A hat hX hN hT hP hD hS hl
  obtain ⟨hx, hb, hr, hml, hlocks, hts, hown, hin, hK, hE, hA⟩ := hat
  have hP : va_P D vwCl (wX cI cZ h lev tm gn nL nC nE L B C E ++ [(qo, .inl (cJ, 1, .inr (.inl o)))]) s.heap := hP
  have hD : va_D A (wX cI cZ h lev tm gn nL nC nE L B C E ++ [(qo, .inl (cJ, 1, .inr (.inl o)))]) := hD
  have hl : lv_has ls 5 [(0, .ref (h 0)), (1, .int v), (2, .int u), (3, .ref qo)] := hl
  refine lv_aload_n hx hb dL_lift_0 rfl (lv_at hl 3 rfl) ?_
  refine lv_iconst (v := 0) hx hb dL_lift_1 (by decide) ?_
  refine lv_aload_n hx hb dL_lift_2 rfl (lv_at hl 0 rfl) ?_
  refine lv_iload_n hx hb dL_lift_3 rfl (lv_at hl 1 rfl) ?_
  refine lv_iload_n hx hb dL_lift_4 rfl (lv_at hl 2 rfl) ?_
  refine z_backSX (wa := []) (w := (wX cI cZ h lev tm gn nL nC nE L B C E)) (wb := [(qo, .inl (cJ, 1, .inr (.inl o)))]) (z_runVXS (wa := []) (w := (wX cI cZ h lev tm gn nL nC nE L B C E)) (wb := [(qo, .inl (cJ, 1, .inr (.inl o)))]) (n := 2) (As := [.int v, .int u]) (ci := 4) (rest := [.int 0, .ref qo]) hx hb hml hown hts hK hE hX hS hA hP hD (tX3_lift_xa l D cI cZ cJ h lev tm gn nL nC nE L B C E v u hno hL hC hl9 sa _) gL_lift_X3_lift rfl rfl rfl (by decide +kernel) ⟨Nat.le_of_ble_eq_true rfl, Nat.le_of_ble_eq_true rfl⟩ rfl rfl rfl hl.1 rfl (Nat.le_of_ble_eq_true rfl) dL_lift_5 ⟨Nat.le_of_ble_eq_true rfl, Nat.le_of_ble_eq_true rfl⟩) hP hD hS hA (fun ce q9 H locs hP hS hce hcv hcl => ?_)
  refine z_catch1 (nm := zIA) hT rfl hown hts (by decide) (by decide) kL_lift_l13 hX (by decide) hce hcv hcl ?_
  refine lv_astore (lv' := [(4, .ref q9), (0, .ref (h 0)), (1, .int v), (2, .int u), (3, .ref qo)]) hx hb dL_lift_13 hl (by decide) rfl (fun ls hl => ?_)
  refine lv_iconst (v := 1) hx hb dL_lift_15 (by decide) ?_
  exact z_iret hx hb hr hlocks hS hP rfl dL_lift_16 (⟨rfl, rfl⟩)


set_option maxHeartbeats 4000000 in
set_option maxRecDepth 100000 in
theorem tL_lift_xb (l : Launch) (D : va_G) (cI cZ cJ : ClassId) (h : Nat → Nat) (lev tm : Nat) (gn : Int32) (nL nC nE : Nat) (L B C E : Nat → Nat → Int32) (v u : Int32) (h1 : inB v 0 (nI lev - 1) = true) (hno : inB u 1 50 = false) (hL : nL ≤ 4) (hC : nC ≤ 24) (qo : Nat) (o : Nat → Int64) (sa : Nat → Nat) (hl9 : l.stackTraces = false)  : ∀ sz : Nat, zML l yL_lift wsL_lift ({ frames := 8, cells := 1, slots := 6, locals := 126 } : Room) D cI cZ cJ (wV cI cZ cJ h lev tm gn nL nC nE L B C E qo o) sz [.ref (h 0), .int v, .int u, .ref qo] sa (fun r w' => r = 1 ∧ w' = wV cI cZ cJ h lev tm gn nL nC nE L B C E qo o) := by
  intro sz
  refine z_headL (y := yL_lift) (av := [.ref (h 0), .int v, .int u, .ref qo]) (w := (wV cI cZ cJ h lev tm gn nL nC nE L B C E qo o)) (cc := cL_lift) (maxL := 5) (ret := (some .int)) (hh := [(0, 10, 13, 13), (0, 10, 17, 15)]) (by decide) rfl (Nat.le_of_ble_eq_true rfl) ?_
  intro p e s m below meth c ls A hat hX hN hT hP hD hS hl
  obtain ⟨hx, hb, hr, hml, hlocks, hts, hown, hin, hK, hE, hA⟩ := hat
  have hP : va_P D vwCl (wX cI cZ h lev tm gn nL nC nE L B C E ++ [(qo, .inl (cJ, 1, .inr (.inl o)))]) s.heap := hP
  have hD : va_D A (wX cI cZ h lev tm gn nL nC nE L B C E ++ [(qo, .inl (cJ, 1, .inr (.inl o)))]) := hD
  have hl : lv_has ls 5 [(0, .ref (h 0)), (1, .int v), (2, .int u), (3, .ref qo)] := hl
  refine lv_aload_n hx hb dL_lift_0 rfl (lv_at hl 3 rfl) ?_
  refine lv_iconst (v := 0) hx hb dL_lift_1 (by decide) ?_
  refine lv_aload_n hx hb dL_lift_2 rfl (lv_at hl 0 rfl) ?_
  refine lv_iload_n hx hb dL_lift_3 rfl (lv_at hl 1 rfl) ?_
  refine lv_iload_n hx hb dL_lift_4 rfl (lv_at hl 2 rfl) ?_
  refine z_backSX (wa := []) (w := (wX cI cZ h lev tm gn nL nC nE L B C E)) (wb := [(qo, .inl (cJ, 1, .inr (.inl o)))]) (z_runVXS (wa := []) (w := (wX cI cZ h lev tm gn nL nC nE L B C E)) (wb := [(qo, .inl (cJ, 1, .inr (.inl o)))]) (n := 2) (As := [.int v, .int u]) (ci := 4) (rest := [.int 0, .ref qo]) hx hb hml hown hts hK hE hX hS hA hP hD (tX3_lift_xb l D cI cZ cJ h lev tm gn nL nC nE L B C E v u h1 hno hL hC hl9 sa _) gL_lift_X3_lift rfl rfl rfl (by decide +kernel) ⟨Nat.le_of_ble_eq_true rfl, Nat.le_of_ble_eq_true rfl⟩ rfl rfl rfl hl.1 rfl (Nat.le_of_ble_eq_true rfl) dL_lift_5 ⟨Nat.le_of_ble_eq_true rfl, Nat.le_of_ble_eq_true rfl⟩) hP hD hS hA (fun ce q9 H locs hP hS hce hcv hcl => ?_)
  refine z_catch1 (nm := zIA) hT rfl hown hts (by decide) (by decide) kL_lift_l13 hX (by decide) hce hcv hcl ?_
  refine lv_astore (lv' := [(4, .ref q9), (0, .ref (h 0)), (1, .int v), (2, .int u), (3, .ref qo)]) hx hb dL_lift_13 hl (by decide) rfl (fun ls hl => ?_)
  refine lv_iconst (v := 1) hx hb dL_lift_15 (by decide) ?_
  exact z_iret hx hb hr hlocks hS hP rfl dL_lift_16 (⟨rfl, rfl⟩)

theorem kL_lift_l15 : Cond.classLink RL 15 zUO ∈ wsL_lift := by decide +kernel
set_option maxHeartbeats 4000000 in
set_option maxRecDepth 100000 in
theorem tL_lift_xc (l : Launch) (D : va_G) (cI cZ cJ : ClassId) (h : Nat → Nat) (lev tm : Nat) (gn : Int32) (nL nC nE : Nat) (L B C E : Nat → Nat → Int32) (v u : Int32) (h1 : inB v 0 (nI lev - 1) = true) (h2 : inB u 1 50 = true) (h4 : nL = 4) (hL : nL ≤ 4) (hC : nC ≤ 24) (qo : Nat) (o : Nat → Int64) (sa : Nat → Nat) (hl9 : l.stackTraces = false)  : ∀ sz : Nat, zML l yL_lift wsL_lift ({ frames := 8, cells := 1, slots := 6, locals := 126 } : Room) D cI cZ cJ (wV cI cZ cJ h lev tm gn nL nC nE L B C E qo o) sz [.ref (h 0), .int v, .int u, .ref qo] sa (fun r w' => r = 2 ∧ w' = wV cI cZ cJ h lev tm gn nL nC nE L B C E qo o) := by
  intro sz
  refine z_headL (y := yL_lift) (av := [.ref (h 0), .int v, .int u, .ref qo]) (w := (wV cI cZ cJ h lev tm gn nL nC nE L B C E qo o)) (cc := cL_lift) (maxL := 5) (ret := (some .int)) (hh := [(0, 10, 13, 13), (0, 10, 17, 15)]) (by decide) rfl (Nat.le_of_ble_eq_true rfl) ?_
  intro p e s m below meth c ls A hat hX hN hT hP hD hS hl
  obtain ⟨hx, hb, hr, hml, hlocks, hts, hown, hin, hK, hE, hA⟩ := hat
  have hP : va_P D vwCl (wX cI cZ h lev tm gn nL nC nE L B C E ++ [(qo, .inl (cJ, 1, .inr (.inl o)))]) s.heap := hP
  have hD : va_D A (wX cI cZ h lev tm gn nL nC nE L B C E ++ [(qo, .inl (cJ, 1, .inr (.inl o)))]) := hD
  have hl : lv_has ls 5 [(0, .ref (h 0)), (1, .int v), (2, .int u), (3, .ref qo)] := hl
  refine lv_aload_n hx hb dL_lift_0 rfl (lv_at hl 3 rfl) ?_
  refine lv_iconst (v := 0) hx hb dL_lift_1 (by decide) ?_
  refine lv_aload_n hx hb dL_lift_2 rfl (lv_at hl 0 rfl) ?_
  refine lv_iload_n hx hb dL_lift_3 rfl (lv_at hl 1 rfl) ?_
  refine lv_iload_n hx hb dL_lift_4 rfl (lv_at hl 2 rfl) ?_
  refine z_backSX (wa := []) (w := (wX cI cZ h lev tm gn nL nC nE L B C E)) (wb := [(qo, .inl (cJ, 1, .inr (.inl o)))]) (z_runVXS (wa := []) (w := (wX cI cZ h lev tm gn nL nC nE L B C E)) (wb := [(qo, .inl (cJ, 1, .inr (.inl o)))]) (n := 2) (As := [.int v, .int u]) (ci := 4) (rest := [.int 0, .ref qo]) hx hb hml hown hts hK hE hX hS hA hP hD (tX3_lift_xc l D cI cZ cJ h lev tm gn nL nC nE L B C E v u h1 h2 h4 hL hC hl9 sa _) gL_lift_X3_lift rfl rfl rfl (by decide +kernel) ⟨Nat.le_of_ble_eq_true rfl, Nat.le_of_ble_eq_true rfl⟩ rfl rfl rfl hl.1 rfl (Nat.le_of_ble_eq_true rfl) dL_lift_5 ⟨Nat.le_of_ble_eq_true rfl, Nat.le_of_ble_eq_true rfl⟩) hP hD hS hA (fun ce q9 H locs hP hS hce hcv hcl => ?_)
  refine z_catch2 (nm := zUO) (nm1 := zIA) hT rfl hown hts (by decide) (by decide) (by decide) kL_lift_l13 kL_lift_l15 hX hN (by decide) (by decide) hce hcv hcl ?_
  refine lv_astore (lv' := [(4, .ref q9), (0, .ref (h 0)), (1, .int v), (2, .int u), (3, .ref qo)]) hx hb dL_lift_17 hl (by decide) rfl (fun ls hl => ?_)
  refine lv_iconst (v := 2) hx hb dL_lift_19 (by decide) ?_
  exact z_iret hx hb hr hlocks hS hP rfl dL_lift_20 (⟨rfl, rfl⟩)

theorem kL_call_l13 : Cond.classLink RL 13 zIA ∈ wsL_call := by decide +kernel
set_option maxHeartbeats 4000000 in
set_option maxRecDepth 100000 in
theorem tL_call_xa (l : Launch) (D : va_G) (cI cZ cJ : ClassId) (h : Nat → Nat) (lev tm : Nat) (gn : Int32) (nL nC nE : Nat) (L B C E : Nat → Nat → Int32) (a b rk q : Int32) (hno : inB a 0 (nI lev - 1) = false) (hL : nL ≤ 4) (hC : nC ≤ 24) (qo : Nat) (o : Nat → Int64) (sa : Nat → Nat) (hl9 : l.stackTraces = false)  : ∀ sz : Nat, zML l yL_call wsL_call ({ frames := 8, cells := 1, slots := 6, locals := 129 } : Room) D cI cZ cJ (wV cI cZ cJ h lev tm gn nL nC nE L B C E qo o) sz [.ref (h 0), .int a, .int b, .int rk, .int q, .ref qo] sa (fun r w' => r = 1 ∧ w' = wV cI cZ cJ h lev tm gn nL nC nE L B C E qo o) := by
  intro sz
  refine z_headL (y := yL_call) (av := [.ref (h 0), .int a, .int b, .int rk, .int q, .ref qo]) (w := (wV cI cZ cJ h lev tm gn nL nC nE L B C E qo o)) (cc := cL_call) (maxL := 7) (ret := (some .int)) (hh := [(0, 14, 17, 13), (0, 14, 21, 15)]) (by decide) rfl (Nat.le_of_ble_eq_true rfl) ?_
  intro p e s m below meth c ls A hat hX hN hT hP hD hS hl
  obtain ⟨hx, hb, hr, hml, hlocks, hts, hown, hin, hK, hE, hA⟩ := hat
  have hP : va_P D vwCl (wX cI cZ h lev tm gn nL nC nE L B C E ++ [(qo, .inl (cJ, 1, .inr (.inl o)))]) s.heap := hP
  have hD : va_D A (wX cI cZ h lev tm gn nL nC nE L B C E ++ [(qo, .inl (cJ, 1, .inr (.inl o)))]) := hD
  have hl : lv_has ls 7 [(0, .ref (h 0)), (1, .int a), (2, .int b), (3, .int rk), (4, .int q), (5, .ref qo)] := hl
  refine lv_aload hx hb dL_call_0 (lv_at hl 5 rfl) ?_
  refine lv_iconst (v := 0) hx hb dL_call_2 (by decide) ?_
  refine lv_aload_n hx hb dL_call_3 rfl (lv_at hl 0 rfl) ?_
  refine lv_iload_n hx hb dL_call_4 rfl (lv_at hl 1 rfl) ?_
  refine lv_iload_n hx hb dL_call_5 rfl (lv_at hl 2 rfl) ?_
  refine lv_iload_n hx hb dL_call_6 rfl (lv_at hl 3 rfl) ?_
  refine lv_iload hx hb dL_call_7 (lv_at hl 4 rfl) ?_
  refine z_backSX (wa := []) (w := (wX cI cZ h lev tm gn nL nC nE L B C E)) (wb := [(qo, .inl (cJ, 1, .inr (.inl o)))]) (z_runVXS (wa := []) (w := (wX cI cZ h lev tm gn nL nC nE L B C E)) (wb := [(qo, .inl (cJ, 1, .inr (.inl o)))]) (n := 4) (As := [.int a, .int b, .int rk, .int q]) (ci := 4) (rest := [.int 0, .ref qo]) hx hb hml hown hts hK hE hX hS hA hP hD (tX3_call_xa l D cI cZ cJ h lev tm gn nL nC nE L B C E a b rk q hno hL hC hl9 sa _) gL_call_X3_call rfl rfl rfl (by decide +kernel) ⟨Nat.le_of_ble_eq_true rfl, Nat.le_of_ble_eq_true rfl⟩ rfl rfl rfl hl.1 rfl (Nat.le_of_ble_eq_true rfl) dL_call_9 ⟨Nat.le_of_ble_eq_true rfl, Nat.le_of_ble_eq_true rfl⟩) hP hD hS hA (fun ce q9 H locs hP hS hce hcv hcl => ?_)
  refine z_catch1 (nm := zIA) hT rfl hown hts (by decide) (by decide) kL_call_l13 hX (by decide) hce hcv hcl ?_
  refine lv_astore (lv' := [(6, .ref q9), (0, .ref (h 0)), (1, .int a), (2, .int b), (3, .int rk), (4, .int q), (5, .ref qo)]) hx hb dL_call_17 hl (by decide) rfl (fun ls hl => ?_)
  refine lv_iconst (v := 1) hx hb dL_call_19 (by decide) ?_
  exact z_iret hx hb hr hlocks hS hP rfl dL_call_20 (⟨rfl, rfl⟩)


set_option maxHeartbeats 4000000 in
set_option maxRecDepth 100000 in
theorem tL_call_xb (l : Launch) (D : va_G) (cI cZ cJ : ClassId) (h : Nat → Nat) (lev tm : Nat) (gn : Int32) (nL nC nE : Nat) (L B C E : Nat → Nat → Int32) (a b rk q : Int32) (h1 : inB a 0 (nI lev - 1) = true) (hno : inB b 0 (nI lev - 1) = false) (hL : nL ≤ 4) (hC : nC ≤ 24) (qo : Nat) (o : Nat → Int64) (sa : Nat → Nat) (hl9 : l.stackTraces = false)  : ∀ sz : Nat, zML l yL_call wsL_call ({ frames := 8, cells := 1, slots := 6, locals := 129 } : Room) D cI cZ cJ (wV cI cZ cJ h lev tm gn nL nC nE L B C E qo o) sz [.ref (h 0), .int a, .int b, .int rk, .int q, .ref qo] sa (fun r w' => r = 1 ∧ w' = wV cI cZ cJ h lev tm gn nL nC nE L B C E qo o) := by
  intro sz
  refine z_headL (y := yL_call) (av := [.ref (h 0), .int a, .int b, .int rk, .int q, .ref qo]) (w := (wV cI cZ cJ h lev tm gn nL nC nE L B C E qo o)) (cc := cL_call) (maxL := 7) (ret := (some .int)) (hh := [(0, 14, 17, 13), (0, 14, 21, 15)]) (by decide) rfl (Nat.le_of_ble_eq_true rfl) ?_
  intro p e s m below meth c ls A hat hX hN hT hP hD hS hl
  obtain ⟨hx, hb, hr, hml, hlocks, hts, hown, hin, hK, hE, hA⟩ := hat
  have hP : va_P D vwCl (wX cI cZ h lev tm gn nL nC nE L B C E ++ [(qo, .inl (cJ, 1, .inr (.inl o)))]) s.heap := hP
  have hD : va_D A (wX cI cZ h lev tm gn nL nC nE L B C E ++ [(qo, .inl (cJ, 1, .inr (.inl o)))]) := hD
  have hl : lv_has ls 7 [(0, .ref (h 0)), (1, .int a), (2, .int b), (3, .int rk), (4, .int q), (5, .ref qo)] := hl
  refine lv_aload hx hb dL_call_0 (lv_at hl 5 rfl) ?_
  refine lv_iconst (v := 0) hx hb dL_call_2 (by decide) ?_
  refine lv_aload_n hx hb dL_call_3 rfl (lv_at hl 0 rfl) ?_
  refine lv_iload_n hx hb dL_call_4 rfl (lv_at hl 1 rfl) ?_
  refine lv_iload_n hx hb dL_call_5 rfl (lv_at hl 2 rfl) ?_
  refine lv_iload_n hx hb dL_call_6 rfl (lv_at hl 3 rfl) ?_
  refine lv_iload hx hb dL_call_7 (lv_at hl 4 rfl) ?_
  refine z_backSX (wa := []) (w := (wX cI cZ h lev tm gn nL nC nE L B C E)) (wb := [(qo, .inl (cJ, 1, .inr (.inl o)))]) (z_runVXS (wa := []) (w := (wX cI cZ h lev tm gn nL nC nE L B C E)) (wb := [(qo, .inl (cJ, 1, .inr (.inl o)))]) (n := 4) (As := [.int a, .int b, .int rk, .int q]) (ci := 4) (rest := [.int 0, .ref qo]) hx hb hml hown hts hK hE hX hS hA hP hD (tX3_call_xb l D cI cZ cJ h lev tm gn nL nC nE L B C E a b rk q h1 hno hL hC hl9 sa _) gL_call_X3_call rfl rfl rfl (by decide +kernel) ⟨Nat.le_of_ble_eq_true rfl, Nat.le_of_ble_eq_true rfl⟩ rfl rfl rfl hl.1 rfl (Nat.le_of_ble_eq_true rfl) dL_call_9 ⟨Nat.le_of_ble_eq_true rfl, Nat.le_of_ble_eq_true rfl⟩) hP hD hS hA (fun ce q9 H locs hP hS hce hcv hcl => ?_)
  refine z_catch1 (nm := zIA) hT rfl hown hts (by decide) (by decide) kL_call_l13 hX (by decide) hce hcv hcl ?_
  refine lv_astore (lv' := [(6, .ref q9), (0, .ref (h 0)), (1, .int a), (2, .int b), (3, .int rk), (4, .int q), (5, .ref qo)]) hx hb dL_call_17 hl (by decide) rfl (fun ls hl => ?_)
  refine lv_iconst (v := 1) hx hb dL_call_19 (by decide) ?_
  exact z_iret hx hb hr hlocks hS hP rfl dL_call_20 (⟨rfl, rfl⟩)


set_option maxHeartbeats 4000000 in
set_option maxRecDepth 100000 in
theorem tL_call_xc (l : Launch) (D : va_G) (cI cZ cJ : ClassId) (h : Nat → Nat) (lev tm : Nat) (gn : Int32) (nL nC nE : Nat) (L B C E : Nat → Nat → Int32) (a b rk q : Int32) (h1 : inB a 0 (nI lev - 1) = true) (h2 : inB b 0 (nI lev - 1) = true) (hno : inB rk 1 3 = false) (hL : nL ≤ 4) (hC : nC ≤ 24) (qo : Nat) (o : Nat → Int64) (sa : Nat → Nat) (hl9 : l.stackTraces = false)  : ∀ sz : Nat, zML l yL_call wsL_call ({ frames := 8, cells := 1, slots := 6, locals := 129 } : Room) D cI cZ cJ (wV cI cZ cJ h lev tm gn nL nC nE L B C E qo o) sz [.ref (h 0), .int a, .int b, .int rk, .int q, .ref qo] sa (fun r w' => r = 1 ∧ w' = wV cI cZ cJ h lev tm gn nL nC nE L B C E qo o) := by
  intro sz
  refine z_headL (y := yL_call) (av := [.ref (h 0), .int a, .int b, .int rk, .int q, .ref qo]) (w := (wV cI cZ cJ h lev tm gn nL nC nE L B C E qo o)) (cc := cL_call) (maxL := 7) (ret := (some .int)) (hh := [(0, 14, 17, 13), (0, 14, 21, 15)]) (by decide) rfl (Nat.le_of_ble_eq_true rfl) ?_
  intro p e s m below meth c ls A hat hX hN hT hP hD hS hl
  obtain ⟨hx, hb, hr, hml, hlocks, hts, hown, hin, hK, hE, hA⟩ := hat
  have hP : va_P D vwCl (wX cI cZ h lev tm gn nL nC nE L B C E ++ [(qo, .inl (cJ, 1, .inr (.inl o)))]) s.heap := hP
  have hD : va_D A (wX cI cZ h lev tm gn nL nC nE L B C E ++ [(qo, .inl (cJ, 1, .inr (.inl o)))]) := hD
  have hl : lv_has ls 7 [(0, .ref (h 0)), (1, .int a), (2, .int b), (3, .int rk), (4, .int q), (5, .ref qo)] := hl
  refine lv_aload hx hb dL_call_0 (lv_at hl 5 rfl) ?_
  refine lv_iconst (v := 0) hx hb dL_call_2 (by decide) ?_
  refine lv_aload_n hx hb dL_call_3 rfl (lv_at hl 0 rfl) ?_
  refine lv_iload_n hx hb dL_call_4 rfl (lv_at hl 1 rfl) ?_
  refine lv_iload_n hx hb dL_call_5 rfl (lv_at hl 2 rfl) ?_
  refine lv_iload_n hx hb dL_call_6 rfl (lv_at hl 3 rfl) ?_
  refine lv_iload hx hb dL_call_7 (lv_at hl 4 rfl) ?_
  refine z_backSX (wa := []) (w := (wX cI cZ h lev tm gn nL nC nE L B C E)) (wb := [(qo, .inl (cJ, 1, .inr (.inl o)))]) (z_runVXS (wa := []) (w := (wX cI cZ h lev tm gn nL nC nE L B C E)) (wb := [(qo, .inl (cJ, 1, .inr (.inl o)))]) (n := 4) (As := [.int a, .int b, .int rk, .int q]) (ci := 4) (rest := [.int 0, .ref qo]) hx hb hml hown hts hK hE hX hS hA hP hD (tX3_call_xc l D cI cZ cJ h lev tm gn nL nC nE L B C E a b rk q h1 h2 hno hL hC hl9 sa _) gL_call_X3_call rfl rfl rfl (by decide +kernel) ⟨Nat.le_of_ble_eq_true rfl, Nat.le_of_ble_eq_true rfl⟩ rfl rfl rfl hl.1 rfl (Nat.le_of_ble_eq_true rfl) dL_call_9 ⟨Nat.le_of_ble_eq_true rfl, Nat.le_of_ble_eq_true rfl⟩) hP hD hS hA (fun ce q9 H locs hP hS hce hcv hcl => ?_)
  refine z_catch1 (nm := zIA) hT rfl hown hts (by decide) (by decide) kL_call_l13 hX (by decide) hce hcv hcl ?_
  refine lv_astore (lv' := [(6, .ref q9), (0, .ref (h 0)), (1, .int a), (2, .int b), (3, .int rk), (4, .int q), (5, .ref qo)]) hx hb dL_call_17 hl (by decide) rfl (fun ls hl => ?_)
  refine lv_iconst (v := 1) hx hb dL_call_19 (by decide) ?_
  exact z_iret hx hb hr hlocks hS hP rfl dL_call_20 (⟨rfl, rfl⟩)


set_option maxHeartbeats 4000000 in
set_option maxRecDepth 100000 in
theorem tL_call_xd (l : Launch) (D : va_G) (cI cZ cJ : ClassId) (h : Nat → Nat) (lev tm : Nat) (gn : Int32) (nL nC nE : Nat) (L B C E : Nat → Nat → Int32) (a b rk q : Int32) (h1 : inB a 0 (nI lev - 1) = true) (h2 : inB b 0 (nI lev - 1) = true) (h4 : inB rk 1 3 = true) (hno : inB q 1 50 = false) (hL : nL ≤ 4) (hC : nC ≤ 24) (qo : Nat) (o : Nat → Int64) (sa : Nat → Nat) (hl9 : l.stackTraces = false)  : ∀ sz : Nat, zML l yL_call wsL_call ({ frames := 8, cells := 1, slots := 6, locals := 129 } : Room) D cI cZ cJ (wV cI cZ cJ h lev tm gn nL nC nE L B C E qo o) sz [.ref (h 0), .int a, .int b, .int rk, .int q, .ref qo] sa (fun r w' => r = 1 ∧ w' = wV cI cZ cJ h lev tm gn nL nC nE L B C E qo o) := by
  intro sz
  refine z_headL (y := yL_call) (av := [.ref (h 0), .int a, .int b, .int rk, .int q, .ref qo]) (w := (wV cI cZ cJ h lev tm gn nL nC nE L B C E qo o)) (cc := cL_call) (maxL := 7) (ret := (some .int)) (hh := [(0, 14, 17, 13), (0, 14, 21, 15)]) (by decide) rfl (Nat.le_of_ble_eq_true rfl) ?_
  intro p e s m below meth c ls A hat hX hN hT hP hD hS hl
  obtain ⟨hx, hb, hr, hml, hlocks, hts, hown, hin, hK, hE, hA⟩ := hat
  have hP : va_P D vwCl (wX cI cZ h lev tm gn nL nC nE L B C E ++ [(qo, .inl (cJ, 1, .inr (.inl o)))]) s.heap := hP
  have hD : va_D A (wX cI cZ h lev tm gn nL nC nE L B C E ++ [(qo, .inl (cJ, 1, .inr (.inl o)))]) := hD
  have hl : lv_has ls 7 [(0, .ref (h 0)), (1, .int a), (2, .int b), (3, .int rk), (4, .int q), (5, .ref qo)] := hl
  refine lv_aload hx hb dL_call_0 (lv_at hl 5 rfl) ?_
  refine lv_iconst (v := 0) hx hb dL_call_2 (by decide) ?_
  refine lv_aload_n hx hb dL_call_3 rfl (lv_at hl 0 rfl) ?_
  refine lv_iload_n hx hb dL_call_4 rfl (lv_at hl 1 rfl) ?_
  refine lv_iload_n hx hb dL_call_5 rfl (lv_at hl 2 rfl) ?_
  refine lv_iload_n hx hb dL_call_6 rfl (lv_at hl 3 rfl) ?_
  refine lv_iload hx hb dL_call_7 (lv_at hl 4 rfl) ?_
  refine z_backSX (wa := []) (w := (wX cI cZ h lev tm gn nL nC nE L B C E)) (wb := [(qo, .inl (cJ, 1, .inr (.inl o)))]) (z_runVXS (wa := []) (w := (wX cI cZ h lev tm gn nL nC nE L B C E)) (wb := [(qo, .inl (cJ, 1, .inr (.inl o)))]) (n := 4) (As := [.int a, .int b, .int rk, .int q]) (ci := 4) (rest := [.int 0, .ref qo]) hx hb hml hown hts hK hE hX hS hA hP hD (tX3_call_xd l D cI cZ cJ h lev tm gn nL nC nE L B C E a b rk q h1 h2 h4 hno hL hC hl9 sa _) gL_call_X3_call rfl rfl rfl (by decide +kernel) ⟨Nat.le_of_ble_eq_true rfl, Nat.le_of_ble_eq_true rfl⟩ rfl rfl rfl hl.1 rfl (Nat.le_of_ble_eq_true rfl) dL_call_9 ⟨Nat.le_of_ble_eq_true rfl, Nat.le_of_ble_eq_true rfl⟩) hP hD hS hA (fun ce q9 H locs hP hS hce hcv hcl => ?_)
  refine z_catch1 (nm := zIA) hT rfl hown hts (by decide) (by decide) kL_call_l13 hX (by decide) hce hcv hcl ?_
  refine lv_astore (lv' := [(6, .ref q9), (0, .ref (h 0)), (1, .int a), (2, .int b), (3, .int rk), (4, .int q), (5, .ref qo)]) hx hb dL_call_17 hl (by decide) rfl (fun ls hl => ?_)
  refine lv_iconst (v := 1) hx hb dL_call_19 (by decide) ?_
  exact z_iret hx hb hr hlocks hS hP rfl dL_call_20 (⟨rfl, rfl⟩)


set_option maxHeartbeats 4000000 in
set_option maxRecDepth 100000 in
theorem tL_call_xe (l : Launch) (D : va_G) (cI cZ cJ : ClassId) (h : Nat → Nat) (lev tm : Nat) (gn : Int32) (nL nC nE : Nat) (L B C E : Nat → Nat → Int32) (a b rk q : Int32) (h1 : inB a 0 (nI lev - 1) = true) (h2 : inB b 0 (nI lev - 1) = true) (h4 : inB rk 1 3 = true) (h5 : inB q 1 50 = true) (hno : a = b) (hL : nL ≤ 4) (hC : nC ≤ 24) (qo : Nat) (o : Nat → Int64) (sa : Nat → Nat) (hl9 : l.stackTraces = false)  : ∀ sz : Nat, zML l yL_call wsL_call ({ frames := 8, cells := 1, slots := 6, locals := 129 } : Room) D cI cZ cJ (wV cI cZ cJ h lev tm gn nL nC nE L B C E qo o) sz [.ref (h 0), .int a, .int b, .int rk, .int q, .ref qo] sa (fun r w' => r = 1 ∧ w' = wV cI cZ cJ h lev tm gn nL nC nE L B C E qo o) := by
  intro sz
  refine z_headL (y := yL_call) (av := [.ref (h 0), .int a, .int b, .int rk, .int q, .ref qo]) (w := (wV cI cZ cJ h lev tm gn nL nC nE L B C E qo o)) (cc := cL_call) (maxL := 7) (ret := (some .int)) (hh := [(0, 14, 17, 13), (0, 14, 21, 15)]) (by decide) rfl (Nat.le_of_ble_eq_true rfl) ?_
  intro p e s m below meth c ls A hat hX hN hT hP hD hS hl
  obtain ⟨hx, hb, hr, hml, hlocks, hts, hown, hin, hK, hE, hA⟩ := hat
  have hP : va_P D vwCl (wX cI cZ h lev tm gn nL nC nE L B C E ++ [(qo, .inl (cJ, 1, .inr (.inl o)))]) s.heap := hP
  have hD : va_D A (wX cI cZ h lev tm gn nL nC nE L B C E ++ [(qo, .inl (cJ, 1, .inr (.inl o)))]) := hD
  have hl : lv_has ls 7 [(0, .ref (h 0)), (1, .int a), (2, .int b), (3, .int rk), (4, .int q), (5, .ref qo)] := hl
  refine lv_aload hx hb dL_call_0 (lv_at hl 5 rfl) ?_
  refine lv_iconst (v := 0) hx hb dL_call_2 (by decide) ?_
  refine lv_aload_n hx hb dL_call_3 rfl (lv_at hl 0 rfl) ?_
  refine lv_iload_n hx hb dL_call_4 rfl (lv_at hl 1 rfl) ?_
  refine lv_iload_n hx hb dL_call_5 rfl (lv_at hl 2 rfl) ?_
  refine lv_iload_n hx hb dL_call_6 rfl (lv_at hl 3 rfl) ?_
  refine lv_iload hx hb dL_call_7 (lv_at hl 4 rfl) ?_
  refine z_backSX (wa := []) (w := (wX cI cZ h lev tm gn nL nC nE L B C E)) (wb := [(qo, .inl (cJ, 1, .inr (.inl o)))]) (z_runVXS (wa := []) (w := (wX cI cZ h lev tm gn nL nC nE L B C E)) (wb := [(qo, .inl (cJ, 1, .inr (.inl o)))]) (n := 4) (As := [.int a, .int b, .int rk, .int q]) (ci := 4) (rest := [.int 0, .ref qo]) hx hb hml hown hts hK hE hX hS hA hP hD (tX3_call_xe l D cI cZ cJ h lev tm gn nL nC nE L B C E a b rk q h1 h2 h4 h5 hno hL hC hl9 sa _) gL_call_X3_call rfl rfl rfl (by decide +kernel) ⟨Nat.le_of_ble_eq_true rfl, Nat.le_of_ble_eq_true rfl⟩ rfl rfl rfl hl.1 rfl (Nat.le_of_ble_eq_true rfl) dL_call_9 ⟨Nat.le_of_ble_eq_true rfl, Nat.le_of_ble_eq_true rfl⟩) hP hD hS hA (fun ce q9 H locs hP hS hce hcv hcl => ?_)
  refine z_catch1 (nm := zIA) hT rfl hown hts (by decide) (by decide) kL_call_l13 hX (by decide) hce hcv hcl ?_
  refine lv_astore (lv' := [(6, .ref q9), (0, .ref (h 0)), (1, .int a), (2, .int b), (3, .int rk), (4, .int q), (5, .ref qo)]) hx hb dL_call_17 hl (by decide) rfl (fun ls hl => ?_)
  refine lv_iconst (v := 1) hx hb dL_call_19 (by decide) ?_
  exact z_iret hx hb hr hlocks hS hP rfl dL_call_20 (⟨rfl, rfl⟩)

theorem kL_call_l15 : Cond.classLink RL 15 zUO ∈ wsL_call := by decide +kernel
set_option maxHeartbeats 4000000 in
set_option maxRecDepth 100000 in
theorem tL_call_xf (l : Launch) (D : va_G) (cI cZ cJ : ClassId) (h : Nat → Nat) (lev tm : Nat) (gn : Int32) (nL nC nE : Nat) (L B C E : Nat → Nat → Int32) (a b rk q : Int32) (h1 : inB a 0 (nI lev - 1) = true) (h2 : inB b 0 (nI lev - 1) = true) (h4 : inB rk 1 3 = true) (h5 : inB q 1 50 = true) (h3 : ¬ a = b) (h6 : nC = 24) (hL : nL ≤ 4) (hC : nC ≤ 24) (qo : Nat) (o : Nat → Int64) (sa : Nat → Nat) (hl9 : l.stackTraces = false)  : ∀ sz : Nat, zML l yL_call wsL_call ({ frames := 8, cells := 1, slots := 6, locals := 129 } : Room) D cI cZ cJ (wV cI cZ cJ h lev tm gn nL nC nE L B C E qo o) sz [.ref (h 0), .int a, .int b, .int rk, .int q, .ref qo] sa (fun r w' => r = 2 ∧ w' = wV cI cZ cJ h lev tm gn nL nC nE L B C E qo o) := by
  intro sz
  refine z_headL (y := yL_call) (av := [.ref (h 0), .int a, .int b, .int rk, .int q, .ref qo]) (w := (wV cI cZ cJ h lev tm gn nL nC nE L B C E qo o)) (cc := cL_call) (maxL := 7) (ret := (some .int)) (hh := [(0, 14, 17, 13), (0, 14, 21, 15)]) (by decide) rfl (Nat.le_of_ble_eq_true rfl) ?_
  intro p e s m below meth c ls A hat hX hN hT hP hD hS hl
  obtain ⟨hx, hb, hr, hml, hlocks, hts, hown, hin, hK, hE, hA⟩ := hat
  have hP : va_P D vwCl (wX cI cZ h lev tm gn nL nC nE L B C E ++ [(qo, .inl (cJ, 1, .inr (.inl o)))]) s.heap := hP
  have hD : va_D A (wX cI cZ h lev tm gn nL nC nE L B C E ++ [(qo, .inl (cJ, 1, .inr (.inl o)))]) := hD
  have hl : lv_has ls 7 [(0, .ref (h 0)), (1, .int a), (2, .int b), (3, .int rk), (4, .int q), (5, .ref qo)] := hl
  refine lv_aload hx hb dL_call_0 (lv_at hl 5 rfl) ?_
  refine lv_iconst (v := 0) hx hb dL_call_2 (by decide) ?_
  refine lv_aload_n hx hb dL_call_3 rfl (lv_at hl 0 rfl) ?_
  refine lv_iload_n hx hb dL_call_4 rfl (lv_at hl 1 rfl) ?_
  refine lv_iload_n hx hb dL_call_5 rfl (lv_at hl 2 rfl) ?_
  refine lv_iload_n hx hb dL_call_6 rfl (lv_at hl 3 rfl) ?_
  refine lv_iload hx hb dL_call_7 (lv_at hl 4 rfl) ?_
  refine z_backSX (wa := []) (w := (wX cI cZ h lev tm gn nL nC nE L B C E)) (wb := [(qo, .inl (cJ, 1, .inr (.inl o)))]) (z_runVXS (wa := []) (w := (wX cI cZ h lev tm gn nL nC nE L B C E)) (wb := [(qo, .inl (cJ, 1, .inr (.inl o)))]) (n := 4) (As := [.int a, .int b, .int rk, .int q]) (ci := 4) (rest := [.int 0, .ref qo]) hx hb hml hown hts hK hE hX hS hA hP hD (tX3_call_xf l D cI cZ cJ h lev tm gn nL nC nE L B C E a b rk q h1 h2 h4 h5 h3 h6 hL hC hl9 sa _) gL_call_X3_call rfl rfl rfl (by decide +kernel) ⟨Nat.le_of_ble_eq_true rfl, Nat.le_of_ble_eq_true rfl⟩ rfl rfl rfl hl.1 rfl (Nat.le_of_ble_eq_true rfl) dL_call_9 ⟨Nat.le_of_ble_eq_true rfl, Nat.le_of_ble_eq_true rfl⟩) hP hD hS hA (fun ce q9 H locs hP hS hce hcv hcl => ?_)
  refine z_catch2 (nm := zUO) (nm1 := zIA) hT rfl hown hts (by decide) (by decide) (by decide) kL_call_l13 kL_call_l15 hX hN (by decide) (by decide) hce hcv hcl ?_
  refine lv_astore (lv' := [(6, .ref q9), (0, .ref (h 0)), (1, .int a), (2, .int b), (3, .int rk), (4, .int q), (5, .ref qo)]) hx hb dL_call_21 hl (by decide) rfl (fun ls hl => ?_)
  refine lv_iconst (v := 2) hx hb dL_call_23 (by decide) ?_
  exact z_iret hx hb hr hlocks hS hP rfl dL_call_24 (⟨rfl, rfl⟩)

theorem kL_step_l13 : Cond.classLink RL 13 zIA ∈ wsL_step := by decide +kernel
set_option maxHeartbeats 4000000 in
set_option maxRecDepth 100000 in
theorem tL_step_xa (l : Launch) (D : va_G) (cI cZ cJ : ClassId) (h : Nat → Nat) (lev tm : Nat) (gn : Int32) (nL nC nE : Nat) (L B C E : Nat → Nat → Int32) (v : Int32) (hno : inB v 0 200 = false) (hL : nL ≤ 4) (hC : nC ≤ 24) (qo : Nat) (o : Nat → Int64) (sa : Nat → Nat) (hl9 : l.stackTraces = false)  : ∀ sz : Nat, zML l yL_step wsL_step ({ frames := 8, cells := 1, slots := 6, locals := 127 } : Room) D cI cZ cJ (wV cI cZ cJ h lev tm gn nL nC nE L B C E qo o) sz [.ref (h 0), .int v, .ref qo] sa (fun r w' => r = 1 ∧ w' = wV cI cZ cJ h lev tm gn nL nC nE L B C E qo o) := by
  intro sz
  refine z_headL (y := yL_step) (av := [.ref (h 0), .int v, .ref qo]) (w := (wV cI cZ cJ h lev tm gn nL nC nE L B C E qo o)) (cc := cL_step) (maxL := 4) (ret := (some .int)) (hh := [(0, 9, 12, 13)]) (by decide) rfl (Nat.le_of_ble_eq_true rfl) ?_
  intro p e s m below meth c ls A hat hX hN hT hP hD hS hl
  obtain ⟨hx, hb, hr, hml, hlocks, hts, hown, hin, hK, hE, hA⟩ := hat
  have hP : va_P D vwCl (wX cI cZ h lev tm gn nL nC nE L B C E ++ [(qo, .inl (cJ, 1, .inr (.inl o)))]) s.heap := hP
  have hD : va_D A (wX cI cZ h lev tm gn nL nC nE L B C E ++ [(qo, .inl (cJ, 1, .inr (.inl o)))]) := hD
  have hl : lv_has ls 4 [(0, .ref (h 0)), (1, .int v), (2, .ref qo)] := hl
  refine lv_aload_n hx hb dL_step_0 rfl (lv_at hl 2 rfl) ?_
  refine lv_iconst (v := 0) hx hb dL_step_1 (by decide) ?_
  refine lv_aload_n hx hb dL_step_2 rfl (lv_at hl 0 rfl) ?_
  refine lv_iload_n hx hb dL_step_3 rfl (lv_at hl 1 rfl) ?_
  refine z_backSX (wa := []) (w := (wX cI cZ h lev tm gn nL nC nE L B C E)) (wb := [(qo, .inl (cJ, 1, .inr (.inl o)))]) (z_runVXS (wa := []) (w := (wX cI cZ h lev tm gn nL nC nE L B C E)) (wb := [(qo, .inl (cJ, 1, .inr (.inl o)))]) (n := 1) (As := [.int v]) (ci := 4) (rest := [.int 0, .ref qo]) hx hb hml hown hts hK hE hX hS hA hP hD (tX3_step_xa l D cI cZ cJ h lev tm gn nL nC nE L B C E v hno hL hC hl9 sa _) gL_step_X3_step rfl rfl rfl (by decide +kernel) ⟨Nat.le_of_ble_eq_true rfl, Nat.le_of_ble_eq_true rfl⟩ rfl rfl rfl hl.1 rfl (Nat.le_of_ble_eq_true rfl) dL_step_4 ⟨Nat.le_of_ble_eq_true rfl, Nat.le_of_ble_eq_true rfl⟩) hP hD hS hA (fun ce q9 H locs hP hS hce hcv hcl => ?_)
  refine z_catch1 (nm := zIA) hT rfl hown hts (by decide) (by decide) kL_step_l13 hX (by decide) hce hcv hcl ?_
  refine lv_astore_n (lv' := [(3, .ref q9), (0, .ref (h 0)), (1, .int v), (2, .ref qo)]) hx hb dL_step_12 rfl hl (by decide) rfl (fun ls hl => ?_)
  refine lv_iconst (v := 1) hx hb dL_step_13 (by decide) ?_
  exact z_iret hx hb hr hlocks hS hP rfl dL_step_14 (⟨rfl, rfl⟩)

theorem kL_event_l28 : Cond.classLink RL 28 zNN ∈ wsL_event := by decide +kernel
set_option maxHeartbeats 4000000 in
set_option maxRecDepth 100000 in
theorem tL_event_xa (l : Launch) (D : va_G) (cI cZ cJ : ClassId) (h : Nat → Nat) (lev tm : Nat) (gn : Int32) (nL nC nE : Nat) (L B C E : Nat → Nat → Int32) (v u : Int32) (hno : inB v 0 (nI nE - 1) = false) (hNE : nE ≤ 48) (hL : nL ≤ 4) (hC : nC ≤ 24) (qo : Nat) (o : Nat → Int64) (sa : Nat → Nat) (hl9 : l.stackTraces = false)  : ∀ sz : Nat, zML l yL_event wsL_event ({ frames := 7, cells := 1, slots := 6, locals := 104 } : Room) D cI cZ cJ (wV cI cZ cJ h lev tm gn nL nC nE L B C E qo o) sz [.ref (h 0), .int v, .int u, .ref qo] sa (fun r w' => r = 1 ∧ w' = wV cI cZ cJ h lev tm gn nL nC nE L B C E qo o) := by
  intro sz
  refine z_headL (y := yL_event) (av := [.ref (h 0), .int v, .int u, .ref qo]) (w := (wV cI cZ cJ h lev tm gn nL nC nE L B C E qo o)) (cc := cL_event) (maxL := 5) (ret := (some .int)) (hh := [(0, 10, 13, 28), (0, 10, 17, 13)]) (by decide) rfl (Nat.le_of_ble_eq_true rfl) ?_
  intro p e s m below meth c ls A hat hX hN hT hP hD hS hl
  obtain ⟨hx, hb, hr, hml, hlocks, hts, hown, hin, hK, hE, hA⟩ := hat
  have hP : va_P D vwCl (wX cI cZ h lev tm gn nL nC nE L B C E ++ [(qo, .inl (cJ, 1, .inr (.inl o)))]) s.heap := hP
  have hD : va_D A (wX cI cZ h lev tm gn nL nC nE L B C E ++ [(qo, .inl (cJ, 1, .inr (.inl o)))]) := hD
  have hl : lv_has ls 5 [(0, .ref (h 0)), (1, .int v), (2, .int u), (3, .ref qo)] := hl
  refine lv_aload_n hx hb dL_event_0 rfl (lv_at hl 3 rfl) ?_
  refine lv_iconst (v := 0) hx hb dL_event_1 (by decide) ?_
  refine lv_aload_n hx hb dL_event_2 rfl (lv_at hl 0 rfl) ?_
  refine lv_iload_n hx hb dL_event_3 rfl (lv_at hl 1 rfl) ?_
  refine lv_iload_n hx hb dL_event_4 rfl (lv_at hl 2 rfl) ?_
  refine z_backSX (wa := []) (w := (wX cI cZ h lev tm gn nL nC nE L B C E)) (wb := [(qo, .inl (cJ, 1, .inr (.inl o)))]) (z_runVXS (wa := []) (w := (wX cI cZ h lev tm gn nL nC nE L B C E)) (wb := [(qo, .inl (cJ, 1, .inr (.inl o)))]) (n := 2) (As := [.int v, .int u]) (ci := 4) (rest := [.int 0, .ref qo]) hx hb hml hown hts hK hE hX hS hA hP hD (tX3_event_xa l D cI cZ cJ h lev tm gn nL nC nE L B C E v u hno hNE hL hC hl9 sa _) gL_event_X3_event rfl rfl rfl (by decide +kernel) ⟨Nat.le_of_ble_eq_true rfl, Nat.le_of_ble_eq_true rfl⟩ rfl rfl rfl hl.1 rfl (Nat.le_of_ble_eq_true rfl) dL_event_5 ⟨Nat.le_of_ble_eq_true rfl, Nat.le_of_ble_eq_true rfl⟩) hP hD hS hA (fun ce q9 H locs hP hS hce hcv hcl => ?_)
  refine z_catch1 (nm := zNN) hT rfl hown hts (by decide) (by decide) kL_event_l28 hX (by decide) hce hcv hcl ?_
  refine lv_astore (lv' := [(4, .ref q9), (0, .ref (h 0)), (1, .int v), (2, .int u), (3, .ref qo)]) hx hb dL_event_13 hl (by decide) rfl (fun ls hl => ?_)
  refine lv_iconst (v := 1) hx hb dL_event_15 (by decide) ?_
  exact z_iret hx hb hr hlocks hS hP rfl dL_event_16 (⟨rfl, rfl⟩)

theorem kL_event_l13 : Cond.classLink RL 13 zIA ∈ wsL_event := by decide +kernel
set_option maxHeartbeats 4000000 in
set_option maxRecDepth 100000 in
theorem tL_event_xb (l : Launch) (D : va_G) (cI cZ cJ : ClassId) (h : Nat → Nat) (lev tm : Nat) (gn : Int32) (nL nC nE : Nat) (L B C E : Nat → Nat → Int32) (k : Nat) (hk : k < nE) (hNE : nE ≤ 48) (u : Int32) (hno : inB u 0 3 = false) (hL : nL ≤ 4) (hC : nC ≤ 24) (qo : Nat) (o : Nat → Int64) (sa : Nat → Nat) (hl9 : l.stackTraces = false)  : ∀ sz : Nat, zML l yL_event wsL_event ({ frames := 8, cells := 1, slots := 6, locals := 126 } : Room) D cI cZ cJ (wV cI cZ cJ h lev tm gn nL nC nE L B C E qo o) sz [.ref (h 0), .int (nI k), .int u, .ref qo] sa (fun r w' => r = 2 ∧ w' = wV cI cZ cJ h lev tm gn nL nC nE L B C E qo o) := by
  intro sz
  refine z_headL (y := yL_event) (av := [.ref (h 0), .int (nI k), .int u, .ref qo]) (w := (wV cI cZ cJ h lev tm gn nL nC nE L B C E qo o)) (cc := cL_event) (maxL := 5) (ret := (some .int)) (hh := [(0, 10, 13, 28), (0, 10, 17, 13)]) (by decide) rfl (Nat.le_of_ble_eq_true rfl) ?_
  intro p e s m below meth c ls A hat hX hN hT hP hD hS hl
  obtain ⟨hx, hb, hr, hml, hlocks, hts, hown, hin, hK, hE, hA⟩ := hat
  have hP : va_P D vwCl (wX cI cZ h lev tm gn nL nC nE L B C E ++ [(qo, .inl (cJ, 1, .inr (.inl o)))]) s.heap := hP
  have hD : va_D A (wX cI cZ h lev tm gn nL nC nE L B C E ++ [(qo, .inl (cJ, 1, .inr (.inl o)))]) := hD
  have hl : lv_has ls 5 [(0, .ref (h 0)), (1, .int (nI k)), (2, .int u), (3, .ref qo)] := hl
  refine lv_aload_n hx hb dL_event_0 rfl (lv_at hl 3 rfl) ?_
  refine lv_iconst (v := 0) hx hb dL_event_1 (by decide) ?_
  refine lv_aload_n hx hb dL_event_2 rfl (lv_at hl 0 rfl) ?_
  refine lv_iload_n hx hb dL_event_3 rfl (lv_at hl 1 rfl) ?_
  refine lv_iload_n hx hb dL_event_4 rfl (lv_at hl 2 rfl) ?_
  refine z_backSX (wa := []) (w := (wX cI cZ h lev tm gn nL nC nE L B C E)) (wb := [(qo, .inl (cJ, 1, .inr (.inl o)))]) (z_runVXS (wa := []) (w := (wX cI cZ h lev tm gn nL nC nE L B C E)) (wb := [(qo, .inl (cJ, 1, .inr (.inl o)))]) (n := 2) (As := [.int (nI k), .int u]) (ci := 4) (rest := [.int 0, .ref qo]) hx hb hml hown hts hK hE hX hS hA hP hD (tX3_event_xb l D cI cZ cJ h lev tm gn nL nC nE L B C E k hk hNE u hno hL hC hl9 sa _) gL_event_X3_event rfl rfl rfl (by decide +kernel) ⟨Nat.le_of_ble_eq_true rfl, Nat.le_of_ble_eq_true rfl⟩ rfl rfl rfl hl.1 rfl (Nat.le_of_ble_eq_true rfl) dL_event_5 ⟨Nat.le_of_ble_eq_true rfl, Nat.le_of_ble_eq_true rfl⟩) hP hD hS hA (fun ce q9 H locs hP hS hce hcv hcl => ?_)
  refine z_catch2 (nm := zIA) (nm1 := zNN) hT rfl hown hts (by decide) (by decide) (by decide) kL_event_l28 kL_event_l13 hX hN (by decide) (by decide) hce hcv hcl ?_
  refine lv_astore (lv' := [(4, .ref q9), (0, .ref (h 0)), (1, .int (nI k)), (2, .int u), (3, .ref qo)]) hx hb dL_event_17 hl (by decide) rfl (fun ls hl => ?_)
  refine lv_iconst (v := 2) hx hb dL_event_19 (by decide) ?_
  exact z_iret hx hb hr hlocks hS hP rfl dL_event_20 (⟨rfl, rfl⟩)

theorem kL_levelO_l33 : Cond.classLink RL 33 zAO ∈ wsL_levelO := by decide +kernel
theorem kL_levelO_l28 : Cond.classLink RL 28 zNN ∈ wsL_levelO := by decide +kernel
set_option maxHeartbeats 4000000 in
set_option maxRecDepth 100000 in
theorem tL_level_xa (l : Launch) (D : va_G) (cI cZ cJ : ClassId) (h : Nat → Nat) (lev tm : Nat) (gn : Int32) (nL nC nE : Nat) (L B C E : Nat → Nat → Int32) (v : Int32) (hno : inB v 0 3 = false) (hL : nL ≤ 4) (hC : nC ≤ 24) (qo : Nat) (o : Nat → Int64) (sa : Nat → Nat) (hl9 : l.stackTraces = false)  : ∀ sz : Nat, zML l yL_level wsL_levelO ({ frames := 8, cells := 1, slots := 6, locals := 116 } : Room) D cI cZ cJ (wV cI cZ cJ h lev tm gn nL nC nE L B C E qo o) sz [.ref (h 0), .int v, .ref qo] sa (fun r w' => r = 2 ∧ w' = wV cI cZ cJ h lev tm gn nL nC nE L B C E qo o) := by
  intro sz
  refine z_headL (y := yL_level) (av := [.ref (h 0), .int v, .ref qo]) (w := (wV cI cZ cJ h lev tm gn nL nC nE L B C E qo o)) (cc := cL_level) (maxL := 4) (ret := (some .int)) (hh := [(0, 9, 12, 28), (0, 9, 15, 33)]) (by decide) rfl (Nat.le_of_ble_eq_true rfl) ?_
  intro p e s m below meth c ls A hat hX hN hT hP hD hS hl
  obtain ⟨hx, hb, hr, hml, hlocks, hts, hown, hin, hK, hE, hA⟩ := hat
  have hP : va_P D vwCl (wX cI cZ h lev tm gn nL nC nE L B C E ++ [(qo, .inl (cJ, 1, .inr (.inl o)))]) s.heap := hP
  have hD : va_D A (wX cI cZ h lev tm gn nL nC nE L B C E ++ [(qo, .inl (cJ, 1, .inr (.inl o)))]) := hD
  have hl : lv_has ls 4 [(0, .ref (h 0)), (1, .int v), (2, .ref qo)] := hl
  refine lv_aload_n hx hb dL_level_0 rfl (lv_at hl 2 rfl) ?_
  refine lv_iconst (v := 0) hx hb dL_level_1 (by decide) ?_
  refine lv_aload_n hx hb dL_level_2 rfl (lv_at hl 0 rfl) ?_
  refine lv_iload_n hx hb dL_level_3 rfl (lv_at hl 1 rfl) ?_
  refine z_backSX (wa := []) (w := (wX cI cZ h lev tm gn nL nC nE L B C E)) (wb := [(qo, .inl (cJ, 1, .inr (.inl o)))]) (z_runVXS (wa := []) (w := (wX cI cZ h lev tm gn nL nC nE L B C E)) (wb := [(qo, .inl (cJ, 1, .inr (.inl o)))]) (n := 1) (As := [.int v]) (ci := 4) (rest := [.int 0, .ref qo]) hx hb hml hown hts hK hE hX hS hA hP hD (tX3_level_xa l D cI cZ cJ h lev tm gn nL nC nE L B C E v hno hL hC hl9 sa _) gL_levelO rfl rfl rfl (by decide +kernel) ⟨Nat.le_of_ble_eq_true rfl, Nat.le_of_ble_eq_true rfl⟩ rfl rfl rfl hl.1 rfl (Nat.le_of_ble_eq_true rfl) dL_level_4 ⟨Nat.le_of_ble_eq_true rfl, Nat.le_of_ble_eq_true rfl⟩) hP hD hS hA (fun ce q9 H locs hP hS hce hcv hcl => ?_)
  refine z_catch2 (nm := zAO) (nm1 := zNN) hT rfl hown hts (by decide) (by decide) (by decide) kL_levelO_l28 kL_levelO_l33 hX hN (by decide) (by decide) hce hcv hcl ?_
  refine lv_astore_n (lv' := [(3, .ref q9), (0, .ref (h 0)), (1, .int v), (2, .ref qo)]) hx hb dL_level_15 rfl hl (by decide) rfl (fun ls hl => ?_)
  refine lv_iconst (v := 2) hx hb dL_level_16 (by decide) ?_
  exact z_iret hx hb hr hlocks hS hP rfl dL_level_17 (⟨rfl, rfl⟩)

theorem kL_level_l28 : Cond.classLink RL 28 zNN ∈ wsL_level := by decide +kernel
set_option maxHeartbeats 4000000 in
set_option maxRecDepth 100000 in
theorem tL_level_xb (l : Launch) (D : va_G) (cI cZ cJ : ClassId) (h : Nat → Nat) (lev tm : Nat) (gn : Int32) (nL nC nE : Nat) (L B C E : Nat → Nat → Int32) (k : Nat) (hk : k < 4) (hk2 : nL ≤ k) (hL : nL ≤ 4) (hC : nC ≤ 24) (qo : Nat) (o : Nat → Int64) (sa : Nat → Nat) (hl9 : l.stackTraces = false)  : ∀ sz : Nat, zML l yL_level wsL_level ({ frames := 8, cells := 1, slots := 6, locals := 124 } : Room) D cI cZ cJ (wV cI cZ cJ h lev tm gn nL nC nE L B C E qo o) sz [.ref (h 0), .int (nI k), .ref qo] sa (fun r w' => r = 1 ∧ w' = wV cI cZ cJ h lev tm gn nL nC nE L B C E qo o) := by
  intro sz
  refine z_headL (y := yL_level) (av := [.ref (h 0), .int (nI k), .ref qo]) (w := (wV cI cZ cJ h lev tm gn nL nC nE L B C E qo o)) (cc := cL_level) (maxL := 4) (ret := (some .int)) (hh := [(0, 9, 12, 28), (0, 9, 15, 33)]) (by decide) rfl (Nat.le_of_ble_eq_true rfl) ?_
  intro p e s m below meth c ls A hat hX hN hT hP hD hS hl
  obtain ⟨hx, hb, hr, hml, hlocks, hts, hown, hin, hK, hE, hA⟩ := hat
  have hP : va_P D vwCl (wX cI cZ h lev tm gn nL nC nE L B C E ++ [(qo, .inl (cJ, 1, .inr (.inl o)))]) s.heap := hP
  have hD : va_D A (wX cI cZ h lev tm gn nL nC nE L B C E ++ [(qo, .inl (cJ, 1, .inr (.inl o)))]) := hD
  have hl : lv_has ls 4 [(0, .ref (h 0)), (1, .int (nI k)), (2, .ref qo)] := hl
  refine lv_aload_n hx hb dL_level_0 rfl (lv_at hl 2 rfl) ?_
  refine lv_iconst (v := 0) hx hb dL_level_1 (by decide) ?_
  refine lv_aload_n hx hb dL_level_2 rfl (lv_at hl 0 rfl) ?_
  refine lv_iload_n hx hb dL_level_3 rfl (lv_at hl 1 rfl) ?_
  refine z_backSX (wa := []) (w := (wX cI cZ h lev tm gn nL nC nE L B C E)) (wb := [(qo, .inl (cJ, 1, .inr (.inl o)))]) (z_runVXS (wa := []) (w := (wX cI cZ h lev tm gn nL nC nE L B C E)) (wb := [(qo, .inl (cJ, 1, .inr (.inl o)))]) (n := 1) (As := [.int (nI k)]) (ci := 4) (rest := [.int 0, .ref qo]) hx hb hml hown hts hK hE hX hS hA hP hD (tX3_level_xb l D cI cZ cJ h lev tm gn nL nC nE L B C E k hk hk2 hL hC hl9 sa _) gL_level_X3_level rfl rfl rfl (by decide +kernel) ⟨Nat.le_of_ble_eq_true rfl, Nat.le_of_ble_eq_true rfl⟩ rfl rfl rfl hl.1 rfl (Nat.le_of_ble_eq_true rfl) dL_level_4 ⟨Nat.le_of_ble_eq_true rfl, Nat.le_of_ble_eq_true rfl⟩) hP hD hS hA (fun ce q9 H locs hP hS hce hcv hcl => ?_)
  refine z_catch1 (nm := zNN) hT rfl hown hts (by decide) (by decide) kL_level_l28 hX (by decide) hce hcv hcl ?_
  refine lv_astore_n (lv' := [(3, .ref q9), (0, .ref (h 0)), (1, .int (nI k)), (2, .ref qo)]) hx hb dL_level_12 rfl hl (by decide) rfl (fun ls hl => ?_)
  refine lv_iconst (v := 1) hx hb dL_level_13 (by decide) ?_
  exact z_iret hx hb hr hlocks hS hP rfl dL_level_14 (⟨rfl, rfl⟩)

theorem kL_told_l28 : Cond.classLink RL 28 zNN ∈ wsL_told := by decide +kernel
set_option maxHeartbeats 4000000 in
set_option maxRecDepth 100000 in
theorem tL_told_xa (l : Launch) (D : va_G) (cI cZ cJ : ClassId) (h : Nat → Nat) (lev tm : Nat) (gn : Int32) (nL nC nE : Nat) (L B C E : Nat → Nat → Int32) (v u : Int32) (hno : inB v 0 (nI nL - 1) = false) (hL : nL ≤ 4) (hC : nC ≤ 24) (qo : Nat) (o : Nat → Int64) (sa : Nat → Nat) (hl9 : l.stackTraces = false)  : ∀ sz : Nat, zML l yL_told wsL_told ({ frames := 8, cells := 1, slots := 6, locals := 125 } : Room) D cI cZ cJ (wV cI cZ cJ h lev tm gn nL nC nE L B C E qo o) sz [.ref (h 0), .int v, .int u, .ref qo] sa (fun r w' => r = 1 ∧ w' = wV cI cZ cJ h lev tm gn nL nC nE L B C E qo o) := by
  intro sz
  refine z_headL (y := yL_told) (av := [.ref (h 0), .int v, .int u, .ref qo]) (w := (wV cI cZ cJ h lev tm gn nL nC nE L B C E qo o)) (cc := cL_told) (maxL := 5) (ret := (some .int)) (hh := [(0, 10, 13, 28), (0, 10, 17, 13)]) (by decide) rfl (Nat.le_of_ble_eq_true rfl) ?_
  intro p e s m below meth c ls A hat hX hN hT hP hD hS hl
  obtain ⟨hx, hb, hr, hml, hlocks, hts, hown, hin, hK, hE, hA⟩ := hat
  have hP : va_P D vwCl (wX cI cZ h lev tm gn nL nC nE L B C E ++ [(qo, .inl (cJ, 1, .inr (.inl o)))]) s.heap := hP
  have hD : va_D A (wX cI cZ h lev tm gn nL nC nE L B C E ++ [(qo, .inl (cJ, 1, .inr (.inl o)))]) := hD
  have hl : lv_has ls 5 [(0, .ref (h 0)), (1, .int v), (2, .int u), (3, .ref qo)] := hl
  refine lv_aload_n hx hb dL_told_0 rfl (lv_at hl 3 rfl) ?_
  refine lv_iconst (v := 0) hx hb dL_told_1 (by decide) ?_
  refine lv_aload_n hx hb dL_told_2 rfl (lv_at hl 0 rfl) ?_
  refine lv_iload_n hx hb dL_told_3 rfl (lv_at hl 1 rfl) ?_
  refine lv_iload_n hx hb dL_told_4 rfl (lv_at hl 2 rfl) ?_
  refine z_backSX (wa := []) (w := (wX cI cZ h lev tm gn nL nC nE L B C E)) (wb := [(qo, .inl (cJ, 1, .inr (.inl o)))]) (z_runVXS (wa := []) (w := (wX cI cZ h lev tm gn nL nC nE L B C E)) (wb := [(qo, .inl (cJ, 1, .inr (.inl o)))]) (n := 2) (As := [.int v, .int u]) (ci := 4) (rest := [.int 0, .ref qo]) hx hb hml hown hts hK hE hX hS hA hP hD (tX3_told_xa l D cI cZ cJ h lev tm gn nL nC nE L B C E v u hno hL hC hl9 sa _) gL_told_X3_told rfl rfl rfl (by decide +kernel) ⟨Nat.le_of_ble_eq_true rfl, Nat.le_of_ble_eq_true rfl⟩ rfl rfl rfl hl.1 rfl (Nat.le_of_ble_eq_true rfl) dL_told_5 ⟨Nat.le_of_ble_eq_true rfl, Nat.le_of_ble_eq_true rfl⟩) hP hD hS hA (fun ce q9 H locs hP hS hce hcv hcl => ?_)
  refine z_catch1 (nm := zNN) hT rfl hown hts (by decide) (by decide) kL_told_l28 hX (by decide) hce hcv hcl ?_
  refine lv_astore (lv' := [(4, .ref q9), (0, .ref (h 0)), (1, .int v), (2, .int u), (3, .ref qo)]) hx hb dL_told_13 hl (by decide) rfl (fun ls hl => ?_)
  refine lv_iconst (v := 1) hx hb dL_told_15 (by decide) ?_
  exact z_iret hx hb hr hlocks hS hP rfl dL_told_16 (⟨rfl, rfl⟩)

theorem kL_told_l13 : Cond.classLink RL 13 zIA ∈ wsL_told := by decide +kernel
set_option maxHeartbeats 4000000 in
set_option maxRecDepth 100000 in
theorem tL_told_xb (l : Launch) (D : va_G) (cI cZ cJ : ClassId) (h : Nat → Nat) (lev tm : Nat) (gn : Int32) (nL nC nE : Nat) (L B C E : Nat → Nat → Int32) (k : Nat) (hk : k < nL) (hL : nL ≤ 4) (hC : nC ≤ 24) (u : Int32) (hno : inB u 0 7 = false) (qo : Nat) (o : Nat → Int64) (sa : Nat → Nat) (hl9 : l.stackTraces = false)  : ∀ sz : Nat, zML l yL_told wsL_told ({ frames := 8, cells := 1, slots := 6, locals := 126 } : Room) D cI cZ cJ (wV cI cZ cJ h lev tm gn nL nC nE L B C E qo o) sz [.ref (h 0), .int (nI k), .int u, .ref qo] sa (fun r w' => r = 2 ∧ w' = wV cI cZ cJ h lev tm gn nL nC nE L B C E qo o) := by
  intro sz
  refine z_headL (y := yL_told) (av := [.ref (h 0), .int (nI k), .int u, .ref qo]) (w := (wV cI cZ cJ h lev tm gn nL nC nE L B C E qo o)) (cc := cL_told) (maxL := 5) (ret := (some .int)) (hh := [(0, 10, 13, 28), (0, 10, 17, 13)]) (by decide) rfl (Nat.le_of_ble_eq_true rfl) ?_
  intro p e s m below meth c ls A hat hX hN hT hP hD hS hl
  obtain ⟨hx, hb, hr, hml, hlocks, hts, hown, hin, hK, hE, hA⟩ := hat
  have hP : va_P D vwCl (wX cI cZ h lev tm gn nL nC nE L B C E ++ [(qo, .inl (cJ, 1, .inr (.inl o)))]) s.heap := hP
  have hD : va_D A (wX cI cZ h lev tm gn nL nC nE L B C E ++ [(qo, .inl (cJ, 1, .inr (.inl o)))]) := hD
  have hl : lv_has ls 5 [(0, .ref (h 0)), (1, .int (nI k)), (2, .int u), (3, .ref qo)] := hl
  refine lv_aload_n hx hb dL_told_0 rfl (lv_at hl 3 rfl) ?_
  refine lv_iconst (v := 0) hx hb dL_told_1 (by decide) ?_
  refine lv_aload_n hx hb dL_told_2 rfl (lv_at hl 0 rfl) ?_
  refine lv_iload_n hx hb dL_told_3 rfl (lv_at hl 1 rfl) ?_
  refine lv_iload_n hx hb dL_told_4 rfl (lv_at hl 2 rfl) ?_
  refine z_backSX (wa := []) (w := (wX cI cZ h lev tm gn nL nC nE L B C E)) (wb := [(qo, .inl (cJ, 1, .inr (.inl o)))]) (z_runVXS (wa := []) (w := (wX cI cZ h lev tm gn nL nC nE L B C E)) (wb := [(qo, .inl (cJ, 1, .inr (.inl o)))]) (n := 2) (As := [.int (nI k), .int u]) (ci := 4) (rest := [.int 0, .ref qo]) hx hb hml hown hts hK hE hX hS hA hP hD (tX3_told_xb l D cI cZ cJ h lev tm gn nL nC nE L B C E k hk hL hC u hno hl9 sa _) gL_told_X3_told rfl rfl rfl (by decide +kernel) ⟨Nat.le_of_ble_eq_true rfl, Nat.le_of_ble_eq_true rfl⟩ rfl rfl rfl hl.1 rfl (Nat.le_of_ble_eq_true rfl) dL_told_5 ⟨Nat.le_of_ble_eq_true rfl, Nat.le_of_ble_eq_true rfl⟩) hP hD hS hA (fun ce q9 H locs hP hS hce hcv hcl => ?_)
  refine z_catch2 (nm := zIA) (nm1 := zNN) hT rfl hown hts (by decide) (by decide) (by decide) kL_told_l28 kL_told_l13 hX hN (by decide) (by decide) hce hcv hcl ?_
  refine lv_astore (lv' := [(4, .ref q9), (0, .ref (h 0)), (1, .int (nI k)), (2, .int u), (3, .ref qo)]) hx hb dL_told_17 hl (by decide) rfl (fun ls hl => ?_)
  refine lv_iconst (v := 2) hx hb dL_told_19 (by decide) ?_
  exact z_iret hx hb hr hlocks hS hP rfl dL_told_20 (⟨rfl, rfl⟩)

theorem kL_door_l28 : Cond.classLink RL 28 zNN ∈ wsL_door := by decide +kernel
set_option maxHeartbeats 4000000 in
set_option maxRecDepth 100000 in
theorem tL_door_xa (l : Launch) (D : va_G) (cI cZ cJ : ClassId) (h : Nat → Nat) (lev tm : Nat) (gn : Int32) (nL nC nE : Nat) (L B C E : Nat → Nat → Int32) (v : Int32) (on : Bool) (hno : inB v 0 (nI nL - 1) = false) (hL : nL ≤ 4) (hC : nC ≤ 24) (qo : Nat) (o : Nat → Int64) (sa : Nat → Nat) (hl9 : l.stackTraces = false)  : ∀ sz : Nat, zML l yL_door wsL_door ({ frames := 8, cells := 1, slots := 6, locals := 125 } : Room) D cI cZ cJ (wV cI cZ cJ h lev tm gn nL nC nE L B C E qo o) sz [.ref (h 0), .int v, .int (bI on)] sa (fun r w' => r = 1 ∧ w' = wV cI cZ cJ h lev tm gn nL nC nE L B C E qo o) := by
  intro sz
  refine z_headL (y := yL_door) (av := [.ref (h 0), .int v, .int (bI on)]) (w := (wV cI cZ cJ h lev tm gn nL nC nE L B C E qo o)) (cc := cL_door) (maxL := 4) (ret := (some .int)) (hh := [(0, 6, 9, 28), (0, 6, 12, 42)]) (by decide) rfl (Nat.le_of_ble_eq_true rfl) ?_
  intro p e s m below meth c ls A hat hX hN hT hP hD hS hl
  obtain ⟨hx, hb, hr, hml, hlocks, hts, hown, hin, hK, hE, hA⟩ := hat
  have hP : va_P D vwCl (wX cI cZ h lev tm gn nL nC nE L B C E ++ [(qo, .inl (cJ, 1, .inr (.inl o)))]) s.heap := hP
  have hD : va_D A (wX cI cZ h lev tm gn nL nC nE L B C E ++ [(qo, .inl (cJ, 1, .inr (.inl o)))]) := hD
  have hl : lv_has ls 4 [(0, .ref (h 0)), (1, .int v), (2, .int (bI on))] := hl
  refine lv_aload_n hx hb dL_door_0 rfl (lv_at hl 0 rfl) ?_
  refine lv_iload_n hx hb dL_door_1 rfl (lv_at hl 1 rfl) ?_
  refine lv_iload_n hx hb dL_door_2 rfl (lv_at hl 2 rfl) ?_
  refine z_backSX (wa := []) (w := (wX cI cZ h lev tm gn nL nC nE L B C E)) (wb := [(qo, .inl (cJ, 1, .inr (.inl o)))]) (z_runVXS (wa := []) (w := (wX cI cZ h lev tm gn nL nC nE L B C E)) (wb := [(qo, .inl (cJ, 1, .inr (.inl o)))]) (n := 2) (As := [.int v, .int (bI on)]) (ci := 4) (rest := []) hx hb hml hown hts hK hE hX hS hA hP hD (tX3_door_xa l D cI cZ cJ h lev tm gn nL nC nE L B C E v on hno hL hC hl9 sa _) gL_door_X3_door rfl rfl rfl (by decide +kernel) ⟨Nat.le_of_ble_eq_true rfl, Nat.le_of_ble_eq_true rfl⟩ rfl rfl rfl hl.1 rfl (Nat.le_of_ble_eq_true rfl) dL_door_3 ⟨Nat.le_of_ble_eq_true rfl, Nat.le_of_ble_eq_true rfl⟩) hP hD hS hA (fun ce q9 H locs hP hS hce hcv hcl => ?_)
  refine z_catch1 (nm := zNN) hT rfl hown hts (by decide) (by decide) kL_door_l28 hX (by decide) hce hcv hcl ?_
  refine lv_astore_n (lv' := [(3, .ref q9), (0, .ref (h 0)), (1, .int v), (2, .int (bI on))]) hx hb dL_door_9 rfl hl (by decide) rfl (fun ls hl => ?_)
  refine lv_iconst (v := 1) hx hb dL_door_10 (by decide) ?_
  exact z_iret hx hb hr hlocks hS hP rfl dL_door_11 (⟨rfl, rfl⟩)

theorem kL_stuck_l28 : Cond.classLink RL 28 zNN ∈ wsL_stuck := by decide +kernel
set_option maxHeartbeats 4000000 in
set_option maxRecDepth 100000 in
theorem tL_stuck_xa (l : Launch) (D : va_G) (cI cZ cJ : ClassId) (h : Nat → Nat) (lev tm : Nat) (gn : Int32) (nL nC nE : Nat) (L B C E : Nat → Nat → Int32) (v : Int32) (on : Bool) (hno : inB v 0 (nI nL - 1) = false) (hL : nL ≤ 4) (hC : nC ≤ 24) (qo : Nat) (o : Nat → Int64) (sa : Nat → Nat) (hl9 : l.stackTraces = false)  : ∀ sz : Nat, zML l yL_stuck wsL_stuck ({ frames := 8, cells := 1, slots := 6, locals := 125 } : Room) D cI cZ cJ (wV cI cZ cJ h lev tm gn nL nC nE L B C E qo o) sz [.ref (h 0), .int v, .int (bI on), .ref qo] sa (fun r w' => r = 1 ∧ w' = wV cI cZ cJ h lev tm gn nL nC nE L B C E qo o) := by
  intro sz
  refine z_headL (y := yL_stuck) (av := [.ref (h 0), .int v, .int (bI on), .ref qo]) (w := (wV cI cZ cJ h lev tm gn nL nC nE L B C E qo o)) (cc := cL_stuck) (maxL := 5) (ret := (some .int)) (hh := [(0, 10, 13, 28), (0, 10, 17, 42)]) (by decide) rfl (Nat.le_of_ble_eq_true rfl) ?_
  intro p e s m below meth c ls A hat hX hN hT hP hD hS hl
  obtain ⟨hx, hb, hr, hml, hlocks, hts, hown, hin, hK, hE, hA⟩ := hat
  have hP : va_P D vwCl (wX cI cZ h lev tm gn nL nC nE L B C E ++ [(qo, .inl (cJ, 1, .inr (.inl o)))]) s.heap := hP
  have hD : va_D A (wX cI cZ h lev tm gn nL nC nE L B C E ++ [(qo, .inl (cJ, 1, .inr (.inl o)))]) := hD
  have hl : lv_has ls 5 [(0, .ref (h 0)), (1, .int v), (2, .int (bI on)), (3, .ref qo)] := hl
  refine lv_aload_n hx hb dL_stuck_0 rfl (lv_at hl 3 rfl) ?_
  refine lv_iconst (v := 0) hx hb dL_stuck_1 (by decide) ?_
  refine lv_aload_n hx hb dL_stuck_2 rfl (lv_at hl 0 rfl) ?_
  refine lv_iload_n hx hb dL_stuck_3 rfl (lv_at hl 1 rfl) ?_
  refine lv_iload_n hx hb dL_stuck_4 rfl (lv_at hl 2 rfl) ?_
  refine z_backSX (wa := []) (w := (wX cI cZ h lev tm gn nL nC nE L B C E)) (wb := [(qo, .inl (cJ, 1, .inr (.inl o)))]) (z_runVXS (wa := []) (w := (wX cI cZ h lev tm gn nL nC nE L B C E)) (wb := [(qo, .inl (cJ, 1, .inr (.inl o)))]) (n := 2) (As := [.int v, .int (bI on)]) (ci := 4) (rest := [.int 0, .ref qo]) hx hb hml hown hts hK hE hX hS hA hP hD (tX3_stuck_xa l D cI cZ cJ h lev tm gn nL nC nE L B C E v on hno hL hC hl9 sa _) gL_stuck_X3_stuck rfl rfl rfl (by decide +kernel) ⟨Nat.le_of_ble_eq_true rfl, Nat.le_of_ble_eq_true rfl⟩ rfl rfl rfl hl.1 rfl (Nat.le_of_ble_eq_true rfl) dL_stuck_5 ⟨Nat.le_of_ble_eq_true rfl, Nat.le_of_ble_eq_true rfl⟩) hP hD hS hA (fun ce q9 H locs hP hS hce hcv hcl => ?_)
  refine z_catch1 (nm := zNN) hT rfl hown hts (by decide) (by decide) kL_stuck_l28 hX (by decide) hce hcv hcl ?_
  refine lv_astore (lv' := [(4, .ref q9), (0, .ref (h 0)), (1, .int v), (2, .int (bI on)), (3, .ref qo)]) hx hb dL_stuck_13 hl (by decide) rfl (fun ls hl => ?_)
  refine lv_iconst (v := 1) hx hb dL_stuck_15 (by decide) ?_
  exact z_iret hx hb hr hlocks hS hP rfl dL_stuck_16 (⟨rfl, rfl⟩)

theorem kL_reserved_l28 : Cond.classLink RL 28 zNN ∈ wsL_reserved := by decide +kernel
set_option maxHeartbeats 4000000 in
set_option maxRecDepth 100000 in
theorem tL_reserved_xa (l : Launch) (D : va_G) (cI cZ cJ : ClassId) (h : Nat → Nat) (lev tm : Nat) (gn : Int32) (nL nC nE : Nat) (L B C E : Nat → Nat → Int32) (v : Int32) (on : Bool) (hno : inB v 0 (nI nL - 1) = false) (hL : nL ≤ 4) (hC : nC ≤ 24) (qo : Nat) (o : Nat → Int64) (sa : Nat → Nat) (hl9 : l.stackTraces = false)  : ∀ sz : Nat, zML l yL_reserved wsL_reserved ({ frames := 8, cells := 1, slots := 6, locals := 125 } : Room) D cI cZ cJ (wV cI cZ cJ h lev tm gn nL nC nE L B C E qo o) sz [.ref (h 0), .int v, .int (bI on), .ref qo] sa (fun r w' => r = 1 ∧ w' = wV cI cZ cJ h lev tm gn nL nC nE L B C E qo o) := by
  intro sz
  refine z_headL (y := yL_reserved) (av := [.ref (h 0), .int v, .int (bI on), .ref qo]) (w := (wV cI cZ cJ h lev tm gn nL nC nE L B C E qo o)) (cc := cL_reserved) (maxL := 5) (ret := (some .int)) (hh := [(0, 10, 13, 28), (0, 10, 17, 42)]) (by decide) rfl (Nat.le_of_ble_eq_true rfl) ?_
  intro p e s m below meth c ls A hat hX hN hT hP hD hS hl
  obtain ⟨hx, hb, hr, hml, hlocks, hts, hown, hin, hK, hE, hA⟩ := hat
  have hP : va_P D vwCl (wX cI cZ h lev tm gn nL nC nE L B C E ++ [(qo, .inl (cJ, 1, .inr (.inl o)))]) s.heap := hP
  have hD : va_D A (wX cI cZ h lev tm gn nL nC nE L B C E ++ [(qo, .inl (cJ, 1, .inr (.inl o)))]) := hD
  have hl : lv_has ls 5 [(0, .ref (h 0)), (1, .int v), (2, .int (bI on)), (3, .ref qo)] := hl
  refine lv_aload_n hx hb dL_reserved_0 rfl (lv_at hl 3 rfl) ?_
  refine lv_iconst (v := 0) hx hb dL_reserved_1 (by decide) ?_
  refine lv_aload_n hx hb dL_reserved_2 rfl (lv_at hl 0 rfl) ?_
  refine lv_iload_n hx hb dL_reserved_3 rfl (lv_at hl 1 rfl) ?_
  refine lv_iload_n hx hb dL_reserved_4 rfl (lv_at hl 2 rfl) ?_
  refine z_backSX (wa := []) (w := (wX cI cZ h lev tm gn nL nC nE L B C E)) (wb := [(qo, .inl (cJ, 1, .inr (.inl o)))]) (z_runVXS (wa := []) (w := (wX cI cZ h lev tm gn nL nC nE L B C E)) (wb := [(qo, .inl (cJ, 1, .inr (.inl o)))]) (n := 2) (As := [.int v, .int (bI on)]) (ci := 4) (rest := [.int 0, .ref qo]) hx hb hml hown hts hK hE hX hS hA hP hD (tX3_reserved_xa l D cI cZ cJ h lev tm gn nL nC nE L B C E v on hno hL hC hl9 sa _) gL_reserved_X3_reserved rfl rfl rfl (by decide +kernel) ⟨Nat.le_of_ble_eq_true rfl, Nat.le_of_ble_eq_true rfl⟩ rfl rfl rfl hl.1 rfl (Nat.le_of_ble_eq_true rfl) dL_reserved_5 ⟨Nat.le_of_ble_eq_true rfl, Nat.le_of_ble_eq_true rfl⟩) hP hD hS hA (fun ce q9 H locs hP hS hce hcv hcl => ?_)
  refine z_catch1 (nm := zNN) hT rfl hown hts (by decide) (by decide) kL_reserved_l28 hX (by decide) hce hcv hcl ?_
  refine lv_astore (lv' := [(4, .ref q9), (0, .ref (h 0)), (1, .int v), (2, .int (bI on)), (3, .ref qo)]) hx hb dL_reserved_13 hl (by decide) rfl (fun ls hl => ?_)
  refine lv_iconst (v := 1) hx hb dL_reserved_15 (by decide) ?_
  exact z_iret hx hb hr hlocks hS hP rfl dL_reserved_16 (⟨rfl, rfl⟩)

theorem kL_door_l42 : Cond.classLink RL 42 zIS ∈ wsL_door := by decide +kernel
set_option maxHeartbeats 4000000 in
set_option maxRecDepth 100000 in
theorem tL_door_xb (l : Launch) (D : va_G) (cI cZ cJ : ClassId) (h : Nat → Nat) (lev tm : Nat) (gn : Int32) (nL nC nE : Nat) (L B C E : Nat → Nat → Int32) (k : Nat) (hk : k < nL) (hL : nL ≤ 4) (hC : nC ≤ 24) (on : Bool) (hno : B 2 k = bI on) (qo : Nat) (o : Nat → Int64) (sa : Nat → Nat) (hl9 : l.stackTraces = false)  : ∀ sz : Nat, zML l yL_door wsL_door ({ frames := 8, cells := 1, slots := 6, locals := 125 } : Room) D cI cZ cJ (wV cI cZ cJ h lev tm gn nL nC nE L B C E qo o) sz [.ref (h 0), .int (nI k), .int (bI on)] sa (fun r w' => r = 2 ∧ w' = wV cI cZ cJ h lev tm gn nL nC nE L B C E qo o) := by
  intro sz
  refine z_headL (y := yL_door) (av := [.ref (h 0), .int (nI k), .int (bI on)]) (w := (wV cI cZ cJ h lev tm gn nL nC nE L B C E qo o)) (cc := cL_door) (maxL := 4) (ret := (some .int)) (hh := [(0, 6, 9, 28), (0, 6, 12, 42)]) (by decide) rfl (Nat.le_of_ble_eq_true rfl) ?_
  intro p e s m below meth c ls A hat hX hN hT hP hD hS hl
  obtain ⟨hx, hb, hr, hml, hlocks, hts, hown, hin, hK, hE, hA⟩ := hat
  have hP : va_P D vwCl (wX cI cZ h lev tm gn nL nC nE L B C E ++ [(qo, .inl (cJ, 1, .inr (.inl o)))]) s.heap := hP
  have hD : va_D A (wX cI cZ h lev tm gn nL nC nE L B C E ++ [(qo, .inl (cJ, 1, .inr (.inl o)))]) := hD
  have hl : lv_has ls 4 [(0, .ref (h 0)), (1, .int (nI k)), (2, .int (bI on))] := hl
  refine lv_aload_n hx hb dL_door_0 rfl (lv_at hl 0 rfl) ?_
  refine lv_iload_n hx hb dL_door_1 rfl (lv_at hl 1 rfl) ?_
  refine lv_iload_n hx hb dL_door_2 rfl (lv_at hl 2 rfl) ?_
  refine z_backSX (wa := []) (w := (wX cI cZ h lev tm gn nL nC nE L B C E)) (wb := [(qo, .inl (cJ, 1, .inr (.inl o)))]) (z_runVXS (wa := []) (w := (wX cI cZ h lev tm gn nL nC nE L B C E)) (wb := [(qo, .inl (cJ, 1, .inr (.inl o)))]) (n := 2) (As := [.int (nI k), .int (bI on)]) (ci := 4) (rest := []) hx hb hml hown hts hK hE hX hS hA hP hD (tX3_door_xb l D cI cZ cJ h lev tm gn nL nC nE L B C E k hk hL hC on hno hl9 sa _) gL_door_X3_door rfl rfl rfl (by decide +kernel) ⟨Nat.le_of_ble_eq_true rfl, Nat.le_of_ble_eq_true rfl⟩ rfl rfl rfl hl.1 rfl (Nat.le_of_ble_eq_true rfl) dL_door_3 ⟨Nat.le_of_ble_eq_true rfl, Nat.le_of_ble_eq_true rfl⟩) hP hD hS hA (fun ce q9 H locs hP hS hce hcv hcl => ?_)
  refine z_catch2 (nm := zIS) (nm1 := zNN) hT rfl hown hts (by decide) (by decide) (by decide) kL_door_l28 kL_door_l42 hX hN (by decide) (by decide) hce hcv hcl ?_
  refine lv_astore_n (lv' := [(3, .ref q9), (0, .ref (h 0)), (1, .int (nI k)), (2, .int (bI on))]) hx hb dL_door_12 rfl hl (by decide) rfl (fun ls hl => ?_)
  refine lv_iconst (v := 2) hx hb dL_door_13 (by decide) ?_
  exact z_iret hx hb hr hlocks hS hP rfl dL_door_14 (⟨rfl, rfl⟩)


set_option maxHeartbeats 4000000 in
set_option maxRecDepth 100000 in
theorem tL_door_xc (l : Launch) (D : va_G) (cI cZ cJ : ClassId) (h : Nat → Nat) (lev tm : Nat) (gn : Int32) (nL nC nE : Nat) (L B C E : Nat → Nat → Int32) (k : Nat) (hk : k < nL) (hL : nL ≤ 4) (hC : nC ≤ 24) (on : Bool) (hyes : ¬ B 2 k = bI on) (hon : on = true) (ho : L 3 k = 0) (qo : Nat) (o : Nat → Int64) (sa : Nat → Nat) (hl9 : l.stackTraces = false)  : ∀ sz : Nat, zML l yL_door wsL_door ({ frames := 8, cells := 1, slots := 6, locals := 125 } : Room) D cI cZ cJ (wV cI cZ cJ h lev tm gn nL nC nE L B C E qo o) sz [.ref (h 0), .int (nI k), .int (bI on)] sa (fun r w' => r = 2 ∧ w' = wV cI cZ cJ h lev tm gn nL nC nE L B C E qo o) := by
  intro sz
  refine z_headL (y := yL_door) (av := [.ref (h 0), .int (nI k), .int (bI on)]) (w := (wV cI cZ cJ h lev tm gn nL nC nE L B C E qo o)) (cc := cL_door) (maxL := 4) (ret := (some .int)) (hh := [(0, 6, 9, 28), (0, 6, 12, 42)]) (by decide) rfl (Nat.le_of_ble_eq_true rfl) ?_
  intro p e s m below meth c ls A hat hX hN hT hP hD hS hl
  obtain ⟨hx, hb, hr, hml, hlocks, hts, hown, hin, hK, hE, hA⟩ := hat
  have hP : va_P D vwCl (wX cI cZ h lev tm gn nL nC nE L B C E ++ [(qo, .inl (cJ, 1, .inr (.inl o)))]) s.heap := hP
  have hD : va_D A (wX cI cZ h lev tm gn nL nC nE L B C E ++ [(qo, .inl (cJ, 1, .inr (.inl o)))]) := hD
  have hl : lv_has ls 4 [(0, .ref (h 0)), (1, .int (nI k)), (2, .int (bI on))] := hl
  refine lv_aload_n hx hb dL_door_0 rfl (lv_at hl 0 rfl) ?_
  refine lv_iload_n hx hb dL_door_1 rfl (lv_at hl 1 rfl) ?_
  refine lv_iload_n hx hb dL_door_2 rfl (lv_at hl 2 rfl) ?_
  refine z_backSX (wa := []) (w := (wX cI cZ h lev tm gn nL nC nE L B C E)) (wb := [(qo, .inl (cJ, 1, .inr (.inl o)))]) (z_runVXS (wa := []) (w := (wX cI cZ h lev tm gn nL nC nE L B C E)) (wb := [(qo, .inl (cJ, 1, .inr (.inl o)))]) (n := 2) (As := [.int (nI k), .int (bI on)]) (ci := 4) (rest := []) hx hb hml hown hts hK hE hX hS hA hP hD (tX3_door_xc l D cI cZ cJ h lev tm gn nL nC nE L B C E k hk hL hC on hyes hon ho hl9 sa _) gL_door_X3_door rfl rfl rfl (by decide +kernel) ⟨Nat.le_of_ble_eq_true rfl, Nat.le_of_ble_eq_true rfl⟩ rfl rfl rfl hl.1 rfl (Nat.le_of_ble_eq_true rfl) dL_door_3 ⟨Nat.le_of_ble_eq_true rfl, Nat.le_of_ble_eq_true rfl⟩) hP hD hS hA (fun ce q9 H locs hP hS hce hcv hcl => ?_)
  refine z_catch2 (nm := zIS) (nm1 := zNN) hT rfl hown hts (by decide) (by decide) (by decide) kL_door_l28 kL_door_l42 hX hN (by decide) (by decide) hce hcv hcl ?_
  refine lv_astore_n (lv' := [(3, .ref q9), (0, .ref (h 0)), (1, .int (nI k)), (2, .int (bI on))]) hx hb dL_door_12 rfl hl (by decide) rfl (fun ls hl => ?_)
  refine lv_iconst (v := 2) hx hb dL_door_13 (by decide) ?_
  exact z_iret hx hb hr hlocks hS hP rfl dL_door_14 (⟨rfl, rfl⟩)

theorem kL_stuck_l42 : Cond.classLink RL 42 zIS ∈ wsL_stuck := by decide +kernel
set_option maxHeartbeats 4000000 in
set_option maxRecDepth 100000 in
theorem tL_stuck_xb (l : Launch) (D : va_G) (cI cZ cJ : ClassId) (h : Nat → Nat) (lev tm : Nat) (gn : Int32) (nL nC nE : Nat) (L B C E : Nat → Nat → Int32) (k : Nat) (hk : k < nL) (hL : nL ≤ 4) (hC : nC ≤ 24) (on : Bool) (hno : B 0 k = bI on) (qo : Nat) (o : Nat → Int64) (sa : Nat → Nat) (hl9 : l.stackTraces = false)  : ∀ sz : Nat, zML l yL_stuck wsL_stuck ({ frames := 8, cells := 1, slots := 6, locals := 125 } : Room) D cI cZ cJ (wV cI cZ cJ h lev tm gn nL nC nE L B C E qo o) sz [.ref (h 0), .int (nI k), .int (bI on), .ref qo] sa (fun r w' => r = 2 ∧ w' = wV cI cZ cJ h lev tm gn nL nC nE L B C E qo o) := by
  intro sz
  refine z_headL (y := yL_stuck) (av := [.ref (h 0), .int (nI k), .int (bI on), .ref qo]) (w := (wV cI cZ cJ h lev tm gn nL nC nE L B C E qo o)) (cc := cL_stuck) (maxL := 5) (ret := (some .int)) (hh := [(0, 10, 13, 28), (0, 10, 17, 42)]) (by decide) rfl (Nat.le_of_ble_eq_true rfl) ?_
  intro p e s m below meth c ls A hat hX hN hT hP hD hS hl
  obtain ⟨hx, hb, hr, hml, hlocks, hts, hown, hin, hK, hE, hA⟩ := hat
  have hP : va_P D vwCl (wX cI cZ h lev tm gn nL nC nE L B C E ++ [(qo, .inl (cJ, 1, .inr (.inl o)))]) s.heap := hP
  have hD : va_D A (wX cI cZ h lev tm gn nL nC nE L B C E ++ [(qo, .inl (cJ, 1, .inr (.inl o)))]) := hD
  have hl : lv_has ls 5 [(0, .ref (h 0)), (1, .int (nI k)), (2, .int (bI on)), (3, .ref qo)] := hl
  refine lv_aload_n hx hb dL_stuck_0 rfl (lv_at hl 3 rfl) ?_
  refine lv_iconst (v := 0) hx hb dL_stuck_1 (by decide) ?_
  refine lv_aload_n hx hb dL_stuck_2 rfl (lv_at hl 0 rfl) ?_
  refine lv_iload_n hx hb dL_stuck_3 rfl (lv_at hl 1 rfl) ?_
  refine lv_iload_n hx hb dL_stuck_4 rfl (lv_at hl 2 rfl) ?_
  refine z_backSX (wa := []) (w := (wX cI cZ h lev tm gn nL nC nE L B C E)) (wb := [(qo, .inl (cJ, 1, .inr (.inl o)))]) (z_runVXS (wa := []) (w := (wX cI cZ h lev tm gn nL nC nE L B C E)) (wb := [(qo, .inl (cJ, 1, .inr (.inl o)))]) (n := 2) (As := [.int (nI k), .int (bI on)]) (ci := 4) (rest := [.int 0, .ref qo]) hx hb hml hown hts hK hE hX hS hA hP hD (tX3_stuck_xb l D cI cZ cJ h lev tm gn nL nC nE L B C E k hk hL hC on hno hl9 sa _) gL_stuck_X3_stuck rfl rfl rfl (by decide +kernel) ⟨Nat.le_of_ble_eq_true rfl, Nat.le_of_ble_eq_true rfl⟩ rfl rfl rfl hl.1 rfl (Nat.le_of_ble_eq_true rfl) dL_stuck_5 ⟨Nat.le_of_ble_eq_true rfl, Nat.le_of_ble_eq_true rfl⟩) hP hD hS hA (fun ce q9 H locs hP hS hce hcv hcl => ?_)
  refine z_catch2 (nm := zIS) (nm1 := zNN) hT rfl hown hts (by decide) (by decide) (by decide) kL_stuck_l28 kL_stuck_l42 hX hN (by decide) (by decide) hce hcv hcl ?_
  refine lv_astore (lv' := [(4, .ref q9), (0, .ref (h 0)), (1, .int (nI k)), (2, .int (bI on)), (3, .ref qo)]) hx hb dL_stuck_17 hl (by decide) rfl (fun ls hl => ?_)
  refine lv_iconst (v := 2) hx hb dL_stuck_19 (by decide) ?_
  exact z_iret hx hb hr hlocks hS hP rfl dL_stuck_20 (⟨rfl, rfl⟩)

theorem kL_reserved_l42 : Cond.classLink RL 42 zIS ∈ wsL_reserved := by decide +kernel
set_option maxHeartbeats 4000000 in
set_option maxRecDepth 100000 in
theorem tL_reserved_xb (l : Launch) (D : va_G) (cI cZ cJ : ClassId) (h : Nat → Nat) (lev tm : Nat) (gn : Int32) (nL nC nE : Nat) (L B C E : Nat → Nat → Int32) (k : Nat) (hk : k < nL) (hL : nL ≤ 4) (hC : nC ≤ 24) (on : Bool) (hno : B 1 k = bI on) (qo : Nat) (o : Nat → Int64) (sa : Nat → Nat) (hl9 : l.stackTraces = false)  : ∀ sz : Nat, zML l yL_reserved wsL_reserved ({ frames := 8, cells := 1, slots := 6, locals := 125 } : Room) D cI cZ cJ (wV cI cZ cJ h lev tm gn nL nC nE L B C E qo o) sz [.ref (h 0), .int (nI k), .int (bI on), .ref qo] sa (fun r w' => r = 2 ∧ w' = wV cI cZ cJ h lev tm gn nL nC nE L B C E qo o) := by
  intro sz
  refine z_headL (y := yL_reserved) (av := [.ref (h 0), .int (nI k), .int (bI on), .ref qo]) (w := (wV cI cZ cJ h lev tm gn nL nC nE L B C E qo o)) (cc := cL_reserved) (maxL := 5) (ret := (some .int)) (hh := [(0, 10, 13, 28), (0, 10, 17, 42)]) (by decide) rfl (Nat.le_of_ble_eq_true rfl) ?_
  intro p e s m below meth c ls A hat hX hN hT hP hD hS hl
  obtain ⟨hx, hb, hr, hml, hlocks, hts, hown, hin, hK, hE, hA⟩ := hat
  have hP : va_P D vwCl (wX cI cZ h lev tm gn nL nC nE L B C E ++ [(qo, .inl (cJ, 1, .inr (.inl o)))]) s.heap := hP
  have hD : va_D A (wX cI cZ h lev tm gn nL nC nE L B C E ++ [(qo, .inl (cJ, 1, .inr (.inl o)))]) := hD
  have hl : lv_has ls 5 [(0, .ref (h 0)), (1, .int (nI k)), (2, .int (bI on)), (3, .ref qo)] := hl
  refine lv_aload_n hx hb dL_reserved_0 rfl (lv_at hl 3 rfl) ?_
  refine lv_iconst (v := 0) hx hb dL_reserved_1 (by decide) ?_
  refine lv_aload_n hx hb dL_reserved_2 rfl (lv_at hl 0 rfl) ?_
  refine lv_iload_n hx hb dL_reserved_3 rfl (lv_at hl 1 rfl) ?_
  refine lv_iload_n hx hb dL_reserved_4 rfl (lv_at hl 2 rfl) ?_
  refine z_backSX (wa := []) (w := (wX cI cZ h lev tm gn nL nC nE L B C E)) (wb := [(qo, .inl (cJ, 1, .inr (.inl o)))]) (z_runVXS (wa := []) (w := (wX cI cZ h lev tm gn nL nC nE L B C E)) (wb := [(qo, .inl (cJ, 1, .inr (.inl o)))]) (n := 2) (As := [.int (nI k), .int (bI on)]) (ci := 4) (rest := [.int 0, .ref qo]) hx hb hml hown hts hK hE hX hS hA hP hD (tX3_reserved_xb l D cI cZ cJ h lev tm gn nL nC nE L B C E k hk hL hC on hno hl9 sa _) gL_reserved_X3_reserved rfl rfl rfl (by decide +kernel) ⟨Nat.le_of_ble_eq_true rfl, Nat.le_of_ble_eq_true rfl⟩ rfl rfl rfl hl.1 rfl (Nat.le_of_ble_eq_true rfl) dL_reserved_5 ⟨Nat.le_of_ble_eq_true rfl, Nat.le_of_ble_eq_true rfl⟩) hP hD hS hA (fun ce q9 H locs hP hS hce hcv hcl => ?_)
  refine z_catch2 (nm := zIS) (nm1 := zNN) hT rfl hown hts (by decide) (by decide) (by decide) kL_reserved_l28 kL_reserved_l42 hX hN (by decide) (by decide) hce hcv hcl ?_
  refine lv_astore (lv' := [(4, .ref q9), (0, .ref (h 0)), (1, .int (nI k)), (2, .int (bI on)), (3, .ref qo)]) hx hb dL_reserved_17 hl (by decide) rfl (fun ls hl => ?_)
  refine lv_iconst (v := 2) hx hb dL_reserved_19 (by decide) ?_
  exact z_iret hx hb hr hlocks hS hP rfl dL_reserved_20 (⟨rfl, rfl⟩)

theorem kL_served_l28 : Cond.classLink RL 28 zNN ∈ wsL_served := by decide +kernel
set_option maxHeartbeats 4000000 in
set_option maxRecDepth 100000 in
theorem tL_served_xa (l : Launch) (D : va_G) (cI cZ cJ : ClassId) (h : Nat → Nat) (lev tm : Nat) (gn : Int32) (nL nC nE : Nat) (L B C E : Nat → Nat → Int32) (v : Int32) (hno : inB v 0 (nI nC - 1) = false) (hL : nL ≤ 4) (hC : nC ≤ 24) (qo : Nat) (o : Nat → Int64) (sa : Nat → Nat) (hl9 : l.stackTraces = false)  : ∀ sz : Nat, zML l yL_served wsL_served ({ frames := 8, cells := 1, slots := 6, locals := 124 } : Room) D cI cZ cJ (wV cI cZ cJ h lev tm gn nL nC nE L B C E qo o) sz [.ref (h 0), .int v, .ref qo] sa (fun r w' => r = 1 ∧ w' = wV cI cZ cJ h lev tm gn nL nC nE L B C E qo o) := by
  intro sz
  refine z_headL (y := yL_served) (av := [.ref (h 0), .int v, .ref qo]) (w := (wV cI cZ cJ h lev tm gn nL nC nE L B C E qo o)) (cc := cL_served) (maxL := 4) (ret := (some .int)) (hh := [(0, 9, 12, 28)]) (by decide) rfl (Nat.le_of_ble_eq_true rfl) ?_
  intro p e s m below meth c ls A hat hX hN hT hP hD hS hl
  obtain ⟨hx, hb, hr, hml, hlocks, hts, hown, hin, hK, hE, hA⟩ := hat
  have hP : va_P D vwCl (wX cI cZ h lev tm gn nL nC nE L B C E ++ [(qo, .inl (cJ, 1, .inr (.inl o)))]) s.heap := hP
  have hD : va_D A (wX cI cZ h lev tm gn nL nC nE L B C E ++ [(qo, .inl (cJ, 1, .inr (.inl o)))]) := hD
  have hl : lv_has ls 4 [(0, .ref (h 0)), (1, .int v), (2, .ref qo)] := hl
  refine lv_aload_n hx hb dL_served_0 rfl (lv_at hl 2 rfl) ?_
  refine lv_iconst (v := 0) hx hb dL_served_1 (by decide) ?_
  refine lv_aload_n hx hb dL_served_2 rfl (lv_at hl 0 rfl) ?_
  refine lv_iload_n hx hb dL_served_3 rfl (lv_at hl 1 rfl) ?_
  refine z_backSX (wa := []) (w := (wX cI cZ h lev tm gn nL nC nE L B C E)) (wb := [(qo, .inl (cJ, 1, .inr (.inl o)))]) (z_runVXS (wa := []) (w := (wX cI cZ h lev tm gn nL nC nE L B C E)) (wb := [(qo, .inl (cJ, 1, .inr (.inl o)))]) (n := 1) (As := [.int v]) (ci := 4) (rest := [.int 0, .ref qo]) hx hb hml hown hts hK hE hX hS hA hP hD (tX3_served_xa l D cI cZ cJ h lev tm gn nL nC nE L B C E v hno hL hC hl9 sa _) gL_served_X3_served rfl rfl rfl (by decide +kernel) ⟨Nat.le_of_ble_eq_true rfl, Nat.le_of_ble_eq_true rfl⟩ rfl rfl rfl hl.1 rfl (Nat.le_of_ble_eq_true rfl) dL_served_4 ⟨Nat.le_of_ble_eq_true rfl, Nat.le_of_ble_eq_true rfl⟩) hP hD hS hA (fun ce q9 H locs hP hS hce hcv hcl => ?_)
  refine z_catch1 (nm := zNN) hT rfl hown hts (by decide) (by decide) kL_served_l28 hX (by decide) hce hcv hcl ?_
  refine lv_astore_n (lv' := [(3, .ref q9), (0, .ref (h 0)), (1, .int v), (2, .ref qo)]) hx hb dL_served_12 rfl hl (by decide) rfl (fun ls hl => ?_)
  refine lv_iconst (v := 1) hx hb dL_served_13 (by decide) ?_
  exact z_iret hx hb hr hlocks hS hP rfl dL_served_14 (⟨rfl, rfl⟩)

theorem kL_waits_l28 : Cond.classLink RL 28 zNN ∈ wsL_waits := by decide +kernel
set_option maxHeartbeats 4000000 in
set_option maxRecDepth 100000 in
theorem tL_waits_xa (l : Launch) (D : va_G) (cI cZ cJ : ClassId) (h : Nat → Nat) (lev tm : Nat) (gn : Int32) (nL nC nE : Nat) (L B C E : Nat → Nat → Int32) (v : Int32) (hno : inB v 0 (nI nC - 1) = false) (hL : nL ≤ 4) (hC : nC ≤ 24) (qo : Nat) (o : Nat → Int64) (sa : Nat → Nat) (hl9 : l.stackTraces = false)  : ∀ sz : Nat, zML l yL_waits wsL_waits ({ frames := 8, cells := 1, slots := 6, locals := 125 } : Room) D cI cZ cJ (wV cI cZ cJ h lev tm gn nL nC nE L B C E qo o) sz [.ref (h 0), .int v, .ref qo] sa (fun r w' => r = 1 ∧ w' = wV cI cZ cJ h lev tm gn nL nC nE L B C E qo o) := by
  intro sz
  refine z_headL (y := yL_waits) (av := [.ref (h 0), .int v, .ref qo]) (w := (wV cI cZ cJ h lev tm gn nL nC nE L B C E qo o)) (cc := cL_waits) (maxL := 4) (ret := (some .int)) (hh := [(0, 9, 12, 28)]) (by decide) rfl (Nat.le_of_ble_eq_true rfl) ?_
  intro p e s m below meth c ls A hat hX hN hT hP hD hS hl
  obtain ⟨hx, hb, hr, hml, hlocks, hts, hown, hin, hK, hE, hA⟩ := hat
  have hP : va_P D vwCl (wX cI cZ h lev tm gn nL nC nE L B C E ++ [(qo, .inl (cJ, 1, .inr (.inl o)))]) s.heap := hP
  have hD : va_D A (wX cI cZ h lev tm gn nL nC nE L B C E ++ [(qo, .inl (cJ, 1, .inr (.inl o)))]) := hD
  have hl : lv_has ls 4 [(0, .ref (h 0)), (1, .int v), (2, .ref qo)] := hl
  refine lv_aload_n hx hb dL_waits_0 rfl (lv_at hl 2 rfl) ?_
  refine lv_iconst (v := 0) hx hb dL_waits_1 (by decide) ?_
  refine lv_aload_n hx hb dL_waits_2 rfl (lv_at hl 0 rfl) ?_
  refine lv_iload_n hx hb dL_waits_3 rfl (lv_at hl 1 rfl) ?_
  refine z_backSX (wa := []) (w := (wX cI cZ h lev tm gn nL nC nE L B C E)) (wb := [(qo, .inl (cJ, 1, .inr (.inl o)))]) (z_runVXS (wa := []) (w := (wX cI cZ h lev tm gn nL nC nE L B C E)) (wb := [(qo, .inl (cJ, 1, .inr (.inl o)))]) (n := 1) (As := [.int v]) (ci := 4) (rest := [.int 0, .ref qo]) hx hb hml hown hts hK hE hX hS hA hP hD (tX3_waits_xa l D cI cZ cJ h lev tm gn nL nC nE L B C E v hno hL hC hl9 sa _) gL_waits_X3_waits rfl rfl rfl (by decide +kernel) ⟨Nat.le_of_ble_eq_true rfl, Nat.le_of_ble_eq_true rfl⟩ rfl rfl rfl hl.1 rfl (Nat.le_of_ble_eq_true rfl) dL_waits_4 ⟨Nat.le_of_ble_eq_true rfl, Nat.le_of_ble_eq_true rfl⟩) hP hD hS hA (fun ce q9 H locs hP hS hce hcv hcl => ?_)
  refine z_catch1 (nm := zNN) hT rfl hown hts (by decide) (by decide) kL_waits_l28 hX (by decide) hce hcv hcl ?_
  refine lv_astore_n (lv' := [(3, .ref q9), (0, .ref (h 0)), (1, .int v), (2, .ref qo)]) hx hb dL_waits_12 rfl hl (by decide) rfl (fun ls hl => ?_)
  refine lv_iconst (v := 1) hx hb dL_waits_13 (by decide) ?_
  exact z_iret hx hb hr hlocks hS hP rfl dL_waits_14 (⟨rfl, rfl⟩)

theorem kL_least_l28 : Cond.classLink RL 28 zNN ∈ wsL_least := by decide +kernel
set_option maxHeartbeats 4000000 in
set_option maxRecDepth 100000 in
theorem tL_least_xa (l : Launch) (D : va_G) (cI cZ cJ : ClassId) (h : Nat → Nat) (lev tm : Nat) (gn : Int32) (nL nC nE : Nat) (L B C E : Nat → Nat → Int32) (v : Int32) (hno : inB v 0 (nI nL - 1) = false) (hL : nL ≤ 4) (hC : nC ≤ 24) (qo : Nat) (o : Nat → Int64) (sa : Nat → Nat) (hl9 : l.stackTraces = false)  : ∀ sz : Nat, zML l yL_least wsL_least ({ frames := 8, cells := 1, slots := 6, locals := 126 } : Room) D cI cZ cJ (wV cI cZ cJ h lev tm gn nL nC nE L B C E qo o) sz [.ref (h 0), .int v, .ref qo] sa (fun r w' => r = 1 ∧ w' = wV cI cZ cJ h lev tm gn nL nC nE L B C E qo o) := by
  intro sz
  refine z_headL (y := yL_least) (av := [.ref (h 0), .int v, .ref qo]) (w := (wV cI cZ cJ h lev tm gn nL nC nE L B C E qo o)) (cc := cL_least) (maxL := 4) (ret := (some .int)) (hh := [(0, 9, 12, 28)]) (by decide) rfl (Nat.le_of_ble_eq_true rfl) ?_
  intro p e s m below meth c ls A hat hX hN hT hP hD hS hl
  obtain ⟨hx, hb, hr, hml, hlocks, hts, hown, hin, hK, hE, hA⟩ := hat
  have hP : va_P D vwCl (wX cI cZ h lev tm gn nL nC nE L B C E ++ [(qo, .inl (cJ, 1, .inr (.inl o)))]) s.heap := hP
  have hD : va_D A (wX cI cZ h lev tm gn nL nC nE L B C E ++ [(qo, .inl (cJ, 1, .inr (.inl o)))]) := hD
  have hl : lv_has ls 4 [(0, .ref (h 0)), (1, .int v), (2, .ref qo)] := hl
  refine lv_aload_n hx hb dL_least_0 rfl (lv_at hl 2 rfl) ?_
  refine lv_iconst (v := 0) hx hb dL_least_1 (by decide) ?_
  refine lv_aload_n hx hb dL_least_2 rfl (lv_at hl 0 rfl) ?_
  refine lv_iload_n hx hb dL_least_3 rfl (lv_at hl 1 rfl) ?_
  refine z_backSX (wa := []) (w := (wX cI cZ h lev tm gn nL nC nE L B C E)) (wb := [(qo, .inl (cJ, 1, .inr (.inl o)))]) (z_runVXS (wa := []) (w := (wX cI cZ h lev tm gn nL nC nE L B C E)) (wb := [(qo, .inl (cJ, 1, .inr (.inl o)))]) (n := 1) (As := [.int v]) (ci := 4) (rest := [.int 0, .ref qo]) hx hb hml hown hts hK hE hX hS hA hP hD (tX3_least_xa l D cI cZ cJ h lev tm gn nL nC nE L B C E v hno hL hC hl9 sa _) gL_least_X3_least rfl rfl rfl (by decide +kernel) ⟨Nat.le_of_ble_eq_true rfl, Nat.le_of_ble_eq_true rfl⟩ rfl rfl rfl hl.1 rfl (Nat.le_of_ble_eq_true rfl) dL_least_4 ⟨Nat.le_of_ble_eq_true rfl, Nat.le_of_ble_eq_true rfl⟩) hP hD hS hA (fun ce q9 H locs hP hS hce hcv hcl => ?_)
  refine z_catch1 (nm := zNN) hT rfl hown hts (by decide) (by decide) kL_least_l28 hX (by decide) hce hcv hcl ?_
  refine lv_astore_n (lv' := [(3, .ref q9), (0, .ref (h 0)), (1, .int v), (2, .ref qo)]) hx hb dL_least_12 rfl hl (by decide) rfl (fun ls hl => ?_)
  refine lv_iconst (v := 1) hx hb dL_least_13 (by decide) ?_
  exact z_iret hx hb hr hlocks hS hP rfl dL_least_14 (⟨rfl, rfl⟩)

theorem kL_known_l28 : Cond.classLink RL 28 zNN ∈ wsL_known := by decide +kernel
set_option maxHeartbeats 4000000 in
set_option maxRecDepth 100000 in
theorem tL_known_xa (l : Launch) (D : va_G) (cI cZ cJ : ClassId) (h : Nat → Nat) (lev tm : Nat) (gn : Int32) (nL nC nE : Nat) (L B C E : Nat → Nat → Int32) (v u : Int32) (hno : inB v 0 (nI nC - 1) = false) (hL : nL ≤ 4) (hC : nC ≤ 24) (qo : Nat) (o : Nat → Int64) (sa : Nat → Nat) (hl9 : l.stackTraces = false)  : ∀ sz : Nat, zML l yL_known wsL_known ({ frames := 8, cells := 1, slots := 6, locals := 125 } : Room) D cI cZ cJ (wV cI cZ cJ h lev tm gn nL nC nE L B C E qo o) sz [.ref (h 0), .int v, .int u, .ref qo] sa (fun r w' => r = 1 ∧ w' = wV cI cZ cJ h lev tm gn nL nC nE L B C E qo o) := by
  intro sz
  refine z_headL (y := yL_known) (av := [.ref (h 0), .int v, .int u, .ref qo]) (w := (wV cI cZ cJ h lev tm gn nL nC nE L B C E qo o)) (cc := cL_known) (maxL := 5) (ret := (some .int)) (hh := [(0, 10, 13, 28), (0, 10, 17, 13)]) (by decide) rfl (Nat.le_of_ble_eq_true rfl) ?_
  intro p e s m below meth c ls A hat hX hN hT hP hD hS hl
  obtain ⟨hx, hb, hr, hml, hlocks, hts, hown, hin, hK, hE, hA⟩ := hat
  have hP : va_P D vwCl (wX cI cZ h lev tm gn nL nC nE L B C E ++ [(qo, .inl (cJ, 1, .inr (.inl o)))]) s.heap := hP
  have hD : va_D A (wX cI cZ h lev tm gn nL nC nE L B C E ++ [(qo, .inl (cJ, 1, .inr (.inl o)))]) := hD
  have hl : lv_has ls 5 [(0, .ref (h 0)), (1, .int v), (2, .int u), (3, .ref qo)] := hl
  refine lv_aload_n hx hb dL_known_0 rfl (lv_at hl 3 rfl) ?_
  refine lv_iconst (v := 0) hx hb dL_known_1 (by decide) ?_
  refine lv_aload_n hx hb dL_known_2 rfl (lv_at hl 0 rfl) ?_
  refine lv_iload_n hx hb dL_known_3 rfl (lv_at hl 1 rfl) ?_
  refine lv_iload_n hx hb dL_known_4 rfl (lv_at hl 2 rfl) ?_
  refine z_backSX (wa := []) (w := (wX cI cZ h lev tm gn nL nC nE L B C E)) (wb := [(qo, .inl (cJ, 1, .inr (.inl o)))]) (z_runVXS (wa := []) (w := (wX cI cZ h lev tm gn nL nC nE L B C E)) (wb := [(qo, .inl (cJ, 1, .inr (.inl o)))]) (n := 2) (As := [.int v, .int u]) (ci := 4) (rest := [.int 0, .ref qo]) hx hb hml hown hts hK hE hX hS hA hP hD (tX3_known_xa l D cI cZ cJ h lev tm gn nL nC nE L B C E v u hno hL hC hl9 sa _) gL_known_X3_known rfl rfl rfl (by decide +kernel) ⟨Nat.le_of_ble_eq_true rfl, Nat.le_of_ble_eq_true rfl⟩ rfl rfl rfl hl.1 rfl (Nat.le_of_ble_eq_true rfl) dL_known_5 ⟨Nat.le_of_ble_eq_true rfl, Nat.le_of_ble_eq_true rfl⟩) hP hD hS hA (fun ce q9 H locs hP hS hce hcv hcl => ?_)
  refine z_catch1 (nm := zNN) hT rfl hown hts (by decide) (by decide) kL_known_l28 hX (by decide) hce hcv hcl ?_
  refine lv_astore (lv' := [(4, .ref q9), (0, .ref (h 0)), (1, .int v), (2, .int u), (3, .ref qo)]) hx hb dL_known_13 hl (by decide) rfl (fun ls hl => ?_)
  refine lv_iconst (v := 1) hx hb dL_known_15 (by decide) ?_
  exact z_iret hx hb hr hlocks hS hP rfl dL_known_16 (⟨rfl, rfl⟩)

theorem kL_known_l13 : Cond.classLink RL 13 zIA ∈ wsL_known := by decide +kernel
set_option maxHeartbeats 4000000 in
set_option maxRecDepth 100000 in
theorem tL_known_xb (l : Launch) (D : va_G) (cI cZ cJ : ClassId) (h : Nat → Nat) (lev tm : Nat) (gn : Int32) (nL nC nE : Nat) (L B C E : Nat → Nat → Int32) (k : Nat) (hk : k < nC) (hL : nL ≤ 4) (hC : nC ≤ 24) (u : Int32) (hno : inB u 0 5 = false) (qo : Nat) (o : Nat → Int64) (sa : Nat → Nat) (hl9 : l.stackTraces = false)  : ∀ sz : Nat, zML l yL_known wsL_known ({ frames := 8, cells := 1, slots := 6, locals := 126 } : Room) D cI cZ cJ (wV cI cZ cJ h lev tm gn nL nC nE L B C E qo o) sz [.ref (h 0), .int (nI k), .int u, .ref qo] sa (fun r w' => r = 2 ∧ w' = wV cI cZ cJ h lev tm gn nL nC nE L B C E qo o) := by
  intro sz
  refine z_headL (y := yL_known) (av := [.ref (h 0), .int (nI k), .int u, .ref qo]) (w := (wV cI cZ cJ h lev tm gn nL nC nE L B C E qo o)) (cc := cL_known) (maxL := 5) (ret := (some .int)) (hh := [(0, 10, 13, 28), (0, 10, 17, 13)]) (by decide) rfl (Nat.le_of_ble_eq_true rfl) ?_
  intro p e s m below meth c ls A hat hX hN hT hP hD hS hl
  obtain ⟨hx, hb, hr, hml, hlocks, hts, hown, hin, hK, hE, hA⟩ := hat
  have hP : va_P D vwCl (wX cI cZ h lev tm gn nL nC nE L B C E ++ [(qo, .inl (cJ, 1, .inr (.inl o)))]) s.heap := hP
  have hD : va_D A (wX cI cZ h lev tm gn nL nC nE L B C E ++ [(qo, .inl (cJ, 1, .inr (.inl o)))]) := hD
  have hl : lv_has ls 5 [(0, .ref (h 0)), (1, .int (nI k)), (2, .int u), (3, .ref qo)] := hl
  refine lv_aload_n hx hb dL_known_0 rfl (lv_at hl 3 rfl) ?_
  refine lv_iconst (v := 0) hx hb dL_known_1 (by decide) ?_
  refine lv_aload_n hx hb dL_known_2 rfl (lv_at hl 0 rfl) ?_
  refine lv_iload_n hx hb dL_known_3 rfl (lv_at hl 1 rfl) ?_
  refine lv_iload_n hx hb dL_known_4 rfl (lv_at hl 2 rfl) ?_
  refine z_backSX (wa := []) (w := (wX cI cZ h lev tm gn nL nC nE L B C E)) (wb := [(qo, .inl (cJ, 1, .inr (.inl o)))]) (z_runVXS (wa := []) (w := (wX cI cZ h lev tm gn nL nC nE L B C E)) (wb := [(qo, .inl (cJ, 1, .inr (.inl o)))]) (n := 2) (As := [.int (nI k), .int u]) (ci := 4) (rest := [.int 0, .ref qo]) hx hb hml hown hts hK hE hX hS hA hP hD (tX3_known_xb l D cI cZ cJ h lev tm gn nL nC nE L B C E k hk hL hC u hno hl9 sa _) gL_known_X3_known rfl rfl rfl (by decide +kernel) ⟨Nat.le_of_ble_eq_true rfl, Nat.le_of_ble_eq_true rfl⟩ rfl rfl rfl hl.1 rfl (Nat.le_of_ble_eq_true rfl) dL_known_5 ⟨Nat.le_of_ble_eq_true rfl, Nat.le_of_ble_eq_true rfl⟩) hP hD hS hA (fun ce q9 H locs hP hS hce hcv hcl => ?_)
  refine z_catch2 (nm := zIA) (nm1 := zNN) hT rfl hown hts (by decide) (by decide) (by decide) kL_known_l28 kL_known_l13 hX hN (by decide) (by decide) hce hcv hcl ?_
  refine lv_astore (lv' := [(4, .ref q9), (0, .ref (h 0)), (1, .int (nI k)), (2, .int u), (3, .ref qo)]) hx hb dL_known_17 hl (by decide) rfl (fun ls hl => ?_)
  refine lv_iconst (v := 2) hx hb dL_known_19 (by decide) ?_
  exact z_iret hx hb hr hlocks hS hP rfl dL_known_20 (⟨rfl, rfl⟩)

theorem kL_joins_l28 : Cond.classLink RL 28 zNN ∈ wsL_joins := by decide +kernel
set_option maxHeartbeats 4000000 in
set_option maxRecDepth 100000 in
theorem tL_joins_xa (l : Launch) (D : va_G) (cI cZ cJ : ClassId) (h : Nat → Nat) (lev tm : Nat) (gn : Int32) (nL nC nE : Nat) (L B C E : Nat → Nat → Int32) (v v2 : Int32) (hno : inB v 0 (nI nC - 1) = false) (hL : nL ≤ 4) (hC : nC ≤ 24) (qo : Nat) (o : Nat → Int64) (sa : Nat → Nat) (hl9 : l.stackTraces = false)  : ∀ sz : Nat, zML l yL_joins wsL_joins ({ frames := 8, cells := 1, slots := 6, locals := 125 } : Room) D cI cZ cJ (wV cI cZ cJ h lev tm gn nL nC nE L B C E qo o) sz [.ref (h 0), .int v, .int v2, .ref qo] sa (fun r w' => r = 1 ∧ w' = wV cI cZ cJ h lev tm gn nL nC nE L B C E qo o) := by
  intro sz
  refine z_headL (y := yL_joins) (av := [.ref (h 0), .int v, .int v2, .ref qo]) (w := (wV cI cZ cJ h lev tm gn nL nC nE L B C E qo o)) (cc := cL_joins) (maxL := 5) (ret := (some .int)) (hh := [(0, 17, 20, 28), (0, 17, 24, 42)]) (by decide) rfl (Nat.le_of_ble_eq_true rfl) ?_
  intro p e s m below meth c ls A hat hX hN hT hP hD hS hl
  obtain ⟨hx, hb, hr, hml, hlocks, hts, hown, hin, hK, hE, hA⟩ := hat
  have hP : va_P D vwCl (wX cI cZ h lev tm gn nL nC nE L B C E ++ [(qo, .inl (cJ, 1, .inr (.inl o)))]) s.heap := hP
  have hD : va_D A (wX cI cZ h lev tm gn nL nC nE L B C E ++ [(qo, .inl (cJ, 1, .inr (.inl o)))]) := hD
  have hl : lv_has ls 5 [(0, .ref (h 0)), (1, .int v), (2, .int v2), (3, .ref qo)] := hl
  refine lv_aload_n hx hb dL_joins_0 rfl (lv_at hl 3 rfl) ?_
  refine lv_iconst (v := 0) hx hb dL_joins_1 (by decide) ?_
  refine lv_aload_n hx hb dL_joins_2 rfl (lv_at hl 0 rfl) ?_
  refine lv_iload_n hx hb dL_joins_3 rfl (lv_at hl 1 rfl) ?_
  refine lv_iload_n hx hb dL_joins_4 rfl (lv_at hl 2 rfl) ?_
  refine z_backSX (wa := []) (w := (wX cI cZ h lev tm gn nL nC nE L B C E)) (wb := [(qo, .inl (cJ, 1, .inr (.inl o)))]) (z_runVXS (wa := []) (w := (wX cI cZ h lev tm gn nL nC nE L B C E)) (wb := [(qo, .inl (cJ, 1, .inr (.inl o)))]) (n := 2) (As := [.int v, .int v2]) (ci := 4) (rest := [.int 0, .ref qo]) hx hb hml hown hts hK hE hX hS hA hP hD (tX3_joins_xa l D cI cZ cJ h lev tm gn nL nC nE L B C E v v2 hno hL hC hl9 sa _) gL_joins_X3_joins rfl rfl rfl (by decide +kernel) ⟨Nat.le_of_ble_eq_true rfl, Nat.le_of_ble_eq_true rfl⟩ rfl rfl rfl hl.1 rfl (Nat.le_of_ble_eq_true rfl) dL_joins_5 ⟨Nat.le_of_ble_eq_true rfl, Nat.le_of_ble_eq_true rfl⟩) hP hD hS hA (fun ce q9 H locs hP hS hce hcv hcl => ?_)
  refine z_catch1 (nm := zNN) hT rfl hown hts (by decide) (by decide) kL_joins_l28 hX (by decide) hce hcv hcl ?_
  refine lv_astore (lv' := [(4, .ref q9), (0, .ref (h 0)), (1, .int v), (2, .int v2), (3, .ref qo)]) hx hb dL_joins_20 hl (by decide) rfl (fun ls hl => ?_)
  refine lv_iconst (v := 1) hx hb dL_joins_22 (by decide) ?_
  exact z_iret hx hb hr hlocks hS hP rfl dL_joins_23 (⟨rfl, rfl⟩)


set_option maxHeartbeats 4000000 in
set_option maxRecDepth 100000 in
theorem tL_joins_xb (l : Launch) (D : va_G) (cI cZ cJ : ClassId) (h : Nat → Nat) (lev tm : Nat) (gn : Int32) (nL nC nE : Nat) (L B C E : Nat → Nat → Int32) (k : Nat) (hk : k < nC) (hL : nL ≤ 4) (hC : nC ≤ 24) (v2 : Int32) (hno : inB v2 0 (nI nC - 1) = false) (qo : Nat) (o : Nat → Int64) (sa : Nat → Nat) (hl9 : l.stackTraces = false)  : ∀ sz : Nat, zML l yL_joins wsL_joins ({ frames := 8, cells := 1, slots := 6, locals := 125 } : Room) D cI cZ cJ (wV cI cZ cJ h lev tm gn nL nC nE L B C E qo o) sz [.ref (h 0), .int (nI k), .int v2, .ref qo] sa (fun r w' => r = 1 ∧ w' = wV cI cZ cJ h lev tm gn nL nC nE L B C E qo o) := by
  intro sz
  refine z_headL (y := yL_joins) (av := [.ref (h 0), .int (nI k), .int v2, .ref qo]) (w := (wV cI cZ cJ h lev tm gn nL nC nE L B C E qo o)) (cc := cL_joins) (maxL := 5) (ret := (some .int)) (hh := [(0, 17, 20, 28), (0, 17, 24, 42)]) (by decide) rfl (Nat.le_of_ble_eq_true rfl) ?_
  intro p e s m below meth c ls A hat hX hN hT hP hD hS hl
  obtain ⟨hx, hb, hr, hml, hlocks, hts, hown, hin, hK, hE, hA⟩ := hat
  have hP : va_P D vwCl (wX cI cZ h lev tm gn nL nC nE L B C E ++ [(qo, .inl (cJ, 1, .inr (.inl o)))]) s.heap := hP
  have hD : va_D A (wX cI cZ h lev tm gn nL nC nE L B C E ++ [(qo, .inl (cJ, 1, .inr (.inl o)))]) := hD
  have hl : lv_has ls 5 [(0, .ref (h 0)), (1, .int (nI k)), (2, .int v2), (3, .ref qo)] := hl
  refine lv_aload_n hx hb dL_joins_0 rfl (lv_at hl 3 rfl) ?_
  refine lv_iconst (v := 0) hx hb dL_joins_1 (by decide) ?_
  refine lv_aload_n hx hb dL_joins_2 rfl (lv_at hl 0 rfl) ?_
  refine lv_iload_n hx hb dL_joins_3 rfl (lv_at hl 1 rfl) ?_
  refine lv_iload_n hx hb dL_joins_4 rfl (lv_at hl 2 rfl) ?_
  refine z_backSX (wa := []) (w := (wX cI cZ h lev tm gn nL nC nE L B C E)) (wb := [(qo, .inl (cJ, 1, .inr (.inl o)))]) (z_runVXS (wa := []) (w := (wX cI cZ h lev tm gn nL nC nE L B C E)) (wb := [(qo, .inl (cJ, 1, .inr (.inl o)))]) (n := 2) (As := [.int (nI k), .int v2]) (ci := 4) (rest := [.int 0, .ref qo]) hx hb hml hown hts hK hE hX hS hA hP hD (tX3_joins_xb l D cI cZ cJ h lev tm gn nL nC nE L B C E k hk hL hC v2 hno hl9 sa _) gL_joins_X3_joins rfl rfl rfl (by decide +kernel) ⟨Nat.le_of_ble_eq_true rfl, Nat.le_of_ble_eq_true rfl⟩ rfl rfl rfl hl.1 rfl (Nat.le_of_ble_eq_true rfl) dL_joins_5 ⟨Nat.le_of_ble_eq_true rfl, Nat.le_of_ble_eq_true rfl⟩) hP hD hS hA (fun ce q9 H locs hP hS hce hcv hcl => ?_)
  refine z_catch1 (nm := zNN) hT rfl hown hts (by decide) (by decide) kL_joins_l28 hX (by decide) hce hcv hcl ?_
  refine lv_astore (lv' := [(4, .ref q9), (0, .ref (h 0)), (1, .int (nI k)), (2, .int v2), (3, .ref qo)]) hx hb dL_joins_20 hl (by decide) rfl (fun ls hl => ?_)
  refine lv_iconst (v := 1) hx hb dL_joins_22 (by decide) ?_
  exact z_iret hx hb hr hlocks hS hP rfl dL_joins_23 (⟨rfl, rfl⟩)

theorem kL_joins_l42 : Cond.classLink RL 42 zIS ∈ wsL_joins := by decide +kernel
set_option maxHeartbeats 4000000 in
set_option maxRecDepth 100000 in
theorem tL_joins_xc (l : Launch) (D : va_G) (cI cZ cJ : ClassId) (h : Nat → Nat) (lev tm : Nat) (gn : Int32) (nL nC nE : Nat) (L B C E : Nat → Nat → Int32) (k k2 : Nat) (hk : k < nC) (hk2 : k2 < nC) (hL : nL ≤ 4) (hC : nC ≤ 24) (hno : ¬ (C 4 k = 0 ∧ C 4 k2 = 0)) (qo : Nat) (o : Nat → Int64) (sa : Nat → Nat) (hl9 : l.stackTraces = false)  : ∀ sz : Nat, zML l yL_joins wsL_joins ({ frames := 8, cells := 1, slots := 6, locals := 125 } : Room) D cI cZ cJ (wV cI cZ cJ h lev tm gn nL nC nE L B C E qo o) sz [.ref (h 0), .int (nI k), .int (nI k2), .ref qo] sa (fun r w' => r = 2 ∧ w' = wV cI cZ cJ h lev tm gn nL nC nE L B C E qo o) := by
  intro sz
  refine z_headL (y := yL_joins) (av := [.ref (h 0), .int (nI k), .int (nI k2), .ref qo]) (w := (wV cI cZ cJ h lev tm gn nL nC nE L B C E qo o)) (cc := cL_joins) (maxL := 5) (ret := (some .int)) (hh := [(0, 17, 20, 28), (0, 17, 24, 42)]) (by decide) rfl (Nat.le_of_ble_eq_true rfl) ?_
  intro p e s m below meth c ls A hat hX hN hT hP hD hS hl
  obtain ⟨hx, hb, hr, hml, hlocks, hts, hown, hin, hK, hE, hA⟩ := hat
  have hP : va_P D vwCl (wX cI cZ h lev tm gn nL nC nE L B C E ++ [(qo, .inl (cJ, 1, .inr (.inl o)))]) s.heap := hP
  have hD : va_D A (wX cI cZ h lev tm gn nL nC nE L B C E ++ [(qo, .inl (cJ, 1, .inr (.inl o)))]) := hD
  have hl : lv_has ls 5 [(0, .ref (h 0)), (1, .int (nI k)), (2, .int (nI k2)), (3, .ref qo)] := hl
  refine lv_aload_n hx hb dL_joins_0 rfl (lv_at hl 3 rfl) ?_
  refine lv_iconst (v := 0) hx hb dL_joins_1 (by decide) ?_
  refine lv_aload_n hx hb dL_joins_2 rfl (lv_at hl 0 rfl) ?_
  refine lv_iload_n hx hb dL_joins_3 rfl (lv_at hl 1 rfl) ?_
  refine lv_iload_n hx hb dL_joins_4 rfl (lv_at hl 2 rfl) ?_
  refine z_backSX (wa := []) (w := (wX cI cZ h lev tm gn nL nC nE L B C E)) (wb := [(qo, .inl (cJ, 1, .inr (.inl o)))]) (z_runVXS (wa := []) (w := (wX cI cZ h lev tm gn nL nC nE L B C E)) (wb := [(qo, .inl (cJ, 1, .inr (.inl o)))]) (n := 2) (As := [.int (nI k), .int (nI k2)]) (ci := 4) (rest := [.int 0, .ref qo]) hx hb hml hown hts hK hE hX hS hA hP hD (tX3_joins_xc l D cI cZ cJ h lev tm gn nL nC nE L B C E k k2 hk hk2 hL hC hno hl9 sa _) gL_joins_X3_joins rfl rfl rfl (by decide +kernel) ⟨Nat.le_of_ble_eq_true rfl, Nat.le_of_ble_eq_true rfl⟩ rfl rfl rfl hl.1 rfl (Nat.le_of_ble_eq_true rfl) dL_joins_5 ⟨Nat.le_of_ble_eq_true rfl, Nat.le_of_ble_eq_true rfl⟩) hP hD hS hA (fun ce q9 H locs hP hS hce hcv hcl => ?_)
  refine z_catch2 (nm := zIS) (nm1 := zNN) hT rfl hown hts (by decide) (by decide) (by decide) kL_joins_l28 kL_joins_l42 hX hN (by decide) (by decide) hce hcv hcl ?_
  refine lv_astore (lv' := [(4, .ref q9), (0, .ref (h 0)), (1, .int (nI k)), (2, .int (nI k2)), (3, .ref qo)]) hx hb dL_joins_24 hl (by decide) rfl (fun ls hl => ?_)
  refine lv_iconst (v := 2) hx hb dL_joins_26 (by decide) ?_
  exact z_iret hx hb hr hlocks hS hP rfl dL_joins_27 (⟨rfl, rfl⟩)
