/-! The law's beginning: the object, the reference, the cell for answers. -/
theorem law0_l {w : Cond} (h : w ∈ wsL_law0) : w ∈ wsL_law := List.mem_append_left _ (List.mem_append_left _ (List.mem_append_left _ (List.mem_append_left _ h)))
theorem lawR_l {w : Cond} (h : w ∈ (wsL_law0_r1 ++ (wsL_law0_r2 ++ (wsL_law0_r3 ++ (wsL_law0_r4 ++ (wsL_law0_r5 ++ (wsL_law0_r6 ++ (wsL_law0_r7 ++ (wsL_law0_r8 ++ (wsL_law0_r9 ++ (wsL_law0_r10 ++ (wsL_law0_r11 ++ (wsL_law0_r12 ++ (wsL_law0_r13 ++ (wsL_law0_r14 ++ (wsL_law0_r15 ++ (wsL_law0_r16 ++ (wsL_law0_r17 ++ (wsL_law0_r18 ++ (wsL_law0_r19 ++ wsL_law0_r20)))))))))))))))))))) : w ∈ wsL_law :=
  law0_l (List.mem_append_left _ (List.mem_append_left _ (List.mem_append_left _ (List.mem_append_left _ (List.mem_append_left _ (List.mem_append_left _ (List.mem_append_left _ h)))))))
theorem law1_l {w : Cond} (h : w ∈ wsL_law0_r1) : w ∈ wsL_law := lawR_l (List.mem_append_left _ h)
theorem law4_l {w : Cond} (h : w ∈ wsL_law0_r4) : w ∈ wsL_law := lawR_l (List.mem_append_right _ (List.mem_append_right _ (List.mem_append_right _ (List.mem_append_left _ h))))
theorem lawX3_l : ∀ w ∈ wsX30, w ∈ wsL_law := fun w h => law0_l (List.mem_append_left _ (List.mem_append_left _ (List.mem_append_left _ (List.mem_append_left _ (List.mem_append_left _ (List.mem_append_left _ (List.mem_append_right _ h)))))))
theorem lawX4_l : ∀ w ∈ wsX40, w ∈ wsL_law := fun w h => law0_l (List.mem_append_left _ (List.mem_append_left _ (List.mem_append_left _ (List.mem_append_left _ (List.mem_append_left _ (List.mem_append_right _ h))))))
theorem kl_8 : Cond.classLink RL 8 RX3 ∈ wsL_law0_r1 := by decide +kernel
theorem kl_z3 : Cond.instantiable RX3 5 ∈ wsL_law0_r1 := by decide +kernel
theorem kl_i3 : Cond.initialized RX3 ∈ wsL_law0_r1 := by decide +kernel
theorem kl_76 : Cond.classLink RL 76 RX4 ∈ wsL_law0_r1 := by decide +kernel
theorem kl_z4 : Cond.instantiable RX4 28 ∈ wsL_law0_r1 := by decide +kernel
theorem kl_i4 : Cond.initialized RX4 ∈ wsL_law0_r1 := by decide +kernel
theorem kl_J : Cond.arrayClass .long ∈ wsL_law0_r1 := by decide +kernel
theorem kl_73 : Cond.methodLink RL 73 yX3_init ∈ wsL_law0_r1 := by decide +kernel
theorem kl_n3 : Cond.instanceMethod yX3_init ∈ wsL_law0_r1 := by decide +kernel
theorem kl_78 : Cond.methodLink RL 78 yX4_init ∈ wsL_law0_r4 := by decide +kernel
theorem kl_n4 : Cond.instanceMethod yX4_init ∈ wsL_law0_r4 := by decide +kernel
/-- a, b, w out of a, w, b -/
theorem sw_P {D : va_G} {cl : List vw_C} {a w b : va_W} {H : Heap} (h : va_P D cl (a ++ w ++ b) H) : va_P D cl (a ++ b ++ w) H := by
  have ha : va_P D cl a H := sg_P (a := []) (w := a) (b := w ++ b) (by rw [List.nil_append, ← List.append_assoc]; exact h)
  have hw : va_P D cl w H := sg_P h
  have hb : va_P D cl b H := sg_P (a := a ++ w) (w := b) (b := []) (by rw [List.append_nil]; exact h)
  exact va_P.app (va_P.app ha hb) hw
theorem sw_D {A : Nat → Prop} {a w b : va_W} (h : va_D A (a ++ w ++ b)) : va_D A (a ++ b ++ w) := by
  have ha : va_D A a := sg_D (a := []) (w := a) (b := w ++ b) (by rw [List.nil_append, ← List.append_assoc]; exact h)
  have hw : va_D A w := sg_D h
  have hb : va_D A b := sg_D (a := a ++ w) (w := b) (b := []) (by rw [List.append_nil]; exact h)
  have ga : ∀ {i : Nat} {q : Nat × va_E}, a[i]? = some q → (a ++ w ++ b)[i]? = some q ∧ i < a.length := fun {i} {q} hq => by
    have hl := (List.getElem?_eq_some_iff.mp hq).1
    rw [List.append_assoc, List.getElem?_append_left hl]; exact ⟨hq, hl⟩
  have gw : ∀ {i : Nat} {q : Nat × va_E}, w[i]? = some q → (a ++ w ++ b)[a.length + i]? = some q ∧ i < w.length := fun {i} {q} hq => ⟨sg_get hq, (List.getElem?_eq_some_iff.mp hq).1⟩
  have gb : ∀ {i : Nat} {q : Nat × va_E}, b[i]? = some q → (a ++ w ++ b)[a.length + w.length + i]? = some q := fun {i} {q} hq => by
    rw [List.getElem?_append_right (by rw [List.length_append]; omega), List.length_append, Nat.add_sub_cancel_left]; exact hq
  refine va_D.app (va_D.app ha hb (fun i j u v hu hv huv => ?_)) hw (fun i j u v hu hv huv => ?_)
  · have := h.1 _ _ u v (ga hu).1 (gb hv) huv
    have := (ga hu).2
    omega
  · have hw2 := (gw hv).2
    by_cases hi : i < a.length
    · rw [List.getElem?_append_left hi] at hu
      have := h.1 _ _ u v (ga hu).1 (gw hv).1 huv
      omega
    · rw [List.getElem?_append_right (by omega)] at hu
      have := h.1 _ _ u v (gb hu) (gw hv).1 huv
      omega
section ZS
variable {p : Program} {l : Launch} {e : Env} {R : Room} {s : State} {m : MethodId} {args : Array Value} {below : List Frame} {meth : Method} {c : Code} {H : Heap} {locs : List Loc} {cells slots : Nat} {Q : State → Prop}
variable {cc : ByteArray} {pc : Nat} {ls : Array Slot} {st0 rest : List Value} {D : va_G} {A : Nat → Prop} {cI cZ cJ : ClassId} {w wc : va_W} {H0 : Heap} {a : Array Value}
variable {y : MethodName} {ws ws' Ts : List Cond} {rm : Room} {bytes : ByteArray} {maxL nL index n : Nat} {own host : String} {b : Addr} {As : List Value} {Qc : Array Value → State → Outcome → State → Prop} {free : Addr → Prop} {mc ms : Nat} {wr : va_W} {e0 : va_E}
/-- invokespecial <init> -/
theorem z_runI (hx : p.tables.exec = Jvm.exec) (hb : c.code = cc) (hml : c.maxLocals = nL) (hown : s.vm.findClass own = some m.cls) (hts : ∀ w ∈ Ts, w.before args s = true) (hK : va_K D vwCl (zT cI cZ cJ) s) (hE : zE s)
    (hP : va_P D vwCl (wr ++ [(b, e0)]) H)
    (hM : Met l y ws rm (zP D cI cZ cJ [(b, e0)] H.size (.ref b :: As)) Qc mc ms free) (hG : GoodIn Ts ws) (hw : ws = Cond.code y bytes maxL none :: ws') (hrc : rm.cells = mc) (hrs : rm.slots = ms)
    (hl : Cond.methodLink own index y ∈ Ts) (hini : Cond.initialized y.cls ∈ Ts) (hin : Cond.instanceMethod y ∈ Ts) (hyn : y.name = "<init>")
    (hd : y.cls ≠ "java/lang/invoke/MethodHandle" ∧ y.cls ≠ "java/lang/invoke/VarHandle" ∧ (parseMethodDescriptor y.desc).map (fun d => d.parameters.length) = some n) (hR : rm.frames + 1 ≤ R.frames ∧ 8 + (maxL + 11) + rm.locals ≤ R.locals)
    (hn : As.length = n) (hls : ls.size = nL) (hst : st0 = As.reverse ++ .ref b :: rest) (hW : (rest.map fun v => v.category).sum ≤ 8) (hdg : decode cc pc = .ok (.invokespecial index, 3)) (hf : cells + mc ≤ R.cells ∧ slots + ms ≤ R.slots) :
    va_Run p l e R s m args below meth c H locs cells slots mc ms (F0 m pc ls st0) rest (Qc (Value.ref b :: As).toArray) free :=
  va_runI (As := As) ⟨hx, hb, hml, hown, hts⟩ hM ⟨callB_of n hts hG hw hrc hrs (hts _ hini) (hts _ hl) hd hR, hyn, hts _ hin⟩ ⟨zP.blind, fun U hU hW => ⟨rfl, by rw [hU], by rw [hU]; exact z_last hP, va_K.moved hW.alike hK, hE.warm hW, z_lastD⟩⟩ rfl hn hls hst (lv_room hW) hdg hf
/-- cell(script, 0) -/
theorem z_cell {sb Ln : Nat} {xs : Nat → Int32} (hx : p.tables.exec = Jvm.exec) (hb : c.code = cc) (hml : c.maxLocals = nL) (hown : s.vm.findClass RL = some m.cls) (hts : ∀ w ∈ wsL_law, w.before args s = true) (hLn : Ln ≤ 2561) (hX : va_X sb Ln xs s H0) (hbl : sb < H0.size) (hbA : ¬ A sb)
    (hP : va_P D vwCl w H) (hD : va_D A w) (hS : va_S A H0 H locs) (hA : ∀ q, H0.size ≤ q → A q) (hR : 1 ≤ R.frames ∧ 21 ≤ R.locals) (hls : ls.size = nL) (hW : (rest.map fun v => v.category).sum ≤ 8) (hdg : decode cc pc = .ok (.invokestatic 67, 3)) (hf : cells ≤ R.cells ∧ slots ≤ R.slots)
    (kk : ∀ (H1 : Heap) (locs1 : List Loc), va_P D vwCl w H1 → va_S A H0 H1 locs1 → W p l e R s m args below meth c H1 locs1 cells slots Q (F0 m (pc + 3) ls (.int (celI Ln xs) :: rest))) : W p l e R s m args below meth c H locs cells slots Q (F0 m pc ls (.int 0 :: .ref sb :: rest)) := by
  have hX1 : va_X sb Ln xs s H := hX.kept (hS.2.1 sb hbl hbA)
  have hblH : sb < H.size := Nat.lt_of_lt_of_le hbl hS.1
  have hr : va_Run p l e R s m args below meth c H locs cells slots 0 0 (F0 m pc ls (.int 0 :: .ref sb :: rest)) rest (va_Qi (fun r (_ : Unit) => r = celI Ln xs) (fun _ _ => True) (fun q => H.size ≤ q) [Value.ref sb, .int 0].toArray) (fun q => H.size ≤ q) :=
    va_runS (As := [.ref sb, .int 0]) ⟨hx, hb, hml, hown, hts⟩ (tL_cell l sb Ln xs (by omega) H.size) (va_cwS 2 hts gL_law_L_cell rfl rfl rfl (by decide +kernel) hR)
      ⟨fun a U g mk q => ⟨q.1, q.2.1, q.2.2.1, va_X.moved (u := U) (U := U.calling g mk a) (Vm.Alike.refl U.vm) q.2.2.2⟩, fun U hU hW => ⟨rfl, by rw [hU], hblH, by rw [hU]; exact va_X.moved hW.alike hX1⟩⟩ rfl rfl hls rfl (lv_room hW) hdg hf
  refine va_calli hr hS (fun q h1 h2 => absurd h1 (by omega)) (fun q h => hA q (Nat.le_trans hS.1 h)) (fun r u t H1 locs1 ht _ hpost hB hsz hk hS1 => ?_)
  subst hpost
  exact kk H1 locs1 (fun k q hq => (hP k q hq).kept (hk q.1 ((hP k q hq).lt) (by have := (hP k q hq).lt; omega))) hS1
end ZS
set_option maxHeartbeats 4000000 in
theorem law_begin {p : Program} {l : Launch} {e : Env} {s : State} {m : MethodId} {below : List Frame} {meth : Method} {c : Code} {Q : State → Prop} {sb Ln : Nat} {xs : Nat → Int32} {D : va_G} {cI cZ cJ : ClassId} {A : Nat → Prop} {sa : Nat → Nat} (cx : zCx p l s m meth c sb Ln xs D cI cZ cJ A sa)
    (hend : ∀ (H1 : Heap) (locs1 : List Loc) (ls1 : Array Slot) (cells slots : Nat), va_S A s.heap H1 locs1 → cells ≤ 10000 → slots ≤ 20000 → W p l e room_1 s m #[Value.ref sb] below meth c H1 locs1 cells slots Q (F0 m 1123 ls1 []))
    {ls : Array Slot} (hl : lv_has ls 7 [(0, .ref sb)]) : W p l e room_1 s m #[Value.ref sb] below meth c s.heap [] 0 0 Q (F0 m 0 ls []) := by
  obtain ⟨hx, hb, hr, hml, hlocks, hown, htsO, hK, hE, hX, hN, hA, hsX, hbl, hbA, hst, hLn⟩ := id cx
  have hts : ∀ w ∈ wsL_law, w.before #[Value.ref sb] s = true := fun w h => htsO w (lawO_l h)
  have hP : va_P D vwCl ([] : va_W) s.heap := fun k q hq => by simp at hq
  have hD : va_D A ([] : va_W) := ⟨fun i j u v hu => by simp at hu, fun k q hq => by simp at hq⟩
  have hS : va_S A s.heap s.heap [] := va_S.rf
  refine va_new (fs := [.int 0, .null, .null, .null, .int 0]) (ci := 4) (C := RX3) (T := TX3) (N := 5) hx hb hts lawX3_l tyX3 tyX3_ok hown (hts _ (law1_l kl_8)) (hts _ (law1_l kl_z3)) (hts _ (law1_l kl_i3)) hK hP hD hS hA rfl (by decide +kernel) (Nat.le_of_ble_eq_true rfl) (Nat.le_of_ble_eq_true rfl) dL_law_0 (fun q1 H hP hD hS => ?_)
  have hP : va_P D vwCl ([] ++ [(q1, .inr (4, [.int 0, .null, .null, .null, .int 0]))]) H := hP
  refine lv_dup hx hb dL_law_3 rfl ?_
  refine lv_aload_n hx hb dL_law_4 rfl (lv_at hl 0 rfl) ?_
  refine lv_iconst (v := 0) hx hb dL_law_5 (by decide) ?_
  refine z_cell (rest := [.ref q1, .ref q1]) hx hb hml hown hts hLn hsX hbl hbA hP hD hS hA ⟨Nat.le_of_ble_eq_true rfl, Nat.le_of_ble_eq_true rfl⟩ hl.1 (Nat.le_of_ble_eq_true rfl) dL_law_6 ⟨Nat.le_of_ble_eq_true rfl, Nat.le_of_ble_eq_true rfl⟩ (fun H locs hP hS => ?_)
  refine z_backc (wr := []) (z_runI (n := 1) (As := [.int (celI Ln xs)]) (wr := []) (rest := [.ref q1]) hx hb hml hown hts hK hE hP (tX3_init l D cI cZ cJ q1 (celI Ln xs) _) gL_law_X3_init rfl rfl rfl (law1_l kl_73) (law1_l kl_i3) (law1_l kl_n3) rfl (by decide +kernel) ⟨Nat.le_of_ble_eq_true rfl, Nat.le_of_ble_eq_true rfl⟩ rfl hl.1 rfl (Nat.le_of_ble_eq_true rfl) dL_law_9 ⟨Nat.le_of_ble_eq_true rfl, Nat.le_of_ble_eq_true rfl⟩) hP hD hS hA (fun w1 H locs hp hP hD hS => ?_)
  obtain ⟨h, rfl, rfl⟩ := hp
  refine lv_astore_n (lv' := [(1, .ref (h 0)), (0, .ref sb)]) hx hb dL_law_12 rfl hl (by decide) rfl (fun ls hl => ?_)
  refine va_new (fs := [.int 0, .int 0, .int 0, .int 0, .int 0, .null, .null, .null, .null, .null, .null, .null, .int 0, .null, .null, .null, .null, .null, .null, .null, .null, .null, .int 0, .null, .null, .null, .null, .null]) (ci := 5) (C := RX4) (T := TX4) (N := 28) hx hb hts lawX4_l tyX4 tyX4_ok hown (hts _ (law1_l kl_76)) (hts _ (law1_l kl_z4)) (hts _ (law1_l kl_i4)) hK hP hD hS hA rfl (by decide +kernel) (Nat.le_of_ble_eq_true rfl) (Nat.le_of_ble_eq_true rfl) dL_law_13 (fun q2 H hP hD hS => ?_)
  refine lv_dup hx hb dL_law_16 rfl ?_
  refine lv_aload_n hx hb dL_law_17 rfl (lv_at hl 1 rfl) ?_
  refine lv_iconst (v := 0) hx hb dL_law_18 (by decide) ?_
  refine z_cell (rest := [.ref q2, .ref q2]) hx hb hml hown hts hLn hsX hbl hbA hP hD hS hA ⟨Nat.le_of_ble_eq_true rfl, Nat.le_of_ble_eq_true rfl⟩ hl.1 (Nat.le_of_ble_eq_true rfl) dL_law_19 ⟨Nat.le_of_ble_eq_true rfl, Nat.le_of_ble_eq_true rfl⟩ (fun H locs hP hS => ?_)
  refine z_backc (wr := [] ++ wX cI cZ h (lvN (celI Ln xs)) 0 0 0 0 0 (fun _ _ => 0) (fun _ _ => 0) (fun _ _ => 0) (fun _ _ => 0)) (z_runI (n := 1) (As := [.int (celI Ln xs)]) (wr := [] ++ wX cI cZ h (lvN (celI Ln xs)) 0 0 0 0 0 (fun _ _ => 0) (fun _ _ => 0) (fun _ _ => 0) (fun _ _ => 0)) (rest := [.ref q2]) hx hb hml hown hts hK hE hP (tX4_init l D cI cZ cJ q2 (celI Ln xs) _) gL_law_X4_init rfl rfl rfl (law4_l kl_78) (law1_l kl_i4) (law4_l kl_n4) rfl (by decide +kernel) ⟨Nat.le_of_ble_eq_true rfl, Nat.le_of_ble_eq_true rfl⟩ rfl hl.1 rfl (Nat.le_of_ble_eq_true rfl) dL_law_22 ⟨Nat.le_of_ble_eq_true rfl, Nat.le_of_ble_eq_true rfl⟩) hP hD hS hA (fun w1 H locs hp hP hD hS => ?_)
  obtain ⟨g, rfl, rfl⟩ := hp
  refine lv_astore_n (lv' := [(2, .ref (g 0)), (1, .ref (h 0)), (0, .ref sb)]) hx hb dL_law_25 rfl hl (by decide) rfl (fun ls hl => ?_)
  refine lv_iconst (v := 1) hx hb dL_law_26 (by decide) ?_
  refine z_newJ (n := 1) (N' := 1) hx hb (hts _ (law1_l kl_J)) hK hP hD hS hA (by decide) (by decide) (by decide) (Nat.le_of_ble_eq_true rfl) (Nat.le_of_ble_eq_true rfl) dL_law_27 (fun qo H hP hD hS => ?_)
  refine lv_astore_n (lv' := [(3, .ref qo), (2, .ref (g 0)), (1, .ref (h 0)), (0, .ref sb)]) hx hb dL_law_29 rfl hl (by decide) rfl (fun ls hl => ?_)
  refine lv_iconst (v := 1) hx hb dL_law_30 (by decide) ?_
  refine lv_istore (lv' := [(4, .int 1), (3, .ref qo), (2, .ref (g 0)), (1, .ref (h 0)), (0, .ref sb)]) hx hb dL_law_31 hl (by decide) rfl (fun ls hl => ?_)
  exact law_loop cx h g (lvN (celI Ln xs)) qo hend Ln 1 (by omega) (by omega) 0 0 0 0 0 (fun _ _ => 0) (fun _ _ => 0) (fun _ _ => 0) (fun _ _ => 0) (fun _ _ => 0) (fun _ => 0) 0 (fun _ => 0) (fun _ => 0) H locs ls _ _ (Nat.le_of_ble_eq_true rfl) (Nat.le_of_ble_eq_true rfl) (inv_0 (lvN_in _)) (lv_sub hl [4, 3, 2, 1, 0] rfl) (sw_P hP) (sw_D hD) hS
