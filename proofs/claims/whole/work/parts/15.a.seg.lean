/-! Calls on a piece of the world; methods with a table of handlers. -/
theorem sg_get {a w b : va_W} {i : Nat} {q : Nat × va_E} (h : w[i]? = some q) : (a ++ w ++ b)[a.length + i]? = some q := by
  have hl := (List.getElem?_eq_some_iff.mp h).1
  rw [List.append_assoc, List.getElem?_append_right (by omega), Nat.add_sub_cancel_left, List.getElem?_append_left hl]
  exact h
theorem sg_mem {a w b : va_W} {k : Nat} {q : Nat × va_E} (h : (a ++ w ++ b)[k]? = some q) : (k < a.length ∧ a[k]? = some q) ∨ (∃ i, k = a.length + i ∧ w[i]? = some q) ∨ (∃ i, k = a.length + w.length + i ∧ b[i]? = some q) := by
  rw [List.append_assoc] at h
  by_cases h1 : k < a.length
  · rw [List.getElem?_append_left h1] at h
    exact Or.inl ⟨h1, h⟩
  · rw [List.getElem?_append_right (by omega)] at h
    by_cases h2 : k - a.length < w.length
    · rw [List.getElem?_append_left h2] at h
      exact Or.inr (Or.inl ⟨k - a.length, by omega, h⟩)
    · rw [List.getElem?_append_right (by omega)] at h
      exact Or.inr (Or.inr ⟨k - a.length - w.length, by omega, h⟩)
theorem sg_P {D : va_G} {cl : List vw_C} {a w b : va_W} {H : Heap} (h : va_P D cl (a ++ w ++ b) H) : va_P D cl w H := fun i q hq => h _ q (sg_get hq)
theorem sg_D {A : Nat → Prop} {a w b : va_W} (h : va_D A (a ++ w ++ b)) : va_D A w :=
  ⟨fun i j u v hu hv huv => by have := h.1 _ _ u v (sg_get (a := a) (b := b) hu) (sg_get (a := a) (b := b) hv) huv; omega, fun k q hq => h.2 _ q (sg_get (a := a) (b := b) hq)⟩
theorem sg_free {A : Nat → Prop} {a w b : va_W} {H0 H : Heap} {locs : List Loc} (hD : va_D A (a ++ w ++ b)) (hS : va_S A H0 H locs) (hA : ∀ q, H0.size ≤ q → A q) : ∀ q, va_A w H.size q → A q := fun q h => by
  rcases h with ⟨k, e, h⟩ | h
  · exact (sg_D hD).2 k (q, e) h
  · exact hA q (Nat.le_trans hS.1 h)
theorem sg_join {A : Nat → Prop} {D : va_G} {cl : List vw_C} {a w b w1 : va_W} {H H1 : Heap} (hP : va_P D cl (a ++ w ++ b) H) (hD : va_D A (a ++ w ++ b)) (h1 : w1.map (·.1) = w.map (·.1)) (hk : ∀ q : Nat, q < H.size → ¬ va_A w H.size q → H1[q]? = H[q]?) (hP1 : va_P D cl w1 H1) : va_P D cl (a ++ w1 ++ b) H1 ∧ va_D A (a ++ w1 ++ b) := by
  have hl : w1.length = w.length := by have := congrArg List.length h1; simpa using this
  have apart : ∀ (k : Nat) (q : Nat × va_E), (a ++ w ++ b)[k]? = some q → (∀ i, k = a.length + i → ¬ i < w.length) → va_at D cl q H1 := by
    intro k q hq hn
    refine (hP k q hq).kept (hk q.1 ((hP k q hq).lt) fun hz => ?_)
    rcases hz with ⟨i, e, hi⟩ | hz
    · have := hD.1 k _ q (q.1, e) hq (sg_get (a := a) (b := b) hi) rfl
      exact hn i this (List.getElem?_eq_some_iff.mp hi).1
    · exact absurd ((hP k q hq).lt) (by omega)
  refine ⟨fun k q hq => ?_, zD_congr (by simp only [List.map_append, h1]) hD⟩
  rcases sg_mem hq with ⟨hk1, hq1⟩ | ⟨i, rfl, hq1⟩ | ⟨i, rfl, hq1⟩
  · exact apart k q (by rw [List.append_assoc, List.getElem?_append_left hk1]; exact hq1) (fun i hi => by omega)
  · exact hP1 i q hq1
  · refine apart (a.length + w.length + i) q ?_ (fun j hj => by omega)
    rw [List.append_assoc, List.getElem?_append_right (by omega), List.getElem?_append_right (by omega), show a.length + w.length + i - a.length - w.length = i by omega]
    exact hq1
/-- a start, an end of the law's own methods: as of those that throw -/
def zPL (D : va_G) (cI cZ cJ : ClassId) (w : va_W) (sz : Nat) (av : List Value) (sa : Nat → Nat) : Array Value → State → Prop :=
  va_Pc av (fun U => U.heap.size = sz ∧ va_P D vwCl w U.heap ∧ va_K D vwCl (zT cI cZ cJ) U ∧ zE U ∧ va_D (fun _ => True) w ∧ zX sa (va_A w sz) U U.heap ∧ zNc U)
theorem zPL.blind {D : va_G} {cI cZ cJ : ClassId} {w : va_W} {sz : Nat} {av : List Value} {sa : Nat → Nat} : FrameBlind (zPL D cI cZ cJ w sz av sa) := fun a U g mk q => by
  obtain ⟨q0, q1, qP, qK, qE, qD, qX, qN⟩ := q
  exact ⟨q0, q1, qP, va_K.moved (u := U) (U := U.calling g mk a) (Vm.Alike.refl U.vm) qK, zE.same (u := U) rfl qE, qD, zX.same (u := U) rfl qX, zNc.moved (u := U) (Vm.Alike.refl U.vm) qN⟩
def zML (l : Launch) (y : MethodName) (ws : List Cond) (rm : Room) (D : va_G) (cI cZ cJ : ClassId) (w : va_W) (sz : Nat) (av : List Value) (sa : Nat → Nat) (P : Int32 → va_W → Prop) : Prop :=
  Met l y ws rm (zPL D cI cZ cJ w sz av sa) (zQi D w P (va_A w sz)) 1 6 (va_A w sz)
theorem z_headL {l : Launch} {y : MethodName} {ws ws' : List Cond} {rm : Room} {D : va_G} {cI cZ cJ : ClassId} {w : va_W} {sz : Nat} {av : List Value} {cc : ByteArray} {maxL : Nat} {ret : Option FieldType} {sa : Nat → Nat} {P : Int32 → va_W → Prop} {hh : List (Nat × Nat × Nat × Nat)}
    (hy : plainName y.cls = true) (hw : ws = Cond.codeWith y cc maxL ret hh :: ws') (hav : (lg_sl av).length ≤ maxL)
    (body : ∀ p e s m below meth c ls A, zAt p s m meth c av cc maxL ret ws y D cI cZ cJ A → zX sa A s s.heap → zNc s → c.exceptionTable.toList = tableOf hh → va_P D vwCl w s.heap → va_D A w → va_S A s.heap s.heap [] → lv_has ls maxL (lv_args 0 av) →
      W p l e rm s m av.toArray below meth c s.heap [] 0 0 (MQ below (zQi D w P A) av.toArray s 1 6 A) (F0 m 0 ls [])) :
    zML l y ws rm D cI cZ cJ w sz av sa P := by
  refine va_MetW (cc := cc) (maxL := maxL) (ret := ret) (hh := hh) hy hw ?_
  intro p e s m args below meth c s₁ B hml hv
  obtain ⟨rfl, hsz, hP, hK, hE, hD0, hX, hN⟩ := hv
  subst hsz
  have hl := lv_entry av (n := maxL) hav
  rw [lg_entry_eq]
  generalize (lg_sl av ++ List.replicate (maxL - (lg_sl av).length) Slot.unset).toArray = ls at hl ⊢
  have hts := atoms_spec (ws := ws) B.pre
  exact body p e s m below meth c ls (va_A w s.heap.size) ⟨B.exec, B.bytes, B.returns, hml, B.notSynchronized, hts, findClass_of_methodNamed B.named, (name_of_methodNamed B.named B.method).1, hK, hE, fun q h => Or.inr h⟩ hX hN (vx_table (x := y) B (hts _ (by rw [hw]; exact List.mem_cons_self))) hP hD0.self va_S.rf hl
section ZL
variable {p : Program} {l : Launch} {e : Env} {R : Room} {s : State} {m : MethodId} {args : Array Value} {below : List Frame} {meth : Method} {c : Code} {H : Heap} {locs : List Loc} {cells slots : Nat} {Q : State → Prop}
variable {cc : ByteArray} {pc : Nat} {ls : Array Slot} {st0 rest : List Value} {D : va_G} {A : Nat → Prop} {cI cZ cJ : ClassId} {w wa wb : va_W} {H0 : Heap} {a : Array Value} {sa : Nat → Nat} {En : String} {mc ms : Nat}
theorem z_backSi {P : Int32 → va_W → Prop} (hr : va_Run p l e R s m args below meth c H locs cells slots mc ms (F0 m pc ls st0) rest (zQi D w P (va_A w H.size) a) (va_A w H.size)) (hP : va_P D vwCl (wa ++ w ++ wb) H) (hD : va_D A (wa ++ w ++ wb)) (hS : va_S A H0 H locs) (hA : ∀ q, H0.size ≤ q → A q)
    (kk : ∀ (r : Int32) (w1 : va_W) (H1 : Heap) (locs1 : List Loc), P r w1 → va_P D vwCl (wa ++ w1 ++ wb) H1 → va_D A (wa ++ w1 ++ wb) → va_S A H0 H1 locs1 → W p l e R s m args below meth c H1 locs1 (cells + mc) (slots + ms) Q (F0 m (pc + 3) ls (.int r :: rest))) : W p l e R s m args below meth c H locs cells slots Q (F0 m pc ls st0) := by
  have hFc := sg_free hD hS hA
  refine va_calli hr hS (fun q _ h => hFc q h) hFc (fun r w1 t H1 locs1 ht _ hpost hB _ hk hS1 => ?_)
  obtain ⟨j1, j2⟩ := sg_join hP hD hpost.2 hk (show va_P D vwCl w1 H1 by rw [← ht]; exact hB)
  exact kk r w1 H1 locs1 hpost.1 j1 j2 hS1
theorem z_backSv {P : va_W → Prop} (hr : va_Run p l e R s m args below meth c H locs cells slots mc ms (F0 m pc ls st0) rest (zQv D w P (va_A w H.size) a) (va_A w H.size)) (hP : va_P D vwCl (wa ++ w ++ wb) H) (hD : va_D A (wa ++ w ++ wb)) (hS : va_S A H0 H locs) (hA : ∀ q, H0.size ≤ q → A q)
    (kk : ∀ (w1 : va_W) (H1 : Heap) (locs1 : List Loc), P w1 → va_P D vwCl (wa ++ w1 ++ wb) H1 → va_D A (wa ++ w1 ++ wb) → va_S A H0 H1 locs1 → W p l e R s m args below meth c H1 locs1 (cells + mc) (slots + ms) Q (F0 m (pc + 3) ls rest)) : W p l e R s m args below meth c H locs cells slots Q (F0 m pc ls st0) := by
  have hFc := sg_free hD hS hA
  refine va_callv hr hS (fun q _ h => hFc q h) hFc (fun w1 t H1 locs1 ht _ hpost hB _ hk hS1 => ?_)
  obtain ⟨j1, j2⟩ := sg_join hP hD hpost.2 hk (show va_P D vwCl w1 H1 by rw [← ht]; exact hB)
  exact kk w1 H1 locs1 hpost.1 j1 j2 hS1
theorem z_backSX (hr : vx_Run p l e R s m args below meth c H locs cells slots mc ms (F0 m pc ls st0) rest (zNoQ a) (zXC D w En (va_A w H.size)) (va_A w H.size)) (hP : va_P D vwCl (wa ++ w ++ wb) H) (hD : va_D A (wa ++ w ++ wb)) (hS : va_S A H0 H locs) (hA : ∀ q, H0.size ≤ q → A q)
    (kx : ∀ (ce : Cell) (q9 : Addr) (H1 : Heap) (locs1 : List Loc), va_P D vwCl (wa ++ w ++ wb) H1 → va_S A H0 H1 locs1 → H1[q9]? = some ce → ce.vm = .none → s.vm.findClass En = some ce.cls → vx_W p l e R s m args below meth c H1 locs1 (cells + mc) (slots + ms) Q (F0 m pc ls rest) q9) : W p l e R s m args below meth c H locs cells slots Q (F0 m pc ls st0) := by
  have hFc := sg_free hD hS hA
  intro T hT X
  rcases hr T hT X with ⟨v, st₀, t, T', L, h0, X', hL, e1, e2, hq, st⟩ | ⟨q, st₀, t, T', L, E, ce, h0, X', hL, e1, e2, ⟨rfl, hPt, hF⟩, hce, hcv, hcl, st⟩
  · exact hq.elim
  · obtain ⟨k1, k2, k3⟩ := vx_keep h0 e1 hS (fun q _ h => hFc q h) hFc hL hF
    obtain ⟨j1, j2⟩ := sg_join hP hD rfl k2 (show va_P D vwCl w T'.heap by rw [e1]; exact hPt)
    obtain ⟨t2, a1, b1⟩ := kx ce q T'.heap (locs ++ L) j1 k3 (by rw [e1]; exact hce) hcv hcl T' rfl X'
    exact ⟨t2, st.trans a1, b1⟩
variable {y : MethodName} {ws ws' Ts : List Cond} {rm : Room} {bytes : ByteArray} {maxL nL index n ci N : Nat} {ret : Option FieldType} {own C : String} {b : Addr} {As : List Value} {T : u_T} {fs : List Value} {Qc : Array Value → State → Outcome → State → Prop} {XC : String → State → State → Prop} {free : Addr → Prop} {hh : List (Nat × Nat × Nat × Nat)}
theorem z_runVS (hx : p.tables.exec = Jvm.exec) (hb : c.code = cc) (hml : c.maxLocals = nL) (hown : s.vm.findClass own = some m.cls) (hts : ∀ w ∈ Ts, w.before args s = true) (hK : va_K D vwCl (zT cI cZ cJ) s) (hE : zE s)
    (hP : va_P D vwCl (wa ++ w ++ wb) H) (hD : va_D A (wa ++ w ++ wb))
    (hM : Met l y ws rm (zP D cI cZ cJ w H.size (.ref b :: As)) Qc 0 0 free) (hG : GoodIn Ts (wsV own index C y ws)) (hw : ws = Cond.code y bytes maxL ret :: ws') (hrc : rm.cells = 0) (hrs : rm.slots = 0)
    (hd : y.cls = C ∧ y.cls ≠ "java/lang/invoke/MethodHandle" ∧ y.cls ≠ "java/lang/invoke/VarHandle" ∧ (parseMethodDescriptor y.desc).map (fun d => d.parameters.length) = some n) (hR : rm.frames + 1 ≤ R.frames ∧ 8 + (maxL + 11) + rm.locals ≤ R.locals)
    (hci : vwCl[ci]? = some (C, T, N)) (hq0 : w[0]? = some (b, .inr (ci, fs))) (hn : As.length = n) (hls : ls.size = nL) (hst : st0 = As.reverse ++ .ref b :: rest) (hW : (rest.map fun v => v.category).sum ≤ 8) (hdg : decode cc pc = .ok (.invokevirtual index, 3)) (hf : cells ≤ R.cells ∧ slots ≤ R.slots) :
    va_Run p l e R s m args below meth c H locs cells slots 0 0 (F0 m pc ls st0) rest (Qc (Value.ref b :: As).toArray) free :=
  va_runV (As := As) ⟨hx, hb, hml, hown, hts⟩ hM (cwV n hts hG hw hrc hrs hd hR) ⟨zP.blind, va_recv hK (sg_P hP) hci hq0, z_pre hK hE (sg_P hP) (sg_D hD) (.ref b :: As)⟩ rfl hn hls hst (lv_room hW) hdg hf
theorem z_runVXS (hx : p.tables.exec = Jvm.exec) (hb : c.code = cc) (hml : c.maxLocals = nL) (hown : s.vm.findClass own = some m.cls) (hts : ∀ w ∈ Ts, w.before args s = true) (hK : va_K D vwCl (zT cI cZ cJ) s) (hE : zE s) (hX : zX sa A s H0) (hS : va_S A H0 H locs) (hA : ∀ q, H0.size ≤ q → A q)
    (hP : va_P D vwCl (wa ++ w ++ wb) H) (hD : va_D A (wa ++ w ++ wb))
    (hM : vx_Met l y ws rm (zPX D cI cZ cJ w H.size (.ref b :: As) sa) Qc XC 1 6 free) (hG : GoodIn Ts (wsV own index C y ws)) (hw : ws = Cond.code y bytes maxL ret :: ws') (hrc : rm.cells = 1) (hrs : rm.slots = 6)
    (hd : y.cls = C ∧ y.cls ≠ "java/lang/invoke/MethodHandle" ∧ y.cls ≠ "java/lang/invoke/VarHandle" ∧ (parseMethodDescriptor y.desc).map (fun d => d.parameters.length) = some n) (hR : rm.frames + 1 ≤ R.frames ∧ 8 + (maxL + 11) + rm.locals ≤ R.locals)
    (hci : vwCl[ci]? = some (C, T, N)) (hq0 : w[0]? = some (b, .inr (ci, fs))) (hn : As.length = n) (hls : ls.size = nL) (hst : st0 = As.reverse ++ .ref b :: rest) (hW : (rest.map fun v => v.category).sum ≤ 8) (hdg : decode cc pc = .ok (.invokevirtual index, 3)) (hf : cells + 1 ≤ R.cells ∧ slots + 6 ≤ R.slots) :
    vx_Run p l e R s m args below meth c H locs cells slots 1 6 (F0 m pc ls st0) rest (Qc (Value.ref b :: As).toArray) XC free :=
  vx_runV (As := As) ⟨hx, hb, hml, hown, hts⟩ hM (cwV n hts hG hw hrc hrs hd hR) ⟨zPX.blind, va_recv hK (sg_P hP) hci hq0, z_preX hK hE hX hS (sg_free hD hS hA) (sg_P hP) (sg_D hD) (.ref b :: As)⟩ rfl hn hls hst (lv_room hW) hdg hf
/-- a call of one of the law's own methods with handlers -/
theorem z_runSL (hx : p.tables.exec = Jvm.exec) (hb : c.code = cc) (hml : c.maxLocals = nL) (hown : s.vm.findClass own = some m.cls) (hts : ∀ w ∈ Ts, w.before args s = true) (hK : va_K D vwCl (zT cI cZ cJ) s) (hE : zE s) (hX : zX sa A s H0) (hN : zNc s) (hS : va_S A H0 H locs) (hA : ∀ q, H0.size ≤ q → A q)
    (hP : va_P D vwCl (wa ++ w ++ wb) H) (hD : va_D A (wa ++ w ++ wb))
    (hM : Met l y ws rm (zPL D cI cZ cJ w H.size As sa) Qc 1 6 free) (hG : GoodIn Ts (va_wsS own index y ws)) (hw : ws = Cond.codeWith y bytes maxL ret hh :: ws') (hrc : rm.cells = 1) (hrs : rm.slots = 6)
    (hd : y.cls ≠ "java/lang/invoke/MethodHandle" ∧ y.cls ≠ "java/lang/invoke/VarHandle" ∧ (parseMethodDescriptor y.desc).map (fun d => d.parameters.length) = some n) (hR : rm.frames + 1 ≤ R.frames ∧ 8 + (maxL + 11) + rm.locals ≤ R.locals)
    (hn : As.length = n) (hls : ls.size = nL) (hst : st0 = As.reverse ++ rest) (hW : (rest.map fun v => v.category).sum ≤ 8) (hdg : decode cc pc = .ok (.invokestatic index, 3)) (hf : cells + 1 ≤ R.cells ∧ slots + 6 ≤ R.slots) :
    va_Run p l e R s m args below meth c H locs cells slots 1 6 (F0 m pc ls st0) rest (Qc As.toArray) free :=
  vx_runSW (As := As) ⟨hx, hb, hml, hown, hts⟩ hM (vx_cwSW n hts hG hw hrc hrs hd hR) ⟨zPL.blind, fun U hU hW => ⟨rfl, by rw [hU], by rw [hU]; exact sg_P hP, va_K.moved hW.alike hK, hE.warm hW, (sg_D hD).weaken (fun _ _ _ _ => trivial), by rw [hU]; exact hX.to hW hS.2.1 (sg_free hD hS hA), zNc.moved hW.alike hN⟩⟩ rfl hn hls hst (lv_room hW) hdg hf
/-- out[0] = x -/
theorem z_last0 (hx : p.tables.exec = Jvm.exec) (hb : c.code = cc) (hK : va_K D vwCl (zT cI cZ cJ) s) (hP : va_P D vwCl w H) (hD : va_D A w) (hS : va_S A H0 H locs) (q0 : Nat) {q : Nat} {f : Nat → Int64} {x : Int64} (ha : w[q0]? = some (q, .inl (cJ, 1, .inr (.inl f)))) (hdg : decode cc pc = .ok (.lastore, 1))
    (kk : ∀ (H1 : Heap) (locs1 : List Loc), va_P D vwCl (w.set q0 (q, .inl (cJ, 1, .inr (.inl (vp_updL f 0 x))))) H1 → va_D A (w.set q0 (q, .inl (cJ, 1, .inr (.inl (vp_updL f 0 x))))) → va_S A H0 H1 locs1 → W p l e R s m args below meth c H1 locs1 cells slots Q (F0 m (pc + 1) ls rest)) : W p l e R s m args below meth c H locs cells slots Q (F0 m pc ls (.long x :: .int 0 :: .ref q :: rest)) := by
  refine va_last hx hb hK hP hD hS q0 2 ha rfl (by unfold vp_in; decide) hdg ?_
  exact kk
theorem z_lald0 (hx : p.tables.exec = Jvm.exec) (hb : c.code = cc) (hK : va_K D vwCl (zT cI cZ cJ) s) (hP : va_P D vwCl w H) (q0 : Nat) {q : Nat} {f : Nat → Int64} (ha : w[q0]? = some (q, .inl (cJ, 1, .inr (.inl f)))) (hdg : decode cc pc = .ok (.laload, 1))
    (kk : W p l e R s m args below meth c H locs cells slots Q (F0 m (pc + 1) ls (.long (f 0) :: rest))) : W p l e R s m args below meth c H locs cells slots Q (F0 m pc ls (.int 0 :: .ref q :: rest)) :=
  va_lald hx hb hK hP q0 2 ha rfl (by unfold vp_in; decide) hdg kk
/-- caught by the first handler, by the second -/
theorem z_catch1 {own nm : String} {ce : Cell} {q9 : Addr} {hh : List (Nat × Nat × Nat × Nat)} {x1 : Nat × Nat × Nat × Nat} {rh : List (Nat × Nat × Nat × Nat)} (hT : c.exceptionTable.toList = tableOf hh) (hhe : hh = x1 :: rh) (hown : s.vm.findClass own = some m.cls) (hts : ∀ w ∈ Ts, w.before args s = true) (hcv : (decide (x1.1 ≤ pc) && decide (pc < x1.2.1)) = true) (h0 : x1.2.2.2 ≠ 0)
    (hlink : Cond.classLink own x1.2.2.2 nm ∈ Ts) (hX : zX sa A s H0) (hcast : Cond.castable nm nm ∈ zBad) (hcell : H[q9]? = some ce) (hv : ce.vm = .none) (hcl : s.vm.findClass nm = some ce.cls)
    (kk : W p l e R s m args below meth c H locs cells slots Q (F0 m x1.2.2.1 ls [.ref q9])) : vx_W p l e R s m args below meth c H locs cells slots Q (F0 m pc ls rest) q9 :=
  vx_catch (E := nm) (name := nm) hown [] ⟨x1.1, x1.2.1, x1.2.2.1, x1.2.2.2⟩ (tableOf rh) (by rw [hT, hhe]; rfl) (fun z h => by simp at h) hcv h0 (hts _ hlink) (va_Nw.use rfl (hX.1 _ hcast)) hcell hv hcl kk
theorem z_catch2 {own nm nm1 : String} {ce : Cell} {q9 : Addr} {hh : List (Nat × Nat × Nat × Nat)} {x1 x2 : Nat × Nat × Nat × Nat} {rh : List (Nat × Nat × Nat × Nat)} (hT : c.exceptionTable.toList = tableOf hh) (hhe : hh = x1 :: x2 :: rh) (hown : s.vm.findClass own = some m.cls) (hts : ∀ w ∈ Ts, w.before args s = true) (hcv : (decide (x2.1 ≤ pc) && decide (pc < x2.2.1)) = true) (h0 : x2.2.2.2 ≠ 0) (h01 : x1.2.2.2 ≠ 0)
    (hlink1 : Cond.classLink own x1.2.2.2 nm1 ∈ Ts) (hlink : Cond.classLink own x2.2.2.2 nm ∈ Ts) (hX : zX sa A s H0) (hN : zNc s) (hno : (nm, nm1) ∈ zNot) (hcast : Cond.castable nm nm ∈ zBad) (hcell : H[q9]? = some ce) (hv : ce.vm = .none) (hcl : s.vm.findClass nm = some ce.cls)
    (kk : W p l e R s m args below meth c H locs cells slots Q (F0 m x2.2.2.1 ls [.ref q9])) : vx_W p l e R s m args below meth c H locs cells slots Q (F0 m pc ls rest) q9 :=
  vx_catch (E := nm) (name := nm) hown [⟨x1.1, x1.2.1, x1.2.2.1, x1.2.2.2⟩] ⟨x2.1, x2.2.1, x2.2.2.1, x2.2.2.2⟩ (tableOf rh) (by rw [hT, hhe]; rfl) (fun z h => by
    cases List.mem_singleton.mp h
    exact Or.inr ⟨h01, nm1, hts _ hlink1, hN _ hno⟩) hcv h0 (hts _ hlink) (va_Nw.use rfl (hX.1 _ hcast)) hcell hv hcl kk
end ZL
abbrev wV (cI cZ cJ : ClassId) (h : Nat → Nat) (lev tm : Nat) (gn : Int32) (nL nC nE : Nat) (L B C E : Nat → Nat → Int32) (q : Nat) (o : Nat → Int64) : va_W := wX cI cZ h lev tm gn nL nC nE L B C E ++ [(q, .inl (cJ, 1, .inr (.inl o)))]
