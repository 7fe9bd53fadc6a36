/-! Methods that throw: their start, their end, rows. -/
abbrev zIA : String := "java/lang/IllegalArgumentException"
abbrev zIS : String := "java/lang/IllegalStateException"
abbrev zUO : String := "java/lang/UnsupportedOperationException"
abbrev zAO : String := "java/lang/ArrayIndexOutOfBoundsException"
abbrev zRE : List String := ["java/lang/RuntimeException", "java/lang/Exception"]
abbrev zIRE : List String := ["java/lang/IndexOutOfBoundsException", "java/lang/RuntimeException", "java/lang/Exception"]
/-- words of throws that aren't kept by lists -/
def zBad : List Cond := [.declares (Bundle.initS "java/lang/RuntimeException"), .declares (Bundle.initS "java/lang/Exception"), .declares (Bundle.initS Bundle.tN), .declares (Bundle.initS "java/lang/IndexOutOfBoundsException"),
  .castable zIA zIA, .castable zIS zIS, .castable zUO zUO, .castable zNN zNN, .castable zAO zAO]
def zIsB : Cond → Bool
  | .declares _ => true
  | .castable _ _ => true
  | _ => false
theorem zBad_k : zBad.all zIsB = true := by decide +kernel
def zStr : List (Nat × String) := [(55, "no room for another lift"), (65, "from a level to itself"), (69, "no room for another call"), (87, "no such event"), (104, "no such lift among those that there may be"), (147, "the door is shut"), (180, "one of them is not waiting"), (204, "a number outside its range"), (206, "it is so"), (208, "no such lift"), (210, "no such call")]
def zNot : List (String × String) := [(zUO, zIA), (zIA, zNN), (zAO, zNN), (zIS, zNN)]
/-- what a throw asks of the state -/
def zX (sa : Nat → Nat) (A : Nat → Prop) (U : State) (H : Heap) : Prop := (∀ w ∈ zBad, va_Nw w U) ∧ (∀ x ∈ zStr, vk_R "LiftRows2" x.1 x.2 (sa x.1) U) ∧ vx_Zq Bundle.tN "UNASSIGNED_STACK" Bundle.steD A U H ∧ vx_Zq Bundle.tN "SUPPRESSED_SENTINEL" Bundle.listD A U H
def zNc (U : State) : Prop := ∀ x ∈ zNot, va_Nc x.1 x.2 U
theorem zNc.moved {u U : State} (hvm : u.vm.Alike U.vm) (h : zNc u) : zNc U := fun x hx => va_Nc.moved hvm (h x hx)
theorem zX.to {sa : Nat → Nat} {A B : Nat → Prop} {s U : State} {H H1 : Heap} (h : zX sa A s H) (hW : s.WarmedH U.vm) (hq : ∀ a : Nat, a < H.size → ¬ A a → H1[a]? = H[a]?) (hAB : ∀ q, B q → A q) : zX sa B U H1 := by
  obtain ⟨h1, h2, h3, h4⟩ := h
  refine ⟨fun w hw => ?_, fun x hx => vk_R.warm hW (h2 x hx), vx_Zq.moved hW.alike ((h3.kept hq).narrow hAB), vx_Zq.moved hW.alike ((h4.kept hq).narrow hAB)⟩
  have hk := List.all_eq_true.mp zBad_k w hw
  have h9 := h1 w hw
  cases w <;> first | (simp [zIsB] at hk; done) | exact va_Nw.warmD hW h9 | exact va_Nw.warmC hW h9
theorem zX.same {sa : Nat → Nat} {A : Nat → Prop} {u U : State} {H : Heap} (hv : u.vm = U.vm) (h : zX sa A u H) : zX sa A U H := by
  obtain ⟨h1, h2, h3, h4⟩ := h
  have hal : u.vm.Alike U.vm := by rw [hv]; exact Vm.Alike.refl _
  refine ⟨fun w hw => ?_, fun x hx => vk_R.same hv.symm (h2 x hx), vx_Zq.moved hal h3, vx_Zq.moved hal h4⟩
  have hk := List.all_eq_true.mp zBad_k w hw
  have h9 := h1 w hw
  cases w <;> first | (simp [zIsB] at hk; done) | exact va_Nw.same rfl hv h9
def zPX (D : va_G) (cI cZ cJ : ClassId) (w : va_W) (sz : Nat) (av : List Value) (sa : Nat → Nat) : Array Value → State → Prop :=
  va_Pc av (fun U => U.heap.size = sz ∧ va_P D vwCl w U.heap ∧ va_K D vwCl (zT cI cZ cJ) U ∧ zE U ∧ va_D (fun _ => True) w ∧ zX sa (va_A w sz) U U.heap)
theorem zPX.blind {D : va_G} {cI cZ cJ : ClassId} {w : va_W} {sz : Nat} {av : List Value} {sa : Nat → Nat} : FrameBlind (zPX D cI cZ cJ w sz av sa) := fun a U g mk q => by
  obtain ⟨q0, q1, qP, qK, qE, qD, qX⟩ := q
  exact ⟨q0, q1, qP, va_K.moved (u := U) (U := U.calling g mk a) (Vm.Alike.refl U.vm) qK, zE.same (u := U) rfl qE, qD, zX.same (u := U) rfl qX⟩
/-- En was thrown, the world is as it was -/
def zXC (D : va_G) (w : va_W) (En : String) (A : Nat → Prop) : String → State → State → Prop := fun E st t => E = En ∧ va_P D vwCl w t.heap ∧ va_F A st t
def zNoQ : Array Value → State → Outcome → State → Prop := fun _ _ _ _ => False
def zMX (l : Launch) (y : MethodName) (ws : List Cond) (rm : Room) (D : va_G) (cI cZ cJ : ClassId) (w : va_W) (sz : Nat) (av : List Value) (sa : Nat → Nat) (En : String) : Prop :=
  vx_Met l y ws rm (zPX D cI cZ cJ w sz av sa) zNoQ (zXC D w En (va_A w sz)) 1 6 (va_A w sz)
theorem z_headX {l : Launch} {y : MethodName} {ws ws' : List Cond} {rm : Room} {D : va_G} {cI cZ cJ : ClassId} {w : va_W} {sz : Nat} {av : List Value} {cc : ByteArray} {maxL : Nat} {ret : Option FieldType} {sa : Nat → Nat} {En : String}
    (hy : plainName y.cls = true) (hw : ws = Cond.code y cc maxL ret :: ws') (hav : (lg_sl av).length ≤ maxL)
    (body : ∀ p e s m below meth c ls A, zAt p s m meth c av cc maxL ret ws y D cI cZ cJ A → zX sa A s s.heap → (∀ x ∈ c.exceptionTable.toList, False) → va_P D vwCl w s.heap → va_D A w → va_S A s.heap s.heap [] → lv_has ls maxL (lv_args 0 av) →
      W p l e rm s m av.toArray below meth c s.heap [] 0 0 (vx_MQ below zNoQ (zXC D w En A) av.toArray s 1 6 A) (F0 m 0 ls [])) :
    zMX l y ws rm D cI cZ cJ w sz av sa En := by
  refine vx_ofW (cc := cc) (maxL := maxL) (ret := ret) hy hw ?_
  intro p e s m args below meth c s₁ B hml hT hv
  obtain ⟨rfl, hsz, hP, hK, hE, hD0, hX⟩ := hv
  subst hsz
  have hl := lv_entry av (n := maxL) hav
  rw [lg_entry_eq]
  generalize (lg_sl av ++ List.replicate (maxL - (lg_sl av).length) Slot.unset).toArray = ls at hl ⊢
  exact body p e s m below meth c ls (va_A w s.heap.size) ⟨B.exec, B.bytes, B.returns, hml, B.notSynchronized, atoms_spec (ws := ws) B.pre, findClass_of_methodNamed B.named, (name_of_methodNamed B.named B.method).1, hK, hE, fun q h => Or.inr h⟩ hX hT hP hD0.self va_S.rf hl
section ZX
variable {p : Program} {l : Launch} {e : Env} {R : Room} {s : State} {m : MethodId} {args : Array Value} {below : List Frame} {meth : Method} {c : Code} {H : Heap} {locs : List Loc} {cells slots : Nat} {Q : State → Prop}
variable {cc : ByteArray} {pc : Nat} {ls : Array Slot} {st0 rest : List Value} {D : va_G} {A : Nat → Prop} {cI cZ cJ : ClassId} {w wc : va_W} {H0 : Heap} {a : Array Value} {sa : Nat → Nat} {En : String}
theorem zXC_of (hP : va_P D vwCl w H) (hS : va_S A s.heap H locs) {t : State} (h1 : H.size ≤ t.heap.size) (h2 : ∀ q : Nat, q < H.size → t.heap[q]? = H[q]?) : zXC D w En A En s t :=
  ⟨rfl, hP.kept (fun k q hk => h2 q.1 ((hP k q hk).lt)), Nat.le_trans hS.1 h1, fun q hq hn => (h2 q (Nat.lt_of_lt_of_le hq hS.1)).trans (hS.2.1 q hq hn)⟩
/-- throw new E("text"), E's constructor as most are -/
theorem z_thrS {Ts : List Cond} {cls text : String} {names : List String} {ik is ic : Nat} (hcls : Bundle.fit cls = true) (hnames : ∀ n ∈ names, Bundle.fit n = true) (hgood : ∀ w ∈ Cond.classLink RX3 ik cls :: Cond.initialized cls :: vx_atS RX3 ic cls names, vx_ot w = true) (hbad : ∀ w ∈ (vx_atS RX3 ic cls names).filter (fun w => !goodWord w), w ∈ zBad)
    (hx : p.tables.exec = Jvm.exec) (hb : c.code = cc) (hl9 : l.stackTraces = false) (hown : s.vm.findClass RX3 = some m.cls) (hts : ∀ w ∈ Ts, w.before args s = true) (hk : Cond.classLink RX3 ik cls ∈ Ts) (hini : Cond.initialized cls ∈ Ts) (hw : ∀ w ∈ (vx_atS RX3 ic cls names).filter goodWord, w ∈ Ts)
    (hX : zX sa A s s.heap) (hstr : (is, text) ∈ zStr) (hT : ∀ x ∈ c.exceptionTable.toList, False) (hP : va_P D vwCl w H) (hS : va_S A s.heap H locs) (hsize : ls.size = c.maxLocals)
    (d0 : decode cc pc = .ok (.new ik, 3)) (d3 : decode cc (pc + 3) = .ok (.dup, 1)) (d4 : decode cc (pc + 4) = .ok (.ldc is, 2)) (d6 : decode cc (pc + 6) = .ok (.invokespecial ic, 3)) (d9 : decode cc (pc + 9) = .ok (.athrow, 1))
    (hRframes : names.length + 3 < R.frames) (hRlocals : (rest.map fun v => v.category).sum + (13 * (names.length + 1) + 43) ≤ R.locals) (hRc : cells + 1 ≤ R.cells ∧ slots + 6 ≤ R.slots) (hlocks : meth.locks = false) (hc : cells + 1 ≤ 1 ∧ slots + 6 ≤ 6) :
    W p l e R s m args below meth c H locs cells slots (vx_MQ below zNoQ (zXC D w cls A) args s 1 6 A) (F0 m pc ls rest) := by
  refine vx_throwS (text := text) (sa := sa is) hx hb hl9 hown hcls hnames (hts _ hk) (hts _ hini) (hX.2.1 (is, text) hstr) ?_ hgood hX.2.2.1 hX.2.2.2 hS hsize d0 d3 d4 d6 d9 (fun x hx => (hT x hx).elim) hRframes hRlocals hRc.1 hRc.2 hlocks (fun t _ h1 h2 => zXC_of hP hS h1 h2) hS.2.2 hc.1 hc.2
  refine vx_hat (B := zBad) (fun w h => hts w (hw w h)) hbad (fun w hw => ?_)
  have hk := List.all_eq_true.mp zBad_k w hw
  have h9 := hX.1 w hw
  cases w <;> first | (simp [zIsB] at hk; done) | exact va_Nw.use rfl h9
theorem zN_good : ∀ w ∈ Cond.classLink "LiftRows2" 85 zNN :: Cond.initialized zNN :: zAtN, vx_ot w = true := by decide +kernel
theorem zN_bad : ∀ w ∈ zAtN.filter (fun w => !goodWord w), w ∈ zBad := by decide +kernel
theorem z_thrN {Ts : List Cond} {text : String} {is : Nat}
    (hx : p.tables.exec = Jvm.exec) (hb : c.code = cc) (hl9 : l.stackTraces = false) (hown : s.vm.findClass RX3 = some m.cls) (hts : ∀ w ∈ Ts, w.before args s = true) (hk : Cond.classLink RX3 85 zNN ∈ Ts) (hini : Cond.initialized zNN ∈ Ts) (hw : ∀ w ∈ zAtN.filter goodWord, w ∈ Ts)
    (hX : zX sa A s s.heap) (hstr : (is, text) ∈ zStr) (hT : ∀ x ∈ c.exceptionTable.toList, False) (hP : va_P D vwCl w H) (hS : va_S A s.heap H locs) (hsize : ls.size = c.maxLocals)
    (d0 : decode cc pc = .ok (.new 85, 3)) (d3 : decode cc (pc + 3) = .ok (.dup, 1)) (d4 : decode cc (pc + 4) = .ok (.ldc is, 2)) (d6 : decode cc (pc + 6) = .ok (.invokespecial 89, 3)) (d9 : decode cc (pc + 9) = .ok (.athrow, 1))
    (hRframes : 5 < R.frames) (hRlocals : (rest.map fun v => v.category).sum + 82 ≤ R.locals) (hRc : cells + 1 ≤ R.cells ∧ slots + 6 ≤ R.slots) (hlocks : meth.locks = false) (hc : cells + 1 ≤ 1 ∧ slots + 6 ≤ 6) :
    W p l e R s m args below meth c H locs cells slots (vx_MQ below zNoQ (zXC D w zNN A) args s 1 6 A) (F0 m pc ls rest) := by
  refine z_throwN (text := text) (sa := sa is) hx hb hl9 hown (hts _ hk) (hts _ hini) (hX.2.1 (is, text) hstr) ?_ zN_good hX.2.2.1 hX.2.2.2 hS hsize d0 d3 d4 d6 d9 (fun x hx => (hT x hx).elim) hRframes hRlocals hRc.1 hRc.2 hlocks (fun t _ h1 h2 => zXC_of hP hS h1 h2) hS.2.2 hc.1 hc.2
  refine vx_hat (B := zBad) (fun w h => hts w (hw w h)) zN_bad (fun w hw => ?_)
  have hk := List.all_eq_true.mp zBad_k w hw
  have h9 := hX.1 w hw
  cases w <;> first | (simp [zIsB] at hk; done) | exact va_Nw.use rfl h9
/-- behind a call that throws -/
theorem z_backX {mc ms : Nat} (hr : vx_Run p l e R s m args below meth c H locs cells slots mc ms (F0 m pc ls st0) rest (zNoQ a) (zXC D wc En (va_A wc H.size)) (va_A wc H.size)) (hP : va_P D vwCl w H) (hD : va_D A w) (hS : va_S A H0 H locs) (hA : ∀ q, H0.size ≤ q → A q) (isC : List Nat) (hC : isC.map (fun i => w[i]?) = wc.map some) (hput : zput w isC wc = w)
    (kx : ∀ (ce : Cell) (q9 : Addr) (H1 : Heap) (locs1 : List Loc), va_P D vwCl w H1 → va_S A H0 H1 locs1 → H1[q9]? = some ce → ce.vm = .none → s.vm.findClass En = some ce.cls → vx_W p l e R s m args below meth c H1 locs1 (cells + mc) (slots + ms) Q (F0 m pc ls rest) q9) : W p l e R s m args below meth c H locs cells slots Q (F0 m pc ls st0) := by
  have hFc := va_free (wc := wc) hD hS hA isC hC
  intro T hT X
  rcases hr T hT X with ⟨v, st₀, t, T', L, h0, X', hL, e1, e2, hq, st⟩ | ⟨q, st₀, t, T', L, E, ce, h0, X', hL, e1, e2, ⟨rfl, hPt, hF⟩, hce, hcv, hcl, st⟩
  · exact hq.elim
  · obtain ⟨k1, k2, k3⟩ := vx_keep h0 e1 hS (fun q _ h => hFc q h) hFc hL hF
    have hP1 : va_P D vwCl wc T'.heap := by rw [e1]; exact hPt
    obtain ⟨j1, j2⟩ := zjoin hP hD isC hC rfl k2 hP1
    rw [hput] at j1
    obtain ⟨t2, a1, b1⟩ := kx ce q T'.heap (locs ++ L) j1 k3 (by rw [e1]; exact hce) hcv hcl T' rfl X'
    exact ⟨t2, st.trans a1, b1⟩
theorem z_backXA {mc ms : Nat} (hr : vx_Run p l e R s m args below meth c H locs cells slots mc ms (F0 m pc ls st0) rest (zNoQ a) (zXC D w En (va_A w H.size)) (va_A w H.size)) (hD : va_D A w) (hS : va_S A H0 H locs) (hA : ∀ q, H0.size ≤ q → A q)
    (kx : ∀ (ce : Cell) (q9 : Addr) (H1 : Heap) (locs1 : List Loc), va_P D vwCl w H1 → va_S A H0 H1 locs1 → H1[q9]? = some ce → ce.vm = .none → s.vm.findClass En = some ce.cls → vx_W p l e R s m args below meth c H1 locs1 (cells + mc) (slots + ms) Q (F0 m pc ls rest) q9) : W p l e R s m args below meth c H locs cells slots Q (F0 m pc ls st0) := by
  have hFc : ∀ q, va_A w H.size q → A q := fun q h => by
    rcases h with ⟨k, e, h⟩ | h
    · exact hD.2 k (q, e) h
    · exact hA q (Nat.le_trans hS.1 h)
  intro T hT X
  rcases hr T hT X with ⟨v, st₀, t, T', L, h0, X', hL, e1, e2, hq, st⟩ | ⟨q, st₀, t, T', L, E, ce, h0, X', hL, e1, e2, ⟨rfl, hPt, hF⟩, hce, hcv, hcl, st⟩
  · exact hq.elim
  · obtain ⟨k1, k2, k3⟩ := vx_keep h0 e1 hS (fun q _ h => hFc q h) hFc hL hF
    obtain ⟨t2, a1, b1⟩ := kx ce q T'.heap (locs ++ L) (by rw [e1]; exact hPt) k3 (by rw [e1]; exact hce) hcv hcl T' rfl X'
    exact ⟨t2, st.trans a1, b1⟩
/-- it goes on to the caller -/
theorem z_outX {ce : Cell} {q9 : Addr} (hT : ∀ x ∈ c.exceptionTable.toList, False) (hlocks : meth.locks = false) (hP : va_P D vwCl w H) (hS : va_S A s.heap H locs) (hce : H[q9]? = some ce) (hcv : ce.vm = .none) (hcl : s.vm.findClass En = some ce.cls) (hc : cells ≤ 1 ∧ slots ≤ 6) :
    vx_W p l e R s m args below meth c H locs cells slots (vx_MQ below zNoQ (zXC D w En A) args s 1 6 A) (F0 m pc ls rest) q9 :=
  vx_out (fun x hx => (hT x hx).elim) hlocks hce hcv hcl (fun t ht _ => zXC_of hP hS (by rw [ht]; exact Nat.le_refl _) (fun q _ => by rw [ht])) hS.2.2 hc.1 hc.2
/-- what a throwing callee of ours asks of the state at the call -/
theorem z_preX (hK : va_K D vwCl (zT cI cZ cJ) s) (hE : zE s) (hX : zX sa A s H0) (hS : va_S A H0 H locs) (hFc : ∀ q, va_A wc H.size q → A q) (hPc : va_P D vwCl wc H) (hDc : va_D A wc) (As : List Value) : ∀ U : State, U.heap = H → s.WarmedH U.vm → zPX D cI cZ cJ wc H.size As sa As.toArray U :=
  fun U hU hW => ⟨rfl, by rw [hU], by rw [hU]; exact hPc, va_K.moved hW.alike hK, hE.warm hW, hDc.weaken (fun _ _ _ _ => trivial), by rw [hU]; exact hX.to hW hS.2.1 hFc⟩
variable {y : MethodName} {ws ws' Ts : List Cond} {rm : Room} {bytes : ByteArray} {maxL nL index n ci N : Nat} {ret : Option FieldType} {own C : String} {b : Addr} {As : List Value} {T : u_T} {fs : List Value} {Qc : Array Value → State → Outcome → State → Prop} {XC : String → State → State → Prop} {free : Addr → Prop}
theorem z_runVX (hx : p.tables.exec = Jvm.exec) (hb : c.code = cc) (hml : c.maxLocals = nL) (hown : s.vm.findClass own = some m.cls) (hts : ∀ w ∈ Ts, w.before args s = true) (hK : va_K D vwCl (zT cI cZ cJ) s) (hE : zE s) (hX : zX sa A s H0) (hS : va_S A H0 H locs) (hA : ∀ q, H0.size ≤ q → A q)
    (hP : va_P D vwCl w H) (hD : va_D A w)
    (hM : vx_Met l y ws rm (zPX D cI cZ cJ w H.size (.ref b :: As) sa) Qc XC 1 6 free) (hG : GoodIn Ts (wsV own index C y ws)) (hw : ws = Cond.code y bytes maxL ret :: ws') (hrc : rm.cells = 1) (hrs : rm.slots = 6)
    (hd : y.cls = C ∧ y.cls ≠ "java/lang/invoke/MethodHandle" ∧ y.cls ≠ "java/lang/invoke/VarHandle" ∧ (parseMethodDescriptor y.desc).map (fun d => d.parameters.length) = some n) (hR : rm.frames + 1 ≤ R.frames ∧ 8 + (maxL + 11) + rm.locals ≤ R.locals)
    (hci : vwCl[ci]? = some (C, T, N)) (hq0 : w[0]? = some (b, .inr (ci, fs))) (hn : As.length = n) (hls : ls.size = nL) (hst : st0 = As.reverse ++ .ref b :: rest) (hW : (rest.map fun v => v.category).sum ≤ 8) (hdg : decode cc pc = .ok (.invokevirtual index, 3)) (hf : cells + 1 ≤ R.cells ∧ slots + 6 ≤ R.slots) :
    vx_Run p l e R s m args below meth c H locs cells slots 1 6 (F0 m pc ls st0) rest (Qc (Value.ref b :: As).toArray) XC free :=
  vx_runV (As := As) ⟨hx, hb, hml, hown, hts⟩ hM (cwV n hts hG hw hrc hrs hd hR) ⟨zPX.blind, va_recv hK hP hci hq0, z_preX hK hE hX hS (fun q h => by
    rcases h with ⟨k, e, h⟩ | h
    · exact hD.2 k (q, e) h
    · exact hA q (Nat.le_trans hS.1 h)) hP hD (.ref b :: As)⟩ rfl hn hls hst (lv_room hW) hdg hf
theorem z_runSX (hx : p.tables.exec = Jvm.exec) (hb : c.code = cc) (hml : c.maxLocals = nL) (hown : s.vm.findClass own = some m.cls) (hts : ∀ w ∈ Ts, w.before args s = true) (hK : va_K D vwCl (zT cI cZ cJ) s) (hE : zE s) (hX : zX sa A s H0) (hS : va_S A H0 H locs) (hA : ∀ q, H0.size ≤ q → A q)
    (hM : vx_Met l y ws rm (zPX D cI cZ cJ [] H.size As sa) Qc XC 1 6 free) (hG : GoodIn Ts (va_wsS own index y ws)) (hw : ws = Cond.code y bytes maxL ret :: ws') (hrc : rm.cells = 1) (hrs : rm.slots = 6)
    (hd : y.cls ≠ "java/lang/invoke/MethodHandle" ∧ y.cls ≠ "java/lang/invoke/VarHandle" ∧ (parseMethodDescriptor y.desc).map (fun d => d.parameters.length) = some n) (hR : rm.frames + 1 ≤ R.frames ∧ 8 + (maxL + 11) + rm.locals ≤ R.locals)
    (hn : As.length = n) (hls : ls.size = nL) (hst : st0 = As.reverse ++ rest) (hW : (rest.map fun v => v.category).sum ≤ 8) (hdg : decode cc pc = .ok (.invokestatic index, 3)) (hf : cells + 1 ≤ R.cells ∧ slots + 6 ≤ R.slots) :
    vx_Run p l e R s m args below meth c H locs cells slots 1 6 (F0 m pc ls st0) rest (Qc As.toArray) XC free :=
  vx_runS (As := As) ⟨hx, hb, hml, hown, hts⟩ hM (va_cwS n hts hG hw hrc hrs hd hR) ⟨zPX.blind, z_preX hK hE hX hS (fun q h => by
    rcases h with ⟨k, e, h⟩ | h
    · simp at h
    · exact hA q (Nat.le_trans hS.1 h)) (fun k q h => by simp at h) ⟨fun _ _ _ _ h => by simp at h, fun _ _ h => by simp at h⟩ As⟩ rfl hn hls hst (lv_room hW) hdg hf
end ZX
abbrev zWI : List Cond := vx_atS RX3 67 zIA zRE
abbrev zWS : List Cond := vx_atS RX3 149 zIS zRE
abbrev zWU : List Cond := vx_atS RX3 57 zUO zRE
abbrev zWO : List Cond := vx_atS RX3 106 zAO zIRE
theorem zI_good : ∀ w ∈ Cond.classLink RX3 63 zIA :: Cond.initialized zIA :: zWI, vx_ot w = true := by decide +kernel
theorem zS_good : ∀ w ∈ Cond.classLink RX3 145 zIS :: Cond.initialized zIS :: zWS, vx_ot w = true := by decide +kernel
theorem zU_good : ∀ w ∈ Cond.classLink RX3 53 zUO :: Cond.initialized zUO :: zWU, vx_ot w = true := by decide +kernel
theorem zO_good : ∀ w ∈ Cond.classLink RX3 102 zAO :: Cond.initialized zAO :: zWO, vx_ot w = true := by decide +kernel
theorem zI_bad : ∀ w ∈ zWI.filter (fun w => !goodWord w), w ∈ zBad := by decide +kernel
theorem zS_bad : ∀ w ∈ zWS.filter (fun w => !goodWord w), w ∈ zBad := by decide +kernel
theorem zU_bad : ∀ w ∈ zWU.filter (fun w => !goodWord w), w ∈ zBad := by decide +kernel
theorem zO_bad : ∀ w ∈ zWO.filter (fun w => !goodWord w), w ∈ zBad := by decide +kernel
theorem inB_lt {v : Int32} {n : Nat} (hn : n < 2 ^ 30) (h0 : ¬ v < 0) (h : v < nI n) : inB v 0 (nI n - 1) = true := by
  obtain ⟨j, hj, rfl⟩ := nI_of h0
  rw [nI_ltI hj (by omega)] at h
  exact inB_ok h hn
