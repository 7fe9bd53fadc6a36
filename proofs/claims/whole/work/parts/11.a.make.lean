/-! Making objects and rows: own rows for constructors. -/
/-- a constructor's end: the world that it made, its cells apart -/
def zQc (D : va_G) (P : va_W → Prop) (A : Nat → Prop) : Array Value → State → Outcome → State → Prop := va_Qv (fun w' => P w' ∧ va_D A w') (zB D) A
def zMc (l : Launch) (y : MethodName) (ws : List Cond) (rm : Room) (D : va_G) (cI cZ cJ : ClassId) (w : va_W) (sz : Nat) (av : List Value) (mc ms : Nat) (P : va_W → Prop) : Prop :=
  Met l y ws rm (zP D cI cZ cJ w sz av) (zQc D P (va_A w sz)) mc ms (va_A w sz)
section ZM
variable {p : Program} {l : Launch} {e : Env} {R : Room} {s : State} {m : MethodId} {args : Array Value} {below : List Frame} {meth : Method} {c : Code} {H : Heap} {locs : List Loc} {cells slots : Nat} {Q : State → Prop}
variable {cc : ByteArray} {pc : Nat} {ls : Array Slot} {st0 rest : List Value} {D : va_G} {A : Nat → Prop} {cI cZ cJ : ClassId} {w wc : va_W} {H0 : Heap} {a : Array Value}
theorem z_cret {P : va_W → Prop} {w' : va_W} (hx : p.tables.exec = Jvm.exec) (hb : c.code = cc) (hr : meth.sig.returnType = none) (hlocks : meth.locks = false) (hS : va_S A s.heap H locs) (hP : va_P D vwCl w' H) (hD : va_D A w') (hdg : decode cc pc = .ok (.return_, 1)) (hp : P w') :
    W p l e R s m args below meth c H locs cells slots (MQ below (zQc D P A) args s cells slots A) (F0 m pc ls []) :=
  W.vret hx hb hr (fun t ht hW => ⟨⟨w', rfl, ⟨hp, hD⟩, by show va_P D vwCl w' t.heap; rw [ht]; exact hP⟩, hS.F ht⟩) hS.2.2 hdg hlocks
theorem zK_uni {cA cB : ClassId} {ty : FieldType} {tys : List (ClassId × FieldType)} (hK : va_K D vwCl tys s) {i j : Nat} (hi : tys[i]? = some (cA, ty)) (hj : tys[j]? = some (cB, ty)) (hty : ty = .int ∨ ty = .boolean ∨ ty = .long) : cA = cB := by
  have h1 := (hK.2 i _ hi).2
  have h2 := (hK.2 j _ hj).2
  rcases hty with rfl | rfl | rfl <;> exact Option.some.inj (h1.symm.trans h2)
theorem z_newI (hx : p.tables.exec = Jvm.exec) (hb : c.code = cc) (harr : (Cond.arrayClass .int).before args s = true) (hK : va_K D vwCl (zT cI cZ cJ) s) (hP : va_P D vwCl w H) (hD : va_D A w) (hS : va_S A H0 H locs) (hA : ∀ q, H0.size ≤ q → A q)
    {n : Int32} {N' : Nat} (hn : ¬ n < 0) (hN : n.toNatClampNeg = N') (hby : N' * componentBytes .int ≤ 536870912) (hcells : cells + 1 ≤ R.cells) (hslots : slots + N' ≤ R.slots) (hdg : decode cc pc = .ok (.newarray .int, 2))
    (kk : ∀ (q : Nat) (H1 : Heap), va_P D vwCl (w ++ [(q, .inl (cI, N', .inl (fun _ => 0)))]) H1 → va_D A (w ++ [(q, .inl (cI, N', .inl (fun _ => 0)))]) → va_S A H0 H1 locs →
      W p l e R s m args below meth c H1 locs (cells + 1) (slots + N') Q (F0 m (pc + 2) ls (.ref q :: rest))) : W p l e R s m args below meth c H locs cells slots Q (F0 m pc ls (.int n :: rest)) := by
  refine va_newa (atype := .int) (ty := .int) (a0 := (N', .inl (fun _ => 0))) hx hb harr rfl hK hP hD hS hA (fun cA => rfl) hn hN hby hcells hslots hdg (fun q cA H1 hK1 hP1 hD1 hS1 => ?_)
  obtain rfl := zK_uni hK1 (i := 0) (j := 3) (cA := cI) (cB := cA) rfl rfl (Or.inl rfl)
  exact kk q H1 hP1 hD1 hS1
theorem z_newZ (hx : p.tables.exec = Jvm.exec) (hb : c.code = cc) (harr : (Cond.arrayClass .boolean).before args s = true) (hK : va_K D vwCl (zT cI cZ cJ) s) (hP : va_P D vwCl w H) (hD : va_D A w) (hS : va_S A H0 H locs) (hA : ∀ q, H0.size ≤ q → A q)
    {n : Int32} {N' : Nat} (hn : ¬ n < 0) (hN : n.toNatClampNeg = N') (hby : N' * componentBytes .boolean ≤ 536870912) (hcells : cells + 1 ≤ R.cells) (hslots : slots + N' ≤ R.slots) (hdg : decode cc pc = .ok (.newarray .boolean, 2))
    (kk : ∀ (q : Nat) (H1 : Heap), va_P D vwCl (w ++ [(q, .inl (cZ, N', .inl (fun _ => 0)))]) H1 → va_D A (w ++ [(q, .inl (cZ, N', .inl (fun _ => 0)))]) → va_S A H0 H1 locs →
      W p l e R s m args below meth c H1 locs (cells + 1) (slots + N') Q (F0 m (pc + 2) ls (.ref q :: rest))) : W p l e R s m args below meth c H locs cells slots Q (F0 m pc ls (.int n :: rest)) := by
  refine va_newa (atype := .boolean) (ty := .boolean) (a0 := (N', .inl (fun _ => 0))) hx hb harr rfl hK hP hD hS hA (fun cA => rfl) hn hN hby hcells hslots hdg (fun q cA H1 hK1 hP1 hD1 hS1 => ?_)
  obtain rfl := zK_uni hK1 (i := 1) (j := 3) (cA := cZ) (cB := cA) rfl rfl (Or.inr (Or.inl rfl))
  exact kk q H1 hP1 hD1 hS1
theorem z_newJ (hx : p.tables.exec = Jvm.exec) (hb : c.code = cc) (harr : (Cond.arrayClass .long).before args s = true) (hK : va_K D vwCl (zT cI cZ cJ) s) (hP : va_P D vwCl w H) (hD : va_D A w) (hS : va_S A H0 H locs) (hA : ∀ q, H0.size ≤ q → A q)
    {n : Int32} {N' : Nat} (hn : ¬ n < 0) (hN : n.toNatClampNeg = N') (hby : N' * componentBytes .long ≤ 536870912) (hcells : cells + 1 ≤ R.cells) (hslots : slots + N' ≤ R.slots) (hdg : decode cc pc = .ok (.newarray .long, 2))
    (kk : ∀ (q : Nat) (H1 : Heap), va_P D vwCl (w ++ [(q, .inl (cJ, N', .inr (.inl (fun _ => 0))))]) H1 → va_D A (w ++ [(q, .inl (cJ, N', .inr (.inl (fun _ => 0))))]) → va_S A H0 H1 locs →
      W p l e R s m args below meth c H1 locs (cells + 1) (slots + N') Q (F0 m (pc + 2) ls (.ref q :: rest))) : W p l e R s m args below meth c H locs cells slots Q (F0 m pc ls (.int n :: rest)) := by
  refine va_newa (atype := .long) (ty := .long) (a0 := (N', .inr (.inl (fun _ => 0)))) hx hb harr rfl hK hP hD hS hA (fun cA => rfl) hn hN hby hcells hslots hdg (fun q cA H1 hK1 hP1 hD1 hS1 => ?_)
  obtain rfl := zK_uni hK1 (i := 2) (j := 3) (cA := cJ) (cB := cA) rfl rfl (Or.inr (Or.inr rfl))
  exact kk q H1 hP1 hD1 hS1
/-- behind a constructor's call: its object was the world's last cell -/
theorem z_backc {P : va_W → Prop} {mc ms : Nat} {x : Nat × va_E} {wr : va_W} (hr : va_Run p l e R s m args below meth c H locs cells slots mc ms (F0 m pc ls st0) rest (zQc D P (va_A [x] H.size) a) (va_A [x] H.size)) (hP : va_P D vwCl (wr ++ [x]) H) (hD : va_D A (wr ++ [x])) (hS : va_S A H0 H locs) (hA : ∀ q, H0.size ≤ q → A q)
    (kk : ∀ (w1 : va_W) (H1 : Heap) (locs1 : List Loc), P w1 → va_P D vwCl (wr ++ w1) H1 → va_D A (wr ++ w1) → va_S A H0 H1 locs1 → W p l e R s m args below meth c H1 locs1 (cells + mc) (slots + ms) Q (F0 m (pc + 3) ls rest)) : W p l e R s m args below meth c H locs cells slots Q (F0 m pc ls st0) := by
  have hC : [wr.length].map (fun i => (wr ++ [x])[i]?) = [x].map some := by simp
  have hlt : ∀ (k : Nat) (q : Nat × va_E), wr[k]? = some q → k < wr.length := fun k q h => (List.getElem?_eq_some_iff.mp h).1
  have hin : ∀ (k : Nat) (q : Nat × va_E), wr[k]? = some q → (wr ++ [x])[k]? = some q := fun k q h => by rw [List.getElem?_append_left (hlt k q h)]; exact h
  have hFc := va_free (wc := [x]) hD hS hA [wr.length] hC
  have apart : ∀ (k : Nat) (q : Nat × va_E), wr[k]? = some q → ¬ va_A [x] H.size q.1 := by
    intro k q hq h
    rcases h with ⟨k2, e2, h⟩ | h
    · have hk0 : k2 = 0 := by
        have := (List.getElem?_eq_some_iff.mp h).1
        simp at this; omega
      subst hk0
      have hx2 : x = (q.1, e2) := by simpa using h
      have := hD.1 k wr.length q x (hin k q hq) (by simp) (by rw [hx2])
      exact absurd (hlt k q hq) (by omega)
    · exact absurd ((hP k q (hin k q hq)).lt) (by omega)
  refine va_callv hr hS (fun q _ h => hFc q h) hFc (fun w1 t H1 locs1 ht _ hpost hB _ hk hS1 => ?_)
  have hP1 : va_P D vwCl w1 H1 := by rw [← ht]; exact hB
  refine kk w1 H1 locs1 hpost.1 (va_P.app (fun k q hq => ?_) hP1) (va_D.app ⟨fun i j u v hu hv huv => hD.1 i j u v (hin i u hu) (hin j v hv) huv, fun k q hq => hD.2 k q (hin k q hq)⟩ (hpost.2.weaken (fun k q _ h => hFc q.1 h)) (fun i j u v hu hv huv => ?_)) hS1
  · exact (hP k q (hin k q hq)).kept (hk q.1 ((hP k q (hin k q hq)).lt) (apart k q hq))
  · exact apart i u hu (by rw [huv]; exact hpost.2.2 j v hv)
variable {y : MethodName} {ws ws' Ts : List Cond} {rm : Room} {bytes : ByteArray} {maxL nL index n : Nat} {own host : String} {b : Addr} {As : List Value} {Qc : Array Value → State → Outcome → State → Prop} {free : Addr → Prop} {mc ms : Nat} {wr : va_W} {e0 : va_E}
theorem z_last (hP : va_P D vwCl (wr ++ [(b, e0)]) H) : va_P D vwCl [(b, e0)] H := by
  intro k q hq
  have hk0 : k = 0 := by
    have := (List.getElem?_eq_some_iff.mp hq).1
    simp at this; omega
  subst hk0
  exact hP wr.length q (by simpa using hq)
theorem z_lastD : va_D (fun _ => True) [(b, e0)] := by
  refine ⟨fun i j u v hu hv _ => ?_, fun _ _ _ => trivial⟩
  have h1 := (List.getElem?_eq_some_iff.mp hu).1
  have h2 := (List.getElem?_eq_some_iff.mp hv).1
  simp at h1 h2; omega
/-- invokespecial <init> of a nest mate's private class -/
theorem z_runIN (hx : p.tables.exec = Jvm.exec) (hb : c.code = cc) (hml : c.maxLocals = nL) (hown : s.vm.findClass own = some m.cls) (hts : ∀ w ∈ Ts, w.before args s = true) (hK : va_K D vwCl (zT cI cZ cJ) s) (hE : zE s)
    (hP : va_P D vwCl (wr ++ [(b, e0)]) H)
    (hM : Met l y ws rm (zP D cI cZ cJ [(b, e0)] H.size (.ref b :: As)) Qc mc ms free) (hG : GoodIn Ts ws) (hw : ws = Cond.code y bytes maxL none :: ws') (hrc : rm.cells = mc) (hrs : rm.slots = ms)
    (hl : Cond.methodLinkNest own index y host ∈ zNest) (hini : Cond.initialized y.cls ∈ Ts) (hin : Cond.instanceMethod y ∈ Ts) (hyn : y.name = "<init>")
    (hd : y.cls ≠ "java/lang/invoke/MethodHandle" ∧ y.cls ≠ "java/lang/invoke/VarHandle" ∧ (parseMethodDescriptor y.desc).map (fun d => d.parameters.length) = some n) (hR : rm.frames + 1 ≤ R.frames ∧ 8 + (maxL + 11) + rm.locals ≤ R.locals)
    (hn : As.length = n) (hls : ls.size = nL) (hst : st0 = As.reverse ++ .ref b :: rest) (hW : (rest.map fun v => v.category).sum ≤ 8) (hdg : decode cc pc = .ok (.invokespecial index, 3)) (hf : cells + mc ≤ R.cells ∧ slots + ms ≤ R.slots) :
    va_Run p l e R s m args below meth c H locs cells slots mc ms (F0 m pc ls st0) rest (Qc (Value.ref b :: As).toArray) free :=
  va_runIN (As := As) ⟨hx, hb, hml, hown, hts⟩ hM ⟨va_cnB n hts hG hw hrc hrs (hE _ hl) (hts _ hini) hd hR, hyn, hts _ hin⟩ ⟨zP.blind, fun U hU hW => ⟨rfl, by rw [hU], by rw [hU]; exact z_last hP, va_K.moved hW.alike hK, hE.warm hW, z_lastD⟩⟩ rfl hn hls hst (lv_room hW) hdg hf
theorem z_top {v v' : Int32} (h : v = v') (k : W p l e R s m args below meth c H locs cells slots Q (F0 m pc ls (.int v' :: rest))) : W p l e R s m args below meth c H locs cells slots Q (F0 m pc ls (.int v :: rest)) := by
  subst h; exact k
end ZM
/-- how many levels there are -/
def lvN (v : Int32) : Nat := if 2 ≤ v then (if v ≤ 20 then v.toNatClampNeg else 20) else 2
theorem nI_tn {v : Int32} (h : 0 ≤ v) : nI v.toNatClampNeg = v := by
  obtain ⟨j, hj, rfl⟩ := nI_of (x := v) (fun q => by rw [Int32.lt_iff_toInt_lt] at q; rw [Int32.le_iff_toInt_le] at h; omega)
  rw [nI_clamp hj]
theorem lvN_v {v : Int32} (h : 2 ≤ v) (h2 : v ≤ 20) : v = nI (lvN v) := by
  rw [lvN, if_pos h, if_pos h2, nI_tn (Int32.le_trans (by decide) h)]
theorem lvN_20 {v : Int32} (h : 2 ≤ v) (h2 : ¬ v ≤ 20) : (20 : Int32) = nI (lvN v) := by
  rw [lvN, if_pos h, if_neg h2]; rfl
theorem lvN_2 {v : Int32} (h : ¬ 2 ≤ v) : (2 : Int32) = nI (lvN v) := by
  rw [lvN, if_neg h]; rfl
theorem lvN_in (v : Int32) : 2 ≤ lvN v ∧ lvN v ≤ 20 := by
  unfold lvN
  split
  · rename_i h
    split
    · rename_i h2
      have h0 : 0 ≤ v := Int32.le_trans (by decide) h
      obtain ⟨j, hj, rfl⟩ := nI_of (x := v) (fun q => absurd q (Int32.not_lt.mpr h0))
      rw [nI_clamp hj]
      rw [Int32.le_iff_toInt_le, nI_toInt hj] at h h2
      have h3 : (2 : Int32).toInt = 2 := by decide
      have h4 : (20 : Int32).toInt = 20 := by decide
      omega
    · omega
  · omega
theorem lvN_x {v : Int32} : (if 2 < (if v < 20 then v else 20) then (if v < 20 then v else 20) else 2) = nI (lvN v) := by
  have e20 : (20 : Int32).toInt = 20 := by decide
  have e2 : (2 : Int32).toInt = 2 := by decide
  by_cases h : 2 ≤ v
  · by_cases h2 : v ≤ 20
    · rw [← lvN_v h h2]
      by_cases h3 : v < 20
      · rw [if_pos h3]
        by_cases h4 : 2 < v
        · rw [if_pos h4]
        · rw [if_neg h4]; exact Int32.le_antisymm h (Int32.not_lt.mp h4)
      · rw [if_neg h3, if_pos (by decide)]; exact Int32.le_antisymm (Int32.not_lt.mp h3) h2
    · rw [← lvN_20 h h2]
      have h3 : ¬ v < 20 := fun q => h2 (Int32.le_of_lt q)
      rw [if_neg h3, if_pos (by decide)]
  · rw [← lvN_2 h]
    have h3 : v < 20 := by
      rw [Int32.le_iff_toInt_le] at h
      rw [Int32.lt_iff_toInt_lt]
      omega
    rw [if_pos h3]
    have h4 : ¬ 2 < v := fun q => h (Int32.le_of_lt q)
    rw [if_neg h4]
