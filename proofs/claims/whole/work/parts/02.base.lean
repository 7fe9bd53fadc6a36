/-! Own base: what every contract here shares. -/
abbrev zT (cI cZ cJ : ClassId) : List (ClassId × FieldType) := [(cI, .int), (cZ, .boolean), (cJ, .long)]
def zNest : List Cond := [
  Cond.methodLinkNest "LiftRows2" (24) ({ cls := "LiftRows2$Lifts", name := "<init>", desc := "()V" } : MethodName) "LiftRows2",
  Cond.fieldLinkNest "LiftRows2" (111) "LiftRows2$Lifts" "at" "[I" "LiftRows2",
  Cond.fieldLinkNest "LiftRows2" (246) "LiftRows2$Lifts" "capacity" "[I" "LiftRows2",
  Cond.fieldLinkNest "LiftRows2" (118) "LiftRows2$Lifts" "direction" "[I" "LiftRows2",
  Cond.fieldLinkNest "LiftRows2" (121) "LiftRows2$Lifts" "openFor" "[I" "LiftRows2",
  Cond.fieldLinkNest "LiftRows2" (127) "LiftRows2$Lifts" "isStuck" "[Z" "LiftRows2",
  Cond.fieldLinkNest "LiftRows2" (135) "LiftRows2$Lifts" "isReserved" "[Z" "LiftRows2",
  Cond.fieldLinkNest "LiftRows2" (138) "LiftRows2$Lifts" "isKept" "[Z" "LiftRows2",
  Cond.fieldLinkNest "LiftRows2" (50) "LiftRows2$Lifts" "size" "I" "LiftRows2",
  Cond.fieldLinkNest "LiftRows2" (201) "LiftRows2$Lifts" "gone" "I" "LiftRows2",
  Cond.methodLinkNest "LiftRows2" (31) ({ cls := "LiftRows2$Calls", name := "<init>", desc := "()V" } : MethodName) "LiftRows2",
  Cond.fieldLinkNest "LiftRows2" (182) "LiftRows2$Calls" "from" "[I" "LiftRows2",
  Cond.fieldLinkNest "LiftRows2" (185) "LiftRows2$Calls" "to" "[I" "LiftRows2",
  Cond.fieldLinkNest "LiftRows2" (188) "LiftRows2$Calls" "rank" "[I" "LiftRows2",
  Cond.fieldLinkNest "LiftRows2" (191) "LiftRows2$Calls" "load" "[I" "LiftRows2",
  Cond.fieldLinkNest "LiftRows2" (159) "LiftRows2$Calls" "state" "[I" "LiftRows2",
  Cond.fieldLinkNest "LiftRows2" (74) "LiftRows2$Calls" "by" "[I" "LiftRows2",
  Cond.fieldLinkNest "LiftRows2" (165) "LiftRows2$Calls" "cameAt" "[I" "LiftRows2",
  Cond.fieldLinkNest "LiftRows2" (162) "LiftRows2$Calls" "boardedAt" "[I" "LiftRows2",
  Cond.fieldLinkNest "LiftRows2" (156) "LiftRows2$Calls" "servedAt" "[I" "LiftRows2",
  Cond.fieldLinkNest "LiftRows2" (68) "LiftRows2$Calls" "size" "I" "LiftRows2",
  Cond.methodLinkNest "LiftRows2" (38) ({ cls := "LiftRows2$Events", name := "<init>", desc := "()V" } : MethodName) "LiftRows2",
  Cond.fieldLinkNest "LiftRows2" (90) "LiftRows2$Events" "second" "[I" "LiftRows2",
  Cond.fieldLinkNest "LiftRows2" (93) "LiftRows2$Events" "lift" "[I" "LiftRows2",
  Cond.fieldLinkNest "LiftRows2" (96) "LiftRows2$Events" "call" "[I" "LiftRows2",
  Cond.fieldLinkNest "LiftRows2" (99) "LiftRows2$Events" "kind" "[I" "LiftRows2",
  Cond.fieldLinkNest "LiftRows2" (81) "LiftRows2$Events" "size" "I" "LiftRows2",
  Cond.methodLinkNest "LiftRows2" (219) ({ cls := "LiftRows2$Calls", name := "is", desc := "(III)Z" } : MethodName) "LiftRows2",
  Cond.methodLinkNest "LiftRows2" (215) ({ cls := "LiftRows2$Lifts", name := "mayGet", desc := "(II)Z" } : MethodName) "LiftRows2",
  Cond.methodLinkNest "LiftRows2" (194) ({ cls := "LiftRows2$Calls", name := "numberWaiting", desc := "()I" } : MethodName) "LiftRows2",
  Cond.methodLinkNest "LiftRows2$Calls" (60) ({ cls := "LiftRows2", name := "asNumber", desc := "(Z)I" } : MethodName) "LiftRows2",
  Cond.methodLinkNest "LiftRows2" (124) ({ cls := "LiftRows2$Calls", name := "number", desc := "(II)I" } : MethodName) "LiftRows2",
  Cond.methodLinkNest "LiftRows2" (198) ({ cls := "LiftRows2$Calls", name := "levelsWithWaiting", desc := "()I" } : MethodName) "LiftRows2",
  Cond.methodLinkNest "LiftRows2" (60) ({ cls := "LiftRows2$Lifts", name := "add", desc := "(II)I" } : MethodName) "LiftRows2",
  Cond.methodLinkNest "LiftRows2" (71) ({ cls := "LiftRows2$Calls", name := "add", desc := "(IIIII)I" } : MethodName) "LiftRows2",
  Cond.methodLinkNest "LiftRows2" (226) ({ cls := "LiftRows2$Lifts", name := "passOpenSecond", desc := "(I)V" } : MethodName) "LiftRows2",
  Cond.methodLinkNest "LiftRows2" (249) ({ cls := "LiftRows2$Calls", name := "loadStaying", desc := "(II)I" } : MethodName) "LiftRows2",
  Cond.methodLinkNest "LiftRows2" (252) ({ cls := "LiftRows2$Calls", name := "getsOut", desc := "(III)Z" } : MethodName) "LiftRows2",
  Cond.methodLinkNest "LiftRows2" (255) ({ cls := "LiftRows2$Calls", name := "fitsIn", desc := "(IIII)Z" } : MethodName) "LiftRows2",
  Cond.methodLinkNest "LiftRows2" (259) ({ cls := "LiftRows2$Events", name := "add", desc := "(IIII)V" } : MethodName) "LiftRows2",
  Cond.methodLinkNest "LiftRows2" (114) ({ cls := "LiftRows2$Calls", name := "loadAboard", desc := "(I)I" } : MethodName) "LiftRows2",
  Cond.methodLinkNest "LiftRows2" (239) ({ cls := "LiftRows2$Calls", name := "hasWork", desc := "(III)Z" } : MethodName) "LiftRows2",
  Cond.methodLinkNest "LiftRows2" (242) ({ cls := "LiftRows2$Lifts", name := "go", desc := "(IZZ)V" } : MethodName) "LiftRows2",
  Cond.methodLinkNest "LiftRows2" (168) ({ cls := "LiftRows2$Calls", name := "setOf", desc := "(II)I" } : MethodName) "LiftRows2",
  Cond.methodLinkNest "LiftRows2" (262) ({ cls := "LiftRows2$Calls", name := "setFrom", desc := "(I)I" } : MethodName) "LiftRows2",
  Cond.methodLinkNest "LiftRows2" (265) ({ cls := "LiftRows2$Calls", name := "setTo", desc := "(I)I" } : MethodName) "LiftRows2",
  Cond.methodLinkNest "LiftRows2" (268) ({ cls := "LiftRows2$Calls", name := "nearestStop", desc := "(IIII)I" } : MethodName) "LiftRows2"]
theorem zl_RX3_24 : Cond.methodLinkNest "LiftRows2" (24) ({ cls := "LiftRows2$Lifts", name := "<init>", desc := "()V" } : MethodName) "LiftRows2" ∈ zNest := List.mem_of_getElem? (i := 0) rfl
theorem zl_RX3_111 : Cond.fieldLinkNest "LiftRows2" (111) "LiftRows2$Lifts" "at" "[I" "LiftRows2" ∈ zNest := List.mem_of_getElem? (i := 1) rfl
theorem zl_RX3_246 : Cond.fieldLinkNest "LiftRows2" (246) "LiftRows2$Lifts" "capacity" "[I" "LiftRows2" ∈ zNest := List.mem_of_getElem? (i := 2) rfl
theorem zl_RX3_118 : Cond.fieldLinkNest "LiftRows2" (118) "LiftRows2$Lifts" "direction" "[I" "LiftRows2" ∈ zNest := List.mem_of_getElem? (i := 3) rfl
theorem zl_RX3_121 : Cond.fieldLinkNest "LiftRows2" (121) "LiftRows2$Lifts" "openFor" "[I" "LiftRows2" ∈ zNest := List.mem_of_getElem? (i := 4) rfl
theorem zl_RX3_127 : Cond.fieldLinkNest "LiftRows2" (127) "LiftRows2$Lifts" "isStuck" "[Z" "LiftRows2" ∈ zNest := List.mem_of_getElem? (i := 5) rfl
theorem zl_RX3_135 : Cond.fieldLinkNest "LiftRows2" (135) "LiftRows2$Lifts" "isReserved" "[Z" "LiftRows2" ∈ zNest := List.mem_of_getElem? (i := 6) rfl
theorem zl_RX3_138 : Cond.fieldLinkNest "LiftRows2" (138) "LiftRows2$Lifts" "isKept" "[Z" "LiftRows2" ∈ zNest := List.mem_of_getElem? (i := 7) rfl
theorem zl_RX3_50 : Cond.fieldLinkNest "LiftRows2" (50) "LiftRows2$Lifts" "size" "I" "LiftRows2" ∈ zNest := List.mem_of_getElem? (i := 8) rfl
theorem zl_RX3_201 : Cond.fieldLinkNest "LiftRows2" (201) "LiftRows2$Lifts" "gone" "I" "LiftRows2" ∈ zNest := List.mem_of_getElem? (i := 9) rfl
theorem zl_RX3_31 : Cond.methodLinkNest "LiftRows2" (31) ({ cls := "LiftRows2$Calls", name := "<init>", desc := "()V" } : MethodName) "LiftRows2" ∈ zNest := List.mem_of_getElem? (i := 10) rfl
theorem zl_RX3_182 : Cond.fieldLinkNest "LiftRows2" (182) "LiftRows2$Calls" "from" "[I" "LiftRows2" ∈ zNest := List.mem_of_getElem? (i := 11) rfl
theorem zl_RX3_185 : Cond.fieldLinkNest "LiftRows2" (185) "LiftRows2$Calls" "to" "[I" "LiftRows2" ∈ zNest := List.mem_of_getElem? (i := 12) rfl
theorem zl_RX3_188 : Cond.fieldLinkNest "LiftRows2" (188) "LiftRows2$Calls" "rank" "[I" "LiftRows2" ∈ zNest := List.mem_of_getElem? (i := 13) rfl
theorem zl_RX3_191 : Cond.fieldLinkNest "LiftRows2" (191) "LiftRows2$Calls" "load" "[I" "LiftRows2" ∈ zNest := List.mem_of_getElem? (i := 14) rfl
theorem zl_RX3_159 : Cond.fieldLinkNest "LiftRows2" (159) "LiftRows2$Calls" "state" "[I" "LiftRows2" ∈ zNest := List.mem_of_getElem? (i := 15) rfl
theorem zl_RX3_74 : Cond.fieldLinkNest "LiftRows2" (74) "LiftRows2$Calls" "by" "[I" "LiftRows2" ∈ zNest := List.mem_of_getElem? (i := 16) rfl
theorem zl_RX3_165 : Cond.fieldLinkNest "LiftRows2" (165) "LiftRows2$Calls" "cameAt" "[I" "LiftRows2" ∈ zNest := List.mem_of_getElem? (i := 17) rfl
theorem zl_RX3_162 : Cond.fieldLinkNest "LiftRows2" (162) "LiftRows2$Calls" "boardedAt" "[I" "LiftRows2" ∈ zNest := List.mem_of_getElem? (i := 18) rfl
theorem zl_RX3_156 : Cond.fieldLinkNest "LiftRows2" (156) "LiftRows2$Calls" "servedAt" "[I" "LiftRows2" ∈ zNest := List.mem_of_getElem? (i := 19) rfl
theorem zl_RX3_68 : Cond.fieldLinkNest "LiftRows2" (68) "LiftRows2$Calls" "size" "I" "LiftRows2" ∈ zNest := List.mem_of_getElem? (i := 20) rfl
theorem zl_RX3_38 : Cond.methodLinkNest "LiftRows2" (38) ({ cls := "LiftRows2$Events", name := "<init>", desc := "()V" } : MethodName) "LiftRows2" ∈ zNest := List.mem_of_getElem? (i := 21) rfl
theorem zl_RX3_90 : Cond.fieldLinkNest "LiftRows2" (90) "LiftRows2$Events" "second" "[I" "LiftRows2" ∈ zNest := List.mem_of_getElem? (i := 22) rfl
theorem zl_RX3_93 : Cond.fieldLinkNest "LiftRows2" (93) "LiftRows2$Events" "lift" "[I" "LiftRows2" ∈ zNest := List.mem_of_getElem? (i := 23) rfl
theorem zl_RX3_96 : Cond.fieldLinkNest "LiftRows2" (96) "LiftRows2$Events" "call" "[I" "LiftRows2" ∈ zNest := List.mem_of_getElem? (i := 24) rfl
theorem zl_RX3_99 : Cond.fieldLinkNest "LiftRows2" (99) "LiftRows2$Events" "kind" "[I" "LiftRows2" ∈ zNest := List.mem_of_getElem? (i := 25) rfl
theorem zl_RX3_81 : Cond.fieldLinkNest "LiftRows2" (81) "LiftRows2$Events" "size" "I" "LiftRows2" ∈ zNest := List.mem_of_getElem? (i := 26) rfl
theorem zl_RX3_219 : Cond.methodLinkNest "LiftRows2" (219) ({ cls := "LiftRows2$Calls", name := "is", desc := "(III)Z" } : MethodName) "LiftRows2" ∈ zNest := List.mem_of_getElem? (i := 27) rfl
theorem zl_RX3_215 : Cond.methodLinkNest "LiftRows2" (215) ({ cls := "LiftRows2$Lifts", name := "mayGet", desc := "(II)Z" } : MethodName) "LiftRows2" ∈ zNest := List.mem_of_getElem? (i := 28) rfl
theorem zl_RX3_194 : Cond.methodLinkNest "LiftRows2" (194) ({ cls := "LiftRows2$Calls", name := "numberWaiting", desc := "()I" } : MethodName) "LiftRows2" ∈ zNest := List.mem_of_getElem? (i := 29) rfl
theorem zl_RX0_60 : Cond.methodLinkNest "LiftRows2$Calls" (60) ({ cls := "LiftRows2", name := "asNumber", desc := "(Z)I" } : MethodName) "LiftRows2" ∈ zNest := List.mem_of_getElem? (i := 30) rfl
theorem zl_RX3_124 : Cond.methodLinkNest "LiftRows2" (124) ({ cls := "LiftRows2$Calls", name := "number", desc := "(II)I" } : MethodName) "LiftRows2" ∈ zNest := List.mem_of_getElem? (i := 31) rfl
theorem zl_RX3_198 : Cond.methodLinkNest "LiftRows2" (198) ({ cls := "LiftRows2$Calls", name := "levelsWithWaiting", desc := "()I" } : MethodName) "LiftRows2" ∈ zNest := List.mem_of_getElem? (i := 32) rfl
theorem zl_RX3_60 : Cond.methodLinkNest "LiftRows2" (60) ({ cls := "LiftRows2$Lifts", name := "add", desc := "(II)I" } : MethodName) "LiftRows2" ∈ zNest := List.mem_of_getElem? (i := 33) rfl
theorem zl_RX3_71 : Cond.methodLinkNest "LiftRows2" (71) ({ cls := "LiftRows2$Calls", name := "add", desc := "(IIIII)I" } : MethodName) "LiftRows2" ∈ zNest := List.mem_of_getElem? (i := 34) rfl
theorem zl_RX3_226 : Cond.methodLinkNest "LiftRows2" (226) ({ cls := "LiftRows2$Lifts", name := "passOpenSecond", desc := "(I)V" } : MethodName) "LiftRows2" ∈ zNest := List.mem_of_getElem? (i := 35) rfl
theorem zl_RX3_249 : Cond.methodLinkNest "LiftRows2" (249) ({ cls := "LiftRows2$Calls", name := "loadStaying", desc := "(II)I" } : MethodName) "LiftRows2" ∈ zNest := List.mem_of_getElem? (i := 36) rfl
theorem zl_RX3_252 : Cond.methodLinkNest "LiftRows2" (252) ({ cls := "LiftRows2$Calls", name := "getsOut", desc := "(III)Z" } : MethodName) "LiftRows2" ∈ zNest := List.mem_of_getElem? (i := 37) rfl
theorem zl_RX3_255 : Cond.methodLinkNest "LiftRows2" (255) ({ cls := "LiftRows2$Calls", name := "fitsIn", desc := "(IIII)Z" } : MethodName) "LiftRows2" ∈ zNest := List.mem_of_getElem? (i := 38) rfl
theorem zl_RX3_259 : Cond.methodLinkNest "LiftRows2" (259) ({ cls := "LiftRows2$Events", name := "add", desc := "(IIII)V" } : MethodName) "LiftRows2" ∈ zNest := List.mem_of_getElem? (i := 39) rfl
theorem zl_RX3_114 : Cond.methodLinkNest "LiftRows2" (114) ({ cls := "LiftRows2$Calls", name := "loadAboard", desc := "(I)I" } : MethodName) "LiftRows2" ∈ zNest := List.mem_of_getElem? (i := 40) rfl
theorem zl_RX3_239 : Cond.methodLinkNest "LiftRows2" (239) ({ cls := "LiftRows2$Calls", name := "hasWork", desc := "(III)Z" } : MethodName) "LiftRows2" ∈ zNest := List.mem_of_getElem? (i := 41) rfl
theorem zl_RX3_242 : Cond.methodLinkNest "LiftRows2" (242) ({ cls := "LiftRows2$Lifts", name := "go", desc := "(IZZ)V" } : MethodName) "LiftRows2" ∈ zNest := List.mem_of_getElem? (i := 42) rfl
theorem zl_RX3_168 : Cond.methodLinkNest "LiftRows2" (168) ({ cls := "LiftRows2$Calls", name := "setOf", desc := "(II)I" } : MethodName) "LiftRows2" ∈ zNest := List.mem_of_getElem? (i := 43) rfl
theorem zl_RX3_262 : Cond.methodLinkNest "LiftRows2" (262) ({ cls := "LiftRows2$Calls", name := "setFrom", desc := "(I)I" } : MethodName) "LiftRows2" ∈ zNest := List.mem_of_getElem? (i := 44) rfl
theorem zl_RX3_265 : Cond.methodLinkNest "LiftRows2" (265) ({ cls := "LiftRows2$Calls", name := "setTo", desc := "(I)I" } : MethodName) "LiftRows2" ∈ zNest := List.mem_of_getElem? (i := 45) rfl
theorem zl_RX3_268 : Cond.methodLinkNest "LiftRows2" (268) ({ cls := "LiftRows2$Calls", name := "nearestStop", desc := "(IIII)I" } : MethodName) "LiftRows2" ∈ zNest := List.mem_of_getElem? (i := 46) rfl
def zIsN : Cond → Bool
  | .fieldLinkNest _ _ _ _ _ _ => true
  | .methodLinkNest _ _ _ _ => true
  | _ => false
/-- the links between the nest's classes -/
def zE (U : State) : Prop := ∀ w ∈ zNest, va_Nw w U
theorem zNest_k : zNest.all zIsN = true := by decide +kernel
theorem zE.same {u U : State} (h : u.vm = U.vm) (hZ : zE u) : zE U := fun w hw => by
  have hk := List.all_eq_true.mp zNest_k w hw
  have h1 := hZ w hw
  cases w <;> first | (simp [zIsN] at hk; done) | exact va_Nw.same rfl h h1
theorem zE.warm {s U : State} (hW : s.WarmedH U.vm) (hZ : zE s) : zE U := fun w hw => by
  have hk := List.all_eq_true.mp zNest_k w hw
  have h1 := hZ w hw
  cases w <;> first | (simp [zIsN] at hk; done) | exact va_Nw.warmF hW h1 | exact va_Nw.warmM hW h1
/-- a contract's start -/
def zP (D : va_G) (cI cZ cJ : ClassId) (w : va_W) (sz : Nat) (av : List Value) : Array Value → State → Prop :=
  va_Pc av (fun U => U.heap.size = sz ∧ va_P D vwCl w U.heap ∧ va_K D vwCl (zT cI cZ cJ) U ∧ zE U ∧ va_D (fun _ => True) w)
theorem zP.blind {D : va_G} {cI cZ cJ : ClassId} {w : va_W} {sz : Nat} {av : List Value} : FrameBlind (zP D cI cZ cJ w sz av) := fun a U g mk q => by
  obtain ⟨q0, q1, qP, qK, qE, qD⟩ := q
  exact ⟨q0, q1, qP, va_K.moved (u := U) (U := U.calling g mk a) (Vm.Alike.refl U.vm) qK, zE.same (u := U) rfl qE, qD⟩
/-- the world behind it -/
def zB (D : va_G) : va_W → State → Prop := fun w' t => va_P D vwCl w' t.heap
def zQi (D : va_G) (w : va_W) (P : Int32 → va_W → Prop) (A : Nat → Prop) : Array Value → State → Outcome → State → Prop := va_Qi (fun r w' => P r w' ∧ w'.map (·.1) = w.map (·.1)) (zB D) A
def zQv (D : va_G) (w : va_W) (P : va_W → Prop) (A : Nat → Prop) : Array Value → State → Outcome → State → Prop := va_Qv (fun w' => P w' ∧ w'.map (·.1) = w.map (·.1)) (zB D) A
/-- a method that makes nothing and answers an int -/
def zMi (l : Launch) (y : MethodName) (ws : List Cond) (rm : Room) (D : va_G) (cI cZ cJ : ClassId) (w : va_W) (sz : Nat) (av : List Value) (P : Int32 → va_W → Prop) : Prop :=
  Met l y ws rm (zP D cI cZ cJ w sz av) (zQi D w P (va_A w sz)) 0 0 (va_A w sz)
def zMv (l : Launch) (y : MethodName) (ws : List Cond) (rm : Room) (D : va_G) (cI cZ cJ : ClassId) (w : va_W) (sz : Nat) (av : List Value) (P : va_W → Prop) : Prop :=
  Met l y ws rm (zP D cI cZ cJ w sz av) (zQv D w P (va_A w sz)) 0 0 (va_A w sz)
/-- what stands at a method's entry, in one word -/
def zAt (p : Program) (s : State) (m : MethodId) (meth : Method) (c : Code) (av : List Value) (cc : ByteArray) (maxL : Nat) (ret : Option FieldType) (ws : List Cond) (y : MethodName) (D : va_G) (cI cZ cJ : ClassId) (A : Nat → Prop) : Prop :=
  p.tables.exec = Jvm.exec ∧ c.code = cc ∧ meth.sig.returnType = ret ∧ c.maxLocals = maxL ∧ meth.locks = false ∧ (∀ w ∈ ws, w.before av.toArray s = true) ∧ s.vm.findClass y.cls = some m.cls ∧ meth.name = y.name ∧ va_K D vwCl (zT cI cZ cJ) s ∧ zE s ∧ (∀ q, s.heap.size ≤ q → A q)
theorem z_head {l : Launch} {y : MethodName} {ws ws' : List Cond} {rm : Room} {D : va_G} {cI cZ cJ : ClassId} {w : va_W} {sz : Nat} {av : List Value} {cc : ByteArray} {maxL : Nat} {ret : Option FieldType} {Qc : (Nat → Prop) → Array Value → State → Outcome → State → Prop} {mc ms : Nat}
    (hy : plainName y.cls = true) (hw : ws = Cond.code y cc maxL ret :: ws') (hav : (lg_sl av).length ≤ maxL)
    (body : ∀ p e s m below meth c ls A, zAt p s m meth c av cc maxL ret ws y D cI cZ cJ A → va_P D vwCl w s.heap → va_D A w → va_S A s.heap s.heap [] → lv_has ls maxL (lv_args 0 av) →
      W p l e rm s m av.toArray below meth c s.heap [] 0 0 (MQ below (Qc A) av.toArray s mc ms A) (F0 m 0 ls [])) :
    Met l y ws rm (zP D cI cZ cJ w sz av) (Qc (va_A w sz)) mc ms (va_A w sz) := by
  refine Met.ofW (cc := cc) (maxL := maxL) (ret := ret) hy hw ?_
  intro p e s m args below meth c s₁ B hml hv
  obtain ⟨rfl, hsz, hP, hK, hE, hD0⟩ := hv
  subst hsz
  have hl := lv_entry av (n := maxL) hav
  rw [lg_entry_eq]
  generalize (lg_sl av ++ List.replicate (maxL - (lg_sl av).length) Slot.unset).toArray = ls at hl ⊢
  exact body p e s m below meth c ls (va_A w s.heap.size) ⟨B.exec, B.bytes, B.returns, hml, B.notSynchronized, atoms_spec (ws := ws) B.pre, findClass_of_methodNamed B.named, (name_of_methodNamed B.named B.method).1, hK, hE, fun q h => Or.inr h⟩ hP hD0.self va_S.rf hl
theorem z_headF {l : Launch} {y : MethodName} {ws ws' : List Cond} {rm : Room} {D : va_G} {cI cZ cJ : ClassId} {w : va_W} {sz : Nat} {av : List Value} {cc : ByteArray} {maxL : Nat} {ret : Option FieldType} {Qc : (Nat → Prop) → Array Value → State → Outcome → State → Prop} {mc ms : Nat}
    (hy : plainFor y = true) (hw : ws = Cond.code y cc maxL ret :: ws') (hav : (lg_sl av).length ≤ maxL)
    (body : ∀ p e s m below meth c ls A, zAt p s m meth c av cc maxL ret ws y D cI cZ cJ A → va_P D vwCl w s.heap → va_D A w → va_S A s.heap s.heap [] → lv_has ls maxL (lv_args 0 av) →
      W p l e rm s m av.toArray below meth c s.heap [] 0 0 (MQ below (Qc A) av.toArray s mc ms A) (F0 m 0 ls [])) :
    Met l y ws rm (zP D cI cZ cJ w sz av) (Qc (va_A w sz)) mc ms (va_A w sz) := by
  refine va_MetF (cc := cc) (maxL := maxL) (ret := ret) hy hw ?_
  intro p e s m args below meth c s₁ B hml hv
  obtain ⟨rfl, hsz, hP, hK, hE, hD0⟩ := hv
  subst hsz
  have hl := lv_entry av (n := maxL) hav
  rw [lg_entry_eq]
  generalize (lg_sl av ++ List.replicate (maxL - (lg_sl av).length) Slot.unset).toArray = ls at hl ⊢
  exact body p e s m below meth c ls (va_A w s.heap.size) ⟨B.exec, B.bytes, B.returns, hml, B.notSynchronized, atoms_spec (ws := ws) B.pre, findClass_of_methodNamed B.named, (name_of_methodNamed B.named B.method).1, hK, hE, fun q h => Or.inr h⟩ hP hD0.self va_S.rf hl
/-- a world with the places 'is' filled anew -/
def zput (w : va_W) : List Nat → va_W → va_W
  | i :: is, x :: xs => zput (w.set i x) is xs
  | _, _ => w
theorem zput_fst : ∀ (is : List Nat) (xs w : va_W), (is.map (fun i => (w[i]?).map (·.1)) = xs.map (fun x => some x.1)) → (zput w is xs).map (·.1) = w.map (·.1)
  | [], _, _, _ => by simp [zput]
  | _ :: _, [], _, _ => by simp [zput]
  | i :: is, x :: xs, w, h => by
    simp only [List.map_cons, List.cons.injEq] at h
    obtain ⟨h1, h2⟩ := h
    have hs : (w.set i x).map (·.1) = w.map (·.1) := by
      rw [List.map_set]
      obtain ⟨y, hy, he⟩ := Option.map_eq_some_iff.mp h1
      apply List.ext_getElem?
      intro j
      rw [List.getElem?_set]
      by_cases hij : i = j
      · subst hij
        have hlt : i < w.length := (List.getElem?_eq_some_iff.mp hy).1
        have hw : w[i] = y := (List.getElem?_eq_some_iff.mp hy).2
        simp [hlt, hw, he]
      · simp [hij]
    show (zput (w.set i x) is xs).map (·.1) = w.map (·.1)
    rw [zput_fst is xs (w.set i x), hs]
    rw [← h2]
    apply List.map_congr_left
    intro j _
    have e1 : ((w.set i x)[j]?).map (·.1) = ((w.set i x).map (·.1))[j]? := by rw [List.getElem?_map]
    have e2 : (w[j]?).map (·.1) = (w.map (·.1))[j]? := by rw [List.getElem?_map]
    rw [e1, e2, hs]
theorem zD_congr {A : Nat → Prop} {w w' : va_W} (h : w'.map (·.1) = w.map (·.1)) (hD : va_D A w) : va_D A w' := by
  have key : ∀ (k : Nat) (q : Nat × va_E), w'[k]? = some q → ∃ q', w[k]? = some q' ∧ q'.1 = q.1 := by
    intro k q hq
    have e1 : (w'.map (·.1))[k]? = some q.1 := by rw [List.getElem?_map, hq]; rfl
    rw [h, List.getElem?_map] at e1
    exact Option.map_eq_some_iff.mp e1
  refine ⟨fun i j a b ha hb hab => ?_, fun k q hq => ?_⟩
  · obtain ⟨a', h1, h2⟩ := key i a ha
    obtain ⟨b', h3, h4⟩ := key j b hb
    exact hD.1 i j a' b' h1 h3 (by rw [h2, h4, hab])
  · obtain ⟨q', h1, h2⟩ := key k q hq
    rw [← h2]
    exact hD.2 k q' h1
theorem zput_get : ∀ (is : List Nat) (xs w : va_W) (k : Nat) (q : Nat × va_E), (zput w is xs)[k]? = some q → (∃ j : Nat, is[j]? = some k ∧ xs[j]? = some q) ∨ (w[k]? = some q ∧ ∀ j : Nat, j < xs.length → is[j]? ≠ some k)
  | [], xs, w, k, q, h => Or.inr ⟨by simpa [zput] using h, fun j _ => by simp⟩
  | i :: is, [], w, k, q, h => Or.inr ⟨by simpa [zput] using h, fun j hj => absurd hj (Nat.not_lt_zero j)⟩
  | i :: is, x :: xs, w, k, q, h => by
    have h' : (zput (w.set i x) is xs)[k]? = some q := h
    rcases zput_get is xs (w.set i x) k q h' with ⟨j, h1, h2⟩ | ⟨h1, h2⟩
    · exact Or.inl ⟨j + 1, by simpa using h1, by simpa using h2⟩
    · rw [List.getElem?_set] at h1
      by_cases hik : i = k
      · subst hik
        rw [if_pos rfl] at h1
        by_cases hl : i < w.length
        · rw [if_pos hl] at h1
          exact Or.inl ⟨0, rfl, h1⟩
        · rw [if_neg hl] at h1; cases h1
      · rw [if_neg hik] at h1
        refine Or.inr ⟨h1, fun j hj => ?_⟩
        cases j with
        | zero => simp [hik]
        | succ j => simpa using h2 j (by simpa using hj)
theorem zjoin {A0 : Nat → Prop} {D : va_G} {cl : List vw_C} {w wc w1 : va_W} {H H1 : Heap} (hP : va_P D cl w H) (hD : va_D A0 w) (isC : List Nat) (hC : isC.map (fun i => w[i]?) = wc.map some) (h1 : w1.map (·.1) = wc.map (·.1))
    (hk : ∀ q : Nat, q < H.size → ¬ va_A wc H.size q → H1[q]? = H[q]?) (hP1 : va_P D cl w1 H1) : va_P D cl (zput w isC w1) H1 ∧ va_D A0 (zput w isC w1) := by
  have hlen : isC.length = wc.length := by have := congrArg List.length hC; simpa using this
  have hlen1 : w1.length = wc.length := by have := congrArg List.length h1; simpa using this
  have atC : ∀ (j : Nat) (q : Nat × va_E), wc[j]? = some q → ∃ i, isC[j]? = some i ∧ w[i]? = some q := by
    intro j q hq
    have e : (isC.map (fun i => w[i]?))[j]? = some (some q) := by rw [hC, List.getElem?_map, hq]; rfl
    rw [List.getElem?_map] at e
    obtain ⟨i, hi, he⟩ := Option.map_eq_some_iff.mp e
    exact ⟨i, hi, he⟩
  refine ⟨fun k q hq => ?_, zD_congr (zput_fst isC w1 w ?_) hD⟩
  · rcases zput_get isC w1 w k q hq with ⟨j, -, hj⟩ | ⟨hq, hn⟩
    · exact hP1 j q hj
    · have hl := (hP k q hq).lt
      refine (hP k q hq).kept (hk q.1 hl fun hz => ?_)
      rcases hz with ⟨j, e, he⟩ | hz
      · obtain ⟨i, hi, hwi⟩ := atC j (q.1, e) he
        have hik := hD.1 i k (q.1, e) q hwi hq rfl
        subst hik
        exact hn j (by rw [hlen1]; exact (List.getElem?_eq_some_iff.mp he).1) hi
      · omega
  · have e1 : isC.map (fun i => (w[i]?).map (·.1)) = (isC.map (fun i => w[i]?)).map (fun o => o.map (·.1)) := by rw [List.map_map]; rfl
    rw [e1, hC, List.map_map]
    have e2 : w1.map (fun x => some x.1) = (w1.map (·.1)).map some := by rw [List.map_map]; rfl
    rw [e2, h1, List.map_map]
    rfl
theorem zsub {D : va_G} {cl : List vw_C} {w wc : va_W} {H : Heap} (hP : va_P D cl w H) {isC : List Nat} (hC : isC.map (fun i => w[i]?) = wc.map some) : va_P D cl wc H := by
  intro k q hq
  have e : (isC.map (fun i => w[i]?))[k]? = some (some q) := by rw [hC, List.getElem?_map, hq]; rfl
  rw [List.getElem?_map] at e
  obtain ⟨i, hi, he⟩ := Option.map_eq_some_iff.mp e
  exact hP i q he
/-- truth as a number -/
def bI (b : Bool) : Int32 := if b = true then 1 else 0
theorem bI_01 (b : Bool) : bI b = 0 ∨ bI b = 1 := by cases b <;> simp [bI]
theorem bI_t : bI true = 1 := rfl
theorem bI_f : bI false = 0 := rfl
theorem bI_eq0 {b : Bool} : bI b = 0 ↔ b = false := by cases b <;> simp [bI]
theorem bI_ne0 {b : Bool} : ¬ bI b = 0 ↔ b = true := by cases b <;> simp [bI]
section ZZ
variable {p : Program} {l : Launch} {e : Env} {R : Room} {s : State} {m : MethodId} {args : Array Value} {below : List Frame} {meth : Method} {c : Code} {H : Heap} {locs : List Loc} {cells slots : Nat} {Q : State → Prop}
variable {cc : ByteArray} {pc : Nat} {ls : Array Slot} {st0 rest : List Value} {D : va_G} {A : Nat → Prop} {cI cZ cJ : ClassId} {w wc : va_W} {H0 : Heap} {a : Array Value}
/-- behind a call that answers an int -/
theorem z_backi {P : Int32 → va_W → Prop} (hr : va_Run p l e R s m args below meth c H locs cells slots 0 0 (F0 m pc ls st0) rest (zQi D wc P (va_A wc H.size) a) (va_A wc H.size)) (hP : va_P D vwCl w H) (hD : va_D A w) (hS : va_S A H0 H locs) (hA : ∀ q, H0.size ≤ q → A q) (isC : List Nat) (hC : isC.map (fun i => w[i]?) = wc.map some)
    (kk : ∀ (r : Int32) (w1 : va_W) (H1 : Heap) (locs1 : List Loc), P r w1 → va_P D vwCl (zput w isC w1) H1 → va_D A (zput w isC w1) → va_S A H0 H1 locs1 → W p l e R s m args below meth c H1 locs1 cells slots Q (F0 m (pc + 3) ls (.int r :: rest))) : W p l e R s m args below meth c H locs cells slots Q (F0 m pc ls st0) := by
  have hFc := va_free (wc := wc) hD hS hA isC hC
  refine va_calli hr hS (fun q _ h => hFc q h) hFc (fun r w1 t H1 locs1 ht _ hpost hB _ hk hS1 => ?_)
  have hP1 : va_P D vwCl w1 H1 := by rw [← ht]; exact hB
  obtain ⟨j1, j2⟩ := zjoin hP hD isC hC hpost.2 hk hP1
  exact kk r w1 H1 locs1 hpost.1 j1 j2 hS1
theorem z_backv {P : va_W → Prop} (hr : va_Run p l e R s m args below meth c H locs cells slots 0 0 (F0 m pc ls st0) rest (zQv D wc P (va_A wc H.size) a) (va_A wc H.size)) (hP : va_P D vwCl w H) (hD : va_D A w) (hS : va_S A H0 H locs) (hA : ∀ q, H0.size ≤ q → A q) (isC : List Nat) (hC : isC.map (fun i => w[i]?) = wc.map some)
    (kk : ∀ (w1 : va_W) (H1 : Heap) (locs1 : List Loc), P w1 → va_P D vwCl (zput w isC w1) H1 → va_D A (zput w isC w1) → va_S A H0 H1 locs1 → W p l e R s m args below meth c H1 locs1 cells slots Q (F0 m (pc + 3) ls rest)) : W p l e R s m args below meth c H locs cells slots Q (F0 m pc ls st0) := by
  have hFc := va_free (wc := wc) hD hS hA isC hC
  refine va_callv hr hS (fun q _ h => hFc q h) hFc (fun w1 t H1 locs1 ht _ hpost hB _ hk hS1 => ?_)
  have hP1 : va_P D vwCl w1 H1 := by rw [← ht]; exact hB
  obtain ⟨j1, j2⟩ := zjoin hP hD isC hC hpost.2 hk hP1
  exact kk w1 H1 locs1 hpost.1 j1 j2 hS1
/-- the same where the callee's world is the caller's -/
theorem z_backiA {P : Int32 → va_W → Prop} (hr : va_Run p l e R s m args below meth c H locs cells slots 0 0 (F0 m pc ls st0) rest (zQi D w P (va_A w H.size) a) (va_A w H.size)) (hD : va_D A w) (hS : va_S A H0 H locs) (hA : ∀ q, H0.size ≤ q → A q)
    (kk : ∀ (r : Int32) (w1 : va_W) (H1 : Heap) (locs1 : List Loc), P r w1 → va_P D vwCl w1 H1 → va_D A w1 → va_S A H0 H1 locs1 → W p l e R s m args below meth c H1 locs1 cells slots Q (F0 m (pc + 3) ls (.int r :: rest))) : W p l e R s m args below meth c H locs cells slots Q (F0 m pc ls st0) := by
  have hFc : ∀ q, va_A w H.size q → A q := fun q h => by
    rcases h with ⟨k, e, h⟩ | h
    · exact hD.2 k (q, e) h
    · exact hA q (Nat.le_trans hS.1 h)
  refine va_calli hr hS (fun q _ h => hFc q h) hFc (fun r w1 t H1 locs1 ht _ hpost hB _ hk hS1 => ?_)
  exact kk r w1 H1 locs1 hpost.1 (by rw [← ht]; exact hB) (zD_congr hpost.2 hD) hS1
theorem z_backvA {P : va_W → Prop} (hr : va_Run p l e R s m args below meth c H locs cells slots 0 0 (F0 m pc ls st0) rest (zQv D w P (va_A w H.size) a) (va_A w H.size)) (hD : va_D A w) (hS : va_S A H0 H locs) (hA : ∀ q, H0.size ≤ q → A q)
    (kk : ∀ (w1 : va_W) (H1 : Heap) (locs1 : List Loc), P w1 → va_P D vwCl w1 H1 → va_D A w1 → va_S A H0 H1 locs1 → W p l e R s m args below meth c H1 locs1 cells slots Q (F0 m (pc + 3) ls rest)) : W p l e R s m args below meth c H locs cells slots Q (F0 m pc ls st0) := by
  have hFc : ∀ q, va_A w H.size q → A q := fun q h => by
    rcases h with ⟨k, e, h⟩ | h
    · exact hD.2 k (q, e) h
    · exact hA q (Nat.le_trans hS.1 h)
  refine va_callv hr hS (fun q _ h => hFc q h) hFc (fun w1 t H1 locs1 ht _ hpost hB _ hk hS1 => ?_)
  exact kk w1 H1 locs1 hpost.1 (by rw [← ht]; exact hB) (zD_congr hpost.2 hD) hS1
/-- what a callee of ours asks of the state at the call -/
theorem z_pre (hK : va_K D vwCl (zT cI cZ cJ) s) (hE : zE s) (hPc : va_P D vwCl wc H) (hDc : va_D A wc) (As : List Value) : ∀ U : State, U.heap = H → s.WarmedH U.vm → zP D cI cZ cJ wc H.size As As.toArray U :=
  fun U hU hW => ⟨rfl, by rw [hU], by rw [hU]; exact hPc, va_K.moved hW.alike hK, hE.warm hW, hDc.weaken (fun _ _ _ _ => trivial)⟩
variable {y : MethodName} {ws ws' Ts : List Cond} {rm : Room} {bytes : ByteArray} {maxL nL index n ci N : Nat} {ret : Option FieldType} {own C host : String} {b : Addr} {As : List Value} {T : u_T} {fs : List Value} {Qc : Array Value → State → Outcome → State → Prop} {free : Addr → Prop}
/-- invokevirtual, same class -/
theorem z_runV (hx : p.tables.exec = Jvm.exec) (hb : c.code = cc) (hml : c.maxLocals = nL) (hown : s.vm.findClass own = some m.cls) (hts : ∀ w ∈ Ts, w.before args s = true) (hK : va_K D vwCl (zT cI cZ cJ) s) (hE : zE s)
    (hP : va_P D vwCl w H) (hD : va_D A w) (isC : List Nat) (hC : isC.map (fun i => w[i]?) = wc.map some) (hnd : va_nd isC = true)
    (hM : Met l y ws rm (zP D cI cZ cJ wc H.size (.ref b :: As)) Qc 0 0 free) (hG : GoodIn Ts (wsV own index C y ws)) (hw : ws = Cond.code y bytes maxL ret :: ws') (hrc : rm.cells = 0) (hrs : rm.slots = 0)
    (hd : y.cls = C ∧ y.cls ≠ "java/lang/invoke/MethodHandle" ∧ y.cls ≠ "java/lang/invoke/VarHandle" ∧ (parseMethodDescriptor y.desc).map (fun d => d.parameters.length) = some n) (hR : rm.frames + 1 ≤ R.frames ∧ 8 + (maxL + 11) + rm.locals ≤ R.locals)
    (hci : vwCl[ci]? = some (C, T, N)) (hq0 : wc[0]? = some (b, .inr (ci, fs))) (hn : As.length = n) (hls : ls.size = nL) (hst : st0 = As.reverse ++ .ref b :: rest) (hW : (rest.map fun v => v.category).sum ≤ 8) (hdg : decode cc pc = .ok (.invokevirtual index, 3)) (hf : cells ≤ R.cells ∧ slots ≤ R.slots) :
    va_Run p l e R s m args below meth c H locs cells slots 0 0 (F0 m pc ls st0) rest (Qc (Value.ref b :: As).toArray) free :=
  va_runV (As := As) ⟨hx, hb, hml, hown, hts⟩ hM (cwV n hts hG hw hrc hrs hd hR) ⟨zP.blind, va_recv hK (zsub hP hC) hci hq0, z_pre hK hE (zsub hP hC) (hD.sub isC hnd hC) (.ref b :: As)⟩ rfl hn hls hst (lv_room hW) hdg hf
/-- .. on the caller's own world -/
theorem z_runVA (hx : p.tables.exec = Jvm.exec) (hb : c.code = cc) (hml : c.maxLocals = nL) (hown : s.vm.findClass own = some m.cls) (hts : ∀ w ∈ Ts, w.before args s = true) (hK : va_K D vwCl (zT cI cZ cJ) s) (hE : zE s)
    (hP : va_P D vwCl w H) (hD : va_D A w) 
    (hM : Met l y ws rm (zP D cI cZ cJ w H.size (.ref b :: As)) Qc 0 0 free) (hG : GoodIn Ts (wsV own index C y ws)) (hw : ws = Cond.code y bytes maxL ret :: ws') (hrc : rm.cells = 0) (hrs : rm.slots = 0)
    (hd : y.cls = C ∧ y.cls ≠ "java/lang/invoke/MethodHandle" ∧ y.cls ≠ "java/lang/invoke/VarHandle" ∧ (parseMethodDescriptor y.desc).map (fun d => d.parameters.length) = some n) (hR : rm.frames + 1 ≤ R.frames ∧ 8 + (maxL + 11) + rm.locals ≤ R.locals)
    (hci : vwCl[ci]? = some (C, T, N)) (hq0 : w[0]? = some (b, .inr (ci, fs))) (hn : As.length = n) (hls : ls.size = nL) (hst : st0 = As.reverse ++ .ref b :: rest) (hW : (rest.map fun v => v.category).sum ≤ 8) (hdg : decode cc pc = .ok (.invokevirtual index, 3)) (hf : cells ≤ R.cells ∧ slots ≤ R.slots) :
    va_Run p l e R s m args below meth c H locs cells slots 0 0 (F0 m pc ls st0) rest (Qc (Value.ref b :: As).toArray) free :=
  va_runV (As := As) ⟨hx, hb, hml, hown, hts⟩ hM (cwV n hts hG hw hrc hrs hd hR) ⟨zP.blind, va_recv hK hP hci hq0, z_pre hK hE hP hD (.ref b :: As)⟩ rfl hn hls hst (lv_room hW) hdg hf
/-- invokevirtual of a nest mate's private method -/
theorem z_runVN (hx : p.tables.exec = Jvm.exec) (hb : c.code = cc) (hml : c.maxLocals = nL) (hown : s.vm.findClass own = some m.cls) (hts : ∀ w ∈ Ts, w.before args s = true) (hK : va_K D vwCl (zT cI cZ cJ) s) (hE : zE s)
    (hP : va_P D vwCl w H) (hD : va_D A w) (isC : List Nat) (hC : isC.map (fun i => w[i]?) = wc.map some) (hnd : va_nd isC = true)
    (hM : Met l y ws rm (zP D cI cZ cJ wc H.size (.ref b :: As)) Qc 0 0 free) (hG : GoodIn Ts ws) (hw : ws = Cond.code y bytes maxL ret :: ws') (hrc : rm.cells = 0) (hrs : rm.slots = 0)
    (hl : Cond.methodLinkNest own index y host ∈ zNest) (hini : Cond.initialized y.cls ∈ Ts) (hin : Cond.instanceMethod y ∈ Ts) (hse : Cond.selects C y y ∈ Ts)
    (hd : y.cls ≠ "java/lang/invoke/MethodHandle" ∧ y.cls ≠ "java/lang/invoke/VarHandle" ∧ (parseMethodDescriptor y.desc).map (fun d => d.parameters.length) = some n) (hR : rm.frames + 1 ≤ R.frames ∧ 8 + (maxL + 11) + rm.locals ≤ R.locals)
    (hci : vwCl[ci]? = some (C, T, N)) (hq0 : wc[0]? = some (b, .inr (ci, fs))) (hn : As.length = n) (hls : ls.size = nL) (hst : st0 = As.reverse ++ .ref b :: rest) (hW : (rest.map fun v => v.category).sum ≤ 8) (hdg : decode cc pc = .ok (.invokevirtual index, 3)) (hf : cells ≤ R.cells ∧ slots ≤ R.slots) :
    va_Run p l e R s m args below meth c H locs cells slots 0 0 (F0 m pc ls st0) rest (Qc (Value.ref b :: As).toArray) free :=
  va_runVN (As := As) ⟨hx, hb, hml, hown, hts⟩ hM ⟨va_cnB n hts hG hw hrc hrs (hE _ hl) (hts _ hini) hd hR, hts _ hin, hts _ hse⟩ ⟨zP.blind, va_recv hK (zsub hP hC) hci hq0, z_pre hK hE (zsub hP hC) (hD.sub isC hnd hC) (.ref b :: As)⟩ rfl hn hls hst (lv_room hW) hdg hf
/-- invokestatic -/
theorem z_runS (hx : p.tables.exec = Jvm.exec) (hb : c.code = cc) (hml : c.maxLocals = nL) (hown : s.vm.findClass own = some m.cls) (hts : ∀ w ∈ Ts, w.before args s = true) (hK : va_K D vwCl (zT cI cZ cJ) s) (hE : zE s)
    (hP : va_P D vwCl w H) (hD : va_D A w) (isC : List Nat) (hC : isC.map (fun i => w[i]?) = wc.map some) (hnd : va_nd isC = true)
    (hM : Met l y ws rm (zP D cI cZ cJ wc H.size As) Qc 0 0 free) (hG : GoodIn Ts (va_wsS own index y ws)) (hw : ws = Cond.code y bytes maxL ret :: ws') (hrc : rm.cells = 0) (hrs : rm.slots = 0)
    (hd : y.cls ≠ "java/lang/invoke/MethodHandle" ∧ y.cls ≠ "java/lang/invoke/VarHandle" ∧ (parseMethodDescriptor y.desc).map (fun d => d.parameters.length) = some n) (hR : rm.frames + 1 ≤ R.frames ∧ 8 + (maxL + 11) + rm.locals ≤ R.locals)
    (hn : As.length = n) (hls : ls.size = nL) (hst : st0 = As.reverse ++ rest) (hW : (rest.map fun v => v.category).sum ≤ 8) (hdg : decode cc pc = .ok (.invokestatic index, 3)) (hf : cells ≤ R.cells ∧ slots ≤ R.slots) :
    va_Run p l e R s m args below meth c H locs cells slots 0 0 (F0 m pc ls st0) rest (Qc As.toArray) free :=
  va_runS (As := As) ⟨hx, hb, hml, hown, hts⟩ hM (va_cwS n hts hG hw hrc hrs hd hR) ⟨zP.blind, z_pre hK hE (zsub hP hC) (hD.sub isC hnd hC) As⟩ rfl hn hls hst (lv_room hW) hdg hf
/-- .. on the caller's own world -/
theorem z_runSA (hx : p.tables.exec = Jvm.exec) (hb : c.code = cc) (hml : c.maxLocals = nL) (hown : s.vm.findClass own = some m.cls) (hts : ∀ w ∈ Ts, w.before args s = true) (hK : va_K D vwCl (zT cI cZ cJ) s) (hE : zE s)
    (hP : va_P D vwCl w H) (hD : va_D A w) 
    (hM : Met l y ws rm (zP D cI cZ cJ w H.size As) Qc 0 0 free) (hG : GoodIn Ts (va_wsS own index y ws)) (hw : ws = Cond.code y bytes maxL ret :: ws') (hrc : rm.cells = 0) (hrs : rm.slots = 0)
    (hd : y.cls ≠ "java/lang/invoke/MethodHandle" ∧ y.cls ≠ "java/lang/invoke/VarHandle" ∧ (parseMethodDescriptor y.desc).map (fun d => d.parameters.length) = some n) (hR : rm.frames + 1 ≤ R.frames ∧ 8 + (maxL + 11) + rm.locals ≤ R.locals)
    (hn : As.length = n) (hls : ls.size = nL) (hst : st0 = As.reverse ++ rest) (hW : (rest.map fun v => v.category).sum ≤ 8) (hdg : decode cc pc = .ok (.invokestatic index, 3)) (hf : cells ≤ R.cells ∧ slots ≤ R.slots) :
    va_Run p l e R s m args below meth c H locs cells slots 0 0 (F0 m pc ls st0) rest (Qc As.toArray) free :=
  va_runS (As := As) ⟨hx, hb, hml, hown, hts⟩ hM (va_cwS n hts hG hw hrc hrs hd hR) ⟨zP.blind, z_pre hK hE hP hD As⟩ rfl hn hls hst (lv_room hW) hdg hf
/-- invokestatic of a nest mate's private method -/
theorem z_runSN (hx : p.tables.exec = Jvm.exec) (hb : c.code = cc) (hml : c.maxLocals = nL) (hown : s.vm.findClass own = some m.cls) (hts : ∀ w ∈ Ts, w.before args s = true) (hK : va_K D vwCl (zT cI cZ cJ) s) (hE : zE s)
    (hP : va_P D vwCl w H) (hD : va_D A w) (isC : List Nat) (hC : isC.map (fun i => w[i]?) = wc.map some) (hnd : va_nd isC = true)
    (hM : Met l y ws rm (zP D cI cZ cJ wc H.size As) Qc 0 0 free) (hG : GoodIn Ts ws) (hw : ws = Cond.code y bytes maxL ret :: ws') (hrc : rm.cells = 0) (hrs : rm.slots = 0)
    (hl : Cond.methodLinkNest own index y host ∈ zNest) (hini : Cond.initialized y.cls ∈ Ts) (hstt : Cond.static y ∈ Ts)
    (hd : y.cls ≠ "java/lang/invoke/MethodHandle" ∧ y.cls ≠ "java/lang/invoke/VarHandle" ∧ (parseMethodDescriptor y.desc).map (fun d => d.parameters.length) = some n) (hR : rm.frames + 1 ≤ R.frames ∧ 8 + (maxL + 11) + rm.locals ≤ R.locals)
    (hn : As.length = n) (hls : ls.size = nL) (hst : st0 = As.reverse ++ rest) (hW : (rest.map fun v => v.category).sum ≤ 8) (hdg : decode cc pc = .ok (.invokestatic index, 3)) (hf : cells ≤ R.cells ∧ slots ≤ R.slots) :
    va_Run p l e R s m args below meth c H locs cells slots 0 0 (F0 m pc ls st0) rest (Qc As.toArray) free :=
  va_runSN (As := As) ⟨hx, hb, hml, hown, hts⟩ hM ⟨va_cnB n hts hG hw hrc hrs (hE _ hl) (hts _ hini) hd hR, hts _ hstt, trivial⟩ ⟨zP.blind, z_pre hK hE (zsub hP hC) (hD.sub isC hnd hC) As⟩ rfl hn hls hst (lv_room hW) hdg hf
/-- ends -/
theorem z_iret {P : Int32 → va_W → Prop} {w' : va_W} {v : Int32} (hx : p.tables.exec = Jvm.exec) (hb : c.code = cc) (hr : meth.sig.returnType = some .int) (hlocks : meth.locks = false) (hS : va_S A s.heap H locs) (hP : va_P D vwCl w' H) (hm : w'.map (·.1) = w.map (·.1)) (hdg : decode cc pc = .ok (.ireturn, 1)) (hp : P v w') :
    W p l e R s m args below meth c H locs cells slots (MQ below (zQi D w P A) args s cells slots A) (F0 m pc ls [.int v]) :=
  W.iret hx hb hr (fun t ht hW => ⟨⟨v, w', rfl, ⟨hp, hm⟩, by show va_P D vwCl w' t.heap; rw [ht]; exact hP⟩, hS.F ht⟩) hS.2.2 hdg hlocks
theorem z_zret {P : Int32 → va_W → Prop} {w' : va_W} {v : Int32} (hx : p.tables.exec = Jvm.exec) (hb : c.code = cc) (hr : meth.sig.returnType = some .boolean) (hlocks : meth.locks = false) (hS : va_S A s.heap H locs) (hP : va_P D vwCl w' H) (hm : w'.map (·.1) = w.map (·.1)) (hv : v = 0 ∨ v = 1) (hdg : decode cc pc = .ok (.ireturn, 1)) (hp : P v w') :
    W p l e R s m args below meth c H locs cells slots (MQ below (zQi D w P A) args s cells slots A) (F0 m pc ls [.int v]) :=
  W.zret hx hb hr (by rcases hv with rfl | rfl <;> decide) (fun t ht hW => ⟨⟨v, w', rfl, ⟨hp, hm⟩, by show va_P D vwCl w' t.heap; rw [ht]; exact hP⟩, hS.F ht⟩) hS.2.2 hdg hlocks
theorem z_vret {P : va_W → Prop} {w' : va_W} (hx : p.tables.exec = Jvm.exec) (hb : c.code = cc) (hr : meth.sig.returnType = none) (hlocks : meth.locks = false) (hS : va_S A s.heap H locs) (hP : va_P D vwCl w' H) (hm : w'.map (·.1) = w.map (·.1)) (hdg : decode cc pc = .ok (.return_, 1)) (hp : P w') :
    W p l e R s m args below meth c H locs cells slots (MQ below (zQv D w P A) args s cells slots A) (F0 m pc ls []) :=
  W.vret hx hb hr (fun t ht hW => ⟨⟨w', rfl, ⟨hp, hm⟩, by show va_P D vwCl w' t.heap; rw [ht]; exact hP⟩, hS.F ht⟩) hS.2.2 hdg hlocks
/-- rows of ints and of booleans, by numbers -/
theorem z_iald (hx : p.tables.exec = Jvm.exec) (hb : c.code = cc) (hK : va_K D vwCl (zT cI cZ cJ) s) (hP : va_P D vwCl w H) (q0 : Nat) {q n k : Nat} {f : Nat → Int32} (ha : w[q0]? = some (q, .inl (cI, n, .inl f))) {v : Int32} (hn : n < 2 ^ 31) (hk : k < n) (hv : f k = v) (hdg : decode cc pc = .ok (.iaload, 1))
    (kk : W p l e R s m args below meth c H locs cells slots Q (F0 m (pc + 1) ls (.int v :: rest))) : W p l e R s m args below meth c H locs cells slots Q (F0 m pc ls (.int (nI k) :: .ref q :: rest)) := by
  refine va_iald hx hb hK hP q0 0 ha rfl (vp_in_nI hk hn) hdg ?_
  rw [nI_clamp (Nat.lt_trans hk hn), hv]; exact kk
theorem z_zald (hx : p.tables.exec = Jvm.exec) (hb : c.code = cc) (hK : va_K D vwCl (zT cI cZ cJ) s) (hP : va_P D vwCl w H) (q0 : Nat) {q n k : Nat} {f : Nat → Int32} (ha : w[q0]? = some (q, .inl (cZ, n, .inl f))) {v : Int32} (hn : n < 2 ^ 31) (hk : k < n) (hv : f k = v) (hdg : decode cc pc = .ok (.baload, 1))
    (kk : W p l e R s m args below meth c H locs cells slots Q (F0 m (pc + 1) ls (.int v :: rest))) : W p l e R s m args below meth c H locs cells slots Q (F0 m pc ls (.int (nI k) :: .ref q :: rest)) := by
  refine va_zald hx hb hK hP q0 1 ha rfl (vp_in_nI hk hn) hdg ?_
  rw [nI_clamp (Nat.lt_trans hk hn), hv]; exact kk
theorem z_iast (hx : p.tables.exec = Jvm.exec) (hb : c.code = cc) (hK : va_K D vwCl (zT cI cZ cJ) s) (hP : va_P D vwCl w H) (hD : va_D A w) (hS : va_S A H0 H locs) (q0 : Nat) {q n k : Nat} {f : Nat → Int32} {x : Int32} (ha : w[q0]? = some (q, .inl (cI, n, .inl f))) (hn : n < 2 ^ 31) (hk : k < n) (hdg : decode cc pc = .ok (.iastore, 1))
    (kk : ∀ (H1 : Heap) (locs1 : List Loc), va_P D vwCl (w.set q0 (q, .inl (cI, n, .inl (upd f k x)))) H1 → va_D A (w.set q0 (q, .inl (cI, n, .inl (upd f k x)))) → va_S A H0 H1 locs1 → W p l e R s m args below meth c H1 locs1 cells slots Q (F0 m (pc + 1) ls rest)) : W p l e R s m args below meth c H locs cells slots Q (F0 m pc ls (.int x :: .int (nI k) :: .ref q :: rest)) := by
  refine va_iast hx hb hK hP hD hS q0 0 ha rfl (vp_in_nI hk hn) hdg ?_
  rw [nI_clamp (Nat.lt_trans hk hn)]; exact kk
theorem z_zast (hx : p.tables.exec = Jvm.exec) (hb : c.code = cc) (hK : va_K D vwCl (zT cI cZ cJ) s) (hP : va_P D vwCl w H) (hD : va_D A w) (hS : va_S A H0 H locs) (q0 : Nat) {q n k : Nat} {f : Nat → Int32} {x : Int32} (ha : w[q0]? = some (q, .inl (cZ, n, .inl f))) (hn : n < 2 ^ 31) (hk : k < n) (hv : x = 0 ∨ x = 1) (hdg : decode cc pc = .ok (.bastore, 1))
    (kk : ∀ (H1 : Heap) (locs1 : List Loc), va_P D vwCl (w.set q0 (q, .inl (cZ, n, .inl (upd f k x)))) H1 → va_D A (w.set q0 (q, .inl (cZ, n, .inl (upd f k x)))) → va_S A H0 H1 locs1 → W p l e R s m args below meth c H1 locs1 cells slots Q (F0 m (pc + 1) ls rest)) : W p l e R s m args below meth c H locs cells slots Q (F0 m pc ls (.int x :: .int (nI k) :: .ref q :: rest)) := by
  refine va_zast hx hb hK hP hD hS q0 1 ha rfl (vp_in_nI hk hn) hdg ?_
  rw [nI_clamp (Nat.lt_trans hk hn), show vp_nar .boolean x = x by rcases hv with rfl | rfl <;> decide]; exact kk
/-- branches by numbers -/
theorem zn_ge (hx : p.tables.exec = Jvm.exec) (hb : c.code = cc) {i j : Nat} {off : Int} {tgt : Nat} (hi : i < 2 ^ 31) (hj : j < 2 ^ 31) (hdg : decode cc pc = .ok (.if_icmp .ge off, 3)) (ht : (pc : Int) + off = (tgt : Int))
    (kt : j ≤ i → W p l e R s m args below meth c H locs cells slots Q (F0 m tgt ls rest)) (kf : i < j → W p l e R s m args below meth c H locs cells slots Q (F0 m (pc + 3) ls rest)) : W p l e R s m args below meth c H locs cells slots Q (F0 m pc ls (.int (nI j) :: .int (nI i) :: rest)) :=
  lv_icmp_ge hx hb hdg ht (fun h => kt ((nI_leI hj hi).mp h)) (fun h => kf (Nat.lt_of_not_le fun q => h ((nI_leI hj hi).mpr q)))
theorem zn_lt (hx : p.tables.exec = Jvm.exec) (hb : c.code = cc) {i j : Nat} {off : Int} {tgt : Nat} (hi : i < 2 ^ 31) (hj : j < 2 ^ 31) (hdg : decode cc pc = .ok (.if_icmp .lt off, 3)) (ht : (pc : Int) + off = (tgt : Int))
    (kt : i < j → W p l e R s m args below meth c H locs cells slots Q (F0 m tgt ls rest)) (kf : j ≤ i → W p l e R s m args below meth c H locs cells slots Q (F0 m (pc + 3) ls rest)) : W p l e R s m args below meth c H locs cells slots Q (F0 m pc ls (.int (nI j) :: .int (nI i) :: rest)) :=
  lv_icmp_lt hx hb hdg ht (fun h => kt ((nI_ltI hi hj).mp h)) (fun h => kf (Nat.le_of_not_lt fun q => h ((nI_ltI hi hj).mpr q)))
theorem zn_gt (hx : p.tables.exec = Jvm.exec) (hb : c.code = cc) {i j : Nat} {off : Int} {tgt : Nat} (hi : i < 2 ^ 31) (hj : j < 2 ^ 31) (hdg : decode cc pc = .ok (.if_icmp .gt off, 3)) (ht : (pc : Int) + off = (tgt : Int))
    (kt : j < i → W p l e R s m args below meth c H locs cells slots Q (F0 m tgt ls rest)) (kf : i ≤ j → W p l e R s m args below meth c H locs cells slots Q (F0 m (pc + 3) ls rest)) : W p l e R s m args below meth c H locs cells slots Q (F0 m pc ls (.int (nI j) :: .int (nI i) :: rest)) :=
  lv_icmp_gt hx hb hdg ht (fun h => kt ((nI_ltI hj hi).mp h)) (fun h => kf (Nat.le_of_not_lt fun q => h ((nI_ltI hj hi).mpr q)))
theorem zn_le (hx : p.tables.exec = Jvm.exec) (hb : c.code = cc) {i j : Nat} {off : Int} {tgt : Nat} (hi : i < 2 ^ 31) (hj : j < 2 ^ 31) (hdg : decode cc pc = .ok (.if_icmp .le off, 3)) (ht : (pc : Int) + off = (tgt : Int))
    (kt : i ≤ j → W p l e R s m args below meth c H locs cells slots Q (F0 m tgt ls rest)) (kf : j < i → W p l e R s m args below meth c H locs cells slots Q (F0 m (pc + 3) ls rest)) : W p l e R s m args below meth c H locs cells slots Q (F0 m pc ls (.int (nI j) :: .int (nI i) :: rest)) :=
  lv_icmp_le hx hb hdg ht (fun h => kt ((nI_leI hi hj).mp h)) (fun h => kf (Nat.lt_of_not_le fun q => h ((nI_leI hi hj).mpr q)))
theorem zn_eq (hx : p.tables.exec = Jvm.exec) (hb : c.code = cc) {i j : Nat} {off : Int} {tgt : Nat} (hi : i < 2 ^ 31) (hj : j < 2 ^ 31) (hdg : decode cc pc = .ok (.if_icmp .eq off, 3)) (ht : (pc : Int) + off = (tgt : Int))
    (kt : i = j → W p l e R s m args below meth c H locs cells slots Q (F0 m tgt ls rest)) (kf : ¬ i = j → W p l e R s m args below meth c H locs cells slots Q (F0 m (pc + 3) ls rest)) : W p l e R s m args below meth c H locs cells slots Q (F0 m pc ls (.int (nI j) :: .int (nI i) :: rest)) :=
  lv_icmp_eq hx hb hdg ht (fun h => kt ((nI_eq hi hj).mp h)) (fun h => kf fun q => h ((nI_eq hi hj).mpr q))
theorem zn_ne (hx : p.tables.exec = Jvm.exec) (hb : c.code = cc) {i j : Nat} {off : Int} {tgt : Nat} (hi : i < 2 ^ 31) (hj : j < 2 ^ 31) (hdg : decode cc pc = .ok (.if_icmp .ne off, 3)) (ht : (pc : Int) + off = (tgt : Int))
    (kt : ¬ i = j → W p l e R s m args below meth c H locs cells slots Q (F0 m tgt ls rest)) (kf : i = j → W p l e R s m args below meth c H locs cells slots Q (F0 m (pc + 3) ls rest)) : W p l e R s m args below meth c H locs cells slots Q (F0 m pc ls (.int (nI j) :: .int (nI i) :: rest)) :=
  lv_icmp_ne hx hb hdg ht (fun h => kt fun q => h ((nI_eq hi hj).mpr q)) (fun h => kf ((nI_eq hi hj).mp h))
/-- a truth decides -/
theorem zb_eq (hx : p.tables.exec = Jvm.exec) (hb : c.code = cc) {b : Bool} {off : Int} {tgt : Nat} (hdg : decode cc pc = .ok (.ifCond .eq off, 3)) (ht : (pc : Int) + off = (tgt : Int))
    (kt : b = false → W p l e R s m args below meth c H locs cells slots Q (F0 m tgt ls rest)) (kf : b = true → W p l e R s m args below meth c H locs cells slots Q (F0 m (pc + 3) ls rest)) : W p l e R s m args below meth c H locs cells slots Q (F0 m pc ls (.int (bI b) :: rest)) :=
  lv_if_eq hx hb hdg ht (fun h => kt (bI_eq0.mp h)) (fun h => kf (bI_ne0.mp h))
theorem zb_ne (hx : p.tables.exec = Jvm.exec) (hb : c.code = cc) {b : Bool} {off : Int} {tgt : Nat} (hdg : decode cc pc = .ok (.ifCond .ne off, 3)) (ht : (pc : Int) + off = (tgt : Int))
    (kt : b = true → W p l e R s m args below meth c H locs cells slots Q (F0 m tgt ls rest)) (kf : b = false → W p l e R s m args below meth c H locs cells slots Q (F0 m (pc + 3) ls rest)) : W p l e R s m args below meth c H locs cells slots Q (F0 m pc ls (.int (bI b) :: rest)) :=
  lv_if_ne hx hb hdg ht (fun h => kt (bI_ne0.mp h)) (fun h => kf (bI_eq0.mp h))
theorem zn_add (hx : p.tables.exec = Jvm.exec) (hb : c.code = cc) {i j : Nat} (hdg : decode cc pc = .ok (.iadd, 1)) (k : W p l e R s m args below meth c H locs cells slots Q (F0 m (pc + 1) ls (.int (nI (i + j)) :: rest))) : W p l e R s m args below meth c H locs cells slots Q (F0 m pc ls (.int (nI j) :: .int (nI i) :: rest)) :=
  lv_iadd hx hb hdg (by rw [nI_add]; exact k)
theorem zn_mul (hx : p.tables.exec = Jvm.exec) (hb : c.code = cc) {i j : Nat} (hdg : decode cc pc = .ok (.imul, 1)) (k : W p l e R s m args below meth c H locs cells slots Q (F0 m (pc + 1) ls (.int (nI (i * j)) :: rest))) : W p l e R s m args below meth c H locs cells slots Q (F0 m pc ls (.int (nI j) :: .int (nI i) :: rest)) :=
  lv_imul hx hb hdg (by rw [pk_mul]; exact k)
end ZZ
