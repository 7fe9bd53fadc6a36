/-! The law: what holds in it all along; rows for calls on a piece of its world; the script's cells. -/
def wsL_lawO : List Cond := wsL_law ++ (Cond.classLink RL 33 zAO :: zWO.filter goodWord)
theorem lawO_l {w : Cond} (h : w ∈ wsL_law) : w ∈ wsL_lawO := List.mem_append_left _ h
theorem zWO_k : (Cond.classLink RL 33 zAO :: zWO.filter goodWord).all goodWord = true := by decide +kernel
theorem gL_law_L_levelO : GoodIn wsL_lawO (va_wsS RL 98 yL_level wsL_levelO) := by
  intro w hw
  have key : w ∈ va_wsS RL 98 yL_level wsL_level ∨ w ∈ (Cond.classLink RL 33 zAO :: zWO.filter goodWord) := by
    unfold va_wsS wsL_levelO at hw
    unfold va_wsS
    rcases List.mem_append.mp hw with h | h
    · exact Or.inl (List.mem_append_left _ h)
    · rcases List.mem_cons.mp h with h | h
      · exact Or.inl (List.mem_append_right _ (by rw [h]; exact List.mem_cons_self))
      · rcases List.mem_append.mp h with h | h
        · rcases List.mem_append.mp h with h | h
          · exact Or.inl (List.mem_append_right _ (List.mem_of_mem_tail h))
          · exact Or.inr (by rw [List.mem_singleton.mp h]; exact List.mem_cons_self)
        · exact Or.inr (List.mem_cons_of_mem _ h)
  rcases key with h | h
  · exact ⟨lawO_l (gL_law_L_level w h).1, (gL_law_L_level w h).2⟩
  · exact ⟨List.mem_append_right _ h, good_of_word (List.all_eq_true.mp zWO_k w h)⟩
def zCx (p : Program) (l : Launch) (s : State) (m : MethodId) (meth : Method) (c : Code) (b Ln : Nat) (xs : Nat → Int32) (D : va_G) (cI cZ cJ : ClassId) (A : Nat → Prop) (sa : Nat → Nat) : Prop :=
  p.tables.exec = Jvm.exec ∧ c.code = cL_law ∧ meth.sig.returnType = some .boolean ∧ c.maxLocals = 7 ∧ meth.locks = false ∧ s.vm.findClass RL = some m.cls ∧ (∀ w ∈ wsL_lawO, w.before #[Value.ref b] s = true) ∧ va_K D vwCl (zT cI cZ cJ) s ∧ zE s ∧ zX sa A s s.heap ∧ zNc s ∧ (∀ q, s.heap.size ≤ q → A q) ∧ va_X b Ln xs s s.heap ∧ b < s.heap.size ∧ ¬ A b ∧ l.stackTraces = false ∧ Ln ≤ 2561
section ZC
variable {p : Program} {l : Launch} {e : Env} {R : Room} {s : State} {m : MethodId} {args : Array Value} {below : List Frame} {meth : Method} {c : Code} {H : Heap} {locs : List Loc} {cells slots : Nat} {Q : State → Prop}
variable {cc : ByteArray} {pc : Nat} {ls : Array Slot} {st0 rest : List Value} {D : va_G} {A : Nat → Prop} {cI cZ cJ : ClassId} {w wa : va_W} {H0 : Heap} {a : Array Value} {mc ms : Nat}
theorem z_backTi {P : Int32 → va_W → Prop} (hr : va_Run p l e R s m args below meth c H locs cells slots mc ms (F0 m pc ls st0) rest (zQi D w P (va_A w H.size) a) (va_A w H.size)) (hP : va_P D vwCl (wa ++ w) H) (hD : va_D A (wa ++ w)) (hS : va_S A H0 H locs) (hA : ∀ q, H0.size ≤ q → A q)
    (kk : ∀ (r : Int32) (w1 : va_W) (H1 : Heap) (locs1 : List Loc), P r w1 → va_P D vwCl (wa ++ w1) H1 → va_D A (wa ++ w1) → va_S A H0 H1 locs1 → W p l e R s m args below meth c H1 locs1 (cells + mc) (slots + ms) Q (F0 m (pc + 3) ls (.int r :: rest))) : W p l e R s m args below meth c H locs cells slots Q (F0 m pc ls st0) :=
  z_backSi (wb := []) hr (by rw [List.append_nil]; exact hP) (by rw [List.append_nil]; exact hD) hS hA (fun r w1 H1 locs1 h1 h2 h3 h4 => kk r w1 H1 locs1 h1 (by rw [List.append_nil] at h2; exact h2) (by rw [List.append_nil] at h3; exact h3) h4)
theorem z_backTv {P : va_W → Prop} (hr : va_Run p l e R s m args below meth c H locs cells slots mc ms (F0 m pc ls st0) rest (zQv D w P (va_A w H.size) a) (va_A w H.size)) (hP : va_P D vwCl (wa ++ w) H) (hD : va_D A (wa ++ w)) (hS : va_S A H0 H locs) (hA : ∀ q, H0.size ≤ q → A q)
    (kk : ∀ (w1 : va_W) (H1 : Heap) (locs1 : List Loc), P w1 → va_P D vwCl (wa ++ w1) H1 → va_D A (wa ++ w1) → va_S A H0 H1 locs1 → W p l e R s m args below meth c H1 locs1 (cells + mc) (slots + ms) Q (F0 m (pc + 3) ls rest)) : W p l e R s m args below meth c H locs cells slots Q (F0 m pc ls st0) :=
  z_backSv (wb := []) hr (by rw [List.append_nil]; exact hP) (by rw [List.append_nil]; exact hD) hS hA (fun w1 H1 locs1 h1 h2 h3 h4 => kk w1 H1 locs1 h1 (by rw [List.append_nil] at h2; exact h2) (by rw [List.append_nil] at h3; exact h3) h4)
variable {y : MethodName} {ws ws' Ts : List Cond} {rm : Room} {bytes : ByteArray} {maxL nL index n ci N : Nat} {ret : Option FieldType} {own C : String} {b : Addr} {As : List Value} {T : u_T} {fs : List Value} {Qc : Array Value → State → Outcome → State → Prop} {free : Addr → Prop}
theorem z_runVT (hx : p.tables.exec = Jvm.exec) (hb : c.code = cc) (hml : c.maxLocals = nL) (hown : s.vm.findClass own = some m.cls) (hts : ∀ w ∈ Ts, w.before args s = true) (hK : va_K D vwCl (zT cI cZ cJ) s) (hE : zE s)
    (hP : va_P D vwCl (wa ++ w) H) (hD : va_D A (wa ++ w))
    (hM : Met l y ws rm (zP D cI cZ cJ w H.size (.ref b :: As)) Qc 0 0 free) (hG : GoodIn Ts (wsV own index C y ws)) (hw : ws = Cond.code y bytes maxL ret :: ws') (hrc : rm.cells = 0) (hrs : rm.slots = 0)
    (hd : y.cls = C ∧ y.cls ≠ "java/lang/invoke/MethodHandle" ∧ y.cls ≠ "java/lang/invoke/VarHandle" ∧ (parseMethodDescriptor y.desc).map (fun d => d.parameters.length) = some n) (hR : rm.frames + 1 ≤ R.frames ∧ 8 + (maxL + 11) + rm.locals ≤ R.locals)
    (hci : vwCl[ci]? = some (C, T, N)) (hq0 : w[0]? = some (b, .inr (ci, fs))) (hn : As.length = n) (hls : ls.size = nL) (hst : st0 = As.reverse ++ .ref b :: rest) (hW : (rest.map fun v => v.category).sum ≤ 8) (hdg : decode cc pc = .ok (.invokevirtual index, 3)) (hf : cells ≤ R.cells ∧ slots ≤ R.slots) :
    va_Run p l e R s m args below meth c H locs cells slots 0 0 (F0 m pc ls st0) rest (Qc (Value.ref b :: As).toArray) free :=
  z_runVS (wb := []) hx hb hml hown hts hK hE (by rw [List.append_nil]; exact hP) (by rw [List.append_nil]; exact hD) hM hG hw hrc hrs hd hR hci hq0 hn hls hst hW hdg hf
/-- a cell of the script -/
theorem z_sld (hx : p.tables.exec = Jvm.exec) (hb : c.code = cc) {b Ln k : Nat} {xs : Nat → Int32} {v : Int32} (hX : va_X b Ln xs s H0) (hbl : b < H0.size) (hbA : ¬ A b) (hS : va_S A H0 H locs) (hk : k < Ln) (hLn : Ln < 2 ^ 31) (hv : xs k = v) (hdg : decode cc pc = .ok (.iaload, 1))
    (kk : W p l e R s m args below meth c H locs cells slots Q (F0 m (pc + 1) ls (.int v :: rest))) : W p l e R s m args below meth c H locs cells slots Q (F0 m pc ls (.int (nI k) :: .ref b :: rest)) := by
  refine va_sld hx hb hX hbl hbA hS (vp_in_nI hk hLn) hdg ?_
  rw [nI_clamp (by omega), hv]; exact kk
end ZC
theorem lg_self (x : Int64) : lg_cmp x x = 0 := by
  unfold lg_cmp
  simp [Int64.lt_irrefl]
theorem lg_eq {o : Nat → Int64} {a b : Int32} (h : a = b) : lg_cmp (vp_updL o 0 a.toInt64 0) b.toInt64 = 0 := by
  subst h; exact lg_self _
theorem lg_eqt {o : Nat → Int64} {a b : Bool} (h : a = b) (hb : b = true) : lg_cmp (vp_updL o 0 (bI a).toInt64 0) 1 = 0 := by
  subst h; rw [hb]; exact lg_self _
theorem lg_eqf {o : Nat → Int64} {a b : Bool} (h : a = b) (hb : b = false) : lg_cmp (vp_updL o 0 (bI a).toInt64 0) 0 = 0 := by
  subst h; rw [hb]; exact lg_self _
/-- cell(script, 0) -/
def celI (Ln : Nat) (xs : Nat → Int32) : Int32 := if 0 < Ln then xs 0 else 0
set_option maxHeartbeats 4000000 in
theorem tL_cell (l : Launch) (b Ln : Nat) (xs : Nat → Int32) (hLn : Ln < 2 ^ 31) (sz : Nat) : Met l yL_cell wsL_cell ({ frames := 0, cells := 0, slots := 0, locals := 0 }) (va_Pc [.ref b, .int 0] (fun U => U.heap.size = sz ∧ b < sz ∧ va_X b Ln xs U U.heap)) (va_Qi (fun r (_ : Unit) => r = celI Ln xs) (fun _ _ => True) (fun q => sz ≤ q)) 0 0 (fun q => sz ≤ q) := by
  refine Met.ofW (cc := cL_cell) (maxL := 2) (ret := some .int) (by decide) rfl ?_
  intro p e s m args below meth c s₁ B hml hv
  obtain ⟨rfl, hsz, hbs, hX⟩ := hv
  have hx := B.exec
  have hb := B.bytes
  have hr := B.returns
  have hlocks := B.notSynchronized
  subst hsz
  generalize hAe : (fun q : Nat => s.heap.size ≤ q) = A
  have hbA : ¬ A b := by rw [← hAe]; exact fun h => absurd h (Nat.not_le.mpr hbs)
  have hS : va_S A s.heap s.heap [] := va_S.rf
  have hl := lv_entry ([.ref b, .int 0]) (n := 2) (Nat.le_of_ble_eq_true rfl)
  rw [lg_entry_eq]
  generalize (lg_sl ([.ref b, .int 0]) ++ List.replicate (2 - (lg_sl ([.ref b, .int 0])).length) Slot.unset).toArray = ls at hl ⊢
  have hl : lv_has ls 2 [(0, .ref b), (1, .int 0)] := hl
  refine lv_iload_n hx hb dL_cell_0 rfl (lv_at hl 1 rfl) ?_
  refine lv_aload_n hx hb dL_cell_1 rfl (lv_at hl 0 rfl) ?_
  refine va_slen hx hb hX hbs hbA hS dL_cell_2 ?_
  refine zn_ge (i := 0) (j := Ln) (tgt := 12) hx hb (by omega) hLn dL_cell_3 (by decide) (fun c3 => ?_) (fun c3 => ?_)
  · refine lv_iconst (v := 0) hx hb dL_cell_12 (by decide) ?_
    exact W.iret (v := (0 : Int32)) hx hb hr (fun t ht hW => ⟨⟨0, (), rfl, by rw [celI, if_neg (by omega)], trivial⟩, hS.F ht⟩) hS.2.2 dL_cell_13 hlocks
  · refine lv_aload_n hx hb dL_cell_6 rfl (lv_at hl 0 rfl) ?_
    refine lv_iload_n hx hb dL_cell_7 rfl (lv_at hl 1 rfl) ?_
    refine z_sld (k := 0) (v := xs 0) hx hb hX hbs hbA hS c3 hLn rfl dL_cell_8 ?_
    refine lv_goto (tgt := 13) hx hb dL_cell_9 (by decide) ?_
    exact W.iret (v := xs 0) hx hb hr (fun t ht hW => ⟨⟨xs 0, (), rfl, by rw [celI, if_pos c3], trivial⟩, hS.F ht⟩) hS.2.2 dL_cell_13 hlocks
