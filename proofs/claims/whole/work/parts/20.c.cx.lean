/-! What holds in the law all along, out of what the statement gives of the start. -/
theorem not_in : ∀ x ∈ zNot, Cond.not (.castable x.1 x.2) ∈ flatC (Jvm.Cond.and given_1 narrow_1) := by decide +kernel
theorem str_in : ∀ x ∈ zStr, Cond.exactly (.string "LiftRows2" x.1) "java/lang/String" ∈ flatC (Jvm.Cond.and given_1 narrow_1) := by decide +kernel
theorem sta_in1 : Cond.isRef (.static Bundle.tN "UNASSIGNED_STACK" Bundle.steD) ∈ flatC (Jvm.Cond.and given_1 narrow_1) := by decide +kernel
theorem sta_in2 : Cond.isRef (.static Bundle.tN "SUPPRESSED_SENTINEL" Bundle.listD) ∈ flatC (Jvm.Cond.and given_1 narrow_1) := by decide +kernel
theorem arr_of {s : State} {args : Array Value} {ty : FieldType} (h : (Cond.arrayClass ty).before args s = true) (hty : ty = .int ∨ ty = .boolean ∨ ty = .long) : ∃ cA : ClassId, ArrOfT s cA ty ∧ va_RA s cA ty := by
  obtain ⟨cA, kA, comp, hfind, hk, hkind⟩ := Cond.arrayClass_spec h
  refine ⟨cA, fun n z => ⟨fun k h => (by cases h), kA, hk, comp, hkind⟩, ?_⟩
  rcases hty with rfl | rfl | rfl <;> exact hfind
theorem law_cx {p : Program} {l : Launch} {s : State} {m : MethodId} {meth : Method} {c : Code} {b L : Nat} {xs : Nat → Int32} (hL : L ≤ 2561) (hst : l.stackTraces = false)
    (hx : p.tables.exec = Jvm.exec) (hb : c.code = code) (hr : meth.sig.returnType = ret) (hml : c.maxLocals = 7) (hown : s.vm.findClass RL = some m.cls) (hts : ∀ w ∈ lw_tbl, w.before #[Value.ref b] s = true) (hX : va_X b L xs s s.heap) (hbl : b < s.heap.size) (hlocks : meth.locks = false) (hgv : (Jvm.Cond.and given_1 narrow_1).before #[Value.ref b] s = true) :
    ∃ (D : va_G) (cI cZ cJ : ClassId) (sa : Nat → Nat), zCx p l s m meth c b L xs D cI cZ cJ (fun q => s.heap.size ≤ q) sa := by
  have hs := flat_of_before _ hgv
  obtain ⟨c0, i0, k0⟩ := u_known (C := RJx00060) (T := TJx00060) (N := 6) (n := 6) hts inJx00060 (hts _ zIns_0)
  obtain ⟨c1, i1, k1⟩ := u_known (C := RX0) (T := TX0) (N := 10) (n := 10) hts inX0 (hts _ zIns_1)
  obtain ⟨c2, i2, k2⟩ := u_known (C := RX1) (T := TX1) (N := 5) (n := 5) hts inX1 (hts _ zIns_2)
  obtain ⟨c3, i3, k3⟩ := u_known (C := RX2) (T := TX2) (N := 9) (n := 9) hts inX2 (hts _ zIns_3)
  obtain ⟨c4, i4, k4⟩ := u_known (C := RX3) (T := TX3) (N := 5) (n := 5) hts inX3 (hts _ zIns_4)
  obtain ⟨c5, i5, k5⟩ := u_known (C := RX4) (T := TX4) (N := 28) (n := 28) hts inX4 (hts _ zIns_5)
  obtain ⟨cI, aI, rI⟩ := arr_of (hts _ zArr_I) (Or.inl rfl)
  obtain ⟨cZ, aZ, rZ⟩ := arr_of (hts _ zArr_Z) (Or.inr (Or.inl rfl))
  obtain ⟨cJ, aJ, rJ⟩ := arr_of (hts _ zArr_J) (Or.inr (Or.inr rfl))
  have hstr : ∀ k : Nat, ∃ a : Nat, ∀ tx : String, (k, tx) ∈ zStr → vk_R "LiftRows2" k tx a s := fun k => by
    by_cases h : ∃ tx, (k, tx) ∈ zStr
    · obtain ⟨tx, htx⟩ := h
      obtain ⟨a, c, cA, kA, q1, -⟩ := Cond.exactly_spec (args := #[Value.ref b]) (first := s) (o := none) (s := s) (idx := []) (t := .string "LiftRows2" k) (cls := "java/lang/String") (hs _ (str_in _ htx))
      exact ⟨a, fun tx' h' => vk_R.of (hts _ (zStr_in _ h')) q1⟩
    · exact ⟨0, fun tx htx => absurd ⟨tx, htx⟩ h⟩
  obtain ⟨sa, hsa⟩ := Classical.axiomOfChoice hstr
  have hA : ∀ a : Nat, a < s.heap.size → ¬ (fun q => s.heap.size ≤ q) a := fun a ha => Nat.not_le.mpr ha
  refine ⟨(fun k => if k = 0 then c0 else if k = 1 then c1 else if k = 2 then c2 else if k = 3 then c3 else if k = 4 then c4 else c5, fun k => if k = 0 then i0 else if k = 1 then i1 else if k = 2 then i2 else if k = 3 then i3 else if k = 4 then i4 else i5), cI, cZ, cJ, sa,
    hx, hb, hr, hml, hlocks, hown, fun w h => hts w (lawO_in w h), ⟨?_, ?_⟩, fun w h => ?_, ⟨fun w h => ?_, fun x h => hsa x.1 x.2 h, vx_Zqof (hts _ zSta_1) (hts _ zSta_3) (hs _ sta_in1) hA, vx_Zqof (hts _ zSta_2) (hts _ zSta_3) (hs _ sta_in2) hA⟩, fun x h => va_Nc.of (hs _ (not_in x h)), fun _ h => h, hX, hbl, hA b hbl, hst, hL⟩
  · intro k q hq
    match k, hq with
    | 0, hq => cases hq; exact k0
    | 1, hq => cases hq; exact k1
    | 2, hq => cases hq; exact k2
    | 3, hq => cases hq; exact k3
    | 4, hq => cases hq; exact k4
    | 5, hq => cases hq; exact k5
    | k + 6, hq => simp at hq
  · intro k q hq
    match k, hq with
    | 0, hq => cases hq; exact ⟨aI, rI⟩
    | 1, hq => cases hq; exact ⟨aZ, rZ⟩
    | 2, hq => cases hq; exact ⟨aJ, rJ⟩
    | k + 3, hq => simp at hq
  · have hk := List.all_eq_true.mp zNest_k w h
    have h1 := hts w (zNest_in w h)
    cases w <;> first | (simp [zIsN] at hk; done) | exact va_Nw.of rfl h1
  · have hk := List.all_eq_true.mp zBad_k w h
    have h1 := hts w (zBad_in w h)
    cases w <;> first | (simp [zIsB] at hk; done) | exact va_Nw.of rfl h1
