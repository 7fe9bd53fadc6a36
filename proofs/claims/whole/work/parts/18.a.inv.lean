/-! What holds between two calls of a script. -/
def InvS (lev i tm nL nC nE : Nat) (L C E F : Nat → Nat → Int32) : Prop :=
  (2 ≤ lev ∧ lev ≤ 20) ∧ nL ≤ 4 ∧ nC ≤ 24 ∧ tm ≤ 40 * i ∧ stOK C nC nE ∧ ((∀ k, lvL lev (L 0 k)) ∧ (∀ k, ldK (L 1 k))) ∧ ((∀ k, lvL lev (C 0 k)) ∧ (∀ k, lvL lev (C 1 k)) ∧ ∀ k, ldK (C 3 k)) ∧ ((∀ k, nC ≤ k → C 4 k = 0) ∧ (∀ k, k < nC → (C 4 k = 0 ↔ C 7 k = -1))) ∧ EvOK C E F nC nE
theorem inv_up {lev i tm nL nC nE : Nat} {L C E F : Nat → Nat → Int32} (h : InvS lev i tm nL nC nE L C E F) : InvS lev (i + 5) tm nL nC nE L C E F := by
  obtain ⟨a, b, c, d, r⟩ := h
  exact ⟨a, b, c, by omega, r⟩
theorem inv_0 {lev : Nat} (h : 2 ≤ lev ∧ lev ≤ 20) : InvS lev 1 0 0 0 0 (fun _ _ => 0) (fun _ _ => 0) (fun _ _ => 0) (fun _ _ => 0) :=
  ⟨h, by omega, by omega, by omega, ⟨fun k hk => absurd hk (Nat.not_lt_zero _), rfl⟩, ⟨fun _ => ⟨0, by omega, rfl⟩, fun _ => ldK_0⟩, ⟨fun _ => ⟨0, by omega, rfl⟩, fun _ => ⟨0, by omega, rfl⟩, fun _ => ldK_0⟩, ⟨fun _ _ => rfl, fun k hk => absurd hk (Nat.not_lt_zero _)⟩, ⟨rfl, rfl, rfl⟩, fun k hk => absurd hk (Nat.not_lt_zero _)⟩
theorem in_50 {v : Int32} (h : inB v 1 50 = true) : ldK v := by
  have h1 := inB_t h
  have e1 : (1 : Int32).toInt = 1 := by decide
  have e50 : (50 : Int32).toInt = 50 := by decide
  have h2 : ¬ v.toInt < 1 := fun q => h1.1 (i32_lt.mpr (by rw [e1]; exact q))
  have h3 := le_iff.mp h1.2
  obtain ⟨j, hj, rfl⟩ := nI_of (x := v) (fun q => by
    have h9 := i32_lt.mp q
    have e0 : (0 : Int32).toInt = 0 := by decide
    omega)
  rw [nI_toInt hj, e50] at h3
  exact ⟨j, by omega, rfl⟩
theorem in_lv {v : Int32} {lev : Nat} (hl : lev ≤ 20) (h : inB v 0 (nI lev - 1) = true) : lvL lev v := by
  obtain ⟨k, hk, e⟩ := (inB_iff (by omega)).mp h
  exact ⟨k, hk, e⟩
theorem upd_all {P : Int32 → Prop} {x : Nat → Int32} {k : Nat} {v : Int32} (h : ∀ j, P (x j)) (hv : P v) (j : Nat) : P (upd x k v j) := by
  unfold upd; split
  · exact hv
  · exact h j
theorem inv_lift {lev i tm nL nC nE : Nat} {L C E F : Nat → Nat → Int32} (h : InvS lev i tm nL nC nE L C E F) {v u : Int32} (h1 : inB v 0 (nI lev - 1) = true) (h2 : inB u 1 50 = true) (h4 : nL < 4) : InvS lev (i + 5) tm (nL + 1) nC nE (upC (upC L 0 nL v) 1 nL u) C E F := by
  obtain ⟨a, b, c, d, e, ⟨f1, f2⟩, r⟩ := h
  refine ⟨a, by omega, c, by omega, e, ⟨fun k => ?_, fun k => ?_⟩, r⟩
  · rw [upC_n (by decide)]
    show lvL lev (upC L 0 nL v 0 k)
    have : upC L 0 nL v 0 = upd (L 0) nL v := by simp [upC]
    rw [this]; exact upd_all f1 (in_lv a.2 h1) k
  · have : upC (upC L 0 nL v) 1 nL u 1 = upd (L 1) nL u := by simp [upC]
    rw [this]; exact upd_all f2 (in_50 h2) k
theorem call_rows {C : Nat → Nat → Int32} {n : Nat} {a b r q t x : Int32} (h4 : C 4 n = 0) : upC (addC C n a b r q t) 5 n x = upC (upC (upC (upC (upC (upC (upC (upC C 0 n a) 1 n b) 2 n r) 3 n q) 6 n t) 7 n (-1)) 8 n (-1)) 5 n x := by
  funext j k
  by_cases hk : k = n
  · subst hk
    by_cases j4 : j = 4
    · subst j4; simp [addC, upC, upd, h4]
    · simp only [addC, upC, upd]
      by_cases j5 : j = 5
      · simp [j5, upd]
      · simp [j4, j5]
  · simp only [addC, upC, upd]
    simp [hk]
    by_cases j5 : j = 5
    · simp [j5, upd, hk]
    · by_cases j4 : j = 4
      · simp [j4, upd, hk]
      · simp [j4, j5]
theorem inv_call {lev i tm nL nC nE : Nat} {L C E F : Nat → Nat → Int32} (h : InvS lev i tm nL nC nE L C E F) {a b rk q x : Int32} (h1 : inB a 0 (nI lev - 1) = true) (h2 : inB b 0 (nI lev - 1) = true) (h5 : inB q 1 50 = true) (h6 : nC < 24) : InvS lev (i + 5) tm nL (nC + 1) nE L (upC (addC C nC a b rk q (nI tm)) 5 nC x) E F := by
  obtain ⟨h1', b0, c0, d0, e0, f0, ⟨g0, g1, g3⟩, ⟨k4, k7⟩, ev⟩ := h
  have r0 : upC (addC C nC a b rk q (nI tm)) 5 nC x 0 = upd (C 0) nC a := by simp [addC, upC]
  have r1 : upC (addC C nC a b rk q (nI tm)) 5 nC x 1 = upd (C 1) nC b := by simp [addC, upC]
  have r3 : upC (addC C nC a b rk q (nI tm)) 5 nC x 3 = upd (C 3) nC q := by simp [addC, upC]
  have r4 : upC (addC C nC a b rk q (nI tm)) 5 nC x 4 = upd (C 4) nC 0 := by simp [addC, upC]
  have r7 : upC (addC C nC a b rk q (nI tm)) 5 nC x 7 = upd (C 7) nC (-1) := by simp [addC, upC]
  have r5 : ∀ j, j < nC → upC (addC C nC a b rk q (nI tm)) 5 nC x 5 j = C 5 j := fun j hj => by simp [addC, upC, upd, show j ≠ nC by omega]
  have r4' : ∀ j, j < nC → upC (addC C nC a b rk q (nI tm)) 5 nC x 4 j = C 4 j := fun j hj => by rw [r4]; simp [upd, show j ≠ nC by omega]
  have r4n : upC (addC C nC a b rk q (nI tm)) 5 nC x 4 nC = 0 := by rw [r4]; simp [upd]
  refine ⟨h1', b0, by omega, by omega, ⟨fun k hk => ?_, ?_⟩, f0, ⟨fun k => ?_, fun k => ?_, fun k => ?_⟩, ⟨fun k hk => ?_, fun k hk => ?_⟩, ev.1, fun k hk => ?_⟩
  · by_cases e : k = nC
    · subst e; exact Or.inl r4n
    · rw [r4' k (by omega)]; exact e0.1 k (by omega)
  · rw [stS, stS_cg (C := C) (fun k hk => r4' k hk), r4n, ← e0.2]; rfl
  · rw [r0]; exact upd_all g0 (in_lv h1'.2 h1) k
  · rw [r1]; exact upd_all g1 (in_lv h1'.2 h2) k
  · rw [r3]; exact upd_all g3 (in_50 h5) k
  · rw [r4]; simp only [upd, if_neg (show ¬ k = nC by omega)]; exact k4 k (by omega)
  · by_cases e : k = nC
    · subst e; rw [r4, r7]; simp [upd]
    · rw [r4, r7]; simp only [upd, if_neg e]; exact k7 k (by omega)
  · obtain ⟨j, hj, x1, x2, x3⟩ := ev.2 k hk
    exact ⟨j, by omega, x1, by rw [r5 j hj]; exact x2, by rw [r4' j hj]; exact x3⟩
theorem inv_step {lev i tm nL nC nE n : Nat} {gn : Int32} {L B C E F : Nat → Nat → Int32} (h : InvS lev i tm nL nC nE L C E F) (hi : i ≤ 2561) (hn : n ≤ 200) :
    R5 nC lev C L (stpZ tm nL nC B (gn, nE, L, C, E) n) (stpM tm nL nC B (gn, nE, L, C, F) n) := by
  obtain ⟨h1', b0, c0, d0, e0, ⟨f0, f1⟩, ⟨g0, g1, g3⟩, ⟨k4, k7⟩, ev⟩ := h
  exact stp_R (tm := tm) (z := (gn, nE, L, C, E)) (y := (gn, nE, L, C, F)) c0 h1'.2 f1 g3 g0 g1 ⟨rfl, rfl, ⟨rfl, rfl, e0, ev, fun _ _ _ _ => rfl, k4, k7⟩, f0, rfl⟩ n (by omega)
theorem inv_step' {lev i tm nL nC nE n : Nat} {L C E F : Nat → Nat → Int32} (h : InvS lev i tm nL nC nE L C E F) (hn : n ≤ 200) {gn gn' : Int32} {ne : Nat} {L' C' E' F' : Nat → Nat → Int32} (hR : R5 nC lev C L (gn, ne, L', C', E') (gn', ne, L', C', F')) : InvS lev (i + 5) (tm + n) nL nC ne L' C' E' F' := by
  obtain ⟨h1', b0, c0, d0, e0, ⟨f0, f1⟩, ⟨g0, g1, g3⟩, ⟨k4, k7⟩, ev⟩ := h
  obtain ⟨-, -, ⟨-, -, s1, s2, s3, s4, s5⟩, s6, s7⟩ := hR
  dsimp only at s1 s2 s3 s4 s5 s6 s7
  refine ⟨h1', b0, c0, by omega, s1, ⟨s6, fun k => by rw [s7]; exact f1 k⟩, ⟨fun k => by rw [s3 0 (by decide) (by decide) (by decide)]; exact g0 k, fun k => by rw [s3 1 (by decide) (by decide) (by decide)]; exact g1 k, fun k => by rw [s3 3 (by decide) (by decide) (by decide)]; exact g3 k⟩, ⟨s4, s5⟩, s2⟩
theorem inv_give {lev i tm nL nC nE : Nat} {L C E F : Nat → Nat → Int32} (h : InvS lev i tm nL nC nE L C E F) (B : Nat → Nat → Int32) (lf : Int32) : gaF L B nL lf C nC = gmF L B nL lf C nC ∧ InvS lev (i + 5) tm nL nC nE L (gmF L B nL lf C nC).1 E F := by
  obtain ⟨h1', b0, c0, d0, e0, ⟨f0, f1⟩, ⟨g0, g1, g3⟩, ⟨k4, k7⟩, ev⟩ := h
  have hg := fun n => give_eq (L := L) (B := B) (nL := nL) (lf := lf) (C := C) (fun k => lvL_K h1'.2 (f0 k)) (fun k => lvL_K h1'.2 (g0 k)) n
  refine ⟨(hg nC).1, h1', b0, c0, by omega, ?_, ⟨f0, f1⟩, ?_, ?_, ev.1, fun k hk => ?_⟩
  · refine ⟨fun k hk => by rw [(hg nC).2 4 (by decide)]; exact e0.1 k hk, ?_⟩
    rw [stS_cg (C := C) (fun k _ => by rw [(hg nC).2 4 (by decide)])]; exact e0.2
  · rw [(hg nC).2 0 (by decide), (hg nC).2 1 (by decide), (hg nC).2 3 (by decide)]; exact ⟨g0, g1, g3⟩
  · rw [(hg nC).2 4 (by decide), (hg nC).2 7 (by decide)]; exact ⟨k4, k7⟩
  · obtain ⟨j, hj, x1, x2, x3⟩ := ev.2 k hk
    refine ⟨j, hj, x1, ?_, by rw [(hg nC).2 4 (by decide)]; exact x3⟩
    rw [give_5 nC j x3 (fun m => (hg m).2 4 (by decide))]; exact x2
