/-! A lift's second, the same for both. -/
def lvL (lev : Nat) (x : Int32) : Prop := ∃ j : Nat, j < lev ∧ x = nI j
theorem lvL_K {lev : Nat} (h : lev ≤ 20) {x : Int32} : lvL lev x → lvK x := fun ⟨j, hj, e⟩ => ⟨j, by omega, e⟩
theorem sd_1 (x : Int32) : x * 1 = x := Int32.mul_one x
theorem sd_m (x y : Int32) : (x - y) * (-1) = y - x := by
  rw [Int32.mul_neg, Int32.mul_one, Int32.neg_sub]
theorem lvK_sub {x y : Int32} (hx : lvK x) (hy : lvK y) : (x - y).toInt = x.toInt - y.toInt ∧ 0 ≤ x.toInt ∧ x.toInt < 20 := by
  obtain ⟨a, ha, rfl⟩ := hx
  obtain ⟨b, hb, rfl⟩ := hy
  have h1 := nI_sub (a := a) (b := b) (by omega) (by omega)
  have ta := nI_toInt (n := a) (by omega)
  have tb := nI_toInt (n := b) (by omega)
  omega
theorem wrk_eq {L C : Nat → Nat → Int32} {lf nC : Nat} {sd : Int32} (hn : nC ≤ 24) (h0 : ∀ k, lvK (C 0 k)) (h1 : ∀ k, lvK (C 1 k)) (hL : lvK (L 0 lf)) (hsd : sd = 1 ∨ sd = -1) : wrkB L C lf nC sd = anyW (wf L C lf sd) nC := by
  unfold wrkB
  have hso : ∀ k, lvK (if isB C k 0 (nI lf) = true then C 0 k else C 1 k) := fun k => by split; exact h0 k; exact h1 k
  have hlt : ∀ x, lvK x → (x - L 0 lf) * sd < 20 ∧ (0 < (x - L 0 lf) * sd ↔ (if sd ≤ 0 then x < L 0 lf else L 0 lf < x)) := fun x hx => by
    have a1 := lvK_sub hx hL
    have a2 := lvK_sub hL hx
    have e20 : (20 : Int32).toInt = 20 := by decide
    have e0 : (0 : Int32).toInt = 0 := by decide
    rcases hsd with rfl | rfl
    · rw [sd_1, if_neg (by decide), i32_lt, i32_lt, i32_lt, e20, e0]; omega
    · rw [sd_m, if_pos (by decide), i32_lt, i32_lt, i32_lt, e20, e0]; omega
  have hwf : ∀ k, wf L C lf sd k = ((isB C k 0 (nI lf) || isB C k 1 (nI lf)) && decide (0 < ((if isB C k 0 (nI lf) = true then C 0 k else C 1 k) - L 0 lf) * sd)) := fun k => by
    have hl := (hlt _ (hso k)).2
    have hx : wf L C lf sd k = decide (if sd ≤ 0 then lvI L C lf k < L 0 lf else L 0 lf < lvI L C lf k) := by
      unfold wf; split <;> rfl
    rw [hx]
    unfold lvI
    by_cases h1 : isB C k 1 (nI lf) = true
    · have h0' := isB_01 h1
      rw [h0'] at hl ⊢
      simp only [h1, if_true, Bool.false_eq_true, if_false, Bool.or_true, Bool.true_and] at hl ⊢
      exact decide_eq_decide.mpr hl.symm
    · rw [if_neg h1]
      by_cases h0 : isB C k 0 (nI lf) = true
      · rw [if_pos h0] at hl ⊢
        rw [if_pos h0, h0, Bool.true_or, Bool.true_and]
        exact decide_eq_decide.mpr hl.symm
      · rw [if_neg h0]
        have e1 : isB C k 1 (nI lf) = false := by simpa using h1
        have e0 : isB C k 0 (nI lf) = false := by simpa using h0
        rw [e1, e0, Bool.or_false, Bool.false_and]
        refine decide_eq_false (fun q => ?_)
        split at q <;> exact Int32.lt_irrefl q
  rcases nsF_spec (C := C) (a := L 0 lf) (sd := sd) (wt := setG (fun k => isB C k 0 (nI lf)) nI nC) (ab := setG (fun k => isB C k 1 (nI lf)) nI nC) (fun k => isB C k 0 (nI lf) || isB C k 1 (nI lf)) (fun k => if isB C k 0 (nI lf) = true then C 0 k else C 1 k) (n := nC)
    (fun k hk => by
      rw [bitB_set hn hk, bitB_set hn hk]
      exact ⟨rfl, fun _ => ⟨rfl, (hlt _ (hso k)).1⟩⟩) with ⟨e, hno⟩ | ⟨k, hk, hak, hpk, e, -⟩
  · rw [e]
    have : anyW (wf L C lf sd) nC = false := by
      cases hw : anyW (wf L C lf sd) nC with
      | false => rfl
      | true =>
        obtain ⟨k, hk, hf⟩ := anyW_iff.mp hw
        rw [hwf k, Bool.and_eq_true] at hf
        exact absurd (of_decide_eq_true hf.2) (hno k hk hf.1)
    rw [this]; rfl
  · rw [e]
    have hw : anyW (wf L C lf sd) nC = true := anyW_of hk (by rw [hwf k]; simp only [hak, Bool.true_and]; exact decide_eq_true hpk)
    rw [hw]
    show (!decide ((if isB C k 0 (nI lf) = true then C 0 k else C 1 k) = -1)) = true
    rw [decide_eq_false (lvK_ne (hso k))]; rfl
theorem dir_eq (d : Int32) (up dn : Bool) (h : (!up && !dn) = false) : dirF d up dn = dirM d up dn := by
  unfold dirF dirM
  cases up <;> cases dn
  · exact absurd h (by decide)
  · by_cases h1 : d = -1 <;> simp [h1]
  · by_cases h1 : d = 1
    · simp [h1]
    · by_cases h2 : d = -1 <;> simp [h1, h2]
  · by_cases h1 : d = 1
    · subst h1; decide
    · by_cases h2 : d = -1
      · subst h2; decide
      · simp [h1, h2]
theorem dir_cases (d : Int32) (up dn : Bool) (h : (!up && !dn) = false) : (dirF d up dn = 1 ∧ up = true) ∨ (dirF d up dn = -1 ∧ dn = true) := by
  unfold dirF
  cases up <;> cases dn
  · exact absurd h (by decide)
  · exact Or.inr ⟨by simp, rfl⟩
  · exact Or.inl ⟨by simp, rfl⟩
  · by_cases h2 : d = -1
    · exact Or.inr ⟨by simp [h2], rfl⟩
    · exact Or.inl ⟨by simp [h2], rfl⟩
theorem pas_eq {L B : Nat → Nat → Int32} {i : Nat} (h : ¬ L 3 i ≤ 0) : pasL L B i = upC L 3 i (opM L B i) := by
  unfold pasL
  congr 1
  unfold opM kpI
  have hx : 0 < (L 3 i).toInt := by
    have e0 : (0 : Int32).toInt = 0 := by decide
    have h9 : ¬ (L 3 i).toInt ≤ (0 : Int32).toInt := fun q => h (le_iff.mpr q)
    rw [e0] at h9; omega
  obtain ⟨j, hj, e⟩ := nI_of (x := L 3 i) (fun q => by
    have h9 := i32_lt.mp q
    have e0 : (0 : Int32).toInt = 0 := by decide
    omega)
  rw [e, nI_toInt hj] at hx
  rw [e, nI_s1 (by omega)]
  have tj := nI_toInt (n := j - 1) (by omega)
  have e0 : (0 : Int32).toInt = 0 := by decide
  have e1 : (1 : Int32).toInt = 1 := by decide
  by_cases hb : B 2 i = 0
  · rw [if_pos hb, if_pos hb]
    rw [nI_s1 (by omega)]
    by_cases hj1 : j = 1
    · subst hj1; decide
    · rw [if_pos (i32_lt.mpr (by rw [tj, e0]; omega))]
  · rw [if_neg hb, if_neg hb]
    by_cases hj1 : j = 1
    · subst hj1; decide
    · rw [if_neg (show ¬ nI j = 1 from fun q => hj1 (by rw [show (1 : Int32) = nI 1 from rfl] at q; exact (nI_eq hj (by decide)).mp q)), nI_s1 (by omega)]
      by_cases hj2 : j = 2
      · subst hj2; decide
      · rw [if_pos (i32_lt.mpr (by rw [tj, e1]; omega))]
theorem goL_0 {L : Nat → Nat → Int32} {i : Nat} : goL L i 0 = upC L 2 i 0 := by
  unfold goL
  rw [Int32.add_zero]
  have : L 0 i = upC L 2 i 0 0 i := by rw [upC_n (by decide)]
  rw [this, upC_same]
def R5 (nC lev : Nat) (C0 L0 : Nat → Nat → Int32) (z y : Z5) : Prop :=
  z.1 = y.1 ∧ z.2.2.1 = y.2.2.1 ∧ R3 nC C0 (z.2.1, z.2.2.2) (y.2.1, y.2.2.2) ∧ (∀ k, lvL lev (y.2.2.1 0 k)) ∧ y.2.2.1 1 = L0 1
theorem wf_lim {lev : Nat} {L C : Nat → Nat → Int32} {lf nC : Nat} {sd : Int32} (h0 : ∀ k, lvL lev (C 0 k)) (h1 : ∀ k, lvL lev (C 1 k)) (hw : anyW (wf L C lf sd) nC = true) : ∃ x, lvL lev x ∧ (if sd ≤ 0 then x < L 0 lf else L 0 lf < x) := by
  obtain ⟨k, hk, hf⟩ := anyW_iff.mp hw
  have hx : wf L C lf sd k = decide (if sd ≤ 0 then lvI L C lf k < L 0 lf else L 0 lf < lvI L C lf k) := by
    unfold wf; split <;> rfl
  rw [hx] at hf
  have hf := of_decide_eq_true hf
  unfold lvI at hf
  by_cases h1' : isB C k 1 (nI lf) = true
  · rw [if_pos h1'] at hf; exact ⟨_, h1 k, hf⟩
  · rw [if_neg h1'] at hf
    by_cases h0' : isB C k 0 (nI lf) = true
    · rw [if_pos h0'] at hf; exact ⟨_, h0 k, hf⟩
    · rw [if_neg h0'] at hf
      exfalso
      split at hf <;> exact Int32.lt_irrefl hf
theorem one_R {nC tm lf lev : Nat} {B C0 L0 : Nat → Nat → Int32} (hn : nC ≤ 24) (hlev : lev ≤ 20) (ht : tm < 2 ^ 31) (hcp : ∀ k, ldK (L0 1 k)) (h3 : ∀ k, ldK (C0 3 k)) (h0 : ∀ k, lvL lev (C0 0 k)) (hto : ∀ k, lvL lev (C0 1 k)) {z y : Z5} (h : R5 nC lev C0 L0 z y) :
    R5 nC lev C0 L0 (oneZ tm lf nC B z) (oneM tm lf nC B y) := by
  obtain ⟨gn, ne, L, C, E⟩ := z
  obtain ⟨gn', ne', L', C', F⟩ := y
  obtain ⟨e1, e2, hR, hlv, hc1⟩ := h
  have e3 : ne = ne' := hR.1
  have e4 : C = C' := hR.2.1
  dsimp only at e1 e2 hlv hc1
  subst e1; subst e2; subst e3; subst e4
  have hC0 : C 0 = C0 0 := hR.2.2.2.2.1 0 (by decide) (by decide) (by decide)
  have hC1 : C 1 = C0 1 := hR.2.2.2.2.1 1 (by decide) (by decide) (by decide)
  have hC3 : C 3 = C0 3 := hR.2.2.2.2.1 3 (by decide) (by decide) (by decide)
  have g0 : ∀ k, lvL lev (C 0 k) := fun k => by rw [hC0]; exact h0 k
  have g1 : ∀ k, lvL lev (C 1 k) := fun k => by rw [hC1]; exact hto k
  have g3 : ∀ k, ldK (C 3 k) := fun k => by rw [hC3]; exact h3 k
  have gL : ∀ k, ldK (L 1 k) := fun k => by rw [hc1]; exact hcp k
  unfold oneZ oneM
  dsimp only
  by_cases ho : L 3 lf ≤ 0
  · rw [if_pos ho, if_pos ho, opn_eq hn gL g3]
    by_cases hs : stpB L C lf nC = true
    · rw [if_pos hs, if_pos hs]
      have hx := ex_R (tm := tm) (lf := lf) (L := L) hn ht gL h3 (fun k => lvL_K hlev (hto k)) hR
      exact ⟨rfl, rfl, hx, fun k => by show lvL lev (upC L 3 lf 3 0 k); rw [upC_n (by decide)]; exact hlv k, by show upC L 3 lf 3 1 = _; rw [upC_n (by decide)]; exact hc1⟩
    · rw [if_neg hs, if_neg hs, wrk_eq hn (fun k => lvL_K hlev (g0 k)) (fun k => lvL_K hlev (g1 k)) (lvL_K hlev (hlv lf)) (Or.inl rfl), wrk_eq hn (fun k => lvL_K hlev (g0 k)) (fun k => lvL_K hlev (g1 k)) (lvL_K hlev (hlv lf)) (Or.inr rfl)]
      cases hno : (!anyW (wf L C lf 1) nC && !anyW (wf L C lf (-1)) nC) with
      | true =>
        rw [if_pos rfl]
        have hu : anyW (wf L C lf 1) nC = false := by rw [Bool.and_eq_true] at hno; simpa using hno.1
        have hd : anyW (wf L C lf (-1)) nC = false := by rw [Bool.and_eq_true] at hno; simpa using hno.2
        rw [hu, hd]
        have ed : dirF (L 2 lf) false false = 0 := by simp [dirF]
        rw [ed, goL_0, show absI 0 = 0 from rfl, Int32.add_zero]
        exact ⟨rfl, rfl, hR, fun k => by show lvL lev (upC L 2 lf 0 0 k); rw [upC_n (by decide)]; exact hlv k, by show upC L 2 lf 0 1 = _; rw [upC_n (by decide)]; exact hc1⟩
      | false =>
        rw [if_neg (by decide), ← dir_eq _ _ _ hno]
        have hab : absI (dirF (L 2 lf) (anyW (wf L C lf 1) nC) (anyW (wf L C lf (-1)) nC)) = 1 := by
          rcases dir_cases (L 2 lf) _ _ hno with ⟨e, -⟩ | ⟨e, -⟩ <;> rw [e] <;> decide
        rw [hab]
        refine ⟨rfl, rfl, hR, fun k => ?_, ?_⟩
        · show lvL lev (goL L lf (dirF (L 2 lf) (anyW (wf L C lf 1) nC) (anyW (wf L C lf (-1)) nC)) 0 k)
          unfold goL
          by_cases hk : k = lf
          · subst hk
            rw [upC_s]
            obtain ⟨a, ha, ea⟩ := hlv k
            rcases dir_cases (L 2 k) _ _ hno with ⟨e, hw⟩ | ⟨e, hw⟩
            · rw [e]
              obtain ⟨x, ⟨b, hb, rfl⟩, hx⟩ := wf_lim g0 g1 hw
              rw [if_neg (by decide), ea, i32_lt, nI_toInt (by omega), nI_toInt (by omega)] at hx
              exact ⟨a + 1, by omega, by rw [ea, nI_1]⟩
            · rw [e]
              obtain ⟨x, ⟨b, hb, rfl⟩, hx⟩ := wf_lim g0 g1 hw
              rw [if_pos (by decide), ea, i32_lt, nI_toInt (by omega), nI_toInt (by omega)] at hx
              exact ⟨a - 1, by omega, by rw [ea, ← nI_s1 (by omega), Int32.sub_eq_add_neg]⟩
          · have : upC (upC L 2 lf (dirF (L 2 lf) (anyW (wf L C lf 1) nC) (anyW (wf L C lf (-1)) nC))) 0 lf (L 0 lf + dirF (L 2 lf) (anyW (wf L C lf 1) nC) (anyW (wf L C lf (-1)) nC)) 0 k = L 0 k := by
              simp [upC, upd, hk]
            rw [this]; exact hlv k
        · show goL L lf (dirF (L 2 lf) (anyW (wf L C lf 1) nC) (anyW (wf L C lf (-1)) nC)) 1 = L0 1
          unfold goL
          rw [upC_n (by decide), upC_n (by decide)]; exact hc1
  · rw [if_neg ho, if_neg ho, pas_eq ho]
    exact ⟨rfl, rfl, hR, fun k => by show lvL lev (upC L 3 lf (opM L B lf) 0 k); rw [upC_n (by decide)]; exact hlv k, by show upC L 3 lf (opM L B lf) 1 = _; rw [upC_n (by decide)]; exact hc1⟩
theorem sec_R {nC tm lev : Nat} {B C0 L0 : Nat → Nat → Int32} (hn : nC ≤ 24) (hlev : lev ≤ 20) (ht : tm < 2 ^ 31) (hcp : ∀ k, ldK (L0 1 k)) (h3 : ∀ k, ldK (C0 3 k)) (h0 : ∀ k, lvL lev (C0 0 k)) (hto : ∀ k, lvL lev (C0 1 k)) {z y : Z5} (h : R5 nC lev C0 L0 z y) :
    ∀ n, R5 nC lev C0 L0 (secZ tm nC B z n) (secM tm nC B y n)
  | 0 => h
  | n + 1 => by
    have ih := sec_R (B := B) hn hlev ht hcp h3 h0 hto h n
    rw [secZ, secM]
    by_cases hb : B 0 n = 0
    · rw [if_pos hb, if_pos hb]; exact one_R hn hlev ht hcp h3 h0 hto ih
    · rw [if_neg hb, if_neg hb]; exact ih
theorem stp_R {nC tm nL lev : Nat} {B C0 L0 : Nat → Nat → Int32} (hn : nC ≤ 24) (hlev : lev ≤ 20) (hcp : ∀ k, ldK (L0 1 k)) (h3 : ∀ k, ldK (C0 3 k)) (h0 : ∀ k, lvL lev (C0 0 k)) (hto : ∀ k, lvL lev (C0 1 k)) {z y : Z5} (h : R5 nC lev C0 L0 z y) :
    ∀ n, tm + n < 2 ^ 31 → R5 nC lev C0 L0 (stpZ tm nL nC B z n) (stpM tm nL nC B y n)
  | 0, _ => h
  | n + 1, ht => by
    have ih := stp_R (B := B) (nL := nL) (tm := tm) hn hlev hcp h3 h0 hto h n (by omega)
    rw [stpZ, stpM]
    exact sec_R hn hlev (by omega) hcp h3 h0 hto ih nL
/-- told 0, count, event -/
theorem td_eq {L B C : Nat → Nat → Int32} {k nC : Nat} {u : Int32} (h1 : ∀ j, lvK (C 1 j)) : tdX L B C k nC u = tdI L B C k nC u := by
  unfold tdX tdI
  by_cases h : u = 0
  · rw [if_pos h, if_pos h, aboI]
    exact sumW_cg (fun j _ => by rw [decide_eq_false (lvK_ne (h1 j)), Bool.not_false, Bool.and_true])
  · rw [if_neg h, if_neg h]
theorem cntW_cg {f g : Nat → Bool} : ∀ {n : Nat}, (∀ k, k < n → f k = g k) → cntW f n = cntW g n
  | 0, _ => rfl
  | n + 1, he => by rw [cntW, cntW, cntW_cg (n := n) (fun k hk => he k (by omega)), he n (by omega)]
theorem ct_eq {lev tm nL nC nE : Nat} {gn : Int32} {C : Nat → Nat → Int32} {u : Int32} : ctX lev tm gn nL nC nE C u = cnI lev tm gn nL nC nE C u := by
  unfold ctX cnI
  by_cases h0 : u = 0
  · rw [if_pos h0, if_pos h0]
  rw [if_neg h0, if_neg h0]
  by_cases h1 : u = 1
  · rw [if_pos h1, if_pos h1]
  rw [if_neg h1, if_neg h1]
  by_cases h2 : u = 2
  · rw [if_pos h2, if_pos h2]
  rw [if_neg h2, if_neg h2]
  by_cases h3 : u = 3
  · rw [if_pos h3, if_pos h3]
  rw [if_neg h3, if_neg h3]
  by_cases h4 : u = 4
  · rw [if_pos h4, if_pos h4]
  rw [if_neg h4, if_neg h4]
  by_cases h8 : u = 8
  · subst h8; simp
  simp only [if_neg h8]
  by_cases h5 : u = 5
  · rw [if_pos h5, if_pos h5]
    congr 1
    exact cntW_cg (fun j _ => by simp [h5])
  rw [if_neg h5, if_neg h5]
  by_cases h6 : u = 6
  · rw [if_pos h6, if_pos h6]
    congr 1
    exact cntW_cg (fun j _ => by simp [h5, isB])
  rw [if_neg h6, if_neg h6]
theorem ev_eq {C E F : Nat → Nat → Int32} {nC ne k j : Nat} {u : Int32} (h : EvOK C E F nC ne) (hk : k < ne) (hj : F 2 k = nI j) (hjn : j < nC) (hn : nC ≤ 24) : evX E k u = evI C F k j u := by
  obtain ⟨⟨a0, a2, a3⟩, hev⟩ := h
  obtain ⟨j', hj', b1, b2, -⟩ := hev k hk
  have e : j' = j := by
    rw [hj] at b1
    exact ((nI_eq (by omega) (by omega)).mp b1).symm
  subst e
  unfold evX evI
  rw [a0, a2, a3, b2]
