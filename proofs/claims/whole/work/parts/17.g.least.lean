/-! The least way, as the reference reckons it, is the shortest. -/
theorem dig_add : ∀ m, m < 4 → ∀ j, j < m → ∀ x, x < 3 ^ m → (x + 3 ^ m) / 3 ^ j % 3 = x / 3 ^ j % 3 := by decide +kernel
theorem dig_top : ∀ m, m < 4 → ∀ x, x < 3 ^ m → (x + 3 ^ m) / 3 ^ m % 3 = 1 ∧ x / 3 ^ m % 3 = 0 := by decide +kernel
theorem dig_up : ∀ j, j < 4 → ∀ i, i < 4 → ∀ s, s < 81 → s / 3 ^ j % 3 < 2 → (s + 3 ^ j) / 3 ^ i % 3 = if i = j then s / 3 ^ j % 3 + 1 else s / 3 ^ i % 3 := by decide +kernel
theorem dig_all : ∀ m, m ≤ 4 → ∀ s, s < 3 ^ m → (∀ j, j < m → 2 ≤ s / 3 ^ j % 3) → s = 3 ^ m - 1 := by decide +kernel
theorem dig_last : ∀ m, m ≤ 4 → ∀ j, j < m → (3 ^ m - 1) / 3 ^ j % 3 = 2 := by decide +kernel
theorem far_dst {a b : Nat} (ha : a < 20) (hb : b < 20) : farI (nI a) (nI b) = nI (dst a b) := by
  unfold farI dst
  by_cases h : a ≤ b
  · rw [if_pos (le_iff.mpr (by rw [nI_toInt (by omega), nI_toInt (by omega)]; omega)), nI_subN h]; congr 1; omega
  · rw [if_neg (fun q => by have := le_iff.mp q; rw [nI_toInt (by omega), nI_toInt (by omega)] at this; omega), nI_subN (by omega)]; congr 1; omega
section LD
variable {C : Nat → Nat → Int32} {lf : Int32}
theorem cnt_lt {f : Nat → Bool} {k n : Nat} (hk : k < n) (hf : f k = true) : cntW f k < cntW f n := by
  have h1 := cntW_mono (f := f) (a := k + 1) (b := n) (by omega)
  rw [cntW_t hf] at h1
  omega
theorem cnt_inj {f : Nat → Bool} {k k' : Nat} (h : f k = true) (h' : f k' = true) (e : cntW f k = cntW f k') : k = k' := by
  by_cases h1 : k < k'
  · have := cnt_lt h1 h; omega
  · by_cases h2 : k' < k
    · have := cnt_lt h2 h'; omega
    · omega
theorem ab_spec : ∀ n j, j < cntW (lsB C lf) n → lsB C lf (abN C lf n j) = true ∧ abN C lf n j < n ∧ cntW (lsB C lf) (abN C lf n j) = j
  | 0, j, h => absurd h (Nat.not_lt_zero _)
  | n + 1, j, h => by
    have ih := ab_spec n j
    unfold abN
    by_cases hb : lsB C lf n = true
    · rw [if_pos hb]
      rw [cntW_t hb] at h
      by_cases e : j = cntW (lsB C lf) n
      · subst e; simp [hb]
      · simp only [if_neg e]
        have := ih (by omega)
        exact ⟨this.1, by omega, this.2.2⟩
    · rw [if_neg hb]
      rw [cntW_f (by simpa using hb)] at h
      have := ih h
      exact ⟨this.1, by omega, this.2.2⟩
/-- the digits of a state -/
def dS (C : Nat → Nat → Int32) (lf : Int32) (n s : Nat) : Nat → Nat := fun k => if k < n ∧ lsB C lf k = true then s / 3 ^ cntW (lsB C lf) k % 3 else 2
theorem fi_dig : ∀ n, cntW (lsB C lf) n ≤ 4 → ∀ k, k < n → lsB C lf k = true → fiF C lf n / 3 ^ cntW (lsB C lf) k % 3 = if isB C k 1 lf = true then 1 else 0
  | 0, _, k, hk, _ => absurd hk (Nat.not_lt_zero _)
  | n + 1, hc, k, hk, hl => by
    have hm := cntW_mono (f := lsB C lf) (a := n) (b := n + 1) (by omega)
    have ih := fi_dig n (by omega) k
    have hfl := fiF_lt C lf n
    rw [fiF]
    by_cases e : k = n
    · subst e
      rw [cntW_t hl] at hc
      have ht := dig_top (cntW (lsB C lf) k) (by omega) (fiF C lf k) hfl
      by_cases h1 : isB C k 1 lf = true
      · rw [if_pos h1, if_pos h1, Nat.one_mul, ht.1]
      · rw [if_neg h1, if_neg h1, ht.2]
    · have hlt := cnt_lt (f := lsB C lf) (k := k) (n := n) (by omega) hl
      by_cases h1 : isB C n 1 lf = true
      · rw [if_pos h1, Nat.one_mul]
        rw [cntW_t (show lsB C lf n = true by simp [lsB, h1])] at hc
        rw [dig_add _ (by omega) _ hlt _ hfl]
        exact ih (by omega) hl
      · rw [if_neg h1]; exact ih (by omega) hl
theorem dB_dS {n : Nat} (hn : n ≤ 24) (hc : cntW (lsB C lf) n ≤ 4) : dB (setG (fun k => isB C k 0 lf) nI n) (setG (fun k => isB C k 1 lf) nI n) = dS C lf n (fiF C lf n) := by
  funext k
  unfold dB dS
  by_cases hk : k < n
  · rw [bt_set (by omega) (by omega), bt_set (by omega) (by omega), decide_eq_true hk, Bool.true_and, Bool.true_and]
    by_cases h1 : isB C k 1 lf = true
    · have hl : lsB C lf k = true := by simp [lsB, h1]
      rw [if_pos (show k < n ∧ lsB C lf k = true from ⟨hk, hl⟩), fi_dig n hc k hk hl, if_pos h1, isB_01 h1]
      simp [h1]
    · by_cases h0 : isB C k 0 lf = true
      · have hl : lsB C lf k = true := by simp [lsB, h0]
        rw [if_pos (show k < n ∧ lsB C lf k = true from ⟨hk, hl⟩), fi_dig n hc k hk hl, if_pos h0, if_neg h1]
      · rw [if_neg h0, if_neg h1, if_neg (fun q => by have := q.2; simp [lsB, h0, h1] at this)]
  · rw [if_neg (fun q : k < n ∧ _ => hk q.1)]
    by_cases h32 : k < 32
    · rw [bt_set h32 (by omega), bt_set h32 (by omega), decide_eq_false hk]; simp
    · rw [b_big (by omega), b_big (by omega)]; simp
theorem rem_cnt {d : Nat → Nat} {f : Nat → Bool} : ∀ n, (∀ k, k < n → f k = false → 2 ≤ d k) → remN d n ≤ 2 * cntW f n
  | 0, _ => by simp [remN]
  | n + 1, h => by
    have ih := rem_cnt (d := d) (f := f) n (fun k hk => h k (by omega))
    unfold remN
    by_cases hf : f n = true
    · rw [cntW_t hf]; omega
    · have hf' : f n = false := by simpa using hf
      have := h n (by omega) hf'
      rw [cntW_f hf']; omega
variable {fN tN : Nat → Nat} {n : Nat}
theorem dS_up {s j : Nat} (hc : cntW (lsB C lf) n ≤ 4) (hj : j < cntW (lsB C lf) n) (hs : s < 3 ^ cntW (lsB C lf) n) (hd : s / 3 ^ j % 3 < 2) :
    dS C lf n s (abN C lf n j) = s / 3 ^ j % 3 ∧ upN (dS C lf n s) (abN C lf n j) (dS C lf n s (abN C lf n j) + 1) = dS C lf n (s + 3 ^ j) ∧ stN fN tN (dS C lf n s) (abN C lf n j) = nxN fN tN (abN C lf n) s j := by
  obtain ⟨h1, h2, h3⟩ := ab_spec n j hj
  have hs81 : s < 81 := Nat.lt_of_lt_of_le hs (pow3_le hc)
  have e : dS C lf n s (abN C lf n j) = s / 3 ^ j % 3 := by unfold dS; rw [if_pos ⟨h2, h1⟩, h3]
  refine ⟨e, ?_, ?_⟩
  · funext k
    unfold upN
    by_cases hk : k = abN C lf n j
    · rw [if_pos hk, e]; subst hk
      unfold dS
      rw [if_pos ⟨h2, h1⟩, h3, dig_up j (by omega) j (by omega) s hs81 hd, if_pos rfl]
    · rw [if_neg hk]
      unfold dS
      by_cases hk2 : k < n ∧ lsB C lf k = true
      · rw [if_pos hk2, if_pos hk2]
        have hlt := cnt_lt hk2.1 hk2.2
        rw [dig_up j (by omega) _ (by omega) s hs81 hd, if_neg (fun q => hk (cnt_inj hk2.2 h1 (by rw [h3]; exact q)))]
      · rw [if_neg hk2, if_neg hk2]
  · unfold stN nxN; rw [e]
/-- what the table holds -/
def TOK (fN tN : Nat → Nat) (C : Nat → Nat → Int32) (lf : Int32) (n a0 fi : Nat) (T : Nat → Int32) : Prop := ∀ s lv, s < 3 ^ cntW (lsB C lf) n → lv < 20 → ∃ t, t ≤ 1000000 ∧ T (20 * s + lv) = nI t ∧ (t < 1000000 → ∀ c, PathN fN tN n lv (dS C lf n s) c → PathN fN tN n a0 (dS C lf n fi) (t + c))
def leT (T' T : Nat → Int32) : Prop := ∀ a, (T' a).toInt ≤ (T a).toInt
theorem leT_low {T : Nat → Int32} {a : Nat} {v : Int32} : leT (lowF T a v) T := fun b => by
  unfold lowF
  by_cases h : T a ≤ v
  · rw [if_pos h]; exact Int.le_refl _
  · rw [if_neg h]
    unfold upd
    by_cases e : b = a
    · subst e
      have h9 : ¬ (T b).toInt ≤ v.toInt := fun q => h (le_iff.mpr q)
      simp; omega
    · simp [e]
theorem low_le {T : Nat → Int32} {a : Nat} {v : Int32} : (lowF T a v a).toInt ≤ v.toInt := by
  unfold lowF
  by_cases h : T a ≤ v
  · rw [if_pos h]; exact le_iff.mp h
  · rw [if_neg h]; simp [upd]
theorem low_ne {T : Nat → Int32} {a b : Nat} {v : Int32} (h : b ≠ a) : lowF T a v b = T b := by
  unfold lowF
  split
  · rfl
  · simp [upd, h]
theorem TOK_low {a0 fi : Nat} {T : Nat → Int32} (h : TOK fN tN C lf n a0 fi T) {s' nx t' : Nat} (hnx : nx < 20) (ht : t' < 2 ^ 30) (hp : ∀ c, PathN fN tN n nx (dS C lf n s') c → PathN fN tN n a0 (dS C lf n fi) (t' + c)) : TOK fN tN C lf n a0 fi (lowF T (20 * s' + nx) (nI t')) := by
  intro s lv hs hlv
  obtain ⟨t, h1, h2, h3⟩ := h s lv hs hlv
  by_cases e : 20 * s + lv = 20 * s' + nx
  · have e1 : s = s' := by omega
    have e2 : lv = nx := by omega
    subst e1; subst e2
    unfold lowF
    by_cases hle : T (20 * s + lv) ≤ nI t'
    · rw [if_pos hle]; exact ⟨t, h1, h2, h3⟩
    · rw [if_neg hle]
      have hlt : t' < t := by
        rw [h2, le_iff, nI_toInt (by omega), nI_toInt (by omega)] at hle; omega
      exact ⟨t', by omega, by simp [upd], fun _ => hp⟩
  · rw [low_ne e]; exact ⟨t, h1, h2, h3⟩
theorem go_ok {a0 fi s lv t : Nat} {T : Nat → Int32} (hc : cntW (lsB C lf) n ≤ 4) (hf : ∀ k, k < n → fN k < 20) (hT : ∀ k, k < n → tN k < 20) (h : TOK fN tN C lf n a0 fi T) (hs : s < 3 ^ cntW (lsB C lf) n) (hlv : lv < 20) (ht : t < 1000000) (e : T (20 * s + lv) = nI t) :
    ∀ j, j ≤ cntW (lsB C lf) n → TOK fN tN C lf n a0 fi (goF fN tN (abN C lf n) s lv T j) ∧ leT (goF fN tN (abN C lf n) s lv T j) T ∧ (∀ b, b < 20 * (s + 1) → goF fN tN (abN C lf n) s lv T j b = T b) ∧
      (∀ i, i < j → s / 3 ^ i % 3 < 2 → (goF fN tN (abN C lf n) s lv T j (20 * (s + 3 ^ i) + nxN fN tN (abN C lf n) s i)).toInt ≤ t + dst lv (nxN fN tN (abN C lf n) s i))
  | 0, _ => ⟨h, fun _ => Int.le_refl _, fun _ _ => rfl, fun i hi => absurd hi (Nat.not_lt_zero _)⟩
  | j + 1, hj => by
    obtain ⟨i1, i2, i3, i4⟩ := go_ok hc hf hT h hs hlv ht e j (by omega)
    rw [goF]
    by_cases hd : s / 3 ^ j % 3 < 2
    · rw [if_pos hd]
      obtain ⟨d1, d2, d3⟩ := dS_up (fN := fN) (tN := tN) hc (show j < cntW (lsB C lf) n by omega) hs hd
      obtain ⟨b1, b2, b3⟩ := ab_spec (C := C) (lf := lf) n j (by omega)
      have hnx : nxN fN tN (abN C lf n) s j < 20 := by unfold nxN; split; exact hf _ b2; exact hT _ b2
      have hdst : dst lv (nxN fN tN (abN C lf n) s j) < 20 := by unfold dst; omega
      have hpw : 0 < 3 ^ j := Nat.pow_pos (by decide)
      rw [i3 (20 * s + lv) (by omega), e, far_dst hlv hnx, nI_add]
      generalize hG : goF fN tN (abN C lf n) s lv T j = G at i1 i2 i3 i4 ⊢
      refine ⟨TOK_low i1 hnx (by omega) (fun c hcp => ?_), fun b => Int.le_trans (leT_low b) (i2 b), fun b hb => ?_, fun i hi hdi => ?_⟩
      · obtain ⟨t0, h1, h2, h3⟩ := i1 s lv hs hlv
        have et : t0 = t := by
          rw [i3 (20 * s + lv) (by omega), e] at h2
          exact ((nI_eq (by omega) (by omega)).mp h2).symm
        subst et
        have hst := PathN.step (fN := fN) (tN := tN) (n := n) (p := lv) (d := dS C lf n s) (c := c) (abN C lf n j) b2 (by rw [d1]; exact hd) (by rw [d2, d3]; exact hcp)
        have := h3 ht _ hst
        rw [d3, ← Nat.add_assoc] at this
        exact this
      · rw [low_ne (by omega)]; exact i3 b hb
      · by_cases hij : i = j
        · subst hij
          refine Int.le_trans low_le ?_
          rw [nI_toInt (by omega)]; omega
        · exact Int.le_trans (leT_low _) (i4 i (by omega) hdi)
    · rw [if_neg hd]
      refine ⟨i1, i2, i3, fun i hi hdi => ?_⟩
      by_cases hij : i = j
      · subst hij; exact absurd hdi hd
      · exact i4 i (by omega) hdi
theorem row_ok {a0 fi s : Nat} {T : Nat → Int32} (hc : cntW (lsB C lf) n ≤ 4) (hf : ∀ k, k < n → fN k < 20) (hT : ∀ k, k < n → tN k < 20) (h : TOK fN tN C lf n a0 fi T) (hs : s < 3 ^ cntW (lsB C lf) n) :
    ∀ lv, lv ≤ 20 → TOK fN tN C lf n a0 fi (rowF fN tN (abN C lf n) s (cntW (lsB C lf) n) T lv) ∧ leT (rowF fN tN (abN C lf n) s (cntW (lsB C lf) n) T lv) T ∧ (∀ b, b < 20 * (s + 1) → rowF fN tN (abN C lf n) s (cntW (lsB C lf) n) T lv b = T b) ∧
      (∀ q t, q < lv → t < 1000000 → T (20 * s + q) = nI t → ∀ i, i < cntW (lsB C lf) n → s / 3 ^ i % 3 < 2 → (rowF fN tN (abN C lf n) s (cntW (lsB C lf) n) T lv (20 * (s + 3 ^ i) + nxN fN tN (abN C lf n) s i)).toInt ≤ t + dst q (nxN fN tN (abN C lf n) s i))
  | 0, _ => ⟨h, fun _ => Int.le_refl _, fun _ _ => rfl, fun q t hq => absurd hq (Nat.not_lt_zero _)⟩
  | lv + 1, hlv => by
    obtain ⟨i1, i2, i3, i4⟩ := row_ok hc hf hT h hs lv (by omega)
    rw [rowF]
    generalize hG : rowF fN tN (abN C lf n) s (cntW (lsB C lf) n) T lv = G at i1 i2 i3 i4 ⊢
    obtain ⟨t, h1, h2, -⟩ := i1 s lv hs (by omega)
    have e6 : (1000000 : Int32).toInt = 1000000 := by decide
    by_cases hlt : G (20 * s + lv) < 1000000
    · rw [if_pos hlt]
      have ht : t < 1000000 := by rw [h2, i32_lt, nI_toInt (by omega), e6] at hlt; omega
      obtain ⟨g1, g2, g3, g4⟩ := go_ok hc hf hT i1 hs (lv := lv) (by omega) ht h2 _ (Nat.le_refl _)
      refine ⟨g1, fun b => Int.le_trans (g2 b) (i2 b), fun b hb => (g3 b hb).trans (i3 b hb), fun q t' hq ht' e i hi hdi => ?_⟩
      by_cases hql : q = lv
      · subst hql
        rw [i3 _ (by omega), e] at h2
        have : t' = t := (nI_eq (by omega) (by omega)).mp h2
        subst this
        exact g4 i hi hdi
      · exact Int.le_trans (g2 _) (i4 q t' (by omega) ht' e i hi hdi)
    · rw [if_neg hlt]
      refine ⟨i1, i2, i3, fun q t' hq ht' e i hi hdi => ?_⟩
      by_cases hql : q = lv
      · subst hql
        exfalso
        rw [i3 _ (by omega), e, i32_lt, nI_toInt (by omega), e6] at hlt
        omega
      · exact i4 q t' (by omega) ht' e i hi hdi
theorem dp_ok {a0 fi lev v : Nat} {T : Nat → Int32} (hlev : lev ≤ 20) (hc : cntW (lsB C lf) n ≤ 4) (hf : ∀ k, k < n → fN k < lev) (hT : ∀ k, k < n → tN k < lev) (hv : v < 1000000) (h : TOK fN tN C lf n a0 fi T)
    (hw : ∃ s lv t c2, (fi ≤ s ∨ s = 3 ^ cntW (lsB C lf) n - 1) ∧ s < 3 ^ cntW (lsB C lf) n ∧ lv < lev ∧ T (20 * s + lv) = nI t ∧ t + c2 ≤ v ∧ PathN fN tN n lv (dS C lf n s) c2) :
    ∀ q, fi + q ≤ 3 ^ cntW (lsB C lf) n → TOK fN tN C lf n a0 fi (dpF fN tN (abN C lf n) fi lev (cntW (lsB C lf) n) T q) ∧
      ∃ s lv t c2, (fi + q ≤ s ∨ s = 3 ^ cntW (lsB C lf) n - 1) ∧ s < 3 ^ cntW (lsB C lf) n ∧ lv < lev ∧ dpF fN tN (abN C lf n) fi lev (cntW (lsB C lf) n) T q (20 * s + lv) = nI t ∧ t + c2 ≤ v ∧ PathN fN tN n lv (dS C lf n s) c2
  | 0, _ => ⟨h, hw⟩
  | q + 1, hq => by
    obtain ⟨i1, s, lv, t, c2, hs1, hs2, hlv, et, hle, hpa⟩ := dp_ok hlev hc hf hT hv h hw q (by omega)
    rw [dpF]
    generalize hG : dpF fN tN (abN C lf n) fi lev (cntW (lsB C lf) n) T q = G at i1 et ⊢
    have hf' : ∀ k, k < n → fN k < 20 := fun k hk => Nat.lt_of_lt_of_le (hf k hk) hlev
    have hT' : ∀ k, k < n → tN k < 20 := fun k hk => Nat.lt_of_lt_of_le (hT k hk) hlev
    obtain ⟨r1, r2, r3, r4⟩ := row_ok (s := fi + q) hc hf' hT' i1 (by omega) lev hlev
    refine ⟨r1, ?_⟩
    by_cases hst : s = fi + q ∧ ¬ s = 3 ^ cntW (lsB C lf) n - 1
    · obtain ⟨es, hs3⟩ := hst
      rcases path_or hpa with ⟨-, hall⟩ | ⟨k, c', hk, hd, ec, hp2⟩
      · exfalso
        refine hs3 (dig_all _ hc s hs2 (fun j hj => ?_))
        obtain ⟨b1, b2, b3⟩ := ab_spec (C := C) (lf := lf) n j hj
        have := hall _ b2
        unfold dS at this
        rw [if_pos ⟨b2, b1⟩, b3] at this
        exact this
      · have hl : lsB C lf k = true := by
          unfold dS at hd
          by_cases hl : k < n ∧ lsB C lf k = true
          · exact hl.2
          · rw [if_neg hl] at hd; omega
        have hj := cnt_lt hk hl
        obtain ⟨b1, b2, b3⟩ := ab_spec (C := C) (lf := lf) n _ hj
        have ek : abN C lf n (cntW (lsB C lf) k) = k := cnt_inj b1 hl b3
        have hd' : s / 3 ^ cntW (lsB C lf) k % 3 < 2 := by
          unfold dS at hd
          rw [if_pos ⟨hk, hl⟩] at hd; exact hd
        obtain ⟨d1, d2, d3⟩ := dS_up (fN := fN) (tN := tN) hc hj hs2 hd'
        rw [ek] at d1 d2 d3
        have hlt := dig_lt hc hj hs2 hd'
        have hnx : nxN fN tN (abN C lf n) s (cntW (lsB C lf) k) < lev := by unfold nxN; rw [ek]; split; exact hf _ hk; exact hT _ hk
        have hr := r4 lv t hlv (by omega) (by rw [← es]; exact et) _ hj (by rw [← es]; exact hd')
        rw [← es] at hr ⊢
        obtain ⟨t', g1, g2, -⟩ := r1 (s + 3 ^ cntW (lsB C lf) k) _ hlt (Nat.lt_of_lt_of_le hnx hlev)
        rw [← es] at g2
        rw [g2, nI_toInt (by omega)] at hr
        have hpw : 0 < 3 ^ cntW (lsB C lf) k := Nat.pow_pos (by decide)
        refine ⟨s + 3 ^ cntW (lsB C lf) k, _, t', c', Or.inl (by omega), hlt, hnx, g2, ?_, ?_⟩
        · rw [d3] at ec; omega
        · rw [d2, d3] at hp2; exact hp2
    · obtain ⟨t', g1, g2, -⟩ := r1 s lv hs2 (by omega)
      have hr := r2 (20 * s + lv)
      obtain ⟨t0, k1, k2, -⟩ := i1 s lv hs2 (by omega)
      have e0 : t0 = t := by rw [et] at k2; exact ((nI_eq (by omega) (by omega)).mp k2).symm
      rw [g2, et, nI_toInt (by omega), nI_toInt (by omega)] at hr
      refine ⟨s, lv, t', c2, ?_, hs2, hlv, g2, by omega, hpa⟩
      by_cases e9 : s = 3 ^ cntW (lsB C lf) n - 1
      · exact Or.inr e9
      · rcases hs1 with h1 | h1
        · refine Or.inl ?_
          have : ¬ s = fi + q := fun q9 => hst ⟨q9, e9⟩
          omega
        · exact absurd h1 e9
theorem be_ok {T : Nat → Int32} {a : Nat} : ∀ lev, (beF T a lev).toInt ≤ 1000000 ∧ (∀ lv, lv < lev → (beF T a lev).toInt ≤ (T (20 * a + lv)).toInt) ∧ (beF T a lev = 1000000 ∨ ∃ lv, lv < lev ∧ beF T a lev = T (20 * a + lv))
  | 0 => ⟨by show (1000000 : Int32).toInt ≤ 1000000; decide, fun lv h => absurd h (Nat.not_lt_zero _), Or.inl rfl⟩
  | lev + 1 => by
    obtain ⟨i1, i2, i3⟩ := be_ok (T := T) (a := a) lev
    rw [beF]
    by_cases h : beF T a lev ≤ T (20 * a + lev)
    · rw [if_pos h]
      refine ⟨i1, fun lv hlv => ?_, ?_⟩
      · by_cases e : lv = lev
        · subst e; exact le_iff.mp h
        · exact i2 lv (by omega)
      · rcases i3 with e | ⟨lv, hl, e⟩
        · exact Or.inl e
        · exact Or.inr ⟨lv, by omega, e⟩
    · rw [if_neg h]
      have h' : (T (20 * a + lev)).toInt < (beF T a lev).toInt := by
        have h9 : ¬ (beF T a lev).toInt ≤ (T (20 * a + lev)).toInt := fun q => h (le_iff.mpr q)
        omega
      refine ⟨by omega, fun lv hlv => ?_, Or.inr ⟨lev, by omega, rfl⟩⟩
      by_cases e : lv = lev
      · subst e; exact Int.le_refl _
      · have := i2 lv (by omega); omega
theorem least_eq {lev a0 : Nat} {ys : Nat → Int32} (hn : n ≤ 24) (hlev : lev ≤ 20) (ha : a0 < lev) (hc : cntW (lsB C lf) n ≤ 4) (hf : ∀ k, C 0 k = nI (fN k) ∧ fN k < lev) (ht : ∀ k, C 1 k = nI (tN k) ∧ tN k < lev) :
    lwF C n 8 (nI a0) (setG (fun k9 => isB C k9 0 lf) nI n) (setG (fun k9 => isB C k9 1 lf) nI n) = ldR fN tN C lf n lev a0 ys := by
  have ed := dB_dS (C := C) (lf := lf) hn hc
  obtain ⟨v, hv, ev, hlo, hpa⟩ := lw_spec (fN := fN) (tN := tN) (C := C) hn (fun k => ⟨(hf k).1, by have := (hf k).2; omega⟩) (fun k => ⟨(ht k).1, by have := (ht k).2; omega⟩) 8 (by omega) a0 (by omega) (setG (fun k9 => isB C k9 0 lf) nI n) (setG (fun k9 => isB C k9 1 lf) nI n) (fun k hk => by
    rw [ed]; unfold dS; rw [if_neg (by omega)])
  rw [ev]
  rw [ed] at hlo hpa
  have hrem : remN (absN fN tN n a0 (dS C lf n (fiF C lf n))) n ≤ 8 := by
    have h1 := remN_le (d := dS C lf n (fiF C lf n)) (d' := absN fN tN n a0 (dS C lf n (fiF C lf n))) (fun k => absN_le k) n
    have h2 := rem_cnt (d := dS C lf n (fiF C lf n)) (f := lsB C lf) n (fun k hk hl => by unfold dS; rw [if_neg (fun q => by rw [hl] at q; exact absurd q.2 (by decide))]; omega)
    omega
  obtain ⟨c0, hc0, hp0⟩ := hpa hrem
  have hcv : c0 = v := by have := hlo c0 hp0; omega
  subst hcv
  have hfi := fiF_lt C lf n
  have h81 := pow3_le hc
  have h0 : TOK fN tN C lf n a0 (fiF C lf n) (upd (faF ys (20 * 3 ^ cntW (lsB C lf) n)) (20 * fiF C lf n + a0) 0) := by
    intro s lv hs hlv
    by_cases e : 20 * s + lv = 20 * fiF C lf n + a0
    · have e1 : s = fiF C lf n := by omega
      have e2 : lv = a0 := by omega
      refine ⟨0, by omega, by rw [e]; simp [upd]; rfl, fun _ c hcp => ?_⟩
      rw [Nat.zero_add, ← e1, ← e2]; exact hcp
    · exact ⟨1000000, by omega, by simp only [upd, if_neg e, faF, if_pos (show 20 * s + lv < 20 * 3 ^ cntW (lsB C lf) n by omega)]; rfl, fun q => absurd q (Nat.lt_irrefl _)⟩
  obtain ⟨d1, s, lv, t, c2, hs1, hs2, hlv, et, hle, hpc⟩ := dp_ok (v := c0) hlev hc (fun k _ => (hf k).2) (fun k _ => (ht k).2) (by omega) h0 ⟨fiF C lf n, a0, 0, c0, Or.inl (Nat.le_refl _), hfi, ha, by simp [upd]; rfl, by omega, hp0⟩ (3 ^ cntW (lsB C lf) n - fiF C lf n) (by omega)
  have es : s = 3 ^ cntW (lsB C lf) n - 1 := by omega
  subst es
  show nI c0 = beF (ldY fN tN C lf n lev a0 ys) (3 ^ cntW (lsB C lf) n - 1) lev
  have eY : ldY fN tN C lf n lev a0 ys = dpF fN tN (abN C lf n) (fiF C lf n) lev (cntW (lsB C lf) n) (upd (faF ys (20 * 3 ^ cntW (lsB C lf) n)) (20 * fiF C lf n + a0) 0) (3 ^ cntW (lsB C lf) n - fiF C lf n) := rfl
  rw [← eY] at d1 et
  generalize ldY fN tN C lf n lev a0 ys = Y at d1 et ⊢
  obtain ⟨b1, b2, b3⟩ := be_ok (T := Y) (a := 3 ^ cntW (lsB C lf) n - 1) lev
  have h1 := b2 lv hlv
  obtain ⟨t0, k1, k2, -⟩ := d1 _ lv hs2 (by omega)
  have e0 : t0 = t := by rw [et] at k2; exact ((nI_eq (by omega) (by omega)).mp k2).symm
  rw [et, nI_toInt (by omega)] at h1
  have e6 : (1000000 : Int32).toInt = 1000000 := by decide
  rcases b3 with e | ⟨lv', hl', e⟩
  · rw [e, e6] at h1; omega
  · obtain ⟨t', m1, m2, m3⟩ := d1 _ lv' hs2 (by omega)
    rw [e, m2, nI_toInt (by omega)] at h1
    have hp := m3 (by omega) 0 (.nil (fun k hk => by
      unfold dS
      by_cases hl : k < n ∧ lsB C lf k = true
      · rw [if_pos hl, dig_last _ hc _ (cnt_lt hl.1 hl.2)]; omega
      · rw [if_neg hl]; omega))
    have := hlo _ hp
    rw [e, m2]
    congr 1
    omega
end LD
