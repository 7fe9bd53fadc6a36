/-! The least way, as LiftRows2 tries it, is the shortest. -/
def dB (wt ab : Int32) : Nat → Nat := fun k => if bt wt k = true then 0 else if bt ab k = true then 1 else 2
theorem dB_2 {wt ab : Int32} {k : Nat} : dB wt ab k = 2 ↔ bt wt k = false ∧ bt ab k = false := by
  unfold dB
  cases bt wt k <;> cases bt ab k <;> simp
theorem dB_le {wt ab : Int32} {k : Nat} : dB wt ab k ≤ 2 := by
  unfold dB
  cases bt wt k <;> cases bt ab k <;> simp
theorem bt_not (x : Int32) {k : Nat} (hk : k < 32) : bt (x ^^^ (-1)) k = !bt x k := by rw [b_xor, b_m1 k hk]; cases bt x k <;> rfl
section LS
variable {fN tN : Nat → Nat} {n : Nat} {C : Nat → Nat → Int32}
theorem nI_eq20 {a b : Nat} (ha : a < 20) (hb : b < 20) : nI a = nI b ↔ a = b := nI_eq (by omega) (by omega)
theorem dB_abs (hn : n ≤ 24) (hf : ∀ k, C 0 k = nI (fN k) ∧ fN k < 20) (ht : ∀ k, C 1 k = nI (tN k) ∧ tN k < 20) {p : Nat} (hp : p < 20) (wt ab : Int32) : absN fN tN n p (dB wt ab) = dB (swI C n (nI p) wt) (saI C n (nI p) wt ab) := by
  funext k
  by_cases hk32 : k < 32
  · have e1 : bt (swI C n (nI p) wt) k = (bt wt k && !(decide (k < n) && decide (fN k = p))) := by
      unfold swI
      rw [b_and, bt_not _ hk32, bt_set hk32 (by omega), (hf k).1, decide_eq_decide.mpr (nI_eq20 (hf k).2 hp)]
    have e2 : bt (saI C n (nI p) wt ab) k = ((bt ab k || (bt wt k && !bt (swI C n (nI p) wt) k)) && !(decide (k < n) && decide (tN k = p))) := by
      unfold saI
      rw [b_and, bt_not _ hk32, bt_set hk32 (by omega), b_or, b_and, bt_not _ hk32, (ht k).1, decide_eq_decide.mpr (nI_eq20 (ht k).2 hp)]
    unfold absN dB
    rw [e2, e1]
    by_cases hk : k < n <;> by_cases h1 : fN k = p <;> by_cases h2 : tN k = p <;> cases bt wt k <;> cases bt ab k <;> simp [hk, h1, h2]
  · unfold absN dB
    rw [if_neg (by omega), b_big (by omega), b_big (by omega), b_big (by omega), b_big (by omega)]
theorem lw_side (hn : n ≤ 24) (hf : ∀ k, C 0 k = nI (fN k) ∧ fN k < 20) (ht : ∀ k, C 1 k = nI (tN k) ∧ tN k < 20) {p f : Nat} (hf8 : f ≤ 8) {sw sa sd : Int32} (g : Int32 → Int32) (ps : Nat → Prop)
    (hside : ∀ s, s < 20 → (nI s - nI p) * sd < 20 ∧ (0 < (nI s - nI p) * sd ↔ ps s) ∧ (ps s → g (nI s) = nI (dst p s) ∧ dst p s < 20))
    (hmin : ∀ s s', ps s → ps s' → s < 20 → s' < 20 → (nI s - nI p) * sd ≤ (nI s' - nI p) * sd → dst p s + dst s s' = dst p s')
    (ih : ∀ q, q < 20 → ∃ v, v ≤ 20 * f ∧ lwF C n f (nI q) sw sa = nI v ∧ (∀ c, PathN fN tN n q (dB sw sa) c → v ≤ c) ∧ (remN (absN fN tN n q (dB sw sa)) n ≤ f → ∃ c, c ≤ v ∧ PathN fN tN n q (dB sw sa) c)) :
    ((if (nsF C (nI p) sd sw sa n).1 = -1 then 2147483647 else g (nsF C (nI p) sd sw sa n).1 + lwF C n f (nsF C (nI p) sd sw sa n).1 sw sa) = 2147483647 ∧ ∀ k, k < n → dB sw sa k < 2 → ¬ ps (stN fN tN (dB sw sa) k)) ∨
    (∃ w, (if (nsF C (nI p) sd sw sa n).1 = -1 then 2147483647 else g (nsF C (nI p) sd sw sa n).1 + lwF C n f (nsF C (nI p) sd sw sa n).1 sw sa) = nI w ∧ w ≤ 20 * (f + 1) ∧
      (∀ k, k < n → dB sw sa k < 2 → ps (stN fN tN (dB sw sa) k) → ∀ c, PathN fN tN n (stN fN tN (dB sw sa) k) (upN (dB sw sa) k (dB sw sa k + 1)) c → w ≤ dst p (stN fN tN (dB sw sa) k) + c) ∧
      (remN (dB sw sa) n ≤ f + 1 → ∃ c, c ≤ w ∧ PathN fN tN n p (dB sw sa) c)) := by
  have hst : ∀ k, stN fN tN (dB sw sa) k < 20 := fun k => by unfold stN; split; exact (hf k).2; exact (ht k).2
  rcases nsF_spec (C := C) (a := nI p) (sd := sd) (wt := sw) (ab := sa) (fun k => decide (dB sw sa k < 2)) (fun k => nI (stN fN tN (dB sw sa) k)) (n := n)
    (fun k hk => by
      rw [bitB_bt _ (by omega), bitB_bt _ (by omega)]
      refine ⟨?_, fun _ => ⟨?_, (hside _ (hst k)).1⟩⟩
      · unfold dB; cases bt sw k <;> cases bt sa k <;> simp
      · unfold stN
        rw [(hf k).1, (ht k).1]
        unfold dB
        cases bt sw k <;> cases bt sa k <;> simp) with ⟨e, hno⟩ | ⟨k, hk, hak, hpk, e, hle⟩
  · refine Or.inl ⟨by rw [e, if_pos rfl], fun k hk hd hps => ?_⟩
    exact hno k hk (decide_eq_true hd) ((hside _ (hst k)).2.1.mpr hps)
  · refine Or.inr ?_
    have hak := of_decide_eq_true hak
    obtain ⟨s, hs⟩ : ∃ s, s = stN fN tN (dB sw sa) k := ⟨_, rfl⟩
    have hs20 : s < 20 := by rw [hs]; exact hst k
    rw [← hs] at hpk e
    have hps : ps s := (hside s hs20).2.1.mp hpk
    have hg := (hside s hs20).2.2 hps
    obtain ⟨v, hv, ev, hlo, hpa⟩ := ih s hs20
    rw [e, if_neg (nI_ne1 (by omega)), ev, hg.1, nI_add]
    refine ⟨dst p s + v, rfl, by omega, fun j hj hdj hpj c hc => ?_, fun hr => ?_⟩
    · have h1 := hlo _ (PathN.step j hj hdj hc)
      have h2 := hmin s _ hps hpj hs20 (hst j) (by
        have := hle j hj (decide_eq_true hdj) ((hside _ (hst j)).2.1.mpr hpj)
        rw [← hs] at this
        exact this)
      omega
    · have hlt : remN (absN fN tN n s (dB sw sa)) n < remN (dB sw sa) n := remN_lt (fun j => absN_le j) (j := k) hak (by
        have : stN fN tN (dB sw sa) k = s := hs.symm
        unfold stN at this
        unfold absN
        rw [if_pos hk]
        by_cases h0 : dB sw sa k = 0
        · rw [if_pos h0] at this
          rw [if_pos ⟨h0, this⟩]
          split <;> omega
        · rw [if_neg h0] at this
          rw [if_neg (fun q => h0 q.1), if_pos ⟨by omega, this⟩]; omega) n hk
      obtain ⟨c, hc, hpc⟩ := hpa (by omega)
      obtain ⟨c', hc', hp'⟩ := path_lip (p := p) hpc
      exact ⟨c', by omega, hp'⟩
theorem lw_spec (hn : n ≤ 24) (hf : ∀ k, C 0 k = nI (fN k) ∧ fN k < 20) (ht : ∀ k, C 1 k = nI (tN k) ∧ tN k < 20) : ∀ f, f ≤ 8 → ∀ p, p < 20 → ∀ wt ab, (∀ k, n ≤ k → dB wt ab k = 2) →
    ∃ v, v ≤ 20 * f ∧ lwF C n f (nI p) wt ab = nI v ∧ (∀ c, PathN fN tN n p (dB wt ab) c → v ≤ c) ∧ (remN (absN fN tN n p (dB wt ab)) n ≤ f → ∃ c, c ≤ v ∧ PathN fN tN n p (dB wt ab) c)
  | 0, _, p, hp, wt, ab, hz => ⟨0, by omega, rfl, fun c _ => by omega, fun hr => ⟨0, by omega, path_abs (.nil (remN_0 (by omega)))⟩⟩
  | f + 1, hf8, p, hp, wt, ab, hz => by
    have ed := dB_abs hn hf ht hp wt ab
    have hz1 : ∀ k, n ≤ k → dB (swI C n (nI p) wt) (saI C n (nI p) wt ab) k = 2 := fun k hk => by
      rw [← ed]; unfold absN; rw [if_neg (by omega)]; exact hz k hk
    have hlow : ∀ c, PathN fN tN n p (dB wt ab) c → ∃ c', c' ≤ c ∧ PathN fN tN n p (dB (swI C n (nI p) wt) (saI C n (nI p) wt ab)) c' := fun c hc => path_mono hc (fun k => by rw [← ed]; exact absN_le k)
    have hup : ∀ c, PathN fN tN n p (dB (swI C n (nI p) wt) (saI C n (nI p) wt ab)) c → PathN fN tN n p (dB wt ab) c := fun c hc => path_abs (by rw [ed]; exact hc)
    have hne : ∀ k, k < n → dB (swI C n (nI p) wt) (saI C n (nI p) wt ab) k < 2 → stN fN tN (dB (swI C n (nI p) wt) (saI C n (nI p) wt ab)) k ≠ p := fun k hk h => by
      have := abs_ne (fN := fN) (tN := tN) (n := n) (p := p) (d := dB wt ab) hk
      rw [ed] at this
      exact this h
    rw [lwF, ed]
    generalize swI C n (nI p) wt = sw at *
    generalize hsa : saI C n (nI p) wt ab = sa at *
    have hst : ∀ k, stN fN tN (dB sw sa) k < 20 := fun k => by unfold stN; split; exact (hf k).2; exact (ht k).2
    have ih : ∀ q, q < 20 → ∃ v, v ≤ 20 * f ∧ lwF C n f (nI q) sw sa = nI v ∧ (∀ c, PathN fN tN n q (dB sw sa) c → v ≤ c) ∧ (remN (absN fN tN n q (dB sw sa)) n ≤ f → ∃ c, c ≤ v ∧ PathN fN tN n q (dB sw sa) c) :=
      fun q hq => lw_spec hn hf ht f (by omega) q hq sw sa hz1
    by_cases h0 : sw ||| sa = 0
    · rw [if_pos h0]
      have hall : ∀ k, k < n → 2 ≤ dB sw sa k := fun k hk => by
        have h1 := congrArg (fun x => bt x k) h0
        simp only [b_or, b_0, Bool.or_eq_false_iff] at h1
        rw [dB_2.mpr h1]; omega
      exact ⟨0, by omega, rfl, fun c _ => by omega, fun _ => ⟨0, by omega, hup 0 (.nil hall)⟩⟩
    · rw [if_neg h0]
      have hex : ∃ k, k < n ∧ dB sw sa k < 2 := by
        refine Classical.byContradiction (fun hno => h0 (b_ext fun i hi => ?_))
        have h2 : dB sw sa i = 2 := by
          by_cases hin : i < n
          · have := dB_le (wt := sw) (ab := sa) (k := i)
            by_cases hd : dB sw sa i < 2
            · exact absurd ⟨i, hin, hd⟩ hno
            · omega
          · exact hz1 i (by omega)
        have := dB_2.mp h2
        rw [b_or, b_0, this.1, this.2]; rfl
      have tn : ∀ s, s < 20 → (nI s).toInt = (s : Int) := fun s hs => nI_toInt (by omega)
      have e20 : (20 : Int32).toInt = 20 := by decide
      have e0 : (0 : Int32).toInt = 0 := by decide
      have tM : (2147483647 : Int32).toInt = 2147483647 := by decide
      have up := lw_side (fN := fN) (tN := tN) hn hf ht (p := p) (f := f) (by omega) (sw := sw) (sa := sa) (sd := 1) (fun x => x - nI p) (fun s => p < s)
        (fun s hs => by
          have h1 := nI_sub (a := s) (b := p) (by omega) (by omega)
          rw [sd_1]
          refine ⟨i32_lt.mpr (by rw [h1, e20]; omega), ?_, fun h => ⟨?_, ?_⟩⟩
          · rw [i32_lt, h1, e0]; omega
          · show nI s - nI p = nI (dst p s)
            rw [nI_subN (by omega)]; congr 1; unfold dst; omega
          · unfold dst; omega)
        (fun s s' h1 h2 hs hs' hle => by
          rw [sd_1, sd_1, le_iff, nI_sub (by omega) (by omega), nI_sub (by omega) (by omega)] at hle
          unfold dst; omega) ih
      have dn := lw_side (fN := fN) (tN := tN) hn hf ht (p := p) (f := f) (by omega) (sw := sw) (sa := sa) (sd := -1) (fun x => nI p - x) (fun s => s < p)
        (fun s hs => by
          have h1 := nI_sub (a := p) (b := s) (by omega) (by omega)
          rw [sd_m]
          refine ⟨i32_lt.mpr (by rw [h1, e20]; omega), ?_, fun h => ⟨?_, ?_⟩⟩
          · rw [i32_lt, h1, e0]; omega
          · show nI p - nI s = nI (dst p s)
            rw [nI_subN (by omega)]; congr 1; unfold dst; omega
          · unfold dst; omega)
        (fun s s' h1 h2 hs hs' hle => by
          rw [sd_m, sd_m, le_iff, nI_sub (by omega) (by omega), nI_sub (by omega) (by omega)] at hle
          unfold dst; omega) ih
      generalize (if (nsF C (nI p) 1 sw sa n).1 = -1 then (2147483647 : Int32) else (nsF C (nI p) 1 sw sa n).1 - nI p + lwF C n f (nsF C (nI p) 1 sw sa n).1 sw sa) = U at up ⊢
      generalize (if (nsF C (nI p) (-1) sw sa n).1 = -1 then (2147483647 : Int32) else nI p - (nsF C (nI p) (-1) sw sa n).1 + lwF C n f (nsF C (nI p) (-1) sw sa n).1 sw sa) = D at dn ⊢
      have fin : ∀ w, w ≤ 20 * (f + 1) → (∀ k, k < n → dB sw sa k < 2 → ∀ c, PathN fN tN n (stN fN tN (dB sw sa) k) (upN (dB sw sa) k (dB sw sa k + 1)) c → w ≤ dst p (stN fN tN (dB sw sa) k) + c) →
          (remN (dB sw sa) n ≤ f + 1 → ∃ c, c ≤ w ∧ PathN fN tN n p (dB sw sa) c) →
          ∃ v, v ≤ 20 * (f + 1) ∧ nI w = nI v ∧ (∀ c, PathN fN tN n p (dB wt ab) c → v ≤ c) ∧ (remN (dB sw sa) n ≤ f + 1 → ∃ c, c ≤ v ∧ PathN fN tN n p (dB wt ab) c) := by
        intro w hw h1 h2
        refine ⟨w, hw, rfl, fun c hc => ?_, fun hr => ?_⟩
        · obtain ⟨c', hc', hp'⟩ := hlow c hc
          rcases path_or hp' with ⟨-, h⟩ | ⟨k, c2, hk, hd, e, h⟩
          · obtain ⟨k, hk, hd⟩ := hex; have := h k hk; omega
          · have := h1 k hk hd _ h; omega
        · obtain ⟨c, hc, hpc⟩ := h2 hr
          exact ⟨c, hc, hup c hpc⟩
      rcases up with ⟨eU, hU⟩ | ⟨w, eU, hw, hU1, hU2⟩
      · rcases dn with ⟨eD, hD⟩ | ⟨w', eD, hw', hD1, hD2⟩
        · exfalso
          obtain ⟨k, hk, hd⟩ := hex
          have h1 := hU k hk hd
          have h2 := hD k hk hd
          have h3 := hne k hk hd
          omega
        · rw [eU, eD, if_pos (i32_lt.mpr (by rw [nI_toInt (by omega), tM]; omega))]
          refine fin w' hw' (fun k hk hd c hc => ?_) hD2
          have h1 := hU k hk hd
          have h3 := hne k hk hd
          exact hD1 k hk hd (by omega) c hc
      · rcases dn with ⟨eD, hD⟩ | ⟨w', eD, hw', hD1, hD2⟩
        · rw [eU, eD, if_neg (fun q => by have := i32_lt.mp q; rw [nI_toInt (by omega), tM] at this; omega)]
          refine fin w hw (fun k hk hd c hc => ?_) hU2
          have h1 := hD k hk hd
          have h3 := hne k hk hd
          exact hU1 k hk hd (by omega) c hc
        · rw [eU, eD]
          by_cases hlt : w' < w
          · rw [if_pos (i32_lt.mpr (by rw [nI_toInt (by omega), nI_toInt (by omega)]; omega))]
            refine fin w' hw' (fun k hk hd c hc => ?_) hD2
            have h3 := hne k hk hd
            by_cases h4 : p < stN fN tN (dB sw sa) k
            · have := hU1 k hk hd h4 c hc; omega
            · exact hD1 k hk hd (by omega) c hc
          · rw [if_neg (fun q => by have := i32_lt.mp q; rw [nI_toInt (by omega), nI_toInt (by omega)] at this; omega)]
            refine fin w hw (fun k hk hd c hc => ?_) hU2
            have h3 := hne k hk hd
            by_cases h4 : p < stN fN tN (dB sw sa) k
            · exact hU1 k hk hd h4 c hc
            · have := hD1 k hk hd (by omega) c hc; omega
end LS
