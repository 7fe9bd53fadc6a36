/-! The least way: the shortest of all ways, for both. -/
def dst (a b : Nat) : Nat := (a - b) + (b - a)
section LW
variable (fN tN : Nat → Nat) (n : Nat)
def stN (d : Nat → Nat) (k : Nat) : Nat := if d k = 0 then fN k else tN k
def upN (d : Nat → Nat) (k x : Nat) : Nat → Nat := fun j => if j = k then x else d j
def PathK : Nat → Nat → (Nat → Nat) → Nat → Prop
  | 0, _, d, c => c = 0 ∧ ∀ k, k < n → 2 ≤ d k
  | m + 1, p, d, c => ∃ k c', k < n ∧ d k < 2 ∧ c = dst p (stN fN tN d k) + c' ∧ PathK m (stN fN tN d k) (upN d k (d k + 1)) c'
def PathN (p : Nat) (d : Nat → Nat) (c : Nat) : Prop := ∃ m, PathK fN tN n m p d c
end LW
section LW2
variable {fN tN : Nat → Nat} {n : Nat}
theorem PathN.nil {p : Nat} {d : Nat → Nat} (h : ∀ k, k < n → 2 ≤ d k) : PathN fN tN n p d 0 := ⟨0, rfl, h⟩
theorem PathN.step {p : Nat} {d : Nat → Nat} {c : Nat} (k : Nat) (hk : k < n) (hd : d k < 2) (h : PathN fN tN n (stN fN tN d k) (upN d k (d k + 1)) c) : PathN fN tN n p d (dst p (stN fN tN d k) + c) := by
  obtain ⟨m, h⟩ := h
  exact ⟨m + 1, k, c, hk, hd, rfl, h⟩
theorem path_or {p c : Nat} {d : Nat → Nat} (h : PathN fN tN n p d c) : (c = 0 ∧ ∀ k, k < n → 2 ≤ d k) ∨ ∃ k c', k < n ∧ d k < 2 ∧ c = dst p (stN fN tN d k) + c' ∧ PathN fN tN n (stN fN tN d k) (upN d k (d k + 1)) c' := by
  obtain ⟨m, h⟩ := h
  cases m with
  | zero => exact Or.inl h
  | succ m =>
    obtain ⟨k, c', hk, hd, e, h⟩ := h
    exact Or.inr ⟨k, c', hk, hd, e, m, h⟩
theorem path_lip {p q c : Nat} {d : Nat → Nat} (h : PathN fN tN n q d c) : ∃ c', c' ≤ dst p q + c ∧ PathN fN tN n p d c' := by
  rcases path_or h with ⟨-, h2⟩ | ⟨k, c', hk, hd, rfl, h2⟩
  · exact ⟨0, by omega, .nil h2⟩
  · refine ⟨_, ?_, .step k hk hd h2⟩
    unfold dst
    omega
theorem path_mono {c : Nat} {d : Nat → Nat} {p : Nat} (h : PathN fN tN n p d c) : ∀ {d' : Nat → Nat}, (∀ k, d k ≤ d' k) → ∃ c', c' ≤ c ∧ PathN fN tN n p d' c' := by
  obtain ⟨m, h⟩ := h
  induction m generalizing p d c with
  | zero => exact fun hd => ⟨0, by omega, .nil (fun k hk => Nat.le_trans (h.2 k hk) (hd k))⟩
  | succ m ih =>
    obtain ⟨k, c1, hk, hd, rfl, h⟩ := h
    intro d' hle
    by_cases e : d' k = d k
    · obtain ⟨c', hc, hp⟩ := ih h (d' := upN d' k (d' k + 1)) (fun j => by
        unfold upN
        by_cases hj : j = k
        · subst hj; simp [e]
        · simp [hj, hle j])
      have es : stN fN tN d' k = stN fN tN d k := by unfold stN; rw [e]
      refine ⟨dst p (stN fN tN d' k) + c', by rw [es]; omega, .step k hk (by omega) (by rw [es]; exact hp)⟩
    · obtain ⟨c', hc, hp⟩ := ih h (d' := d') (fun j => by
        unfold upN
        by_cases hj : j = k
        · subst hj; have := hle j; simp; omega
        · simp [hj, hle j])
      obtain ⟨c2, hc2, hp2⟩ := path_lip (p := p) hp
      exact ⟨c2, by omega, hp2⟩
/-- stops where the lift stands cost nothing -/
theorem path_one {p c k x : Nat} {d : Nat → Nat} (hk : k < n) (h : (x = 1 ∧ d k = 0 ∧ fN k = p) ∨ (x = 2 ∧ d k = 1 ∧ tN k = p) ∨ (x = 2 ∧ d k = 0 ∧ fN k = p ∧ tN k = p)) (hp : PathN fN tN n p (upN d k x) c) : PathN fN tN n p d c := by
  have hz : dst p p = 0 := by unfold dst; omega
  rcases h with ⟨rfl, h0, rfl⟩ | ⟨rfl, h1, rfl⟩ | ⟨rfl, h0, h2, h3⟩
  · have es : stN fN tN d k = fN k := by unfold stN; rw [if_pos h0]
    have := PathN.step (fN := fN) (tN := tN) (n := n) (p := fN k) (d := d) (c := c) k hk (by omega) (by rw [es, h0]; exact hp)
    rw [es, hz, Nat.zero_add] at this; exact this
  · have es : stN fN tN d k = tN k := by unfold stN; rw [if_neg (by omega)]
    have := PathN.step (fN := fN) (tN := tN) (n := n) (p := tN k) (d := d) (c := c) k hk (by omega) (by rw [es, h1]; exact hp)
    rw [es, hz, Nat.zero_add] at this; exact this
  · have es : stN fN tN d k = p := by unfold stN; rw [if_pos h0, h2]
    have e1 : upN d k (d k + 1) k = 1 := by simp [upN, h0]
    have es1 : stN fN tN (upN d k (d k + 1)) k = p := by unfold stN; rw [if_neg (by omega), h3]
    have e2 : upN (upN d k (d k + 1)) k (upN d k (d k + 1) k + 1) = upN d k 2 := by
      funext j; unfold upN; by_cases hj : j = k
      · simp [hj, h0]
      · simp [hj]
    have h1 := PathN.step (fN := fN) (tN := tN) (n := n) (p := p) (d := upN d k (d k + 1)) (c := c) k hk (by omega) (by rw [es1, e2]; exact hp)
    rw [es1, hz, Nat.zero_add] at h1
    have h2 := PathN.step (fN := fN) (tN := tN) (n := n) (p := p) (d := d) (c := c) k hk (by omega) (by rw [es]; exact h1)
    rw [es, hz, Nat.zero_add] at h2
    exact h2
def absN (fN tN : Nat → Nat) (n p : Nat) (d : Nat → Nat) : Nat → Nat := fun k => if k < n then (if d k = 0 ∧ fN k = p then (if tN k = p then 2 else 1) else if d k = 1 ∧ tN k = p then 2 else d k) else d k
theorem absN_le {p : Nat} {d : Nat → Nat} (k : Nat) : d k ≤ absN fN tN n p d k := by
  unfold absN
  by_cases hk : k < n
  · rw [if_pos hk]
    by_cases h : d k = 0 ∧ fN k = p
    · rw [if_pos h]; omega
    · rw [if_neg h]
      by_cases h2 : d k = 1 ∧ tN k = p
      · rw [if_pos h2]; omega
      · rw [if_neg h2]; omega
  · rw [if_neg hk]; omega
theorem path_abs {p c : Nat} {d : Nat → Nat} (h : PathN fN tN n p (absN fN tN n p d) c) : PathN fN tN n p d c := by
  have key : ∀ j, j ≤ n → PathN fN tN n p (fun k => if k < j then absN fN tN n p d k else d k) c → PathN fN tN n p d c := by
    intro j
    induction j with
    | zero => intro _ h; simpa using h
    | succ j ih =>
      intro hj h
      apply ih (by omega)
      by_cases e : absN fN tN n p d j = d j
      · have : (fun k => if k < j + 1 then absN fN tN n p d k else d k) = (fun k => if k < j then absN fN tN n p d k else d k) := by
          funext k
          by_cases hkj : k = j
          · subst hkj; simp [e]
          · by_cases h2 : k < j
            · simp [h2, show k < j + 1 by omega]
            · simp [h2, show ¬ k < j + 1 by omega]
        rw [this] at h; exact h
      · have : (fun k => if k < j + 1 then absN fN tN n p d k else d k) = upN (fun k => if k < j then absN fN tN n p d k else d k) j (absN fN tN n p d j) := by
          funext k
          unfold upN
          by_cases hkj : k = j
          · subst hkj; simp
          · by_cases h2 : k < j
            · simp [hkj, h2, show k < j + 1 by omega]
            · simp [hkj, h2, show ¬ k < j + 1 by omega]
        rw [this] at h
        refine path_one (x := absN fN tN n p d j) (by omega) ?_ h
        have hd : (if j < j then absN fN tN n p d j else d j) = d j := by simp
        show (absN fN tN n p d j = 1 ∧ (if j < j then absN fN tN n p d j else d j) = 0 ∧ fN j = p) ∨ (absN fN tN n p d j = 2 ∧ (if j < j then absN fN tN n p d j else d j) = 1 ∧ tN j = p) ∨ (absN fN tN n p d j = 2 ∧ (if j < j then absN fN tN n p d j else d j) = 0 ∧ fN j = p ∧ tN j = p)
        rw [hd]
        unfold absN at e ⊢
        rw [if_pos (show j < n by omega)] at e ⊢
        by_cases h1 : d j = 0 ∧ fN j = p
        · rw [if_pos h1] at e ⊢
          by_cases h2 : tN j = p
          · rw [if_pos h2]; exact Or.inr (Or.inr ⟨rfl, h1.1, h1.2, h2⟩)
          · rw [if_neg h2]; exact Or.inl ⟨rfl, h1.1, h1.2⟩
        · rw [if_neg h1] at e ⊢
          by_cases h2 : d j = 1 ∧ tN j = p
          · rw [if_pos h2]; exact Or.inr (Or.inl ⟨rfl, h2.1, h2.2⟩)
          · rw [if_neg h2] at e; exact absurd rfl e
  refine key n (Nat.le_refl n) ?_
  have : (fun k => if k < n then absN fN tN n p d k else d k) = absN fN tN n p d := by
    funext k
    by_cases hk : k < n
    · simp [hk]
    · simp [hk, absN]
  rw [this]; exact h
/-- the stops to come -/
def remN (d : Nat → Nat) : Nat → Nat
  | 0 => 0
  | k + 1 => remN d k + (2 - d k)
theorem remN_le {d d' : Nat → Nat} (h : ∀ k, d k ≤ d' k) : ∀ m, remN d' m ≤ remN d m
  | 0 => Nat.le_refl _
  | m + 1 => by
    have ih := remN_le h m
    have := h m
    unfold remN; omega
theorem remN_lt {d d' : Nat → Nat} (h : ∀ k, d k ≤ d' k) {j : Nat} (hj : d j < 2) (hj2 : d j < d' j) : ∀ m, j < m → remN d' m < remN d m
  | 0, hm => absurd hm (Nat.not_lt_zero _)
  | m + 1, hm => by
    unfold remN
    by_cases e : j = m
    · subst e
      have := remN_le h j
      omega
    · have ih := remN_lt h hj hj2 m (by omega)
      have := h m
      omega
theorem remN_0 {d : Nat → Nat} : ∀ {m : Nat}, remN d m = 0 → ∀ k, k < m → 2 ≤ d k
  | 0, _, k, hk => absurd hk (Nat.not_lt_zero _)
  | m + 1, h, k, hk => by
    unfold remN at h
    by_cases e : k = m
    · subst e; omega
    · exact remN_0 (m := m) (by omega) k (by omega)
theorem abs_ne {p k : Nat} {d : Nat → Nat} (hk : k < n) (h : absN fN tN n p d k < 2) : stN fN tN (absN fN tN n p d) k ≠ p := by
  intro e
  unfold stN at e
  unfold absN at h e
  rw [if_pos hk] at h e
  by_cases h1 : d k = 0 ∧ fN k = p
  · rw [if_pos h1] at h e
    by_cases h2 : tN k = p
    · rw [if_pos h2] at h; omega
    · rw [if_neg h2] at e; rw [if_neg (by decide)] at e; exact h2 e
  · rw [if_neg h1] at h e
    by_cases h2 : d k = 1 ∧ tN k = p
    · rw [if_pos h2] at h; omega
    · rw [if_neg h2] at h e
      by_cases h0 : d k = 0
      · rw [if_pos h0] at e; exact h1 ⟨h0, e⟩
      · rw [if_neg h0] at e; exact h2 ⟨by omega, e⟩
end LW2
