theorem kX4_lower_inX4 : ∀ w ∈ wsX40, w ∈ wsX4_lower := by decide +kernel
theorem kX4_lower_f68 : Cond.fieldLink RX4 68 "LiftRows2Model" "ways" "[I" ∈ wsX4_lower := by decide +kernel
set_option maxHeartbeats 4000000 in
set_option maxRecDepth 100000 in
theorem tX4_lower (l : Launch) (D : va_G) (cI cZ cJ : ClassId) (h : Nat → Nat) (cd : Int32) (lev tm : Nat) (gn : Int32) (nL nC nE : Nat) (L B C F : Nat → Nat → Int32) (ys ao : Nat → Int32) (s1 lv : Nat) (v : Int32) (hb9 : 20 * s1 + lv < 1620)  : ∀ sz : Nat, zMv l yX4_lower wsX4_lower ({ frames := 0, cells := 0, slots := 0, locals := 0 } : Room) D cI cZ cJ (wM cI cZ h cd lev tm gn nL nC nE L B C F ys ao) sz [.ref (h 0), .int (nI s1), .int (nI lv), .int v] (fun w' => w' = wM cI cZ h cd lev tm gn nL nC nE L B C F (lowF ys (20 * s1 + lv) v) ao) := by
  intro sz
  refine z_head (y := yX4_lower) (av := [.ref (h 0), .int (nI s1), .int (nI lv), .int v]) (w := (wM cI cZ h cd lev tm gn nL nC nE L B C F ys ao)) (Qc := fun A => zQv D (wM cI cZ h cd lev tm gn nL nC nE L B C F ys ao) (fun w' => w' = wM cI cZ h cd lev tm gn nL nC nE L B C F (lowF ys (20 * s1 + lv) v) ao) A) (cc := cX4_lower) (maxL := 4) (ret := none) (by decide) rfl (Nat.le_of_ble_eq_true rfl) ?_
  intro p e s m below meth c ls A hat hP hD hS hl
  obtain ⟨hx, hb, hr, hml, hlocks, hts, hown, hin, hK, hE, hA⟩ := hat
  have hP : va_P D vwCl (wM cI cZ h cd lev tm gn nL nC nE L B C F ys ao) s.heap := hP
  have hD : va_D A (wM cI cZ h cd lev tm gn nL nC nE L B C F ys ao) := hD
  have hl : lv_has ls 4 [(0, .ref (h 0)), (1, .int (nI s1)), (2, .int (nI lv)), (3, .int v)] := hl
  refine lv_iload_n hx hb dX4_lower_0 rfl (lv_at hl 3 rfl) ?_
  refine lv_aload_n hx hb dX4_lower_1 rfl (lv_at hl 0 rfl) ?_
  refine va_get (D := D) (ci := 5) (v := .ref (h 20)) (C := RX4) (T := TX4) (N := 28) hx hb hts kX4_lower_inX4 hown hK hP 0 rfl rfl 26 (by decide) (hts _ kX4_lower_f68) (fun _ h9 => h9) rfl dX4_lower_2 ?_
  refine lv_bipush (v := 20) hx hb dX4_lower_5 (by decide) ?_
  refine lv_iload_n hx hb dX4_lower_7 rfl (lv_at hl 1 rfl) ?_
  refine zn_mul (i := 20) (j := s1) hx hb dX4_lower_8 ?_
  refine lv_iload_n hx hb dX4_lower_9 rfl (lv_at hl 2 rfl) ?_
  refine zn_add (i := 20 * s1) (j := lv) hx hb dX4_lower_10 ?_
  refine z_iald (k := 20 * s1 + lv) (v := ys (20 * s1 + lv)) hx hb hK hP 20 rfl (by decide) (by omega) (rfl) dX4_lower_11 ?_
  refine lv_icmp_ge (x := v) (y := ys (20 * s1 + lv)) (tgt := 27) hx hb dX4_lower_12 (by decide) (fun c12 => ?_) (fun c12 => ?_)
  · skip
    exact z_vret hx hb hr hlocks hS hP rfl dX4_lower_27 (by simp only [lowF, if_pos c12])
  · skip
    refine lv_aload_n hx hb dX4_lower_15 rfl (lv_at hl 0 rfl) ?_
    refine va_get (D := D) (ci := 5) (v := .ref (h 20)) (C := RX4) (T := TX4) (N := 28) hx hb hts kX4_lower_inX4 hown hK hP 0 rfl rfl 26 (by decide) (hts _ kX4_lower_f68) (fun _ h9 => h9) rfl dX4_lower_16 ?_
    refine lv_bipush (v := 20) hx hb dX4_lower_19 (by decide) ?_
    refine lv_iload_n hx hb dX4_lower_21 rfl (lv_at hl 1 rfl) ?_
    refine zn_mul (i := 20) (j := s1) hx hb dX4_lower_22 ?_
    refine lv_iload_n hx hb dX4_lower_23 rfl (lv_at hl 2 rfl) ?_
    refine zn_add (i := 20 * s1) (j := lv) hx hb dX4_lower_24 ?_
    refine lv_iload_n hx hb dX4_lower_25 rfl (lv_at hl 3 rfl) ?_
    refine z_iast (k := 20 * s1 + lv) (x := v) hx hb hK hP hD hS 20 rfl (by decide) (by omega) dX4_lower_26 (fun H locs hP hD hS => ?_)
    have hP : va_P D vwCl (wM cI cZ h cd lev tm gn nL nC nE L B C F (upd ys (20 * s1 + lv) v) ao) H := hP
    have hD : va_D A (wM cI cZ h cd lev tm gn nL nC nE L B C F (upd ys (20 * s1 + lv) v) ao) := hD
    exact z_vret hx hb hr hlocks hS hP rfl dX4_lower_27 (by simp only [lowF, if_neg c12])

theorem kX4_goOn_inX4 : ∀ w ∈ wsX40, w ∈ wsX4_goOn := by decide +kernel
theorem kX4_goOn_f68 : Cond.fieldLink RX4 68 "LiftRows2Model" "ways" "[I" ∈ wsX4_goOn := by decide +kernel
theorem kX4_goOn_f35 : Cond.fieldLink RX4 35 "LiftRows2Model" "to" "[I" ∈ wsX4_goOn := by decide +kernel
theorem kX4_goOn_f71 : Cond.fieldLink RX4 71 "LiftRows2Model" "about" "[I" ∈ wsX4_goOn := by decide +kernel
theorem kX4_goOn_f32 : Cond.fieldLink RX4 32 "LiftRows2Model" "from" "[I" ∈ wsX4_goOn := by decide +kernel
set_option maxHeartbeats 4000000 in
set_option maxRecDepth 100000 in
theorem tX4_goOn (l : Launch) (D : va_G) (cI cZ cJ : ClassId) (h : Nat → Nat) (cd : Int32) (lev tm : Nat) (gn : Int32) (nL nC nE : Nat) (L B C F : Nat → Nat → Int32) (ys ao : Nat → Int32) (s1 lv n : Nat) (hn : n ≤ 4) (hs1 : s1 < 3 ^ n) (hlv : lv < 20) (fN tN ab : Nat → Nat) (hF : ∀ c, c < 24 → C 0 c = nI (fN c) ∧ fN c < 20) (hT : ∀ c, c < 24 → C 1 c = nI (tN c) ∧ tN c < 20) (hab : ∀ j, j < n → ao j = nI (ab j) ∧ ab j < 24)  : ∀ sz : Nat, zMv l yX4_goOn wsX4_goOn ({ frames := 1, cells := 0, slots := 0, locals := 23 } : Room) D cI cZ cJ (wM cI cZ h cd lev tm gn nL nC nE L B C F ys ao) sz [.ref (h 0), .int (nI s1), .int (nI lv), .int (nI n)] (fun w' => w' = wM cI cZ h cd lev tm gn nL nC nE L B C F (goF fN tN ab s1 lv ys n) ao) := by
  intro sz
  refine z_head (y := yX4_goOn) (av := [.ref (h 0), .int (nI s1), .int (nI lv), .int (nI n)]) (w := (wM cI cZ h cd lev tm gn nL nC nE L B C F ys ao)) (Qc := fun A => zQv D (wM cI cZ h cd lev tm gn nL nC nE L B C F ys ao) (fun w' => w' = wM cI cZ h cd lev tm gn nL nC nE L B C F (goF fN tN ab s1 lv ys n) ao) A) (cc := cX4_goOn) (maxL := 8) (ret := none) (by decide) rfl (Nat.le_of_ble_eq_true rfl) ?_
  intro p e s m below meth c ls A hat hP hD hS hl
  obtain ⟨hx, hb, hr, hml, hlocks, hts, hown, hin, hK, hE, hA⟩ := hat
  have hP : va_P D vwCl (wM cI cZ h cd lev tm gn nL nC nE L B C F ys ao) s.heap := hP
  have hD : va_D A (wM cI cZ h cd lev tm gn nL nC nE L B C F ys ao) := hD
  have hl : lv_has ls 8 [(0, .ref (h 0)), (1, .int (nI s1)), (2, .int (nI lv)), (3, .int (nI n))] := hl
  have h81 := pow3_le hn
  have L6 : ∀ (fu : Nat) (k : Nat) (y1 : Nat → Int32), k ≤ n → n + 1 ≤ k + fu → (y1 = goF fN tN ab s1 lv ys k) → ∀ (H : Heap) (locs : List Loc) (ls : Array Slot), lv_has ls 8 [(0, .ref (h 0)), (1, .int (nI s1)), (2, .int (nI lv)), (3, .int (nI n)), (4, .int (nI (3 ^ k))), (5, .int (nI k))] → va_P D vwCl (wM cI cZ h cd lev tm gn nL nC nE L B C F y1 ao) H → va_D A (wM cI cZ h cd lev tm gn nL nC nE L B C F y1 ao) → va_S A s.heap H locs → W p l e ({ frames := 1, cells := 0, slots := 0, locals := 23 } : Room) s m ([.ref (h 0), .int (nI s1), .int (nI lv), .int (nI n)] : List Value).toArray below meth c H locs 0 0 (MQ below (zQv D (wM cI cZ h cd lev tm gn nL nC nE L B C F ys ao) (fun w' => w' = wM cI cZ h cd lev tm gn nL nC nE L B C F (goF fN tN ab s1 lv ys n) ao) A) ([.ref (h 0), .int (nI s1), .int (nI lv), .int (nI n)] : List Value).toArray s 0 0 A) (F0 m 6 ls []) := by
    intro fu
    induction fu with
    | zero =>
      intro k y1 h1 h2
      exact absurd h2 (by omega)
    | succ fu ih6 =>
      intro k y1 hle hfu ex H locs ls hl hP hD hS
      have L52 : ∀ (x : Nat), (k < n) → (x = nxN fN tN ab s1 k) → (x < 20) → ∀ (H : Heap) (locs : List Loc) (ls : Array Slot), lv_has ls 8 [(0, .ref (h 0)), (1, .int (nI s1)), (2, .int (nI lv)), (3, .int (nI n)), (4, .int (nI (3 ^ k))), (5, .int (nI k)), (6, .int (nI (s1 / 3 ^ k % 3)))] → va_P D vwCl (wM cI cZ h cd lev tm gn nL nC nE L B C F y1 ao) H → va_D A (wM cI cZ h cd lev tm gn nL nC nE L B C F y1 ao) → va_S A s.heap H locs → W p l e ({ frames := 1, cells := 0, slots := 0, locals := 23 } : Room) s m ([.ref (h 0), .int (nI s1), .int (nI lv), .int (nI n)] : List Value).toArray below meth c H locs 0 0 (MQ below (zQv D (wM cI cZ h cd lev tm gn nL nC nE L B C F ys ao) (fun w' => w' = wM cI cZ h cd lev tm gn nL nC nE L B C F (goF fN tN ab s1 lv ys n) ao) A) ([.ref (h 0), .int (nI s1), .int (nI lv), .int (nI n)] : List Value).toArray s 0 0 A) (F0 m 52 ls [.int (nI x)]) := by
        intro x hlt en hx9 H locs ls hl hP hD hS
        have h3k : 0 < 3 ^ k := Nat.pow_pos (by decide)
        refine lv_istore (lv' := [(7, .int (nI x)), (0, .ref (h 0)), (1, .int (nI s1)), (2, .int (nI lv)), (3, .int (nI n)), (4, .int (nI (3 ^ k))), (5, .int (nI k)), (6, .int (nI (s1 / 3 ^ k % 3)))]) hx hb dX4_goOn_52 hl (by decide) rfl (fun ls hl => ?_)
        refine lv_iload hx hb dX4_goOn_54 (lv_at hl 7 rfl) ?_
        refine lv_iconst (v := 2) hx hb dX4_goOn_56 (by decide) ?_
        refine zn_ge (i := s1 / 3 ^ k % 3) (j := 2) (tgt := 88) hx hb (by omega) (by omega) dX4_goOn_57 (by decide) (fun c57 => ?_) (fun c57 => ?_)
        · skip
          refine lv_iload hx hb dX4_goOn_88 (lv_at hl 5 rfl) ?_
          refine lv_iconst (v := 3) hx hb dX4_goOn_90 (by decide) ?_
          refine zn_mul (i := 3 ^ k) (j := 3) hx hb dX4_goOn_91 ?_
          refine lv_istore (lv' := [(4, .int (nI ((3 ^ k) * 3))), (7, .int (nI x)), (0, .ref (h 0)), (1, .int (nI s1)), (2, .int (nI lv)), (3, .int (nI n)), (5, .int (nI k)), (6, .int (nI (s1 / 3 ^ k % 3)))]) hx hb dX4_goOn_92 hl (by decide) rfl (fun ls hl => ?_)
          refine lv_iinc (v := nI (k + 1)) (lv' := [(5, .int (nI (k + 1))), (4, .int (nI ((3 ^ k) * 3))), (7, .int (nI x)), (0, .ref (h 0)), (1, .int (nI s1)), (2, .int (nI lv)), (3, .int (nI n)), (6, .int (nI (s1 / 3 ^ k % 3)))]) hx hb dX4_goOn_94 hl (k := 6) rfl (by rw [show Int32.ofInt 1 = nI 1 from rfl, nI_add]) (by decide) rfl (fun ls hl => ?_)
          refine lv_goto (tgt := 6) hx hb dX4_goOn_97 (by decide) ?_
          exact ih6 (k + 1) y1 (by omega) (by omega) (by rw [goF, ← ex, if_neg (by omega)]) H locs ls (lv_sub hl [3, 4, 5, 6, 1, 0] rfl) hP hD hS
        · skip
          refine lv_aload_n hx hb dX4_goOn_60 rfl (lv_at hl 1 rfl) ?_
          refine lv_iload_n hx hb dX4_goOn_61 rfl (lv_at hl 2 rfl) ?_
          refine lv_iload hx hb dX4_goOn_62 (lv_at hl 5 rfl) ?_
          refine zn_add (i := s1) (j := 3 ^ k) hx hb dX4_goOn_64 ?_
          refine lv_iload hx hb dX4_goOn_65 (lv_at hl 0 rfl) ?_
          refine lv_aload_n hx hb dX4_goOn_67 rfl (lv_at hl 1 rfl) ?_
          refine va_get (D := D) (ci := 5) (v := .ref (h 20)) (C := RX4) (T := TX4) (N := 28) hx hb hts kX4_goOn_inX4 hown hK hP 0 rfl rfl 26 (by decide) (hts _ kX4_goOn_f68) (fun _ h9 => h9) rfl dX4_goOn_68 ?_
          refine lv_bipush (v := 20) hx hb dX4_goOn_71 (by decide) ?_
          refine lv_iload_n hx hb dX4_goOn_73 rfl (lv_at hl 2 rfl) ?_
          refine zn_mul (i := 20) (j := s1) hx hb dX4_goOn_74 ?_
          refine lv_iload_n hx hb dX4_goOn_75 rfl (lv_at hl 3 rfl) ?_
          refine zn_add (i := 20 * s1) (j := lv) hx hb dX4_goOn_76 ?_
          refine z_iald (k := 20 * s1 + lv) (v := y1 (20 * s1 + lv)) hx hb hK hP 20 rfl (by decide) (by omega) (rfl) dX4_goOn_77 ?_
          refine lv_iload_n hx hb dX4_goOn_78 rfl (lv_at hl 3 rfl) ?_
          refine lv_iload hx hb dX4_goOn_79 (lv_at hl 0 rfl) ?_
          refine z_backi (z_runS (n := 2) (As := [.int (nI lv), .int (nI x)]) (rest := [.int (y1 (20 * s1 + lv)), .int (nI x), .int (nI (s1 + 3 ^ k)), .ref (h 0)]) hx hb hml hown hts hK hE hP hD [] rfl (by decide) (tX4_far l D cI cZ cJ (nI lv) (nI x) _) gX4_goOn_X4_far rfl rfl rfl (by decide +kernel) ⟨Nat.le_of_ble_eq_true rfl, Nat.le_of_ble_eq_true rfl⟩ rfl hl.1 rfl (Nat.le_of_ble_eq_true rfl) dX4_goOn_81 ⟨Nat.zero_le _, Nat.zero_le _⟩) hP hD hS hA [] rfl (fun r1 w1 H locs hp1 hP hD hS => ?_)
          obtain ⟨rfl, rfl⟩ := hp1
          have hP : va_P D vwCl (wM cI cZ h cd lev tm gn nL nC nE L B C F y1 ao) H := hP
          have hD : va_D A (wM cI cZ h cd lev tm gn nL nC nE L B C F y1 ao) := hD
          refine lv_iadd (x := y1 (20 * s1 + lv)) (y := farI (nI lv) (nI x)) hx hb dX4_goOn_84 ?_
          refine z_backvA (z_runVA (n := 3) (As := [.int (nI (s1 + 3 ^ k)), .int (nI x), .int ((y1 (20 * s1 + lv)) + (farI (nI lv) (nI x)))]) (ci := 5) (rest := []) hx hb hml hown hts hK hE hP hD (tX4_lower l D cI cZ cJ h cd lev tm gn nL nC nE L B C F y1 ao (s1 + 3 ^ k) x ((y1 (20 * s1 + lv)) + (farI (nI lv) (nI x))) (by have := dig_lt hn hlt hs1 c57; omega) _) gX4_goOn_X4_lower rfl rfl rfl (by decide +kernel) ⟨Nat.le_of_ble_eq_true rfl, Nat.le_of_ble_eq_true rfl⟩ rfl rfl rfl hl.1 rfl (Nat.le_of_ble_eq_true rfl) dX4_goOn_85 ⟨Nat.zero_le _, Nat.zero_le _⟩) hD hS hA (fun w1 H locs hp2 hP hD hS => ?_)
          obtain rfl := hp2
          have hP : va_P D vwCl (wM cI cZ h cd lev tm gn nL nC nE L B C F (lowF y1 (20 * (s1 + 3 ^ k) + x) ((y1 (20 * s1 + lv)) + (farI (nI lv) (nI x)))) ao) H := hP
          have hD : va_D A (wM cI cZ h cd lev tm gn nL nC nE L B C F (lowF y1 (20 * (s1 + 3 ^ k) + x) ((y1 (20 * s1 + lv)) + (farI (nI lv) (nI x)))) ao) := hD
          refine lv_iload hx hb dX4_goOn_88 (lv_at hl 5 rfl) ?_
          refine lv_iconst (v := 3) hx hb dX4_goOn_90 (by decide) ?_
          refine zn_mul (i := 3 ^ k) (j := 3) hx hb dX4_goOn_91 ?_
          refine lv_istore (lv' := [(4, .int (nI ((3 ^ k) * 3))), (7, .int (nI x)), (0, .ref (h 0)), (1, .int (nI s1)), (2, .int (nI lv)), (3, .int (nI n)), (5, .int (nI k)), (6, .int (nI (s1 / 3 ^ k % 3)))]) hx hb dX4_goOn_92 hl (by decide) rfl (fun ls hl => ?_)
          refine lv_iinc (v := nI (k + 1)) (lv' := [(5, .int (nI (k + 1))), (4, .int (nI ((3 ^ k) * 3))), (7, .int (nI x)), (0, .ref (h 0)), (1, .int (nI s1)), (2, .int (nI lv)), (3, .int (nI n)), (6, .int (nI (s1 / 3 ^ k % 3)))]) hx hb dX4_goOn_94 hl (k := 6) rfl (by rw [show Int32.ofInt 1 = nI 1 from rfl, nI_add]) (by decide) rfl (fun ls hl => ?_)
          refine lv_goto (tgt := 6) hx hb dX4_goOn_97 (by decide) ?_
          exact ih6 (k + 1) (lowF y1 (20 * (s1 + 3 ^ k) + x) ((y1 (20 * s1 + lv)) + (farI (nI lv) (nI x)))) (by omega) (by omega) (by rw [goF, ← ex, if_pos c57, en]) H locs ls (lv_sub hl [3, 4, 5, 6, 1, 0] rfl) hP hD hS
      refine lv_iload hx hb dX4_goOn_6 (lv_at hl 5 rfl) ?_
      refine lv_iload_n hx hb dX4_goOn_8 rfl (lv_at hl 3 rfl) ?_
      refine zn_ge (i := k) (j := n) (tgt := 100) hx hb (by omega) (by omega) dX4_goOn_9 (by decide) (fun c9 => ?_) (fun c9 => ?_)
      · skip
        exact z_vret hx hb hr hlocks hS hP rfl dX4_goOn_100 (by rw [ex, show k = n by omega])
      · skip
        refine lv_iload_n hx hb dX4_goOn_12 rfl (lv_at hl 1 rfl) ?_
        refine lv_iload hx hb dX4_goOn_13 (lv_at hl 4 rfl) ?_
        refine zn_div (i := s1) (j := 3 ^ k) hx hb (Nat.pow_pos (by decide)) (by omega) (by have := Nat.pow_le_pow_right (n := 3) (by decide) (show k ≤ 4 by omega); omega) dX4_goOn_15 ?_
        refine lv_iconst (v := 3) hx hb dX4_goOn_16 (by decide) ?_
        refine zn_rem (i := s1 / (3 ^ k)) (j := 3) hx hb (by omega) (Nat.lt_of_le_of_lt (Nat.div_le_self _ _) (by omega)) (by omega) dX4_goOn_17 ?_
        refine lv_istore (lv' := [(6, .int (nI ((s1 / (3 ^ k)) % 3))), (0, .ref (h 0)), (1, .int (nI s1)), (2, .int (nI lv)), (3, .int (nI n)), (4, .int (nI (3 ^ k))), (5, .int (nI k))]) hx hb dX4_goOn_18 hl (by decide) rfl (fun ls hl => ?_)
        refine lv_iload hx hb dX4_goOn_20 (lv_at hl 0 rfl) ?_
        refine lv_if_ne (x := nI ((s1 / (3 ^ k)) % 3)) (tgt := 40) hx hb dX4_goOn_22 (by decide) (fun c22 => ?_) (fun c22 => ?_)
        · skip
          refine lv_aload_n hx hb dX4_goOn_40 rfl (lv_at hl 1 rfl) ?_
          refine va_get (D := D) (ci := 5) (v := .ref (h 9)) (C := RX4) (T := TX4) (N := 28) hx hb hts kX4_goOn_inX4 hown hK hP 0 rfl rfl 14 (by decide) (hts _ kX4_goOn_f35) (fun _ h9 => h9) rfl dX4_goOn_41 ?_
          refine lv_aload_n hx hb dX4_goOn_44 rfl (lv_at hl 1 rfl) ?_
          refine va_get (D := D) (ci := 5) (v := .ref (h 21)) (C := RX4) (T := TX4) (N := 28) hx hb hts kX4_goOn_inX4 hown hK hP 0 rfl rfl 27 (by decide) (hts _ kX4_goOn_f71) (fun _ h9 => h9) rfl dX4_goOn_45 ?_
          refine lv_iload hx hb dX4_goOn_48 (lv_at hl 6 rfl) ?_
          refine z_iald (k := k) (v := ao k) hx hb hK hP 21 rfl (by decide) (by omega) (rfl) dX4_goOn_50 ?_
          rw [(hab k c9).1]
          have ha4 := (hab k c9).2
          refine z_iald (k := ab k) (v := C 1 (ab k)) hx hb hK hP 9 rfl (by decide) (by omega) (rfl) dX4_goOn_51 ?_
          rw [(hT (ab k) ha4).1]
          exact L52 (tN (ab k)) (by omega) (by rw [nxN, if_neg (by exact fun q => c22 ((nI_eq0 (by omega)).mpr q))]) (by first | exact (hF (ab k) ha4).2 | exact (hT (ab k) ha4).2) H locs ls (lv_sub hl [1, 2, 3, 4, 5, 6, 0] rfl) hP hD hS
        · skip
          refine lv_aload_n hx hb dX4_goOn_25 rfl (lv_at hl 1 rfl) ?_
          refine va_get (D := D) (ci := 5) (v := .ref (h 8)) (C := RX4) (T := TX4) (N := 28) hx hb hts kX4_goOn_inX4 hown hK hP 0 rfl rfl 13 (by decide) (hts _ kX4_goOn_f32) (fun _ h9 => h9) rfl dX4_goOn_26 ?_
          refine lv_aload_n hx hb dX4_goOn_29 rfl (lv_at hl 1 rfl) ?_
          refine va_get (D := D) (ci := 5) (v := .ref (h 21)) (C := RX4) (T := TX4) (N := 28) hx hb hts kX4_goOn_inX4 hown hK hP 0 rfl rfl 27 (by decide) (hts _ kX4_goOn_f71) (fun _ h9 => h9) rfl dX4_goOn_30 ?_
          refine lv_iload hx hb dX4_goOn_33 (lv_at hl 6 rfl) ?_
          refine z_iald (k := k) (v := ao k) hx hb hK hP 21 rfl (by decide) (by omega) (rfl) dX4_goOn_35 ?_
          rw [(hab k c9).1]
          have ha4 := (hab k c9).2
          refine z_iald (k := ab k) (v := C 0 (ab k)) hx hb hK hP 8 rfl (by decide) (by omega) (rfl) dX4_goOn_36 ?_
          rw [(hF (ab k) ha4).1]
          refine lv_goto (tgt := 52) hx hb dX4_goOn_37 (by decide) ?_
          exact L52 (fN (ab k)) (by omega) (by rw [nxN, if_pos (by exact (nI_eq0 (by omega)).mp c22)]) (by first | exact (hF (ab k) ha4).2 | exact (hT (ab k) ha4).2) H locs ls (lv_sub hl [1, 2, 3, 4, 5, 6, 0] rfl) hP hD hS
  refine lv_iconst (v := 1) hx hb dX4_goOn_0 (by decide) ?_
  refine lv_istore (lv' := [(4, .int 1), (0, .ref (h 0)), (1, .int (nI s1)), (2, .int (nI lv)), (3, .int (nI n))]) hx hb dX4_goOn_1 hl (by decide) rfl (fun ls hl => ?_)
  refine lv_iconst (v := 0) hx hb dX4_goOn_3 (by decide) ?_
  refine lv_istore (lv' := [(5, .int 0), (4, .int 1), (0, .ref (h 0)), (1, .int (nI s1)), (2, .int (nI lv)), (3, .int (nI n))]) hx hb dX4_goOn_4 hl (by decide) rfl (fun ls hl => ?_)
  exact L6 (n + 1) 0 ys (by omega) (by omega) (rfl) s.heap [] ls (lv_sub hl [2, 3, 4, 5, 1, 0] rfl) hP hD hS

theorem kX4_least_f78 : Cond.fieldLink RX4 78 "LiftRows2Model" "code" "I" ∈ wsX4_least := by decide +kernel
theorem kX4_least_inX4 : ∀ w ∈ wsX40, w ∈ wsX4_least := by decide +kernel
set_option maxHeartbeats 4000000 in
set_option maxRecDepth 100000 in
theorem tX4_least_no (l : Launch) (D : va_G) (cI cZ cJ : ClassId) (h : Nat → Nat) (cd : Int32) (lev tm : Nat) (gn : Int32) (nL nC nE : Nat) (L B C F : Nat → Nat → Int32) (ys ao : Nat → Int32) (v : Int32) (hno : inB v 0 (nI nL - 1) = false)  : ∀ sz : Nat, zMi l yX4_least wsX4_least ({ frames := 2, cells := 0, slots := 0, locals := 50 } : Room) D cI cZ cJ (wM cI cZ h cd lev tm gn nL nC nE L B C F ys ao) sz [.ref (h 0), .int v] (fun r w' => r = 0 ∧ w' = wM cI cZ h 1 lev tm gn nL nC nE L B C F ys ao) := by
  intro sz
  refine z_head (y := yX4_least) (av := [.ref (h 0), .int v]) (w := (wM cI cZ h cd lev tm gn nL nC nE L B C F ys ao)) (Qc := fun A => zQi D (wM cI cZ h cd lev tm gn nL nC nE L B C F ys ao) (fun r w' => r = 0 ∧ w' = wM cI cZ h 1 lev tm gn nL nC nE L B C F ys ao) A) (cc := cX4_least) (maxL := 8) (ret := (some .int)) (by decide) rfl (Nat.le_of_ble_eq_true rfl) ?_
  intro p e s m below meth c ls A hat hP hD hS hl
  obtain ⟨hx, hb, hr, hml, hlocks, hts, hown, hin, hK, hE, hA⟩ := hat
  have hP : va_P D vwCl (wM cI cZ h cd lev tm gn nL nC nE L B C F ys ao) s.heap := hP
  have hD : va_D A (wM cI cZ h cd lev tm gn nL nC nE L B C F ys ao) := hD
  have hl : lv_has ls 8 [(0, .ref (h 0)), (1, .int v)] := hl
  refine lv_aload_n hx hb dX4_least_0 rfl (lv_at hl 0 rfl) ?_
  refine lv_aload_n hx hb dX4_least_1 rfl (lv_at hl 0 rfl) ?_
  refine lv_iload_n hx hb dX4_least_2 rfl (lv_at hl 1 rfl) ?_
  refine z_backiA (z_runVA (n := 1) (As := [.int v]) (ci := 5) (rest := [.ref (h 0)]) hx hb hml hown hts hK hE hP hD (tX4_isLift l D cI cZ cJ h cd lev tm gn nL nC nE L B C F ys ao v  _) gX4_least_X4_isLift rfl rfl rfl (by decide +kernel) ⟨Nat.le_of_ble_eq_true rfl, Nat.le_of_ble_eq_true rfl⟩ rfl rfl rfl hl.1 rfl (Nat.le_of_ble_eq_true rfl) dX4_least_3 ⟨Nat.zero_le _, Nat.zero_le _⟩) hD hS hA (fun r1 w1 H locs hp1 hP hD hS => ?_)
  obtain ⟨rfl, rfl⟩ := hp1
  have hP : va_P D vwCl (wM cI cZ h cd lev tm gn nL nC nE L B C F ys ao) H := hP
  have hD : va_D A (wM cI cZ h cd lev tm gn nL nC nE L B C F ys ao) := hD
  refine zb_eq (b := (inB v 0 (nI nL - 1))) (tgt := 13) hx hb dX4_least_6 (by decide) (fun c6 => ?_) (fun c6 => ?_)
  · skip
    refine lv_iconst (v := 1) hx hb dX4_least_13 (by decide) ?_
    refine va_put (D := D) (ci := 5) (v := .int 1) (ty := .int) (C := RX4) (T := TX4) (N := 28) hx hb hts kX4_least_inX4 tyX4 tyX4_ok nmX4 hown hK hP hD hS 0 rfl rfl 0 (by decide) (hts _ kX4_least_f78) (fun _ h9 => h9) rfl (by decide +kernel) rfl rfl (Nat.le_of_ble_eq_true rfl) dX4_least_14 (fun H locs hP hD hS => ?_)
    have hP : va_P D vwCl (wM cI cZ h 1 lev tm gn nL nC nE L B C F ys ao) H := hP
    have hD : va_D A (wM cI cZ h 1 lev tm gn nL nC nE L B C F ys ao) := hD
    refine lv_aload_n hx hb dX4_least_17 rfl (lv_at hl 0 rfl) ?_
    refine va_get (D := D) (ci := 5) (v := .int 1) (C := RX4) (T := TX4) (N := 28) hx hb hts kX4_least_inX4 hown hK hP 0 rfl rfl 0 (by decide) (hts _ kX4_least_f78) (fun _ h9 => h9) rfl dX4_least_18 ?_
    refine lv_if_le (x := 1) (tgt := 26) hx hb dX4_least_21 (by decide) (fun c21 => ?_) (fun c21 => ?_)
    · exact absurd c21 (by decide)
    · skip
      refine lv_iconst (v := 0) hx hb dX4_least_24 (by decide) ?_
      exact z_iret hx hb hr hlocks hS hP rfl dX4_least_25 (⟨rfl, rfl⟩)
  · exact absurd (hno.symm.trans c6) (by decide)


set_option maxHeartbeats 4000000 in
set_option maxRecDepth 100000 in
theorem tX4_least_many (l : Launch) (D : va_G) (cI cZ cJ : ClassId) (h : Nat → Nat) (cd : Int32) (lev tm : Nat) (gn : Int32) (nL nC nE : Nat) (L B C F : Nat → Nat → Int32) (ys ao : Nat → Int32) (k : Nat) (hk : k < nL) (hL : nL ≤ 4) (hC : nC ≤ 24) (hn : 4 < cntW (lsB C (nI k)) nC)  : ∀ sz : Nat, zMi l yX4_least wsX4_least ({ frames := 2, cells := 0, slots := 0, locals := 50 } : Room) D cI cZ cJ (wM cI cZ h cd lev tm gn nL nC nE L B C F ys ao) sz [.ref (h 0), .int (nI k)] (fun r w' => r = -1 ∧ w' = wM cI cZ h 0 lev tm gn nL nC nE L B C F ys ao) := by
  intro sz
  refine z_head (y := yX4_least) (av := [.ref (h 0), .int (nI k)]) (w := (wM cI cZ h cd lev tm gn nL nC nE L B C F ys ao)) (Qc := fun A => zQi D (wM cI cZ h cd lev tm gn nL nC nE L B C F ys ao) (fun r w' => r = -1 ∧ w' = wM cI cZ h 0 lev tm gn nL nC nE L B C F ys ao) A) (cc := cX4_least) (maxL := 8) (ret := (some .int)) (by decide) rfl (Nat.le_of_ble_eq_true rfl) ?_
  intro p e s m below meth c ls A hat hP hD hS hl
  obtain ⟨hx, hb, hr, hml, hlocks, hts, hown, hin, hK, hE, hA⟩ := hat
  have hP : va_P D vwCl (wM cI cZ h cd lev tm gn nL nC nE L B C F ys ao) s.heap := hP
  have hD : va_D A (wM cI cZ h cd lev tm gn nL nC nE L B C F ys ao) := hD
  have hl : lv_has ls 8 [(0, .ref (h 0)), (1, .int (nI k))] := hl
  have h1 : inB (nI k) 0 (nI nL - 1) = true := inB_ok hk (by omega)
  have hcl := cntW_le (lsB C (nI k)) nC
  refine lv_aload_n hx hb dX4_least_0 rfl (lv_at hl 0 rfl) ?_
  refine lv_aload_n hx hb dX4_least_1 rfl (lv_at hl 0 rfl) ?_
  refine lv_iload_n hx hb dX4_least_2 rfl (lv_at hl 1 rfl) ?_
  refine z_backiA (z_runVA (n := 1) (As := [.int (nI k)]) (ci := 5) (rest := [.ref (h 0)]) hx hb hml hown hts hK hE hP hD (tX4_isLift l D cI cZ cJ h cd lev tm gn nL nC nE L B C F ys ao (nI k)  _) gX4_least_X4_isLift rfl rfl rfl (by decide +kernel) ⟨Nat.le_of_ble_eq_true rfl, Nat.le_of_ble_eq_true rfl⟩ rfl rfl rfl hl.1 rfl (Nat.le_of_ble_eq_true rfl) dX4_least_3 ⟨Nat.zero_le _, Nat.zero_le _⟩) hD hS hA (fun r1 w1 H locs hp1 hP hD hS => ?_)
  obtain ⟨rfl, rfl⟩ := hp1
  have hP : va_P D vwCl (wM cI cZ h cd lev tm gn nL nC nE L B C F ys ao) H := hP
  have hD : va_D A (wM cI cZ h cd lev tm gn nL nC nE L B C F ys ao) := hD
  refine zb_eq (b := (inB (nI k) 0 (nI nL - 1))) (tgt := 13) hx hb dX4_least_6 (by decide) (fun c6 => ?_) (fun c6 => ?_)
  · exact absurd (h1.symm.trans c6) (by decide)
  · skip
    refine lv_iconst (v := 0) hx hb dX4_least_9 (by decide) ?_
    refine lv_goto (tgt := 14) hx hb dX4_least_10 (by decide) ?_
    refine va_put (D := D) (ci := 5) (v := .int 0) (ty := .int) (C := RX4) (T := TX4) (N := 28) hx hb hts kX4_least_inX4 tyX4 tyX4_ok nmX4 hown hK hP hD hS 0 rfl rfl 0 (by decide) (hts _ kX4_least_f78) (fun _ h9 => h9) rfl (by decide +kernel) rfl rfl (Nat.le_of_ble_eq_true rfl) dX4_least_14 (fun H locs hP hD hS => ?_)
    have hP : va_P D vwCl (wM cI cZ h 0 lev tm gn nL nC nE L B C F ys ao) H := hP
    have hD : va_D A (wM cI cZ h 0 lev tm gn nL nC nE L B C F ys ao) := hD
    refine lv_aload_n hx hb dX4_least_17 rfl (lv_at hl 0 rfl) ?_
    refine va_get (D := D) (ci := 5) (v := .int 0) (C := RX4) (T := TX4) (N := 28) hx hb hts kX4_least_inX4 hown hK hP 0 rfl rfl 0 (by decide) (hts _ kX4_least_f78) (fun _ h9 => h9) rfl dX4_least_18 ?_
    refine lv_if_le (x := 0) (tgt := 26) hx hb dX4_least_21 (by decide) (fun c21 => ?_) (fun c21 => ?_)
    · skip
      refine lv_aload_n hx hb dX4_least_26 rfl (lv_at hl 0 rfl) ?_
      refine lv_iload_n hx hb dX4_least_27 rfl (lv_at hl 1 rfl) ?_
      refine lv_iconst (v := 1) hx hb dX4_least_28 (by decide) ?_
      refine z_backiA (z_runVA (n := 2) (As := [.int (nI k), .int 1]) (ci := 5) (rest := []) hx hb hml hown hts hK hE hP hD (tX4_many l D cI cZ cJ h 0 lev tm gn nL nC nE L B C F ys ao (nI k) 1 (by omega) _) gX4_least_X4_many rfl rfl rfl (by decide +kernel) ⟨Nat.le_of_ble_eq_true rfl, Nat.le_of_ble_eq_true rfl⟩ rfl rfl rfl hl.1 rfl (Nat.le_of_ble_eq_true rfl) dX4_least_29 ⟨Nat.zero_le _, Nat.zero_le _⟩) hD hS hA (fun r2 w1 H locs hp2 hP hD hS => ?_)
      obtain ⟨rfl, rfl⟩ := hp2
      have hP : va_P D vwCl (wM cI cZ h 0 lev tm gn nL nC nE L B C F ys ao) H := hP
      have hD : va_D A (wM cI cZ h 0 lev tm gn nL nC nE L B C F ys ao) := hD
      refine lv_aload_n hx hb dX4_least_32 rfl (lv_at hl 0 rfl) ?_
      refine lv_iload_n hx hb dX4_least_33 rfl (lv_at hl 1 rfl) ?_
      refine lv_iconst (v := 0) hx hb dX4_least_34 (by decide) ?_
      refine z_backiA (z_runVA (n := 2) (As := [.int (nI k), .int 0]) (ci := 5) (rest := [.int (nI (cntW (fun k9 => isB C k9 1 (nI k)) nC))]) hx hb hml hown hts hK hE hP hD (tX4_many l D cI cZ cJ h 0 lev tm gn nL nC nE L B C F ys ao (nI k) 0 (by omega) _) gX4_least_X4_many rfl rfl rfl (by decide +kernel) ⟨Nat.le_of_ble_eq_true rfl, Nat.le_of_ble_eq_true rfl⟩ rfl rfl rfl hl.1 rfl (Nat.le_of_ble_eq_true rfl) dX4_least_35 ⟨Nat.zero_le _, Nat.zero_le _⟩) hD hS hA (fun r3 w1 H locs hp3 hP hD hS => ?_)
      obtain ⟨rfl, rfl⟩ := hp3
      have hP : va_P D vwCl (wM cI cZ h 0 lev tm gn nL nC nE L B C F ys ao) H := hP
      have hD : va_D A (wM cI cZ h 0 lev tm gn nL nC nE L B C F ys ao) := hD
      refine zn_add (i := cntW (fun k9 => isB C k9 1 (nI k)) nC) (j := cntW (fun k9 => isB C k9 0 (nI k)) nC) hx hb dX4_least_38 ?_
      rw [← cnt_ls C (nI k) nC]
      refine lv_istore_n (lv' := [(2, .int (nI (cntW (lsB C (nI k)) nC))), (0, .ref (h 0)), (1, .int (nI k))]) hx hb dX4_least_39 rfl hl (by decide) rfl (fun ls hl => ?_)
      refine lv_iload_n hx hb dX4_least_40 rfl (lv_at hl 0 rfl) ?_
      refine lv_iconst (v := 4) hx hb dX4_least_41 (by decide) ?_
      refine zn_le (i := cntW (lsB C (nI k)) nC) (j := 4) (tgt := 47) hx hb (by omega) (by omega) dX4_least_42 (by decide) (fun c42 => ?_) (fun c42 => ?_)
      · exact absurd c42 (by omega)
      · skip
        refine lv_iconst (v := (-1)) hx hb dX4_least_45 (by decide) ?_
        exact z_iret hx hb hr hlocks hS hP rfl dX4_least_46 (⟨rfl, rfl⟩)
    · exact absurd c21 (by decide)

theorem kX4_least_f74 : Cond.fieldLink RX4 74 "LiftRows2Model" "levels" "I" ∈ wsX4_least := by decide +kernel
theorem kX4_least_f68 : Cond.fieldLink RX4 68 "LiftRows2Model" "ways" "[I" ∈ wsX4_least := by decide +kernel
theorem kX4_least_c145 : Cond.constant RX4 145 (1000000) ∈ wsX4_least := by decide +kernel
theorem kX4_least_f7 : Cond.fieldLink RX4 7 "LiftRows2Model" "at" "[I" ∈ wsX4_least := by decide +kernel
theorem kX4_least_f88 : Cond.fieldLink RX4 88 "LiftRows2Model" "calls" "I" ∈ wsX4_least := by decide +kernel
theorem kX4_least_f71 : Cond.fieldLink RX4 71 "LiftRows2Model" "about" "[I" ∈ wsX4_least := by decide +kernel
theorem kX4_least_f44 : Cond.fieldLink RX4 44 "LiftRows2Model" "state" "[I" ∈ wsX4_least := by decide +kernel
set_option maxHeartbeats 4000000 in
set_option maxRecDepth 100000 in
theorem tX4_least_ok (l : Launch) (D : va_G) (cI cZ cJ : ClassId) (h : Nat → Nat) (cd : Int32) (lev tm : Nat) (gn : Int32) (nL nC nE : Nat) (L B C F : Nat → Nat → Int32) (ys ao : Nat → Int32) (k : Nat) (hk : k < nL) (hL : nL ≤ 4) (hC : nC ≤ 24) (hn : cntW (lsB C (nI k)) nC ≤ 4) (a0 : Nat) (hat0 : L 0 k = nI a0) (ha0 : a0 < 20) (hlev : lev ≤ 20) (fN tN : Nat → Nat) (hF : ∀ c, c < 24 → C 0 c = nI (fN c) ∧ fN c < 20) (hT : ∀ c, c < 24 → C 1 c = nI (tN c) ∧ tN c < 20)  : ∀ sz : Nat, zMi l yX4_least wsX4_least ({ frames := 2, cells := 0, slots := 0, locals := 50 } : Room) D cI cZ cJ (wM cI cZ h cd lev tm gn nL nC nE L B C F ys ao) sz [.ref (h 0), .int (nI k)] (fun r w' => r = ldR fN tN C (nI k) nC lev a0 ys ∧ w' = wM cI cZ h 0 lev tm gn nL nC nE L B C F (ldY fN tN C (nI k) nC lev a0 ys) (aoF C (nI k) ao nC)) := by
  intro sz
  refine z_head (y := yX4_least) (av := [.ref (h 0), .int (nI k)]) (w := (wM cI cZ h cd lev tm gn nL nC nE L B C F ys ao)) (Qc := fun A => zQi D (wM cI cZ h cd lev tm gn nL nC nE L B C F ys ao) (fun r w' => r = ldR fN tN C (nI k) nC lev a0 ys ∧ w' = wM cI cZ h 0 lev tm gn nL nC nE L B C F (ldY fN tN C (nI k) nC lev a0 ys) (aoF C (nI k) ao nC)) A) (cc := cX4_least) (maxL := 8) (ret := (some .int)) (by decide) rfl (Nat.le_of_ble_eq_true rfl) ?_
  intro p e s m below meth c ls A hat hP hD hS hl
  obtain ⟨hx, hb, hr, hml, hlocks, hts, hown, hin, hK, hE, hA⟩ := hat
  have hP : va_P D vwCl (wM cI cZ h cd lev tm gn nL nC nE L B C F ys ao) s.heap := hP
  have hD : va_D A (wM cI cZ h cd lev tm gn nL nC nE L B C F ys ao) := hD
  have hl : lv_has ls 8 [(0, .ref (h 0)), (1, .int (nI k))] := hl
  have h1 : inB (nI k) 0 (nI nL - 1) = true := inB_ok hk (by omega)
  have hcl := cntW_le (lsB C (nI k)) nC
  obtain ⟨n9, en⟩ : ∃ x, x = cntW (lsB C (nI k)) nC := ⟨_, rfl⟩
  obtain ⟨fi9, ef0⟩ : ∃ x, x = fiF C (nI k) nC := ⟨_, rfl⟩
  obtain ⟨al9, ea0⟩ : ∃ x, x = 3 ^ n9 := ⟨_, rfl⟩
  obtain ⟨ao9, eo0⟩ : ∃ x, x = aoF C (nI k) ao nC := ⟨_, rfl⟩
  obtain ⟨ab9, eb0⟩ : ∃ x, x = abN C (nI k) nC := ⟨_, rfl⟩
  obtain ⟨Y0, eY0⟩ : ∃ x, x = upd (faF ys (20 * al9)) (20 * fi9 + a0) 0 := ⟨_, rfl⟩
  obtain ⟨Y9, eY⟩ : ∃ x, x = dpF fN tN ab9 fi9 lev n9 Y0 (al9 - fi9) := ⟨_, rfl⟩
  have hn4 : n9 ≤ 4 := by omega
  have h81 : al9 ≤ 81 := by rw [ea0]; exact pow3_le hn4
  have hfi : fi9 < al9 := by rw [ef0, ea0, en]; exact fiF_lt C (nI k) nC
  have hab : ∀ j, j < n9 → ao9 j = nI (ab9 j) ∧ ab9 j < 24 := fun j hj => by rw [eo0, eb0]; have := aoF_ab C (nI k) ao nC j (by omega); exact ⟨this.1, by omega⟩
  have L245 : ∀ (fu : Nat) (lv : Nat) (b : Int32), lv ≤ lev → lev + 1 ≤ lv + fu → (b = beF Y9 (al9 - 1) lv) → ∀ (H : Heap) (locs : List Loc) (ls : Array Slot), lv_has ls 8 [(0, .ref (h 0)), (1, .int (nI k)), (2, .int (nI n9)), (4, .int (nI fi9)), (5, .int (nI al9)), (6, .int b), (7, .int (nI lv))] → va_P D vwCl (wM cI cZ h 0 lev tm gn nL nC nE L B C F Y9 ao9) H → va_D A (wM cI cZ h 0 lev tm gn nL nC nE L B C F Y9 ao9) → va_S A s.heap H locs → W p l e ({ frames := 2, cells := 0, slots := 0, locals := 50 } : Room) s m ([.ref (h 0), .int (nI k)] : List Value).toArray below meth c H locs 0 0 (MQ below (zQi D (wM cI cZ h cd lev tm gn nL nC nE L B C F ys ao) (fun r w' => r = ldR fN tN C (nI k) nC lev a0 ys ∧ w' = wM cI cZ h 0 lev tm gn nL nC nE L B C F (ldY fN tN C (nI k) nC lev a0 ys) (aoF C (nI k) ao nC)) A) ([.ref (h 0), .int (nI k)] : List Value).toArray s 0 0 A) (F0 m 245 ls []) := by
    intro fu
    induction fu with
    | zero =>
      intro lv b h1 h2
      exact absurd h2 (by omega)
    | succ fu ih245 =>
      intro lv b hle hfu eb H locs ls hl hP hD hS
      refine lv_iload hx hb dX4_least_245 (lv_at hl 6 rfl) ?_
      refine lv_aload_n hx hb dX4_least_247 rfl (lv_at hl 0 rfl) ?_
      refine va_get (D := D) (ci := 5) (v := .int (nI lev)) (C := RX4) (T := TX4) (N := 28) hx hb hts kX4_least_inX4 hown hK hP 0 rfl rfl 1 (by decide) (hts _ kX4_least_f74) (fun _ h9 => h9) rfl dX4_least_248 ?_
      refine zn_ge (i := lv) (j := lev) (tgt := 302) hx hb (by omega) (by omega) dX4_least_251 (by decide) (fun c251 => ?_) (fun c251 => ?_)
      · skip
        refine lv_iload hx hb dX4_least_302 (lv_at hl 5 rfl) ?_
        exact z_iret hx hb hr hlocks hS hP rfl dX4_least_304 (⟨by rw [eb, show lv = lev by omega]; subst eY; subst eY0; subst eb0; subst ea0; subst ef0; subst en; rfl, by subst eY; subst eY0; subst eb0; subst eo0; subst ea0; subst ef0; subst en; rfl⟩)
      · skip
        refine lv_aload_n hx hb dX4_least_254 rfl (lv_at hl 0 rfl) ?_
        refine va_get (D := D) (ci := 5) (v := .ref (h 20)) (C := RX4) (T := TX4) (N := 28) hx hb hts kX4_least_inX4 hown hK hP 0 rfl rfl 26 (by decide) (hts _ kX4_least_f68) (fun _ h9 => h9) rfl dX4_least_255 ?_
        refine lv_bipush (v := 20) hx hb dX4_least_258 (by decide) ?_
        refine lv_iload hx hb dX4_least_260 (lv_at hl 4 rfl) ?_
        refine lv_iconst (v := 1) hx hb dX4_least_262 (by decide) ?_
        refine lv_isub (x := nI al9) (y := 1) hx hb dX4_least_263 ?_
        rw [nI_s1 (show 1 ≤ al9 by omega)]
        refine zn_mul (i := 20) (j := al9 - 1) hx hb dX4_least_264 ?_
        refine lv_iload hx hb dX4_least_265 (lv_at hl 6 rfl) ?_
        refine zn_add (i := 20 * (al9 - 1)) (j := lv) hx hb dX4_least_267 ?_
        refine z_iald (k := 20 * (al9 - 1) + lv) (v := Y9 (20 * (al9 - 1) + lv)) hx hb hK hP 20 rfl (by decide) (by omega) (rfl) dX4_least_268 ?_
        refine lv_iload hx hb dX4_least_269 (lv_at hl 5 rfl) ?_
        refine lv_icmp_ge (x := Y9 (20 * (al9 - 1) + lv)) (y := b) (tgt := 292) hx hb dX4_least_271 (by decide) (fun c271 => ?_) (fun c271 => ?_)
        · skip
          refine lv_iload hx hb dX4_least_292 (lv_at hl 5 rfl) ?_
          refine lv_istore (lv' := [(6, .int b), (0, .ref (h 0)), (1, .int (nI k)), (2, .int (nI n9)), (4, .int (nI fi9)), (5, .int (nI al9)), (7, .int (nI lv))]) hx hb dX4_least_294 hl (by decide) rfl (fun ls hl => ?_)
          refine lv_iinc (v := nI (lv + 1)) (lv' := [(7, .int (nI (lv + 1))), (6, .int b), (0, .ref (h 0)), (1, .int (nI k)), (2, .int (nI n9)), (4, .int (nI fi9)), (5, .int (nI al9))]) hx hb dX4_least_296 hl (k := 6) rfl (by rw [show Int32.ofInt 1 = nI 1 from rfl, nI_add]) (by decide) rfl (fun ls hl => ?_)
          refine lv_goto (tgt := 245) hx hb dX4_least_299 (by decide) ?_
          exact ih245 (lv + 1) b (by omega) (by omega) (by rw [beF, ← eb, if_pos c271]) H locs ls (lv_sub hl [2, 3, 4, 5, 6, 1, 0] rfl) hP hD hS
        · skip
          refine lv_aload_n hx hb dX4_least_274 rfl (lv_at hl 0 rfl) ?_
          refine va_get (D := D) (ci := 5) (v := .ref (h 20)) (C := RX4) (T := TX4) (N := 28) hx hb hts kX4_least_inX4 hown hK hP 0 rfl rfl 26 (by decide) (hts _ kX4_least_f68) (fun _ h9 => h9) rfl dX4_least_275 ?_
          refine lv_bipush (v := 20) hx hb dX4_least_278 (by decide) ?_
          refine lv_iload hx hb dX4_least_280 (lv_at hl 4 rfl) ?_
          refine lv_iconst (v := 1) hx hb dX4_least_282 (by decide) ?_
          refine lv_isub (x := nI al9) (y := 1) hx hb dX4_least_283 ?_
          rw [nI_s1 (show 1 ≤ al9 by omega)]
          refine zn_mul (i := 20) (j := al9 - 1) hx hb dX4_least_284 ?_
          refine lv_iload hx hb dX4_least_285 (lv_at hl 6 rfl) ?_
          refine zn_add (i := 20 * (al9 - 1)) (j := lv) hx hb dX4_least_287 ?_
          refine z_iald (k := 20 * (al9 - 1) + lv) (v := Y9 (20 * (al9 - 1) + lv)) hx hb hK hP 20 rfl (by decide) (by omega) (rfl) dX4_least_288 ?_
          refine lv_goto (tgt := 294) hx hb dX4_least_289 (by decide) ?_
          refine lv_istore (lv' := [(6, .int (Y9 (20 * (al9 - 1) + lv))), (0, .ref (h 0)), (1, .int (nI k)), (2, .int (nI n9)), (4, .int (nI fi9)), (5, .int (nI al9)), (7, .int (nI lv))]) hx hb dX4_least_294 hl (by decide) rfl (fun ls hl => ?_)
          refine lv_iinc (v := nI (lv + 1)) (lv' := [(7, .int (nI (lv + 1))), (6, .int (Y9 (20 * (al9 - 1) + lv))), (0, .ref (h 0)), (1, .int (nI k)), (2, .int (nI n9)), (4, .int (nI fi9)), (5, .int (nI al9))]) hx hb dX4_least_296 hl (k := 6) rfl (by rw [show Int32.ofInt 1 = nI 1 from rfl, nI_add]) (by decide) rfl (fun ls hl => ?_)
          refine lv_goto (tgt := 245) hx hb dX4_least_299 (by decide) ?_
          exact ih245 (lv + 1) (Y9 (20 * (al9 - 1) + lv)) (by omega) (by omega) (by rw [beF, ← eb, if_neg c271]) H locs ls (lv_sub hl [2, 3, 4, 5, 6, 1, 0] rfl) hP hD hS
  have L180 : ∀ (fu : Nat) (q : Nat) (y1 : Nat → Int32), q ≤ al9 - fi9 → (al9 - fi9) + 1 ≤ q + fu → (y1 = dpF fN tN ab9 fi9 lev n9 Y0 q) → ∀ (H : Heap) (locs : List Loc) (ls : Array Slot), lv_has ls 8 [(0, .ref (h 0)), (1, .int (nI k)), (2, .int (nI n9)), (4, .int (nI fi9)), (5, .int (nI al9)), (6, .int (nI (fi9 + q)))] → va_P D vwCl (wM cI cZ h 0 lev tm gn nL nC nE L B C F y1 ao9) H → va_D A (wM cI cZ h 0 lev tm gn nL nC nE L B C F y1 ao9) → va_S A s.heap H locs → W p l e ({ frames := 2, cells := 0, slots := 0, locals := 50 } : Room) s m ([.ref (h 0), .int (nI k)] : List Value).toArray below meth c H locs 0 0 (MQ below (zQi D (wM cI cZ h cd lev tm gn nL nC nE L B C F ys ao) (fun r w' => r = ldR fN tN C (nI k) nC lev a0 ys ∧ w' = wM cI cZ h 0 lev tm gn nL nC nE L B C F (ldY fN tN C (nI k) nC lev a0 ys) (aoF C (nI k) ao nC)) A) ([.ref (h 0), .int (nI k)] : List Value).toArray s 0 0 A) (F0 m 180 ls []) := by
    intro fu
    induction fu with
    | zero =>
      intro q y1 h1 h2
      exact absurd h2 (by omega)
    | succ fu ih180 =>
      intro q y1 hle hfu ey H locs ls hl hP hD hS
      have L190 : ∀ (fu : Nat) (lv : Nat) (y2 : Nat → Int32), lv ≤ lev → lev + 1 ≤ lv + fu → (q < al9 - fi9) → (y2 = rowF fN tN ab9 (fi9 + q) n9 y1 lv) → ∀ (H : Heap) (locs : List Loc) (ls : Array Slot), lv_has ls 8 [(0, .ref (h 0)), (1, .int (nI k)), (2, .int (nI n9)), (4, .int (nI fi9)), (5, .int (nI al9)), (6, .int (nI (fi9 + q))), (7, .int (nI lv))] → va_P D vwCl (wM cI cZ h 0 lev tm gn nL nC nE L B C F y2 ao9) H → va_D A (wM cI cZ h 0 lev tm gn nL nC nE L B C F y2 ao9) → va_S A s.heap H locs → W p l e ({ frames := 2, cells := 0, slots := 0, locals := 50 } : Room) s m ([.ref (h 0), .int (nI k)] : List Value).toArray below meth c H locs 0 0 (MQ below (zQi D (wM cI cZ h cd lev tm gn nL nC nE L B C F ys ao) (fun r w' => r = ldR fN tN C (nI k) nC lev a0 ys ∧ w' = wM cI cZ h 0 lev tm gn nL nC nE L B C F (ldY fN tN C (nI k) nC lev a0 ys) (aoF C (nI k) ao nC)) A) ([.ref (h 0), .int (nI k)] : List Value).toArray s 0 0 A) (F0 m 190 ls []) := by
        intro fu
        induction fu with
        | zero =>
          intro lv y2 h1 h2
          exact absurd h2 (by omega)
        | succ fu ih190 =>
          intro lv y2 hle hfu hlt ez H locs ls hl hP hD hS
          refine lv_iload hx hb dX4_least_190 (lv_at hl 6 rfl) ?_
          refine lv_aload_n hx hb dX4_least_192 rfl (lv_at hl 0 rfl) ?_
          refine va_get (D := D) (ci := 5) (v := .int (nI lev)) (C := RX4) (T := TX4) (N := 28) hx hb hts kX4_least_inX4 hown hK hP 0 rfl rfl 1 (by decide) (hts _ kX4_least_f74) (fun _ h9 => h9) rfl dX4_least_193 ?_
          refine zn_ge (i := lv) (j := lev) (tgt := 232) hx hb (by omega) (by omega) dX4_least_196 (by decide) (fun c196 => ?_) (fun c196 => ?_)
          · skip
            refine lv_iinc (v := nI (fi9 + q + 1)) (lv' := [(6, .int (nI (fi9 + q + 1))), (0, .ref (h 0)), (1, .int (nI k)), (2, .int (nI n9)), (4, .int (nI fi9)), (5, .int (nI al9)), (7, .int (nI lv))]) hx hb dX4_least_232 hl (k := 5) rfl (by rw [show Int32.ofInt 1 = nI 1 from rfl, nI_add]) (by decide) rfl (fun ls hl => ?_)
            refine lv_goto (tgt := 180) hx hb dX4_least_235 (by decide) ?_
            exact ih180 (q + 1) y2 (by omega) (by omega) (by rw [dpF, ← ey, ez, show lv = lev by omega]) H locs ls (lv_sub hl [1, 2, 3, 4, 5, 0] rfl) hP hD hS
          · skip
            refine lv_aload_n hx hb dX4_least_199 rfl (lv_at hl 0 rfl) ?_
            refine va_get (D := D) (ci := 5) (v := .ref (h 20)) (C := RX4) (T := TX4) (N := 28) hx hb hts kX4_least_inX4 hown hK hP 0 rfl rfl 26 (by decide) (hts _ kX4_least_f68) (fun _ h9 => h9) rfl dX4_least_200 ?_
            refine lv_bipush (v := 20) hx hb dX4_least_203 (by decide) ?_
            refine lv_iload hx hb dX4_least_205 (lv_at hl 5 rfl) ?_
            refine zn_mul (i := 20) (j := fi9 + q) hx hb dX4_least_207 ?_
            refine lv_iload hx hb dX4_least_208 (lv_at hl 6 rfl) ?_
            refine zn_add (i := 20 * (fi9 + q)) (j := lv) hx hb dX4_least_210 ?_
            refine z_iald (k := 20 * (fi9 + q) + lv) (v := y2 (20 * (fi9 + q) + lv)) hx hb hK hP 20 rfl (by decide) (by omega) (rfl) dX4_least_211 ?_
            refine lv_ldc (v := 1000000) hx hb hown (hts _ kX4_least_c145) dX4_least_212 ?_
            refine lv_icmp_ge (x := y2 (20 * (fi9 + q) + lv)) (y := 1000000) (tgt := 226) hx hb dX4_least_214 (by decide) (fun c214 => ?_) (fun c214 => ?_)
            · skip
              refine lv_iinc (v := nI (lv + 1)) (lv' := [(7, .int (nI (lv + 1))), (0, .ref (h 0)), (1, .int (nI k)), (2, .int (nI n9)), (4, .int (nI fi9)), (5, .int (nI al9)), (6, .int (nI (fi9 + q)))]) hx hb dX4_least_226 hl (k := 6) rfl (by rw [show Int32.ofInt 1 = nI 1 from rfl, nI_add]) (by decide) rfl (fun ls hl => ?_)
              refine lv_goto (tgt := 190) hx hb dX4_least_229 (by decide) ?_
              exact ih190 (lv + 1) y2 (by omega) (by omega) (by omega) (by rw [rowF, ← ez, if_neg (Int32.not_lt.mpr c214)]) H locs ls (lv_sub hl [1, 2, 3, 4, 5, 6, 0] rfl) hP hD hS
            · skip
              refine lv_aload_n hx hb dX4_least_217 rfl (lv_at hl 0 rfl) ?_
              refine lv_iload hx hb dX4_least_218 (lv_at hl 5 rfl) ?_
              refine lv_iload hx hb dX4_least_220 (lv_at hl 6 rfl) ?_
              refine lv_iload_n hx hb dX4_least_222 rfl (lv_at hl 2 rfl) ?_
              refine z_backvA (z_runVA (n := 3) (As := [.int (nI (fi9 + q)), .int (nI lv), .int (nI n9)]) (ci := 5) (rest := []) hx hb hml hown hts hK hE hP hD (tX4_goOn l D cI cZ cJ h 0 lev tm gn nL nC nE L B C F y2 ao9 (fi9 + q) lv n9 hn4 (by omega) (by omega) fN tN ab9 hF hT hab _) gX4_least_X4_goOn rfl rfl rfl (by decide +kernel) ⟨Nat.le_of_ble_eq_true rfl, Nat.le_of_ble_eq_true rfl⟩ rfl rfl rfl hl.1 rfl (Nat.le_of_ble_eq_true rfl) dX4_least_223 ⟨Nat.zero_le _, Nat.zero_le _⟩) hD hS hA (fun w1 H locs hp1 hP hD hS => ?_)
              obtain rfl := hp1
              have hP : va_P D vwCl (wM cI cZ h 0 lev tm gn nL nC nE L B C F (goF fN tN ab9 (fi9 + q) lv y2 n9) ao9) H := hP
              have hD : va_D A (wM cI cZ h 0 lev tm gn nL nC nE L B C F (goF fN tN ab9 (fi9 + q) lv y2 n9) ao9) := hD
              refine lv_iinc (v := nI (lv + 1)) (lv' := [(7, .int (nI (lv + 1))), (0, .ref (h 0)), (1, .int (nI k)), (2, .int (nI n9)), (4, .int (nI fi9)), (5, .int (nI al9)), (6, .int (nI (fi9 + q)))]) hx hb dX4_least_226 hl (k := 6) rfl (by rw [show Int32.ofInt 1 = nI 1 from rfl, nI_add]) (by decide) rfl (fun ls hl => ?_)
              refine lv_goto (tgt := 190) hx hb dX4_least_229 (by decide) ?_
              exact ih190 (lv + 1) (goF fN tN ab9 (fi9 + q) lv y2 n9) (by omega) (by omega) (by omega) (by rw [rowF, ← ez, if_pos (Int32.not_le.mp c214)]) H locs ls (lv_sub hl [1, 2, 3, 4, 5, 6, 0] rfl) hP hD hS
      refine lv_iload hx hb dX4_least_180 (lv_at hl 5 rfl) ?_
      refine lv_iload hx hb dX4_least_182 (lv_at hl 4 rfl) ?_
      refine zn_ge (i := fi9 + q) (j := al9) (tgt := 238) hx hb (by omega) (by omega) dX4_least_184 (by decide) (fun c184 => ?_) (fun c184 => ?_)
      · skip
        have e6 : Y9 = y1 := eY.trans (by rw [ey, show q = al9 - fi9 by omega])
        subst e6
        refine lv_ldc (v := 1000000) hx hb hown (hts _ kX4_least_c145) dX4_least_238 ?_
        refine lv_istore (lv' := [(6, .int 1000000), (0, .ref (h 0)), (1, .int (nI k)), (2, .int (nI n9)), (4, .int (nI fi9)), (5, .int (nI al9))]) hx hb dX4_least_240 hl (by decide) rfl (fun ls hl => ?_)
        refine lv_iconst (v := 0) hx hb dX4_least_242 (by decide) ?_
        refine lv_istore (lv' := [(7, .int 0), (6, .int 1000000), (0, .ref (h 0)), (1, .int (nI k)), (2, .int (nI n9)), (4, .int (nI fi9)), (5, .int (nI al9))]) hx hb dX4_least_243 hl (by decide) rfl (fun ls hl => ?_)
        exact L245 (lev + 1) 0 1000000 (by omega) (by omega) (rfl) H locs ls (lv_sub hl [2, 3, 4, 5, 6, 1, 0] rfl) hP hD hS
      · skip
        refine lv_iconst (v := 0) hx hb dX4_least_187 (by decide) ?_
        refine lv_istore (lv' := [(7, .int 0), (0, .ref (h 0)), (1, .int (nI k)), (2, .int (nI n9)), (4, .int (nI fi9)), (5, .int (nI al9)), (6, .int (nI (fi9 + q)))]) hx hb dX4_least_188 hl (by decide) rfl (fun ls hl => ?_)
        exact L190 (lev + 1) 0 y1 (by omega) (by omega) (by omega) (rfl) H locs ls (lv_sub hl [1, 2, 3, 4, 5, 6, 0] rfl) hP hD hS
  have L133 : ∀ (fu : Nat) (j : Nat) (y1 : Nat → Int32), j ≤ 20 * al9 → (20 * al9) + 1 ≤ j + fu → (y1 = faF ys j) → ∀ (H : Heap) (locs : List Loc) (ls : Array Slot), lv_has ls 8 [(0, .ref (h 0)), (1, .int (nI k)), (2, .int (nI n9)), (4, .int (nI fi9)), (5, .int (nI al9)), (6, .int (nI j))] → va_P D vwCl (wM cI cZ h 0 lev tm gn nL nC nE L B C F y1 ao9) H → va_D A (wM cI cZ h 0 lev tm gn nL nC nE L B C F y1 ao9) → va_S A s.heap H locs → W p l e ({ frames := 2, cells := 0, slots := 0, locals := 50 } : Room) s m ([.ref (h 0), .int (nI k)] : List Value).toArray below meth c H locs 0 0 (MQ below (zQi D (wM cI cZ h cd lev tm gn nL nC nE L B C F ys ao) (fun r w' => r = ldR fN tN C (nI k) nC lev a0 ys ∧ w' = wM cI cZ h 0 lev tm gn nL nC nE L B C F (ldY fN tN C (nI k) nC lev a0 ys) (aoF C (nI k) ao nC)) A) ([.ref (h 0), .int (nI k)] : List Value).toArray s 0 0 A) (F0 m 133 ls []) := by
    intro fu
    induction fu with
    | zero =>
      intro j y1 h1 h2
      exact absurd h2 (by omega)
    | succ fu ih133 =>
      intro j y1 hle hfu ey H locs ls hl hP hD hS
      refine lv_iload hx hb dX4_least_133 (lv_at hl 5 rfl) ?_
      refine lv_bipush (v := 20) hx hb dX4_least_135 (by decide) ?_
      refine lv_iload hx hb dX4_least_137 (lv_at hl 4 rfl) ?_
      refine zn_mul (i := 20) (j := al9) hx hb dX4_least_139 ?_
      refine zn_ge (i := j) (j := 20 * al9) (tgt := 158) hx hb (by omega) (by omega) dX4_least_140 (by decide) (fun c140 => ?_) (fun c140 => ?_)
      · skip
        have ei : 20 * al9 = j := by omega
        subst ei
        subst ey
        have hP : va_P D vwCl (wM cI cZ h 0 lev tm gn nL nC nE L B C F (faF ys (20 * al9)) ao9) H := hP
        have hD : va_D A (wM cI cZ h 0 lev tm gn nL nC nE L B C F (faF ys (20 * al9)) ao9) := hD
        refine lv_aload_n hx hb dX4_least_158 rfl (lv_at hl 0 rfl) ?_
        refine va_get (D := D) (ci := 5) (v := .ref (h 20)) (C := RX4) (T := TX4) (N := 28) hx hb hts kX4_least_inX4 hown hK hP 0 rfl rfl 26 (by decide) (hts _ kX4_least_f68) (fun _ h9 => h9) rfl dX4_least_159 ?_
        refine lv_bipush (v := 20) hx hb dX4_least_162 (by decide) ?_
        refine lv_iload hx hb dX4_least_164 (lv_at hl 3 rfl) ?_
        refine zn_mul (i := 20) (j := fi9) hx hb dX4_least_166 ?_
        refine lv_aload_n hx hb dX4_least_167 rfl (lv_at hl 0 rfl) ?_
        refine va_get (D := D) (ci := 5) (v := .ref (h 1)) (C := RX4) (T := TX4) (N := 28) hx hb hts kX4_least_inX4 hown hK hP 0 rfl rfl 5 (by decide) (hts _ kX4_least_f7) (fun _ h9 => h9) rfl dX4_least_168 ?_
        refine lv_iload_n hx hb dX4_least_171 rfl (lv_at hl 1 rfl) ?_
        refine z_iald (k := k) (v := L 0 k) hx hb hK hP 1 rfl (by decide) (by omega) (rfl) dX4_least_172 ?_
        rw [hat0]
        refine zn_add (i := 20 * fi9) (j := a0) hx hb dX4_least_173 ?_
        refine lv_iconst (v := 0) hx hb dX4_least_174 (by decide) ?_
        refine z_iast (k := 20 * fi9 + a0) (x := 0) hx hb hK hP hD hS 20 rfl (by decide) (by omega) dX4_least_175 (fun H locs hP hD hS => ?_)
        have hP : va_P D vwCl (wM cI cZ h 0 lev tm gn nL nC nE L B C F (upd (faF ys (20 * al9)) (20 * fi9 + a0) 0) ao9) H := hP
        have hD : va_D A (wM cI cZ h 0 lev tm gn nL nC nE L B C F (upd (faF ys (20 * al9)) (20 * fi9 + a0) 0) ao9) := hD
        have e7 := eY0
        rw [show upd (faF ys (20 * al9)) (20 * fi9 + a0) 0 = Y0 from eY0.symm] at hP hD
        refine lv_iload hx hb dX4_least_176 (lv_at hl 3 rfl) ?_
        refine lv_istore (lv' := [(6, .int (nI fi9)), (0, .ref (h 0)), (1, .int (nI k)), (2, .int (nI n9)), (4, .int (nI fi9)), (5, .int (nI al9))]) hx hb dX4_least_178 hl (by decide) rfl (fun ls hl => ?_)
        exact L180 ((al9 - fi9) + 1) 0 Y0 (by omega) (by omega) (rfl) H locs ls (lv_sub hl [1, 2, 3, 4, 5, 0] rfl) hP hD hS
      · skip
        refine lv_aload_n hx hb dX4_least_143 rfl (lv_at hl 0 rfl) ?_
        refine va_get (D := D) (ci := 5) (v := .ref (h 20)) (C := RX4) (T := TX4) (N := 28) hx hb hts kX4_least_inX4 hown hK hP 0 rfl rfl 26 (by decide) (hts _ kX4_least_f68) (fun _ h9 => h9) rfl dX4_least_144 ?_
        refine lv_iload hx hb dX4_least_147 (lv_at hl 5 rfl) ?_
        refine lv_ldc (v := 1000000) hx hb hown (hts _ kX4_least_c145) dX4_least_149 ?_
        refine z_iast (k := j) (x := 1000000) hx hb hK hP hD hS 20 rfl (by decide) (by omega) dX4_least_151 (fun H locs hP hD hS => ?_)
        have hP : va_P D vwCl (wM cI cZ h 0 lev tm gn nL nC nE L B C F (upd y1 j 1000000) ao9) H := hP
        have hD : va_D A (wM cI cZ h 0 lev tm gn nL nC nE L B C F (upd y1 j 1000000) ao9) := hD
        refine lv_iinc (v := nI (j + 1)) (lv' := [(6, .int (nI (j + 1))), (0, .ref (h 0)), (1, .int (nI k)), (2, .int (nI n9)), (4, .int (nI fi9)), (5, .int (nI al9))]) hx hb dX4_least_152 hl (k := 5) rfl (by rw [show Int32.ofInt 1 = nI 1 from rfl, nI_add]) (by decide) rfl (fun ls hl => ?_)
        refine lv_goto (tgt := 133) hx hb dX4_least_155 (by decide) ?_
        exact ih133 (j + 1) (upd y1 j 1000000) (by omega) (by omega) (by rw [ey]; exact faF_s) H locs ls (lv_sub hl [1, 2, 3, 4, 5, 0] rfl) hP hD hS
  have L58 : ∀ (fu : Nat) (i : Nat) (kk : Nat) (fi1 : Nat) (al1 : Nat) (a1 : Nat → Int32), i ≤ nC → nC + 1 ≤ i + fu → (kk = cntW (lsB C (nI k)) i) → (fi1 = fiF C (nI k) i) → (al1 = 3 ^ cntW (lsB C (nI k)) i) → (a1 = aoF C (nI k) ao i) → ∀ (H : Heap) (locs : List Loc) (ls : Array Slot), lv_has ls 8 [(0, .ref (h 0)), (1, .int (nI k)), (2, .int (nI n9)), (3, .int (nI kk)), (4, .int (nI fi1)), (5, .int (nI al1)), (6, .int (nI i))] → va_P D vwCl (wM cI cZ h 0 lev tm gn nL nC nE L B C F ys a1) H → va_D A (wM cI cZ h 0 lev tm gn nL nC nE L B C F ys a1) → va_S A s.heap H locs → W p l e ({ frames := 2, cells := 0, slots := 0, locals := 50 } : Room) s m ([.ref (h 0), .int (nI k)] : List Value).toArray below meth c H locs 0 0 (MQ below (zQi D (wM cI cZ h cd lev tm gn nL nC nE L B C F ys ao) (fun r w' => r = ldR fN tN C (nI k) nC lev a0 ys ∧ w' = wM cI cZ h 0 lev tm gn nL nC nE L B C F (ldY fN tN C (nI k) nC lev a0 ys) (aoF C (nI k) ao nC)) A) ([.ref (h 0), .int (nI k)] : List Value).toArray s 0 0 A) (F0 m 58 ls []) := by
    intro fu
    induction fu with
    | zero =>
      intro i kk fi1 al1 a1 h1 h2
      exact absurd h2 (by omega)
    | succ fu ih58 =>
      intro i kk fi1 al1 a1 hle hfu ek ef ea eo H locs ls hl hP hD hS
      refine lv_iload hx hb dX4_least_58 (lv_at hl 6 rfl) ?_
      refine lv_aload_n hx hb dX4_least_60 rfl (lv_at hl 0 rfl) ?_
      refine va_get (D := D) (ci := 5) (v := .int (nI nC)) (C := RX4) (T := TX4) (N := 28) hx hb hts kX4_least_inX4 hown hK hP 0 rfl rfl 12 (by decide) (hts _ kX4_least_f88) (fun _ h9 => h9) rfl dX4_least_61 ?_
      refine zn_ge (i := i) (j := nC) (tgt := 130) hx hb (by omega) (by omega) dX4_least_64 (by decide) (fun c64 => ?_) (fun c64 => ?_)
      · skip
        have ei : nC = i := by omega
        subst ei
        have e1 : n9 = kk := en.trans ek.symm
        have e2 : fi9 = fi1 := ef0.trans ef.symm
        have e3 : al9 = al1 := by rw [ea0, en]; exact ea.symm
        have e4 : ao9 = a1 := eo0.trans eo.symm
        subst e1 e2 e3 e4
        refine lv_iconst (v := 0) hx hb dX4_least_130 (by decide) ?_
        refine lv_istore (lv' := [(6, .int 0), (0, .ref (h 0)), (1, .int (nI k)), (2, .int (nI n9)), (3, .int (nI n9)), (4, .int (nI fi9)), (5, .int (nI al9))]) hx hb dX4_least_131 hl (by decide) rfl (fun ls hl => ?_)
        exact L133 ((20 * al9) + 1) 0 ys (by omega) (by omega) (by funext w9; simp [faF]) H locs ls (lv_sub hl [1, 2, 3, 5, 6, 0] rfl) hP hD hS
      · skip
        refine lv_aload_n hx hb dX4_least_67 rfl (lv_at hl 0 rfl) ?_
        refine lv_iload hx hb dX4_least_68 (lv_at hl 6 rfl) ?_
        refine lv_iload_n hx hb dX4_least_70 rfl (lv_at hl 1 rfl) ?_
        refine lv_iconst (v := 1) hx hb dX4_least_71 (by decide) ?_
        refine z_backiA (z_runVA (n := 3) (As := [.int (nI i), .int (nI k), .int 1]) (ci := 5) (rest := []) hx hb hml hown hts hK hE hP hD (tX4_is l D cI cZ cJ h 0 lev tm gn nL nC nE L B C F ys a1 i (nI k) 1 (by omega) _) gX4_least_X4_is rfl rfl rfl (by decide +kernel) ⟨Nat.le_of_ble_eq_true rfl, Nat.le_of_ble_eq_true rfl⟩ rfl rfl rfl hl.1 rfl (Nat.le_of_ble_eq_true rfl) dX4_least_72 ⟨Nat.zero_le _, Nat.zero_le _⟩) hD hS hA (fun r2 w1 H locs hp2 hP hD hS => ?_)
        obtain ⟨rfl, rfl⟩ := hp2
        have hP : va_P D vwCl (wM cI cZ h 0 lev tm gn nL nC nE L B C F ys a1) H := hP
        have hD : va_D A (wM cI cZ h 0 lev tm gn nL nC nE L B C F ys a1) := hD
        refine zb_ne (b := (isB C i 1 (nI k))) (tgt := 92) hx hb dX4_least_75 (by decide) (fun c75 => ?_) (fun c75 => ?_)
        · skip
          have hb9 : lsB C (nI k) i = true := by simp [lsB, c75]
          have hk4 : kk < 4 := by have := cntW_mono (f := lsB C (nI k)) (show i + 1 ≤ nC by omega); rw [cntW_t hb9] at this; omega
          refine lv_aload_n hx hb dX4_least_92 rfl (lv_at hl 0 rfl) ?_
          refine va_get (D := D) (ci := 5) (v := .ref (h 21)) (C := RX4) (T := TX4) (N := 28) hx hb hts kX4_least_inX4 hown hK hP 0 rfl rfl 27 (by decide) (hts _ kX4_least_f71) (fun _ h9 => h9) rfl dX4_least_93 ?_
          refine lv_iload_n hx hb dX4_least_96 rfl (lv_at hl 3 rfl) ?_
          refine lv_iload hx hb dX4_least_97 (lv_at hl 6 rfl) ?_
          refine z_iast (k := kk) (x := nI i) hx hb hK hP hD hS 21 rfl (by decide) (by omega) dX4_least_99 (fun H locs hP hD hS => ?_)
          have hP : va_P D vwCl (wM cI cZ h 0 lev tm gn nL nC nE L B C F ys (upd a1 kk (nI i))) H := hP
          have hD : va_D A (wM cI cZ h 0 lev tm gn nL nC nE L B C F ys (upd a1 kk (nI i))) := hD
          refine lv_iload hx hb dX4_least_100 (lv_at hl 4 rfl) ?_
          refine lv_aload_n hx hb dX4_least_102 rfl (lv_at hl 0 rfl) ?_
          refine va_get (D := D) (ci := 5) (v := .ref (h 12)) (C := RX4) (T := TX4) (N := 28) hx hb hts kX4_least_inX4 hown hK hP 0 rfl rfl 17 (by decide) (hts _ kX4_least_f44) (fun _ h9 => h9) rfl dX4_least_103 ?_
          refine lv_iload hx hb dX4_least_106 (lv_at hl 6 rfl) ?_
          refine z_iald (k := i) (v := C 4 i) hx hb hK hP 12 rfl (by decide) (by omega) (rfl) dX4_least_108 ?_
          rw [isB_st c75]
          refine lv_iload hx hb dX4_least_109 (lv_at hl 5 rfl) ?_
          refine zn_mul (i := 1) (j := al1) hx hb dX4_least_111 ?_
          refine zn_add (i := fi1) (j := 1 * al1) hx hb dX4_least_112 ?_
          refine lv_istore (lv' := [(4, .int (nI (fi1 + 1 * al1))), (0, .ref (h 0)), (1, .int (nI k)), (2, .int (nI n9)), (3, .int (nI kk)), (5, .int (nI al1)), (6, .int (nI i))]) hx hb dX4_least_113 hl (by decide) rfl (fun ls hl => ?_)
          refine lv_iload hx hb dX4_least_115 (lv_at hl 5 rfl) ?_
          refine lv_iconst (v := 3) hx hb dX4_least_117 (by decide) ?_
          refine zn_mul (i := al1) (j := 3) hx hb dX4_least_118 ?_
          refine lv_istore (lv' := [(5, .int (nI (al1 * 3))), (4, .int (nI (fi1 + 1 * al1))), (0, .ref (h 0)), (1, .int (nI k)), (2, .int (nI n9)), (3, .int (nI kk)), (6, .int (nI i))]) hx hb dX4_least_119 hl (by decide) rfl (fun ls hl => ?_)
          refine lv_iinc (v := nI (kk + 1)) (lv' := [(3, .int (nI (kk + 1))), (5, .int (nI (al1 * 3))), (4, .int (nI (fi1 + 1 * al1))), (0, .ref (h 0)), (1, .int (nI k)), (2, .int (nI n9)), (6, .int (nI i))]) hx hb dX4_least_121 hl (k := 5) rfl (by rw [show Int32.ofInt 1 = nI 1 from rfl, nI_add]) (by decide) rfl (fun ls hl => ?_)
          refine lv_iinc (v := nI (i + 1)) (lv' := [(6, .int (nI (i + 1))), (3, .int (nI (kk + 1))), (5, .int (nI (al1 * 3))), (4, .int (nI (fi1 + 1 * al1))), (0, .ref (h 0)), (1, .int (nI k)), (2, .int (nI n9))]) hx hb dX4_least_124 hl (k := 6) rfl (by rw [show Int32.ofInt 1 = nI 1 from rfl, nI_add]) (by decide) rfl (fun ls hl => ?_)
          refine lv_goto (tgt := 58) hx hb dX4_least_127 (by decide) ?_
          exact ih58 (i + 1) (kk + 1) (fi1 + 1 * al1) (al1 * 3) (upd a1 kk (nI i)) (by omega) (by omega) (by rw [cntW_t hb9, ek]) (by rw [fiF, if_pos c75, ef, ea]) (by rw [cntW_t hb9, Nat.pow_succ, ea]) (by rw [aoF, if_pos hb9, ← eo, ← ek]) H locs ls (lv_sub hl [4, 5, 6, 1, 3, 2, 0] rfl) hP hD hS
        · skip
          refine lv_aload_n hx hb dX4_least_78 rfl (lv_at hl 0 rfl) ?_
          refine lv_iload hx hb dX4_least_79 (lv_at hl 6 rfl) ?_
          refine lv_iload_n hx hb dX4_least_81 rfl (lv_at hl 1 rfl) ?_
          refine lv_iconst (v := 0) hx hb dX4_least_82 (by decide) ?_
          refine z_backiA (z_runVA (n := 3) (As := [.int (nI i), .int (nI k), .int 0]) (ci := 5) (rest := []) hx hb hml hown hts hK hE hP hD (tX4_is l D cI cZ cJ h 0 lev tm gn nL nC nE L B C F ys a1 i (nI k) 0 (by omega) _) gX4_least_X4_is rfl rfl rfl (by decide +kernel) ⟨Nat.le_of_ble_eq_true rfl, Nat.le_of_ble_eq_true rfl⟩ rfl rfl rfl hl.1 rfl (Nat.le_of_ble_eq_true rfl) dX4_least_83 ⟨Nat.zero_le _, Nat.zero_le _⟩) hD hS hA (fun r3 w1 H locs hp3 hP hD hS => ?_)
          obtain ⟨rfl, rfl⟩ := hp3
          have hP : va_P D vwCl (wM cI cZ h 0 lev tm gn nL nC nE L B C F ys a1) H := hP
          have hD : va_D A (wM cI cZ h 0 lev tm gn nL nC nE L B C F ys a1) := hD
          refine zb_ne (b := (isB C i 0 (nI k))) (tgt := 92) hx hb dX4_least_86 (by decide) (fun c86 => ?_) (fun c86 => ?_)
          · skip
            have hb9 : lsB C (nI k) i = true := by simp [lsB, c86]
            have hk4 : kk < 4 := by have := cntW_mono (f := lsB C (nI k)) (show i + 1 ≤ nC by omega); rw [cntW_t hb9] at this; omega
            refine lv_aload_n hx hb dX4_least_92 rfl (lv_at hl 0 rfl) ?_
            refine va_get (D := D) (ci := 5) (v := .ref (h 21)) (C := RX4) (T := TX4) (N := 28) hx hb hts kX4_least_inX4 hown hK hP 0 rfl rfl 27 (by decide) (hts _ kX4_least_f71) (fun _ h9 => h9) rfl dX4_least_93 ?_
            refine lv_iload_n hx hb dX4_least_96 rfl (lv_at hl 3 rfl) ?_
            refine lv_iload hx hb dX4_least_97 (lv_at hl 6 rfl) ?_
            refine z_iast (k := kk) (x := nI i) hx hb hK hP hD hS 21 rfl (by decide) (by omega) dX4_least_99 (fun H locs hP hD hS => ?_)
            have hP : va_P D vwCl (wM cI cZ h 0 lev tm gn nL nC nE L B C F ys (upd a1 kk (nI i))) H := hP
            have hD : va_D A (wM cI cZ h 0 lev tm gn nL nC nE L B C F ys (upd a1 kk (nI i))) := hD
            refine lv_iload hx hb dX4_least_100 (lv_at hl 4 rfl) ?_
            refine lv_aload_n hx hb dX4_least_102 rfl (lv_at hl 0 rfl) ?_
            refine va_get (D := D) (ci := 5) (v := .ref (h 12)) (C := RX4) (T := TX4) (N := 28) hx hb hts kX4_least_inX4 hown hK hP 0 rfl rfl 17 (by decide) (hts _ kX4_least_f44) (fun _ h9 => h9) rfl dX4_least_103 ?_
            refine lv_iload hx hb dX4_least_106 (lv_at hl 6 rfl) ?_
            refine z_iald (k := i) (v := C 4 i) hx hb hK hP 12 rfl (by decide) (by omega) (rfl) dX4_least_108 ?_
            rw [isB_st c86]
            refine lv_iload hx hb dX4_least_109 (lv_at hl 5 rfl) ?_
            refine zn_mul (i := 0) (j := al1) hx hb dX4_least_111 ?_
            refine zn_add (i := fi1) (j := 0 * al1) hx hb dX4_least_112 ?_
            refine lv_istore (lv' := [(4, .int (nI (fi1 + 0 * al1))), (0, .ref (h 0)), (1, .int (nI k)), (2, .int (nI n9)), (3, .int (nI kk)), (5, .int (nI al1)), (6, .int (nI i))]) hx hb dX4_least_113 hl (by decide) rfl (fun ls hl => ?_)
            refine lv_iload hx hb dX4_least_115 (lv_at hl 5 rfl) ?_
            refine lv_iconst (v := 3) hx hb dX4_least_117 (by decide) ?_
            refine zn_mul (i := al1) (j := 3) hx hb dX4_least_118 ?_
            refine lv_istore (lv' := [(5, .int (nI (al1 * 3))), (4, .int (nI (fi1 + 0 * al1))), (0, .ref (h 0)), (1, .int (nI k)), (2, .int (nI n9)), (3, .int (nI kk)), (6, .int (nI i))]) hx hb dX4_least_119 hl (by decide) rfl (fun ls hl => ?_)
            refine lv_iinc (v := nI (kk + 1)) (lv' := [(3, .int (nI (kk + 1))), (5, .int (nI (al1 * 3))), (4, .int (nI (fi1 + 0 * al1))), (0, .ref (h 0)), (1, .int (nI k)), (2, .int (nI n9)), (6, .int (nI i))]) hx hb dX4_least_121 hl (k := 5) rfl (by rw [show Int32.ofInt 1 = nI 1 from rfl, nI_add]) (by decide) rfl (fun ls hl => ?_)
            refine lv_iinc (v := nI (i + 1)) (lv' := [(6, .int (nI (i + 1))), (3, .int (nI (kk + 1))), (5, .int (nI (al1 * 3))), (4, .int (nI (fi1 + 0 * al1))), (0, .ref (h 0)), (1, .int (nI k)), (2, .int (nI n9))]) hx hb dX4_least_124 hl (k := 6) rfl (by rw [show Int32.ofInt 1 = nI 1 from rfl, nI_add]) (by decide) rfl (fun ls hl => ?_)
            refine lv_goto (tgt := 58) hx hb dX4_least_127 (by decide) ?_
            exact ih58 (i + 1) (kk + 1) (fi1 + 0 * al1) (al1 * 3) (upd a1 kk (nI i)) (by omega) (by omega) (by rw [cntW_t hb9, ek]) (by rw [fiF, if_neg (by rw [c75]; decide), ← ef]; omega) (by rw [cntW_t hb9, Nat.pow_succ, ea]) (by rw [aoF, if_pos hb9, ← eo, ← ek]) H locs ls (lv_sub hl [4, 5, 6, 1, 3, 2, 0] rfl) hP hD hS
          · skip
            have hb9 : lsB C (nI k) i = false := by simp [lsB, c75, c86]
            refine lv_goto (tgt := 124) hx hb dX4_least_89 (by decide) ?_
            refine lv_iinc (v := nI (i + 1)) (lv' := [(6, .int (nI (i + 1))), (0, .ref (h 0)), (1, .int (nI k)), (2, .int (nI n9)), (3, .int (nI kk)), (4, .int (nI fi1)), (5, .int (nI al1))]) hx hb dX4_least_124 hl (k := 6) rfl (by rw [show Int32.ofInt 1 = nI 1 from rfl, nI_add]) (by decide) rfl (fun ls hl => ?_)
            refine lv_goto (tgt := 58) hx hb dX4_least_127 (by decide) ?_
            exact ih58 (i + 1) kk fi1 al1 a1 (by omega) (by omega) (by rw [cntW_f hb9, ek]) (by rw [fiF, if_neg (by rw [c75]; decide), ← ef]) (by rw [cntW_f hb9, ea]) (by rw [aoF, if_neg (by rw [hb9]; decide), ← eo]) H locs ls (lv_sub hl [1, 2, 3, 4, 5, 6, 0] rfl) hP hD hS
  refine lv_aload_n hx hb dX4_least_0 rfl (lv_at hl 0 rfl) ?_
  refine lv_aload_n hx hb dX4_least_1 rfl (lv_at hl 0 rfl) ?_
  refine lv_iload_n hx hb dX4_least_2 rfl (lv_at hl 1 rfl) ?_
  refine z_backiA (z_runVA (n := 1) (As := [.int (nI k)]) (ci := 5) (rest := [.ref (h 0)]) hx hb hml hown hts hK hE hP hD (tX4_isLift l D cI cZ cJ h cd lev tm gn nL nC nE L B C F ys ao (nI k)  _) gX4_least_X4_isLift rfl rfl rfl (by decide +kernel) ⟨Nat.le_of_ble_eq_true rfl, Nat.le_of_ble_eq_true rfl⟩ rfl rfl rfl hl.1 rfl (Nat.le_of_ble_eq_true rfl) dX4_least_3 ⟨Nat.zero_le _, Nat.zero_le _⟩) hD hS hA (fun r4 w1 H locs hp4 hP hD hS => ?_)
  obtain ⟨rfl, rfl⟩ := hp4
  have hP : va_P D vwCl (wM cI cZ h cd lev tm gn nL nC nE L B C F ys ao) H := hP
  have hD : va_D A (wM cI cZ h cd lev tm gn nL nC nE L B C F ys ao) := hD
  refine zb_eq (b := (inB (nI k) 0 (nI nL - 1))) (tgt := 13) hx hb dX4_least_6 (by decide) (fun c6 => ?_) (fun c6 => ?_)
  · exact absurd (h1.symm.trans c6) (by decide)
  · skip
    refine lv_iconst (v := 0) hx hb dX4_least_9 (by decide) ?_
    refine lv_goto (tgt := 14) hx hb dX4_least_10 (by decide) ?_
    refine va_put (D := D) (ci := 5) (v := .int 0) (ty := .int) (C := RX4) (T := TX4) (N := 28) hx hb hts kX4_least_inX4 tyX4 tyX4_ok nmX4 hown hK hP hD hS 0 rfl rfl 0 (by decide) (hts _ kX4_least_f78) (fun _ h9 => h9) rfl (by decide +kernel) rfl rfl (Nat.le_of_ble_eq_true rfl) dX4_least_14 (fun H locs hP hD hS => ?_)
    have hP : va_P D vwCl (wM cI cZ h 0 lev tm gn nL nC nE L B C F ys ao) H := hP
    have hD : va_D A (wM cI cZ h 0 lev tm gn nL nC nE L B C F ys ao) := hD
    refine lv_aload_n hx hb dX4_least_17 rfl (lv_at hl 0 rfl) ?_
    refine va_get (D := D) (ci := 5) (v := .int 0) (C := RX4) (T := TX4) (N := 28) hx hb hts kX4_least_inX4 hown hK hP 0 rfl rfl 0 (by decide) (hts _ kX4_least_f78) (fun _ h9 => h9) rfl dX4_least_18 ?_
    refine lv_if_le (x := 0) (tgt := 26) hx hb dX4_least_21 (by decide) (fun c21 => ?_) (fun c21 => ?_)
    · skip
      refine lv_aload_n hx hb dX4_least_26 rfl (lv_at hl 0 rfl) ?_
      refine lv_iload_n hx hb dX4_least_27 rfl (lv_at hl 1 rfl) ?_
      refine lv_iconst (v := 1) hx hb dX4_least_28 (by decide) ?_
      refine z_backiA (z_runVA (n := 2) (As := [.int (nI k), .int 1]) (ci := 5) (rest := []) hx hb hml hown hts hK hE hP hD (tX4_many l D cI cZ cJ h 0 lev tm gn nL nC nE L B C F ys ao (nI k) 1 (by omega) _) gX4_least_X4_many rfl rfl rfl (by decide +kernel) ⟨Nat.le_of_ble_eq_true rfl, Nat.le_of_ble_eq_true rfl⟩ rfl rfl rfl hl.1 rfl (Nat.le_of_ble_eq_true rfl) dX4_least_29 ⟨Nat.zero_le _, Nat.zero_le _⟩) hD hS hA (fun r5 w1 H locs hp5 hP hD hS => ?_)
      obtain ⟨rfl, rfl⟩ := hp5
      have hP : va_P D vwCl (wM cI cZ h 0 lev tm gn nL nC nE L B C F ys ao) H := hP
      have hD : va_D A (wM cI cZ h 0 lev tm gn nL nC nE L B C F ys ao) := hD
      refine lv_aload_n hx hb dX4_least_32 rfl (lv_at hl 0 rfl) ?_
      refine lv_iload_n hx hb dX4_least_33 rfl (lv_at hl 1 rfl) ?_
      refine lv_iconst (v := 0) hx hb dX4_least_34 (by decide) ?_
      refine z_backiA (z_runVA (n := 2) (As := [.int (nI k), .int 0]) (ci := 5) (rest := [.int (nI (cntW (fun k9 => isB C k9 1 (nI k)) nC))]) hx hb hml hown hts hK hE hP hD (tX4_many l D cI cZ cJ h 0 lev tm gn nL nC nE L B C F ys ao (nI k) 0 (by omega) _) gX4_least_X4_many rfl rfl rfl (by decide +kernel) ⟨Nat.le_of_ble_eq_true rfl, Nat.le_of_ble_eq_true rfl⟩ rfl rfl rfl hl.1 rfl (Nat.le_of_ble_eq_true rfl) dX4_least_35 ⟨Nat.zero_le _, Nat.zero_le _⟩) hD hS hA (fun r6 w1 H locs hp6 hP hD hS => ?_)
      obtain ⟨rfl, rfl⟩ := hp6
      have hP : va_P D vwCl (wM cI cZ h 0 lev tm gn nL nC nE L B C F ys ao) H := hP
      have hD : va_D A (wM cI cZ h 0 lev tm gn nL nC nE L B C F ys ao) := hD
      refine zn_add (i := cntW (fun k9 => isB C k9 1 (nI k)) nC) (j := cntW (fun k9 => isB C k9 0 (nI k)) nC) hx hb dX4_least_38 ?_
      rw [← cnt_ls C (nI k) nC, ← en]
      refine lv_istore_n (lv' := [(2, .int (nI n9)), (0, .ref (h 0)), (1, .int (nI k))]) hx hb dX4_least_39 rfl hl (by decide) rfl (fun ls hl => ?_)
      refine lv_iload_n hx hb dX4_least_40 rfl (lv_at hl 0 rfl) ?_
      refine lv_iconst (v := 4) hx hb dX4_least_41 (by decide) ?_
      refine zn_le (i := n9) (j := 4) (tgt := 47) hx hb (by omega) (by omega) dX4_least_42 (by decide) (fun c42 => ?_) (fun c42 => ?_)
      · skip
        refine lv_iconst (v := 0) hx hb dX4_least_47 (by decide) ?_
        refine lv_istore_n (lv' := [(3, .int 0), (2, .int (nI n9)), (0, .ref (h 0)), (1, .int (nI k))]) hx hb dX4_least_48 rfl hl (by decide) rfl (fun ls hl => ?_)
        refine lv_iconst (v := 0) hx hb dX4_least_49 (by decide) ?_
        refine lv_istore (lv' := [(4, .int 0), (3, .int 0), (2, .int (nI n9)), (0, .ref (h 0)), (1, .int (nI k))]) hx hb dX4_least_50 hl (by decide) rfl (fun ls hl => ?_)
        refine lv_iconst (v := 1) hx hb dX4_least_52 (by decide) ?_
        refine lv_istore (lv' := [(5, .int 1), (4, .int 0), (3, .int 0), (2, .int (nI n9)), (0, .ref (h 0)), (1, .int (nI k))]) hx hb dX4_least_53 hl (by decide) rfl (fun ls hl => ?_)
        refine lv_iconst (v := 0) hx hb dX4_least_55 (by decide) ?_
        refine lv_istore (lv' := [(6, .int 0), (5, .int 1), (4, .int 0), (3, .int 0), (2, .int (nI n9)), (0, .ref (h 0)), (1, .int (nI k))]) hx hb dX4_least_56 hl (by decide) rfl (fun ls hl => ?_)
        exact L58 (nC + 1) 0 0 0 1 ao (by omega) (by omega) (rfl) (rfl) (rfl) (rfl) H locs ls (lv_sub hl [5, 6, 4, 3, 2, 1, 0] rfl) hP hD hS
      · exact absurd c42 (by omega)
    · exact absurd c21 (by decide)
