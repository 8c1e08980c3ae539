/-! cuts -/
theorem wo_loop {c M : pStt} (h : ∀ j, j < 8 → c.2 0 j = M.2 0 j) (s : Int32) : ∀ (k n i : Nat) (a : Int32), i + k = 8 → k < n → ∃ b, fl_X1_waysOutOf_4 s c n a (nI i) = some b ∧ fl_X9_waysOut_4 s M n a (nI i) = some b := by
  intro k
  induction k with
  | zero =>
    intro n i a hi hn
    obtain ⟨n, rfl⟩ : ∃ m, n = m + 1 := ⟨n - 1, by omega⟩
    rw [fl_X1_waysOutOf_4, fl_X9_waysOut_4, if_pos (geL (n := i) (y := 8) (k := 8) rfl (by omega) (by omega)), if_pos (geL (n := i) (y := 8) (k := 8) rfl (by omega) (by omega))]
    exact ⟨a, rfl, rfl⟩
  | succ k ih =>
    intro n i a hi hn
    obtain ⟨n, rfl⟩ : ∃ m, n = m + 1 := ⟨n - 1, by omega⟩
    obtain ⟨v, hv⟩ := ones_ex (M.2 0 i &&& (s ^^^ (-1 : Int32)))
    rw [fl_X1_waysOutOf_4, fl_X9_waysOut_4, if_neg (ngeL (n := i) (y := 8) (k := 8) rfl (by omega) (by omega)), if_neg (ngeL (n := i) (y := 8) (k := 8) rfl (by omega) (by omega)), ldn _ (by omega : i < 8) (by omega), ldn _ (by omega : i < 8) (by omega), bs, bs, h i (by omega), holds_has, bitCount_ones, hv, show nI i + 1 = nI (i + 1) from nI_1 i]
    rcases has_01 s (nI i) with e | e
    · rw [e]
      obtain ⟨b, b1, b2⟩ := ih n (i + 1) a (by omega) (by omega)
      refine ⟨b, b1, ?_⟩
      show fl_X9_waysOut_4 s M n (a + 0) (nI (i + 1)) = some b
      rw [show a + (0 : Int32) = a from by simp]
      exact b2
    · rw [e]
      exact ih n (i + 1) _ (by omega) (by omega)
theorem wo_eq {c M : pStt} (h : ∀ j, j < 8 → c.2 0 j = M.2 0 j) (s : Int32) : ∃ b, f_X1_waysOutOf s c = some b ∧ f_X9_waysOut s M = some b := by
  obtain ⟨b, h1, h2⟩ := wo_loop h s 8 2000 0 0 rfl (by omega)
  have h1 : fl_X1_waysOutOf_4 s c 2000 0 0 = some b := h1
  have h2 : fl_X9_waysOut_4 s M 2000 0 0 = some b := h2
  refine ⟨b, ?_, ?_⟩
  · unfold f_X1_waysOutOf; rw [h1]; rfl
  · unfold f_X9_waysOut; rw [h2]; rfl
theorem cut_loop {c M : pStt} (h : ∀ j, j < 8 → c.2 0 j = M.2 0 j) (a b y : Int32) : ∀ (k n n' i bb : Nat) (w : Int32), i + k = 256 → k < n → k < n' → bb < 256 → f_X9_waysOut (nI bb) M = some w → ∃ vb : Nat, vb < 256 ∧ fl_X1_leastCut_14 a b c n (nI bb) w (nI i) = some (nI vb) ∧ fl_X9_cut_41 a b y M n' (nI bb) (nI i) = some (nI vb) := by
  intro k
  induction k with
  | zero =>
    intro n n' i bb w hi hn hn' hb hw
    obtain ⟨n, rfl⟩ : ∃ m, n = m + 1 := ⟨n - 1, by omega⟩
    obtain ⟨n', rfl⟩ : ∃ m, n' = m + 1 := ⟨n' - 1, by omega⟩
    rw [fl_X1_leastCut_14, fl_X9_cut_41, if_pos (geL (n := i) (y := 256) (k := 256) rfl (by omega) (by omega)), if_pos (geL (n := i) (y := 256) (k := 256) rfl (by omega) (by omega))]
    exact ⟨bb, hb, rfl, rfl⟩
  | succ k ih =>
    intro n n' i bb w hi hn hn' hb hw
    obtain ⟨n, rfl⟩ : ∃ m, n = m + 1 := ⟨n - 1, by omega⟩
    obtain ⟨n', rfl⟩ : ∃ m, n' = m + 1 := ⟨n' - 1, by omega⟩
    obtain ⟨u, u1, u2⟩ := wo_eq h (nI i)
    rw [fl_X1_leastCut_14, fl_X9_cut_41, if_neg (ngeL (n := i) (y := 256) (k := 256) rfl (by omega) (by omega)), if_neg (ngeL (n := i) (y := 256) (k := 256) rfl (by omega) (by omega)), holds_has, holds_has, u1, u2, hw, if_neg (show ¬ nI bb < 0 from nI_pos (by omega)), show nI i + 1 = nI (i + 1) from nI_1 i]
    rcases has_01 (nI i) a with e | e
    · rw [e]
      exact ih n n' (i + 1) bb w (by omega) (by omega) (by omega) hb hw
    · rcases has_01 (nI i) b with e2 | e2
      · rw [e, e2]
        by_cases q : w ≤ u
        · obtain ⟨vb, g1, g2, g3⟩ := ih n n' (i + 1) bb w (by omega) (by omega) (by omega) hb hw
          refine ⟨vb, g1, ?_, ?_⟩
          · show (if w ≤ u then _ else _) = _
            rw [if_pos q]; exact g2
          · show ((if w ≤ u then some (nI bb) else some (nI i) : Option Int32).bind _) = _
            rw [if_pos q]; exact g3
        · obtain ⟨vb, g1, g2, g3⟩ := ih n n' (i + 1) i u (by omega) (by omega) (by omega) (by omega) u2
          refine ⟨vb, g1, ?_, ?_⟩
          · show (if w ≤ u then _ else _) = _
            rw [if_neg q]; exact g2
          · show ((if w ≤ u then some (nI bb) else some (nI i) : Option Int32).bind _) = _
            rw [if_neg q]; exact g3
      · rw [e, e2]
        exact ih n n' (i + 1) bb w (by omega) (by omega) (by omega) hb hw
theorem cut_skip (M : pStt) {a : Nat} (ha : a < 8) (b y : Int32) : ∀ (k n i : Nat), i + k = 2 ^ a → fl_X9_cut_41 (nI a) b y M (n + k) (-6) (nI i) = fl_X9_cut_41 (nI a) b y M n (-6) (nI (2 ^ a)) := by
  have hp : 2 ^ a ≤ 128 := by
    have := Nat.pow_le_pow_right (n := 2) (by omega) (by omega : a ≤ 7)
    omega
  intro k
  induction k with
  | zero => intro n i hi; rw [show i = 2 ^ a by omega]; rfl
  | succ k ih =>
    intro n i hi
    have hb : i.testBit a = false := Nat.testBit_lt_two_pow (by omega)
    rw [show n + (k + 1) = (n + k) + 1 by omega, fl_X9_cut_41, if_neg (ngeL (n := i) (y := 256) (k := 256) rfl (by omega) (by omega)), hasN (a := i) (b := a) (by omega) (by omega), hb, show nI i + 1 = nI (i + 1) from nI_1 i]
    exact ih n (i + 1) (by omega)
theorem cpl_cut : cp_cut := by
  intro c r g d i0 i1 M x1 x2 x3 hV
  have key : ∃ v, f_X8_cut x1 x2 x3 c = some v ∧ f_X9_cut x1 x2 x3 M = some v := by
    have h := hV.1.1
    unfold f_X8_cut f_X9_cut
    rw [X8_isCorner, X8_isCorner, X9_isCorner, X9_isCorner, in0n x3 (b := 1) (hi := 1) (by decide)]
    rcases isW_cases x1 (hi := 7) (n := 7) rfl (by omega) with ⟨i, hi, rfl⟩ | e
    · rw [isWn (j := i) (n := 7) (hi := 7) rfl hi (by omega)]
      rcases isW_cases x2 (hi := 7) (n := 7) rfl (by omega) with ⟨j, hj, rfl⟩ | e
      · rw [isWn (j := j) (n := 7) (hi := 7) rfl hj (by omega)]
        by_cases hij : i = j
        · rw [if_pos (congrArg nI hij), if_pos (congrArg nI hij)]
          exact ⟨-2, rfl, rfl⟩
        · have hne : ¬ nI i = nI j := by rw [nI_eq (by omega) (by omega)]; exact hij
          rw [if_neg hne, if_neg hne]
          rcases isW_01 x3 0 1 with e | e
          · rw [e]; exact ⟨-2, rfl, rfl⟩
          · have hp : 2 ^ i ≤ 128 := by
              have := Nat.pow_le_pow_right (n := 2) (by omega) (by omega : i ≤ 7)
              omega
            have hp0 : 0 < 2 ^ i := Nat.pow_pos (by omega)
            obtain ⟨w, w1, w2⟩ := wo_eq h (nI (2 ^ i))
            have b1 : (2 ^ i).testBit i = true := Nat.testBit_two_pow_self
            have b2 : (2 ^ i).testBit j = false := by rw [Nat.testBit_two_pow]; simp; exact hij
            obtain ⟨vb, hvb, g1, g2⟩ := cut_loop h (nI i) (nI j) x3 (255 - 2 ^ i) 1999 (1999 - 2 ^ i) (2 ^ i + 1) (2 ^ i) w (by omega) (by omega) (by omega) (by omega) w2
            have k1 : f_X1_leastCut (nI i) (nI j) c = some (nI vb) := by
              unfold f_X1_leastCut
              rw [shl1 i (by omega), w1, bs, fl_X1_leastCut_14, if_neg (ngeL (n := 2 ^ i) (y := 256) (k := 256) rfl (by omega) (by omega)), holdsN (a := 2 ^ i) (b := i) (by omega) (by omega), holdsN (a := 2 ^ i) (b := j) (by omega) (by omega), b1, b2, w1, show nI (2 ^ i) + 1 = nI (2 ^ i + 1) from nI_1 _]
              show ((if w ≤ w then _ else _ : Option Int32).bind _) = _
              rw [if_pos (Int32.le_refl w), g1]
              rfl
            have k2 : fl_X9_cut_41 (nI i) (nI j) x3 M 2000 (-6) 0 = some (nI vb) := by
              have s1 := cut_skip M (a := i) (by omega) (nI j) x3 (2 ^ i) (2000 - 2 ^ i) 0 (by omega)
              rw [show 2000 - 2 ^ i + 2 ^ i = 2000 by omega] at s1
              have s1 : fl_X9_cut_41 (nI i) (nI j) x3 M 2000 (-6) 0 = _ := s1
              rw [s1, show 2000 - 2 ^ i = (1999 - 2 ^ i) + 1 by omega, fl_X9_cut_41, if_neg (ngeL (n := 2 ^ i) (y := 256) (k := 256) rfl (by omega) (by omega)), hasN (a := 2 ^ i) (b := i) (by omega) (by omega), hasN (a := 2 ^ i) (b := j) (by omega) (by omega), b1, b2, show nI (2 ^ i) + 1 = nI (2 ^ i + 1) from nI_1 _]
              exact g2
            obtain ⟨z, z1, z2⟩ := wo_eq h (nI vb)
            rw [e, k1, k2]
            simp only [bs]
            rw [z1, z2]
            by_cases q : x3 = 0
            · subst q; exact ⟨z, rfl, rfl⟩
            · exact ⟨nI vb, by simp [q], by simp [q]⟩
      · rw [e]; exact ⟨-1, rfl, rfl⟩
    · rw [e]; exact ⟨-1, rfl, rfl⟩
  obtain ⟨v, v1, v2⟩ := key
  exact ⟨v, v, v1, v2, rfl, hV⟩
