/-! ways: counted, joined; what is told -/
theorem ones_ex (x : Int32) : ∃ v, f_X9_ones x = some v := ⟨_, by rw [nI_toNat x]; exact onesN (toNat_lt x)⟩
theorem ways_loop {c M : pStt} (h : ∀ j, j < 8 → c.2 0 j = M.2 0 j) : ∀ (k n i : Nat) (a : Int32), i + k = 8 → k < n → ∃ b, fl_X1_countWays_4 c n a (nI i) = some b ∧ fl_X9_waysAll_4 M n a (nI i) = some b := by
  intro k
  induction k with
  | zero =>
    intro n i a hi hn
    obtain ⟨n, rfl⟩ : ∃ m, n = m + 1 := ⟨n - 1, by omega⟩
    rw [fl_X1_countWays_4, fl_X9_waysAll_4, if_pos (geL (n := i) (y := 8) (k := 8) rfl (by omega) (by omega)), if_pos (geL (n := i) (y := 8) (k := 8) rfl (by omega) (by omega))]
    exact ⟨a, rfl, rfl⟩
  | succ k ih =>
    intro n i a hi hn
    obtain ⟨n, rfl⟩ : ∃ m, n = m + 1 := ⟨n - 1, by omega⟩
    obtain ⟨v, hv⟩ := ones_ex (M.2 0 i)
    rw [fl_X1_countWays_4, fl_X9_waysAll_4, if_neg (ngeL (n := i) (y := 8) (k := 8) rfl (by omega) (by omega)), if_neg (ngeL (n := i) (y := 8) (k := 8) rfl (by omega) (by omega)), ldn _ (by omega : i < 8) (by omega), ldn _ (by omega : i < 8) (by omega), bs, bs, h i (by omega), bitCount_ones, hv, bs, bs, show nI i + 1 = nI (i + 1) from nI_1 i]
    exact ih n (i + 1) _ (by omega) (by omega)
theorem ways_eq {c M : pStt} (h : ∀ j, j < 8 → c.2 0 j = M.2 0 j) : ∃ b, f_X1_countWays c = some b ∧ f_X9_waysAll M = some b := by
  obtain ⟨b, h1, h2⟩ := ways_loop h 8 2000 0 0 rfl (by omega)
  have h1 : fl_X1_countWays_4 c 2000 0 0 = some b := h1
  have h2 : fl_X9_waysAll_4 M 2000 0 0 = some b := h2
  refine ⟨b / 2, ?_, ?_⟩
  · unfold f_X1_countWays; rw [h1]; rfl
  · unfold f_X9_waysAll; rw [h2]; rfl
theorem nb_loop {c M : pStt} (h : ∀ j, j < 8 → c.2 0 j = M.2 0 j) (s : Int32) : ∀ (k n i : Nat) (a : Int32), i + k = 8 → k < n → ∃ b, fl_X1_neighboursOf_4 s c n a (nI i) = some b ∧ fl_X9_besideAll_4 s M n a (nI i) = some b := by
  intro k
  induction k with
  | zero =>
    intro n i a hi hn
    obtain ⟨n, rfl⟩ : ∃ m, n = m + 1 := ⟨n - 1, by omega⟩
    rw [fl_X1_neighboursOf_4, fl_X9_besideAll_4, if_pos (geL (n := i) (y := 8) (k := 8) rfl (by omega) (by omega)), if_pos (geL (n := i) (y := 8) (k := 8) rfl (by omega) (by omega))]
    exact ⟨a, rfl, rfl⟩
  | succ k ih =>
    intro n i a hi hn
    obtain ⟨n, rfl⟩ : ∃ m, n = m + 1 := ⟨n - 1, by omega⟩
    rw [fl_X1_neighboursOf_4, fl_X9_besideAll_4, if_neg (ngeL (n := i) (y := 8) (k := 8) rfl (by omega) (by omega)), if_neg (ngeL (n := i) (y := 8) (k := 8) rfl (by omega) (by omega)), ldn _ (by omega : i < 8) (by omega), ldn _ (by omega : i < 8) (by omega), bs, bs, h i (by omega), holds_has, show nI i + 1 = nI (i + 1) from nI_1 i]
    rcases has_01 s (nI i) with e | e
    · rw [e]
      obtain ⟨b, b1, b2⟩ := ih n (i + 1) a (by omega) (by omega)
      refine ⟨b, b1, ?_⟩
      show fl_X9_besideAll_4 s M n (a ||| 0) (nI (i + 1)) = some b
      rw [show a ||| (0 : Int32) = a from by simp]
      exact b2
    · rw [e]
      exact ih n (i + 1) _ (by omega) (by omega)
theorem nb_eq {c M : pStt} (h : ∀ j, j < 8 → c.2 0 j = M.2 0 j) (s : Int32) : ∃ b, f_X1_neighboursOf s c = some b ∧ f_X9_besideAll s M = some b := by
  obtain ⟨b, h1, h2⟩ := nb_loop h s 8 2000 0 0 rfl (by omega)
  have h1 : fl_X1_neighboursOf_4 s c 2000 0 0 = some b := h1
  have h2 : fl_X9_besideAll_4 s M 2000 0 0 = some b := h2
  refine ⟨b, ?_, ?_⟩
  · unfold f_X1_neighboursOf; rw [h1]; rfl
  · unfold f_X9_besideAll; rw [h2]; rfl
theorem join_loop {c M : pStt} (h : ∀ j, j < 8 → c.2 0 j = M.2 0 j) (t : Int32) : ∀ (k n i : Nat) (a : Int32), i + k = 8 → k < n → ∃ b, fl_X1_fewestWays_7 t c n a (nI i) = some b ∧ fl_X9_join_23 t M n a (nI i) = some b := by
  intro k
  induction k with
  | zero =>
    intro n i a hi hn
    obtain ⟨n, rfl⟩ : ∃ m, n = m + 1 := ⟨n - 1, by omega⟩
    rw [fl_X1_fewestWays_7, fl_X9_join_23, if_pos (geL (n := i) (y := 8) (k := 8) rfl (by omega) (by omega)), if_pos (geL (n := i) (y := 8) (k := 8) rfl (by omega) (by omega))]
    exact ⟨_, rfl, rfl⟩
  | succ k ih =>
    intro n i a hi hn
    obtain ⟨n, rfl⟩ : ∃ m, n = m + 1 := ⟨n - 1, by omega⟩
    obtain ⟨z, z1, z2⟩ := nb_eq h a
    rw [fl_X1_fewestWays_7, fl_X9_join_23, if_neg (ngeL (n := i) (y := 8) (k := 8) rfl (by omega) (by omega)), if_neg (ngeL (n := i) (y := 8) (k := 8) rfl (by omega) (by omega)), holds_has, show nI i + 1 = nI (i + 1) from nI_1 i, z1, z2]
    rcases has_01 a t with e | e
    · rw [e]
      exact ih n (i + 1) _ (by omega) (by omega)
    · rw [e]
      exact ⟨_, rfl, rfl⟩
theorem cpl_join : cp_join := by
  intro c r g d i0 i1 M x1 x2 hV
  obtain ⟨b, h1, h2⟩ := join_loop hV.1.1 x2 8 2000 0 ((1 : Int32) <<< (x1 &&& 31)) rfl (by omega)
  have h1 : fl_X1_fewestWays_7 x2 c 2000 ((1 : Int32) <<< (x1 &&& 31)) 0 = some b := h1
  have h2 : fl_X9_join_23 x2 M 2000 ((1 : Int32) <<< (x1 &&& 31)) 0 = some b := h2
  have key : ∃ v, f_X8_join x1 x2 c = some v ∧ f_X9_join x1 x2 M = some v := by
    unfold f_X8_join f_X9_join f_X1_fewestWays
    rw [X8_isCorner, X9_isCorner, X8_isCorner, X9_isCorner, h1, h2]
    rcases isW_01 x1 0 7 with e | e
    · rw [e]; exact ⟨-1, rfl, rfl⟩
    · rcases isW_01 x2 0 7 with e2 | e2
      · rw [e, e2]; exact ⟨-1, rfl, rfl⟩
      · rw [e, e2]
        cases b with
        | inl a => exact ⟨a, rfl, rfl⟩
        | inr a => exact ⟨-6, rfl, rfl⟩
  obtain ⟨v, k1, k2⟩ := key
  exact ⟨v, v, k1, k2, rfl, hV⟩
theorem setWay_rel {c M : pStt} (h : ∀ j, j < 8 → c.2 0 j = M.2 0 j) {a b : Nat} (ha : a < 8) (hb : b < 8) (z : Int32) : ∃ f f' : Nat → Int32, f_X1_setWay (nI a) (nI b) z c = some (sA c 0 f) ∧ f_X9_layWay (nI a) (nI b) z M = some (sA M 0 f') ∧ ∀ j, j < 8 → f j = f' j := by
  have u1 : ∀ (σ : pStt) (f f' : Nat → Int32), sA (sA σ 0 f) 0 f' = sA σ 0 f' := by
    intro σ f f'
    unfold sA
    simp only [bx_uu]
  have hu : ∀ (f f' : Nat → Int32) (k : Nat) (x x' : Int32), (∀ j, j < 8 → f j = f' j) → x = x' → ∀ j, j < 8 → upd f k x j = upd f' k x' j := by
    intro f f' k x x' hf hx j hj
    subst hx
    unfold upd
    by_cases e : j = k
    · rw [if_pos e, if_pos e]
    · rw [if_neg e, if_neg e]; exact hf j hj
  unfold f_X1_setWay f_X9_layWay
  by_cases hz : z = 0
  · subst hz
    simp only [if_pos]
    rw [ldn _ ha (by omega), ldn _ ha (by omega), bs, bs, h a ha]
    simp only [bs]
    rw [stAn c 0 _ ha (by omega), stAn M 0 _ ha (by omega)]
    simp only [bs]
    rw [ldn _ hb (by omega), ldn _ hb (by omega)]
    simp only [bs]
    rw [stAn _ 0 _ hb (by omega), stAn _ 0 _ hb (by omega), bs, bs, u1, u1]
    refine ⟨_, _, rfl, rfl, ?_⟩
    show ∀ j, j < 8 → upd (upd (c.2 0) a _) b _ j = upd (upd (M.2 0) a _) b _ j
    have k1 := hu (c.2 0) (M.2 0) a (M.2 0 a &&& (((1 : Int32) <<< (nI b &&& 31)) ^^^ (-1 : Int32))) _ h rfl
    exact hu _ _ b _ _ k1 (congrArg (fun w => w &&& (((1 : Int32) <<< (nI a &&& 31)) ^^^ (-1 : Int32))) (k1 b hb))
  · simp only [if_neg hz]
    rw [ldn _ ha (by omega), ldn _ ha (by omega), bs, bs, h a ha]
    simp only [bs]
    rw [stAn c 0 _ ha (by omega), stAn M 0 _ ha (by omega)]
    simp only [bs]
    rw [ldn _ hb (by omega), ldn _ hb (by omega)]
    simp only [bs]
    rw [stAn _ 0 _ hb (by omega), stAn _ 0 _ hb (by omega), bs, bs, u1, u1]
    refine ⟨_, _, rfl, rfl, ?_⟩
    show ∀ j, j < 8 → upd (upd (c.2 0) a _) b _ j = upd (upd (M.2 0) a _) b _ j
    have k1 := hu (c.2 0) (M.2 0) a (M.2 0 a ||| ((1 : Int32) <<< (nI b &&& 31))) _ h rfl
    exact hu _ _ b _ _ k1 (congrArg (fun w => w ||| ((1 : Int32) <<< (nI a &&& 31))) (k1 b hb))
theorem cpl_way : cp_way := by
  intro c r g d i0 i1 M x1 x2 x3 hV hz
  have hV0 := hV
  obtain ⟨⟨a1, a2, a3, a4, a5, a6, a8⟩, hR, hS, hD, hI0, hI1⟩ := hV
  rcases isW_cases x1 (hi := 7) (n := 7) rfl (by omega) with ⟨i, hi, rfl⟩ | e
  · have w1 := isWn (j := i) (n := 7) (hi := 7) rfl hi (by omega)
    rcases isW_cases x2 (hi := 7) (n := 7) rfl (by omega) with ⟨j, hj, rfl⟩ | e
    · have w2 := isWn (j := j) (n := 7) (hi := 7) rfl hj (by omega)
      by_cases hij : nI i = nI j
      · refine ⟨(-2, c), (-2, M), ?_, ?_, rfl, hV0⟩
        · unfold f_X8_way; rw [X8_isCorner, X8_isCorner, w1, w2, bs, bs, if_neg (by decide), if_neg (by decide), if_pos hij]
        · unfold f_X9_way; rw [X9_isCorner, X9_isCorner, w1, w2, bs, bs, if_neg (by decide), if_neg (by decide), if_pos hij]
      · obtain ⟨f, f', s1, s2, s3⟩ := setWay_rel a1 (by omega : i < 8) (by omega : j < 8) x3
        obtain ⟨b, b1, b2⟩ := ways_eq (c := sA c 0 f) (M := sA M 0 f') s3
        refine ⟨(b, sA c 0 f), (b, sA M 0 f'), ?_, ?_, rfl, ⟨s3, a2, a3, a4, a5, a6, a8⟩, hR, hS, hD, hI0, hI1⟩
        · unfold f_X8_way; rw [X8_isCorner, X8_isCorner, w1, w2, bs, bs, if_neg (by decide), if_neg (by decide), if_neg hij, s1, bs, b1, bs]
        · unfold f_X9_way; rw [X9_isCorner, X9_isCorner, w1, w2, bs, bs, if_neg (by decide), if_neg (by decide), if_neg hij, s2, bs, b2, bs]
    · refine ⟨(-1, c), (-1, M), ?_, ?_, rfl, hV0⟩
      · unfold f_X8_way; rw [X8_isCorner, X8_isCorner, w1, e]; rfl
      · unfold f_X9_way; rw [X9_isCorner, X9_isCorner, w1, e]; rfl
  · refine ⟨(-1, c), (-1, M), ?_, ?_, rfl, hV0⟩
    · unfold f_X8_way; rw [X8_isCorner, e]; rfl
    · unfold f_X9_way; rw [X9_isCorner, e]; rfl
