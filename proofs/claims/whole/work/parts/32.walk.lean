/-! the walk's game -/
def lf (p : Nat → Bool) : Nat → Int32
  | 0 => -6
  | k + 1 => if p (8 - (k + 1)) then nI (8 - (k + 1)) else lf p k
theorem lf_cases (p : Nat → Bool) : ∀ k, lf p k = -6 ∨ ∃ n, n < 8 ∧ lf p k = nI n
  | 0 => Or.inl rfl
  | k + 1 => by
    unfold lf
    cases p (8 - (k + 1))
    · exact lf_cases p k
    · exact Or.inr ⟨8 - (k + 1), by omega, rfl⟩
theorem mul8 (m : Nat) : (8 : Int32) * nI m = nI (8 * m) := (Int32.ofNat_mul 8 m).symm
theorem nI_bt {b : Nat} (hb : b < 2 ^ 32) {i : Nat} : bt (nI b) i = b.testBit i := by
  show (nI b).toBitVec.toNat.testBit i = b.testBit i
  rw [pk_tn hb]
theorem or_lt8 {b i : Nat} (hb : b < 256) (hi : i < 8) : b ||| 2 ^ i < 256 := Nat.or_lt_two_pow (n := 8) hb (Nat.pow_lt_pow_right (by omega) hi)
theorem or_gt {b i : Nat} (h : b.testBit i = false) : b < b ||| 2 ^ i := by
  have h1 : b ≤ b ||| 2 ^ i := Nat.left_le_or
  rcases Nat.lt_or_eq_of_le h1 with h2 | h2
  · exact h2
  · exfalso
    have := congrArg (fun z => z.testBit i) h2
    simp only [Nat.testBit_or, Nat.testBit_two_pow_self, Bool.or_true] at this
    rw [h] at this
    cases this
def goes (R : Nat → Int32) (T : Nat → Nat → Bool) (b j i : Nat) : Bool := bt (R j) i && !b.testBit i && !T (b ||| 2 ^ i) i
theorem step8_loop {g c : pStt} {b j : Nat} (hb : b < 256) : ∀ (k n i : Nat), i + k = 8 → k < n → ∃ r, fl_X2_winningStep_12 (nI b) (c.2 0 j &&& (nI b ^^^ (-1 : Int32))) g c n (nI i) = some r ∧ sm (fun a => some a) (fun _ => some (-6)) r = some (lf (goes (c.2 0) (fun b i => bt (g.2 0 b) i) b j) k) := by
  intro k
  induction k with
  | zero =>
    intro n i hi hn
    obtain ⟨n, rfl⟩ : ∃ m, n = m + 1 := ⟨n - 1, by omega⟩
    have : i = 8 := by omega
    subst this
    rw [fl_X2_winningStep_12, if_pos (geL (n := 8) (k := 8) (y := 8) rfl (by omega) (by omega))]
    exact ⟨_, rfl, rfl⟩
  | succ k ih =>
    intro n i hi hn
    obtain ⟨n, rfl⟩ : ∃ m, n = m + 1 := ⟨n - 1, by omega⟩
    have g1 := ih n (i + 1) (by omega) (by omega)
    have hi8 : 8 - (k + 1) = i := by omega
    rw [fl_X2_winningStep_12, if_neg (ngeL (n := i) (k := 8) (y := 8) rfl (by omega) (by omega)), holds_bt _ (by omega : i < 32), b_and, b_xor, b_m1 i (by omega), nI_bt (by omega), bs, show nI i + 1 = nI (i + 1) from nI_1 i, shl1 i (by omega), orN, Bool.xor_true]
    unfold lf
    rw [hi8]
    have hg : goes (c.2 0) (fun b i => bt (g.2 0 b) i) b j i = (bt (c.2 0 j) i && !b.testBit i && !bt (g.2 0 (b ||| 2 ^ i)) i) := rfl
    rw [hg]
    cases e1 : (bt (c.2 0 j) i && !b.testBit i)
    · exact g1
    · rw [if_neg (by decide), ldn _ (or_lt8 hb (by omega)) (by omega), bs, holds_bt _ (by omega : i < 32), bs]
      cases e2 : bt (g.2 0 (b ||| 2 ^ i)) i
      · exact ⟨_, rfl, rfl⟩
      · exact g1
theorem step8 {g c : pStt} {b j : Nat} (hb : b < 256) (hj : j < 8) : f_X2_winningStep (nI j) (nI b) g c = some (lf (goes (c.2 0) (fun b i => bt (g.2 0 b) i) b j) 8) := by
  obtain ⟨r, e, h⟩ := step8_loop (g := g) (c := c) (b := b) (j := j) hb 8 2000 0 (by omega) (by omega)
  have e : fl_X2_winningStep_12 (nI b) (c.2 0 j &&& (nI b ^^^ (-1 : Int32))) g c 2000 0 = some r := e
  unfold f_X2_winningStep
  rw [ldn _ hj (by omega), bs, e, bs]
  exact h
theorem step9_loop {M : pStt} {T : Nat → Nat → Bool} {b j : Nat} (hb : b < 256) (hj : j < 8) (hT : ∀ b', b < b' → b' < 256 → ∀ i, i < 8 → M.2 17 (8 * b' + i) = if T b' i then 1 else 0) : ∀ (i n : Nat), i ≤ 8 → i < n → fl_X9_leastGo_7 (nI b) (nI j) M n (lf (goes (M.2 0) T b j) (8 - i)) (nI i + (-1)) = some (lf (goes (M.2 0) T b j) 8) := by
  intro i
  induction i with
  | zero =>
    intro n hi hn
    obtain ⟨n, rfl⟩ : ∃ m, n = m + 1 := ⟨n - 1, by omega⟩
    rw [fl_X9_leastGo_7, if_pos (show nI 0 + (-1) < 0 by decide)]
  | succ i ih =>
    intro n hi hn
    obtain ⟨n, rfl⟩ : ∃ m, n = m + 1 := ⟨n - 1, by omega⟩
    have g1 := ih n (by omega) (by omega)
    have hd : nI (i + 1) + (-1) = nI i := by
      rw [← nI_pred i]; rw [Int32.sub_eq_add_neg]
    rw [hd, fl_X9_leastGo_7, if_neg (nI_pos (by omega)), ldn _ hj (by omega), bs, ← holds_has, holds_bt _ (by omega : i < 32), bs, ← holds_has, holds_bt _ (by omega : i < 32), nI_bt (by omega), shl1 i (by omega), orN, mul8, nI_add]
    rw [show 8 - i = (8 - (i + 1)) + 1 by omega] at g1
    unfold lf at g1
    rw [show 8 - (8 - (i + 1) + 1) = i by omega] at g1
    have hg : goes (M.2 0) T b j i = (bt (M.2 0 j) i && !b.testBit i && !T (b ||| 2 ^ i) i) := rfl
    rw [hg] at g1
    have hl := or_lt8 hb (show i < 8 by omega)
    cases e1 : bt (M.2 0 j) i
    · rw [e1] at g1; exact g1
    · cases e2 : b.testBit i
      · rw [e1, e2] at g1
        have ht := hT (b ||| 2 ^ i) (or_gt e2) hl i (by omega)
        have hld := ldn (M.2 17) (show 8 * (b ||| 2 ^ i) + i < 2048 by omega) (by omega)
        rw [ht] at hld
        rw [hld]
        cases e3 : T (b ||| 2 ^ i) i
        · rw [e3] at g1; exact g1
        · rw [e3] at g1; exact g1
      · rw [e1, e2] at g1; exact g1
theorem step9 {M : pStt} {T : Nat → Nat → Bool} {b j : Nat} (hb : b < 256) (hj : j < 8) (hT : ∀ b', b < b' → b' < 256 → ∀ i, i < 8 → M.2 17 (8 * b' + i) = if T b' i then 1 else 0) : f_X9_leastGo (nI b) (nI j) M = some (lf (goes (M.2 0) T b j) 8) := by
  have e : fl_X9_leastGo_7 (nI b) (nI j) M 2000 (-6) 7 = _ := step9_loop hb hj hT 8 2000 (by omega) (by omega)
  unfold f_X9_leastGo
  rw [e, bs]
def msk (w : Nat → Bool) : Nat → Nat
  | 0 => 0
  | i + 1 => if w i then msk w i ||| 2 ^ i else msk w i
theorem msk_lt (w : Nat → Bool) : ∀ i, i ≤ 8 → msk w i < 256
  | 0, _ => (by decide : 0 < 256)
  | i + 1, h => by
    have := msk_lt w i (by omega)
    unfold msk
    cases w i
    · exact this
    · exact or_lt8 this (by omega)
theorem msk_bit (w : Nat → Bool) (q : Nat) : ∀ i, (msk w i).testBit q = (decide (q < i) && w q)
  | 0 => by rw [msk, Nat.zero_testBit]; simp
  | i + 1 => by
    have h := msk_bit w q i
    unfold msk
    by_cases e : q = i
    · subst e
      cases ew : w q
      · rw [if_neg (by decide), h, ew]; simp
      · rw [if_pos rfl, Nat.testBit_or, Nat.testBit_two_pow_self]; simp
    · have h2 : decide (q < i + 1) = decide (q < i) := by
        by_cases c : q < i
        · rw [decide_eq_true c, decide_eq_true (by omega)]
        · rw [decide_eq_false c, decide_eq_false (by omega)]
      cases ew : w i
      · rw [if_neg (by decide), h, h2]
      · rw [if_pos rfl, Nat.testBit_or, h, Nat.testBit_two_pow, h2]
        simp only [show ¬ i = q from fun h => e h.symm, decide_false, Bool.or_false]
/-- corners from which the one to go wins -/
def wn (R : Nat → Int32) (T : Nat → Nat → Bool) (b i : Nat) : Bool := b.testBit i && !(lf (goes R T b i) 8 == -6)
theorem from8_loop {g c : pStt} {b : Nat} (hb : b < 256) : ∀ (k n i : Nat), i + k = 8 → k < n → fl_X2_winningFrom_5 (nI b) g c n (nI (msk (wn (c.2 0) (fun b i => bt (g.2 0 b) i) b) i)) (nI i) = some (nI (msk (wn (c.2 0) (fun b i => bt (g.2 0 b) i) b) 8)) := by
  intro k
  induction k with
  | zero =>
    intro n i hi hn
    obtain ⟨n, rfl⟩ : ∃ m, n = m + 1 := ⟨n - 1, by omega⟩
    have : i = 8 := by omega
    subst this
    rw [fl_X2_winningFrom_5, if_pos (geL (n := 8) (k := 8) (y := 8) rfl (by omega) (by omega))]
  | succ k ih =>
    intro n i hi hn
    obtain ⟨n, rfl⟩ : ∃ m, n = m + 1 := ⟨n - 1, by omega⟩
    have g1 := ih n (i + 1) (by omega) (by omega)
    rw [fl_X2_winningFrom_5, if_neg (ngeL (n := i) (k := 8) (y := 8) rfl (by omega) (by omega)), holds_bt _ (by omega : i < 32), nI_bt (by omega), bs, step8 hb (by omega), bs, show nI i + 1 = nI (i + 1) from nI_1 i, shl1 i (by omega), orN]
    have hm : msk (wn (c.2 0) (fun b i => bt (g.2 0 b) i) b) (i + 1) = if (b.testBit i && !(lf (goes (c.2 0) (fun b i => bt (g.2 0 b) i) b i) 8 == -6)) then msk (wn (c.2 0) (fun b i => bt (g.2 0 b) i) b) i ||| 2 ^ i else msk (wn (c.2 0) (fun b i => bt (g.2 0 b) i) b) i := rfl
    rw [hm] at g1
    cases e1 : b.testBit i
    · rw [e1] at g1; exact g1
    · rw [e1] at g1
      rw [if_neg (by decide)]
      by_cases e2 : lf (goes (c.2 0) (fun b i => bt (g.2 0 b) i) b i) 8 = -6
      · rw [if_pos e2]
        rw [e2] at g1; exact g1
      · rw [if_neg e2]
        rw [beq_eq_false_iff_ne.mpr e2] at g1; exact g1
theorem from8 {g c : pStt} {b : Nat} (hb : b < 256) : f_X2_winningFrom (nI b) g c = some (nI (msk (wn (c.2 0) (fun b i => bt (g.2 0 b) i) b) 8)) := by
  have e : fl_X2_winningFrom_5 (nI b) g c 2000 0 0 = _ := from8_loop hb 8 2000 0 (by omega) (by omega)
  unfold f_X2_winningFrom
  rw [e]; rfl
theorem from9_loop {M : pStt} {T : Nat → Nat → Bool} {b : Nat} (hb : b < 256) (x y : Int32) : ∀ (k n i : Nat) (f : Nat → Int32), i + k = 8 → k < n → (∀ b', b < b' → b' < 256 → ∀ i, i < 8 → f (8 * b' + i) = if T b' i then 1 else 0) → (∀ q, q < i → f (8 * b + q) = if wn (M.2 0) T b q then 1 else 0) → ∃ f', fl_X9_walk_33 x y (nI b) n (nI i) (sA M 17 f) = some (sA M 17 f') ∧ (∀ b', b < b' → b' < 256 → ∀ i, i < 8 → f' (8 * b' + i) = if T b' i then 1 else 0) ∧ (∀ q, q < 8 → f' (8 * b + q) = if wn (M.2 0) T b q then 1 else 0) := by
  intro k
  induction k with
  | zero =>
    intro n i f hi hn h1 h2
    obtain ⟨n, rfl⟩ : ∃ m, n = m + 1 := ⟨n - 1, by omega⟩
    have : i = 8 := by omega
    subst this
    rw [fl_X9_walk_33, if_pos (geL (n := 8) (k := 8) (y := 8) rfl (by omega) (by omega))]
    exact ⟨f, rfl, h1, h2⟩
  | succ k ih =>
    intro n i f hi hn h1 h2
    obtain ⟨n, rfl⟩ : ∃ m, n = m + 1 := ⟨n - 1, by omega⟩
    have hs : f_X9_leastGo (nI b) (nI i) (sA M 17 f) = some (lf (goes (M.2 0) T b i) 8) := step9 hb (by omega) h1
    rw [fl_X9_walk_33, if_neg (ngeL (n := i) (k := 8) (y := 8) rfl (by omega) (by omega)), ← holds_has, holds_bt _ (by omega : i < 32), nI_bt (by omega), bs, hs, bs, show nI i + 1 = nI (i + 1) from nI_1 i, mul8, nI_add]
    have hv : (if (if b.testBit i = true then (1 : Int32) else 0) = 0 then some 0 else if lf (goes (M.2 0) T b i) 8 < 0 then some 0 else some 1 : Option Int32) = some (if wn (M.2 0) T b i then 1 else 0) := by
      unfold wn
      cases e1 : b.testBit i
      · rfl
      · rcases lf_cases (goes (M.2 0) T b i) 8 with e | ⟨m, hm, e⟩
        · rw [e]; decide
        · rw [e, if_neg (by decide), if_neg (nI_pos (by omega))]
          have : (nI m == (-6 : Int32)) = false := beq_eq_false_iff_ne.mpr (fun h => m6_ne (n := m) (by omega) h.symm)
          rw [this]; rfl
    rw [hv, bs, stAn _ 17 _ (show 8 * b + i < 2048 by omega) (by omega), bs]
    have hw : (if wn (M.2 0) T b i = true then (1 : Int32) else 0) &&& 1 = if wn (M.2 0) T b i = true then (1 : Int32) else 0 := by
      cases wn (M.2 0) T b i <;> rfl
    rw [hw]
    rw [sA_sA]
    refine ih n (i + 1) _ (by omega) (by omega) (fun b' hb1 hb2 i' hi' => ?_) (fun q hq => ?_)
    · show (if 8 * b' + i' = 8 * b + i then _ else f (8 * b' + i')) = _
      rw [if_neg (by omega)]
      exact h1 b' hb1 hb2 i' hi'
    · show (if 8 * b + q = 8 * b + i then _ else f (8 * b + q)) = _
      by_cases e : q = i
      · rw [if_pos (by omega), e]
      · rw [if_neg (by omega)]; exact h2 q (by omega)
theorem games {c M : pStt} (hw : ∀ j, j < 8 → c.2 0 j = M.2 0 j) (x y : Int32) : ∀ (b n n' : Nat) (g : pStt) (f : Nat → Int32), b < 256 → b < n → b < n' → (∀ b', b < b' → b' < 256 → ∀ i, i < 8 → f (8 * b' + i) = if bt (g.2 0 b') i then 1 else 0) → ∃ (g' : pStt) (f' : Nat → Int32), fl_X2_firstStep_8 x c n (nI b) g = some g' ∧ fl_X9_walk_26 x y n' (nI b) (sA M 17 f) = some (sA M 17 f') ∧ (∀ b', 0 < b' → b' < 256 → ∀ i, i < 8 → f' (8 * b' + i) = if bt (g'.2 0 b') i then 1 else 0) := by
  intro b
  induction b with
  | zero =>
    intro n n' g f hb hn hn' h
    obtain ⟨n, rfl⟩ : ∃ m, n = m + 1 := ⟨n - 1, by omega⟩
    obtain ⟨n', rfl⟩ : ∃ m, n' = m + 1 := ⟨n' - 1, by omega⟩
    rw [fl_X2_firstStep_8, fl_X9_walk_26, if_pos (show nI 0 ≤ 0 by decide), if_pos (show nI 0 ≤ 0 by decide)]
    exact ⟨g, f, rfl, rfl, h⟩
  | succ b ih =>
    intro n n' g f hb hn hn' h
    obtain ⟨n, rfl⟩ : ∃ m, n = m + 1 := ⟨n - 1, by omega⟩
    obtain ⟨n', rfl⟩ : ∃ m, n' = m + 1 := ⟨n' - 1, by omega⟩
    have hd : nI (b + 1) + (-1) = nI b := by
      rw [← nI_pred b]; rw [Int32.sub_eq_add_neg]
    have hz : ¬ nI (b + 1) ≤ 0 := nI_ge (a := 0) (b := b + 1) (by omega) (by omega)
    obtain ⟨f2, e2, k1, k2⟩ := from9_loop (M := M) (T := fun b i => bt (g.2 0 b) i) hb x y 8 2000 0 f (by omega) (by omega) h (fun q hq => by omega)
    have e2 : fl_X9_walk_33 x y (nI (b + 1)) 2000 0 (sA M 17 f) = some (sA M 17 f2) := e2
    rw [fl_X2_firstStep_8, fl_X9_walk_26, if_neg hz, if_neg hz, hd, from8 hb, bs, stAn g 0 _ hb (by omega), bs, e2, bs]
    refine ih n n' _ f2 (by omega) (by omega) (by omega) (fun b' h1 h2 i hi => ?_)
    show f2 (8 * b' + i) = if bt (if b' = b + 1 then nI (msk (wn (c.2 0) (fun b i => bt (g.2 0 b) i) (b + 1)) 8) else g.2 0 b') i then 1 else 0
    by_cases e : b' = b + 1
    · subst e
      have hl := msk_lt (wn (c.2 0) (fun b i => bt (g.2 0 b) i) (b + 1)) 8 (by omega)
      rw [if_pos rfl, nI_bt (by omega), msk_bit, decide_eq_true hi, Bool.true_and, k2 i hi]
      have : wn (M.2 0) (fun b i => bt (g.2 0 b) i) (b + 1) i = wn (c.2 0) (fun b i => bt (g.2 0 b) i) (b + 1) i := by
        unfold wn
        have : goes (M.2 0) (fun b i => bt (g.2 0 b) i) (b + 1) i = goes (c.2 0) (fun b i => bt (g.2 0 b) i) (b + 1) i := by
          funext q
          unfold goes
          rw [hw i hi]
        rw [this]
      rw [this]
    · rw [if_neg e]
      exact k1 b' (by omega) h2 i hi
theorem cpl_walk : cp_walk := by
  intro c r g d i0 i1 M gm x1 x2 hV
  have hw : ∀ j, j < 8 → c.2 0 j = M.2 0 j := hV.1.1
  rcases isW_cases x1 (hi := 7) (n := 7) rfl (by omega) with ⟨j, hj, rfl⟩ | e
  · have w1 := isWn (j := j) (n := 7) (hi := 7) rfl hj (by omega)
    rcases isW_cases x2 (hi := 1) (n := 1) rfl (by omega) with ⟨k, hk, rfl⟩ | e
    · have w2 := isWn (j := k) (n := 1) (hi := 1) rfl hk (by omega)
      obtain ⟨g', f', e1, e2, h⟩ := games hw (nI j) (nI k) 255 2000 2000 gm (M.2 17) (by omega) (by omega) (by omega) (fun b' h1 h2 => by omega)
      have e1 : fl_X2_firstStep_8 (nI j) c 2000 (256 - 1) gm = some g' := e1
      have e2 : fl_X9_walk_26 (nI j) (nI k) 2000 255 M = some (sA M 17 f') := by
        have := sA_self M 17
        rw [this] at e2
        exact e2
      have hp : 2 ^ j < 256 := Nat.pow_lt_pow_right (m := j) (n := 8) (by omega) (by omega)
      have s8 := step8 (g := g') (c := c) (b := 2 ^ j) (j := j) hp (by omega)
      have s9 : f_X9_leastGo (nI (2 ^ j)) (nI j) (sA M 17 f') = some (lf (goes (M.2 0) (fun b i => bt (g'.2 0 b) i) (2 ^ j) j) 8) := step9 hp (by omega) (fun b' h1 h2 i hi => h b' (Nat.lt_of_le_of_lt (Nat.zero_le _) h1) h2 i hi)
      have hg : goes (M.2 0) (fun b i => bt (g'.2 0 b) i) (2 ^ j) j = goes (c.2 0) (fun b i => bt (g'.2 0 b) i) (2 ^ j) j := by
        funext q
        unfold goes
        rw [hw j (by omega)]
      rw [hg] at s9
      have hL := lf_cases (goes (c.2 0) (fun b i => bt (g'.2 0 b) i) (2 ^ j) j) 8
      generalize lf (goes (c.2 0) (fun b i => bt (g'.2 0 b) i) (2 ^ j) j) 8 = L at s8 s9 hL
      have q8 : f_X8_walk (nI j) (nI k) gm c = (if nI k = 0 then (if L = (-6) then some 0 else some 1 : Option Int32).bind (fun v_7 => some (v_7, g')) else some (L, g')) := by
        unfold f_X8_walk f_X2_firstStep
        rw [X8_isCorner, w1, bs, if_neg (by decide), w2, bs, if_neg (by decide), e1, bs, shl1 j (by omega), s8]; rfl
      have q9 : f_X9_walk (nI j) (nI k) M = (if nI k = 1 then some L else if 0 ≤ L then some 1 else some 0 : Option Int32).bind (fun v_16 => some (v_16, sA M 17 f')) := by
        unfold f_X9_walk
        rw [X9_isCorner, w1, bs, if_neg (by decide), in01, w2, bs, if_neg (by decide), e2, bs, shl1 j (by omega), s9]; rfl
      have hI : IV c r g d i0 i1 (sA M 17 f') := hV
      have hk' : k = 0 ∨ k = 1 := by omega
      rcases hL with rfl | ⟨m, hm, rfl⟩
      · rcases hk' with rfl | rfl
        · exact ⟨(0, g'), (0, sA M 17 f'), q8, q9, rfl, hI⟩
        · exact ⟨(-6, g'), (-6, sA M 17 f'), q8, q9, rfl, hI⟩
      · rcases hk' with rfl | rfl
        · refine ⟨(1, g'), (1, sA M 17 f'), ?_, ?_, rfl, hI⟩
          · rw [q8, if_pos (show nI 0 = 0 from rfl), if_neg (fun h => m6_ne (n := m) (by omega) h.symm)]; rfl
          · rw [q9, if_neg (by decide), if_pos (nI_pos' (by omega))]; rfl
        · refine ⟨(nI m, g'), (nI m, sA M 17 f'), ?_, ?_, rfl, hI⟩
          · rw [q8, if_neg (by decide)]
          · rw [q9, if_pos (show nI 1 = 1 from rfl)]; rfl
    · refine ⟨(-2, gm), (-2, M), ?_, ?_, rfl, hV⟩
      · unfold f_X8_walk; rw [X8_isCorner, w1, e]; rfl
      · unfold f_X9_walk; rw [X9_isCorner, w1, in01, e]; rfl
  · refine ⟨(-1, gm), (-1, M), ?_, ?_, rfl, hV⟩
    · unfold f_X8_walk; rw [X8_isCorner, e]; rfl
    · unfold f_X9_walk; rw [X9_isCorner, e]; rfl
