/-! pure rows: ranges, bits, loads and stores over numbers -/
theorem bs {α β : Type} (a : α) (k : α → Option β) : (some a).bind k = k a := rfl
theorem isW1 {x lo hi : Int32} (h1 : lo ≤ x) (h2 : x ≤ hi) : f_X8_isWithin x lo hi = some 1 := by
  unfold f_X8_isWithin
  rw [if_neg (by rw [Int32.lt_iff_toInt_lt]; rw [Int32.le_iff_toInt_le] at h1; omega), if_neg (by rw [Int32.lt_iff_toInt_lt]; rw [Int32.le_iff_toInt_le] at h2; omega)]
  rfl
theorem isW0 {x lo hi : Int32} (h : ¬ (lo ≤ x ∧ x ≤ hi)) : f_X8_isWithin x lo hi = some 0 := by
  unfold f_X8_isWithin
  by_cases c1 : x < lo
  · rw [if_pos c1]; rfl
  · by_cases c2 : hi < x
    · rw [if_neg c1, if_pos c2]; rfl
    · exfalso
      apply h
      rw [Int32.lt_iff_toInt_lt] at c1 c2
      rw [Int32.le_iff_toInt_le, Int32.le_iff_toInt_le]
      omega
theorem lgc_lt (x y : Int64) : lg_cmp x y < 0 ↔ x < y := by
  unfold lg_cmp
  by_cases h1 : x > y
  · rw [if_pos h1]
    constructor
    · intro h; exact absurd h (by decide)
    · intro h
      rw [gt_iff_lt, Int64.lt_iff_toInt_lt] at h1
      rw [Int64.lt_iff_toInt_lt] at h
      omega
  · rw [if_neg h1]
    by_cases h2 : x = y
    · rw [if_pos h2]
      constructor
      · intro h; exact absurd h (by decide)
      · intro h
        rw [h2, Int64.lt_iff_toInt_lt] at h
        omega
    · rw [if_neg h2]
      constructor
      · intro _
        rw [gt_iff_lt, Int64.lt_iff_toInt_lt] at h1
        rw [Int64.lt_iff_toInt_lt]
        have : x.toInt ≠ y.toInt := fun e => h2 (Int64.toInt_inj.mp e)
        omega
      · intro _; decide
theorem lgc_gt (x y : Int64) : 0 < lg_cmp x y ↔ y < x := by
  unfold lg_cmp
  by_cases h1 : x > y
  · rw [if_pos h1]
    exact ⟨fun _ => h1, fun _ => by decide⟩
  · rw [if_neg h1]
    by_cases h2 : x = y
    · rw [if_pos h2]
      exact ⟨fun h => absurd h (by decide), fun h => absurd h h1⟩
    · rw [if_neg h2]
      exact ⟨fun h => absurd h (by decide), fun h => absurd h h1⟩
theorem wide_lt (a b : Int32) : a.toInt64 < b.toInt64 ↔ a < b := by
  rw [Int64.lt_iff_toInt_lt, Int32.lt_iff_toInt_lt, Int32.toInt_toInt64, Int32.toInt_toInt64]
theorem inW (x lo hi : Int32) {a b : Int64} (ha : a = lo.toInt64) (hb : b = hi.toInt64) : f_X9_in x.toInt64 a b = f_X8_isWithin x lo hi := by
  subst ha; subst hb
  unfold f_X9_in f_X8_isWithin
  simp only [lgc_lt, lgc_gt, wide_lt]
theorem in07 (x : Int32) : f_X9_in x.toInt64 0 7 = f_X8_isWithin x 0 7 := inW x 0 7 (by decide) (by decide)
theorem in05 (x : Int32) : f_X9_in x.toInt64 0 5 = f_X8_isWithin x 0 5 := inW x 0 5 (by decide) (by decide)
theorem inm7 (x : Int32) : f_X9_in x.toInt64 (-1) 7 = f_X8_isWithin x (-1) 7 := inW x (-1) 7 (by decide) (by decide)
theorem litI (n : Nat) : (OfNat.ofNat n : Int32) = nI n := rfl
theorem isWn {j n : Nat} {hi : Int32} (h : hi = nI n) (hj : j ≤ n) (hn : n < 2 ^ 31) : f_X8_isWithin (nI j) 0 hi = some 1 := by
  subst h
  exact isW1 (nI_pos' (by omega)) (nI_le hj hn)
theorem isW_cases (x : Int32) {hi : Int32} {n : Nat} (h : hi = nI n) (hn : n < 2 ^ 31) : (∃ j, j ≤ n ∧ x = nI j) ∨ f_X8_isWithin x 0 hi = some 0 := by
  by_cases c : 0 ≤ x ∧ x ≤ hi
  · left
    have h0 : ¬ x < 0 := by
      have := c.1
      rw [Int32.le_iff_toInt_le] at this
      rw [Int32.lt_iff_toInt_lt]; omega
    subst h
    exact nI_of2 (nI_toInt hn) h0 c.2
  · exact Or.inr (isW0 c)
theorem asB0 : asB 0 = some 0 := rfl
theorem asB1 : asB 1 = some 1 := rfl
/-- 0 or 1 -/
theorem isW_01 (x lo hi : Int32) : f_X8_isWithin x lo hi = some 0 ∨ f_X8_isWithin x lo hi = some 1 := by
  by_cases c : lo ≤ x ∧ x ≤ hi
  · exact Or.inr (isW1 c.1 c.2)
  · exact Or.inl (isW0 c)
theorem isWB {x lo hi u : Int32} (h : f_X8_isWithin x lo hi = some u) : asB u = some u := by
  rcases isW_01 x lo hi with e | e <;> (rw [e] at h; cases h; rfl)
theorem X8_isCorner (x : Int32) : f_X8_isCorner x = f_X8_isWithin x 0 7 := by
  unfold f_X8_isCorner
  rcases isW_01 x 0 7 with e | e <;> (rw [e]; rfl)
theorem X8_isThing (x : Int32) : f_X8_isThing x = f_X8_isWithin x 0 7 := by
  unfold f_X8_isThing
  rcases isW_01 x 0 7 with e | e <;> (rw [e]; rfl)
theorem X8_isPerson (x : Int32) : f_X8_isPerson x = f_X8_isWithin x 0 5 := by
  unfold f_X8_isPerson
  rcases isW_01 x 0 5 with e | e <;> (rw [e]; rfl)
theorem X8_isClaim (x : Int32) : f_X8_isClaim x = f_X8_isWithin x 0 9 := by
  unfold f_X8_isClaim
  rcases isW_01 x 0 9 with e | e <;> (rw [e]; rfl)
theorem X9_isCorner (x : Int32) : f_X9_isCorner x = f_X8_isWithin x 0 7 := by
  unfold f_X9_isCorner
  rw [in07]
  rcases isW_01 x 0 7 with e | e <;> (rw [e]; rfl)
theorem X9_isThing (x : Int32) : f_X9_isThing x = f_X8_isWithin x 0 7 := by
  unfold f_X9_isThing
  rw [in07]
  rcases isW_01 x 0 7 with e | e <;> (rw [e]; rfl)
theorem X9_isPerson (x : Int32) : f_X9_isPerson x = f_X8_isWithin x 0 5 := by
  unfold f_X9_isPerson
  rw [in05]
  rcases isW_01 x 0 5 with e | e <;> (rw [e]; rfl)
theorem inB_n {j n : Nat} (h : j < n) (hn : n < 2 ^ 31) : inB (nI j) n = true := decide_eq_true (nI_in h hn)
theorem ldn (f : Nat → Int32) {j n : Nat} (h : j < n) (hn : n < 2 ^ 31) : ld f n (nI j) = some (f j) := by
  unfold ld
  rw [if_pos (inB_n h hn), nI_clamp (by omega)]
theorem ldLn (f : Nat → Int64) {j n : Nat} (h : j < n) (hn : n < 2 ^ 31) : ldL f n (nI j) = some (f j) := by
  unfold ldL
  rw [if_pos (inB_n h hn), nI_clamp (by omega)]
theorem stAn (σ : pStt) (k : Nat) {j n : Nat} (x : Int32) (h : j < n) (hn : n < 2 ^ 31) : stA σ k n (nI j) x = some (sA σ k (upd (σ.2 k) j x)) := by
  unfold stA
  rw [if_pos (inB_n h hn), nI_clamp (by omega)]
theorem stLn (f : Nat → Int64) {j n : Nat} (x : Int64) (h : j < n) (hn : n < 2 ^ 31) : stL f n (nI j) x = some (vp_updL f j x) := by
  unfold stL
  rw [if_pos (inB_n h hn), nI_clamp (by omega)]
/-- bits -/
theorem and1 (y : Int32) : y &&& 1 = 0 ∨ y &&& 1 = 1 := by
  have h := pk_and y (m := 1) 1 (by decide)
  rw [h]
  rcases Nat.mod_two_eq_zero_or_one y.toBitVec.toNat with e | e
  · left; rw [show (2 : Nat) ^ 1 = 2 from rfl, e]; rfl
  · right; rw [show (2 : Nat) ^ 1 = 2 from rfl, e]; rfl
theorem holds_has (x k : Int32) : f_X8_holds x k = f_X9_has x k := by
  unfold f_X8_holds f_X9_has
  rcases and1 (x >>> (k &&& 31)) with e | e
  · rw [e]; rfl
  · rw [e]; rfl
theorem sh31 : ∀ b, b < 32 → ((nI b &&& 31).toBitVec.smod 32).toNat = b := by decide
theorem shrN {a b : Nat} (ha : a < 2 ^ 31) (hb : b < 32) : nI a >>> (nI b &&& 31) = nI (a / 2 ^ b) := pk_shrN ha _ b (sh31 b hb)
theorem bitN {a b : Nat} (ha : a < 2 ^ 31) (hb : b < 32) : (nI a >>> (nI b &&& 31)) &&& 1 = if a.testBit b then 1 else 0 := by
  rw [shrN ha hb]
  have h1 : a / 2 ^ b < 2 ^ 32 := Nat.lt_of_le_of_lt (Nat.div_le_self _ _) (by omega)
  rw [pk_andN h1 (m := 1) 1 (by decide), Nat.testBit_eq_decide_div_mod_eq]
  rcases Nat.mod_two_eq_zero_or_one (a / 2 ^ b) with e | e
  · rw [show (2 : Nat) ^ 1 = 2 from rfl, e]; rfl
  · rw [show (2 : Nat) ^ 1 = 2 from rfl, e]; rfl
theorem hasN {a b : Nat} (ha : a < 2 ^ 31) (hb : b < 32) : f_X9_has (nI a) (nI b) = some (if a.testBit b then 1 else 0) := by
  unfold f_X9_has
  rw [bitN ha hb]
  cases a.testBit b <;> rfl
theorem holdsN {a b : Nat} (ha : a < 2 ^ 31) (hb : b < 32) : f_X8_holds (nI a) (nI b) = some (if a.testBit b then 1 else 0) := by
  rw [holds_has, hasN ha hb]
theorem has_01 (x k : Int32) : f_X9_has x k = some 0 ∨ f_X9_has x k = some 1 := by
  unfold f_X9_has
  rcases and1 (x >>> (k &&& 31)) with e | e
  · rw [e]; exact Or.inl rfl
  · rw [e]; exact Or.inr rfl
theorem shl1 : ∀ b, b < 31 → (1 : Int32) <<< (nI b &&& 31) = nI (2 ^ b) := by decide
theorem orN (a b : Nat) : nI a ||| nI b = nI (a ||| b) := by
  unfold nI
  apply Int32.toBitVec_inj.mp
  simp [Int32.toBitVec_ofNat]
theorem andN (a b : Nat) : nI a &&& nI b = nI (a &&& b) := by
  unfold nI
  apply Int32.toBitVec_inj.mp
  simp [Int32.toBitVec_ofNat]
