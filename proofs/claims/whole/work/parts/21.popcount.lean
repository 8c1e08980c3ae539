/-! how many bits: Kernighan's loop and the JDK's sums -/
def pbf : Nat → Nat → Nat
  | 0, _ => 0
  | k + 1, n => n % 2 + pbf k (n / 2)
theorem pbf_le : ∀ k n, pbf k n ≤ k
  | 0, _ => Nat.le_refl 0
  | k + 1, n => by
    have h := pbf_le k (n / 2)
    have h2 : n % 2 < 2 := Nat.mod_lt _ (by omega)
    show n % 2 + pbf k (n / 2) ≤ k + 1
    omega
theorem pbf_0 : ∀ k, pbf k 0 = 0
  | 0 => rfl
  | k + 1 => by
    show 0 % 2 + pbf k (0 / 2) = 0
    rw [Nat.zero_div, pbf_0 k]
theorem pbf_dec : ∀ k n, 0 < n → n < 2 ^ k → pbf k (n &&& (n - 1)) + 1 = pbf k n
  | 0, n, h0, h => by simp at h; omega
  | k + 1, n, h0, h => by
    have hp : 2 ^ (k + 1) = 2 * 2 ^ k := by rw [Nat.pow_succ]; omega
    show (n &&& (n - 1)) % 2 + pbf k ((n &&& (n - 1)) / 2) + 1 = n % 2 + pbf k (n / 2)
    have hz : (n &&& (n - 1)) % 2 = 0 := by
      rcases Nat.mod_two_eq_zero_or_one (n &&& (n - 1)) with e | e
      · exact e
      · rw [Nat.and_mod_two_eq_one] at e
        omega
    rw [hz, Nat.and_div_two]
    rcases Nat.mod_two_eq_zero_or_one n with e | e
    · have e1 : (n - 1) / 2 = n / 2 - 1 := by omega
      rw [e1, e]
      have := pbf_dec k (n / 2) (by omega) (by omega)
      omega
    · have e1 : (n - 1) / 2 = n / 2 := by omega
      rw [e1, Nat.and_self, e]
      omega
theorem nI_zero {m : Nat} (h : m < 2 ^ 32) : nI m = 0 ↔ m = 0 := by
  constructor
  · intro e
    have h1 : (nI m).toBitVec.toNat = (0 : Int32).toBitVec.toNat := by rw [e]
    rw [pk_tn h] at h1
    exact h1
  · intro e; rw [e]; rfl
theorem ones_loop (n : Nat) : ∀ (c m : Nat), m < 2 ^ 32 → pbf 32 m < n → fl_X9_ones_4 n (nI c) (nI m) = some (nI (c + pbf 32 m)) := by
  induction n with
  | zero => intro c m h h2; exact absurd h2 (Nat.not_lt_zero _)
  | succ n ih =>
    intro c m h h2
    rw [fl_X9_ones_4]
    by_cases e : m = 0
    · subst e
      rw [if_pos (show nI 0 = 0 from rfl), pbf_0]
      rfl
    · rw [if_neg (by rw [nI_zero h]; exact e)]
      have e1 : nI m - (1 : Int32) = nI (m - 1) := by
        obtain ⟨k, rfl⟩ : ∃ k, m = k + 1 := ⟨m - 1, by omega⟩
        rw [nI_pred]; rfl
      rw [e1, andN, show nI c + 1 = nI (c + 1) from nI_1 c]
      have hd := pbf_dec 32 m (Nat.pos_of_ne_zero e) h
      have hl : m &&& (m - 1) < 2 ^ 32 := Nat.lt_of_le_of_lt Nat.and_le_left h
      generalize m &&& (m - 1) = m2 at hd hl ⊢
      generalize pbf 32 m = z at hd h2 ⊢
      subst hd
      rw [ih (c + 1) m2 hl (by omega), show c + 1 + pbf 32 m2 = c + (pbf 32 m2 + 1) by omega]
theorem onesN {m : Nat} (h : m < 2 ^ 32) : f_X9_ones (nI m) = some (nI (pbf 32 m)) := by
  unfold f_X9_ones
  have h1 := pbf_le 32 m
  have := ones_loop 2000 0 m h (by omega)
  rw [show (0 : Int32) = nI 0 from rfl, this, bs, Nat.zero_add]
theorem nI_toNat (x : Int32) : x = nI x.toBitVec.toNat := by
  unfold nI
  apply Int32.toBitVec_inj.mp
  simp [Int32.toBitVec_ofNat]
theorem toNat_lt (x : Int32) : x.toBitVec.toNat < 2 ^ 32 := x.toBitVec.isLt
/-- sums of bytes -/
theorem pbf_add : ∀ (k j a b : Nat), a < 2 ^ k → pbf (k + j) (a + 2 ^ k * b) = pbf k a + pbf j b
  | 0, j, a, b, h => by
    have : a = 0 := by simp at h; omega
    subst this
    simp [pbf]
  | k + 1, j, a, b, h => by
    have hp : 2 ^ (k + 1) = 2 * 2 ^ k := by rw [Nat.pow_succ]; omega
    rw [show k + 1 + j = (k + j) + 1 by omega]
    show (a + 2 ^ (k + 1) * b) % 2 + pbf (k + j) ((a + 2 ^ (k + 1) * b) / 2) = a % 2 + pbf k (a / 2) + pbf j b
    have e1 : a + 2 ^ (k + 1) * b = a + 2 * (2 ^ k * b) := by rw [hp, Nat.mul_assoc]
    have e2 : (a + 2 * (2 ^ k * b)) % 2 = a % 2 := by omega
    have e3 : (a + 2 * (2 ^ k * b)) / 2 = a / 2 + 2 ^ k * b := by omega
    rw [e1, e2, e3, pbf_add k j (a / 2) b (by omega)]
    omega
theorem by_85 : ∀ a, a < 256 → ∀ z, z < 2 → (a / 2 + 128 * z) &&& 85 = (a / 2) &&& 85 := by decide +kernel
theorem by_51 : ∀ a, a < 256 → ∀ z, z < 4 → (a / 4 + 64 * z) &&& 51 = (a / 4) &&& 51 := by decide +kernel
theorem split_and (X μ M' : Nat) (hμ : μ < 256) : X &&& (μ + 256 * M') = (X % 256 &&& μ) + 256 * (X / 256 &&& M') := by
  have h := Nat.div_add_mod (X &&& (μ + 256 * M')) 256
  have e1 : (X &&& (μ + 256 * M')) / 256 = X / 256 &&& M' := by
    have := @Nat.and_div_two_pow X (μ + 256 * M') 8
    rw [show (2 : Nat) ^ 8 = 256 from rfl] at this
    rw [this]
    congr 1
    omega
  have e2 : (X &&& (μ + 256 * M')) % 256 = X % 256 &&& μ := by
    have := @Nat.and_mod_two_pow X (μ + 256 * M') 8
    rw [show (2 : Nat) ^ 8 = 256 from rfl] at this
    rw [this]
    congr 1
    omega
  rw [e1, e2] at h
  omega
theorem stepA (a b M' : Nat) (ha : a < 256) : ((a + 256 * b) / 2) &&& (85 + 256 * M') = ((a / 2) &&& 85) + 256 * ((b / 2) &&& M') := by
  rw [split_and _ _ _ (by omega)]
  have e1 : (a + 256 * b) / 2 % 256 = a / 2 + 128 * (b % 2) := by omega
  have e2 : (a + 256 * b) / 2 / 256 = b / 2 := by omega
  rw [e1, e2, by_85 a ha (b % 2) (by omega)]
theorem stepB (a b M' : Nat) (ha : a < 256) : ((a + 256 * b) / 4) &&& (51 + 256 * M') = ((a / 4) &&& 51) + 256 * ((b / 4) &&& M') := by
  rw [split_and _ _ _ (by omega)]
  have e1 : (a + 256 * b) / 4 % 256 = a / 4 + 64 * (b % 4) := by omega
  have e2 : (a + 256 * b) / 4 / 256 = b / 4 := by omega
  rw [e1, e2, by_51 a ha (b % 4) (by omega)]
theorem stepB0 (a b M' : Nat) (ha : a < 256) : (a + 256 * b) &&& (51 + 256 * M') = (a &&& 51) + 256 * (b &&& M') := by
  rw [split_and _ _ _ (by omega)]
  have e1 : (a + 256 * b) % 256 = a := by omega
  have e2 : (a + 256 * b) / 256 = b := by omega
  rw [e1, e2]
theorem stepC (a b M' : Nat) (ha : a / 16 ≤ 4) (ha2 : a % 16 ≤ 4) (hb : b % 16 ≤ 4) : ((a + 256 * b) + (a + 256 * b) / 16) &&& (15 + 256 * M') = ((a + a / 16) % 16) + 256 * ((b + b / 16) &&& M') := by
  rw [split_and _ _ _ (by omega)]
  have e1 : ((a + 256 * b) + (a + 256 * b) / 16) % 256 = a + a / 16 + 16 * (b % 16) := by omega
  have e2 : ((a + 256 * b) + (a + 256 * b) / 16) / 256 = b + b / 16 := by omega
  rw [e1, e2]
  have e3 := @Nat.and_two_pow_sub_one_eq_mod (a + a / 16 + 16 * (b % 16)) 4
  rw [show (2 : Nat) ^ 4 - 1 = 15 from rfl] at e3
  rw [e3]
  have : (a + a / 16 + 16 * (b % 16)) % 2 ^ 4 = (a + a / 16) % 16 := by
    rw [show (2 : Nat) ^ 4 = 16 from rfl]; omega
  rw [this]
theorem md16 {x : Nat} (y : Nat) (h : x % 16 ≤ 4) : (x + 256 * y) % 16 ≤ 4 := by omega
def y1b (a : Nat) : Nat := a - ((a / 2) &&& 85)
def y2b (a : Nat) : Nat := (a &&& 51) + ((a / 4) &&& 51)
theorem y1b_le : ∀ a, a < 256 → (a / 2) &&& 85 ≤ a ∧ y1b a < 256 := by decide +kernel
theorem y2b_le : ∀ a, a < 256 → y2b a < 256 ∧ (y2b (y1b a)) / 16 ≤ 4 ∧ (y2b (y1b a)) % 16 ≤ 4 ∧ y2b (y1b a) < 256 := by decide +kernel
theorem y3b : ∀ a, a < 256 → (y2b (y1b a) + y2b (y1b a) / 16) % 16 = pbf 8 a := by decide +kernel
def swr (m : Nat) : Nat :=
  let x1 := m - ((m / 2) &&& 1431655765)
  let x2 := (x1 &&& 858993459) + ((x1 / 4) &&& 858993459)
  let x3 := (x2 + x2 / 16) &&& 252645135
  let x4 := x3 + x3 / 256
  let x5 := x4 + x4 / 65536
  x5 &&& 63
theorem swr_eq (m : Nat) (h : m < 2 ^ 32) : swr m = pbf 32 m := by
  obtain ⟨a0, a1, a2, a3, h0, h1, h2, h3, rfl⟩ : ∃ a0 a1 a2 a3 : Nat, a0 < 256 ∧ a1 < 256 ∧ a2 < 256 ∧ a3 < 256 ∧ m = a0 + 256 * (a1 + 256 * (a2 + 256 * a3)) := ⟨m % 256, m / 256 % 256, m / 65536 % 256, m / 16777216, by omega, by omega, by omega, by omega, by omega⟩
  have l0 := y1b_le a0 h0
  have l1 := y1b_le a1 h1
  have l2 := y1b_le a2 h2
  have l3 := y1b_le a3 h3
  have X1 : (a0 + 256 * (a1 + 256 * (a2 + 256 * a3))) - ((a0 + 256 * (a1 + 256 * (a2 + 256 * a3))) / 2 &&& 1431655765) = y1b a0 + 256 * (y1b a1 + 256 * (y1b a2 + 256 * y1b a3)) := by
    rw [show 1431655765 = 85 + 256 * (85 + 256 * (85 + 256 * 85)) from rfl, stepA _ _ _ h0, stepA _ _ _ h1, stepA _ _ _ h2]
    unfold y1b
    have := l0.1
    have := l1.1
    have := l2.1
    have := l3.1
    omega
  have k0 := y2b_le a0 h0
  have k1 := y2b_le a1 h1
  have k2 := y2b_le a2 h2
  have k3 := y2b_le a3 h3
  have X2 : ((y1b a0 + 256 * (y1b a1 + 256 * (y1b a2 + 256 * y1b a3))) &&& 858993459) + ((y1b a0 + 256 * (y1b a1 + 256 * (y1b a2 + 256 * y1b a3))) / 4 &&& 858993459) = y2b (y1b a0) + 256 * (y2b (y1b a1) + 256 * (y2b (y1b a2) + 256 * y2b (y1b a3))) := by
    rw [show 858993459 = 51 + 256 * (51 + 256 * (51 + 256 * 51)) from rfl, stepB _ _ _ l0.2, stepB _ _ _ l1.2, stepB _ _ _ l2.2, stepB0 _ _ _ l0.2, stepB0 _ _ _ l1.2, stepB0 _ _ _ l2.2]
    unfold y2b
    omega
  have p0 := y3b a0 h0
  have p1 := y3b a1 h1
  have p2 := y3b a2 h2
  have p3 := y3b a3 h3
  have X3 : ((y2b (y1b a0) + 256 * (y2b (y1b a1) + 256 * (y2b (y1b a2) + 256 * y2b (y1b a3)))) + (y2b (y1b a0) + 256 * (y2b (y1b a1) + 256 * (y2b (y1b a2) + 256 * y2b (y1b a3)))) / 16) &&& 252645135 = pbf 8 a0 + 256 * (pbf 8 a1 + 256 * (pbf 8 a2 + 256 * pbf 8 a3)) := by
    rw [show 252645135 = 15 + 256 * (15 + 256 * (15 + 256 * 15)) from rfl, stepC _ _ _ k0.2.1 k0.2.2.1 (md16 _ k1.2.2.1), stepC _ _ _ k1.2.1 k1.2.2.1 (md16 _ k2.2.2.1), stepC _ _ _ k2.2.1 k2.2.2.1 k3.2.2.1, p0, p1, p2]
    have e3 := @Nat.and_two_pow_sub_one_eq_mod (y2b (y1b a3) + y2b (y1b a3) / 16) 4
    rw [show (2 : Nat) ^ 4 - 1 = 15 from rfl, show (2 : Nat) ^ 4 = 16 from rfl] at e3
    rw [e3, p3]
  have q0 := pbf_le 8 a0
  have q1 := pbf_le 8 a1
  have q2 := pbf_le 8 a2
  have q3 := pbf_le 8 a3
  unfold swr
  simp only []
  rw [X1, X2, X3]
  have e6 := @Nat.and_two_pow_sub_one_eq_mod (pbf 8 a0 + 256 * (pbf 8 a1 + 256 * (pbf 8 a2 + 256 * pbf 8 a3)) + (pbf 8 a0 + 256 * (pbf 8 a1 + 256 * (pbf 8 a2 + 256 * pbf 8 a3))) / 256 + (pbf 8 a0 + 256 * (pbf 8 a1 + 256 * (pbf 8 a2 + 256 * pbf 8 a3)) + (pbf 8 a0 + 256 * (pbf 8 a1 + 256 * (pbf 8 a2 + 256 * pbf 8 a3))) / 256) / 65536) 6
  rw [show (2 : Nat) ^ 6 - 1 = 63 from rfl, show (2 : Nat) ^ 6 = 64 from rfl] at e6
  rw [e6]
  have P : pbf 32 (a0 + 256 * (a1 + 256 * (a2 + 256 * a3))) = pbf 8 a0 + (pbf 8 a1 + (pbf 8 a2 + pbf 8 a3)) := by
    have r1 := pbf_add 8 24 a0 (a1 + 256 * (a2 + 256 * a3)) h0
    have r2 := pbf_add 8 16 a1 (a2 + 256 * a3) h1
    have r3 := pbf_add 8 8 a2 a3 h2
    rw [show (2 : Nat) ^ 8 = 256 from rfl] at r1 r2 r3
    rw [show 8 + 24 = 32 from rfl] at r1
    rw [show 8 + 16 = 24 from rfl] at r2
    rw [show 8 + 8 = 16 from rfl] at r3
    rw [r1, r2, r3]
  rw [P]
  clear X1 X2 X3 p0 p1 p2 p3 k0 k1 k2 k3 l0 l1 l2 l3 e6 P
  generalize pbf 8 a0 = r0 at *
  generalize pbf 8 a1 = r1 at *
  generalize pbf 8 a2 = r2 at *
  generalize pbf 8 a3 = r3 at *
  have j1 : (r0 + 256 * (r1 + 256 * (r2 + 256 * r3))) / 256 = r1 + 256 * (r2 + 256 * r3) := by omega
  rw [j1]
  have k1 : (r0 + 256 * (r1 + 256 * (r2 + 256 * r3)) + (r1 + 256 * (r2 + 256 * r3))) / 65536 = r2 + r3 + 256 * r3 := by omega
  rw [k1]
  have s1 : r0 + 256 * (r1 + 256 * (r2 + 256 * r3)) + (r1 + 256 * (r2 + 256 * r3)) + (r2 + r3 + 256 * r3) = (r0 + (r1 + (r2 + r3))) + 64 * (4 * (r1 + 256 * (r2 + 256 * r3)) + 4 * (r2 + 256 * r3) + 4 * r3) := by omega
  rw [s1, Nat.add_mul_mod_self_left]
  exact Nat.mod_eq_of_lt (by omega)
theorem us1 {n : Nat} (h : n < 2 ^ 32) : ((nI n).toUInt32 >>> ((1 : Int32).toUInt32 &&& Int32.toUInt32 31)).toInt32 = nI (n / 2) := pk_ushrN h 1 1 (by decide)
theorem us2 {n : Nat} (h : n < 2 ^ 32) : ((nI n).toUInt32 >>> ((2 : Int32).toUInt32 &&& Int32.toUInt32 31)).toInt32 = nI (n / 4) := pk_ushrN h 2 2 (by decide)
theorem us4 {n : Nat} (h : n < 2 ^ 32) : ((nI n).toUInt32 >>> ((4 : Int32).toUInt32 &&& Int32.toUInt32 31)).toInt32 = nI (n / 16) := pk_ushrN h 4 4 (by decide)
theorem us8 {n : Nat} (h : n < 2 ^ 32) : ((nI n).toUInt32 >>> ((8 : Int32).toUInt32 &&& Int32.toUInt32 31)).toInt32 = nI (n / 256) := pk_ushrN h 8 8 (by decide)
theorem us16 {n : Nat} (h : n < 2 ^ 32) : ((nI n).toUInt32 >>> ((16 : Int32).toUInt32 &&& Int32.toUInt32 31)).toInt32 = nI (n / 65536) := pk_ushrN h 16 16 (by decide)
theorem bitCountN {m : Nat} (h : m < 2 ^ 32) : f_J6_bitCount_0f7a4 (nI m) = some (nI (pbf 32 m)) := by
  rw [← swr_eq m h]
  unfold f_J6_bitCount_0f7a4
  rw [us1 h, show (1431655765 : Int32) = nI 1431655765 from rfl, show (858993459 : Int32) = nI 858993459 from rfl, show (252645135 : Int32) = nI 252645135 from rfl, show (63 : Int32) = nI 63 from rfl]
  have l1 : (m / 2 &&& 1431655765) ≤ m := Nat.le_trans Nat.and_le_left (Nat.div_le_self _ _)
  rw [andN, pk_sub l1]
  generalize h1 : m - (m / 2 &&& 1431655765) = x1
  have b1 : x1 < 2 ^ 32 := by omega
  rw [us2 b1, andN, andN, nI_add]
  generalize h2 : (x1 &&& 858993459) + (x1 / 4 &&& 858993459) = x2
  have b2 : x2 < 2 ^ 32 := by
    have r1 : x1 &&& 858993459 ≤ 858993459 := Nat.and_le_right
    have r2 : x1 / 4 &&& 858993459 ≤ 858993459 := Nat.and_le_right
    omega
  rw [us4 b2, nI_add, andN]
  generalize h3 : (x2 + x2 / 16 &&& 252645135) = x3
  have b3 : x3 ≤ 252645135 := by rw [← h3]; exact Nat.and_le_right
  rw [us8 (by omega), nI_add]
  generalize h4 : x3 + x3 / 256 = x4
  rw [us16 (by omega), nI_add, andN]
  unfold swr
  simp only []
  rw [h1, h2, h3, h4]
theorem bitCount_ones (x : Int32) : f_J6_bitCount_0f7a4 x = f_X9_ones x := by
  rw [nI_toNat x, bitCountN (toNat_lt x), onesN (toNat_lt x)]
