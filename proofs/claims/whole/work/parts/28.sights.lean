/-! bits, sightings, liars and questions -/
def bt (x : Int32) (i : Nat) : Bool := x.toBitVec.getLsbD i
theorem b_ext {x y : Int32} (h : ∀ i, i < 32 → bt x i = bt y i) : x = y := Int32.toBitVec_inj.mp (BitVec.eq_of_getLsbD_eq (fun i hi => h i hi))
theorem b_or (x y : Int32) (i : Nat) : bt (x ||| y) i = (bt x i || bt y i) := by unfold bt; rw [Int32.toBitVec_or, BitVec.getLsbD_or]
theorem b_and (x y : Int32) (i : Nat) : bt (x &&& y) i = (bt x i && bt y i) := by unfold bt; rw [Int32.toBitVec_and, BitVec.getLsbD_and]
theorem b_xor (x y : Int32) (i : Nat) : bt (x ^^^ y) i = (bt x i ^^ bt y i) := by unfold bt; rw [Int32.toBitVec_xor, BitVec.getLsbD_xor]
theorem b_big {x : Int32} {i : Nat} (h : 32 ≤ i) : bt x i = false := BitVec.getLsbD_of_ge _ _ h
theorem b_m1 : ∀ i, i < 32 → bt (-1) i = true := by decide +kernel
theorem b_0 (i : Nat) : bt 0 i = false := BitVec.getLsbD_zero
theorem s_l : ∀ n, n < 32 → ((nI n &&& 31).toBitVec.smod 32).toNat = n := by decide +kernel
theorem b_sshr (n : Nat) (hn : n < 32) (x : Int32) {i : Nat} (hi : i < 32) : bt (x >>> (nI n &&& 31)) i = if n + i < 32 then bt x (n + i) else bt x 31 := by
  unfold bt
  rw [Int32.toBitVec_shiftRight]
  show (x.toBitVec.sshiftRight ((nI n &&& 31).toBitVec.smod 32).toNat).getLsbD i = _
  rw [s_l n hn, BitVec.getLsbD_sshiftRight, BitVec.msb_eq_getLsbD_last]
  simp [hi]
theorem bit_any (x : Int32) {t : Nat} (ht : t < 32) : (x >>> (nI t &&& 31)) &&& 1 = if bt x t then 1 else 0 := by
  apply b_ext
  intro i hi
  rw [b_and, b_sshr t ht x hi]
  by_cases e : i = 0
  · subst e
    rw [Nat.add_zero, if_pos ht]
    cases bt x t <;> rfl
  · have h1 : ∀ i, i < 32 → i ≠ 0 → bt 1 i = false := by decide +kernel
    rw [h1 i hi e, Bool.and_false]
    cases bt x t
    · exact (b_0 i).symm
    · exact (h1 i hi e).symm
theorem holds_bt (x : Int32) {t : Nat} (ht : t < 32) : f_X8_holds x (nI t) = some (if bt x t then 1 else 0) := by
  rw [holds_has]
  unfold f_X9_has
  rw [bit_any x ht]
  cases bt x t <;> rfl
def ct (p : Nat → Bool) : Nat → Nat
  | 0 => 0
  | n + 1 => ct p n + (if p n then 1 else 0)
theorem ct_le (p : Nat → Bool) : ∀ n, ct p n ≤ n
  | 0 => Nat.le_refl 0
  | n + 1 => by
    have := ct_le p n
    unfold ct
    cases p n <;> simp <;> omega
theorem ct_congr {p q : Nat → Bool} : ∀ n, (∀ i, i < n → p i = q i) → ct p n = ct q n
  | 0, _ => rfl
  | n + 1, h => by
    unfold ct
    rw [ct_congr n (fun i hi => h i (by omega)), h n (by omega)]
theorem ct_shift (p : Nat → Bool) : ∀ n, ct p (n + 1) = (if p 0 then 1 else 0) + ct (fun i => p (i + 1)) n
  | 0 => by unfold ct; unfold ct; omega
  | n + 1 => by
    have h := ct_shift p n
    rw [ct, h]
    conv => rhs; rw [ct]
    omega
theorem ct_split (p q : Nat → Bool) : ∀ n, ct (fun t => p t && q t) n + ct (fun t => p t && !q t) n = ct p n
  | 0 => rfl
  | n + 1 => by
    have h := ct_split p q n
    unfold ct
    cases p n <;> cases q n <;> simp <;> omega
theorem ct_0 (p : Nat → Bool) : ∀ n, ct p n = 0 → ∀ i, i < n → p i = false
  | 0, _, i, hi => by omega
  | n + 1, h, i, hi => by
    unfold ct at h
    have h1 : p n = false := by
      cases e : p n
      · rfl
      · rw [e] at h; simp at h
    by_cases e : i = n
    · rw [e]; exact h1
    · exact ct_0 p n (by omega) i (by omega)
theorem ct_f (n : Nat) : ct (fun _ => false) n = 0 := by
  induction n with
  | zero => rfl
  | succ n ih => unfold ct; rw [ih]; rfl
theorem pbf_ct : ∀ k n, pbf k n = ct (fun i => n.testBit i) k
  | 0, _ => rfl
  | k + 1, n => by
    rw [ct_shift, pbf, pbf_ct k (n / 2)]
    have h1 : n % 2 = if n.testBit 0 then 1 else 0 := by
      rw [Nat.testBit_zero]
      rcases Nat.mod_two_eq_zero_or_one n with e | e <;> rw [e] <;> rfl
    have h2 : ct (fun i => (n / 2).testBit i) k = ct (fun i => n.testBit (i + 1)) k := ct_congr k (fun i _ => by rw [Nat.testBit_succ])
    rw [h1, h2]
theorem bc_any (F : Int32) : f_J6_bitCount_0f7a4 F = some (nI (ct (bt F) 32)) := by
  have h := bitCountN (toNat_lt F)
  rw [← nI_toNat, pbf_ct] at h
  exact h
theorem says_t : ∀ t, t < 32 → ∀ x, x < 5 → ∀ w, w < 3 → ∀ y, y < 6 → f_X9_says (nI t) (nI x) (nI w) (nI y) = some (if says t x w y then 1 else 0) := by decide +kernel
def yesOk (x w y : Nat) : Bool := match f_X8_setsOfYes (nI x) (nI w) (nI y) with
  | none => false
  | some Y => (List.range 32).all (fun t => bt Y t == says t x w y)
theorem yes_t : ∀ x, x < 5 → ∀ w, w < 3 → ∀ y, y < 6 → yesOk x w y = true := by decide +kernel
theorem yes_ex {x w y : Nat} (hx : x < 5) (hw : w < 3) (hy : y < 6) : ∃ Y, f_X8_setsOfYes (nI x) (nI w) (nI y) = some Y ∧ ∀ t, t < 32 → bt Y t = says t x w y := by
  have h := yes_t x hx w hw y hy
  unfold yesOk at h
  cases e : f_X8_setsOfYes (nI x) (nI w) (nI y) with
  | none => rw [e] at h; cases h
  | some Y =>
    rw [e] at h
    refine ⟨Y, rfl, fun t ht => ?_⟩
    have := List.all_eq_true.mp h t (List.mem_range.mpr ht)
    exact eq_of_beq this
theorem isQ_eq (x1 x2 x3 : Int32) : f_X9_isQuestion x1 x2 x3 = f_X8_isQuestion x1 x2 x3 := by
  unfold f_X9_isQuestion f_X8_isQuestion
  rw [inW x1 0 4 (by decide) (by decide), inW x2 0 2 (by decide) (by decide)]
  by_cases e : x2 = 2
  · simp only [if_pos e, bs]
    rw [inW x3 0 5 (by decide) (by decide)]
  · simp only [if_neg e, bs]
    rw [inW x3 0 4 (by decide) (by decide)]
theorem isQ_cases (x1 x2 x3 : Int32) : (∃ x w y : Nat, x < 5 ∧ w < 3 ∧ y < (if w = 2 then 6 else 5) ∧ x1 = nI x ∧ x2 = nI w ∧ x3 = nI y ∧ f_X8_isQuestion x1 x2 x3 = some 1) ∨ f_X8_isQuestion x1 x2 x3 = some 0 := by
  rcases isW_cases x1 (hi := 4) (n := 4) rfl (by omega) with ⟨x, hx, rfl⟩ | e
  · have w1 := isWn (j := x) (n := 4) (hi := 4) rfl hx (by omega)
    rcases isW_cases x2 (hi := 2) (n := 2) rfl (by omega) with ⟨w, hw, rfl⟩ | e
    · have w2 := isWn (j := w) (n := 2) (hi := 2) rfl hw (by omega)
      by_cases hw2 : w = 2
      · subst hw2
        rcases isW_cases x3 (hi := 5) (n := 5) rfl (by omega) with ⟨y, hy, rfl⟩ | e
        · have w3 := isWn (j := y) (n := 5) (hi := 5) rfl hy (by omega)
          refine Or.inl ⟨x, 2, y, by omega, by omega, by rw [if_pos rfl]; omega, rfl, rfl, rfl, ?_⟩
          unfold f_X8_isQuestion
          rw [w1, w2, if_pos (show nI 2 = 2 from rfl)]
          simp only [bs]
          rw [w3]; rfl
        · refine Or.inr ?_
          unfold f_X8_isQuestion
          rw [w1, w2, if_pos (show nI 2 = 2 from rfl)]
          simp only [bs]
          rw [e]; rfl
      · have hn : ¬ nI w = 2 := neL (k := 2) rfl hw2 (by omega) (by omega)
        rcases isW_cases x3 (hi := 4) (n := 4) rfl (by omega) with ⟨y, hy, rfl⟩ | e
        · have w3 := isWn (j := y) (n := 4) (hi := 4) rfl hy (by omega)
          refine Or.inl ⟨x, w, y, by omega, by omega, by rw [if_neg hw2]; omega, rfl, rfl, rfl, ?_⟩
          unfold f_X8_isQuestion
          rw [w1, w2, if_neg hn]
          simp only [bs]
          rw [w3]; rfl
        · refine Or.inr ?_
          unfold f_X8_isQuestion
          rw [w1, w2, if_neg hn]
          simp only [bs]
          rw [e]; rfl
    · refine Or.inr ?_
      unfold f_X8_isQuestion
      rw [w1, e]; rfl
  · refine Or.inr ?_
    unfold f_X8_isQuestion
    rw [e]; rfl
theorem cpl_swore : cp_swore := by
  intro c r g d i0 i1 M x1 x2 x3 x4 hV hx4
  have hV0 := hV
  obtain ⟨hC, hR, ⟨n, hn, h1, h2, h3⟩, hD, hI0, hI1⟩ := hV
  rcases isQ_cases x1 x2 x3 with ⟨x, w, y, hx, hw, hy, rfl, rfl, rfl, eq⟩ | eq
  · have hy6 : y < 6 := by by_cases e : w = 2 <;> simp [e] at hy <;> omega
    obtain ⟨Y, hY, hYb⟩ := yes_ex hx hw hy6
    obtain ⟨z, hz⟩ : ∃ z : Bool, x4 = if z then 1 else 0 := by
      rcases hx4 with rfl | rfl
      · exact ⟨false, rfl⟩
      · exact ⟨true, rfl⟩
    have ev : (if x4 = 0 then some (Y ^^^ (-1 : Int32)) else some Y : Option Int32) = some (if z then Y else Y ^^^ (-1 : Int32)) := by
      rw [hz]; cases z <;> rfl
    have ew : (if x4 = 0 then some 0 else some 1 : Option Int32) = some (if z then 1 else 0) := by
      rw [hz]; cases z <;> rfl
    have hb : ∀ t, t < 32 → bt (if z then Y else Y ^^^ (-1 : Int32)) t = (says t x w y == z) := by
      intro t ht
      cases z
      · show bt (Y ^^^ (-1 : Int32)) t = _
        rw [b_xor, b_m1 t ht, hYb t ht]
        cases says t x w y <;> rfl
      · show bt Y t = _
        rw [hYb t ht]
        cases says t x w y <;> rfl
    by_cases hf : n = 8
    · subst hf
      refine ⟨(-4, g), (-4, M), ?_, ?_, rfl, hV0⟩
      · unfold f_X8_swore f_X5_add
        rw [eq, hY]
        simp only [bs]
        rw [if_neg (by decide), ev, bs, h1]
        rfl
      · unfold f_X9_swore
        rw [isQ_eq, eq, h2]; rfl
    · have hl : n < 8 := by omega
      have e1 : f_X8_swore (nI x) (nI w) (nI y) x4 g = some (nI (n + 1), sI (sA g 0 (upd (g.2 0) n (if z then Y else Y ^^^ (-1 : Int32)))) 0 (nI (n + 1))) := by
        unfold f_X8_swore f_X5_add
        rw [eq, hY]
        simp only [bs]
        rw [if_neg (by decide), ev, bs, h1, if_pos (show nI n < (8 : Int32) from ltL (k := 8) rfl hl (by decide)), stAn g 0 _ hl (by omega), bs, show (sA g 0 (upd (g.2 0) n (if z then Y else Y ^^^ (-1 : Int32)))).1 0 = nI n from h1, show nI n + (1 : Int32) = nI (n + 1) from nI_1 n]
        rfl
      have e2 : f_X9_swore (nI x) (nI w) (nI y) x4 M = some (nI (n + 1), sI (sA (sA (sA (sA M 8 (upd (M.2 8) n (nI x))) 9 (upd (M.2 9) n (nI w))) 10 (upd (M.2 10) n (nI y))) 11 (upd (M.2 11) n (if z then 1 else 0))) 3 (nI (n + 1))) := by
        unfold f_X9_swore
        rw [isQ_eq, eq, h2]
        simp only [bs]
        rw [if_neg (by decide), if_neg (by rw [show (8 : Int32) = nI 8 from rfl, nI_eq (by omega) (by omega)]; exact hf), stAn M 8 _ hl (by omega), bs, show (sA M 8 (upd (M.2 8) n (nI x))).1 3 = nI n from h2, stAn _ 9 _ hl (by omega), bs, show (sA (sA M 8 (upd (M.2 8) n (nI x))) 9 (upd ((sA M 8 (upd (M.2 8) n (nI x))).2 9) n (nI w))).1 3 = nI n from h2, stAn _ 10 _ hl (by omega), bs, ew, bs]
        show (stA _ 11 8 (M.1 3) _).bind _ = _
        rw [h2, stAn _ 11 _ hl (by omega), bs]
        show some ((M.1 3 + 1), _) = _
        rw [h2, show nI n + (1 : Int32) = nI (n + 1) from nI_1 n]
        show some (_, sI _ 3 (M.1 3 + 1)) = _
        rw [h2, show nI n + (1 : Int32) = nI (n + 1) from nI_1 n]
        rfl
      refine ⟨_, _, e1, e2, rfl, hC, hR, ⟨n + 1, by omega, rfl, rfl, fun q hq => ?_⟩, hD, hI0, hI1⟩
      show ∃ (x' w' y' : Nat) (z' : Bool), x' < 5 ∧ w' < 3 ∧ y' < (if w' = 2 then 6 else 5) ∧ upd (M.2 8) n (nI x) q = nI x' ∧ upd (M.2 9) n (nI w) q = nI w' ∧ upd (M.2 10) n (nI y) q = nI y' ∧ upd (M.2 11) n (if z then 1 else 0) q = (if z' then 1 else 0) ∧ ∀ t, t < 32 → (upd (g.2 0) n (if z then Y else Y ^^^ (-1 : Int32)) q).toBitVec.getLsbD t = (says t x' w' y' == z')
      unfold upd
      by_cases e : q = n
      · simp only [if_pos e]; exact ⟨x, w, y, z, hx, hw, hy, rfl, rfl, rfl, rfl, hb⟩
      · simp only [if_neg e]; exact h3 q (by omega)
  · refine ⟨(-2, g), (-2, M), ?_, ?_, rfl, hV0⟩
    · unfold f_X8_swore; rw [eq]; rfl
    · unfold f_X9_swore; rw [isQ_eq, eq]; rfl
