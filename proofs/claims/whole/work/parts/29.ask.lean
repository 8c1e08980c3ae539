/-! which sets of liars fit -/
def fitb (S : Nat → Nat → Bool) : Nat → Nat → Bool
  | 0, _ => true
  | n + 1, t => fitb S n t && S n t
theorem fit_loop {g : pStt} {N : Nat} (hN : N ≤ 8) (h1 : g.1 0 = nI N) {S : Nat → Nat → Bool} (h : ∀ e, e < N → ∀ t, t < 32 → bt (g.2 0 e) t = S e t) : ∀ (k n e : Nat) (F : Int32), e + k = N → k < n → (∀ t, t < 32 → bt F t = fitb S e t) → ∃ F', fl_X5_fitting_4 g n F (nI e) = some F' ∧ ∀ t, t < 32 → bt F' t = fitb S N t := by
  intro k
  induction k with
  | zero =>
    intro n e F he hn hF
    obtain ⟨n, rfl⟩ : ∃ m, n = m + 1 := ⟨n - 1, by omega⟩
    have : e = N := by omega
    subst this
    rw [fl_X5_fitting_4, h1, if_pos (Int32.le_refl _)]
    exact ⟨F, rfl, hF⟩
  | succ k ih =>
    intro n e F he hn hF
    obtain ⟨n, rfl⟩ : ∃ m, n = m + 1 := ⟨n - 1, by omega⟩
    rw [fl_X5_fitting_4, h1, if_neg (nI_ge (by omega) (by omega)), ldn _ (by omega : e < 8) (by omega), bs, show nI e + 1 = nI (e + 1) from nI_1 e]
    exact ih n (e + 1) _ (by omega) (by omega) (fun t ht => by rw [b_and, hF t ht, h e (by omega) t ht]; rfl)
theorem fitting_ex {g : pStt} {N : Nat} (hN : N ≤ 8) (h1 : g.1 0 = nI N) {S : Nat → Nat → Bool} (h : ∀ e, e < N → ∀ t, t < 32 → bt (g.2 0 e) t = S e t) : ∃ F, f_X5_fitting g = some F ∧ ∀ t, t < 32 → bt F t = fitb S N t := by
  obtain ⟨F, e, hF⟩ := fit_loop hN h1 h N 2000 0 (-1) (by omega) (by omega) (fun t ht => by rw [b_m1 t ht]; rfl)
  refine ⟨F, ?_, hF⟩
  unfold f_X5_fitting
  rw [show (0 : Int32) = nI 0 from rfl, e]; rfl
theorem fit9_loop {M : pStt} {N : Nat} (hN : N ≤ 8) (h2 : M.1 3 = nI N) {S : Nat → Nat → Bool} (h : ∀ e, e < N → ∃ (x w y : Nat) (z : Bool), x < 5 ∧ w < 3 ∧ y < 6 ∧ M.2 8 e = nI x ∧ M.2 9 e = nI w ∧ M.2 10 e = nI y ∧ M.2 11 e = (if z then 1 else 0) ∧ ∀ t, t < 32 → S e t = (says t x w y == z)) {t : Nat} (ht : t < 32) : ∀ (k n e : Nat), e + k = N → k < n → fl_X9_isFit_4 (nI t) M n (if fitb S e t then 1 else 0) (nI e) = some (if fitb S N t then 1 else 0) := by
  intro k
  induction k with
  | zero =>
    intro n e he hn
    obtain ⟨n, rfl⟩ : ∃ m, n = m + 1 := ⟨n - 1, by omega⟩
    have : e = N := by omega
    subst this
    rw [fl_X9_isFit_4, h2, if_pos (Int32.le_refl _)]
  | succ k ih =>
    intro n e he hn
    obtain ⟨n, rfl⟩ : ∃ m, n = m + 1 := ⟨n - 1, by omega⟩
    obtain ⟨x, w, y, z, hx, hw, hy, q1, q2, q3, q4, q5⟩ := h e (by omega)
    have hs := says_t t ht x hx w hw y hy
    have g1 := ih n (e + 1) (by omega) (by omega)
    have q6 := q5 t ht
    rw [fl_X9_isFit_4, h2, if_neg (nI_ge (by omega) (by omega)), ldn _ (by omega : e < 8) (by omega), ldn _ (by omega : e < 8) (by omega), ldn _ (by omega : e < 8) (by omega), ldn _ (by omega : e < 8) (by omega), q1, q2, q3, q4, show nI e + 1 = nI (e + 1) from nI_1 e]
    simp only [bs]
    rw [hs]
    simp only [bs]
    have hfs : fitb S (e + 1) t = (fitb S e t && (says t x w y == z)) := by rw [← q6]; rfl
    rw [hfs] at g1
    cases h0 : fitb S e t
    · rw [h0] at g1; exact g1
    · rw [h0] at g1
      cases h5 : says t x w y <;> cases z <;> rw [h5] at g1 <;> exact g1
theorem isFit_eq {M : pStt} {N : Nat} (hN : N ≤ 8) (h2 : M.1 3 = nI N) {S : Nat → Nat → Bool} (h : ∀ e, e < N → ∃ (x w y : Nat) (z : Bool), x < 5 ∧ w < 3 ∧ y < 6 ∧ M.2 8 e = nI x ∧ M.2 9 e = nI w ∧ M.2 10 e = nI y ∧ M.2 11 e = (if z then 1 else 0) ∧ ∀ t, t < 32 → S e t = (says t x w y == z)) {t : Nat} (ht : t < 32) : f_X9_isFit (nI t) M = some (if fitb S N t then 1 else 0) := by
  unfold f_X9_isFit
  have e : fl_X9_isFit_4 (nI t) M 2000 1 0 = some (if fitb S N t then 1 else 0) := fit9_loop hN h2 h ht N 2000 0 (by omega) (by omega)
  rw [e, bs]
  cases fitb S N t <;> rfl
/-- all that is used of the sightings -/
theorem relS_fit {g M : pStt} (hS : relS g M) : ∃ (φ : Nat → Bool) (F : Int32), f_X5_fitting g = some F ∧ (∀ t, t < 32 → bt F t = φ t) ∧ ∀ t, t < 32 → f_X9_isFit (nI t) M = some (if φ t then 1 else 0) := by
  obtain ⟨N, hN, h1, h2, h3⟩ := hS
  have h4 : ∀ e, e < N → ∃ (x w y : Nat) (z : Bool), x < 5 ∧ w < 3 ∧ y < 6 ∧ M.2 8 e = nI x ∧ M.2 9 e = nI w ∧ M.2 10 e = nI y ∧ M.2 11 e = (if z then 1 else 0) ∧ ∀ t, t < 32 → (fun e t => bt (g.2 0 e) t) e t = (says t x w y == z) := by
    intro e he
    obtain ⟨x, w, y, z, hx, hw, hy, q⟩ := h3 e he
    refine ⟨x, w, y, z, hx, hw, ?_, q⟩
    by_cases e : w = 2 <;> simp [e] at hy <;> omega
  obtain ⟨F, e1, e2⟩ := fitting_ex hN h1 (S := fun e t => bt (g.2 0 e) t) (fun e he t ht => rfl)
  exact ⟨fitb (fun e t => bt (g.2 0 e) t) N, F, e1, e2, fun t ht => isFit_eq hN h2 h4 ht⟩
theorem place_loop {M : pStt} {φ : Nat → Bool} {F : Int32} (hF : ∀ t, t < 32 → bt F t = φ t) (hM : ∀ t, t < 32 → f_X9_isFit (nI t) M = some (if φ t then 1 else 0)) (x : Int32) : ∀ (k n n' t : Nat), t + k = 32 → k < n → k < n' → ∃ r : Option Int32, fl_X8_placeOfBit_4 F x n (nI (ct φ t)) (nI t) = some (match r with | some v => .inl v | none => .inr ()) ∧ fl_X9_liars_4 x M n' (nI (ct φ t)) (nI t) = some (match r with | some v => .inl v | none => .inr (nI (ct φ 32))) ∧ (x = -1 → r = none) := by
  intro k
  induction k with
  | zero =>
    intro n n' t ht hn hn'
    obtain ⟨n, rfl⟩ : ∃ m, n = m + 1 := ⟨n - 1, by omega⟩
    obtain ⟨n', rfl⟩ : ∃ m, n' = m + 1 := ⟨n' - 1, by omega⟩
    have : t = 32 := by omega
    subst this
    rw [fl_X8_placeOfBit_4, fl_X9_liars_4, if_pos (show (32 : Int32) ≤ nI 32 by decide), if_pos (show (32 : Int32) ≤ nI 32 by decide)]
    exact ⟨none, rfl, rfl, fun _ => rfl⟩
  | succ k ih =>
    intro n n' t ht hn hn'
    obtain ⟨n, rfl⟩ : ∃ m, n = m + 1 := ⟨n - 1, by omega⟩
    obtain ⟨n', rfl⟩ : ∃ m, n' = m + 1 := ⟨n' - 1, by omega⟩
    have g1 := ih n n' (t + 1) (by omega) (by omega) (by omega)
    have hl := ct_le φ t
    rw [fl_X8_placeOfBit_4, fl_X9_liars_4, if_neg (ngeL (n := t) (k := 32) (y := 32) rfl (by omega) (by omega)), if_neg (ngeL (n := t) (k := 32) (y := 32) rfl (by omega) (by omega)), holds_bt F (by omega), hM t (by omega), hF t (by omega), show nI t + 1 = nI (t + 1) from nI_1 t, show nI (ct φ t) + 1 = nI (ct φ t + 1) from nI_1 _]
    simp only [bs]
    unfold ct at g1
    cases e : φ t
    · rw [e] at g1
      exact g1
    · rw [e] at g1
      by_cases hx : nI (ct φ t) = x
      · simp only [if_pos hx]
        refine ⟨some (nI t), rfl, rfl, fun hm => ?_⟩
        rw [hm] at hx
        have := congrArg Int32.toInt hx
        rw [nI_toInt (by omega)] at this
        have h2 : (-1 : Int32).toInt = -1 := by decide
        rw [h2] at this
        omega
      · simp only [if_neg hx]
        exact g1
theorem cpl_liars : cp_liars := by
  intro c r g d i0 i1 M x1 hV
  obtain ⟨φ, F, e1, e2, e3⟩ := relS_fit hV.2.2.1
  obtain ⟨v, h1, h2, h3⟩ := place_loop e2 e3 x1 32 2000 2000 0 (by omega) (by omega) (by omega)
  have h1 : fl_X8_placeOfBit_4 F x1 2000 0 0 = _ := h1
  have h2 : fl_X9_liars_4 x1 M 2000 0 0 = _ := h2
  by_cases hx : x1 = -1
  · have hr := h3 hx
    subst hr
    refine ⟨nI (ct φ 32), nI (ct φ 32), ?_, ?_, rfl, hV⟩
    · unfold f_X8_liars
      rw [e1, bs, if_pos hx, bc_any, ct_congr 32 e2]; rfl
    · unfold f_X9_liars
      rw [h2, bs]
      show (if x1 = -1 then _ else _ : Option Int32).bind _ = _
      rw [if_pos hx]; rfl
  · cases v with
    | none =>
      refine ⟨-6, -6, ?_, ?_, rfl, hV⟩
      · unfold f_X8_liars f_X8_placeOfBit
        rw [e1, bs, if_neg hx, h1]; rfl
      · unfold f_X9_liars
        rw [h2, bs]
        show (if x1 = -1 then _ else _ : Option Int32).bind _ = _
        rw [if_neg hx]; rfl
    | some v =>
      refine ⟨v, v, ?_, ?_, rfl, hV⟩
      · unfold f_X8_liars f_X8_placeOfBit
        rw [e1, bs, if_neg hx, h1]; rfl
      · unfold f_X9_liars
        rw [h2, bs]; rfl
/-- the most sets left after a question -/
def yesn (φ : Nat → Bool) (x w y : Nat) : Nat := ct (fun t => φ t && says t x w y) 32
def mlx (φ : Nat → Bool) (x w y : Nat) : Nat := if yesn φ x w y ≤ ct φ 32 - yesn φ x w y then ct φ 32 - yesn φ x w y else yesn φ x w y
def ml (φ : Nat → Bool) (k : Nat) : Nat := mlx φ (k / 100) (k / 10 % 10) (k % 10)
def isq (k : Nat) : Bool := decide (k / 10 % 10 < 3) && decide (k % 10 < (if k / 10 % 10 = 2 then 6 else 5))
theorem digits : ∀ k, k < 500 → nI k / 100 = nI (k / 100) ∧ nI k / 10 - nI k / 10 / 10 * 10 = nI (k / 10 % 10) ∧ nI k - nI k / 10 * 10 = nI (k % 10) := by decide +kernel
theorem isq_t : ∀ k, k < 500 → f_X8_isQuestion (nI (k / 100)) (nI (k / 10 % 10)) (nI (k % 10)) = some (if isq k then 1 else 0) := by decide +kernel
theorem yesn_le (φ : Nat → Bool) (x w y : Nat) : yesn φ x w y ≤ ct φ 32 := by
  have := ct_split φ (fun t => says t x w y) 32
  unfold yesn
  omega
theorem ml8 {φ : Nat → Bool} {F : Int32} (hF : ∀ t, t < 32 → bt F t = φ t) {k : Nat} (hk : k < 500) (hq : isq k = true) : f_X8_mostLeft F (nI k) = some (nI (ml φ k)) := by
  obtain ⟨d1, d2, d3⟩ := digits k hk
  unfold isq at hq
  rw [Bool.and_eq_true, decide_eq_true_eq, decide_eq_true_eq] at hq
  have hy6 : k % 10 < 6 := by
    have := hq.2
    by_cases e : k / 10 % 10 = 2 <;> simp [e] at this <;> omega
  obtain ⟨Y, hY, hYb⟩ := yes_ex (x := k / 100) (by omega) hq.1 hy6
  unfold f_X8_mostLeft
  rw [d1, d2, d3, hY, bs, bc_any, bs, bc_any, bs]
  have a1 : ct (bt (F &&& Y)) 32 = yesn φ (k / 100) (k / 10 % 10) (k % 10) := ct_congr 32 (fun t ht => by rw [b_and, hF t ht, hYb t ht])
  have a2 : ct (bt (F &&& (Y ^^^ (-1 : Int32)))) 32 = ct (fun t => φ t && !says t (k / 100) (k / 10 % 10) (k % 10)) 32 := ct_congr 32 (fun t ht => by rw [b_and, b_xor, b_m1 t ht, hF t ht, hYb t ht, Bool.xor_true])
  have a3 := ct_split φ (fun t => says t (k / 100) (k / 10 % 10) (k % 10)) 32
  have a4 := ct_le φ 32
  have a5 := yesn_le φ (k / 100) (k / 10 % 10) (k % 10)
  have a6 : ct (fun t => φ t && !says t (k / 100) (k / 10 % 10) (k % 10)) 32 = ct φ 32 - yesn φ (k / 100) (k / 10 % 10) (k % 10) := by
    unfold yesn; omega
  rw [a1, a2, a6]
  unfold ml mlx
  generalize yesn φ (k / 100) (k / 10 % 10) (k % 10) = u at *
  generalize ct φ 32 = v at *
  congr 1
  by_cases c : u ≤ v - u
  · rw [if_pos c]
    by_cases c2 : u < v - u
    · rw [if_pos (nI_lt c2 (by omega))]
    · rw [if_neg (nI_nlt (by omega) (by omega))]; congr 1; omega
  · rw [if_neg c, if_neg (nI_nlt (by omega) (by omega))]
theorem ml_loop {M : pStt} {φ : Nat → Bool} (hM : ∀ t, t < 32 → f_X9_isFit (nI t) M = some (if φ t then 1 else 0)) {x w y : Nat} (hx : x < 5) (hw : w < 3) (hy : y < 6) : ∀ (k n t : Nat), t + k = 32 → k < n → fl_X9_mostLeft_9 (nI x) (nI w) (nI y) M n (nI (ct (fun t => φ t && says t x w y) t)) (nI (ct φ t)) (nI t) = some (nI (yesn φ x w y), nI (ct φ 32)) := by
  intro k
  induction k with
  | zero =>
    intro n t ht hn
    obtain ⟨n, rfl⟩ : ∃ m, n = m + 1 := ⟨n - 1, by omega⟩
    have : t = 32 := by omega
    subst this
    rw [fl_X9_mostLeft_9, if_pos (show (32 : Int32) ≤ nI 32 by decide)]
    rfl
  | succ k ih =>
    intro n t ht hn
    obtain ⟨n, rfl⟩ : ∃ m, n = m + 1 := ⟨n - 1, by omega⟩
    have g1 := ih n (t + 1) (by omega) (by omega)
    rw [fl_X9_mostLeft_9, if_neg (ngeL (n := t) (k := 32) (y := 32) rfl (by omega) (by omega)), hM t (by omega), says_t t (by omega) x hx w hw y hy, show nI t + 1 = nI (t + 1) from nI_1 t]
    simp only [bs]
    unfold ct at g1
    cases e1 : φ t <;> cases e2 : says t x w y
    all_goals
      simp only [e1, e2] at g1
      rw [← nI_add, ← nI_add] at g1
      exact g1
theorem ml9 {M : pStt} {φ : Nat → Bool} (hM : ∀ t, t < 32 → f_X9_isFit (nI t) M = some (if φ t then 1 else 0)) {x w y : Nat} (hx : x < 5) (hw : w < 3) (hy : y < 6) : f_X9_mostLeft (nI x) (nI w) (nI y) M = some (nI (mlx φ x w y)) := by
  unfold f_X9_mostLeft
  have h : fl_X9_mostLeft_9 (nI x) (nI w) (nI y) M 2000 0 0 0 = _ := ml_loop hM hx hw hy 32 2000 0 (by omega) (by omega)
  have a4 := ct_le φ 32
  have a5 := yesn_le φ x w y
  rw [h, bs]
  show (if nI (yesn φ x w y) ≤ nI (ct φ 32) - nI (yesn φ x w y) then some (nI (ct φ 32) - nI (yesn φ x w y)) else some (nI (yesn φ x w y)) : Option Int32).bind _ = _
  rw [pk_sub a5]
  unfold mlx
  by_cases c : yesn φ x w y ≤ ct φ 32 - yesn φ x w y
  · rw [if_pos c, if_pos (nI_le c (by omega))]; rfl
  · rw [if_neg c, if_neg (nI_ge (by omega) (by omega))]; rfl
def best (φ : Nat → Bool) : Nat → Nat × Nat
  | 0 => (0, ml φ 0)
  | k + 1 => if isq (k + 1) = true ∧ ml φ (k + 1) < (best φ k).2 then (k + 1, ml φ (k + 1)) else best φ k
theorem best_ok (φ : Nat → Bool) : ∀ k, (best φ k).2 = ml φ (best φ k).1 ∧ isq (best φ k).1 = true ∧ (best φ k).1 ≤ k
  | 0 => ⟨rfl, (by decide : isq 0 = true), Nat.le_refl 0⟩
  | k + 1 => by
    have h := best_ok φ k
    unfold best
    by_cases c : isq (k + 1) = true ∧ ml φ (k + 1) < (best φ k).2
    · rw [if_pos c]; exact ⟨rfl, c.1, Nat.le_refl _⟩
    · rw [if_neg c]; exact ⟨h.1, h.2.1, by omega⟩
theorem best_up (φ : Nat → Bool) : ∀ j, j ≤ 70 → best φ (429 + j) = best φ 429
  | 0, _ => rfl
  | j + 1, h => by
    rw [show 429 + (j + 1) = (429 + j) + 1 by omega, best, if_neg, best_up φ j (by omega)]
    intro hc
    have := hc.1
    unfold isq at this
    rw [Bool.and_eq_true, decide_eq_true_eq] at this
    omega
theorem ml_le (φ : Nat → Bool) (k : Nat) : ml φ k ≤ 32 := by
  have a4 := ct_le φ 32
  have a5 := yesn_le φ (k / 100) (k / 10 % 10) (k % 10)
  unfold ml mlx
  by_cases c : yesn φ (k / 100) (k / 10 % 10) (k % 10) ≤ ct φ 32 - yesn φ (k / 100) (k / 10 % 10) (k % 10)
  · rw [if_pos c]; omega
  · rw [if_neg c]; omega
theorem best8 {φ : Nat → Bool} {F : Int32} (hF : ∀ t, t < 32 → bt F t = φ t) : ∀ (k n e : Nat), e + k = 499 → k < n → fl_X8_bestQuestion_10 F n (nI (best φ e).1) (nI (best φ e).2) (nI (e + 1)) = some (nI (best φ 499).1) := by
  intro k
  induction k with
  | zero =>
    intro n e he hn
    obtain ⟨n, rfl⟩ : ∃ m, n = m + 1 := ⟨n - 1, by omega⟩
    have : e = 499 := by omega
    subst this
    rw [fl_X8_bestQuestion_10, if_pos (geL (n := 499 + 1) (k := 500) (y := 500) rfl (by omega) (by omega))]
  | succ k ih =>
    intro n e he hn
    obtain ⟨n, rfl⟩ : ∃ m, n = m + 1 := ⟨n - 1, by omega⟩
    have g1 := ih n (e + 1) (by omega) (by omega)
    obtain ⟨d1, d2, d3⟩ := digits (e + 1) (by omega)
    have b1 := best_ok φ e
    have l1 := ml_le φ (e + 1)
    have l2 := ml_le φ (best φ e).1
    rw [fl_X8_bestQuestion_10, if_neg (ngeL (n := e + 1) (k := 500) (y := 500) rfl (by omega) (by omega)), d1, d2, d3, isq_t (e + 1) (by omega), bs, show nI (e + 1) + 1 = nI (e + 1 + 1) from nI_1 _]
    rw [best] at g1
    cases eq : isq (e + 1)
    · rw [if_neg (fun hc => by rw [eq] at hc; exact absurd hc.1 (by decide))] at g1
      exact g1
    · rw [if_neg (show ¬ (if true = true then (1 : Int32) else 0) = 0 by decide), ml8 hF (by omega) eq, bs]
      by_cases c : (best φ e).2 ≤ ml φ (e + 1)
      · rw [if_neg (fun hc => by have := hc.2; omega)] at g1
        rw [if_pos (nI_le c (by omega))]; exact g1
      · rw [if_pos ⟨eq, by omega⟩] at g1
        rw [if_neg (nI_ge (by omega) (by rw [b1.1]; omega))]; exact g1
theorem best9 {M : pStt} {φ : Nat → Bool} (hM : ∀ t, t < 32 → f_X9_isFit (nI t) M = some (if φ t then 1 else 0)) (x : Int32) : ∀ (k n e : Nat), e + k = 429 → k < n → fl_X9_ask_26 x M n (nI (best φ e).1) (nI (best φ e).2) (nI (e + 1)) = some (nI (best φ 429).1, nI (best φ 429).2) := by
  intro k
  induction k with
  | zero =>
    intro n e he hn
    obtain ⟨n, rfl⟩ : ∃ m, n = m + 1 := ⟨n - 1, by omega⟩
    have : e = 429 := by omega
    subst this
    rw [fl_X9_ask_26, if_pos (geL (n := 429 + 1) (k := 430) (y := 430) rfl (by omega) (by omega))]
  | succ k ih =>
    intro n e he hn
    obtain ⟨n, rfl⟩ : ∃ m, n = m + 1 := ⟨n - 1, by omega⟩
    have g1 := ih n (e + 1) (by omega) (by omega)
    obtain ⟨d1, d2, d3⟩ := digits (e + 1) (by omega)
    have b1 := best_ok φ e
    have l1 := ml_le φ (e + 1)
    have l2 := ml_le φ (best φ e).1
    rw [fl_X9_ask_26, if_neg (ngeL (n := e + 1) (k := 430) (y := 430) rfl (by omega) (by omega)), d1, d2, d3, isQ_eq, isq_t (e + 1) (by omega), bs, show nI (e + 1) + 1 = nI (e + 1 + 1) from nI_1 _]
    rw [best] at g1
    cases eq : isq (e + 1)
    · rw [if_neg (fun hc => by rw [eq] at hc; exact absurd hc.1 (by decide))] at g1
      rw [if_pos (show (if false = true then (1 : Int32) else 0) = 0 by decide), bs, if_pos (Int32.le_refl _), bs, if_pos (Int32.le_refl _), bs]
      exact g1
    · have hq := eq
      unfold isq at hq
      rw [Bool.and_eq_true, decide_eq_true_eq, decide_eq_true_eq] at hq
      have hy6 : (e + 1) % 10 < 6 := by
        have := hq.2
        by_cases e' : (e + 1) / 10 % 10 = 2 <;> simp [e'] at this <;> omega
      rw [if_neg (show ¬ (if true = true then (1 : Int32) else 0) = 0 by decide), ml9 hM (by omega) hq.1 hy6, bs, bs]
      have e9 : mlx φ ((e + 1) / 100) ((e + 1) / 10 % 10) ((e + 1) % 10) = ml φ (e + 1) := rfl
      rw [e9]
      by_cases c : (best φ e).2 ≤ ml φ (e + 1)
      · rw [if_neg (fun hc => by have := hc.2; omega)] at g1
        have c3 := nI_le c (by omega)
        rw [if_pos c3, bs, if_pos c3, bs]; exact g1
      · rw [if_pos ⟨eq, by omega⟩] at g1
        have c3 : ¬ nI (best φ e).2 ≤ nI (ml φ (e + 1)) := nI_ge (by omega) (by rw [b1.1]; omega)
        rw [if_neg c3, bs, if_neg c3, bs]; exact g1
theorem cpl_ask : cp_ask := by
  intro c r g d i0 i1 M x1 hV
  obtain ⟨φ, F, e1, e2, e3⟩ := relS_fit hV.2.2.1
  have ein : f_X9_in x1.toInt64 0 1 = f_X8_isWithin x1 0 1 := inW x1 0 1 (by decide) (by decide)
  rcases isW_01 x1 0 1 with ew | ew
  · refine ⟨-2, -2, ?_, ?_, rfl, hV⟩
    · unfold f_X8_ask; rw [ew]; rfl
    · unfold f_X9_ask; rw [ein, ew]; rfl
  · have m0 : f_X8_mostLeft F 0 = some (nI (ml φ 0)) := ml8 (k := 0) e2 (by omega) (by decide)
    have m9 : f_X9_mostLeft 0 0 0 M = some (nI (ml φ 0)) := ml9 e3 (x := 0) (w := 0) (y := 0) (by omega) (by omega) (by omega)
    have b8 : fl_X8_bestQuestion_10 F 2000 0 (nI (ml φ 0)) 1 = some (nI (best φ 499).1) := best8 e2 499 2000 0 (by omega) (by omega)
    have b9 : fl_X9_ask_26 x1 M 2000 0 (nI (ml φ 0)) 1 = some (nI (best φ 429).1, nI (best φ 429).2) := best9 e3 x1 429 2000 0 (by omega) (by omega)
    rw [best_up φ 70 (by omega)] at b8
    obtain ⟨o1, o2, o3⟩ := best_ok φ 429
    have o4 := ml_le φ (best φ 429).1
    have hz : F = 0 ↔ (best φ 429).2 = 0 := by
      rw [o1]
      have a4 := ct_le φ 32
      have a5 := yesn_le φ ((best φ 429).1 / 100) ((best φ 429).1 / 10 % 10) ((best φ 429).1 % 10)
      constructor
      · intro h
        have : ct φ 32 = 0 := by
          rw [← ct_congr 32 e2, h, ← ct_f 32]
          exact ct_congr 32 (fun i _ => b_0 i)
        unfold ml mlx
        rw [this] at a5 ⊢
        rw [if_pos (by omega)]; omega
      · intro h
        have h0 : ct φ 32 = 0 := by
          unfold ml mlx at h
          by_cases c : yesn φ ((best φ 429).1 / 100) ((best φ 429).1 / 10 % 10) ((best φ 429).1 % 10) ≤ ct φ 32 - yesn φ ((best φ 429).1 / 100) ((best φ 429).1 / 10 % 10) ((best φ 429).1 % 10)
          · rw [if_pos c] at h; omega
          · rw [if_neg c] at h; omega
        apply b_ext
        intro i hi
        rw [e2 i hi, b_0, ct_0 φ 32 h0 i hi]
    have q9 : f_X9_ask x1 M = (if nI (best φ 429).2 = 0 then some (-6) else if x1 = 0 then some (nI (best φ 429).1) else some (nI (best φ 429).2) : Option Int32).bind (fun v => some v) := by
      unfold f_X9_ask
      rw [ein, ew, bs, if_neg (by decide), m9, bs, b9, bs]
    have hz9 : nI (best φ 429).2 = 0 ↔ (best φ 429).2 = 0 := nI_zero (by rw [o1]; omega)
    by_cases hF : F = 0
    · refine ⟨-6, -6, ?_, ?_, rfl, hV⟩
      · unfold f_X8_ask; rw [ew, bs, if_neg (by decide), e1, bs, if_pos hF]
      · rw [q9, if_pos (hz9.mpr (hz.mp hF))]; rfl
    · have hF9 : ¬ nI (best φ 429).2 = 0 := fun h => hF (hz.mpr (hz9.mp h))
      have q8 : f_X8_ask x1 g = (if x1 = 0 then some (nI (best φ 429).1) else (f_X8_mostLeft F (nI (best φ 429).1)).bind (fun u_8 => some u_8) : Option Int32).bind (fun v => some v) := by
        unfold f_X8_ask f_X8_bestQuestion
        rw [ew, bs, if_neg (by decide), e1, bs, if_neg hF, m0, bs, b8]; rfl
      by_cases hx : x1 = 0
      · refine ⟨nI (best φ 429).1, nI (best φ 429).1, ?_, ?_, rfl, hV⟩
        · rw [q8, if_pos hx]; rfl
        · rw [q9, if_neg hF9, if_pos hx]; rfl
      · refine ⟨nI (best φ 429).2, nI (best φ 429).2, ?_, ?_, rfl, hV⟩
        · rw [q8, if_neg hx, ml8 e2 (by omega) o2, ← o1]; rfl
        · rw [q9, if_neg hF9, if_neg hx]; rfl
