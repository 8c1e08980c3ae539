/-! the world carried away and back -/
def lnb (a : Nat) : Nat := [8, 8, 6, 6, 6].getD a 0
def kob (a : Nat) : Nat := [2, 10, 18, 24, 30].getD a 0
def decB (q : Nat) : Nat := if q < 10 then 0 else if q < 18 then 1 else if q < 24 then 2 else if q < 30 then 3 else 4
theorem decb1 : ∀ a, a < 5 → ∀ j, j < lnb a → decB (kob a + j) = a ∧ 2 ≤ kob a ∧ kob a + j < 36 := by decide +kernel
theorem decb2 : ∀ q, q < 36 → 2 ≤ q → decB q < 5 ∧ kob (decB q) ≤ q ∧ q - kob (decB q) < lnb (decB q) := by decide +kernel
def fl2 (σ : pStt) (q : Nat) : Int32 := if q < 2 then σ.1 q else σ.2 (decB q) (q - kob (decB q))
theorem fl2_get (σ : pStt) {a j : Nat} (ha : a < 5) (hj : j < lnb a) : fl2 σ (kob a + j) = σ.2 a j := by
  obtain ⟨h1, h2, h3⟩ := decb1 a ha j hj
  unfold fl2
  rw [if_neg (by omega), h1, Nat.add_sub_cancel_left]
theorem fl2_int (σ : pStt) {q : Nat} (h : q < 2) : fl2 σ q = σ.1 q := by unfold fl2; rw [if_pos h]
theorem fl2_big (σ : pStt) {q : Nat} (h : ¬ q < 2) : fl2 σ q = σ.2 (decB q) (q - kob (decB q)) := by unfold fl2; rw [if_neg h]
def cv (W : Int32) (σ0 : pStt) (q : Nat) : Int32 := if W = 0 then fl2 σ0 q else σ0.2 16 q
def CI (W : Int32) (σ0 σ : pStt) (p : Nat) : Prop := σ.1 8 = nI p ∧ σ.1 9 = W ∧ (∀ q, q < 36 → fl2 σ q = if q < p then cv W σ0 q else fl2 σ0 q) ∧ (∀ q, σ.2 16 q = if q < p then cv W σ0 q else σ0.2 16 q) ∧ (∀ i, 2 ≤ i → i ≠ 8 → σ.1 i = σ0.1 i) ∧ ∀ a, 5 ≤ a → a ≠ 16 → σ.2 a = σ0.2 a
theorem carry_eq {σ : pStt} {W : Int32} {b : Nat} (h14 : σ.1 8 = nI b) (h15 : σ.1 9 = W) (hb : b < 36) (x : Int32) : f_X9_carry x σ = some (if W = 0 then x else σ.2 16 b, sI (sA σ 16 (upd (σ.2 16) b (if W = 0 then x else σ.2 16 b))) 8 (nI (b + 1))) := by
  have key : ∀ v : Int32, (stA σ 16 36 (nI b) v).bind (fun σ_2 => (some (sI σ_2 8 (((σ_2.1 8) + (1 : Int32))))).bind (fun σ_3 => some (v, σ_3))) = some (v, sI (sA σ 16 (upd (σ.2 16) b v)) 8 (nI (b + 1))) := by
    intro v
    rw [stAn σ 16 v hb (by omega), bs, bs]
    show some (v, sI _ 8 (σ.1 8 + 1)) = _
    rw [h14, show nI b + (1 : Int32) = nI (b + 1) from nI_1 b]
  unfold f_X9_carry
  rw [h14, h15]
  by_cases c : W = 0
  · rw [if_pos c, if_pos c, bs]; exact key _
  · rw [if_neg c, if_neg c, ldn _ hb (by omega), bs, bs]; exact key _
theorem CI_v {W : Int32} {σ0 σ : pStt} {p : Nat} (h : CI W σ0 σ p) (hp : p < 36) : (if W = 0 then fl2 σ p else σ.2 16 p) = cv W σ0 p := by
  obtain ⟨h1, h2, h3, h4, h5⟩ := h
  unfold cv
  have a1 := h4 p
  rw [if_neg (by omega)] at a1
  have a2 := h3 p hp
  rw [if_neg (by omega)] at a2
  rw [a1, a2]
theorem CI_16 {W : Int32} {σ0 σ : pStt} {p : Nat} (h : CI W σ0 σ p) : ∀ q, upd (σ.2 16) p (cv W σ0 p) q = if q < p + 1 then cv W σ0 q else σ0.2 16 q := by
  intro q
  unfold upd
  by_cases e : q = p
  · rw [if_pos e, if_pos (by omega), e]
  · rw [if_neg e, h.2.2.2.1 q]
    by_cases c : q < p
    · rw [if_pos c, if_pos (by omega)]
    · rw [if_neg c, if_neg (by omega)]
theorem CI_stepA {W : Int32} {σ0 σ : pStt} {a j : Nat} (ha : a < 5) (hj : j < lnb a) (h : CI W σ0 σ (kob a + j)) : CI W σ0 (sA (sI (sA σ 16 (upd (σ.2 16) (kob a + j) (cv W σ0 (kob a + j)))) 8 (nI (kob a + j + 1))) a (upd (σ.2 a) j (cv W σ0 (kob a + j)))) (kob a + j + 1) := by
  obtain ⟨d1, d2, d3⟩ := decb1 a ha j hj
  have h19 := CI_16 h
  obtain ⟨h1, h2, h3, h4, h5, h6⟩ := h
  refine ⟨rfl, h2, fun q hq => ?_, fun q => ?_, fun i i2 i8 => ?_, fun i i5 i16 => ?_⟩
  · have h3q := h3 q hq
    by_cases c : q < 2
    · rw [fl2_int _ c] at h3q ⊢
      rw [if_pos (by omega)] at h3q
      rw [if_pos (by omega)]
      show (if q = 8 then _ else σ.1 q) = _
      rw [if_neg (by omega)]; exact h3q
    · obtain ⟨q1, q2, q3⟩ := decb2 q hq (by omega)
      rw [fl2_big σ c] at h3q
      refine (fl2_big _ c).trans ?_
      show (if decB q = a then upd (σ.2 a) j (cv W σ0 (kob a + j)) else if decB q = 16 then _ else σ.2 (decB q)) (q - kob (decB q)) = _
      by_cases e : decB q = a
      · rw [if_pos e]
        unfold upd
        rw [e] at q2 q3 h3q ⊢
        by_cases e2 : q - kob a = j
        · rw [if_pos e2, if_pos (by omega)]
          congr 1; omega
        · rw [if_neg e2, h3q]
          by_cases c3 : q < kob a + j
          · rw [if_pos c3, if_pos (by omega)]
          · rw [if_neg c3, if_neg (by omega)]
      · rw [if_neg e, if_neg (by omega), h3q]
        by_cases c3 : q < kob a + j
        · rw [if_pos c3, if_pos (by omega)]
        · rw [if_neg c3, if_neg]
          intro hc
          have : q = kob a + j := by omega
          rw [this, d1] at e
          exact e rfl
  · show (if 16 = a then _ else if 16 = 16 then upd (σ.2 16) (kob a + j) (cv W σ0 (kob a + j)) else σ.2 16) q = _
    rw [if_neg (by omega), if_pos rfl]
    exact h19 q
  · show (sI _ 8 _).1 i = _
    rw [sI_o i8]; exact h5 i i2 i8
  · rw [sA_o (by omega)]
    show (sA σ 16 _).2 i = _
    rw [sA_o i16]; exact h6 i i5 i16
theorem CI_stepI {W : Int32} {σ0 σ : pStt} {i : Nat} (hi : i < 2) (h : CI W σ0 σ i) : CI W σ0 (sI (sI (sA σ 16 (upd (σ.2 16) i (cv W σ0 i))) 8 (nI (i + 1))) i (cv W σ0 i)) (i + 1) := by
  have h19 := CI_16 h
  obtain ⟨h1, h2, h3, h4, h5, h6⟩ := h
  refine ⟨?_, ?_, fun q hq => ?_, h19, fun k k2 k8 => ?_, fun a a5 a16 => ?_⟩
  · rw [sI_o (show 8 ≠ i by omega)]; rfl
  · rw [sI_o (show 9 ≠ i by omega)]; exact h2
  · have h3q := h3 q hq
    by_cases c : q < 2
    · rw [fl2_int _ c] at h3q ⊢
      show (if q = i then _ else if q = 8 then _ else σ.1 q) = _
      by_cases e : q = i
      · rw [if_pos e, if_pos (by omega), e]
      · rw [if_neg e, if_neg (by omega), h3q]
        by_cases c3 : q < i
        · rw [if_pos c3, if_pos (by omega)]
        · rw [if_neg c3, if_neg (by omega)]
    · obtain ⟨q1, q2, q3⟩ := decb2 q hq (by omega)
      rw [fl2_big σ c] at h3q
      refine (fl2_big _ c).trans ?_
      show (if decB q = 16 then _ else σ.2 (decB q)) (q - kob (decB q)) = _
      rw [if_neg (by omega), h3q, if_neg (by omega), if_neg (by omega)]
  · rw [sI_o (show k ≠ i by omega), sI_o k8]; exact h5 k k2 k8
  · show (sA σ 16 _).2 a = _
    rw [sA_o a16]; exact h6 a a5 a16
theorem crow0_loop {W : Int32} {σ0 : pStt} : ∀ (m n j : Nat) (σ : pStt), j + m = 8 → m < n → CI W σ0 σ (kob 0 + j) → ∃ σ', fl_X9_carryRow_a0_2 8 n (nI j) σ = some σ' ∧ CI W σ0 σ' (kob 0 + 8) := by
  intro m
  induction m with
  | zero =>
    intro n j σ hj hn h
    obtain ⟨n, rfl⟩ : ∃ m, n = m + 1 := ⟨n - 1, by omega⟩
    have : j = 8 := by omega
    subst this
    rw [fl_X9_carryRow_a0_2, if_pos (geL (n := 8) (k := 8) (y := 8) rfl (by omega) (by omega))]
    exact ⟨σ, rfl, h⟩
  | succ m ih =>
    intro n j σ hj hn h
    obtain ⟨n, rfl⟩ : ∃ m, n = m + 1 := ⟨n - 1, by omega⟩
    have hd := (decb1 0 (by omega) j (show j < 8 by omega)).2.2
    have hv := CI_v h hd
    rw [fl2_get σ (a := 0) (by omega) (show j < 8 by omega)] at hv
    have hs := CI_stepA (a := 0) (j := j) (by omega) (show j < 8 by omega) h
    rw [fl_X9_carryRow_a0_2, if_neg (ngeL (n := j) (k := 8) (y := 8) rfl (by omega) (by omega)), ldn _ (by omega : j < 8) (by omega), bs, carry_eq h.1 h.2.1 (by omega), bs]
    rw [hv]
    rw [stAn _ 0 _ (by omega : j < 8) (by omega), bs, show nI j + 1 = nI (j + 1) from nI_1 j]
    exact ih n (j + 1) _ (by omega) (by omega) hs
theorem crow0 {W : Int32} {σ0 σ : pStt} (h : CI W σ0 σ (kob 0)) : ∃ σ', f_X9_carryRow_a0 8 σ = some σ' ∧ CI W σ0 σ' (kob 0 + 8) := by
  obtain ⟨σ', e, h'⟩ := crow0_loop 8 2000 0 σ (by omega) (by omega) h
  have e : fl_X9_carryRow_a0_2 8 2000 0 σ = some σ' := e
  refine ⟨σ', ?_, h'⟩
  unfold f_X9_carryRow_a0
  rw [e]; rfl
theorem crow1_loop {W : Int32} {σ0 : pStt} : ∀ (m n j : Nat) (σ : pStt), j + m = 8 → m < n → CI W σ0 σ (kob 1 + j) → ∃ σ', fl_X9_carryRow_a1_2 8 n (nI j) σ = some σ' ∧ CI W σ0 σ' (kob 1 + 8) := by
  intro m
  induction m with
  | zero =>
    intro n j σ hj hn h
    obtain ⟨n, rfl⟩ : ∃ m, n = m + 1 := ⟨n - 1, by omega⟩
    have : j = 8 := by omega
    subst this
    rw [fl_X9_carryRow_a1_2, if_pos (geL (n := 8) (k := 8) (y := 8) rfl (by omega) (by omega))]
    exact ⟨σ, rfl, h⟩
  | succ m ih =>
    intro n j σ hj hn h
    obtain ⟨n, rfl⟩ : ∃ m, n = m + 1 := ⟨n - 1, by omega⟩
    have hd := (decb1 1 (by omega) j (show j < 8 by omega)).2.2
    have hv := CI_v h hd
    rw [fl2_get σ (a := 1) (by omega) (show j < 8 by omega)] at hv
    have hs := CI_stepA (a := 1) (j := j) (by omega) (show j < 8 by omega) h
    rw [fl_X9_carryRow_a1_2, if_neg (ngeL (n := j) (k := 8) (y := 8) rfl (by omega) (by omega)), ldn _ (by omega : j < 8) (by omega), bs, carry_eq h.1 h.2.1 (by omega), bs]
    rw [hv]
    rw [stAn _ 1 _ (by omega : j < 8) (by omega), bs, show nI j + 1 = nI (j + 1) from nI_1 j]
    exact ih n (j + 1) _ (by omega) (by omega) hs
theorem crow1 {W : Int32} {σ0 σ : pStt} (h : CI W σ0 σ (kob 1)) : ∃ σ', f_X9_carryRow_a1 8 σ = some σ' ∧ CI W σ0 σ' (kob 1 + 8) := by
  obtain ⟨σ', e, h'⟩ := crow1_loop 8 2000 0 σ (by omega) (by omega) h
  have e : fl_X9_carryRow_a1_2 8 2000 0 σ = some σ' := e
  refine ⟨σ', ?_, h'⟩
  unfold f_X9_carryRow_a1
  rw [e]; rfl
theorem crow2_loop {W : Int32} {σ0 : pStt} : ∀ (m n j : Nat) (σ : pStt), j + m = 6 → m < n → CI W σ0 σ (kob 2 + j) → ∃ σ', fl_X9_carryRow_a2_2 6 n (nI j) σ = some σ' ∧ CI W σ0 σ' (kob 2 + 6) := by
  intro m
  induction m with
  | zero =>
    intro n j σ hj hn h
    obtain ⟨n, rfl⟩ : ∃ m, n = m + 1 := ⟨n - 1, by omega⟩
    have : j = 6 := by omega
    subst this
    rw [fl_X9_carryRow_a2_2, if_pos (geL (n := 6) (k := 6) (y := 6) rfl (by omega) (by omega))]
    exact ⟨σ, rfl, h⟩
  | succ m ih =>
    intro n j σ hj hn h
    obtain ⟨n, rfl⟩ : ∃ m, n = m + 1 := ⟨n - 1, by omega⟩
    have hd := (decb1 2 (by omega) j (show j < 6 by omega)).2.2
    have hv := CI_v h hd
    rw [fl2_get σ (a := 2) (by omega) (show j < 6 by omega)] at hv
    have hs := CI_stepA (a := 2) (j := j) (by omega) (show j < 6 by omega) h
    rw [fl_X9_carryRow_a2_2, if_neg (ngeL (n := j) (k := 6) (y := 6) rfl (by omega) (by omega)), ldn _ (by omega : j < 6) (by omega), bs, carry_eq h.1 h.2.1 (by omega), bs]
    rw [hv]
    rw [stAn _ 2 _ (by omega : j < 6) (by omega), bs, show nI j + 1 = nI (j + 1) from nI_1 j]
    exact ih n (j + 1) _ (by omega) (by omega) hs
theorem crow2 {W : Int32} {σ0 σ : pStt} (h : CI W σ0 σ (kob 2)) : ∃ σ', f_X9_carryRow_a2 6 σ = some σ' ∧ CI W σ0 σ' (kob 2 + 6) := by
  obtain ⟨σ', e, h'⟩ := crow2_loop 6 2000 0 σ (by omega) (by omega) h
  have e : fl_X9_carryRow_a2_2 6 2000 0 σ = some σ' := e
  refine ⟨σ', ?_, h'⟩
  unfold f_X9_carryRow_a2
  rw [e]; rfl
theorem crow3_loop {W : Int32} {σ0 : pStt} : ∀ (m n j : Nat) (σ : pStt), j + m = 6 → m < n → CI W σ0 σ (kob 3 + j) → ∃ σ', fl_X9_carryRow_a3_2 6 n (nI j) σ = some σ' ∧ CI W σ0 σ' (kob 3 + 6) := by
  intro m
  induction m with
  | zero =>
    intro n j σ hj hn h
    obtain ⟨n, rfl⟩ : ∃ m, n = m + 1 := ⟨n - 1, by omega⟩
    have : j = 6 := by omega
    subst this
    rw [fl_X9_carryRow_a3_2, if_pos (geL (n := 6) (k := 6) (y := 6) rfl (by omega) (by omega))]
    exact ⟨σ, rfl, h⟩
  | succ m ih =>
    intro n j σ hj hn h
    obtain ⟨n, rfl⟩ : ∃ m, n = m + 1 := ⟨n - 1, by omega⟩
    have hd := (decb1 3 (by omega) j (show j < 6 by omega)).2.2
    have hv := CI_v h hd
    rw [fl2_get σ (a := 3) (by omega) (show j < 6 by omega)] at hv
    have hs := CI_stepA (a := 3) (j := j) (by omega) (show j < 6 by omega) h
    rw [fl_X9_carryRow_a3_2, if_neg (ngeL (n := j) (k := 6) (y := 6) rfl (by omega) (by omega)), ldn _ (by omega : j < 6) (by omega), bs, carry_eq h.1 h.2.1 (by omega), bs]
    rw [hv]
    rw [stAn _ 3 _ (by omega : j < 6) (by omega), bs, show nI j + 1 = nI (j + 1) from nI_1 j]
    exact ih n (j + 1) _ (by omega) (by omega) hs
theorem crow3 {W : Int32} {σ0 σ : pStt} (h : CI W σ0 σ (kob 3)) : ∃ σ', f_X9_carryRow_a3 6 σ = some σ' ∧ CI W σ0 σ' (kob 3 + 6) := by
  obtain ⟨σ', e, h'⟩ := crow3_loop 6 2000 0 σ (by omega) (by omega) h
  have e : fl_X9_carryRow_a3_2 6 2000 0 σ = some σ' := e
  refine ⟨σ', ?_, h'⟩
  unfold f_X9_carryRow_a3
  rw [e]; rfl
theorem crow4_loop {W : Int32} {σ0 : pStt} : ∀ (m n j : Nat) (σ : pStt), j + m = 6 → m < n → CI W σ0 σ (kob 4 + j) → ∃ σ', fl_X9_carryRow_a4_2 6 n (nI j) σ = some σ' ∧ CI W σ0 σ' (kob 4 + 6) := by
  intro m
  induction m with
  | zero =>
    intro n j σ hj hn h
    obtain ⟨n, rfl⟩ : ∃ m, n = m + 1 := ⟨n - 1, by omega⟩
    have : j = 6 := by omega
    subst this
    rw [fl_X9_carryRow_a4_2, if_pos (geL (n := 6) (k := 6) (y := 6) rfl (by omega) (by omega))]
    exact ⟨σ, rfl, h⟩
  | succ m ih =>
    intro n j σ hj hn h
    obtain ⟨n, rfl⟩ : ∃ m, n = m + 1 := ⟨n - 1, by omega⟩
    have hd := (decb1 4 (by omega) j (show j < 6 by omega)).2.2
    have hv := CI_v h hd
    rw [fl2_get σ (a := 4) (by omega) (show j < 6 by omega)] at hv
    have hs := CI_stepA (a := 4) (j := j) (by omega) (show j < 6 by omega) h
    rw [fl_X9_carryRow_a4_2, if_neg (ngeL (n := j) (k := 6) (y := 6) rfl (by omega) (by omega)), ldn _ (by omega : j < 6) (by omega), bs, carry_eq h.1 h.2.1 (by omega), bs]
    rw [hv]
    rw [stAn _ 4 _ (by omega : j < 6) (by omega), bs, show nI j + 1 = nI (j + 1) from nI_1 j]
    exact ih n (j + 1) _ (by omega) (by omega) hs
theorem crow4 {W : Int32} {σ0 σ : pStt} (h : CI W σ0 σ (kob 4)) : ∃ σ', f_X9_carryRow_a4 6 σ = some σ' ∧ CI W σ0 σ' (kob 4 + 6) := by
  obtain ⟨σ', e, h'⟩ := crow4_loop 6 2000 0 σ (by omega) (by omega) h
  have e : fl_X9_carryRow_a4_2 6 2000 0 σ = some σ' := e
  refine ⟨σ', ?_, h'⟩
  unfold f_X9_carryRow_a4
  rw [e]; rfl
theorem cint {W : Int32} {σ0 σ : pStt} {i : Nat} (hi : i < 2) (h : CI W σ0 σ i) : ∃ u, f_X9_carry (σ.1 i) σ = some u ∧ CI W σ0 (sI u.2 i u.1) (i + 1) := by
  have hv := CI_v h (by omega)
  rw [fl2_int _ hi] at hv
  have hs := CI_stepI hi h
  refine ⟨_, carry_eq h.1 h.2.1 (by omega) _, ?_⟩
  rw [hv]
  exact hs
theorem carryAll_ex {W : Int32} (hW : asB W = some W) (σ : pStt) : ∃ σ', f_X9_carryAll W σ = some σ' ∧ CI W (sI (sI σ 8 0) 9 W) σ' 36 := by
  have p0 : CI W (sI (sI σ 8 0) 9 W) (sI (sI σ 8 0) 9 W) 0 := ⟨rfl, rfl, fun q _ => by rw [if_neg (by omega)], fun q => by rw [if_neg (by omega)], fun _ _ _ => rfl, fun _ _ _ => rfl⟩
  obtain ⟨u0, e0, p1⟩ := cint (by omega) p0
  obtain ⟨u1, e1, p2⟩ := cint (by omega) p1
  obtain ⟨v0, f0, r0⟩ := crow0 p2
  obtain ⟨v1, f1, r1⟩ := crow1 r0
  obtain ⟨v2, f2, r2⟩ := crow2 r1
  obtain ⟨v3, f3, r3⟩ := crow3 r2
  obtain ⟨v4, f4, r4⟩ := crow4 r3
  refine ⟨v4, ?_, r4⟩
  unfold f_X9_carryAll
  rw [bs, hW, bs, bs, e0, bs, bs, e1, bs, bs, f0, bs, f1, bs, f2, bs, f3, bs, f4, bs]
theorem fl2_s (σ : pStt) (x y : Int32) {q : Nat} (hq : q < 36) : fl2 (sI (sI σ 8 x) 9 y) q = fl2 σ q := by
  by_cases c : q < 2
  · rw [fl2_int _ c, fl2_int _ c, sI_o (by omega), sI_o (by omega)]
  · rw [fl2_big _ c, fl2_big _ c]; rfl
/-- what stays when the world is carried or acts are tried -/
def keep (M M' : pStt) : Prop := (∀ i, 2 ≤ i → i < 5 → M'.1 i = M.1 i) ∧ ∀ a, 5 ≤ a → (a < 13 ∨ 19 ≤ a) → M'.2 a = M.2 a
theorem keep_r (M : pStt) : keep M M := ⟨fun _ _ _ => rfl, fun _ _ _ => rfl⟩
theorem keep_t {M N K : pStt} (h : keep M N) (g : keep N K) : keep M K := ⟨fun i a b => by rw [g.1 i a b, h.1 i a b], fun i a b => by rw [g.2 i a b, h.2 i a b]⟩
theorem save_ex (M : pStt) : ∃ N, f_X9_carryAll 0 M = some N ∧ (∀ q, q < 36 → fl2 N q = fl2 M q) ∧ (∀ q, q < 36 → N.2 16 q = fl2 M q) ∧ keep M N ∧ (∀ i, 2 ≤ i → i ≠ 8 → i ≠ 9 → N.1 i = M.1 i) ∧ ∀ a, 5 ≤ a → a ≠ 16 → N.2 a = M.2 a := by
  obtain ⟨N, e, h1, h2, h3, h4, h5, h6⟩ := carryAll_ex asB0 M
  have hv : ∀ q, q < 36 → cv 0 (sI (sI M 8 0) 9 0) q = fl2 M q := by
    intro q hq
    unfold cv
    rw [if_pos rfl]; exact fl2_s M 0 0 hq
  have k1 : ∀ i, 2 ≤ i → i ≠ 8 → i ≠ 9 → N.1 i = M.1 i := fun i a b c => by rw [h5 i a b, sI_o c, sI_o b]
  refine ⟨N, e, fun q hq => ?_, fun q hq => ?_, ⟨fun i a b => k1 i a (by omega) (by omega), fun a ha hb => h6 a ha (by omega)⟩, k1, h6⟩
  · rw [h3 q hq, if_pos hq]; exact hv q hq
  · rw [h4 q, if_pos hq]; exact hv q hq
theorem back_ex (M : pStt) (x : Int32) : ∃ N, f_X9_back x M = some (x, N) ∧ (∀ q, q < 36 → fl2 N q = M.2 16 q) ∧ keep M N ∧ (∀ i, 2 ≤ i → i ≠ 8 → i ≠ 9 → N.1 i = M.1 i) := by
  obtain ⟨N, e, h1, h2, h3, h4, h5, h6⟩ := carryAll_ex asB1 M
  have k1 : ∀ i, 2 ≤ i → i ≠ 8 → i ≠ 9 → N.1 i = M.1 i := fun i a b c => by rw [h5 i a b, sI_o c, sI_o b]
  refine ⟨N, ?_, fun q hq => ?_, ⟨fun i a b => k1 i a (by omega) (by omega), fun a ha hb => h6 a ha (by omega)⟩, k1⟩
  · unfold f_X9_back
    rw [e]; rfl
  · rw [h3 q hq, if_pos hq]
    unfold cv
    rw [if_neg (by decide)]; rfl
theorem agr_of {M N : pStt} (h : ∀ q, q < 36 → fl2 N q = fl2 M q) (k : keep M N) : agr M N := by
  intro q hq
  by_cases c : q < 4
  · rw [fld_int _ c, fld_int _ c]
    by_cases c2 : q < 2
    · have := h q (by omega)
      rw [fl2_int _ c2, fl2_int _ c2] at this
      exact this
    · exact k.1 q (by omega) (by omega)
  · rw [fld_big _ c, fld_big _ c]
    obtain ⟨q1, q2, q3⟩ := dec2 q hq (by omega)
    by_cases c5 : decA q < 5
    · have hl : ∀ a, a < 5 → lna a = lnb a := by decide
      rw [hl _ c5] at q3
      have := h _ (decb1 (decA q) c5 _ q3).2.2
      rw [fl2_get _ c5 q3, fl2_get _ c5 q3] at this
      exact this
    · rw [k.2 (decA q) (by omega) (by omega)]
theorem IV_keep {c r g d : pStt} {i0 i1 : Option (pStt × pStt × pStt)} {M N : pStt} (h : IV c r g d i0 i1 M) (e : ∀ q, q < 36 → fl2 N q = fl2 M q) (k : keep M N) : IV c r g d i0 i1 N :=
  IV_r h (agr_of e k) (k.1 4 (by omega) (by omega)) (fun j => by rw [k.2 12 (by omega) (by omega)]) (fun j => by rw [k.2 19 (by omega) (by omega)]) (fun j => by rw [k.2 20 (by omega) (by omega)])
