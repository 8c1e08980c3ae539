/-! the kept block: slots -/
def lna (a : Nat) : Nat := [8, 8, 6, 6, 6, 12, 12, 12, 8, 8, 8, 8].getD a 0
def decA (q : Nat) : Nat := if q < 12 then 0 else if q < 20 then 1 else if q < 26 then 2 else if q < 32 then 3 else if q < 38 then 4 else if q < 50 then 5 else if q < 62 then 6 else if q < 74 then 7 else if q < 82 then 8 else if q < 90 then 9 else if q < 98 then 10 else 11
theorem dec1 : ∀ a, a < 12 → ∀ j, j < lna a → decA (koff a + j) = a ∧ 4 ≤ koff a ∧ koff a + j < 106 := by decide +kernel
theorem dec2 : ∀ q, q < 106 → 4 ≤ q → decA q < 12 ∧ koff (decA q) ≤ q ∧ q - koff (decA q) < lna (decA q) := by decide +kernel
def fld (σ : pStt) (q : Nat) : Int32 := if q < 4 then σ.1 q else σ.2 (decA q) (q - koff (decA q))
theorem fld_get (σ : pStt) {a j : Nat} (ha : a < 12) (hj : j < lna a) : fld σ (koff a + j) = σ.2 a j := by
  obtain ⟨h1, h2, h3⟩ := dec1 a ha j hj
  unfold fld
  rw [if_neg (by omega), h1, Nat.add_sub_cancel_left]
theorem fld_int (σ : pStt) {q : Nat} (h : q < 4) : fld σ q = σ.1 q := by unfold fld; rw [if_pos h]
theorem fld_big (σ : pStt) {q : Nat} (h : ¬ q < 4) : fld σ q = σ.2 (decA q) (q - koff (decA q)) := by unfold fld; rw [if_neg h]
theorem sA_o {σ : pStt} {k a : Nat} {f : Nat → Int32} (h : a ≠ k) : (sA σ k f).2 a = σ.2 a := if_neg h
theorem sI_o {σ : pStt} {k i : Nat} {x : Int32} (h : i ≠ k) : (sI σ k x).1 i = σ.1 i := if_neg h
def agr (M M' : pStt) : Prop := ∀ q, q < 106 → fld M' q = fld M q
theorem agr_a {M M' : pStt} (h : agr M M') {a j : Nat} (ha : a < 12) (hj : j < lna a) : M'.2 a j = M.2 a j := by
  rw [← fld_get M' ha hj, ← fld_get M ha hj]
  exact h _ (dec1 a ha j hj).2.2
theorem agr_i {M M' : pStt} (h : agr M M') {i : Nat} (hi : i < 4) : M'.1 i = M.1 i := by
  rw [← fld_int M' hi, ← fld_int M hi]
  exact h _ (by omega)
theorem relC_l {c c' M : pStt} (h : relC c M) (h0 : ∀ j, j < 8 → c'.2 0 j = c.2 0 j) (h1 : ∀ j, j < 8 → c'.2 1 j = c.2 1 j) (h2 : ∀ j, j < 6 → c'.2 2 j = c.2 2 j) (h3 : ∀ j, j < 6 → c'.2 3 j = c.2 3 j) (k0 : c'.1 0 = c.1 0) (k1 : c'.1 1 = c.1 1) (k2 : c'.1 2 = c.1 2) : relC c' M := by
  obtain ⟨a1, a2, a3, a4, ⟨z, z1, z2, z3, z4⟩, a6, a7⟩ := h
  refine ⟨fun j hj => by rw [h0 j hj]; exact a1 j hj, fun j hj => by rw [h1 j hj]; exact a2 j hj, fun j hj => by rw [h2 j hj]; exact a3 j hj, fun j hj => by rw [h3 j hj]; exact a4 j hj, ⟨z, z1, by rw [k0]; exact z2, z3, fun k hk hm => ?_⟩, by rw [k1]; exact a6, by rw [k2]; exact a7⟩
  rw [h2 k hk] at hm
  obtain ⟨b1, b2, b3⟩ := z4 k hk hm
  exact ⟨by rw [h3 k hk]; exact b1, b2, fun j hj => by rw [h1 j hj]; exact b3 j hj⟩
theorem relC_r {c M M' : pStt} (h : relC c M) (g : agr M M') : relC c M' := by
  obtain ⟨a1, a2, a3, a4, ⟨z, z1, z2, z3, z4⟩, a6, a7⟩ := h
  have e0 : ∀ j, j < 8 → M'.2 0 j = M.2 0 j := fun j hj => agr_a g (a := 0) (by omega) hj
  have e1 : ∀ j, j < 8 → M'.2 1 j = M.2 1 j := fun j hj => agr_a g (a := 1) (by omega) hj
  have e2 : ∀ j, j < 6 → M'.2 2 j = M.2 2 j := fun j hj => agr_a g (a := 2) (by omega) hj
  have e3 : ∀ j, j < 6 → M'.2 3 j = M.2 3 j := fun j hj => agr_a g (a := 3) (by omega) hj
  have e4 : ∀ j, j < 6 → M'.2 4 j = M.2 4 j := fun j hj => agr_a g (a := 4) (by omega) hj
  have i0 : M'.1 0 = M.1 0 := agr_i g (by omega)
  have i1 : M'.1 1 = M.1 1 := agr_i g (by omega)
  exact ⟨fun j hj => by rw [e0 j hj]; exact a1 j hj, fun j hj => by rw [e1 j hj]; exact a2 j hj, fun j hj => by rw [e2 j hj]; exact a3 j hj, fun j hj => by rw [e3 j hj]; exact a4 j hj, ⟨z, z1, z2, fun j hj => by rw [e4 j hj]; exact z3 j hj, z4⟩, by rw [i0]; exact a6, by rw [i1]; exact a7⟩
theorem relR_l {r r' M : pStt} (h : relR r M) (h0 : ∀ j, j < 12 → r'.2 0 j = r.2 0 j) (h1 : ∀ j, j < 12 → r'.2 1 j = r.2 1 j) (k0 : r'.1 0 = r.1 0) : relR r' M := by
  obtain ⟨n, hn, a1, a2, a3⟩ := h
  refine ⟨n, hn, by rw [k0]; exact a1, a2, fun e he => ?_⟩
  rw [h0 e (by omega), h1 e (by omega)]
  exact a3 e he
theorem relR_r {r M M' : pStt} (h : relR r M) (g : agr M M') : relR r M' := by
  obtain ⟨n, hn, a1, a2, a3⟩ := h
  refine ⟨n, hn, a1, by rw [agr_i g (i := 2) (by omega)]; exact a2, fun e he => ?_⟩
  have e5 : M'.2 5 e = M.2 5 e := agr_a g (a := 5) (by omega) (show e < 12 by omega)
  have e6 : M'.2 6 e = M.2 6 e := agr_a g (a := 6) (by omega) (show e < 12 by omega)
  have e7 : M'.2 7 e = M.2 7 e := agr_a g (a := 7) (by omega) (show e < 12 by omega)
  rw [e5, e6, e7]
  exact a3 e he
theorem relS_l {r r' M : pStt} (h : relS r M) (h0 : ∀ j, j < 8 → r'.2 0 j = r.2 0 j) (k0 : r'.1 0 = r.1 0) : relS r' M := by
  obtain ⟨n, hn, a1, a2, a3⟩ := h
  refine ⟨n, hn, by rw [k0]; exact a1, a2, fun e he => ?_⟩
  rw [h0 e (by omega)]
  exact a3 e he
theorem relS_r {r M M' : pStt} (h : relS r M) (g : agr M M') : relS r M' := by
  obtain ⟨n, hn, a1, a2, a3⟩ := h
  refine ⟨n, hn, a1, by rw [agr_i g (i := 3) (by omega)]; exact a2, fun e he => ?_⟩
  have e8 : M'.2 8 e = M.2 8 e := agr_a g (a := 8) (by omega) (show e < 8 by omega)
  have e9 : M'.2 9 e = M.2 9 e := agr_a g (a := 9) (by omega) (show e < 8 by omega)
  have e10 : M'.2 10 e = M.2 10 e := agr_a g (a := 10) (by omega) (show e < 8 by omega)
  have e11 : M'.2 11 e = M.2 11 e := agr_a g (a := 11) (by omega) (show e < 8 by omega)
  rw [e8, e9, e10, e11]
  exact a3 e he
theorem relD_r {d M M' : pStt} (h : relD d M) (g : M'.1 4 = M.1 4) (g2 : ∀ j, j < 60 → M'.2 12 j = M.2 12 j) : relD d M' := by
  obtain ⟨n, hn, a1, a2, a3⟩ := h
  refine ⟨n, hn, a1, by rw [g]; exact a2, fun e he => ?_⟩
  rw [g2 e (by omega)]
  exact a3 e he
theorem fld_kv (k : Nat) (M : pStt) {q : Nat} (hq : q < 106) : fld (kv k M) q = M.2 19 (110 * k + q) := by
  unfold fld kv
  by_cases c : q < 4
  · rw [if_pos c]
  · rw [if_neg c]
    obtain ⟨h1, h2, h3⟩ := dec2 q hq (by omega)
    show M.2 19 (110 * k + koff (decA q) + (q - koff (decA q))) = M.2 19 (110 * k + q)
    rw [show 110 * k + koff (decA q) + (q - koff (decA q)) = 110 * k + q by omega]
theorem relI_r {i : Option (pStt × pStt × pStt)} {k : Nat} {M M' : pStt} (h : relI i k M) (g : M'.2 20 k = M.2 20 k) (g2 : ∀ q, q < 106 → M'.2 19 (110 * k + q) = M.2 19 (110 * k + q)) : relI i k M' := by
  cases i with
  | none => show M'.2 20 k = 0; rw [g]; exact h
  | some t =>
    obtain ⟨c, r, s⟩ := t
    obtain ⟨h1, h2, h3, h4⟩ := h
    have ga : agr (kv k M) (kv k M') := fun q hq => by rw [fld_kv k M' hq, fld_kv k M hq]; exact g2 q hq
    exact ⟨by rw [g]; exact h1, relC_r h2 ga, relR_r h3 ga, relS_r h4 ga⟩
/-- only scratch differs -/
theorem IV_r {c r g d : pStt} {i0 i1 : Option (pStt × pStt × pStt)} {M M' : pStt} (h : IV c r g d i0 i1 M) (a : agr M M') (b : M'.1 4 = M.1 4) (b2 : ∀ j, M'.2 12 j = M.2 12 j) (b3 : ∀ j, M'.2 19 j = M.2 19 j) (b4 : ∀ j, M'.2 20 j = M.2 20 j) : IV c r g d i0 i1 M' := by
  obtain ⟨h1, h2, h3, h4, h5, h6⟩ := h
  exact ⟨relC_r h1 a, relR_r h2 a, relS_r h3 a, relD_r h4 b (fun j _ => b2 j), relI_r h5 (b4 0) (fun q _ => b3 _), relI_r h6 (b4 1) (fun q _ => b3 _)⟩
/-- one slot passed -/
def pv (k : Nat) (W : Int32) (σ0 : pStt) (q : Nat) : Int32 := if W = 0 then σ0.2 19 (110 * k + q) else fld σ0 q
def PI (k : Nat) (W : Int32) (σ0 σ : pStt) (p : Nat) : Prop := σ.1 14 = nI (110 * k + p) ∧ σ.1 15 = W ∧ (∀ q, q < 106 → fld σ q = if q < p then pv k W σ0 q else fld σ0 q) ∧ (∀ q, σ.2 19 q = if 110 * k ≤ q ∧ q < 110 * k + p then pv k W σ0 (q - 110 * k) else σ0.2 19 q) ∧ σ.1 4 = σ0.1 4 ∧ (∀ j, σ.2 12 j = σ0.2 12 j) ∧ ∀ j, σ.2 20 j = σ0.2 20 j
theorem pass_eq {σ : pStt} {W : Int32} {b : Nat} (h14 : σ.1 14 = nI b) (h15 : σ.1 15 = W) (hb : b < 220) (x : Int32) : f_X9_pass x σ = some (if W = 0 then σ.2 19 b else x, sI (sA σ 19 (upd (σ.2 19) b (if W = 0 then σ.2 19 b else x))) 14 (nI (b + 1))) := by
  have key : ∀ v : Int32, (stA σ 19 220 (nI b) v).bind (fun σ_2 => (some (sI σ_2 14 (((σ_2.1 14) + (1 : Int32))))).bind (fun σ_3 => some (v, σ_3))) = some (v, sI (sA σ 19 (upd (σ.2 19) b v)) 14 (nI (b + 1))) := by
    intro v
    rw [stAn σ 19 v hb (by omega), bs, bs]
    show some (v, sI _ 14 (σ.1 14 + 1)) = _
    rw [h14, show nI b + (1 : Int32) = nI (b + 1) from nI_1 b]
  unfold f_X9_pass
  rw [h14, h15]
  by_cases c : W = 0
  · rw [if_pos c, if_pos c, ldn _ hb (by omega), bs, bs]; exact key _
  · rw [if_neg c, if_neg c, bs]; exact key _
theorem PI_v {k : Nat} {W : Int32} {σ0 σ : pStt} {p : Nat} (h : PI k W σ0 σ p) (hp : p < 106) : (if W = 0 then σ.2 19 (110 * k + p) else fld σ p) = pv k W σ0 p := by
  obtain ⟨h1, h2, h3, h4, h5⟩ := h
  unfold pv
  have a1 := h4 (110 * k + p)
  rw [if_neg (by omega)] at a1
  have a2 := h3 p hp
  rw [if_neg (by omega)] at a2
  rw [a1, a2]
theorem PI_19 {k : Nat} {W : Int32} {σ0 σ : pStt} {p : Nat} (h : PI k W σ0 σ p) (hp : p < 106) : ∀ q, upd (σ.2 19) (110 * k + p) (pv k W σ0 p) q = if 110 * k ≤ q ∧ q < 110 * k + (p + 1) then pv k W σ0 (q - 110 * k) else σ0.2 19 q := by
  intro q
  unfold upd
  by_cases e : q = 110 * k + p
  · rw [if_pos e, if_pos (by omega), e, Nat.add_sub_cancel_left]
  · rw [if_neg e, h.2.2.2.1 q]
    by_cases c : 110 * k ≤ q ∧ q < 110 * k + p
    · rw [if_pos c, if_pos (by omega)]
    · rw [if_neg c, if_neg (by omega)]
theorem PI_stepA {k : Nat} {W : Int32} {σ0 σ : pStt} {a j : Nat} (ha : a < 12) (hj : j < lna a) (h : PI k W σ0 σ (koff a + j)) : PI k W σ0 (sA (sI (sA σ 19 (upd (σ.2 19) (110 * k + (koff a + j)) (pv k W σ0 (koff a + j)))) 14 (nI (110 * k + (koff a + j) + 1))) a (upd (σ.2 a) j (pv k W σ0 (koff a + j)))) (koff a + j + 1) := by
  obtain ⟨d1, d2, d3⟩ := dec1 a ha j hj
  have h19 := PI_19 h d3
  obtain ⟨h1, h2, h3, h4, h5, h6, h7⟩ := h
  have ne : ∀ n, 12 ≤ n → (n = a) = False := fun n hn => by simp; omega
  refine ⟨rfl, h2, fun q hq => ?_, fun q => ?_, h5, fun i => ?_, fun i => ?_⟩
  · have h3q := h3 q hq
    by_cases c : q < 4
    · rw [fld_int _ c] at h3q ⊢
      rw [if_pos (by omega)] at h3q
      rw [if_pos (by omega)]
      show (if q = 14 then _ else σ.1 q) = _
      rw [if_neg (by omega)]; exact h3q
    · obtain ⟨q1, q2, q3⟩ := dec2 q hq (by omega)
      rw [fld_big σ c] at h3q
      refine (fld_big _ c).trans ?_
      show (if decA q = a then upd (σ.2 a) j (pv k W σ0 (koff a + j)) else if decA q = 19 then _ else σ.2 (decA q)) (q - koff (decA q)) = _
      by_cases e : decA q = a
      · rw [if_pos e]
        unfold upd
        rw [e] at q2 q3 h3q ⊢
        have e5 : pv k W σ0 q = pv k W σ0 q := rfl
        by_cases e2 : q - koff a = j
        · rw [if_pos e2, if_pos (by omega)]
          congr 1; omega
        · rw [if_neg e2, h3q]
          by_cases c3 : q < koff a + j
          · rw [if_pos c3, if_pos (by omega)]
          · rw [if_neg c3, if_neg (by omega)]
      · rw [if_neg e, if_neg (by omega), h3q]
        by_cases c3 : q < koff a + j
        · rw [if_pos c3, if_pos (by omega)]
        · rw [if_neg c3, if_neg]
          intro hc
          have : q = koff a + j := by omega
          rw [this, d1] at e
          exact e rfl
  · show (if 19 = a then _ else if 19 = 19 then upd (σ.2 19) (110 * k + (koff a + j)) (pv k W σ0 (koff a + j)) else σ.2 19) q = _
    rw [if_neg (by omega), if_pos rfl]
    exact h19 q
  · rw [sA_o (show 12 ≠ a by omega)]; exact h6 i
  · rw [sA_o (show 20 ≠ a by omega)]; exact h7 i
theorem PI_stepI {k : Nat} {W : Int32} {σ0 σ : pStt} {i : Nat} (hi : i < 4) (h : PI k W σ0 σ i) : PI k W σ0 (sI (sI (sA σ 19 (upd (σ.2 19) (110 * k + i) (pv k W σ0 i))) 14 (nI (110 * k + i + 1))) i (pv k W σ0 i)) (i + 1) := by
  have h19 := PI_19 h (by omega)
  obtain ⟨h1, h2, h3, h4, h5, h6, h7⟩ := h
  refine ⟨?_, ?_, fun q hq => ?_, fun q => ?_, ?_, h6, h7⟩
  · show (if 14 = i then pv k W σ0 i else if 14 = 14 then nI (110 * k + i + 1) else σ.1 14) = _
    rw [if_neg (by omega), if_pos rfl]; rfl
  · rw [sI_o (show 15 ≠ i by omega)]; exact h2
  · have h3q := h3 q hq
    by_cases c : q < 4
    · rw [fld_int _ c] at h3q ⊢
      show (if q = i then _ else if q = 14 then _ else σ.1 q) = _
      by_cases e : q = i
      · rw [if_pos e, if_pos (by omega), e]
      · rw [if_neg e, if_neg (by omega), h3q]
        by_cases c3 : q < i
        · rw [if_pos c3, if_pos (by omega)]
        · rw [if_neg c3, if_neg (by omega)]
    · obtain ⟨q1, q2, q3⟩ := dec2 q hq (by omega)
      rw [fld_big σ c] at h3q
      refine (fld_big _ c).trans ?_
      show (if decA q = 19 then _ else σ.2 (decA q)) (q - koff (decA q)) = _
      rw [if_neg (by omega), h3q, if_neg (by omega), if_neg (by omega)]
  · exact h19 q
  · rw [sI_o (show 4 ≠ i by omega)]; exact h5
theorem prow0_loop {k : Nat} (hk : k < 2) {W : Int32} {σ0 : pStt} : ∀ (m n j : Nat) (σ : pStt), j + m = 8 → m < n → PI k W σ0 σ (koff 0 + j) → ∃ σ', fl_X9_passRow_a0_2 8 n (nI j) σ = some σ' ∧ PI k W σ0 σ' (koff 0 + 8) := by
  intro m
  induction m with
  | zero =>
    intro n j σ hj hn h
    obtain ⟨n, rfl⟩ : ∃ m, n = m + 1 := ⟨n - 1, by omega⟩
    have : j = 8 := by omega
    subst this
    rw [fl_X9_passRow_a0_2, if_pos (geL (n := 8) (k := 8) (y := 8) rfl (by omega) (by omega))]
    exact ⟨σ, rfl, h⟩
  | succ m ih =>
    intro n j σ hj hn h
    obtain ⟨n, rfl⟩ : ∃ m, n = m + 1 := ⟨n - 1, by omega⟩
    have hd := (dec1 0 (by omega) j (show j < 8 by omega)).2.2
    have hv := PI_v h hd
    rw [fld_get σ (a := 0) (by omega) (show j < 8 by omega)] at hv
    have hs := PI_stepA (a := 0) (j := j) (by omega) (show j < 8 by omega) h
    rw [fl_X9_passRow_a0_2, if_neg (ngeL (n := j) (k := 8) (y := 8) rfl (by omega) (by omega)), ldn _ (by omega : j < 8) (by omega), bs, pass_eq h.1 h.2.1 (by omega), bs]
    rw [hv]
    rw [stAn _ 0 _ (by omega : j < 8) (by omega), bs, show nI j + 1 = nI (j + 1) from nI_1 j]
    exact ih n (j + 1) _ (by omega) (by omega) hs
theorem prow0 {k : Nat} (hk : k < 2) {W : Int32} {σ0 σ : pStt} (h : PI k W σ0 σ (koff 0)) : ∃ σ', f_X9_passRow_a0 8 σ = some σ' ∧ PI k W σ0 σ' (koff 0 + 8) := by
  obtain ⟨σ', e, h'⟩ := prow0_loop hk 8 2000 0 σ (by omega) (by omega) h
  have e : fl_X9_passRow_a0_2 8 2000 0 σ = some σ' := e
  refine ⟨σ', ?_, h'⟩
  unfold f_X9_passRow_a0
  rw [e]; rfl
theorem prow1_loop {k : Nat} (hk : k < 2) {W : Int32} {σ0 : pStt} : ∀ (m n j : Nat) (σ : pStt), j + m = 8 → m < n → PI k W σ0 σ (koff 1 + j) → ∃ σ', fl_X9_passRow_a1_2 8 n (nI j) σ = some σ' ∧ PI k W σ0 σ' (koff 1 + 8) := by
  intro m
  induction m with
  | zero =>
    intro n j σ hj hn h
    obtain ⟨n, rfl⟩ : ∃ m, n = m + 1 := ⟨n - 1, by omega⟩
    have : j = 8 := by omega
    subst this
    rw [fl_X9_passRow_a1_2, if_pos (geL (n := 8) (k := 8) (y := 8) rfl (by omega) (by omega))]
    exact ⟨σ, rfl, h⟩
  | succ m ih =>
    intro n j σ hj hn h
    obtain ⟨n, rfl⟩ : ∃ m, n = m + 1 := ⟨n - 1, by omega⟩
    have hd := (dec1 1 (by omega) j (show j < 8 by omega)).2.2
    have hv := PI_v h hd
    rw [fld_get σ (a := 1) (by omega) (show j < 8 by omega)] at hv
    have hs := PI_stepA (a := 1) (j := j) (by omega) (show j < 8 by omega) h
    rw [fl_X9_passRow_a1_2, if_neg (ngeL (n := j) (k := 8) (y := 8) rfl (by omega) (by omega)), ldn _ (by omega : j < 8) (by omega), bs, pass_eq h.1 h.2.1 (by omega), bs]
    rw [hv]
    rw [stAn _ 1 _ (by omega : j < 8) (by omega), bs, show nI j + 1 = nI (j + 1) from nI_1 j]
    exact ih n (j + 1) _ (by omega) (by omega) hs
theorem prow1 {k : Nat} (hk : k < 2) {W : Int32} {σ0 σ : pStt} (h : PI k W σ0 σ (koff 1)) : ∃ σ', f_X9_passRow_a1 8 σ = some σ' ∧ PI k W σ0 σ' (koff 1 + 8) := by
  obtain ⟨σ', e, h'⟩ := prow1_loop hk 8 2000 0 σ (by omega) (by omega) h
  have e : fl_X9_passRow_a1_2 8 2000 0 σ = some σ' := e
  refine ⟨σ', ?_, h'⟩
  unfold f_X9_passRow_a1
  rw [e]; rfl
theorem prow2_loop {k : Nat} (hk : k < 2) {W : Int32} {σ0 : pStt} : ∀ (m n j : Nat) (σ : pStt), j + m = 6 → m < n → PI k W σ0 σ (koff 2 + j) → ∃ σ', fl_X9_passRow_a2_2 6 n (nI j) σ = some σ' ∧ PI k W σ0 σ' (koff 2 + 6) := by
  intro m
  induction m with
  | zero =>
    intro n j σ hj hn h
    obtain ⟨n, rfl⟩ : ∃ m, n = m + 1 := ⟨n - 1, by omega⟩
    have : j = 6 := by omega
    subst this
    rw [fl_X9_passRow_a2_2, if_pos (geL (n := 6) (k := 6) (y := 6) rfl (by omega) (by omega))]
    exact ⟨σ, rfl, h⟩
  | succ m ih =>
    intro n j σ hj hn h
    obtain ⟨n, rfl⟩ : ∃ m, n = m + 1 := ⟨n - 1, by omega⟩
    have hd := (dec1 2 (by omega) j (show j < 6 by omega)).2.2
    have hv := PI_v h hd
    rw [fld_get σ (a := 2) (by omega) (show j < 6 by omega)] at hv
    have hs := PI_stepA (a := 2) (j := j) (by omega) (show j < 6 by omega) h
    rw [fl_X9_passRow_a2_2, if_neg (ngeL (n := j) (k := 6) (y := 6) rfl (by omega) (by omega)), ldn _ (by omega : j < 6) (by omega), bs, pass_eq h.1 h.2.1 (by omega), bs]
    rw [hv]
    rw [stAn _ 2 _ (by omega : j < 6) (by omega), bs, show nI j + 1 = nI (j + 1) from nI_1 j]
    exact ih n (j + 1) _ (by omega) (by omega) hs
theorem prow2 {k : Nat} (hk : k < 2) {W : Int32} {σ0 σ : pStt} (h : PI k W σ0 σ (koff 2)) : ∃ σ', f_X9_passRow_a2 6 σ = some σ' ∧ PI k W σ0 σ' (koff 2 + 6) := by
  obtain ⟨σ', e, h'⟩ := prow2_loop hk 6 2000 0 σ (by omega) (by omega) h
  have e : fl_X9_passRow_a2_2 6 2000 0 σ = some σ' := e
  refine ⟨σ', ?_, h'⟩
  unfold f_X9_passRow_a2
  rw [e]; rfl
theorem prow3_loop {k : Nat} (hk : k < 2) {W : Int32} {σ0 : pStt} : ∀ (m n j : Nat) (σ : pStt), j + m = 6 → m < n → PI k W σ0 σ (koff 3 + j) → ∃ σ', fl_X9_passRow_a3_2 6 n (nI j) σ = some σ' ∧ PI k W σ0 σ' (koff 3 + 6) := by
  intro m
  induction m with
  | zero =>
    intro n j σ hj hn h
    obtain ⟨n, rfl⟩ : ∃ m, n = m + 1 := ⟨n - 1, by omega⟩
    have : j = 6 := by omega
    subst this
    rw [fl_X9_passRow_a3_2, if_pos (geL (n := 6) (k := 6) (y := 6) rfl (by omega) (by omega))]
    exact ⟨σ, rfl, h⟩
  | succ m ih =>
    intro n j σ hj hn h
    obtain ⟨n, rfl⟩ : ∃ m, n = m + 1 := ⟨n - 1, by omega⟩
    have hd := (dec1 3 (by omega) j (show j < 6 by omega)).2.2
    have hv := PI_v h hd
    rw [fld_get σ (a := 3) (by omega) (show j < 6 by omega)] at hv
    have hs := PI_stepA (a := 3) (j := j) (by omega) (show j < 6 by omega) h
    rw [fl_X9_passRow_a3_2, if_neg (ngeL (n := j) (k := 6) (y := 6) rfl (by omega) (by omega)), ldn _ (by omega : j < 6) (by omega), bs, pass_eq h.1 h.2.1 (by omega), bs]
    rw [hv]
    rw [stAn _ 3 _ (by omega : j < 6) (by omega), bs, show nI j + 1 = nI (j + 1) from nI_1 j]
    exact ih n (j + 1) _ (by omega) (by omega) hs
theorem prow3 {k : Nat} (hk : k < 2) {W : Int32} {σ0 σ : pStt} (h : PI k W σ0 σ (koff 3)) : ∃ σ', f_X9_passRow_a3 6 σ = some σ' ∧ PI k W σ0 σ' (koff 3 + 6) := by
  obtain ⟨σ', e, h'⟩ := prow3_loop hk 6 2000 0 σ (by omega) (by omega) h
  have e : fl_X9_passRow_a3_2 6 2000 0 σ = some σ' := e
  refine ⟨σ', ?_, h'⟩
  unfold f_X9_passRow_a3
  rw [e]; rfl
theorem prow4_loop {k : Nat} (hk : k < 2) {W : Int32} {σ0 : pStt} : ∀ (m n j : Nat) (σ : pStt), j + m = 6 → m < n → PI k W σ0 σ (koff 4 + j) → ∃ σ', fl_X9_passRow_a4_2 6 n (nI j) σ = some σ' ∧ PI k W σ0 σ' (koff 4 + 6) := by
  intro m
  induction m with
  | zero =>
    intro n j σ hj hn h
    obtain ⟨n, rfl⟩ : ∃ m, n = m + 1 := ⟨n - 1, by omega⟩
    have : j = 6 := by omega
    subst this
    rw [fl_X9_passRow_a4_2, if_pos (geL (n := 6) (k := 6) (y := 6) rfl (by omega) (by omega))]
    exact ⟨σ, rfl, h⟩
  | succ m ih =>
    intro n j σ hj hn h
    obtain ⟨n, rfl⟩ : ∃ m, n = m + 1 := ⟨n - 1, by omega⟩
    have hd := (dec1 4 (by omega) j (show j < 6 by omega)).2.2
    have hv := PI_v h hd
    rw [fld_get σ (a := 4) (by omega) (show j < 6 by omega)] at hv
    have hs := PI_stepA (a := 4) (j := j) (by omega) (show j < 6 by omega) h
    rw [fl_X9_passRow_a4_2, if_neg (ngeL (n := j) (k := 6) (y := 6) rfl (by omega) (by omega)), ldn _ (by omega : j < 6) (by omega), bs, pass_eq h.1 h.2.1 (by omega), bs]
    rw [hv]
    rw [stAn _ 4 _ (by omega : j < 6) (by omega), bs, show nI j + 1 = nI (j + 1) from nI_1 j]
    exact ih n (j + 1) _ (by omega) (by omega) hs
theorem prow4 {k : Nat} (hk : k < 2) {W : Int32} {σ0 σ : pStt} (h : PI k W σ0 σ (koff 4)) : ∃ σ', f_X9_passRow_a4 6 σ = some σ' ∧ PI k W σ0 σ' (koff 4 + 6) := by
  obtain ⟨σ', e, h'⟩ := prow4_loop hk 6 2000 0 σ (by omega) (by omega) h
  have e : fl_X9_passRow_a4_2 6 2000 0 σ = some σ' := e
  refine ⟨σ', ?_, h'⟩
  unfold f_X9_passRow_a4
  rw [e]; rfl
theorem prow5_loop {k : Nat} (hk : k < 2) {W : Int32} {σ0 : pStt} : ∀ (m n j : Nat) (σ : pStt), j + m = 12 → m < n → PI k W σ0 σ (koff 5 + j) → ∃ σ', fl_X9_passRow_a5_2 12 n (nI j) σ = some σ' ∧ PI k W σ0 σ' (koff 5 + 12) := by
  intro m
  induction m with
  | zero =>
    intro n j σ hj hn h
    obtain ⟨n, rfl⟩ : ∃ m, n = m + 1 := ⟨n - 1, by omega⟩
    have : j = 12 := by omega
    subst this
    rw [fl_X9_passRow_a5_2, if_pos (geL (n := 12) (k := 12) (y := 12) rfl (by omega) (by omega))]
    exact ⟨σ, rfl, h⟩
  | succ m ih =>
    intro n j σ hj hn h
    obtain ⟨n, rfl⟩ : ∃ m, n = m + 1 := ⟨n - 1, by omega⟩
    have hd := (dec1 5 (by omega) j (show j < 12 by omega)).2.2
    have hv := PI_v h hd
    rw [fld_get σ (a := 5) (by omega) (show j < 12 by omega)] at hv
    have hs := PI_stepA (a := 5) (j := j) (by omega) (show j < 12 by omega) h
    rw [fl_X9_passRow_a5_2, if_neg (ngeL (n := j) (k := 12) (y := 12) rfl (by omega) (by omega)), ldn _ (by omega : j < 12) (by omega), bs, pass_eq h.1 h.2.1 (by omega), bs]
    rw [hv]
    rw [stAn _ 5 _ (by omega : j < 12) (by omega), bs, show nI j + 1 = nI (j + 1) from nI_1 j]
    exact ih n (j + 1) _ (by omega) (by omega) hs
theorem prow5 {k : Nat} (hk : k < 2) {W : Int32} {σ0 σ : pStt} (h : PI k W σ0 σ (koff 5)) : ∃ σ', f_X9_passRow_a5 12 σ = some σ' ∧ PI k W σ0 σ' (koff 5 + 12) := by
  obtain ⟨σ', e, h'⟩ := prow5_loop hk 12 2000 0 σ (by omega) (by omega) h
  have e : fl_X9_passRow_a5_2 12 2000 0 σ = some σ' := e
  refine ⟨σ', ?_, h'⟩
  unfold f_X9_passRow_a5
  rw [e]; rfl
theorem prow6_loop {k : Nat} (hk : k < 2) {W : Int32} {σ0 : pStt} : ∀ (m n j : Nat) (σ : pStt), j + m = 12 → m < n → PI k W σ0 σ (koff 6 + j) → ∃ σ', fl_X9_passRow_a6_2 12 n (nI j) σ = some σ' ∧ PI k W σ0 σ' (koff 6 + 12) := by
  intro m
  induction m with
  | zero =>
    intro n j σ hj hn h
    obtain ⟨n, rfl⟩ : ∃ m, n = m + 1 := ⟨n - 1, by omega⟩
    have : j = 12 := by omega
    subst this
    rw [fl_X9_passRow_a6_2, if_pos (geL (n := 12) (k := 12) (y := 12) rfl (by omega) (by omega))]
    exact ⟨σ, rfl, h⟩
  | succ m ih =>
    intro n j σ hj hn h
    obtain ⟨n, rfl⟩ : ∃ m, n = m + 1 := ⟨n - 1, by omega⟩
    have hd := (dec1 6 (by omega) j (show j < 12 by omega)).2.2
    have hv := PI_v h hd
    rw [fld_get σ (a := 6) (by omega) (show j < 12 by omega)] at hv
    have hs := PI_stepA (a := 6) (j := j) (by omega) (show j < 12 by omega) h
    rw [fl_X9_passRow_a6_2, if_neg (ngeL (n := j) (k := 12) (y := 12) rfl (by omega) (by omega)), ldn _ (by omega : j < 12) (by omega), bs, pass_eq h.1 h.2.1 (by omega), bs]
    rw [hv]
    rw [stAn _ 6 _ (by omega : j < 12) (by omega), bs, show nI j + 1 = nI (j + 1) from nI_1 j]
    exact ih n (j + 1) _ (by omega) (by omega) hs
theorem prow6 {k : Nat} (hk : k < 2) {W : Int32} {σ0 σ : pStt} (h : PI k W σ0 σ (koff 6)) : ∃ σ', f_X9_passRow_a6 12 σ = some σ' ∧ PI k W σ0 σ' (koff 6 + 12) := by
  obtain ⟨σ', e, h'⟩ := prow6_loop hk 12 2000 0 σ (by omega) (by omega) h
  have e : fl_X9_passRow_a6_2 12 2000 0 σ = some σ' := e
  refine ⟨σ', ?_, h'⟩
  unfold f_X9_passRow_a6
  rw [e]; rfl
theorem prow7_loop {k : Nat} (hk : k < 2) {W : Int32} {σ0 : pStt} : ∀ (m n j : Nat) (σ : pStt), j + m = 12 → m < n → PI k W σ0 σ (koff 7 + j) → ∃ σ', fl_X9_passRow_a7_2 12 n (nI j) σ = some σ' ∧ PI k W σ0 σ' (koff 7 + 12) := by
  intro m
  induction m with
  | zero =>
    intro n j σ hj hn h
    obtain ⟨n, rfl⟩ : ∃ m, n = m + 1 := ⟨n - 1, by omega⟩
    have : j = 12 := by omega
    subst this
    rw [fl_X9_passRow_a7_2, if_pos (geL (n := 12) (k := 12) (y := 12) rfl (by omega) (by omega))]
    exact ⟨σ, rfl, h⟩
  | succ m ih =>
    intro n j σ hj hn h
    obtain ⟨n, rfl⟩ : ∃ m, n = m + 1 := ⟨n - 1, by omega⟩
    have hd := (dec1 7 (by omega) j (show j < 12 by omega)).2.2
    have hv := PI_v h hd
    rw [fld_get σ (a := 7) (by omega) (show j < 12 by omega)] at hv
    have hs := PI_stepA (a := 7) (j := j) (by omega) (show j < 12 by omega) h
    rw [fl_X9_passRow_a7_2, if_neg (ngeL (n := j) (k := 12) (y := 12) rfl (by omega) (by omega)), ldn _ (by omega : j < 12) (by omega), bs, pass_eq h.1 h.2.1 (by omega), bs]
    rw [hv]
    rw [stAn _ 7 _ (by omega : j < 12) (by omega), bs, show nI j + 1 = nI (j + 1) from nI_1 j]
    exact ih n (j + 1) _ (by omega) (by omega) hs
theorem prow7 {k : Nat} (hk : k < 2) {W : Int32} {σ0 σ : pStt} (h : PI k W σ0 σ (koff 7)) : ∃ σ', f_X9_passRow_a7 12 σ = some σ' ∧ PI k W σ0 σ' (koff 7 + 12) := by
  obtain ⟨σ', e, h'⟩ := prow7_loop hk 12 2000 0 σ (by omega) (by omega) h
  have e : fl_X9_passRow_a7_2 12 2000 0 σ = some σ' := e
  refine ⟨σ', ?_, h'⟩
  unfold f_X9_passRow_a7
  rw [e]; rfl
theorem prow8_loop {k : Nat} (hk : k < 2) {W : Int32} {σ0 : pStt} : ∀ (m n j : Nat) (σ : pStt), j + m = 8 → m < n → PI k W σ0 σ (koff 8 + j) → ∃ σ', fl_X9_passRow_a8_2 8 n (nI j) σ = some σ' ∧ PI k W σ0 σ' (koff 8 + 8) := by
  intro m
  induction m with
  | zero =>
    intro n j σ hj hn h
    obtain ⟨n, rfl⟩ : ∃ m, n = m + 1 := ⟨n - 1, by omega⟩
    have : j = 8 := by omega
    subst this
    rw [fl_X9_passRow_a8_2, if_pos (geL (n := 8) (k := 8) (y := 8) rfl (by omega) (by omega))]
    exact ⟨σ, rfl, h⟩
  | succ m ih =>
    intro n j σ hj hn h
    obtain ⟨n, rfl⟩ : ∃ m, n = m + 1 := ⟨n - 1, by omega⟩
    have hd := (dec1 8 (by omega) j (show j < 8 by omega)).2.2
    have hv := PI_v h hd
    rw [fld_get σ (a := 8) (by omega) (show j < 8 by omega)] at hv
    have hs := PI_stepA (a := 8) (j := j) (by omega) (show j < 8 by omega) h
    rw [fl_X9_passRow_a8_2, if_neg (ngeL (n := j) (k := 8) (y := 8) rfl (by omega) (by omega)), ldn _ (by omega : j < 8) (by omega), bs, pass_eq h.1 h.2.1 (by omega), bs]
    rw [hv]
    rw [stAn _ 8 _ (by omega : j < 8) (by omega), bs, show nI j + 1 = nI (j + 1) from nI_1 j]
    exact ih n (j + 1) _ (by omega) (by omega) hs
theorem prow8 {k : Nat} (hk : k < 2) {W : Int32} {σ0 σ : pStt} (h : PI k W σ0 σ (koff 8)) : ∃ σ', f_X9_passRow_a8 8 σ = some σ' ∧ PI k W σ0 σ' (koff 8 + 8) := by
  obtain ⟨σ', e, h'⟩ := prow8_loop hk 8 2000 0 σ (by omega) (by omega) h
  have e : fl_X9_passRow_a8_2 8 2000 0 σ = some σ' := e
  refine ⟨σ', ?_, h'⟩
  unfold f_X9_passRow_a8
  rw [e]; rfl
theorem prow9_loop {k : Nat} (hk : k < 2) {W : Int32} {σ0 : pStt} : ∀ (m n j : Nat) (σ : pStt), j + m = 8 → m < n → PI k W σ0 σ (koff 9 + j) → ∃ σ', fl_X9_passRow_a9_2 8 n (nI j) σ = some σ' ∧ PI k W σ0 σ' (koff 9 + 8) := by
  intro m
  induction m with
  | zero =>
    intro n j σ hj hn h
    obtain ⟨n, rfl⟩ : ∃ m, n = m + 1 := ⟨n - 1, by omega⟩
    have : j = 8 := by omega
    subst this
    rw [fl_X9_passRow_a9_2, if_pos (geL (n := 8) (k := 8) (y := 8) rfl (by omega) (by omega))]
    exact ⟨σ, rfl, h⟩
  | succ m ih =>
    intro n j σ hj hn h
    obtain ⟨n, rfl⟩ : ∃ m, n = m + 1 := ⟨n - 1, by omega⟩
    have hd := (dec1 9 (by omega) j (show j < 8 by omega)).2.2
    have hv := PI_v h hd
    rw [fld_get σ (a := 9) (by omega) (show j < 8 by omega)] at hv
    have hs := PI_stepA (a := 9) (j := j) (by omega) (show j < 8 by omega) h
    rw [fl_X9_passRow_a9_2, if_neg (ngeL (n := j) (k := 8) (y := 8) rfl (by omega) (by omega)), ldn _ (by omega : j < 8) (by omega), bs, pass_eq h.1 h.2.1 (by omega), bs]
    rw [hv]
    rw [stAn _ 9 _ (by omega : j < 8) (by omega), bs, show nI j + 1 = nI (j + 1) from nI_1 j]
    exact ih n (j + 1) _ (by omega) (by omega) hs
theorem prow9 {k : Nat} (hk : k < 2) {W : Int32} {σ0 σ : pStt} (h : PI k W σ0 σ (koff 9)) : ∃ σ', f_X9_passRow_a9 8 σ = some σ' ∧ PI k W σ0 σ' (koff 9 + 8) := by
  obtain ⟨σ', e, h'⟩ := prow9_loop hk 8 2000 0 σ (by omega) (by omega) h
  have e : fl_X9_passRow_a9_2 8 2000 0 σ = some σ' := e
  refine ⟨σ', ?_, h'⟩
  unfold f_X9_passRow_a9
  rw [e]; rfl
theorem prow10_loop {k : Nat} (hk : k < 2) {W : Int32} {σ0 : pStt} : ∀ (m n j : Nat) (σ : pStt), j + m = 8 → m < n → PI k W σ0 σ (koff 10 + j) → ∃ σ', fl_X9_passRow_a10_2 8 n (nI j) σ = some σ' ∧ PI k W σ0 σ' (koff 10 + 8) := by
  intro m
  induction m with
  | zero =>
    intro n j σ hj hn h
    obtain ⟨n, rfl⟩ : ∃ m, n = m + 1 := ⟨n - 1, by omega⟩
    have : j = 8 := by omega
    subst this
    rw [fl_X9_passRow_a10_2, if_pos (geL (n := 8) (k := 8) (y := 8) rfl (by omega) (by omega))]
    exact ⟨σ, rfl, h⟩
  | succ m ih =>
    intro n j σ hj hn h
    obtain ⟨n, rfl⟩ : ∃ m, n = m + 1 := ⟨n - 1, by omega⟩
    have hd := (dec1 10 (by omega) j (show j < 8 by omega)).2.2
    have hv := PI_v h hd
    rw [fld_get σ (a := 10) (by omega) (show j < 8 by omega)] at hv
    have hs := PI_stepA (a := 10) (j := j) (by omega) (show j < 8 by omega) h
    rw [fl_X9_passRow_a10_2, if_neg (ngeL (n := j) (k := 8) (y := 8) rfl (by omega) (by omega)), ldn _ (by omega : j < 8) (by omega), bs, pass_eq h.1 h.2.1 (by omega), bs]
    rw [hv]
    rw [stAn _ 10 _ (by omega : j < 8) (by omega), bs, show nI j + 1 = nI (j + 1) from nI_1 j]
    exact ih n (j + 1) _ (by omega) (by omega) hs
theorem prow10 {k : Nat} (hk : k < 2) {W : Int32} {σ0 σ : pStt} (h : PI k W σ0 σ (koff 10)) : ∃ σ', f_X9_passRow_a10 8 σ = some σ' ∧ PI k W σ0 σ' (koff 10 + 8) := by
  obtain ⟨σ', e, h'⟩ := prow10_loop hk 8 2000 0 σ (by omega) (by omega) h
  have e : fl_X9_passRow_a10_2 8 2000 0 σ = some σ' := e
  refine ⟨σ', ?_, h'⟩
  unfold f_X9_passRow_a10
  rw [e]; rfl
theorem prow11_loop {k : Nat} (hk : k < 2) {W : Int32} {σ0 : pStt} : ∀ (m n j : Nat) (σ : pStt), j + m = 8 → m < n → PI k W σ0 σ (koff 11 + j) → ∃ σ', fl_X9_passRow_a11_2 8 n (nI j) σ = some σ' ∧ PI k W σ0 σ' (koff 11 + 8) := by
  intro m
  induction m with
  | zero =>
    intro n j σ hj hn h
    obtain ⟨n, rfl⟩ : ∃ m, n = m + 1 := ⟨n - 1, by omega⟩
    have : j = 8 := by omega
    subst this
    rw [fl_X9_passRow_a11_2, if_pos (geL (n := 8) (k := 8) (y := 8) rfl (by omega) (by omega))]
    exact ⟨σ, rfl, h⟩
  | succ m ih =>
    intro n j σ hj hn h
    obtain ⟨n, rfl⟩ : ∃ m, n = m + 1 := ⟨n - 1, by omega⟩
    have hd := (dec1 11 (by omega) j (show j < 8 by omega)).2.2
    have hv := PI_v h hd
    rw [fld_get σ (a := 11) (by omega) (show j < 8 by omega)] at hv
    have hs := PI_stepA (a := 11) (j := j) (by omega) (show j < 8 by omega) h
    rw [fl_X9_passRow_a11_2, if_neg (ngeL (n := j) (k := 8) (y := 8) rfl (by omega) (by omega)), ldn _ (by omega : j < 8) (by omega), bs, pass_eq h.1 h.2.1 (by omega), bs]
    rw [hv]
    rw [stAn _ 11 _ (by omega : j < 8) (by omega), bs, show nI j + 1 = nI (j + 1) from nI_1 j]
    exact ih n (j + 1) _ (by omega) (by omega) hs
theorem prow11 {k : Nat} (hk : k < 2) {W : Int32} {σ0 σ : pStt} (h : PI k W σ0 σ (koff 11)) : ∃ σ', f_X9_passRow_a11 8 σ = some σ' ∧ PI k W σ0 σ' (koff 11 + 8) := by
  obtain ⟨σ', e, h'⟩ := prow11_loop hk 8 2000 0 σ (by omega) (by omega) h
  have e : fl_X9_passRow_a11_2 8 2000 0 σ = some σ' := e
  refine ⟨σ', ?_, h'⟩
  unfold f_X9_passRow_a11
  rw [e]; rfl
theorem pint {k : Nat} (hk : k < 2) {W : Int32} {σ0 σ : pStt} {i : Nat} (hi : i < 4) (h : PI k W σ0 σ i) : ∃ u, f_X9_pass (σ.1 i) σ = some u ∧ PI k W σ0 (sI u.2 i u.1) (i + 1) := by
  have hv := PI_v h (by omega)
  rw [fld_int _ hi] at hv
  have hs := PI_stepI hi h
  refine ⟨_, pass_eq h.1 h.2.1 (by omega) _, ?_⟩
  rw [hv]
  exact hs
theorem passAll_ex {k : Nat} (hk : k < 2) {W : Int32} {σ : pStt} (h14 : σ.1 14 = nI (110 * k)) (h15 : σ.1 15 = W) : ∃ σ', f_X9_passAll σ = some σ' ∧ PI k W σ σ' 106 := by
  have p0 : PI k W σ σ 0 := ⟨h14, h15, fun q _ => by rw [if_neg (by omega)], fun q => by rw [if_neg (by omega)], rfl, fun _ => rfl, fun _ => rfl⟩
  obtain ⟨u0, e0, p1⟩ := pint hk (by omega) p0
  obtain ⟨u1, e1, p2⟩ := pint hk (by omega) p1
  obtain ⟨u2, e2, p3⟩ := pint hk (by omega) p2
  obtain ⟨u3, e3, p4⟩ := pint hk (by omega) p3
  obtain ⟨v0, f0, r0⟩ := prow0 hk p4
  obtain ⟨v1, f1, r1⟩ := prow1 hk r0
  obtain ⟨v2, f2, r2⟩ := prow2 hk r1
  obtain ⟨v3, f3, r3⟩ := prow3 hk r2
  obtain ⟨v4, f4, r4⟩ := prow4 hk r3
  obtain ⟨v5, f5, r5⟩ := prow5 hk r4
  obtain ⟨v6, f6, r6⟩ := prow6 hk r5
  obtain ⟨v7, f7, r7⟩ := prow7 hk r6
  obtain ⟨v8, f8, r8⟩ := prow8 hk r7
  obtain ⟨v9, f9, r9⟩ := prow9 hk r8
  obtain ⟨v10, f10, r10⟩ := prow10 hk r9
  obtain ⟨v11, f11, r11⟩ := prow11 hk r10
  refine ⟨v11, ?_, r11⟩
  unfold f_X9_passAll
  rw [e0, bs, bs, e1, bs, bs, e2, bs, bs, e3, bs, bs, f0, bs, f1, bs, f2, bs, f3, bs, f4, bs, f5, bs, f6, bs, f7, bs, f8, bs, f9, bs, f10, bs, f11, bs]
