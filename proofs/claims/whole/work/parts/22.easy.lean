/-! the easy calls -/
theorem ltL {n k : Nat} {y : Int32} (hy : y = nI k) (h : n < k) (hk : k < 2 ^ 31) : nI n < y := by rw [hy]; exact nI_lt h hk
theorem nltL {n k : Nat} {y : Int32} (hy : y = nI k) (h : k ≤ n) (hn : n < 2 ^ 31) : ¬ nI n < y := by rw [hy]; exact nI_nlt h hn
theorem geL {n k : Nat} {y : Int32} (hy : y = nI k) (h : k ≤ n) (hn : n < 2 ^ 31) : y ≤ nI n := by rw [hy]; exact nI_le h hn
theorem ngeL {n k : Nat} {y : Int32} (hy : y = nI k) (h : n < k) (hk : k < 2 ^ 31) : ¬ y ≤ nI n := by rw [hy]; exact nI_ge h hk
theorem neL {n k : Nat} {y : Int32} (hy : y = nI k) (h : n ≠ k) (hn : n < 2 ^ 31) (hk : k < 2 ^ 31) : ¬ nI n = y := by rw [hy, nI_eq hn hk]; exact h
theorem cpl_wipe : cp_wipe := by
  intro c r g d i0 i1 M hV
  obtain ⟨hC, hR, hS, ⟨n, hn, h1, h2, h3⟩, hI0, hI1⟩ := hV
  exact ⟨(d.1 0, sI d 0 0), (M.1 4, sI M 4 0), rfl, rfl, by rw [h1, h2], hC, hR, hS, ⟨0, by omega, rfl, rfl, fun j hj => by omega⟩, hI0, hI1⟩
theorem cpl_unrule : cp_unrule := by
  intro c r g d i0 i1 M hV
  obtain ⟨hC, ⟨n, hn, h1, h2, h3⟩, hS, hD, hI0, hI1⟩ := hV
  exact ⟨(r.1 0, sI r 0 0), (M.1 2, sI M 2 0), rfl, rfl, by rw [h1, h2], hC, ⟨0, by omega, rfl, rfl, fun j hj => by omega⟩, hS, hD, hI0, hI1⟩
theorem cpl_forget : cp_forget := by
  intro c r g d i0 i1 M hV
  obtain ⟨hC, hR, ⟨n, hn, h1, h2, h3⟩, hD, hI0, hI1⟩ := hV
  exact ⟨(g.1 0, sI g 0 0), (M.1 3, sI M 3 0), rfl, rfl, by rw [h1, h2], hC, hR, ⟨0, by omega, rfl, rfl, fun j hj => by omega⟩, hD, hI0, hI1⟩
theorem cpl_pole : cp_pole := by
  intro c r g d i0 i1 M x1 hV hx
  obtain ⟨⟨a1, a2, a3, a4, a5, ⟨a6, a7⟩, a8⟩, hR, hS, hD, hI0, hI1⟩ := hV
  have e1 : f_X8_pole x1 c = some (M.1 0, sI c 1 x1) := by
    unfold f_X8_pole f_X1_poleAsNumber
    rw [a6]
    rcases a7 with e | e <;> rcases hx with rfl | rfl <;> (rw [e]; rfl)
  have e2 : f_X9_pole x1 M = some (M.1 0, sI M 0 x1) := by
    unfold f_X9_pole
    rcases hx with rfl | rfl <;> rfl
  exact ⟨_, _, e1, e2, rfl, ⟨a1, a2, a3, a4, a5, ⟨rfl, hx⟩, a8⟩, hR, hS, hD, hI0, hI1⟩
theorem isWr {j lo n : Nat} {a b : Int32} (ha : a = nI lo) (hb : b = nI n) (h1 : lo ≤ j) (h2 : j ≤ n) (hn : n < 2 ^ 31) : f_X8_isWithin (nI j) a b = some 1 := by
  subst ha; subst hb
  exact isW1 (nI_le h1 (by omega)) (nI_le h2 hn)
theorem isWr_cases (x : Int32) {a b : Int32} {lo n : Nat} (ha : a = nI lo) (hb : b = nI n) (hlo : lo < 2 ^ 31) (hn : n < 2 ^ 31) : (∃ j, lo ≤ j ∧ j ≤ n ∧ x = nI j) ∨ f_X8_isWithin x a b = some 0 := by
  by_cases c : a ≤ x ∧ x ≤ b
  · left
    subst ha; subst hb
    obtain ⟨c1, c2⟩ := c
    rw [Int32.le_iff_toInt_le, nI_toInt hlo] at c1
    have h0 : ¬ x < 0 := by rw [Int32.lt_iff_toInt_lt]; show ¬ x.toInt < 0; omega
    obtain ⟨j, hj, rfl⟩ := nI_of2 (nI_toInt hn) h0 c2
    rw [nI_toInt (by omega)] at c1
    exact ⟨j, by omega, hj, rfl⟩
  · exact Or.inr (isW0 c)
theorem cpl_say : cp_say := by
  intro c r g d i0 i1 M x1 hV
  obtain ⟨hC, hR, hS, ⟨n, hn, h1, h2, h3⟩, hI0, hI1⟩ := hV
  have ein : f_X9_in x1.toInt64 33 126 = f_X8_isWithin x1 33 126 := inW x1 33 126 (by decide) (by decide)
  rcases isWr_cases x1 (a := 33) (b := 126) (lo := 33) (n := 126) rfl rfl (by omega) (by omega) with ⟨a, ha1, ha2, rfl⟩ | e
  · have ew := isWr (j := a) (lo := 33) (n := 126) (a := 33) (b := 126) rfl rfl ha1 ha2 (by omega)
    by_cases hf : n = 60
    · subst hf
      have e1 : f_X8_say (nI a) d = some (-4, d) := by
        unfold f_X8_say f_X3_add
        rw [ew, h1]; rfl
      have e2 : f_X9_say (nI a) M = some (-4, M) := by
        unfold f_X9_say
        rw [ein, ew, h2]; rfl
      exact ⟨_, _, e1, e2, rfl, hC, hR, hS, ⟨60, hn, h1, h2, h3⟩, hI0, hI1⟩
    · have hl : n < 60 := by omega
      have e1 : f_X8_say (nI a) d = some (nI (n + 1), sI (sA d 0 (upd (d.2 0) n (nI a))) 0 (nI (n + 1))) := by
        unfold f_X8_say f_X3_add
        rw [ew, bs, if_neg (by decide), h1, if_pos (show nI n < (60 : Int32) from ltL (k := 60) rfl hl (by decide)), stAn d 0 _ hl (by omega), bs, show (sA d 0 (upd (d.2 0) n (nI a))).1 0 = nI n from h1, show nI n + (1 : Int32) = nI (n + 1) from nI_1 n]
        rfl
      have e2 : f_X9_say (nI a) M = some (nI (n + 1), sI (sA M 12 (upd (M.2 12) n (nI a))) 4 (nI (n + 1))) := by
        unfold f_X9_say
        rw [ein, ew, bs, if_neg (by decide), h2, if_neg (by rw [show (60 : Int32) = nI 60 from rfl, nI_eq (by omega) (by omega)]; exact hf), stAn M 12 _ hl (by omega), bs, show (sA M 12 (upd (M.2 12) n (nI a))).1 4 = nI n from h2, show nI n + (1 : Int32) = nI (n + 1) from nI_1 n]
        rfl
      refine ⟨_, _, e1, e2, rfl, hC, hR, hS, ⟨n + 1, by omega, rfl, rfl, fun j hj => ?_⟩, hI0, hI1⟩
      show ∃ b : Nat, 33 ≤ b ∧ b ≤ 126 ∧ upd (d.2 0) n (nI a) j = nI b ∧ upd (M.2 12) n (nI a) j = nI b
      unfold upd
      by_cases e : j = n
      · rw [if_pos e, if_pos e]; exact ⟨a, ha1, ha2, rfl, rfl⟩
      · rw [if_neg e, if_neg e]; exact h3 j (by omega)
  · have e1 : f_X8_say x1 d = some (-2, d) := by
      unfold f_X8_say
      rw [e]; rfl
    have e2 : f_X9_say x1 M = some (-2, M) := by
      unfold f_X9_say
      rw [ein, e]; rfl
    exact ⟨_, _, e1, e2, rfl, hC, hR, hS, ⟨n, hn, h1, h2, h3⟩, hI0, hI1⟩
theorem in09 (x : Int32) : f_X9_in x.toInt64 0 9 = f_X8_isWithin x 0 9 := inW x 0 9 (by decide) (by decide)
theorem cpl_rule : cp_rule := by
  intro c r g d i0 i1 M x1 x2 x3 hV
  have hV0 := hV
  obtain ⟨hC, ⟨n, hn, h1, h2, h3⟩, hS, hD, hI0, hI1⟩ := hV
  have bad1 : f_X8_isWithin x1 0 9 = some 0 → ∃ (u : Int32 × pStt) (v : Int32 × pStt), f_X8_rule x1 x2 x3 r = some u ∧ f_X9_rule x1 x2 x3 M = some v ∧ u.1 = v.1 ∧ IV c u.2 g d i0 i1 v.2 := by
    intro e
    refine ⟨(-2, r), (-2, M), ?_, ?_, rfl, hV0⟩
    · unfold f_X8_rule; rw [X8_isClaim, e]; rfl
    · unfold f_X9_rule; rw [in09, e]; rfl
  rcases isW_cases x1 (hi := 9) (n := 9) rfl (by omega) with ⟨i, hi, rfl⟩ | e
  · have w1 := isWn (j := i) (n := 9) (hi := 9) rfl hi (by omega)
    rcases isW_cases x2 (hi := 9) (n := 9) rfl (by omega) with ⟨j, hj, rfl⟩ | e
    · have w2 := isWn (j := j) (n := 9) (hi := 9) rfl hj (by omega)
      rcases isW_cases x3 (hi := 9) (n := 9) rfl (by omega) with ⟨k, hk, rfl⟩ | e
      · have w3 := isWn (j := k) (n := 9) (hi := 9) rfl hk (by omega)
        by_cases hf : n = 12
        · subst hf
          refine ⟨(-4, r), (-4, M), ?_, ?_, rfl, hV0⟩
          · unfold f_X8_rule f_X4_add
            rw [X8_isClaim, X8_isClaim, X8_isClaim, w1, w2, w3, h1]; rfl
          · unfold f_X9_rule
            rw [in09, in09, in09, w1, w2, w3, h2]; rfl
        · have hl : n < 12 := by omega
          have s1 := shl1 i (by omega)
          have s2 := shl1 j (by omega)
          have s3 := shl1 k (by omega)
          have e1 : f_X8_rule (nI i) (nI j) (nI k) r = some (nI (n + 1), sI (sA (sA r 0 (upd (r.2 0) n (nI (2 ^ i ||| 2 ^ j)))) 1 (upd (r.2 1) n (nI (2 ^ k)))) 0 (nI (n + 1))) := by
            unfold f_X8_rule f_X4_add
            rw [X8_isClaim, X8_isClaim, X8_isClaim, w1, w2, w3, s1, s2, s3, orN, h1]
            simp only [bs]
            rw [if_neg (by decide), if_neg (by decide), if_neg (by decide), if_pos (show nI n < (12 : Int32) from ltL (k := 12) rfl hl (by decide)), stAn r 0 _ hl (by omega), bs, show (sA r 0 (upd (r.2 0) n (nI (2 ^ i ||| 2 ^ j)))).1 0 = nI n from h1, stAn _ 1 _ hl (by omega), bs, show (sA (sA r 0 (upd (r.2 0) n (nI (2 ^ i ||| 2 ^ j)))) 1 (upd ((sA r 0 (upd (r.2 0) n (nI (2 ^ i ||| 2 ^ j)))).2 1) n (nI (2 ^ k)))).1 0 = nI n from h1, show nI n + (1 : Int32) = nI (n + 1) from nI_1 n]
            rfl
          have e2 : f_X9_rule (nI i) (nI j) (nI k) M = some (nI (n + 1), sI (sA (sA (sA M 5 (upd (M.2 5) n (nI i))) 6 (upd (M.2 6) n (nI j))) 7 (upd (M.2 7) n (nI k))) 2 (nI (n + 1))) := by
            unfold f_X9_rule
            rw [in09, in09, in09, w1, w2, w3, h2]
            simp only [bs]
            rw [if_neg (by decide), if_neg (by decide), if_neg (by decide), if_neg (by rw [show (12 : Int32) = nI 12 from rfl, nI_eq (by omega) (by omega)]; exact hf), stAn M 5 _ hl (by omega), bs, show (sA M 5 (upd (M.2 5) n (nI i))).1 2 = nI n from h2, stAn _ 6 _ hl (by omega), bs, show (sA (sA M 5 (upd (M.2 5) n (nI i))) 6 (upd ((sA M 5 (upd (M.2 5) n (nI i))).2 6) n (nI j))).1 2 = nI n from h2, stAn _ 7 _ hl (by omega), bs]
            show some ((M.1 2 + 1), _) = _
            rw [h2, show nI n + (1 : Int32) = nI (n + 1) from nI_1 n]
            show some (_, sI _ 2 (M.1 2 + 1)) = _
            rw [h2, show nI n + (1 : Int32) = nI (n + 1) from nI_1 n]
            rfl
          refine ⟨_, _, e1, e2, rfl, hC, ⟨n + 1, by omega, rfl, rfl, fun q hq => ?_⟩, hS, hD, hI0, hI1⟩
          show ∃ a b c' : Nat, a < 10 ∧ b < 10 ∧ c' < 10 ∧ upd (M.2 5) n (nI i) q = nI a ∧ upd (M.2 6) n (nI j) q = nI b ∧ upd (M.2 7) n (nI k) q = nI c' ∧ upd (r.2 0) n (nI (2 ^ i ||| 2 ^ j)) q = nI (2 ^ a ||| 2 ^ b) ∧ upd (r.2 1) n (nI (2 ^ k)) q = nI (2 ^ c')
          unfold upd
          by_cases e : q = n
          · simp only [if_pos e]; exact ⟨i, j, k, by omega, by omega, by omega, rfl, rfl, rfl, rfl, rfl⟩
          · simp only [if_neg e]; exact h3 q (by omega)
      · refine ⟨(-2, r), (-2, M), ?_, ?_, rfl, hV0⟩
        · unfold f_X8_rule; rw [X8_isClaim, X8_isClaim, X8_isClaim, w1, w2, e]; rfl
        · unfold f_X9_rule; rw [in09, in09, in09, w1, w2, e]; rfl
    · refine ⟨(-2, r), (-2, M), ?_, ?_, rfl, hV0⟩
      · unfold f_X8_rule; rw [X8_isClaim, X8_isClaim, w1, e]; rfl
      · unfold f_X9_rule; rw [in09, in09, w1, e]; rfl
  · exact bad1 e
