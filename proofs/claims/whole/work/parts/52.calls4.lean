theorem carr_loop {c M : pStt} (h : ∀ j, j < 8 → relT (c.2 1 j) (M.2 1 j)) {k : Nat} (hk : k < 6) : ∀ (q n i : Nat) (a : Int32), i + q = 8 → q < n → ∃ b, fl_X1_carriedBy_4 (nI k) c n a (nI i) = some b ∧ fl_X9_carriedBy_4 (nI k) M n a (nI i) = some b := by
  intro q
  induction q with
  | zero =>
    intro n i a hi hn
    obtain ⟨n, rfl⟩ : ∃ m, n = m + 1 := ⟨n - 1, by omega⟩
    have : i = 8 := by omega
    subst this
    rw [fl_X1_carriedBy_4, fl_X9_carriedBy_4, if_pos (geL (n := 8) (k := 8) (y := 8) rfl (by omega) (by omega)), if_pos (geL (n := 8) (k := 8) (y := 8) rfl (by omega) (by omega))]
    exact ⟨a, rfl, rfl⟩
  | succ q ih =>
    intro n i a hi hn
    obtain ⟨n, rfl⟩ : ∃ m, n = m + 1 := ⟨n - 1, by omega⟩
    obtain ⟨v, v1, v2, v3⟩ := holderT (c := c) (M := M) (by omega) (h i (by omega))
    have e8 : (8 : Int32) + nI k = nI (8 + k) := by rw [show (8 : Int32) = nI 8 from rfl, nI_add]
    rw [fl_X1_carriedBy_4, fl_X9_carriedBy_4, if_neg (ngeL (n := i) (k := 8) (y := 8) rfl (by omega) (by omega)), if_neg (ngeL (n := i) (k := 8) (y := 8) rfl (by omega) (by omega)), ldn _ (by omega : i < 8) (by omega), v2, show nI i + 1 = nI (i + 1) from nI_1 i, e8]
    simp only [bs]
    by_cases e : c.2 1 i = nI (8 + k)
    · rw [if_pos e, if_pos ((v3 k hk).1 e), bs]
      exact ih n (i + 1) _ (by omega) (by omega)
    · rw [if_neg e, if_neg (fun z => e ((v3 k hk).2 z)), bs, Int32.or_zero]
      exact ih n (i + 1) a (by omega) (by omega)
theorem carr_eq {c M : pStt} (h : relC c M) {k : Nat} (hk : k < 6) : ∃ b, f_X1_carriedBy (nI k) c = some b ∧ f_X9_carriedBy (nI k) M = some b := by
  obtain ⟨b, e1, e2⟩ := carr_loop h.2.1 hk 8 2000 0 0 (by omega) (by omega)
  have e1 : fl_X1_carriedBy_4 (nI k) c 2000 0 0 = some b := e1
  have e2 : fl_X9_carriedBy_4 (nI k) M 2000 0 0 = some b := e2
  refine ⟨b, ?_, ?_⟩
  · unfold f_X1_carriedBy; rw [e1]; rfl
  · unfold f_X9_carriedBy; rw [e2]; rfl
theorem sits_st (M : pStt) {i : Nat} (hi : i < 6) (n : Nat) (a : Int32) : fl_X9_whoSits_4 M (n + 1) a (nI i) = fl_X9_whoSits_4 M n (a ||| (M.2 4 i <<< (nI i &&& 31))) (nI (i + 1)) := by
  rw [fl_X9_whoSits_4, if_neg (ngeL (n := i) (k := 6) (y := 6) rfl (by omega) (by omega)), ldn _ hi (by omega), show nI i + 1 = nI (i + 1) from nI_1 i]
  rfl
theorem sits_end (M : pStt) (n : Nat) (a : Int32) : fl_X9_whoSits_4 M (n + 1) a (nI 6) = some a := by
  rw [fl_X9_whoSits_4, if_pos (geL (n := 6) (k := 6) (y := 6) rfl (by omega) (by omega))]
theorem sits_bits : ∀ z, z < 64 → ((((((((0 : Int32) ||| ((if z.testBit 0 then (1 : Int32) else 0) <<< (nI 0 &&& 31))) ||| ((if z.testBit 1 then (1 : Int32) else 0) <<< (nI 1 &&& 31))) ||| ((if z.testBit 2 then (1 : Int32) else 0) <<< (nI 2 &&& 31))) ||| ((if z.testBit 3 then (1 : Int32) else 0) <<< (nI 3 &&& 31))) ||| ((if z.testBit 4 then (1 : Int32) else 0) <<< (nI 4 &&& 31))) ||| ((if z.testBit 5 then (1 : Int32) else 0) <<< (nI 5 &&& 31)))) = nI z := by decide +kernel
theorem sits_eq {c M : pStt} (h : relC c M) : f_X9_whoSits M = some (c.1 0) := by
  obtain ⟨a1, a2, a3, a4, ⟨z, hz1, hz2, hz3, hz4⟩, a6, a8⟩ := h
  have e : ∀ n, fl_X9_whoSits_4 M (n + 7) 0 (nI 0) = some (nI z) := fun n => by
    refine (sits_st M (i := 0) (by omega) (n + 6) _).trans ?_
    refine (sits_st M (i := 1) (by omega) (n + 5) _).trans ?_
    refine (sits_st M (i := 2) (by omega) (n + 4) _).trans ?_
    refine (sits_st M (i := 3) (by omega) (n + 3) _).trans ?_
    refine (sits_st M (i := 4) (by omega) (n + 2) _).trans ?_
    refine (sits_st M (i := 5) (by omega) (n + 1) _).trans ?_
    refine (sits_end M n _).trans ?_
    rw [hz3 0 (by omega), hz3 1 (by omega), hz3 2 (by omega), hz3 3 (by omega), hz3 4 (by omega), hz3 5 (by omega)]
    exact congrArg some (sits_bits z hz1)
  have e : fl_X9_whoSits_4 M 2000 0 0 = some (nI z) := e 1993
  unfold f_X9_whoSits
  rw [e, hz2]; rfl
theorem in03 (x : Int32) : f_X9_in x.toInt64 0 3 = f_X8_isWithin x 0 3 := inW x 0 3 (by decide) (by decide)
theorem in04 (x : Int32) : f_X9_in x.toInt64 0 4 = f_X8_isWithin x 0 4 := inW x 0 4 (by decide) (by decide)
theorem cpl_behind : cp_behind := by
  intro c r g d i0 i1 M tr tc x1 x2 hV
  rcases isW_cases x1 (hi := 5) (n := 5) rfl (by omega) with ⟨j, hj, rfl⟩ | e
  · have w1 := isWn (j := j) (n := 5) (hi := 5) rfl hj (by omega)
    rcases isW_cases x2 (hi := 3) (n := 3) rfl (by omega) with ⟨k, hk, rfl⟩ | e
    · have w2 := isWn (j := k) (n := 3) (hi := 3) rfl hk (by omega)
      obtain ⟨T, c', D', M', st, p1, p2, p3, p4, p5, p6⟩ := refusal_ex hV tr tc
      have r8 : f_X8_behind (nI j) (nI k) tr c tc d = (if st = 0 then if nI k = 0 then (f_X1_cornerOfPerson (nI j) c').bind (fun u_8 => some (u_8, T, c', D')) else if nI k = 1 then (ld (c'.2 3) 6 (nI j)).bind (fun x_10 => some (x_10, T, c', D')) else if nI k = 2 then (f_X1_sitsAsNumber (nI j) c').bind (fun u_12 => some (u_12, T, c', D')) else (f_X1_carriedBy (nI j) c').bind (fun u_13 => some (u_13, T, c', D')) else some (st, T, c', D')) := by
        unfold f_X8_behind; rw [X8_isPerson, w1, bs, if_neg (by decide), w2, bs, if_neg (by decide), p1]; rfl
      have r9 : f_X9_behind (nI j) (nI k) M = (if (if st = 0 then (-6 : Int32) else st) = (-6) then (f_X9_ofPerson (nI j) (nI k) M').bind (fun u_9 => some u_9) else some (if st = 0 then (-6 : Int32) else st) : Option Int32).bind (fun v_6 => (f_X9_back v_6 M').bind (fun u_7 => some (u_7.1, u_7.2))) := by
        unfold f_X9_behind; rw [X9_isPerson, w1, bs, if_neg (by decide), in03, w2, bs, if_neg (by decide), p2]; rfl
      rcases p3 with rfl | ⟨_, rfl, _⟩ | ⟨hC, rfl, _⟩
      · obtain ⟨K, q1, q2, q3⟩ := back_fin hV p4 p5 p6 (-5)
        exact ⟨(-5, T, c', D'), (-5, K), r8.trans (if_neg no5), r9.trans (bk_no no5 no56 q1), rfl, q2⟩
      · obtain ⟨K, q1, q2, q3⟩ := back_fin hV p4 p5 p6 (-3)
        exact ⟨(-3, T, c', D'), (-3, K), r8.trans (if_neg no3), r9.trans (bk_no no3 no36 q1), rfl, q2⟩
      · have hj6 : j < 6 := by omega
        have fin : ∀ v : Int32, f_X8_behind (nI j) (nI k) tr c tc d = some (v, T, c', D') → f_X9_ofPerson (nI j) (nI k) M' = some v → ∃ (u : Int32 × pStt × pStt × pStt) (v : Int32 × pStt), f_X8_behind (nI j) (nI k) tr c tc d = some u ∧ f_X9_behind (nI j) (nI k) M = some v ∧ u.1 = v.1 ∧ IV c r g u.2.2.2 i0 i1 v.2 := fun v h1 h2 => by
          obtain ⟨K, q1, q2, q3⟩ := back_fin hV p4 p5 p6 v
          exact ⟨(v, T, c', D'), (v, K), h1, r9.trans (bk_ok (by rw [h2, bs]) q1), rfl, q2⟩
        have hk' : k = 0 ∨ k = 1 ∨ k = 2 ∨ k = 3 := by omega
        rcases hk' with rfl | rfl | rfl | rfl
        · exact fin (M'.2 2 j) (by rw [r8, if_pos z00, if_pos n00, cornerP hj6 (hC.2.2.1 j hj6), bs]) (by unfold f_X9_ofPerson; rw [if_pos n00, ldn (M'.2 2) hj6 (by omega), bs, bs])
        · obtain ⟨n, hn, n1, n2⟩ := hC.2.2.2.1 j hj6
          exact fin (nI n) (by rw [r8, if_pos z00, if_neg n10, if_pos n11, ldn (c'.2 3) hj6 (by omega), n1, bs]) (by unfold f_X9_ofPerson; rw [if_neg n10, if_pos n11, ldn (M'.2 3) hj6 (by omega), n2, bs, bs])
        · exact fin (M'.2 4 j) (by rw [r8, if_pos z00, if_neg n20, if_neg n21, if_pos n22, sitsN hC hj6, bs]) (by unfold f_X9_ofPerson; rw [if_neg n20, if_neg n21, if_pos n22, ldn (M'.2 4) hj6 (by omega), bs, bs])
        · obtain ⟨b, b1, b2⟩ := carr_eq hC hj6
          exact fin b (by rw [r8, if_pos z00, if_neg n30, if_neg n31, if_neg n32, b1, bs]) (by unfold f_X9_ofPerson; rw [if_neg n30, if_neg n31, if_neg n32, b2, bs, bs])
    · refine ⟨(-2, tr, tc, d), (-2, M), ?_, ?_, rfl, hV⟩
      · unfold f_X8_behind; rw [X8_isPerson, w1, e]; rfl
      · unfold f_X9_behind; rw [X9_isPerson, w1, in03, e]; rfl
  · refine ⟨(-1, tr, tc, d), (-1, M), ?_, ?_, rfl, hV⟩
    · unfold f_X8_behind; rw [X8_isPerson, e]; rfl
    · unfold f_X9_behind; rw [X9_isPerson, e]; rfl
