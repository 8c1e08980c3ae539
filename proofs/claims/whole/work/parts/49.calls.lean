/-! the calls that play a session -/
theorem back_fin {c r g d D' : pStt} {i0 i1 : Option (pStt × pStt × pStt)} {M M' : pStt} (hV : IV c r g d i0 i1 M) (hD : relD D' M') (hk : keep M M') (hh : ∀ q, q < 36 → M'.2 16 q = fl2 M q) (x : Int32) : ∃ K, f_X9_back x M' = some (x, K) ∧ IV c r g D' i0 i1 K ∧ ∀ i, 2 ≤ i → i ≠ 8 → i ≠ 9 → K.1 i = M'.1 i := by
  obtain ⟨K, q1, q2, q3, q4⟩ := back_ex M' x
  obtain ⟨a1, a2, a3, a4, a5, a6⟩ := IV_keep hV (fun q hq => by rw [q2 q hq]; exact hh q hq) (keep_t hk q3)
  exact ⟨K, q1, ⟨a1, a2, a3, relD_r hD (q3.1 4 (by omega) (by omega)) (fun j _ => by rw [q3.2 12 (by omega) (by omega)]), a5, a6⟩, q4⟩
theorem in02 (x : Int32) : f_X9_in x.toInt64 0 2 = f_X8_isWithin x 0 2 := inW x 0 2 (by decide) (by decide)
theorem cpl_first : cp_first := by
  intro c r g d i0 i1 M tr tc x1 hV
  rcases isW_cases x1 (hi := 1) (n := 1) rfl (by omega) with ⟨k, hk, rfl⟩ | e
  · have w := isWn (j := k) (n := 1) (hi := 1) rfl hk (by omega)
    obtain ⟨T, c', D', M', st, p1, p2, p3, p4, p5, p6⟩ := refusal_ex hV tr tc
    obtain ⟨K, q1, q2, q3⟩ := back_fin hV p4 p5 p6 (if st = 0 then -6 else st)
    have r8 : f_X8_first (nI k) tr c tc d = (if st = 0 then (if nI k = 0 then some (T.1 3) else some (T.1 4) : Option Int32).bind (fun v_5 => some (v_5, T, c', D')) else some (st, T, c', D')) := by
      unfold f_X8_first; rw [w, bs, if_neg (by decide), p1]; rfl
    have r9 : f_X9_first (nI k) M = (if (if st = 0 then (-6 : Int32) else st) = (-6) then if nI k = 0 then some ((K.1 12)) else some ((K.1 13)) else some (if st = 0 then -6 else st) : Option Int32).bind (fun v_5 => some (v_5, K)) := by
      unfold f_X9_first; rw [in01, w, bs, if_neg (by decide), p2, bs, q1]; rfl
    rcases p3 with rfl | ⟨_, rfl, _⟩ | ⟨_, rfl, t1, t2, t3, t4, t5, t6, t7⟩
    · exact ⟨_, _, r8, r9, rfl, q2⟩
    · exact ⟨_, _, r8, r9, rfl, q2⟩
    · have hk' : k = 0 ∨ k = 1 := by omega
      rcases hk' with rfl | rfl
      · exact ⟨_, _, r8, r9, by show T.1 3 = K.1 12; rw [t6, q3 12 (by omega) (by omega) (by omega)], q2⟩
      · exact ⟨_, _, r8, r9, by show T.1 4 = K.1 13; rw [t7, q3 13 (by omega) (by omega) (by omega)], q2⟩
  · refine ⟨(-2, tr, tc, d), (-2, M), ?_, ?_, rfl, hV⟩
    · unfold f_X8_first; rw [e]; rfl
    · unfold f_X9_first; rw [in01, e]; rfl
