theorem cpl_judge : cp_judge := by
  intro c r g d i0 i1 M tr tc x1 hV
  rcases isW_cases x1 (hi := 2) (n := 2) rfl (by omega) with ⟨k, hk, rfl⟩ | e
  · have w := isWn (j := k) (n := 2) (hi := 2) rfl hk (by omega)
    obtain ⟨T, c', D', M', st, p1, p2, p3, p4, p5, p6⟩ := refusal_ex hV tr tc
    obtain ⟨K, q1, q2, q3⟩ := back_fin hV p4 p5 p6 (if st = 0 then -6 else st)
    have k10 := q3 10 (by omega) (by omega) (by omega)
    have k11 := q3 11 (by omega) (by omega) (by omega)
    have k6 := q3 6 (by omega) (by omega) (by omega)
    have r8 : f_X8_judge (nI k) tr c tc d = (if st = (-5) then some ((-5), T, c', D') else if nI k = 0 then (if (T.1 1) = 0 then some ((-6)) else some ((T.1 0)) : Option Int32).bind (fun v_11 => some (v_11, T, c', D')) else if nI k = 1 then (if (T.1 1) = 0 then some ((-6)) else some ((T.1 1)) : Option Int32).bind (fun v_9 => some (v_9, T, c', D')) else (if st = (-3) then some ((-3)) else some ((T.1 2)) : Option Int32).bind (fun v_7 => some (v_7, T, c', D'))) := by
      unfold f_X8_judge; rw [w, bs, if_neg (by decide), p1]; rfl
    have r9 : f_X9_judge (nI k) M = (if (if st = 0 then (-6 : Int32) else st) = (-5) then some ((if st = 0 then (-6 : Int32) else st), K) else if nI k ≤ 1 then (if nI k = 0 then some ((K.1 10)) else if nI k = 1 then some ((K.1 11)) else some ((K.1 6)) : Option Int32).bind (fun v_7 => some (v_7, K)) else if (if st = 0 then (-6 : Int32) else st) = (-3) then some ((if st = 0 then (-6 : Int32) else st), K) else (if nI k = 0 then some ((K.1 10)) else if nI k = 1 then some ((K.1 11)) else some ((K.1 6)) : Option Int32).bind (fun v_11 => some (v_11, K))) := by
      unfold f_X9_judge; rw [in02, w, bs, if_neg (by decide), p2, bs, q1]; rfl
    have hk' : k = 0 ∨ k = 1 ∨ k = 2 := by omega
    rcases p3 with rfl | ⟨_, rfl, e, m, m1, m2, t1, t2, t3, t4⟩ | ⟨_, rfl, t1, t2, t3, t4, t5, t6, t7⟩
    · exact ⟨_, _, r8, r9, rfl, q2⟩
    · have hm0 : ¬ nI m = 0 := by rw [nI_zero (by omega)]; omega
      rw [t3, if_neg hm0, if_neg hm0] at r8
      rcases hk' with rfl | rfl | rfl
      · exact ⟨_, _, r8, r9, by show T.1 0 = K.1 10; rw [k10, t1, t2], q2⟩
      · exact ⟨_, _, r8, r9, by show nI m = K.1 11; rw [k11, t4], q2⟩
      · exact ⟨_, _, r8, r9, rfl, q2⟩
    · rw [t3] at r8
      rcases hk' with rfl | rfl | rfl
      · exact ⟨_, _, r8, r9, by show -6 = K.1 10; rw [k10, t1], q2⟩
      · exact ⟨_, _, r8, r9, by show -6 = K.1 11; rw [k11, t2], q2⟩
      · exact ⟨_, _, r8, r9, by show T.1 2 = K.1 6; rw [k6, t5], q2⟩
  · refine ⟨(-2, tr, tc, d), (-2, M), ?_, ?_, rfl, hV⟩
    · unfold f_X8_judge; rw [e]; rfl
    · unfold f_X9_judge; rw [in02, e]; rfl
