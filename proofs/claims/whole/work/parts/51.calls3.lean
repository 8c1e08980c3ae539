theorem cpl_lies : cp_lies := by
  intro c r g d i0 i1 M tr tc x1 x2 hV
  rcases isW_cases x1 (hi := 7) (n := 7) rfl (by omega) with ⟨j, hj, rfl⟩ | e
  · have w1 := isWn (j := j) (n := 7) (hi := 7) rfl hj (by omega)
    rcases isW_cases x2 (hi := 1) (n := 1) rfl (by omega) with ⟨k, hk, rfl⟩ | e
    · have w2 := isWn (j := k) (n := 1) (hi := 1) rfl hk (by omega)
      obtain ⟨T, c', D', M', st, p1, p2, p3, p4, p5, p6⟩ := refusal_ex hV tr tc
      have r8 : f_X8_lies (nI j) (nI k) tr c tc d = (if st = 0 then (if nI k = 0 then (f_X1_cornerOfThing (nI j) c').bind (fun u_10 => some u_10) else (f_X1_holderOfThing (nI j) c').bind (fun u_9 => some u_9) : Option Int32).bind (fun v_7 => some (v_7, T, c', D')) else some (st, T, c', D')) := by
        unfold f_X8_lies; rw [X8_isThing, w1, bs, if_neg (by decide), w2, bs, if_neg (by decide), p1]; rfl
      have r9 : f_X9_lies (nI j) (nI k) M = (if (if st = 0 then (-6 : Int32) else st) = (-6) then if nI k = 0 then (f_X9_cornerOf (nI j) M').bind (fun u_11 => some u_11) else (f_X9_carrierOf (nI j) M').bind (fun u_10 => some u_10) else some (if st = 0 then (-6 : Int32) else st) : Option Int32).bind (fun v_6 => (f_X9_back v_6 M').bind (fun u_7 => some (u_7.1, u_7.2))) := by
        unfold f_X9_lies; rw [X9_isThing, w1, bs, if_neg (by decide), in01, w2, bs, if_neg (by decide), p2]; rfl
      rcases p3 with rfl | ⟨_, rfl, _⟩ | ⟨hC, rfl, _⟩
      · obtain ⟨K, q1, q2, q3⟩ := back_fin hV p4 p5 p6 (-5)
        exact ⟨_, (-5, K), r8, by rw [r9]; show (f_X9_back (-5) M').bind _ = _; rw [q1]; rfl, rfl, q2⟩
      · obtain ⟨K, q1, q2, q3⟩ := back_fin hV p4 p5 p6 (-3)
        exact ⟨_, (-3, K), r8, by rw [r9]; show (f_X9_back (-3) M').bind _ = _; rw [q1]; rfl, rfl, q2⟩
      · have hk' : k = 0 ∨ k = 1 := by omega
        rcases hk' with rfl | rfl
        · obtain ⟨v, v1, v2⟩ := cornerT (by omega) (hC.2.1 j (by omega))
          obtain ⟨K, q1, q2, q3⟩ := back_fin hV p4 p5 p6 v
          exact ⟨(v, T, c', D'), (v, K), by rw [r8, v1]; rfl, by rw [r9, v2]; show (f_X9_back v M').bind _ = _; rw [q1]; rfl, rfl, q2⟩
        · obtain ⟨v, v1, v2, _⟩ := holderT (by omega) (hC.2.1 j (by omega))
          obtain ⟨K, q1, q2, q3⟩ := back_fin hV p4 p5 p6 v
          exact ⟨(v, T, c', D'), (v, K), by rw [r8, v1]; rfl, by rw [r9, v2]; show (f_X9_back v M').bind _ = _; rw [q1]; rfl, rfl, q2⟩
    · refine ⟨(-2, tr, tc, d), (-2, M), ?_, ?_, rfl, hV⟩
      · unfold f_X8_lies; rw [X8_isThing, w1, e]; rfl
      · unfold f_X9_lies; rw [X9_isThing, w1, in01, e]; rfl
  · refine ⟨(-1, tr, tc, d), (-1, M), ?_, ?_, rfl, hV⟩
    · unfold f_X8_lies; rw [X8_isThing, e]; rfl
    · unfold f_X9_lies; rw [X9_isThing, e]; rfl
