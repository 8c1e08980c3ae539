theorem bk_no {A : Option Int32} {M' K : pStt} {st : Int32} (h0 : ¬ st = 0) (h6 : ¬ st = -6) (q1 : f_X9_back st M' = some (st, K)) : (if (if st = 0 then (-6 : Int32) else st) = (-6) then A else some (if st = 0 then (-6 : Int32) else st) : Option Int32).bind (fun v_6 => (f_X9_back v_6 M').bind (fun u_7 => some (u_7.1, u_7.2))) = some (st, K) := by
  rw [if_neg h0, if_neg h6, bs, q1, bs]
theorem bk_ok {A : Option Int32} {M' K : pStt} {v : Int32} (hA : A = some v) (q1 : f_X9_back v M' = some (v, K)) : (if (if (0 : Int32) = 0 then (-6 : Int32) else 0) = (-6) then A else some (if (0 : Int32) = 0 then (-6 : Int32) else 0) : Option Int32).bind (fun v_6 => (f_X9_back v_6 M').bind (fun u_7 => some (u_7.1, u_7.2))) = some (v, K) := by
  rw [if_pos (show (0 : Int32) = 0 from rfl), if_pos (show (-6 : Int32) = -6 from rfl), hA, bs, q1, bs]
theorem no5 : ¬ (-5 : Int32) = 0 := by decide
theorem no56 : ¬ (-5 : Int32) = -6 := by decide
theorem no3 : ¬ (-3 : Int32) = 0 := by decide
theorem no36 : ¬ (-3 : Int32) = -6 := by decide
theorem z00 : (0 : Int32) = 0 := rfl
theorem n00 : nI 0 = 0 := rfl
theorem n10 : ¬ nI 1 = 0 := by decide
theorem n11 : nI 1 = 1 := rfl
theorem n20 : ¬ nI 2 = 0 := by decide
theorem n21 : ¬ nI 2 = 1 := by decide
theorem n22 : nI 2 = 2 := rfl
theorem n30 : ¬ nI 3 = 0 := by decide
theorem n31 : ¬ nI 3 = 1 := by decide
theorem n32 : ¬ nI 3 = 2 := by decide
theorem n33 : nI 3 = 3 := rfl
theorem n40 : ¬ nI 4 = 0 := by decide
theorem n41 : ¬ nI 4 = 1 := by decide
theorem n42 : ¬ nI 4 = 2 := by decide
theorem n43 : ¬ nI 4 = 3 := by decide
theorem cpl_lies : cp_lies := by
  intro c r g d i0 i1 M tr tc x1 x2 hV
  rcases isW_cases x1 (hi := 7) (n := 7) rfl (by omega) with ⟨j, hj, rfl⟩ | e
  · have w1 := isWn (j := j) (n := 7) (hi := 7) rfl hj (by omega)
    rcases isW_cases x2 (hi := 1) (n := 1) rfl (by omega) with ⟨k, hk, rfl⟩ | e
    · have w2 := isWn (j := k) (n := 1) (hi := 1) rfl hk (by omega)
      obtain ⟨T, c', D', M', st, p1, p2, p3, p4, p5, p6⟩ := refusal_ex hV tr tc
      have r8 : f_X8_lies (nI j) (nI k) tr c tc d = (if st = 0 then (if nI k = 0 then (f_X1_cornerOfThing (nI j) c').bind (fun u_10 => some u_10) else (f_X1_holderOfThing (nI j) c').bind (fun u_9 => some u_9) : Option Int32).bind (fun v_7 => some (v_7, T, c', D')) else some (st, T, c', D')) := by
        unfold f_X8_lies; rw [X8_isThing, w1, bs, if_neg (by decide), w2, bs, if_neg (by decide), p1]; rfl
      have r9 : f_X9_lies (nI j) (nI k) M = (if (if st = 0 then (-6 : Int32) else st) = (-6) then if nI k = 0 then (f_X9_cornerOf (nI j) M').bind (fun u_11 => some u_11) else (f_X9_carrierOf (nI j) M').bind (fun u_10 => some u_10) else some (if st = 0 then (-6 : Int32) else st) : Option Int32).bind (fun v_6 => (f_X9_back v_6 M').bind (fun u_7 => some (u_7.1, u_7.2))) := by
        unfold f_X9_lies; rw [X9_isThing, w1, bs, if_neg (by decide), in01, w2, bs, if_neg (by decide), p2]; rfl
      rcases p3 with rfl | ⟨_, rfl, _⟩ | ⟨hC, rfl, _⟩
      · obtain ⟨K, q1, q2, q3⟩ := back_fin hV p4 p5 p6 (-5)
        exact ⟨(-5, T, c', D'), (-5, K), r8.trans (if_neg no5), r9.trans (bk_no no5 no56 q1), rfl, q2⟩
      · obtain ⟨K, q1, q2, q3⟩ := back_fin hV p4 p5 p6 (-3)
        exact ⟨(-3, T, c', D'), (-3, K), r8.trans (if_neg no3), r9.trans (bk_no no3 no36 q1), rfl, q2⟩
      · have fin : ∀ v : Int32, f_X8_lies (nI j) (nI k) tr c tc d = some (v, T, c', D') → (if nI k = 0 then (f_X9_cornerOf (nI j) M').bind (fun u_11 => some u_11) else (f_X9_carrierOf (nI j) M').bind (fun u_10 => some u_10) : Option Int32) = some v → ∃ (u : Int32 × pStt × pStt × pStt) (v : Int32 × pStt), f_X8_lies (nI j) (nI k) tr c tc d = some u ∧ f_X9_lies (nI j) (nI k) M = some v ∧ u.1 = v.1 ∧ IV c r g u.2.2.2 i0 i1 v.2 := fun v h1 h2 => by
          obtain ⟨K, q1, q2, q3⟩ := back_fin hV p4 p5 p6 v
          exact ⟨(v, T, c', D'), (v, K), h1, r9.trans (bk_ok h2 q1), rfl, q2⟩
        have hk' : k = 0 ∨ k = 1 := by omega
        rcases hk' with rfl | rfl
        · obtain ⟨v, v1, v2⟩ := cornerT (by omega) (hC.2.1 j (by omega))
          exact fin v (by rw [r8, if_pos z00, if_pos n00, v1, bs, bs]) (by rw [if_pos n00, v2, bs])
        · obtain ⟨v, v1, v2, _⟩ := holderT (by omega) (hC.2.1 j (by omega))
          exact fin v (by rw [r8, if_pos z00, if_neg n10, v1, bs, bs]) (by rw [if_neg n10, v2, bs])
    · refine ⟨(-2, tr, tc, d), (-2, M), ?_, ?_, rfl, hV⟩
      · unfold f_X8_lies; rw [X8_isThing, w1, e]; rfl
      · unfold f_X9_lies; rw [X9_isThing, w1, in01, e]; rfl
  · refine ⟨(-1, tr, tc, d), (-1, M), ?_, ?_, rfl, hV⟩
    · unfold f_X8_lies; rw [X8_isThing, e]; rfl
    · unfold f_X9_lies; rw [X9_isThing, e]; rfl
