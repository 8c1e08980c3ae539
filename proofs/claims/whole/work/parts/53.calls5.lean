theorem cpl_there : cp_there := by
  intro c r g d i0 i1 M tr tc x1 hV
  rcases isW_cases x1 (hi := 4) (n := 4) rfl (by omega) with ⟨k, hk, rfl⟩ | e
  · have w := isWn (j := k) (n := 4) (hi := 4) rfl hk (by omega)
    obtain ⟨T, c', D', M', st, p1, p2, p3, p4, p5, p6⟩ := refusal_ex hV tr tc
    have r8 : f_X8_there (nI k) tr c tc d = (if st = 0 then if nI k = 0 then (f_X1_countWays c').bind (fun u_6 => some (u_6, T, c', D')) else if nI k = 1 then (f_X1_whoIsThere c').bind (fun u_8 => some (u_8, T, c', D')) else if nI k = 2 then some ((c'.1 0), T, c', D') else if nI k = 3 then (f_X1_poleAsNumber c').bind (fun u_11 => some (u_11, T, c', D')) else some ((c'.1 2), T, c', D') else some (st, T, c', D')) := by
      unfold f_X8_there; rw [w, bs, if_neg (by decide), p1]; rfl
    have r9 : f_X9_there (nI k) M = (if (if st = 0 then (-6 : Int32) else st) = (-6) then (f_X9_ofAll (nI k) M').bind (fun u_7 => some u_7) else some (if st = 0 then (-6 : Int32) else st) : Option Int32).bind (fun v_4 => (f_X9_back v_4 M').bind (fun u_5 => some (u_5.1, u_5.2))) := by
      unfold f_X9_there; rw [in04, w, bs, if_neg (by decide), p2]; rfl
    rcases p3 with rfl | ⟨_, rfl, _⟩ | ⟨hC, rfl, _⟩
    · obtain ⟨K, q1, q2, q3⟩ := back_fin hV p4 p5 p6 (-5)
      exact ⟨(-5, T, c', D'), (-5, K), r8.trans (if_neg no5), r9.trans (bk_no no5 no56 q1), rfl, q2⟩
    · obtain ⟨K, q1, q2, q3⟩ := back_fin hV p4 p5 p6 (-3)
      exact ⟨(-3, T, c', D'), (-3, K), r8.trans (if_neg no3), r9.trans (bk_no no3 no36 q1), rfl, q2⟩
    · have fin : ∀ v : Int32, f_X8_there (nI k) tr c tc d = some (v, T, c', D') → f_X9_ofAll (nI k) M' = some v → ∃ (u : Int32 × pStt × pStt × pStt) (v : Int32 × pStt), f_X8_there (nI k) tr c tc d = some u ∧ f_X9_there (nI k) M = some v ∧ u.1 = v.1 ∧ IV c r g u.2.2.2 i0 i1 v.2 := fun v h1 h2 => by
        obtain ⟨K, q1, q2, q3⟩ := back_fin hV p4 p5 p6 v
        exact ⟨(v, T, c', D'), (v, K), h1, r9.trans (bk_ok (by rw [h2, bs]) q1), rfl, q2⟩
      have hk' : k = 0 ∨ k = 1 ∨ k = 2 ∨ k = 3 ∨ k = 4 := by omega
      rcases hk' with rfl | rfl | rfl | rfl | rfl
      · obtain ⟨b, b1, b2⟩ := ways_eq hC.1
        exact fin b (by rw [r8, if_pos z00, if_pos n00, b1, bs]) (by unfold f_X9_ofAll; rw [if_pos n00, b2, bs])
      · obtain ⟨b, b1, b2⟩ := there_eq hC
        exact fin b (by rw [r8, if_pos z00, if_neg n10, if_pos n11, b1, bs]) (by unfold f_X9_ofAll; rw [if_neg n10, if_pos n11, b2, bs])
      · exact fin (c'.1 0) (by rw [r8, if_pos z00, if_neg n20, if_neg n21, if_pos n22]) (by unfold f_X9_ofAll; rw [if_neg n20, if_neg n21, if_pos n22, sits_eq hC, bs])
      · exact fin (M'.1 0) (by rw [r8, if_pos z00, if_neg n30, if_neg n31, if_neg n32, if_pos n33, poleN hC, bs]) (by unfold f_X9_ofAll; rw [if_neg n30, if_neg n31, if_neg n32, if_pos n33])
      · obtain ⟨nh, hnh, h1, h2⟩ := hC.2.2.2.2.2.2
        exact fin (nI nh) (by rw [r8, if_pos z00, if_neg n40, if_neg n41, if_neg n42, if_neg n43, h1]) (by unfold f_X9_ofAll; rw [if_neg n40, if_neg n41, if_neg n42, if_neg n43, h2])
  · refine ⟨(-2, tr, tc, d), (-2, M), ?_, ?_, rfl, hV⟩
    · unfold f_X8_there; rw [e]; rfl
    · unfold f_X9_there; rw [in04, e]; rfl
theorem copy_one (c : pStt) {c' M : pStt} (h : relC c' M) : ∃ cc, f_X1_copyFrom c c' = some cc ∧ relC cc M := by
  have hb : asB (c'.1 1) = some (c'.1 1) := by
    obtain ⟨a1, a2, a3, a4, a5, ⟨a6, a6'⟩, a7⟩ := h
    rw [a6]
    rcases a6' with e | e <;> (rw [e]; rfl)
  unfold f_X1_copyFrom
  rw [hb]
  exact ⟨_, rfl, relC_l h (fun j hj => cpy0 hj) (fun j hj => cpy0 hj) (fun j hj => cpy0 hj) (fun j hj => cpy0 hj) rfl rfl rfl⟩
theorem relR_k {r M N : pStt} (h : relR r M) (k : keep M N) : relR r N := by
  obtain ⟨n, hn, a, b, e⟩ := h
  refine ⟨n, hn, a, by rw [k.1 2 (by omega) (by omega)]; exact b, fun q hq => ?_⟩
  rw [k.2 5 (by omega) (by omega), k.2 6 (by omega) (by omega), k.2 7 (by omega) (by omega)]
  exact e q hq
theorem relS_k {g M N : pStt} (h : relS g M) (k : keep M N) : relS g N := by
  obtain ⟨n, hn, a, b, e⟩ := h
  refine ⟨n, hn, a, by rw [k.1 3 (by omega) (by omega)]; exact b, fun q hq => ?_⟩
  rw [k.2 8 (by omega) (by omega), k.2 9 (by omega) (by omega), k.2 10 (by omega) (by omega), k.2 11 (by omega) (by omega)]
  exact e q hq
theorem cpl_done : cp_done := by
  intro c r g d i0 i1 M tr tc hV
  obtain ⟨T, c', D', M', st, p1, p2, p3, p4, p5, p6⟩ := refusal_ex hV tr tc
  have r8 : f_X8_done tr c tc d = (if st = 0 then (f_X1_copyFrom c c').bind (fun u_3 => (some (sI D' 0 0)).bind (fun σ_4 => some ((T.1 0), T, u_3, c', σ_4))) else some (st, T, c, c', D')) := by
    unfold f_X8_done; rw [p1]; rfl
  have r9 : f_X9_done M = (if (if st = 0 then (-6 : Int32) else st) = (-6) then (some (sI M' 4 0)).bind (fun σ_3 => some ((σ_3.1 5), σ_3)) else (f_X9_back (if st = 0 then (-6 : Int32) else st) M').bind (fun u_4 => some (u_4.1, u_4.2))) := by
    unfold f_X9_done; rw [p2]; rfl
  rcases p3 with rfl | ⟨_, rfl, _⟩ | ⟨hC, rfl, t1, t2, t3, t4, t5, t6, t7⟩
  · obtain ⟨K, q1, q2, q3⟩ := back_fin hV p4 p5 p6 (-5)
    exact ⟨(-5, T, c, c', D'), (-5, K), r8.trans (if_neg no5), by rw [r9, if_neg no5, if_neg no56, q1, bs], rfl, q2⟩
  · obtain ⟨K, q1, q2, q3⟩ := back_fin hV p4 p5 p6 (-3)
    exact ⟨(-3, T, c, c', D'), (-3, K), r8.trans (if_neg no3), by rw [r9, if_neg no3, if_neg no36, q1, bs], rfl, q2⟩
  · obtain ⟨cc, c1, c2⟩ := copy_one c hC
    obtain ⟨v1, v2, v3, v4, v5, v6⟩ := hV
    have k20 := p5.2 20 (by omega) (by omega)
    have k19 := p5.2 19 (by omega) (by omega)
    have hR : relR r M' := relR_k v2 p5
    have hS : relS g M' := relS_k v3 p5
    have hD : relD (sI D' 0 0) (sI M' 4 0) := ⟨0, by omega, rfl, rfl, fun j hj => absurd hj (by omega)⟩
    exact ⟨(T.1 0, T, cc, c', sI D' 0 0), (M'.1 5, sI M' 4 0), by rw [r8, if_pos z00, c1, bs, bs], by rw [r9, if_pos z00, if_pos (show (-6 : Int32) = -6 from rfl), bs]; rfl, t4, c2, hR, hS, hD, relI_r v5 (congrFun k20 0) (fun q _ => congrFun k19 _), relI_r v6 (congrFun k20 1) (fun q _ => congrFun k19 _)⟩
