/-! the deeds of one, read by the class -/
theorem person_read {s : Nat → Nat} {n i : Nat} {D : pStt} (h : PD s n i D) (h1 : 65 ≤ sgn s n i) (h2 : sgn s n i < 71) : ∃ E, PD s n (i + 1) E ∧ E.1 3 = nI (sgn s n i - 65) ∧ f_X3_readAct D = (f_X3_readDeed E).bind (fun u_20 => (asB u_20.1).bind (fun b_21 => some (b_21, u_20.2))) := by
  have hi := sgn_lt (s := s) (n := n) (i := i) (by omega)
  refine ⟨sI (sI D 1 (nI (i + 1))) 3 (nI (sgn s n i - 65)), PD_s (PD_1 h hi) (by omega), rfl, ?_⟩
  unfold f_X3_readAct
  rw [take_in h (x := 65) (y := 6) (lo := 65) (w := 6) rfl rfl (by omega) h1 (by omega), bs, bs]
  show (if nI (sgn s n i - 65) = -6 then _ else _) = _
  rw [if_neg (fun h => m6_ne (n := sgn s n i - 65) (by omega) h.symm)]
theorem deed_go {s : Nat → Nat} {n i : Nat} {E : pStt} (h : PD s n i E) (h1 : 97 ≤ sgn s n i) (h2 : sgn s n i < 105) : ∃ E', f_X3_readDeed E = some (1, E') ∧ PD s n (i + 1) E' ∧ E'.1 2 = 7 ∧ E'.1 3 = E.1 3 ∧ E'.1 4 = nI (sgn s n i - 97) := by
  have hi := sgn_lt (s := s) (n := n) (i := i) (by omega)
  unfold f_X3_readDeed
  rw [take_in h (x := 97) (y := 8) (lo := 97) (w := 8) rfl rfl (by omega) h1 (by omega), bs, bs]
  show ∃ E', (if nI (sgn s n i - 97) = -6 then _ else _) = _ ∧ _
  rw [if_neg (fun h => m6_ne (n := sgn s n i - 97) (by omega) h.symm)]
  exact ⟨_, rfl, PD_s (PD_s (PD_1 h hi) (by omega)) (by omega), rfl, rfl, rfl⟩
theorem deed_no {s : Nat → Nat} {n i : Nat} {E : pStt} (h : PD s n i E) (h1 : sgn s n i < 97 ∨ 105 ≤ sgn s n i) : f_X3_readDeed E = (if nI (sgn s n i) = 33 then (f_X3_readLone 9 (sI E 4 (-6))).bind (fun u_6 => (asB u_6.1).bind (fun b_7 => some (b_7, u_6.2))) else if nI (sgn s n i) = 36 then (f_X3_readLone 8 (sI E 4 (-6))).bind (fun u_9 => (f_X3_take 48 8 u_9.2).bind (fun u_10 => (some (sI u_10.2 4 u_10.1)).bind (fun σ_11 => (if (σ_11.1 4) = (-6) then some 0 else some 1 : Option Int32).bind (fun v_12 => (asB v_12).bind (fun b_13 => some (b_13, σ_11)))))) else if nI (sgn s n i) = 40 then (f_X3_readLone 5 (sI E 4 (-6))).bind (fun u_16 => (asB u_16.1).bind (fun b_17 => some (b_17, u_16.2))) else if nI (sgn s n i) = 41 then (f_X3_readLone 6 (sI E 4 (-6))).bind (fun u_19 => (asB u_19.1).bind (fun b_20 => some (b_20, u_19.2))) else some (0, sI E 4 (-6))) := by
  unfold f_X3_readDeed
  rw [take_out h (x := 97) (y := 8) (lo := 97) (w := 8) rfl rfl (by omega) (by omega), bs, bs]
  show (if (-6 : Int32) = -6 then _ else _) = _
  rw [if_pos rfl, sign_eq (PD_s h (by omega)), bs]
theorem ra_go {s : Nat → Nat} {n i : Nat} (h1 : 65 ≤ sgn s n i) (h2 : sgn s n i < 71) (h3 : 97 ≤ sgn s n (i + 1)) (h4 : sgn s n (i + 1) < 105) : RA s n i (i + 2) 6 (nI (sgn s n i - 65)) (nI (sgn s n (i + 1) - 97)) := by
  intro D h
  obtain ⟨E, p1, p2, p3⟩ := person_read h h1 h2
  obtain ⟨E', q1, q2, q3, q4, q5⟩ := deed_go p1 h3 h4
  rw [p3, q1]
  refine ⟨E', rfl, q2, Or.inr (Or.inr (Or.inr ⟨sgn s n i - 65, by omega, by rw [q4, p2], rfl, Or.inr (Or.inr (Or.inr ⟨_, by omega, q5, rfl, Or.inl ⟨q3, rfl⟩⟩))⟩))⟩
/-- sign, kind here, kind there -/
theorem ra_lone {s : Nat → Nat} {n i c : Nat} {k : Int32} (hc : (c = 33 ∧ k = 8) ∨ (c = 40 ∧ k = 4) ∨ (c = 41 ∧ k = 5)) (h1 : 65 ≤ sgn s n i) (h2 : sgn s n i < 71) (e : sgn s n (i + 1) = c) (b : Int32) : RA s n i (i + 2) k (nI (sgn s n i - 65)) b := by
  intro D h
  obtain ⟨E, p1, p2, p3⟩ := person_read h h1 h2
  have hi := sgn_lt (s := s) (n := n) (i := i + 1) (by omega)
  have q := deed_no p1 (by omega)
  rw [e] at q
  have l9 := lone_eq (PD_s (k := 4) (x := -6) p1 (by omega))
  rcases hc with ⟨rfl, rfl⟩ | ⟨rfl, rfl⟩ | ⟨rfl, rfl⟩
  · rw [if_pos (show nI 33 = 33 from rfl), l9] at q
    rw [p3, q]
    exact ⟨_, rfl, PD_1 (PD_s (PD_s p1 (by omega)) (by omega)) hi, Or.inr (Or.inr (Or.inr ⟨sgn s n i - 65, by omega, p2, rfl, Or.inr (Or.inr (Or.inl ⟨rfl, rfl⟩))⟩))⟩
  · rw [if_neg (by decide), if_neg (by decide), if_pos (show nI 40 = 40 from rfl), l9] at q
    rw [p3, q]
    exact ⟨_, rfl, PD_1 (PD_s (PD_s p1 (by omega)) (by omega)) hi, Or.inr (Or.inr (Or.inr ⟨sgn s n i - 65, by omega, p2, rfl, Or.inl ⟨rfl, rfl⟩⟩))⟩
  · rw [if_neg (by decide), if_neg (by decide), if_neg (by decide), if_pos (show nI 41 = 41 from rfl), l9] at q
    rw [p3, q]
    exact ⟨_, rfl, PD_1 (PD_s (PD_s p1 (by omega)) (by omega)) hi, Or.inr (Or.inr (Or.inr ⟨sgn s n i - 65, by omega, p2, rfl, Or.inr (Or.inl ⟨rfl, rfl⟩)⟩))⟩
theorem ra_take {s : Nat → Nat} {n i : Nat} (h1 : 65 ≤ sgn s n i) (h2 : sgn s n i < 71) (e : sgn s n (i + 1) = 36) (h3 : 48 ≤ sgn s n (i + 2)) (h4 : sgn s n (i + 2) < 56) : RA s n i (i + 3) 7 (nI (sgn s n i - 65)) (nI (sgn s n (i + 2) - 48)) := by
  intro D h
  obtain ⟨E, p1, p2, p3⟩ := person_read h h1 h2
  have hi := sgn_lt (s := s) (n := n) (i := i + 1) (by omega)
  have hi2 := sgn_lt (s := s) (n := n) (i := i + 2) (by omega)
  have q := deed_no p1 (by omega)
  have l9 := lone_eq (PD_s (k := 4) (x := -6) p1 (by omega))
  have p4 : PD s n (i + 2) (sI (sI (sI E 4 (-6)) 2 8) 1 (nI (i + 1 + 1))) := PD_1 (PD_s (PD_s p1 (by omega)) (by omega)) hi
  rw [e, if_neg (by decide), if_pos (show nI 36 = 36 from rfl), l9, bs, take_in p4 (x := 48) (y := 8) (lo := 48) (w := 8) rfl rfl (by omega) h3 (by omega), bs, bs] at q
  have q : f_X3_readDeed E = (if nI (sgn s n (i + 2) - 48) = -6 then some 0 else some 1 : Option Int32).bind _ := q
  rw [if_neg (fun h => m6_ne (n := sgn s n (i + 2) - 48) (by omega) h.symm)] at q
  rw [p3, q]
  exact ⟨_, rfl, PD_s (PD_1 p4 hi2) (by omega), Or.inr (Or.inr (Or.inr ⟨sgn s n i - 65, by omega, p2, rfl, Or.inr (Or.inr (Or.inr ⟨sgn s n (i + 2) - 48, by omega, rfl, rfl, Or.inr ⟨rfl, rfl⟩⟩))⟩))⟩
theorem rf_take {s : Nat → Nat} {n i : Nat} (h1 : 65 ≤ sgn s n i) (h2 : sgn s n i < 71) (e : sgn s n (i + 1) = 36) (h3 : sgn s n (i + 2) < 48 ∨ 56 ≤ sgn s n (i + 2)) : RF s n i (i + 2) := by
  intro D h
  obtain ⟨E, p1, p2, p3⟩ := person_read h h1 h2
  have hi := sgn_lt (s := s) (n := n) (i := i + 1) (by omega)
  have q := deed_no p1 (by omega)
  have l9 := lone_eq (PD_s (k := 4) (x := -6) p1 (by omega))
  have p4 : PD s n (i + 2) (sI (sI (sI E 4 (-6)) 2 8) 1 (nI (i + 1 + 1))) := PD_1 (PD_s (PD_s p1 (by omega)) (by omega)) hi
  rw [e, if_neg (by decide), if_pos (show nI 36 = 36 from rfl), l9, bs, take_out p4 (x := 48) (y := 8) (lo := 48) (w := 8) rfl rfl (by omega) (by omega), bs, bs] at q
  rw [p3, q]
  exact ⟨_, rfl, PD_s p4 (by omega)⟩
theorem rf_deed {s : Nat → Nat} {n i : Nat} (h1 : 65 ≤ sgn s n i) (h2 : sgn s n i < 71) (h3 : sgn s n (i + 1) < 97 ∨ 105 ≤ sgn s n (i + 1)) (e1 : sgn s n (i + 1) ≠ 33) (e2 : sgn s n (i + 1) ≠ 36) (e3 : sgn s n (i + 1) ≠ 40) (e4 : sgn s n (i + 1) ≠ 41) : RF s n i (i + 1) := by
  intro D h
  obtain ⟨E, p1, p2, p3⟩ := person_read h h1 h2
  have q := deed_no p1 h3
  rw [if_neg (sg_ne p1 (y := 33) (k := 33) rfl (by omega) e1), if_neg (sg_ne p1 (y := 36) (k := 36) rfl (by omega) e2), if_neg (sg_ne p1 (y := 40) (k := 40) rfl (by omega) e3), if_neg (sg_ne p1 (y := 41) (k := 41) rfl (by omega) e4)] at q
  rw [p3, q]
  exact ⟨_, rfl, PD_s p1 (by omega)⟩
