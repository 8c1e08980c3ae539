/-! the pad read by the class -/
def sgn (s : Nat → Nat) (n i : Nat) : Nat := if i < n then s i else 0
def PD (s : Nat → Nat) (n i : Nat) (D : pStt) : Prop := n ≤ 60 ∧ i ≤ n ∧ D.1 0 = nI n ∧ D.1 1 = nI i ∧ ∀ j, j < n → s j ≤ 126 ∧ D.2 0 j = nI (s j)
theorem sgn_le {s : Nat → Nat} {n i : Nat} {D : pStt} (h : PD s n i D) (q : Nat) : sgn s n q ≤ 126 := by
  unfold sgn
  by_cases c : q < n
  · rw [if_pos c]; exact (h.2.2.2.2 q c).1
  · rw [if_neg c]; omega
theorem sign_eq {s : Nat → Nat} {n i : Nat} {D : pStt} (h : PD s n i D) : f_X3_signHere D = some (nI (sgn s n i)) := by
  obtain ⟨h1, h2, h3, h4, h5⟩ := h
  unfold f_X3_signHere sgn
  rw [h3, h4, if_neg (nI_pos (by omega))]
  by_cases c : i < n
  · rw [if_neg (nI_ge c (by omega)), ldn _ (by omega : i < 60) (by omega), (h5 i c).2, if_pos c]; rfl
  · rw [if_pos (nI_le (by omega) (by omega)), if_neg c]; rfl
theorem take_in {s : Nat → Nat} {n i : Nat} {D : pStt} (h : PD s n i D) {lo w : Nat} {x y : Int32} (hx : x = nI lo) (hy : y = nI w) (hw8 : w < 200) (h1 : lo ≤ sgn s n i) (h2 : sgn s n i < lo + w) : f_X3_take x y D = some (nI (sgn s n i - lo), sI D 1 (nI (i + 1))) := by
  have hl := sgn_le h i
  subst hx; subst hy
  have hw : sgn s n i - lo < w := by omega
  unfold f_X3_take
  rw [sign_eq h, bs, pk_sub h1, if_neg (nI_pos (by omega))]
  rw [if_pos (nI_lt hw (by omega)), h.2.2.2.1, show nI i + (1 : Int32) = nI (i + 1) from nI_1 i]; rfl
theorem take_out {s : Nat → Nat} {n i : Nat} {D : pStt} (h : PD s n i D) {lo w : Nat} {x y : Int32} (hx : x = nI lo) (hy : y = nI w) (hw : lo < 200) (h1 : sgn s n i < lo ∨ lo + w ≤ sgn s n i) : f_X3_take x y D = some (-6, D) := by
  have hl := sgn_le h i
  subst hx; subst hy
  unfold f_X3_take
  rw [sign_eq h, bs]
  by_cases c : sgn s n i < lo
  · rw [if_pos (pk_sneg (by omega) c)]
  · rw [pk_sub (by omega), if_neg (nI_pos (by omega)), if_neg (nI_nlt (by omega) (by omega))]
theorem PD_s {s : Nat → Nat} {n i k : Nat} {D : pStt} {x : Int32} (h : PD s n i D) (hk : 2 ≤ k) : PD s n i (sI D k x) := by
  obtain ⟨h1, h2, h3, h4, h5⟩ := h
  exact ⟨h1, h2, by rw [sI_o (by omega)]; exact h3, by rw [sI_o (by omega)]; exact h4, h5⟩
theorem PD_1 {s : Nat → Nat} {n i : Nat} {D : pStt} (h : PD s n i D) (hi : i < n) : PD s n (i + 1) (sI D 1 (nI (i + 1))) := by
  obtain ⟨h1, h2, h3, h4, h5⟩ := h
  exact ⟨h1, hi, h3, rfl, h5⟩
theorem sgn_lt {s : Nat → Nat} {n i : Nat} (h : 0 < sgn s n i) : i < n := by
  unfold sgn at h
  by_cases c : i < n
  · exact c
  · rw [if_neg c] at h; omega
def RF (s : Nat → Nat) (n i f : Nat) : Prop := ∀ D, PD s n i D → ∃ D', f_X3_readAct D = some (0, D') ∧ PD s n f D'
def RA (s : Nat → Nat) (n i j : Nat) (k a b : Int32) : Prop := ∀ D, PD s n i D → ∃ D', f_X3_readAct D = some (1, D') ∧ PD s n j D' ∧ AR (D'.1 2) (D'.1 3) (D'.1 4) k a b
theorem lone_eq {s : Nat → Nat} {n i : Nat} {D : pStt} (h : PD s n i D) (x : Int32) : f_X3_readLone x D = some (1, sI (sI D 2 x) 1 (nI (i + 1))) := by
  unfold f_X3_readLone
  rw [bs]
  show (some (sI (sI D 2 x) 1 (D.1 1 + 1))).bind _ = _
  rw [h.2.2.2.1, show nI i + (1 : Int32) = nI (i + 1) from nI_1 i]; rfl
theorem read_no {s : Nat → Nat} {n i : Nat} {D : pStt} (h : PD s n i D) (hp : sgn s n i < 65 ∨ 71 ≤ sgn s n i) : f_X3_readAct D = (if nI (sgn s n i) = 46 then (f_X3_readLone 4 (sI D 3 (-6))).bind (fun u_6 => (asB u_6.1).bind (fun b_7 => some (b_7, u_6.2))) else if nI (sgn s n i) = 112 then (f_X3_readLone 3 (sI D 3 (-6))).bind (fun u_9 => (asB u_9.1).bind (fun b_10 => some (b_10, u_9.2))) else if nI (sgn s n i) = 116 then (f_X3_readPair 2 48 8 (sI D 3 (-6))).bind (fun u_12 => (asB u_12.1).bind (fun b_13 => some (b_13, u_12.2))) else if nI (sgn s n i) = 119 then (f_X3_readPair 0 97 8 (sI D 3 (-6))).bind (fun u_15 => (asB u_15.1).bind (fun b_16 => some (b_16, u_15.2))) else if nI (sgn s n i) = 120 then (f_X3_readPair 1 97 8 (sI D 3 (-6))).bind (fun u_18 => (asB u_18.1).bind (fun b_19 => some (b_19, u_18.2))) else some (0, sI D 3 (-6))) := by
  unfold f_X3_readAct
  rw [take_out h (x := 65) (y := 6) (lo := 65) (w := 6) rfl rfl (by omega) (by omega), bs, bs]
  show (if (-6 : Int32) = -6 then _ else _) = _
  rw [if_pos rfl, sign_eq (PD_s h (by omega)), bs]
theorem sg_ne {s : Nat → Nat} {n i : Nat} {D : pStt} (h : PD s n i D) {k : Nat} {y : Int32} (hy : y = nI k) (hk : k < 200) (e : sgn s n i ≠ k) : ¬ nI (sgn s n i) = y := neL hy e (by have := sgn_le h i; omega) (by omega)
theorem ra_hour {s : Nat → Nat} {n i : Nat} (e : sgn s n i = 46) (a b : Int32) : RA s n i (i + 1) 9 a b := by
  intro D h
  have hi := sgn_lt (s := s) (n := n) (i := i) (by omega)
  rw [read_no h (by omega), e, if_pos (show nI 46 = 46 from rfl), lone_eq (PD_s h (by omega))]
  exact ⟨_, rfl, PD_1 (PD_s (PD_s h (by omega)) (by omega)) hi, Or.inr (Or.inr (Or.inl ⟨rfl, rfl⟩))⟩
theorem ra_pole {s : Nat → Nat} {n i : Nat} (e : sgn s n i = 112) (a b : Int32) : RA s n i (i + 1) 3 a b := by
  intro D h
  have hi := sgn_lt (s := s) (n := n) (i := i) (by omega)
  rw [read_no h (by omega), e, if_neg (by decide), if_pos (show nI 112 = 112 from rfl), lone_eq (PD_s h (by omega))]
  exact ⟨_, rfl, PD_1 (PD_s (PD_s h (by omega)) (by omega)) hi, Or.inr (Or.inl ⟨rfl, rfl⟩)⟩
theorem rf_none {s : Nat → Nat} {n i : Nat} (hp : sgn s n i < 65 ∨ 71 ≤ sgn s n i) (e1 : sgn s n i ≠ 46) (e2 : sgn s n i ≠ 112) (e3 : sgn s n i ≠ 116) (e4 : sgn s n i ≠ 119) (e5 : sgn s n i ≠ 120) : RF s n i i := by
  intro D h
  rw [read_no h hp, if_neg (sg_ne h (y := 46) (k := 46) rfl (by omega) e1), if_neg (sg_ne h (y := 112) (k := 112) rfl (by omega) e2), if_neg (sg_ne h (y := 116) (k := 116) rfl (by omega) e3), if_neg (sg_ne h (y := 119) (k := 119) rfl (by omega) e4), if_neg (sg_ne h (y := 120) (k := 120) rfl (by omega) e5)]
  exact ⟨_, rfl, PD_s h (by omega)⟩
theorem pair_ok {s : Nat → Nat} {n i : Nat} {D : pStt} (h : PD s n i D) (hi : i < n) (x : Int32) {lo : Nat} {y : Int32} (hy : y = nI lo) (hl : 0 < lo) (h1 : lo ≤ sgn s n (i + 1)) (h2 : sgn s n (i + 1) < lo + 8) (h3 : 97 ≤ sgn s n (i + 2)) (h4 : sgn s n (i + 2) < 105) : ∃ D', f_X3_readPair x y 8 D = some (1, D') ∧ PD s n (i + 3) D' ∧ D'.1 2 = x ∧ D'.1 3 = nI (sgn s n (i + 1) - lo) ∧ D'.1 4 = nI (sgn s n (i + 2) - 97) := by
  have hi1 := sgn_lt (s := s) (n := n) (i := i + 1) (by omega)
  have hi2 := sgn_lt (s := s) (n := n) (i := i + 2) (by omega)
  have p1 : PD s n (i + 1) (sI (sI D 2 x) 1 (nI (i + 1))) := PD_1 (PD_s h (by omega)) hi
  have p2 : PD s n (i + 2) (sI (sI (sI (sI D 2 x) 1 (nI (i + 1))) 1 (nI (i + 1 + 1))) 3 (nI (sgn s n (i + 1) - lo))) := PD_s (PD_1 p1 hi1) (by omega)
  have b1 := sgn_le h (i + 1)
  have b2 := sgn_le h (i + 2)
  unfold f_X3_readPair
  rw [lone_eq h, bs, take_in p1 (y := 8) (lo := lo) (w := 8) hy rfl (by omega) h1 h2, bs, bs]
  show ∃ D', (if nI (sgn s n (i + 1) - lo) = -6 then _ else _) = _ ∧ _
  rw [if_neg (fun h => m6_ne (n := sgn s n (i + 1) - lo) (by omega) h.symm), take_in p2 (x := 97) (y := 8) (lo := 97) (w := 8) rfl rfl (by omega) h3 (by omega), bs, bs]
  show ∃ D', (if nI (sgn s n (i + 2) - 97) = -6 then some 0 else some 1 : Option Int32).bind _ = _ ∧ _
  rw [if_neg (fun h => m6_ne (n := sgn s n (i + 2) - 97) (by omega) h.symm)]
  exact ⟨_, rfl, PD_s (PD_1 p2 hi2) (by omega), rfl, rfl, rfl⟩
theorem pair_f1 {s : Nat → Nat} {n i : Nat} {D : pStt} (h : PD s n i D) (hi : i < n) (x : Int32) {lo : Nat} {y : Int32} (hy : y = nI lo) (hl : lo < 200) (h1 : sgn s n (i + 1) < lo ∨ lo + 8 ≤ sgn s n (i + 1)) : ∃ D', f_X3_readPair x y 8 D = some (0, D') ∧ PD s n (i + 1) D' := by
  have p1 : PD s n (i + 1) (sI (sI D 2 x) 1 (nI (i + 1))) := PD_1 (PD_s h (by omega)) hi
  unfold f_X3_readPair
  rw [lone_eq h, bs, take_out p1 (y := 8) (lo := lo) (w := 8) hy rfl (by omega) h1, bs, bs]
  exact ⟨_, rfl, PD_s p1 (by omega)⟩
theorem pair_f2 {s : Nat → Nat} {n i : Nat} {D : pStt} (h : PD s n i D) (hi : i < n) (x : Int32) {lo : Nat} {y : Int32} (hy : y = nI lo) (hl : 0 < lo) (h1 : lo ≤ sgn s n (i + 1)) (h2 : sgn s n (i + 1) < lo + 8) (h3 : sgn s n (i + 2) < 97 ∨ 105 ≤ sgn s n (i + 2)) : ∃ D', f_X3_readPair x y 8 D = some (0, D') ∧ PD s n (i + 2) D' := by
  have hi1 := sgn_lt (s := s) (n := n) (i := i + 1) (by omega)
  have p1 : PD s n (i + 1) (sI (sI D 2 x) 1 (nI (i + 1))) := PD_1 (PD_s h (by omega)) hi
  have p2 : PD s n (i + 2) (sI (sI (sI (sI D 2 x) 1 (nI (i + 1))) 1 (nI (i + 1 + 1))) 3 (nI (sgn s n (i + 1) - lo))) := PD_s (PD_1 p1 hi1) (by omega)
  have b1 := sgn_le h (i + 1)
  unfold f_X3_readPair
  rw [lone_eq h, bs, take_in p1 (y := 8) (lo := lo) (w := 8) hy rfl (by omega) h1 h2, bs, bs]
  show ∃ D', (if nI (sgn s n (i + 1) - lo) = -6 then _ else _) = _ ∧ _
  rw [if_neg (fun h => m6_ne (n := sgn s n (i + 1) - lo) (by omega) h.symm), take_out p2 (x := 97) (y := 8) (lo := 97) (w := 8) rfl rfl (by omega) (by omega), bs, bs]
  exact ⟨_, rfl, PD_s p2 (by omega)⟩
/-- the three that open a pair: sign, kind, from where the first is counted -/
theorem pair_read {s : Nat → Nat} {n i : Nat} {D : pStt} (h : PD s n i D) {c lo : Nat} {x : Int32} (hc : (c = 116 ∧ x = 2 ∧ lo = 48) ∨ (c = 119 ∧ x = 0 ∧ lo = 97) ∨ (c = 120 ∧ x = 1 ∧ lo = 97)) (e : sgn s n i = c) : f_X3_readAct D = (f_X3_readPair x (nI lo) 8 (sI D 3 (-6))).bind (fun u_12 => (asB u_12.1).bind (fun b_13 => some (b_13, u_12.2))) := by
  rw [read_no h (by omega), e]
  rcases hc with ⟨rfl, rfl, rfl⟩ | ⟨rfl, rfl, rfl⟩ | ⟨rfl, rfl, rfl⟩ <;> rfl
theorem ra_pair {s : Nat → Nat} {n i : Nat} {c lo : Nat} {x : Int32} (hc : (c = 116 ∧ x = 2 ∧ lo = 48) ∨ (c = 119 ∧ x = 0 ∧ lo = 97) ∨ (c = 120 ∧ x = 1 ∧ lo = 97)) (e : sgn s n i = c) (h1 : lo ≤ sgn s n (i + 1)) (h2 : sgn s n (i + 1) < lo + 8) (h3 : 97 ≤ sgn s n (i + 2)) (h4 : sgn s n (i + 2) < 105) : RA s n i (i + 3) x (nI (sgn s n (i + 1) - lo)) (nI (sgn s n (i + 2) - 97)) := by
  intro D h
  have hi := sgn_lt (s := s) (n := n) (i := i) (by omega)
  obtain ⟨D', e1, e2, e3, e4, e5⟩ := pair_ok (D := sI D 3 (-6)) (PD_s h (by omega)) hi x (y := nI lo) rfl (by omega) h1 h2 h3 h4
  rw [pair_read h hc e, e1]
  refine ⟨D', rfl, e2, Or.inl ⟨_, _, by omega, by omega, e4, e5, rfl, rfl, ?_⟩⟩
  rw [e3]
  rcases hc with ⟨rfl, rfl, rfl⟩ | ⟨rfl, rfl, rfl⟩ | ⟨rfl, rfl, rfl⟩
  · exact Or.inr (Or.inr ⟨rfl, rfl⟩)
  · exact Or.inl ⟨rfl, rfl⟩
  · exact Or.inr (Or.inl ⟨rfl, rfl⟩)
theorem rf_pair1 {s : Nat → Nat} {n i : Nat} {c lo : Nat} {x : Int32} (hc : (c = 116 ∧ x = 2 ∧ lo = 48) ∨ (c = 119 ∧ x = 0 ∧ lo = 97) ∨ (c = 120 ∧ x = 1 ∧ lo = 97)) (e : sgn s n i = c) (h1 : sgn s n (i + 1) < lo ∨ lo + 8 ≤ sgn s n (i + 1)) : RF s n i (i + 1) := by
  intro D h
  have hi := sgn_lt (s := s) (n := n) (i := i) (by omega)
  obtain ⟨D', e1, e2⟩ := pair_f1 (D := sI D 3 (-6)) (PD_s h (by omega)) hi x (y := nI lo) rfl (by omega) h1
  rw [pair_read h hc e, e1]
  exact ⟨D', rfl, e2⟩
theorem rf_pair2 {s : Nat → Nat} {n i : Nat} {c lo : Nat} {x : Int32} (hc : (c = 116 ∧ x = 2 ∧ lo = 48) ∨ (c = 119 ∧ x = 0 ∧ lo = 97) ∨ (c = 120 ∧ x = 1 ∧ lo = 97)) (e : sgn s n i = c) (h1 : lo ≤ sgn s n (i + 1)) (h2 : sgn s n (i + 1) < lo + 8) (h3 : sgn s n (i + 2) < 97 ∨ 105 ≤ sgn s n (i + 2)) : RF s n i (i + 2) := by
  intro D h
  have hi := sgn_lt (s := s) (n := n) (i := i) (by omega)
  obtain ⟨D', e1, e2⟩ := pair_f2 (D := sI D 3 (-6)) (PD_s h (by omega)) hi x (y := nI lo) rfl (by omega) h1 h2 h3
  rw [pair_read h hc e, e1]
  exact ⟨D', rfl, e2⟩
