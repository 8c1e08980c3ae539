/-! thing, person, told -/
theorem isWm_cases (x : Int32) : (x = -1 ∧ f_X8_isWithin x (-1) 7 = some 1 ∧ f_X8_isWithin x 0 7 = some 0) ∨ (∃ j, j ≤ 7 ∧ x = nI j ∧ f_X8_isWithin x (-1) 7 = some 1 ∧ f_X8_isWithin x 0 7 = some 1) ∨ (f_X8_isWithin x (-1) 7 = some 0 ∧ f_X8_isWithin x 0 7 = some 0 ∧ ¬ x = -1) := by
  rcases isW_cases x (hi := 7) (n := 7) rfl (by omega) with ⟨j, hj, rfl⟩ | e
  · refine Or.inr (Or.inl ⟨j, hj, rfl, isW1 ?_ (nI_le (b := 7) hj (by decide)), isWn (n := 7) rfl hj (by decide)⟩)
    rw [Int32.le_iff_toInt_le, nI_toInt (by omega)]
    have : (-1 : Int32).toInt = -1 := by decide
    omega
  · by_cases h1 : x = -1
    · subst h1
      exact Or.inl ⟨rfl, by decide, e⟩
    · refine Or.inr (Or.inr ⟨isW0 (fun q => ?_), e, h1⟩)
      have q1 := q.1
      rw [Int32.le_iff_toInt_le] at q1
      have t1 : (-1 : Int32).toInt = -1 := by decide
      have : ¬ x.toInt = -1 := fun e => h1 (Int32.toInt_inj.mp (e.trans t1.symm))
      have : f_X8_isWithin x 0 7 = some 1 := isW1 (by rw [Int32.le_iff_toInt_le]; show (0 : Int) ≤ x.toInt; omega) q.2
      rw [this] at e
      cases e
theorem cpl_thing : cp_thing := by
  intro c r g d i0 i1 M x1 x2 hV
  have hV0 := hV
  obtain ⟨⟨a1, a2, a3, a4, ⟨z, hz1, hz2, hz3, hz4⟩, a6, a8⟩, hR, hS, hD, hI0, hI1⟩ := hV
  rcases isW_cases x1 (hi := 7) (n := 7) rfl (by omega) with ⟨i, hi, rfl⟩ | e
  · have w1 := isWn (j := i) (n := 7) (hi := 7) rfl hi (by omega)
    have hi8 : i < 8 := by omega
    obtain ⟨v, v1, v2⟩ := cornerT hi8 (a2 i hi8)
    have key : ∀ (p q : Int32), relT p q → (∀ k, k < 6 → ¬ p = nI (8 + k)) → relC (sA c 1 (upd (c.2 1) i p)) (sA M 1 (upd (M.2 1) i q)) := by
      intro p q hpq hnk
      refine ⟨a1, fun j hj => ?_, a3, a4, ⟨z, hz1, hz2, hz3, fun k hk he => ?_⟩, a6, a8⟩
      · show relT (upd (c.2 1) i p j) (upd (M.2 1) i q j)
        unfold upd
        by_cases e : j = i
        · rw [if_pos e, if_pos e]; exact hpq
        · rw [if_neg e, if_neg e]; exact a2 j hj
      · obtain ⟨y1, y2, y3⟩ := hz4 k hk he
        refine ⟨y1, y2, fun j hj => ?_⟩
        show ¬ upd (c.2 1) i p j = nI (8 + k)
        unfold upd
        by_cases e : j = i
        · rw [if_pos e]; exact hnk k hk
        · rw [if_neg e]; exact y3 j hj
    rcases isWm_cases x2 with ⟨rfl, q1, q2⟩ | ⟨j, hj, rfl, q1, q2⟩ | ⟨q1, q2, q3⟩
    · refine ⟨(v, sA c 1 (upd (c.2 1) i (-1))), (v, sA M 1 (upd (M.2 1) i (-6))), ?_, ?_, rfl, key _ _ (Or.inl ⟨rfl, rfl⟩) (fun k hk => m1_ne (by omega)), hR, hS, hD, hI0, hI1⟩
      · unfold f_X8_thing
        rw [X8_isThing, X8_isCorner, w1, q2, v1, stAn c 1 _ hi8 (by omega)]; rfl
      · unfold f_X9_thing
        rw [X9_isThing, inm7, w1, q1, v2]
        simp only [bs]
        rw [if_neg (by decide), if_neg (by decide), if_neg (by decide)]
        simp only [bs]
        rw [stAn M 1 _ hi8 (by omega)]; rfl
    · refine ⟨(v, sA c 1 (upd (c.2 1) i (nI j))), (v, sA M 1 (upd (M.2 1) i (nI j))), ?_, ?_, rfl, key _ _ (Or.inr (Or.inl ⟨j, by omega, rfl, rfl⟩)) (fun k hk e => ?_), hR, hS, hD, hI0, hI1⟩
      · unfold f_X8_thing
        rw [X8_isThing, X8_isCorner, w1, q2, v1, stAn c 1 _ hi8 (by omega)]; rfl
      · unfold f_X9_thing
        rw [X9_isThing, inm7, w1, q1, v2]
        simp only [bs]
        rw [if_neg (by decide), if_neg (by decide), if_pos (nI_pos' (by omega))]
        simp only [bs]
        rw [stAn M 1 _ hi8 (by omega)]; rfl
      · rw [nI_eq (by omega) (by omega)] at e
        omega
    · refine ⟨(-1, c), (-1, M), ?_, ?_, rfl, hV0⟩
      · unfold f_X8_thing
        rw [X8_isThing, X8_isCorner, w1, q2]
        simp [q3]
      · unfold f_X9_thing
        rw [X9_isThing, inm7, w1, q1]; rfl
  · refine ⟨(-1, c), (-1, M), ?_, ?_, rfl, hV0⟩
    · unfold f_X8_thing; rw [X8_isThing, e]; rfl
    · unfold f_X9_thing; rw [X9_isThing, e]; rfl
theorem cornerP {c M : pStt} {k : Nat} (hk : k < 6) (h : relP (c.2 2 k) (M.2 2 k)) : f_X1_cornerOfPerson (nI k) c = some (M.2 2 k) := by
  unfold f_X1_cornerOfPerson
  rw [ldn _ hk (by omega)]
  simp only [bs]
  rcases h with ⟨e1, e2⟩ | ⟨n, hn, e1, e2⟩
  · rw [e1, e2]; rfl
  · rw [e1, e2, if_neg (fun e => m1_ne (by omega) e.symm)]; rfl
theorem in0n (x : Int32) {b : Int64} {hi : Int32} (h : b = hi.toInt64) : f_X9_in x.toInt64 0 b = f_X8_isWithin x 0 hi := inW x 0 hi (by decide) h
theorem cpl_person : cp_person := by
  intro c r g d i0 i1 M x1 x2 x3 hV
  have hV0 := hV
  obtain ⟨hC, hR, hS, hD, hI0, hI1⟩ := hV
  rcases isW_cases x1 (hi := 5) (n := 5) rfl (by omega) with ⟨k, hk, rfl⟩ | e
  · have w1 := isWn (j := k) (n := 5) (hi := 5) rfl hk (by omega)
    have hk6 : k < 6 := by omega
    have hcp := cornerP (c := c) (M := M) hk6 (hC.2.2.1 k hk6)
    rcases isWm_cases x2 with ⟨rfl, q1, q2⟩ | ⟨j, hj, rfl, q1, q2⟩ | ⟨q1, q2, q3⟩
    · rcases isW_cases x3 (hi := 0) (n := 0) rfl (by omega) with ⟨n, hn, rfl⟩ | e3
      · have hn0 : n = 0 := by omega
        subst hn0
        obtain ⟨c', f', p1, p2, p3⟩ := put_rel hC hk6 (a := -1) (b := -6) (Or.inl ⟨rfl, rfl⟩) (n := 0) (by omega) (fun _ => rfl)
        refine ⟨(M.2 2 k, c'), (M.2 2 k, sA (sA (sA (sA M 1 f') 2 (upd (M.2 2) k (-6))) 3 (upd (M.2 3) k (nI 0))) 4 (upd (M.2 4) k 0)), ?_, ?_, rfl, p3, hR, hS, hD, hI0, hI1⟩
        · have p1 : f_X1_put (nI k) (-1) 0 c = some c' := p1
          have w0 : f_X8_isWithin (nI 0) 0 0 = some 1 := by decide
          unfold f_X8_person
          rw [X8_isPerson, X8_isCorner, w1, q2, hcp]
          show ((f_X8_isWithin (nI 0) 0 0).bind _) = _
          rw [w0]
          show ((f_X1_put (nI k) (-1) 0 c).bind _) = _
          rw [p1]; rfl
        · unfold f_X9_person
          rw [X9_isPerson, inm7, w1, q1, ldn _ hk6 (by omega), p2]
          simp only [bs]
          rw [if_neg (by decide), if_neg (by decide), if_neg (by decide), if_neg (by decide)]
          simp only [bs]
          rw [in0n (nI 0) (b := 0) (hi := 0) (by decide), show f_X8_isWithin (nI 0) 0 0 = some 1 from by decide]
          simp only [bs]
          rw [if_neg (by decide), stAn _ 2 _ hk6 (by omega), bs, stAn _ 3 _ hk6 (by omega), bs, stAn _ 4 _ hk6 (by omega)]
          rfl
      · refine ⟨(-2, c), (-2, M), ?_, ?_, rfl, hV0⟩
        · unfold f_X8_person
          rw [X8_isPerson, X8_isCorner, w1, q2]
          show ((f_X8_isWithin x3 0 0).bind _) = _
          rw [e3]; rfl
        · unfold f_X9_person
          rw [X9_isPerson, inm7, w1, q1]
          simp only [bs]
          rw [if_neg (by decide), if_neg (by decide), if_neg (by decide)]
          simp only [bs]
          rw [in0n x3 (b := 0) (hi := 0) (by decide), e3]; rfl
    · have jn : ¬ nI j = -1 := fun e => m1_ne (by omega) e.symm
      have j0 : (0 : Int32) ≤ nI j := nI_pos' (by omega)
      rcases isW_cases x3 (hi := 9) (n := 9) rfl (by omega) with ⟨n, hn, rfl⟩ | e3
      · have w3 := isWn (j := n) (n := 9) (hi := 9) rfl hn (by omega)
        obtain ⟨c', f', p1, p2, p3⟩ := put_rel hC hk6 (a := nI j) (b := nI j) (Or.inr ⟨j, by omega, rfl, rfl⟩) (n := n) hn (fun e => absurd e jn)
        refine ⟨(M.2 2 k, c'), (M.2 2 k, sA (sA (sA (sA M 1 f') 2 (upd (M.2 2) k (nI j))) 3 (upd (M.2 3) k (nI n))) 4 (upd (M.2 4) k 0)), ?_, ?_, rfl, p3, hR, hS, hD, hI0, hI1⟩
        · unfold f_X8_person
          rw [X8_isPerson, X8_isCorner, w1, q2]
          simp only [bs]
          rw [if_neg (by decide), if_neg (by decide), if_neg jn]
          simp only [bs]
          rw [w3, hcp, p1]; rfl
        · unfold f_X9_person
          rw [X9_isPerson, inm7, w1, q1, ldn _ hk6 (by omega), p2]
          simp only [bs]
          rw [if_neg (by decide), if_neg (by decide), if_pos j0, if_pos j0]
          simp only [bs]
          rw [in0n (nI n) (b := 9) (hi := 9) (by decide), w3]
          simp only [bs]
          rw [if_neg (by decide), stAn _ 2 _ hk6 (by omega), bs, stAn _ 3 _ hk6 (by omega), bs, stAn _ 4 _ hk6 (by omega)]
          rfl
      · refine ⟨(-2, c), (-2, M), ?_, ?_, rfl, hV0⟩
        · unfold f_X8_person
          rw [X8_isPerson, X8_isCorner, w1, q2]
          simp only [bs]
          rw [if_neg (by decide), if_neg (by decide), if_neg jn]
          simp only [bs]
          rw [e3]; rfl
        · unfold f_X9_person
          rw [X9_isPerson, inm7, w1, q1]
          simp only [bs]
          rw [if_neg (by decide), if_neg (by decide), if_pos j0]
          simp only [bs]
          rw [in0n x3 (b := 9) (hi := 9) (by decide), e3]; rfl
    · refine ⟨(-1, c), (-1, M), ?_, ?_, rfl, hV0⟩
      · unfold f_X8_person
        rw [X8_isPerson, X8_isCorner, w1, q2]
        simp [q3]
      · unfold f_X9_person
        rw [X9_isPerson, inm7, w1, q1]; rfl
  · refine ⟨(-1, c), (-1, M), ?_, ?_, rfl, hV0⟩
    · unfold f_X8_person; rw [X8_isPerson, e]; rfl
    · unfold f_X9_person; rw [X9_isPerson, e]; rfl
theorem sitsN {c M : pStt} (h : relC c M) {k : Nat} (hk : k < 6) : f_X1_sitsAsNumber (nI k) c = some (M.2 4 k) := by
  obtain ⟨a1, a2, a3, a4, ⟨z, hz1, hz2, hz3, hz4⟩, a6, a8⟩ := h
  unfold f_X1_sitsAsNumber
  rw [hz2, holdsN (by omega) (by omega), hz3 k hk]
  cases z.testBit k <;> rfl
theorem poleN {c M : pStt} (h : relC c M) : f_X1_poleAsNumber c = some (M.1 0) := by
  obtain ⟨a1, a2, a3, a4, a5, ⟨a6, a7⟩, a8⟩ := h
  unfold f_X1_poleAsNumber
  rw [a6]
  rcases a7 with e | e <;> (rw [e]; rfl)
theorem tellAll {c r g d M : pStt} {i0 i1 : Option (pStt × pStt × pStt)} (hV : IV c r g d i0 i1 M) (x : Int32) : ∃ v, f_X8_tellOfAll x g r c d = some v ∧ f_X9_toldOfAll x M = some v := by
  obtain ⟨hC, ⟨nr, hnr, r1, r2, -⟩, ⟨ns, hns, s1, s2, -⟩, ⟨nd, hnd, d1, d2, -⟩, hI0, hI1⟩ := hV
  obtain ⟨b, b1, b2⟩ := ways_eq hC.1
  have hp := poleN hC
  obtain ⟨nh, hnh, h1, h2⟩ := hC.2.2.2.2.2.2
  unfold f_X8_tellOfAll f_X9_toldOfAll
  rw [b1, b2, hp, r1, r2, s1, s2, d1, d2, h1, h2]
  simp only [bs]
  by_cases c0 : x = 0
  · rw [if_pos c0]; exact ⟨_, rfl, rfl⟩
  · rw [if_neg c0]
    by_cases c1 : x = 1
    · rw [if_pos c1]; exact ⟨_, rfl, rfl⟩
    · rw [if_neg c1]
      by_cases c2 : x = 2
      · rw [if_pos c2]; exact ⟨_, rfl, rfl⟩
      · rw [if_neg c2]
        by_cases c3 : x = 3
        · rw [if_pos c3]; exact ⟨_, rfl, rfl⟩
        · rw [if_neg c3]
          by_cases c4 : x = 4
          · rw [if_pos c4]; exact ⟨_, rfl, rfl⟩
          · rw [if_neg c4]
            by_cases c5 : x = 5
            · rw [if_pos c5]; exact ⟨_, rfl, rfl⟩
            · rw [if_neg c5]; exact ⟨_, rfl, rfl⟩
theorem in_out {x : Int32} {a b : Int64} {lo hi : Int32} (ha : a = lo.toInt64) (hb : b = hi.toInt64) (h : ¬ (lo ≤ x ∧ x ≤ hi)) : f_X9_in x.toInt64 a b = some 0 := by rw [inW x lo hi ha hb, isW0 h]
theorem in_in {x : Int32} {a b : Int64} {lo hi : Int32} (ha : a = lo.toInt64) (hb : b = hi.toInt64) (h1 : lo ≤ x) (h2 : x ≤ hi) : f_X9_in x.toInt64 a b = some 1 := by rw [inW x lo hi ha hb, isW1 h1 h2]
theorem cpl_told : cp_told := by
  intro c r g d i0 i1 M x1 hV
  have hV0 := hV
  obtain ⟨hC, hR, hS, hD, hI0, hI1⟩ := hV
  have key : ∃ v, f_X8_told x1 g r c d = some v ∧ f_X9_told x1 M = some v := by
    unfold f_X8_told f_X9_told
    rcases isW_cases x1 (hi := 69) (n := 69) rfl (by omega) with ⟨n, hn, rfl⟩ | e
    · have w := isWn (j := n) (n := 69) (hi := 69) rfl hn (by omega)
      have ed : nI n / 10 = nI (n / 10) := pk_div (a := n) (d := 10) (by omega) (by decide) (by decide)
      have er : nI n - nI n / 10 * 10 = nI (n % 10) := pk_rem (a := n) (d := 10) (by omega) (by omega) (by omega)
      rw [w, er, ed]
      simp only [bs]
      rw [if_neg (show ¬ (1 : Int32) = 0 by decide)]
      by_cases g1 : n < 10
      · have hq : nI (n / 10) = 0 := by rw [show n / 10 = 0 by omega]; rfl
        have hm : nI (n % 10) = nI n := by rw [show n % 10 = n by omega]
        obtain ⟨v, v1, v2⟩ := tellAll hV0 (nI n)
        rw [if_pos hq, hm, v1, in_out (lo := 10) (hi := 39) (by decide) (by decide) (fun q => ngeL (n := n) (y := 10) (k := 10) rfl g1 (by omega) q.1), in_out (lo := 40) (hi := 69) (by decide) (by decide) (fun q => ngeL (n := n) (y := 40) (k := 40) rfl (by omega) (by omega) q.1), v2]
        exact ⟨v, rfl, rfl⟩
      · have hq : ¬ nI (n / 10) = 0 := nI_ne0 (by omega) (by omega)
        rw [if_neg hq]
        by_cases g2 : n < 40
        · have i1' := in_in (x := nI n) (a := 10) (b := 39) (lo := 10) (hi := 39) (by decide) (by decide) (geL (k := 10) rfl (by omega) (by omega)) (nI_le (a := n) (b := 39) (by omega) (by omega))
          rw [if_neg (show ¬ (3 : Int32) < nI (n / 10) from nI_nlt (a := 3) (b := n / 10) (by omega) (by omega)), i1', X8_isPerson]
          unfold f_X9_toldOfPerson
          simp only [bs]
          rw [if_neg (show ¬ (1 : Int32) = 0 by decide), er, ed, X9_isPerson]
          rcases isW_cases (nI (n % 10)) (hi := 5) (n := 5) rfl (by omega) with ⟨k, hk, ek⟩ | e
          · rw [ek, isWn (j := k) (n := 5) (hi := 5) rfl hk (by omega)]
            have hk6 : k < 6 := by omega
            have hcp := cornerP (c := c) (M := M) hk6 (hC.2.2.1 k hk6)
            have hst := sitsN hC hk6
            obtain ⟨fn, hfn, f1, f2⟩ := hC.2.2.2.1 k hk6
            unfold f_X8_tellOfPerson f_X9_ofPerson
            rw [hcp, hst, ldn _ hk6 (by omega), ldn _ hk6 (by omega), ldn _ hk6 (by omega), ldn _ hk6 (by omega), f1, f2]
            rcases (show n / 10 = 1 ∨ n / 10 = 2 ∨ n / 10 = 3 by omega) with e3 | e3 | e3
            · rw [e3]; exact ⟨_, rfl, rfl⟩
            · rw [e3]; exact ⟨_, rfl, rfl⟩
            · rw [e3]; exact ⟨_, rfl, rfl⟩
          · rw [e]; exact ⟨_, rfl, rfl⟩
        · have o1 := in_out (x := nI n) (a := 10) (b := 39) (lo := 10) (hi := 39) (by decide) (by decide) (fun q => nI_ge (a := 39) (b := n) (by omega) (by omega) q.2)
          have o2 := in_in (x := nI n) (a := 40) (b := 69) (lo := 40) (hi := 69) (by decide) (by decide) (geL (k := 40) rfl (by omega) (by omega)) (nI_le (a := n) (b := 69) (by omega) (by omega))
          rw [if_pos (show (3 : Int32) < nI (n / 10) from nI_lt (a := 3) (b := n / 10) (by omega) (by omega)), o1, o2, X8_isCorner, X8_isThing]
          unfold f_X9_toldOfOther
          simp only [bs]
          rw [if_pos trivial, if_neg (show ¬ (1 : Int32) = 0 by decide), er, X9_isThing]
          rcases isW_cases (nI (n % 10)) (hi := 7) (n := 7) rfl (by omega) with ⟨k, hk, ek⟩ | e
          · rw [ek, isWn (j := k) (n := 7) (hi := 7) rfl hk (by omega)]
            have hk8 : k < 8 := by omega
            obtain ⟨v, v1, v2⟩ := cornerT hk8 (hC.2.1 k hk8)
            obtain ⟨u, u1, u2, -⟩ := holderT hk8 (hC.2.1 k hk8)
            unfold f_X8_tellOfThing
            rw [v1, v2, u1, u2, ldn _ hk8 (by omega), ldn _ hk8 (by omega), hC.1 k hk8]
            by_cases g3 : n < 50
            · rw [if_neg (ngeL (n := n) (y := 50) (k := 50) rfl g3 (by omega)), show n / 10 = 4 by omega]
              exact ⟨_, rfl, rfl⟩
            · rw [if_pos (geL (n := n) (y := 50) (k := 50) rfl (by omega) (by omega))]
              by_cases g4 : n < 60
              · rw [if_neg (ngeL (n := n) (y := 60) (k := 60) rfl g4 (by omega)), show n / 10 = 5 by omega]
                exact ⟨_, rfl, rfl⟩
              · rw [if_pos (geL (n := n) (y := 60) (k := 60) rfl (by omega) (by omega)), show n / 10 = 6 by omega]
                exact ⟨_, rfl, rfl⟩
          · rw [e]
            refine ⟨-2, ?_, rfl⟩
            by_cases q5 : (5 : Int32) < nI (n / 10)
            · rw [if_pos q5]; rfl
            · rw [if_neg q5]; rfl
    · have hout : ¬ ((0 : Int32) ≤ x1 ∧ x1 ≤ 69) := by
        intro q
        rw [isW1 q.1 q.2] at e
        cases e
      have tI : ∀ (k : Nat), k < 70 → ¬ x1 = nI k := by
        intro k hk ek
        subst ek
        exact hout ⟨nI_pos' (by omega), nI_le (b := 69) (by omega) (by omega)⟩
      have l1 : ∀ lo hi : Nat, lo ≤ hi → hi ≤ 69 → ¬ (nI lo ≤ x1 ∧ x1 ≤ nI hi) := by
        intro lo hi h1 h2 q
        apply hout
        have q1 := q.1
        have q2 := q.2
        rw [Int32.le_iff_toInt_le, nI_toInt (by omega)] at q1 q2
        rw [Int32.le_iff_toInt_le, Int32.le_iff_toInt_le]
        have t0 : (0 : Int32).toInt = 0 := by decide
        have t9 : (69 : Int32).toInt = 69 := by decide
        omega
      rw [e, in_out (lo := 10) (hi := 39) (by decide) (by decide) (l1 10 39 (by omega) (by omega)), in_out (lo := 40) (hi := 69) (by decide) (by decide) (l1 40 69 (by omega) (by omega))]
      unfold f_X9_toldOfAll
      rw [if_neg (show ¬ x1 = 0 from tI 0 (by omega)), if_neg (show ¬ x1 = 1 from tI 1 (by omega)), if_neg (show ¬ x1 = 2 from tI 2 (by omega)), if_neg (show ¬ x1 = 3 from tI 3 (by omega)), if_neg (show ¬ x1 = 4 from tI 4 (by omega)), if_neg (show ¬ x1 = 5 from tI 5 (by omega))]
      exact ⟨_, rfl, rfl⟩
  obtain ⟨v, v1, v2⟩ := key
  exact ⟨v, v, v1, v2, rfl, hV0⟩
