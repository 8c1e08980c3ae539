/-! one act, read by both -/
def MPd (s : Nat → Nat) (n : Nat) (M : pStt) : Prop := n ≤ 60 ∧ M.1 4 = nI n ∧ ∀ j, j < n → s j ≤ 126 ∧ M.2 12 j = nI (s j)
theorem MPd_k {s : Nat → Nat} {n q : Nat} {M M' : pStt} (h : MPd s n M) (k : PK M M' q) : MPd s n M' :=
  ⟨h.1, by rw [k.1 4 (by omega)]; exact h.2.1, fun j hj => by rw [k.2.1 12 (by omega) (by omega) (by omega)]; exact h.2.2 j hj⟩
theorem fl_end {s : Nat → Nat} {n : Nat} {M : pStt} (h : MPd s n M) (F : Nat) (st : Int32) : fl_X9_fault_9 (F + 1) st (nI n) M = some (.inr (st, M)) := by
  rw [fl_X9_fault_9, h.2.1, if_pos (Int32.le_refl _)]
theorem fl_go {s : Nat → Nat} {n i : Nat} {M M' : pStt} (h : MPd s n M) (hi : i < n) (F : Nat) {st st' : Int32} (e : f_X9_readOn st (nI (sgn s n i)) M = some (st', M')) (h0 : 0 ≤ st') : fl_X9_fault_9 (F + 1) st (nI i) M = fl_X9_fault_9 F st' (nI (i + 1)) M' := by
  have h60 := h.1
  have hs : sgn s n i = s i := if_pos hi
  rw [hs] at e
  rw [fl_X9_fault_9, h.2.1, if_neg (nI_ge hi (by omega)), ldn _ (by omega : i < 60) (by omega), (h.2.2 i hi).2, bs, e, bs, if_pos h0, show nI i + 1 = nI (i + 1) from nI_1 i]
theorem fl_no {s : Nat → Nat} {n i : Nat} {M M' : pStt} (h : MPd s n M) (hi : i < n) (F : Nat) {st : Int32} (e : f_X9_readOn st (nI (sgn s n i)) M = some (-6, M')) : fl_X9_fault_9 (F + 1) st (nI i) M = some (.inl (nI i, M')) := by
  have h60 := h.1
  have hs : sgn s n i = s i := if_pos hi
  rw [hs] at e
  rw [fl_X9_fault_9, h.2.1, if_neg (nI_ge hi (by omega)), ldn _ (by omega : i < 60) (by omega), (h.2.2 i hi).2, bs, e, bs, if_neg (show ¬ (0 : Int32) ≤ -6 by decide)]
/-- the reference finds a fault at f -/
def FF (s : Nat → Nat) (n q : Nat) (st : Int32) (i f : Nat) (M : pStt) : Prop := f ≤ n ∧ ∀ F, ∃ M', PK M M' q ∧ ((f < n ∧ fl_X9_fault_9 (F + 4) st (nI i) M = some (.inl (nI f, M'))) ∨ (f = n ∧ ∃ st', st' ≠ 0 ∧ fl_X9_fault_9 (F + 4) st (nI i) M = some (.inr (st', M'))))
theorem sgn_200 {s : Nat → Nat} {n : Nat} {M : pStt} (h : MPd s n M) (i : Nat) : sgn s n i < 200 := by
  unfold sgn
  by_cases c : i < n
  · rw [if_pos c]; have := (h.2.2 i c).1; omega
  · rw [if_neg c]; omega
theorem sgn_0 {s : Nat → Nat} {n i : Nat} (h : n ≤ i) : sgn s n i = 0 := if_neg (by omega)
def OA (s : Nat → Nat) (n q i : Nat) (M : pStt) : Prop := (∃ f, i ≤ f ∧ RF s n i f ∧ f ≤ n ∧ ∀ F, ∃ M', PK M M' q ∧ ((f < n ∧ fl_X9_fault_9 (F + 4) 0 (nI i) M = some (.inl (nI f, M'))) ∨ (f = n ∧ ∃ st', st' ≠ 0 ∧ fl_X9_fault_9 (F + 4) 0 (nI i) M = some (.inr (st', M'))))) ∨ (∃ j k a b, i < j ∧ j ≤ n ∧ j ≤ i + 3 ∧ RA s n i j k a b ∧ ∃ M', AW M M' q k a b ∧ ∀ F, fl_X9_fault_9 (F + (j - i)) 0 (nI i) M = fl_X9_fault_9 F 0 (nI j) M')
theorem one_act {s : Nat → Nat} {n q i : Nat} {M : pStt} (h : MPd s n M) (hq : q < 60) (hi : i < n) (h5 : M.1 5 = nI q) : OA s n q i M := by
  rcases at0 (c := sgn s n i) h5 hq (sgn_200 h i) with ⟨e, M', a, e1, e2⟩ | ⟨e, M', a, e1, e2⟩ | ⟨x, lo, st, hst, M', e1, e2, e3, e4⟩ | ⟨⟨b1, b2⟩, M', e1, e2, e3, e4⟩ | ⟨n1, n2, n3, n4, n5, n6, M', e1, e2⟩
  · exact Or.inr ⟨i + 1, 9, a, 0, by omega, by omega, by omega, ra_hour e a 0, M', e2, fun F => by rw [show i + 1 - i = 1 by omega]; exact fl_go h hi F e1 (by decide)⟩
  · exact Or.inr ⟨i + 1, 3, a, 0, by omega, by omega, by omega, ra_pole e a 0, M', e2, fun F => by rw [show i + 1 - i = 1 by omega]; exact fl_go h hi F e1 (by decide)⟩
  · have h' := MPd_k h e3
    have hst0 : 0 ≤ st ∧ st ≠ 0 ∧ 0 ≤ st + 1 ∧ st + 1 ≠ 0 ∧ (st + 1 = 2 ∨ st + 1 = 4) ∧ ((st = 1 ∧ lo = 97) ∨ (st = 3 ∧ lo = 48)) := by
      rcases hst with ⟨_, _, rfl, rfl⟩ | ⟨_, _, rfl, rfl⟩ | ⟨_, _, rfl, rfl⟩ <;> decide
    obtain ⟨t1, t2, t3, t4, t5, t6⟩ := hst0
    obtain ⟨c, hcc, ec⟩ : ∃ c, ((c = 116 ∧ x = 2 ∧ lo = 48) ∨ (c = 119 ∧ x = 0 ∧ lo = 97) ∨ (c = 120 ∧ x = 1 ∧ lo = 97)) ∧ sgn s n i = c := by
      refine ⟨_, ?_, rfl⟩
      rcases hst with ⟨a1, a2, a3, _⟩ | ⟨a1, a2, a3, _⟩ | ⟨a1, a2, a3, _⟩
      · exact Or.inl ⟨a1, a2, a3⟩
      · exact Or.inr (Or.inl ⟨a1, a2, a3⟩)
      · exact Or.inr (Or.inr ⟨a1, a2, a3⟩)
    have hlo : 0 < lo := by omega
    by_cases hi1 : i + 1 < n
    · rcases at13 (c := sgn s n (i + 1)) t6 e2 hq (sgn_200 h (i + 1)) with ⟨⟨c1, c2⟩, M2, f1, f2, f3, f4, f5⟩ | ⟨c1, f1⟩
      · have h2 := MPd_k h' f3
        by_cases hi2 : i + 2 < n
        · rcases at24 (c := sgn s n (i + 2)) t5 f2 hq (sgn_200 h (i + 2)) with ⟨⟨d1, d2⟩, M3, g1, g2⟩ | ⟨d1, g1⟩
          · refine Or.inr ⟨i + 3, x, nI (sgn s n (i + 1) - lo), nI (sgn s n (i + 2) - 97), by omega, by omega, by omega, ra_pair hcc ec c1 c2 d1 d2, M3, ?_, fun F => ?_⟩
            · rw [f4, e4, f5] at g2
              exact AW_t e3 (AW_t f3 g2)
            · rw [show i + 3 - i = 3 by omega, show F + 3 = F + 2 + 1 from rfl, fl_go h hi (F + 2) e1 t1, fl_go h' hi1 (F + 1) f1 t3, fl_go h2 hi2 F g1 (by decide)]
          · refine Or.inl ⟨i + 2, by omega, rf_pair2 hcc ec c1 c2 d1, by omega, fun F => ⟨M2, PK_t e3 f3, Or.inl ⟨hi2, ?_⟩⟩⟩
            rw [show F + 4 = F + 3 + 1 from rfl, fl_go h hi (F + 3) e1 t1, fl_go h' hi1 (F + 2) f1 t3, fl_no h2 hi2 (F + 1) g1]
        · have hn : i + 2 = n := by omega
          refine Or.inl ⟨i + 2, by omega, rf_pair2 hcc ec c1 c2 (by rw [sgn_0 (by omega)]; omega), by omega, fun F => ⟨M2, PK_t e3 f3, Or.inr ⟨hn, _, t4, ?_⟩⟩⟩
          rw [show F + 4 = F + 3 + 1 from rfl, fl_go h hi (F + 3) e1 t1, fl_go h' hi1 (F + 2) f1 t3, show i + 1 + 1 = n from hn, fl_end h2 (F + 1)]
      · refine Or.inl ⟨i + 1, by omega, rf_pair1 hcc ec c1, by omega, fun F => ⟨M', e3, Or.inl ⟨hi1, ?_⟩⟩⟩
        rw [show F + 4 = F + 3 + 1 from rfl, fl_go h hi (F + 3) e1 t1, fl_no h' hi1 (F + 2) f1]
    · have hn : i + 1 = n := by omega
      refine Or.inl ⟨i + 1, by omega, rf_pair1 hcc ec (by rw [sgn_0 (by omega)]; omega), by omega, fun F => ⟨M', e3, Or.inr ⟨hn, _, t2, ?_⟩⟩⟩
      rw [show F + 4 = F + 3 + 1 from rfl, fl_go h hi (F + 3) e1 t1, hn, fl_end h' (F + 2)]
  · have h' := MPd_k h e3
    by_cases hi1 : i + 1 < n
    · rcases at5 (c := sgn s n (i + 1)) e2 hq (sgn_200 h (i + 1)) with ⟨k, hk, M2, f1, f2⟩ | ⟨c1, f1⟩ | ⟨⟨c1, c2⟩, M2, f1, f2⟩ | ⟨c1, c2, c3, c4, c5, f1⟩
      · rw [e4] at f2
        obtain ⟨c, hcc, ec⟩ : ∃ c, ((c = 33 ∧ k = 8) ∨ (c = 40 ∧ k = 4) ∨ (c = 41 ∧ k = 5)) ∧ sgn s n (i + 1) = c := ⟨_, hk, rfl⟩
        refine Or.inr ⟨i + 2, k, nI (sgn s n i - 65), 0, by omega, by omega, by omega, ra_lone hcc b1 b2 ec 0, M2, AW_t e3 f2, fun F => ?_⟩
        rw [show i + 2 - i = 2 by omega, show F + 2 = F + 1 + 1 from rfl, fl_go h hi (F + 1) e1 (by decide), fl_go h' hi1 F f1 (by decide)]
      · by_cases hi2 : i + 2 < n
        · rcases at6 (c := sgn s n (i + 2)) e2 hq (sgn_200 h (i + 2)) with ⟨⟨d1, d2⟩, M3, g1, g2⟩ | ⟨d1, g1⟩
          · rw [e4] at g2
            refine Or.inr ⟨i + 3, 7, nI (sgn s n i - 65), nI (sgn s n (i + 2) - 48), by omega, by omega, by omega, ra_take b1 b2 c1 d1 d2, M3, AW_t e3 g2, fun F => ?_⟩
            rw [show i + 3 - i = 3 by omega, show F + 3 = F + 2 + 1 from rfl, fl_go h hi (F + 2) e1 (by decide), fl_go h' hi1 (F + 1) f1 (by decide), fl_go h' hi2 F g1 (by decide)]
          · refine Or.inl ⟨i + 2, by omega, rf_take b1 b2 c1 d1, by omega, fun F => ⟨M', e3, Or.inl ⟨hi2, ?_⟩⟩⟩
            rw [show F + 4 = F + 3 + 1 from rfl, fl_go h hi (F + 3) e1 (by decide), fl_go h' hi1 (F + 2) f1 (by decide), fl_no h' hi2 (F + 1) g1]
        · have hn : i + 2 = n := by omega
          refine Or.inl ⟨i + 2, by omega, rf_take b1 b2 c1 (by rw [sgn_0 (by omega)]; omega), by omega, fun F => ⟨M', e3, Or.inr ⟨hn, 6, by decide, ?_⟩⟩⟩
          rw [show F + 4 = F + 3 + 1 from rfl, fl_go h hi (F + 3) e1 (by decide), fl_go h' hi1 (F + 2) f1 (by decide), show i + 1 + 1 = n from hn, fl_end h' (F + 1)]
      · rw [e4] at f2
        refine Or.inr ⟨i + 2, 6, nI (sgn s n i - 65), nI (sgn s n (i + 1) - 97), by omega, by omega, by omega, ra_go b1 b2 c1 c2, M2, AW_t e3 f2, fun F => ?_⟩
        rw [show i + 2 - i = 2 by omega, show F + 2 = F + 1 + 1 from rfl, fl_go h hi (F + 1) e1 (by decide), fl_go h' hi1 F f1 (by decide)]
      · refine Or.inl ⟨i + 1, by omega, rf_deed b1 b2 c5 c1 c2 c3 c4, by omega, fun F => ⟨M', e3, Or.inl ⟨hi1, ?_⟩⟩⟩
        rw [show F + 4 = F + 3 + 1 from rfl, fl_go h hi (F + 3) e1 (by decide), fl_no h' hi1 (F + 2) f1]
    · have hn : i + 1 = n := by omega
      have z := sgn_0 (s := s) (n := n) (i := i + 1) (by omega)
      refine Or.inl ⟨i + 1, by omega, rf_deed b1 b2 (by omega) (by omega) (by omega) (by omega) (by omega), by omega, fun F => ⟨M', e3, Or.inr ⟨hn, 5, by decide, ?_⟩⟩⟩
      rw [show F + 4 = F + 3 + 1 from rfl, fl_go h hi (F + 3) e1 (by decide), hn, fl_end h' (F + 2)]
  · refine Or.inl ⟨i, Nat.le_refl _, rf_none n6 n1 n2 n3 n4 n5, by omega, fun F => ⟨M', e2, Or.inl ⟨hi, ?_⟩⟩⟩
    rw [show F + 4 = F + 3 + 1 from rfl, fl_no h hi (F + 3) e1]
