theorem relD_of {d M : pStt} (h : relD d M) : ∃ (s : Nat → Nat) (n : Nat), MPd s n M ∧ (∀ D : pStt, D.2 = d.2 → D.1 0 = d.1 0 → D.1 1 = 0 → PD s n 0 D) ∧ ∀ (D M' : pStt) (f : Nat), PD s n f D → MPd s n M' → relD D M' := by
  obtain ⟨n, hn, h1, h2, h3⟩ := h
  have hs : ∀ j, j < n → 33 ≤ (d.2 0 j).toBitVec.toNat ∧ (d.2 0 j).toBitVec.toNat ≤ 126 ∧ d.2 0 j = nI (d.2 0 j).toBitVec.toNat ∧ M.2 12 j = nI (d.2 0 j).toBitVec.toNat := by
    intro j hj
    obtain ⟨a, a1, a2, a3, a4⟩ := h3 j hj
    rw [a3, pk_tn (by omega)]
    exact ⟨a1, a2, rfl, a4⟩
  refine ⟨fun j => (d.2 0 j).toBitVec.toNat, n, ⟨hn, h2, fun j hj => ⟨(hs j hj).2.1, (hs j hj).2.2.2⟩⟩, fun D e1 e2 e3 => ⟨hn, by omega, by rw [e2]; exact h1, e3, fun j hj => ⟨(hs j hj).2.1, by rw [e1]; exact (hs j hj).2.2.1⟩⟩, fun D M' f p m => ?_⟩
  exact ⟨n, hn, p.2.2.1, m.2.1, fun j hj => ⟨_, (hs j hj).1, (hs j hj).2.1, (p.2.2.2.2 j hj).2, (m.2.2 j hj).2⟩⟩
theorem fault_ex {d M : pStt} (h : relD d M) : (∃ (v : Nat) (D' M' : pStt), v ≤ 60 ∧ f_X3_findFault d = some (nI v, D') ∧ f_X9_fault M = some (nI v, M') ∧ relD D' M' ∧ PK (sI M 5 0) M' 0) ∨ (∃ (D' M' : pStt) (s : Nat → Nat) (n Q : Nat) (pos : Nat → Nat), f_X3_findFault d = some (-6, D') ∧ f_X9_fault M = some (-6, M') ∧ relD D' M' ∧ PK (sI M 5 0) M' 0 ∧ PD s n n D' ∧ (∀ (D M' : pStt) (f : Nat), PD s n f D → MPd s n M' → relD D M') ∧ MPd s n M' ∧ M'.1 5 = nI Q ∧ Q ≤ n ∧ pos 0 = 0 ∧ pos Q = n ∧ ∀ e, e < Q → RA s n (pos e) (pos (e + 1)) (M'.2 13 e) (M'.2 14 e) (M'.2 15 e)) := by
  obtain ⟨s, n, hM, hD, hR⟩ := relD_of h
  have p0 := hD (sI d 1 0) rfl rfl rfl
  have m0 : MPd s n (sI M 5 0) := hM
  have h60 := hM.1
  rcases all_acts (n - 0) 0 0 (sI d 1 0) (sI M 5 0) 2000 2000 (Nat.le_refl _) (Nat.le_refl _) p0 m0 rfl (by omega) (by omega) with ⟨f, D', M', g1, g2, g3, g4, g5, g6⟩ | ⟨D', M', Q, pos, g1, g2, g3, g4, g5, g6, g7, g8, g9, g10⟩
  · left
    have g3 : fl_X3_findFault_6 2000 0 (sI d 1 0) = some (.inl D') := g3
    have mm := MPd_k m0 g5
    refine ⟨f, D', M', by omega, ?_, ?_, hR D' M' f g4 mm, g5⟩
    · unfold f_X3_findFault f_X3_rewind
      rw [bs, bs, g3, bs]
      show some (D'.1 1, D') = _
      rw [g4.2.2.2.1]
    · unfold f_X9_fault
      rw [bs]
      rcases g6 with ⟨_, g6⟩ | ⟨e, st, s0, g6⟩
      · have g6 : fl_X9_fault_9 2000 0 0 (sI M 5 0) = some (.inl (nI f, M')) := g6
        rw [g6]; rfl
      · have g6 : fl_X9_fault_9 2000 0 0 (sI M 5 0) = some (.inr (st, M')) := g6
        rw [g6, bs]
        show (if st = 0 then some (-6) else some (M'.1 4) : Option Int32).bind _ = _
        rw [if_neg s0, mm.2.1, e]; rfl
  · right
    have g1 : fl_X3_findFault_6 2000 0 (sI d 1 0) = some (.inr D') := g1
    have g3 : fl_X9_fault_9 2000 0 0 (sI M 5 0) = some (.inr (0, M')) := g3
    have mm := MPd_k m0 g4
    refine ⟨D', M', s, n, Q, pos, ?_, ?_, hR D' M' n g2 mm, g4, g2, hR, mm, g5, g7, g8, g9, fun e he => g10 e (by omega) he⟩
    · unfold f_X3_findFault f_X3_rewind
      rw [bs, bs, g1]; rfl
    · unfold f_X9_fault
      rw [bs, g3]; rfl
theorem PK_keep {M M' : pStt} {x : Int32} {q : Nat} (h : PK (sI M 5 x) M' q) : (∀ q, q < 36 → fl2 M' q = fl2 M q) ∧ keep M M' := by
  refine ⟨fun q hq => ?_, fun i a b => by rw [h.1 i (by omega), sI_o (by omega)], fun a h1 h2 => by rw [h.2.1 a (by omega) (by omega) (by omega)]; rfl⟩
  by_cases c : q < 2
  · rw [fl2_int _ c, fl2_int _ c, h.1 q (by omega), sI_o (by omega)]
  · have := (decb2 q hq (by omega)).1
    rw [fl2_big _ c, fl2_big _ c, h.2.1 (decB q) (by omega) (by omega) (by omega)]; rfl
theorem cpl_fault : cp_fault := by
  intro c r g d i0 i1 M hV
  have fin : ∀ (D' M' : pStt), relD D' M' → PK (sI M 5 0) M' 0 → IV c r g D' i0 i1 M' := by
    intro D' M' h1 h2
    obtain ⟨k1, k2⟩ := PK_keep h2
    obtain ⟨a1, a2, a3, a4, a5, a6⟩ := IV_keep hV k1 k2
    exact ⟨a1, a2, a3, h1, a5, a6⟩
  rcases fault_ex hV.2.2.2.1 with ⟨v, D', M', _, e1, e2, e3, e4⟩ | ⟨D', M', s, n, Q, pos, e1, e2, e3, e4, _⟩
  · exact ⟨(nI v, D'), (nI v, M'), by unfold f_X8_fault; rw [e1]; rfl, e2, rfl, fin D' M' e3 e4⟩
  · exact ⟨(-6, D'), (-6, M'), by unfold f_X8_fault; rw [e1]; rfl, e2, rfl, fin D' M' e3 e4⟩
