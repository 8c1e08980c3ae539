/-! all the acts, read by both -/
def BAD (s : Nat → Nat) (n q i : Nat) (D M : pStt) (N F : Nat) : Prop := ∃ (f : Nat) (D' M' : pStt), i ≤ f ∧ f ≤ n ∧ fl_X3_findFault_6 N (nI q) D = some (.inl D') ∧ PD s n f D' ∧ PK M M' q ∧ ((f < n ∧ fl_X9_fault_9 F 0 (nI i) M = some (.inl (nI f, M'))) ∨ (f = n ∧ ∃ st', st' ≠ 0 ∧ fl_X9_fault_9 F 0 (nI i) M = some (.inr (st', M'))))
def GOOD (s : Nat → Nat) (n q i : Nat) (D M : pStt) (N F : Nat) : Prop := ∃ (D' M' : pStt) (Q : Nat) (pos : Nat → Nat), fl_X3_findFault_6 N (nI q) D = some (.inr D') ∧ PD s n n D' ∧ fl_X9_fault_9 F 0 (nI i) M = some (.inr (0, M')) ∧ PK M M' q ∧ M'.1 5 = nI Q ∧ q ≤ Q ∧ Q ≤ n ∧ pos q = i ∧ pos Q = n ∧ ∀ e, q ≤ e → e < Q → RA s n (pos e) (pos (e + 1)) (M'.2 13 e) (M'.2 14 e) (M'.2 15 e)
theorem all_acts {s : Nat → Nat} {n : Nat} : ∀ (k i q : Nat) (D M : pStt) (N F : Nat), n - i ≤ k → q ≤ i → PD s n i D → MPd s n M → M.1 5 = nI q → k < N → 3 * k + 5 < F → BAD s n q i D M N F ∨ GOOD s n q i D M N F := by
  intro k
  induction k with
  | zero =>
    intro i q D M N F hk hqi hD hM h5 hN hF
    obtain ⟨N, rfl⟩ : ∃ m, N = m + 1 := ⟨N - 1, by omega⟩
    obtain ⟨F, rfl⟩ : ∃ m, F = m + 1 := ⟨F - 1, by omega⟩
    have hin : i = n := by have := hD.2.1; omega
    subst hin
    right
    have h60 := hD.1
    refine ⟨D, M, q, fun _ => i, ?_, hD, fl_end hM F 0, PK_r M q, h5, by omega, by omega, rfl, rfl, fun e h1 h2 => by omega⟩
    rw [fl_X3_findFault_6, hD.2.2.1, hD.2.2.2.1]
    by_cases c : 60 ≤ q
    · rw [if_pos (geL (n := q) (k := 60) (y := 60) rfl c (by omega))]
    · rw [if_neg (ngeL (n := q) (k := 60) (y := 60) rfl (by omega) (by omega)), if_pos (Int32.le_refl _)]
  | succ k ih =>
    intro i q D M N F hk hqi hD hM h5 hN hF
    by_cases hin : n - i ≤ k
    · exact ih i q D M N F hin hqi hD hM h5 (by omega) (by omega)
    obtain ⟨N, rfl⟩ : ∃ m, N = m + 1 := ⟨N - 1, by omega⟩
    have h60 := hD.1
    have hi : i < n := by omega
    have e3 : fl_X3_findFault_6 (N + 1) (nI q) D = (f_X3_readAct D).bind (fun u_4 => if u_4.1 = 0 then some (.inl u_4.2) else fl_X3_findFault_6 N (nI (q + 1)) u_4.2) := by
      rw [fl_X3_findFault_6, hD.2.2.1, hD.2.2.2.1, if_neg (ngeL (n := q) (k := 60) (y := 60) rfl (by omega) (by omega)), if_neg (nI_ge hi (by omega)), show nI q + 1 = nI (q + 1) from nI_1 q]
    rcases one_act hM (by omega) hi h5 with ⟨f, f1, f2, f3, f4⟩ | ⟨j, k', a, b, j1, j2, j3, j4, M', j5, j6⟩
    · left
      obtain ⟨D', d1, d2⟩ := f2 D hD
      obtain ⟨M', m1, m2⟩ := f4 (F - 4)
      rw [show F - 4 + 4 = F by omega] at m2
      exact ⟨f, D', M', f1, f3, by rw [e3, d1]; rfl, d2, m1, m2⟩
    · obtain ⟨D', d1, d2, d3⟩ := j4 D hD
      have e4 : fl_X3_findFault_6 (N + 1) (nI q) D = fl_X3_findFault_6 N (nI (q + 1)) D' := by rw [e3, d1]; rfl
      have e5 := j6 (F - (j - i))
      rw [show F - (j - i) + (j - i) = F by omega] at e5
      have hM' := MPd_k hM j5.2.1
      have kk : ∀ K, PK M' K (q + 1) → PK M K q := fun K g => PK_t j5.2.1 ⟨g.1, g.2.1, fun j hj => g.2.2 j (by omega)⟩
      rcases ih j (q + 1) D' M' N (F - (j - i)) (by omega) (by omega) d2 hM' j5.1 (by omega) (by omega) with ⟨f, D2, M2, g1, g2, g3, g4, g5, g6⟩ | ⟨D2, M2, Q, pos, g1, g2, g3, g4, g5, g6, g7, g8, g9, g10⟩
      · left
        refine ⟨f, D2, M2, by omega, g2, by rw [e4]; exact g3, g4, kk M2 g5, ?_⟩
        rw [e5]; exact g6
      · right
        refine ⟨D2, M2, Q, fun e => if e ≤ q then i else pos e, by rw [e4]; exact g1, g2, by rw [e5]; exact g3, kk M2 g4, g5, by omega, g7, if_pos (Nat.le_refl _), by show (if Q ≤ q then i else pos Q) = n; rw [if_neg (by omega)]; exact g9, fun e h1 h2 => ?_⟩
        by_cases c : e = q
        · subst c
          have g := g4.2.2 e (by omega)
          show RA s n (if e ≤ e then i else pos e) (if e + 1 ≤ e then i else pos (e + 1)) _ _ _
          rw [if_pos (Nat.le_refl _), if_neg (by omega), g8, g.1, g.2.1, g.2.2, j5.2.2.1, j5.2.2.2.1, j5.2.2.2.2]
          exact j4
        · show RA s n (if e ≤ q then i else pos e) (if e + 1 ≤ q then i else pos (e + 1)) _ _ _
          rw [if_neg (by omega), if_neg (by omega)]
          exact g10 e (by omega) h2
/-- the pads agree -/
theorem pad_of {d M : pStt} (h : relD d M) : ∃ (s : Nat → Nat) (n : Nat), MPd s n M ∧ ∀ D : pStt, D.2 = d.2 → D.1 0 = d.1 0 → D.1 1 = 0 → PD s n 0 D := by
  obtain ⟨n, hn, h1, h2, h3⟩ := h
  refine ⟨fun j => (d.2 0 j).toBitVec.toNat, n, ⟨hn, h2, fun j hj => ?_⟩, fun D e1 e2 e3 => ⟨hn, by omega, by rw [e2]; exact h1, e3, fun j hj => ?_⟩⟩
  · obtain ⟨a, a1, a2, a3, a4⟩ := h3 j hj
    show (d.2 0 j).toBitVec.toNat ≤ 126 ∧ M.2 12 j = nI (d.2 0 j).toBitVec.toNat
    rw [a3, pk_tn (by omega)]
    exact ⟨a2, a4⟩
  · obtain ⟨a, a1, a2, a3, a4⟩ := h3 j hj
    show (d.2 0 j).toBitVec.toNat ≤ 126 ∧ D.2 0 j = nI (d.2 0 j).toBitVec.toNat
    rw [e1, a3, pk_tn (by omega)]
    exact ⟨a2, rfl⟩
