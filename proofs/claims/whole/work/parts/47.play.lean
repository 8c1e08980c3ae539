/-! a session played by both -/
theorem sI_self {M : pStt} {k : Nat} {x : Int32} (h : M.1 k = x) : sI M k x = M := by
  obtain ⟨a, b⟩ := M
  unfold sI
  congr 1
  funext j
  show (if j = k then x else a j) = a j
  by_cases e : j = k
  · rw [if_pos e, e]; exact h.symm
  · rw [if_neg e]
theorem low_t : ∀ s, s < 64 → (s = 0 ∧ lowb s = -6 ∧ pbf 32 s = 0) ∨ (s ≠ 0 ∧ ¬ lowb s < 0 ∧ pbf 32 s ≠ 0) := by decide +kernel
theorem ra_end {s : Nat → Nat} {n : Nat} : RF s n n n := by
  have z := sgn_0 (s := s) (n := n) (i := n) (Nat.le_refl _)
  exact rf_none (by omega) (by omega) (by omega) (by omega) (by omega) (by omega)
/-- where both stand before act e -/
def PL (s : Nat → Nat) (n Q : Nat) (pos : Nat → Nat) (M0 : pStt) (e w : Nat) (T c D M : pStt) : Prop := relC c M ∧ PD s n (pos e) D ∧ M.1 5 = nI Q ∧ M.1 10 = -6 ∧ M.1 11 = -6 ∧ T.1 0 = nI e ∧ T.1 1 = 0 ∧ T.1 2 = nI w ∧ M.1 6 = nI w ∧ w ≤ 32 * e ∧ T.1 3 = M.1 12 ∧ T.1 4 = M.1 13 ∧ (w = 0 → M.1 12 = -6) ∧ (w ≠ 0 → 0 ≤ M.1 12) ∧ (∀ i, 2 ≤ i → i < 5 → M.1 i = M0.1 i) ∧ ∀ a, 5 ≤ a → M.2 a = M0.2 a
def RES (s : Nat → Nat) (n : Nat) (M0 : pStt) (T' c' D' M' : pStt) (st : Int32) : Prop := relC c' M' ∧ (∃ f, PD s n f D') ∧ (∀ i, 2 ≤ i → i < 5 → M'.1 i = M0.1 i) ∧ (∀ a, 5 ≤ a → M'.2 a = M0.2 a) ∧ ((st = -3 ∧ 0 ≤ M'.1 10 ∧ ∃ e m : Nat, m ≤ 10 ∧ 0 < m ∧ T'.1 0 = nI e ∧ M'.1 10 = nI e ∧ T'.1 1 = nI m ∧ M'.1 11 = nI m) ∨ (st = 0 ∧ M'.1 10 = -6 ∧ M'.1 11 = -6 ∧ T'.1 1 = 0 ∧ T'.1 0 = M'.1 5 ∧ T'.1 2 = M'.1 6 ∧ T'.1 3 = M'.1 12 ∧ T'.1 4 = M'.1 13))
theorem play_loop {s : Nat → Nat} {n Q : Nat} (hQ : Q ≤ n) {pos : Nat → Nat} {M0 σ3 : pStt} (hpQ : pos Q = n) (hR : ∀ e, e < Q → RA s n (pos e) (pos (e + 1)) (M0.2 13 e) (M0.2 14 e) (M0.2 15 e)) : ∀ (k N F e w : Nat) (T c D M : pStt), e + k = Q → k + 1 < N → k + 2 < F → PL s n Q pos M0 e w T c D M → ∃ (T' c' D' M' : pStt) (st : Int32), fl_X9_goSessions_31 F (nI e) M = some M' ∧ RES s n M0 T' c' D' M' st ∧ ((st = -3 ∧ fl_X8_playSession_38 σ3 N (nI e) T c D = some (.inl (T', c', D'))) ∨ (st = 0 ∧ fl_X8_playSession_38 σ3 N (nI e) T c D = some (.inr (T', c', D')))) := by
  intro k
  induction k with
  | zero =>
    intro N F e w T c D M he hN hF hP
    obtain ⟨N, rfl⟩ : ∃ m, N = m + 1 := ⟨N - 1, by omega⟩
    obtain ⟨F, rfl⟩ : ∃ m, F = m + 1 := ⟨F - 1, by omega⟩
    have : e = Q := by omega
    subst this
    obtain ⟨p1, p2, p3, p4, p5, p6, p7, p8, p9, p10, p11, p12, p13, p14, p15, p16⟩ := hP
    have h60 := p2.1
    have x9 : fl_X9_goSessions_31 (F + 1) (nI e) M = some M := by
      rw [fl_X9_goSessions_31, p3, if_pos (Int32.le_refl _)]
    rw [hpQ] at p2
    have fin : ∀ D', PD s n n D' → RES s n M0 T c D' M 0 := fun D' pd => ⟨p1, ⟨n, pd⟩, p15, p16, Or.inr ⟨rfl, p4, p5, p7, by rw [p6, p3], by rw [p8, p9], p11, p12⟩⟩
    by_cases hc : n ≤ e
    · refine ⟨T, c, D, M, 0, x9, fin D p2, Or.inr ⟨rfl, ?_⟩⟩
      rw [fl_X8_playSession_38, p2.2.2.1, if_pos (nI_le hc (by omega))]
    · obtain ⟨D', d1, d2⟩ := ra_end D p2
      refine ⟨T, c, D', M, 0, x9, fin D' d2, Or.inr ⟨rfl, ?_⟩⟩
      rw [fl_X8_playSession_38, p2.2.2.1, if_neg (nI_ge (by omega) (by omega)), d1]; rfl
  | succ k ih =>
    intro N F e w T c D M he hN hF hP
    obtain ⟨N, rfl⟩ : ∃ m, N = m + 1 := ⟨N - 1, by omega⟩
    obtain ⟨F, rfl⟩ : ∃ m, F = m + 1 := ⟨F - 1, by omega⟩
    obtain ⟨p1, p2, p3, p4, p5, p6, p7, p8, p9, p10, p11, p12, p13, p14, p15, p16⟩ := hP
    have h60 := p2.1
    obtain ⟨D', d1, d2, d3⟩ := hR e (by omega) D p2
    have x8 : fl_X8_playSession_38 σ3 (N + 1) (nI e) T c D = (f_X6_attempt (D'.1 2) (D'.1 3) (D'.1 4) T c).bind (fun u_8 => if u_8.1 = 0 then some (.inl ((u_8.2.1, u_8.2.2, D'))) else fl_X8_playSession_38 σ3 N (nI (e + 1)) u_8.2.1 u_8.2.2 D') := by
      rw [fl_X8_playSession_38, p2.2.2.1, if_neg (nI_ge (by omega) (by omega)), d1, show nI e + 1 = nI (e + 1) from nI_1 e]; rfl
    have x9 : fl_X9_goSessions_31 (F + 1) (nI e) M = (f_X9_whyNot (M0.2 13 e) (M0.2 14 e) (M0.2 15 e) M).bind (fun u_11 => (if u_11 ≤ 0 then some ((-6)) else some (nI e) : Option Int32).bind (fun v_12 => (some (sI M 10 v_12)).bind (fun σ_13 => (if u_11 ≤ 0 then some ((-6)) else some u_11 : Option Int32).bind (fun v_14 => (some (sI σ_13 11 v_14)).bind (fun σ_15 => if u_11 = 0 then (f_X9_goOne (nI e) σ_15).bind (fun u_17 => fl_X9_goSessions_31 F (nI (e + 1)) u_17) else fl_X9_goSessions_31 F (nI (e + 1)) σ_15))))) := by
      rw [fl_X9_goSessions_31, p3, p4, if_neg (nI_ge (by omega) (by omega)), if_neg (by decide), p16 13 (by omega), p16 14 (by omega), p16 15 (by omega), ldn _ (by omega : e < 60) (by omega), ldn _ (by omega : e < 60) (by omega), ldn _ (by omega : e < 60) (by omega), bs, bs, bs, show nI e + 1 = nI (e + 1) from nI_1 e]
    rcases try_ex p1 d3 T with ⟨m, m0, m10, wy, at1⟩ | ⟨wy, c', M', T', z, at1, hp, ⟨q1, q2, q3, q4, q5, q6, q7⟩, t0, t1, t2, t3, t4⟩
    · refine ⟨sI T 1 (nI m), c, D', sI (sI M 10 (nI e)) 11 (nI m), -3, ?_, ⟨p1, ⟨_, d2⟩, fun i a b => by rw [sI_o (by omega), sI_o (by omega)]; exact p15 i a b, p16, Or.inl ⟨rfl, nI_pos' (by omega), e, m, m10, m0, p6, rfl, rfl, rfl⟩⟩, Or.inl ⟨rfl, by rw [x8, at1]; rfl⟩⟩
      obtain ⟨F, rfl⟩ : ∃ m, F = m + 1 := ⟨F - 1, by omega⟩
      have hm : ¬ nI m ≤ 0 := nI_ge (a := 0) (b := m) m0 (by omega)
      have hm0 : ¬ nI m = 0 := by rw [nI_zero (by omega)]; omega
      rw [x9, wy, bs, if_neg hm, bs, bs, if_neg hm, bs, bs, if_neg hm0, fl_X9_goSessions_31]
      show (if M.1 5 ≤ nI (e + 1) then _ else if 0 ≤ nI e then _ else _) = _
      rw [if_pos (nI_pos' (by omega))]
      by_cases cc : M.1 5 ≤ nI (e + 1)
      · rw [if_pos cc]
      · rw [if_neg cc]
    · have g0 : f_X9_goOne (nI e) M = (if (M'.1 7) < 0 then some M' else if 0 ≤ (M'.1 12) then some M' else some (sI (sI M' 12 (nI e)) 13 (M'.1 7))) := by
        unfold f_X9_goOne
        rw [p16 13 (by omega), p16 14 (by omega), p16 15 (by omega), ldn _ (by omega : e < 60) (by omega), ldn _ (by omega : e < 60) (by omega), ldn _ (by omega : e < 60) (by omega), bs, bs, bs, hp]; rfl
      have x9' : ∀ u, f_X9_goOne (nI e) M = some u → fl_X9_goSessions_31 (F + 1) (nI e) M = fl_X9_goSessions_31 F (nI (e + 1)) u := by
        intro u hu
        rw [x9, wy, bs, if_pos (show (0 : Int32) ≤ 0 by decide), bs, bs, if_pos (show (0 : Int32) ≤ 0 by decide), bs, bs, if_pos rfl, sI_self p4, sI_self p5, hu]; rfl
      have x8' : fl_X8_playSession_38 σ3 (N + 1) (nI e) T c D = fl_X8_playSession_38 σ3 N (nI (e + 1)) T' c' D' := by rw [x8, at1]; rfl
      have hb := pbf_le 32 z
      have c5 := q2 5 (by omega) (by omega) (by omega) (by omega)
      have c10 := q2 10 (by omega) (by omega) (by omega) (by omega)
      have c11 := q2 11 (by omega) (by omega) (by omega) (by omega)
      have c12 := q2 12 (by omega) (by omega) (by omega) (by omega)
      have c13 := q2 13 (by omega) (by omega) (by omega) (by omega)
      have a0 : T'.1 0 = nI (e + 1) := by rw [t0, p6]; exact nI_1 e
      have a2 : T'.1 2 = nI (w + pbf 32 z) := by rw [t2, p8, nI_add]
      have a6 : M'.1 6 = nI (w + pbf 32 z) := by rw [q6, p9, nI_add]
      have k1 : ∀ i, 2 ≤ i → i < 5 → M'.1 i = M0.1 i := fun i a b => by rw [q2 i (by omega) (by omega) (by omega) (by omega)]; exact p15 i a b
      have k2 : ∀ a, 5 ≤ a → M'.2 a = M0.2 a := fun a ha => by rw [q3 a ha]; exact p16 a ha
      rcases low_t z q4 with ⟨z1, z2, z3⟩ | ⟨z1, z2, z3⟩
      · rw [x8', x9' M' (by rw [g0, q7, z2]; rfl)]
        refine ih N F (e + 1) (w + pbf 32 z) T' c' D' M' (by omega) (by omega) (by omega) ⟨q1, d2, by rw [c5]; exact p3, by rw [c10]; exact p4, by rw [c11]; exact p5, a0, t1, a2, a6, by omega, ?_, ?_, fun h => by rw [c12]; exact p13 (by omega), fun h => by rw [c12]; exact p14 (by omega), k1, k2⟩
        · rw [t3, if_neg (fun h => h.1 z1), c12]; exact p11
        · rw [t4, if_neg (fun h => h.1 z1), c13]; exact p12
      · by_cases hw : w = 0
        · have g12 := p13 hw
          rw [x8', x9' (sI (sI M' 12 (nI e)) 13 (M'.1 7)) (by rw [g0, q7, if_neg z2, c12, g12]; rfl)]
          refine ih N F (e + 1) (w + pbf 32 z) T' c' D' _ (by omega) (by omega) (by omega) ⟨q1, d2, by show M'.1 5 = _; rw [c5]; exact p3, by show M'.1 10 = _; rw [c10]; exact p4, by show M'.1 11 = _; rw [c11]; exact p5, a0, t1, a2, a6, by omega, ?_, ?_, fun h => by omega, fun _ => nI_pos' (by omega), fun i a b => by rw [sI_o (by omega), sI_o (by omega)]; exact k1 i a b, k2⟩
          · rw [t3, if_pos ⟨z1, by rw [p8, hw]; rfl⟩, p6]; rfl
          · rw [t4, if_pos ⟨z1, by rw [p8, hw]; rfl⟩, ← q7]; rfl
        · have hw2 : ¬ T.1 2 = 0 := by rw [p8, nI_zero (by omega)]; exact hw
          rw [x8', x9' M' (by rw [g0, q7, if_neg z2, c12, if_pos (p14 hw)])]
          refine ih N F (e + 1) (w + pbf 32 z) T' c' D' M' (by omega) (by omega) (by omega) ⟨q1, d2, by rw [c5]; exact p3, by rw [c10]; exact p4, by rw [c11]; exact p5, a0, t1, a2, a6, by omega, ?_, ?_, fun h => by omega, fun h => by rw [c12]; exact p14 hw, k1, k2⟩
          · rw [t3, if_neg (fun h => hw2 h.2), c12]; exact p11
          · rw [t4, if_neg (fun h => hw2 h.2), c13]; exact p12
