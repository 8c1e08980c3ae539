/-! the session as a whole -/
def OUT (T' c' M' : pStt) (st : Int32) : Prop := (st = -5) ∨ (relC c' M' ∧ st = -3 ∧ ∃ e m : Nat, m ≤ 10 ∧ 0 < m ∧ T'.1 0 = nI e ∧ M'.1 10 = nI e ∧ T'.1 1 = nI m ∧ M'.1 11 = nI m) ∨ (relC c' M' ∧ st = 0 ∧ M'.1 10 = -6 ∧ M'.1 11 = -6 ∧ T'.1 1 = 0 ∧ T'.1 0 = M'.1 5 ∧ T'.1 2 = M'.1 6 ∧ T'.1 3 = M'.1 12 ∧ T'.1 4 = M'.1 13)
theorem refusal_ex {c r g d : pStt} {i0 i1 : Option (pStt × pStt × pStt)} {M : pStt} (hV : IV c r g d i0 i1 M) (tr tc : pStt) : ∃ (T' c' D' M' : pStt) (st : Int32), f_X8_playSession tr c tc d = some (st, T', c', D') ∧ f_X9_refusal M = some (if st = 0 then -6 else st, M') ∧ OUT T' c' M' st ∧ relD D' M' ∧ keep M M' ∧ ∀ q, q < 36 → M'.2 16 q = fl2 M q := by
  obtain ⟨T, c1, b1, b2, b3, b4, b5, b6, b7⟩ := begin_ex tr tc hV.1
  obtain ⟨N, s1, s2, s3, s4, s5, s6⟩ := save_ex M
  have hN : IV c r g d i0 i1 N := IV_keep hV s2 s4
  rcases fault_ex hN.2.2.2.1 with ⟨v, D', M', v60, e1, e2, e3, e4⟩ | ⟨D', M', s, n, Q, pos, e1, e2, e3, e4, e5, e6, e7, e8, e9, e10, e11, e12⟩
  · obtain ⟨k1, k2⟩ := PK_keep e4
    refine ⟨T, c1, D', M', -5, ?_, ?_, Or.inl rfl, e3, keep_t s4 k2, fun q hq => ?_⟩
    · unfold f_X8_playSession
      rw [b1, bs, e1, bs]
      show (if nI v = -6 then _ else _) = _
      rw [if_neg (fun h => m6_ne (n := v) (by omega) h.symm)]
    · unfold f_X9_refusal
      rw [s1, bs, e2, bs]
      show (if nI v < 0 then _ else _) = _
      rw [if_neg (nI_pos (by omega))]; rfl
    · rw [e4.2.1 16 (by omega) (by omega) (by omega)]; exact s3 q hq
  · obtain ⟨k1, k2⟩ := PK_keep e4
    have hC : relC c M' := relC_save hN.1 k1 k2
    have hC1 : relC c1 (sI (sI (sI (sI (sI M' 10 (-6)) 11 (-6)) 12 (-6)) 13 (-6)) 6 0) := b2 M' hC
    have hPD : PD s n (pos 0) (sI D' 1 0) := by
      rw [e10]
      exact ⟨e5.1, by omega, e5.2.2.1, rfl, e5.2.2.2.2⟩
    have h60 := e5.1
    obtain ⟨T2, c2, D2, M2, st, f1, ⟨f2, ⟨fp, f3⟩, f4, f5, f6⟩, f7⟩ := play_loop (σ3 := c) (M0 := M') e9 e11 e12 Q 2000 2000 0 0 T c1 (sI D' 1 0) _ (by omega) (by omega) (by omega) ⟨hC1, hPD, e8, rfl, rfl, b3, b4, b5, rfl, by omega, b6, b7, fun _ => rfl, fun h => absurd rfl h, fun i a b => by rw [sI_o (by omega), sI_o (by omega), sI_o (by omega), sI_o (by omega), sI_o (by omega)], fun _ _ => rfl⟩
    have f1 : fl_X9_goSessions_31 2000 0 (sI (sI (sI (sI (sI M' 10 (-6)) 11 (-6)) 12 (-6)) 13 (-6)) 6 0) = some M2 := f1
    have g9 : f_X9_refusal M = (if (M2.1 10) < 0 then some ((-6)) else some ((-3)) : Option Int32).bind (fun v_5 => some (v_5, M2)) := by
      unfold f_X9_refusal f_X9_goSessions
      rw [s1, bs, e2, bs]
      show (if (-6 : Int32) < 0 then _ else _) = _
      rw [if_pos (by decide), bs, bs, bs, bs, bs, f1]; rfl
    have hk : keep M' M2 := ⟨f4, fun a h1 _ => f5 a h1⟩
    have m2 : MPd s n M2 := ⟨e7.1, by rw [f4 4 (by omega) (by omega)]; exact e7.2.1, fun j hj => by rw [f5 12 (by omega)]; exact e7.2.2 j hj⟩
    have had : ∀ q, q < 36 → M2.2 16 q = fl2 M q := fun q hq => by
      rw [f5 16 (by omega), e4.2.1 16 (by omega) (by omega) (by omega)]; exact s3 q hq
    have b8 : ∀ (R : Option ((pStt × pStt × pStt) ⊕ (pStt × pStt × pStt))), fl_X8_playSession_38 c 2000 (nI 0) T c1 (sI D' 1 0) = R → f_X8_playSession tr c tc d = R.bind (fun u_10 => sm (fun a_11 => some ((-3), a_11.1, a_11.2.1, a_11.2.2)) (fun a_12 => some (0, a_12.1, a_12.2.1, a_12.2.2)) u_10) := by
      intro R hR
      have hR : fl_X8_playSession_38 c 2000 0 T c1 (sI D' 1 0) = R := hR
      unfold f_X8_playSession f_X3_rewind
      rw [b1, bs, e1, bs]
      show (if (-6 : Int32) = -6 then _ else _) = _
      rw [if_pos rfl, bs, bs]
      show (fl_X8_playSession_38 c 2000 0 T c1 (sI D' 1 0)).bind _ = _
      rw [hR]
    rcases f7 with ⟨rfl, f7⟩ | ⟨rfl, f7⟩
    · rcases f6 with ⟨_, g10, e, m, m1, m2', t1, t2, t3, t4⟩ | ⟨h, _⟩
      · refine ⟨T2, c2, D2, M2, -3, by rw [b8 _ f7]; rfl, ?_, Or.inr (Or.inl ⟨f2, rfl, e, m, m1, m2', t1, t2, t3, t4⟩), e6 D2 M2 fp f3 m2, keep_t s4 (keep_t k2 hk), had⟩
        rw [g9, if_neg (by rw [Int32.not_lt]; exact g10)]; rfl
      · exact absurd h (by decide)
    · rcases f6 with ⟨h, _⟩ | ⟨_, t1, t2, t3, t4, t5, t6, t7⟩
      · exact absurd h (by decide)
      · refine ⟨T2, c2, D2, M2, 0, by rw [b8 _ f7]; rfl, ?_, Or.inr (Or.inr ⟨f2, rfl, t1, t2, t3, t4, t5, t6, t7⟩), e6 D2 M2 fp f3 m2, keep_t s4 (keep_t k2 hk), had⟩
        rw [g9, t1]; rfl
