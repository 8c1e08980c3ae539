/-! an act tried -/
theorem place_low : ∀ s, s < 64 → s ≠ 0 → f_X8_placeOfBit (nI s) 0 = some (lowb s) := by decide +kernel
theorem note_ex (T : pStt) {s : Nat} (hs : s < 64) : ∃ T2, f_X6_noteSitters (nI s) T = some T2 ∧ T2.1 0 = T.1 0 ∧ T2.1 1 = T.1 1 ∧ T2.1 2 = T.1 2 + nI (pbf 32 s) ∧ T2.1 3 = (if s ≠ 0 ∧ T.1 2 = 0 then T.1 0 else T.1 3) ∧ T2.1 4 = (if s ≠ 0 ∧ T.1 2 = 0 then lowb s else T.1 4) := by
  unfold f_X6_noteSitters
  rw [bitCountN (by omega)]
  by_cases e : s = 0
  · subst e
    rw [if_pos (show nI 0 = 0 from rfl), bs, bs]
    refine ⟨_, rfl, rfl, rfl, rfl, ?_, ?_⟩
    · rw [if_neg (fun h => h.1 rfl)]; rfl
    · rw [if_neg (fun h => h.1 rfl)]; rfl
  · have hne : ¬ nI s = 0 := by rw [nI_zero (by omega)]; exact e
    rw [if_neg hne]
    by_cases c : T.1 2 = 0
    · rw [if_pos c, bs, place_low s hs e, bs, bs, bs, bs]
      refine ⟨_, rfl, rfl, rfl, rfl, ?_, ?_⟩
      · rw [if_pos ⟨e, c⟩]; rfl
      · rw [if_pos ⟨e, c⟩]; rfl
    · rw [if_neg c, bs, bs]
      refine ⟨_, rfl, rfl, rfl, rfl, ?_, ?_⟩
      · rw [if_neg (fun h => c h.2)]; rfl
      · rw [if_neg (fun h => c h.2)]; rfl
/-- tried: refused with a reason, or done -/
theorem try_ex {c M : pStt} (h : relC c M) {k a b k' a' b' : Int32} (hk : AR k a b k' a' b') (T : pStt) : (∃ n : Nat, 0 < n ∧ n ≤ 10 ∧ f_X9_whyNot k' a' b' M = some (nI n) ∧ f_X6_attempt k a b T c = some (0, sI T 1 (nI n), c)) ∨ (f_X9_whyNot k' a' b' M = some 0 ∧ ∃ (c' M' T' : pStt) (s : Nat), f_X6_attempt k a b T c = some (1, T', c') ∧ f_X9_happen k' a' b' M = some M' ∧ HP c M c' M' s ∧ T'.1 0 = T.1 0 + 1 ∧ T'.1 1 = 0 ∧ T'.1 2 = T.1 2 + nI (pbf 32 s) ∧ T'.1 3 = (if s ≠ 0 ∧ T.1 2 = 0 then T.1 0 else T.1 3) ∧ T'.1 4 = (if s ≠ 0 ∧ T.1 2 = 0 then lowb s else T.1 4)) := by
  obtain ⟨n, hn, e1, e2⟩ := why_eq h hk
  by_cases e : n = 0
  · subst e
    right
    obtain ⟨c', M', s, p1, p2, hp⟩ := happen_ex h hk e1
    have hs := hp.2.2.2.1
    obtain ⟨T2, q1, q2, q3, q4, q5, q6⟩ := note_ex (sI T 1 (nI 0)) hs
    refine ⟨e2, c', M', sI T2 0 (T2.1 0 + 1), s, ?_, p2, hp, ?_, q3, q4, q5, q6⟩
    · unfold f_X6_attempt
      rw [e1, bs, bs]
      show (if nI 0 = 0 then _ else _) = _
      rw [if_pos (show nI 0 = 0 from rfl), p1, bs, hp.2.2.2.2.1, q1]; rfl
    · show T2.1 0 + 1 = _
      rw [q2]; rfl
  · left
    have hne : ¬ nI n = 0 := by rw [nI_zero (by omega)]; exact e
    refine ⟨n, by omega, hn, e2, ?_⟩
    unfold f_X6_attempt
    rw [e1, bs, bs]
    show (if nI n = 0 then _ else _) = _
    rw [if_neg hne]
/-- the world as it is tried: what stays -/
def keepA (M M' : pStt) : Prop := (∀ i, i ≠ 0 → i ≠ 1 → i ≠ 6 → i ≠ 7 → M'.1 i = M.1 i) ∧ ∀ a, 5 ≤ a → M'.2 a = M.2 a
theorem keepA_t {M N K : pStt} (h : keepA M N) (g : keepA N K) : keepA M K := ⟨fun i a b c d => by rw [g.1 i a b c d, h.1 i a b c d], fun i a => by rw [g.2 i a, h.2 i a]⟩
theorem keepA_k {M N : pStt} (h : keepA M N) : keep M N := ⟨fun i a b => h.1 i (by omega) (by omega) (by omega) (by omega), fun a ha _ => h.2 a ha⟩
/-- a drawn act -/
theorem drawn1 {c M : pStt} (h : relC c M) {k a b k' a' b' : Int32} (hk : AR k a b k' a' b') (T : pStt) {D : Option pStt} {E : Option (pStt × pStt)} (hE : E = (f_X6_attempt k a b T c).bind (fun u => some (u.2.1, u.2.2))) (hD : D = (f_X9_whyNot k' a' b' M).bind (fun u_4 => if u_4 = 0 then (f_X9_happen k' a' b' M).bind (fun u_6 => some u_6) else some M)) : ∃ (T' c' M' : pStt) (t : Nat), E = some (T', c') ∧ D = some M' ∧ relC c' M' ∧ keepA M M' ∧ T'.1 2 = T.1 2 + nI t ∧ M'.1 6 = M.1 6 + nI t := by
  rcases try_ex h hk T with ⟨n, n0, n10, w, e⟩ | ⟨w, c', M', T', s, e1, e2, ⟨hC, k1, k2, k3, k4, k5, k6⟩, t0, t1, t2, t3⟩
  · refine ⟨sI T 1 (nI n), c, M, 0, ?_, ?_, h, ⟨fun _ _ _ _ _ => rfl, fun _ _ => rfl⟩, (Int32.add_zero _).symm, (Int32.add_zero _).symm⟩
    · rw [hE, e]; rfl
    · rw [hD, w, bs, if_neg (by rw [nI_zero (by omega)]; omega)]
  · refine ⟨T', c', M', pbf 32 s, ?_, ?_, hC, ⟨k1, k2⟩, t2, k5⟩
    · rw [hE, e1]; rfl
    · rw [hD, w, bs, if_pos rfl, e2]; rfl
theorem drawn_ex {c M : pStt} (h : relC c M) {m q : Nat} (hm : m < 8) (hq : q < 65536) (T : pStt) : ∃ (T' c' M' : pStt) (t : Nat), f_X8_attemptDrawn (nI m) (nI q) T c = some (T', c') ∧ f_X9_drawn (nI m) (nI q) M = some M' ∧ relC c' M' ∧ keepA M M' ∧ T'.1 2 = T.1 2 + nI t ∧ M'.1 6 = M.1 6 + nI t := by
  have r8 : nI q - nI q / 8 * 8 = nI (q % 8) := pk_rem (d := 8) (by omega) (by omega) (by omega)
  have r6 : nI q - nI q / 6 * 6 = nI (q % 6) := pk_rem (d := 6) (by omega) (by omega) (by omega)
  have r4 : nI q - nI q / 4 * 4 = nI (q % 4) := pk_rem (d := 4) (by omega) (by omega) (by omega)
  have d8 : nI q / 8 = nI (q / 8) := pk_div (d := 8) (by omega) (by omega) (by omega)
  have d6 : nI q / 6 = nI (q / 6) := pk_div (d := 6) (by omega) (by omega) (by omega)
  have r88 : nI (q / 8) - nI (q / 8) / 8 * 8 = nI (q / 8 % 8) := pk_rem (d := 8) (by omega) (by omega) (by omega)
  have r68 : nI (q / 6) - nI (q / 6) / 8 * 8 = nI (q / 6 % 8) := pk_rem (d := 8) (by omega) (by omega) (by omega)
  have r64 : nI (q / 6) - nI (q / 6) / 4 * 4 = nI (q / 6 % 4) := pk_rem (d := 4) (by omega) (by omega) (by omega)
  unfold f_X8_attemptDrawn f_X9_drawn f_X9_actBy
  rw [r8, r6, r4, d8, d6, r88, r68, r64]
  have hc : m = 0 ∨ m = 1 ∨ m = 2 ∨ m = 3 ∨ m = 4 ∨ m = 5 ∨ m = 6 ∨ m = 7 := by omega
  have b8 : q % 8 < 8 := by omega
  have b88 : q / 8 % 8 < 8 := by omega
  have b6 : q % 6 < 6 := by omega
  have b68 : q / 6 % 8 < 8 := by omega
  rcases hc with rfl | rfl | rfl | rfl | rfl | rfl | rfl | rfl
  · exact drawn1 h (k := 0) (k' := 0) (Or.inl ⟨q % 8, q / 8 % 8, b8, b88, rfl, rfl, rfl, rfl, Or.inl ⟨rfl, rfl⟩⟩) T rfl rfl
  · exact drawn1 h (k := 1) (k' := 1) (Or.inl ⟨q % 8, q / 8 % 8, b8, b88, rfl, rfl, rfl, rfl, Or.inr (Or.inl ⟨rfl, rfl⟩)⟩) T rfl rfl
  · exact drawn1 h (k := 2) (k' := 2) (Or.inl ⟨q % 8, q / 8 % 8, b8, b88, rfl, rfl, rfl, rfl, Or.inr (Or.inr ⟨rfl, rfl⟩)⟩) T rfl rfl
  · exact drawn1 h (k := 5) (k' := 4) (b := 0) (b' := nI (q / 6 % 8)) (Or.inr (Or.inr (Or.inr ⟨q % 6, b6, rfl, rfl, Or.inl ⟨rfl, rfl⟩⟩))) T rfl rfl
  · exact drawn1 h (k := 7) (k' := 6) (Or.inr (Or.inr (Or.inr ⟨q % 6, b6, rfl, rfl, Or.inr (Or.inr (Or.inr ⟨q / 6 % 8, b68, rfl, rfl, Or.inl ⟨rfl, rfl⟩⟩))⟩))) T rfl rfl
  · exact drawn1 h (k := 8) (k' := 7) (Or.inr (Or.inr (Or.inr ⟨q % 6, b6, rfl, rfl, Or.inr (Or.inr (Or.inr ⟨q / 6 % 8, b68, rfl, rfl, Or.inr ⟨rfl, rfl⟩⟩))⟩))) T rfl rfl
  · by_cases e : nI (q / 6 % 4) = 0
    · rw [e]
      exact drawn1 h (k := 9) (k' := 8) (b := 0) (b' := nI (q / 6 % 8)) (Or.inr (Or.inr (Or.inr ⟨q % 6, b6, rfl, rfl, Or.inr (Or.inr (Or.inl ⟨rfl, rfl⟩))⟩))) T rfl rfl
    · simp only [if_neg e]
      exact drawn1 h (k := 6) (k' := 5) (b := 0) (b' := nI (q / 6 % 8)) (Or.inr (Or.inr (Or.inr ⟨q % 6, b6, rfl, rfl, Or.inr (Or.inl ⟨rfl, rfl⟩)⟩))) T rfl rfl
  · by_cases e : nI (q % 4) = 0
    · rw [e]
      exact drawn1 h (k := 3) (k' := 3) (a := 0) (b := 0) (a' := nI (q % 6)) (b' := nI (q / 6 % 8)) (Or.inr (Or.inl ⟨rfl, rfl⟩)) T rfl rfl
    · simp only [if_neg e]
      exact drawn1 h (k := 4) (k' := 9) (a := 0) (b := 0) (a' := nI (q % 6)) (b' := nI (q / 6 % 8)) (Or.inr (Or.inr (Or.inl ⟨rfl, rfl⟩))) T rfl rfl
