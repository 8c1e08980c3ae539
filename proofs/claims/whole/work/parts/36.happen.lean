def lowb (s : Nat) : Int32 := if s.testBit 0 then nI 0 else if s.testBit 1 then nI 1 else if s.testBit 2 then nI 2 else if s.testBit 3 then nI 3 else if s.testBit 4 then nI 4 else if s.testBit 5 then nI 5 else -6
/-- what an act owes: the new world, what stays, who sat down -/
def HP (c M c' M' : pStt) (s : Nat) : Prop := relC c' M' ∧ (∀ i, i ≠ 0 → i ≠ 1 → i ≠ 6 → i ≠ 7 → M'.1 i = M.1 i) ∧ (∀ a, 5 ≤ a → M'.2 a = M.2 a) ∧ s < 64 ∧ c'.1 0 &&& (c.1 0 ^^^ (-1 : Int32)) = nI s ∧ M'.1 6 = M.1 6 + nI (pbf 32 s) ∧ M'.1 7 = lowb s
theorem self_xor (x : Int32) : x &&& (x ^^^ (-1 : Int32)) = nI 0 := by
  apply b_ext
  intro i hi
  rw [b_and, b_xor, b_m1 i hi]
  have : bt (nI 0) i = false := b_0 i
  rw [this]
  cases bt x i <;> rfl
theorem clr_xor : ∀ z, z < 64 → ∀ k, k < 6 → nI (clrb z k) &&& (nI z ^^^ (-1 : Int32)) = nI 0 := by decide +kernel
theorem add_n0 (x : Int32) : x = x + nI (pbf 32 0) := by
  rw [pbf_0]; exact (Int32.add_zero x).symm
/-- nobody sits down -/
theorem HP_0 {c M c' : pStt} {M' : pStt} (h : relC c' M') (h0 : c'.1 0 = c.1 0) (f1 : ∀ i, i ≠ 0 → i ≠ 1 → i ≠ 7 → M'.1 i = M.1 i) (f2 : ∀ a, 5 ≤ a → M'.2 a = M.2 a) (f3 : M'.1 7 = -6) : HP c M c' M' 0 :=
  ⟨h, fun i a b _ d => f1 i a b d, f2, by omega, by rw [h0]; exact self_xor _, by rw [f1 6 (by omega) (by omega) (by omega)]; exact add_n0 _, by rw [f3]; rfl⟩
theorem sit_rel {c M : pStt} (h : relC c M) {p z : Nat} (hp : p < 6) (hz : z < 64) (e : c.1 0 = nI z) (ht : ¬ c.2 2 p = -1) : relC (sI c 0 (nI (z ||| 2 ^ p))) (sA M 4 (upd (M.2 4) p 1)) := by
  obtain ⟨a1, a2, a3, a4, ⟨z', z1, z2, z3, z4⟩, a6, a7⟩ := h
  have hzz : z' = z := by
    rw [z2, nI_eq (by omega) (by omega)] at e; exact e
  subst hzz
  refine ⟨a1, a2, a3, a4, ⟨z' ||| 2 ^ p, Nat.or_lt_two_pow (n := 6) z1 (Nat.pow_lt_pow_right (by omega) hp), rfl, fun j hj => ?_, fun k hk hm => ?_⟩, a6, a7⟩
  · show (if j = p then (1 : Int32) else M.2 4 j) = _
    rw [Nat.testBit_or, Nat.testBit_two_pow]
    by_cases e : j = p
    · rw [if_pos e, e]; simp
    · rw [if_neg e, z3 j hj]
      have : decide (p = j) = false := decide_eq_false (fun h => e h.symm)
      rw [this, Bool.or_false]
  · obtain ⟨b1, b2, b3⟩ := z4 k hk hm
    refine ⟨b1, ?_, b3⟩
    rw [Nat.testBit_or, Nat.testBit_two_pow, b2]
    have : decide (p = k) = false := decide_eq_false (fun h => by subst h; exact ht hm)
    rw [this]; rfl
theorem fade_rel {c M : pStt} (h : relC c M) {p m : Nat} (hp : p < 6) (hm : m ≤ 9) (ht : ¬ c.2 2 p = -1) : relC (sA c 3 (upd (c.2 3) p (nI m))) (sA M 3 (upd (M.2 3) p (nI m))) := by
  obtain ⟨a1, a2, a3, a4, ⟨z, z1, z2, z3, z4⟩, a6, a7⟩ := h
  refine ⟨a1, a2, a3, fun j hj => ?_, ⟨z, z1, z2, z3, fun k hk hc => ?_⟩, a6, a7⟩
  · show ∃ n : Nat, n ≤ 9 ∧ (if j = p then nI m else c.2 3 j) = nI n ∧ (if j = p then nI m else M.2 3 j) = nI n
    by_cases e : j = p
    · rw [if_pos e, if_pos e]; exact ⟨m, hm, rfl, rfl⟩
    · rw [if_neg e, if_neg e]; exact a4 j hj
  · obtain ⟨b1, b2, b3⟩ := z4 k hk hc
    refine ⟨?_, b2, b3⟩
    show (if k = p then nI m else c.2 3 k) = 0
    rw [if_neg (fun h => by subst h; exact ht hc)]; exact b1
theorem bitsN : ∀ s, s < 64 → ∀ i, i < 6 → s < 2 ^ i → pbf 32 (s ||| 2 ^ i) = pbf 32 s + 1 ∧ s ||| 2 ^ i < 64 ∧ s ||| 2 ^ i < 2 ^ (i + 1) ∧ lowb (s ||| 2 ^ i) = (if 0 ≤ lowb s then lowb s else nI i) := by decide +kernel
theorem sit_eq {M : pStt} {p : Nat} (hp : p < 6) : f_X9_sit (nI p) M = some (sI (sI (sA M 4 (upd (M.2 4) p 1)) 6 (M.1 6 + 1)) 7 (if 0 ≤ M.1 7 then M.1 7 else nI p)) := by
  unfold f_X9_sit
  rw [stAn M 4 _ hp (by omega), bs, bs]
  show (if 0 ≤ M.1 7 then some (M.1 7) else some (nI p) : Option Int32).bind _ = _
  by_cases c : 0 ≤ M.1 7
  · rw [if_pos c, if_pos c]; rfl
  · rw [if_neg c, if_neg c]; rfl
/-- the hour goes over the six -/
theorem hour_loop {M0 : pStt} (h w : Int32) {z : Nat} (hz : z < 64) : ∀ (q n n' i : Nat) (c M : pStt) (s : Nat), i + q = 6 → q < n → q < n' → relC c (sI M 1 h) → c.1 0 = nI (z ||| s) → s < 64 → s < 2 ^ i → (∀ j, s.testBit j = true → z.testBit j = false) → (∀ j, j ≠ 6 → j ≠ 7 → M.1 j = M0.1 j) → (∀ a, 5 ≤ a → M.2 a = M0.2 a) → M.1 6 = w + nI (pbf 32 s) → M.1 7 = lowb s → ∃ (c' M' : pStt) (s' : Nat), fl_X1_passHour_12 n (nI i) c = some c' ∧ fl_X9_passHour_2 n' (nI i) M = some M' ∧ relC c' (sI M' 1 h) ∧ c'.1 0 = nI (z ||| s') ∧ s' < 64 ∧ (∀ j, s'.testBit j = true → z.testBit j = false) ∧ (∀ j, j ≠ 6 → j ≠ 7 → M'.1 j = M0.1 j) ∧ (∀ a, 5 ≤ a → M'.2 a = M0.2 a) ∧ M'.1 6 = w + nI (pbf 32 s') ∧ M'.1 7 = lowb s' := by
  intro q
  induction q with
  | zero =>
    intro n n' i c M s hi hn hn' hC h0 hs hs2 hd f1 f2 f6 f7
    obtain ⟨n, rfl⟩ : ∃ m, n = m + 1 := ⟨n - 1, by omega⟩
    obtain ⟨n', rfl⟩ : ∃ m, n' = m + 1 := ⟨n' - 1, by omega⟩
    have : i = 6 := by omega
    subst this
    rw [fl_X1_passHour_12, fl_X9_passHour_2, if_pos (geL (n := 6) (k := 6) (y := 6) rfl (by omega) (by omega)), if_pos (geL (n := 6) (k := 6) (y := 6) rfl (by omega) (by omega))]
    exact ⟨c, M, s, rfl, rfl, hC, h0, hs, hd, f1, f2, f6, f7⟩
  | succ q ih =>
    intro n n' i c M s hi hn hn' hC h0 hs hs2 hd f1 f2 f6 f7
    obtain ⟨n, rfl⟩ : ∃ m, n = m + 1 := ⟨n - 1, by omega⟩
    obtain ⟨n', rfl⟩ : ∃ m, n' = m + 1 := ⟨n' - 1, by omega⟩
    have hi6 : i < 6 := by omega
    have hp2 : (2 : Nat) ^ i < 2 ^ (i + 1) := Nat.pow_lt_pow_right (by omega) (by omega)
    obtain ⟨β, s1, s2, z', zz1, zz2, zz3⟩ := sitsB hC hi6
    have s2 : M.2 4 i = (if β then 1 else 0) := s2
    have hzs : z ||| s < 64 := Nat.or_lt_two_pow (n := 6) hz hs
    have hzz : z' = z ||| s := by
      rw [h0, nI_eq (by omega) (by omega)] at zz2; exact zz2.symm
    subst hzz
    rw [fl_X1_passHour_12, fl_X9_passHour_2, if_neg (ngeL (n := i) (k := 6) (y := 6) rfl (by omega) (by omega)), if_neg (ngeL (n := i) (k := 6) (y := 6) rfl (by omega) (by omega)), ldn _ hi6 (by omega), ldn _ hi6 (by omega), s1, ldn _ hi6 (by omega), ldn _ hi6 (by omega), s2, show nI i + 1 = nI (i + 1) from nI_1 i]
    simp only [bs]
    have hP : relP (c.2 2 i) (M.2 2 i) := hC.2.2.1 i hi6
    rcases hP with ⟨e1, e2⟩ | ⟨m, hm, e1, e2⟩
    · rw [e1, e2, if_pos rfl, if_pos (by decide)]
      exact ih n n' (i + 1) c M s (by omega) (by omega) (by omega) hC h0 hs (by omega) hd f1 f2 f6 f7
    · have hne : ¬ c.2 2 i = -1 := by rw [e1]; exact fun h => m1_ne (n := m) (by omega) h.symm
      rw [e2, if_neg hne, if_neg (nI_pos (by omega))]
      cases hb : β
      · obtain ⟨t, ht, t1, t2⟩ := hC.2.2.2.1 i hi6
        have t2 : M.2 3 i = nI t := t2
        have hzb : z.testBit i = false := by
          rw [hb] at zz3
          have := zz3.symm
          rw [Nat.testBit_or, Bool.or_eq_false_iff] at this
          exact this.1
        unfold f_X9_fade
        rw [if_pos (show (if false = true then (1 : Int32) else 0) = 0 by decide), if_pos (show (if false = true then (1 : Int32) else 0) = 0 by decide), ldn _ hi6 (by omega), t1, t2]
        simp only [bs]
        obtain ⟨u, hu, v1, v2⟩ : ∃ u : Nat, u ≤ 9 ∧ (if (9 : Int32) < nI t + 1 then (9 : Int32) else nI t + 1) = nI u ∧ ∃ w : Int32, (if (9 : Int32) ≤ nI t then some 0 else some 1 : Option Int32) = some w ∧ nI t + w = nI u := by
          have : ∀ t, t ≤ 9 → (if (9 : Int32) < nI t + 1 then (9 : Int32) else nI t + 1) = nI (if t = 9 then 9 else t + 1) ∧ (if (9 : Int32) ≤ nI t then some 0 else some 1 : Option Int32) = some (if t = 9 then 0 else 1) ∧ nI t + (if t = 9 then (0 : Int32) else 1) = nI (if t = 9 then 9 else t + 1) := by decide +kernel
          obtain ⟨k1, k2, k3⟩ := this t ht
          refine ⟨if t = 9 then 9 else t + 1, ?_, k1, _, k2, k3⟩
          by_cases e : t = 9
          · rw [if_pos e]; omega
          · rw [if_neg e]; omega
        obtain ⟨w2, k2, k3⟩ := v2
        rw [v1, k2, bs, k3, stAn c 3 _ hi6 (by omega), stAn M 3 _ hi6 (by omega), bs, bs]
        have hl : ∀ f : Nat → Int32, upd f i (nI u) i = nI u := fun f => if_pos rfl
        have l1 : ld ((sA c 3 (upd (c.2 3) i (nI u))).2 3) 6 (nI i) = some (nI u) := by
          rw [ldn _ hi6 (by omega)]; exact congrArg some (hl _)
        have l2 : ld ((sA M 3 (upd (M.2 3) i (nI u))).2 3) 6 (nI i) = some (nI u) := by
          rw [ldn _ hi6 (by omega)]; exact congrArg some (hl _)
        rw [l1, l2, bs, bs]
        have hF : relC (sA c 3 (upd (c.2 3) i (nI u))) (sI (sA M 3 (upd (M.2 3) i (nI u))) 1 h) := fade_rel hC hi6 hu hne
        by_cases h9 : u = 9
        · subst h9
          obtain ⟨g1, g2, g3, g4⟩ := bitsN s hs i hi6 hs2
          rw [if_pos (show nI 9 = 9 from rfl), if_pos (show nI 9 = 9 from rfl), sit_eq hi6, bs, bs, shl1 i (by omega)]
          have e0 : (sA c 3 (upd (c.2 3) i (nI 9))).1 0 ||| nI (2 ^ i) = nI (z ||| (s ||| 2 ^ i)) := by
            show c.1 0 ||| nI (2 ^ i) = _
            rw [h0, orN, Nat.or_assoc]
          rw [e0]
          have hS := sit_rel hF hi6 hzs h0 hne
          rw [Nat.or_assoc] at hS
          refine ih n n' (i + 1) _ _ (s ||| 2 ^ i) (by omega) (by omega) (by omega) hS rfl g2 g3 (fun j hj => ?_) (fun j j1 j2 => ?_) (fun a ha => ?_) ?_ ?_
          · rw [Nat.testBit_or, Bool.or_eq_true, Nat.testBit_two_pow, decide_eq_true_eq] at hj
            rcases hj with hj | hj
            · exact hd j hj
            · rw [← hj]; exact hzb
          · rw [sI_o j2, sI_o j1]; exact f1 j j1 j2
          · show (sA (sA M 3 (upd (M.2 3) i (nI 9))) 4 _).2 a = _
            rw [sA_o (by omega), sA_o (by omega)]; exact f2 a ha
          · show M.1 6 + 1 = _
            rw [f6, g1, Int32.add_assoc, show nI (pbf 32 s) + (1 : Int32) = nI (pbf 32 s + 1) from nI_1 _]
          · show (if 0 ≤ M.1 7 then M.1 7 else nI i) = _
            rw [f7, g4]
        · have hn9 : ¬ nI u = 9 := neL (y := 9) (k := 9) rfl h9 (by omega) (by omega)
          rw [if_neg hn9, if_neg hn9, bs]
          refine ih n n' (i + 1) _ _ s (by omega) (by omega) (by omega) hF h0 hs (by omega) hd f1 (fun a ha => ?_) f6 f7
          rw [sA_o (by omega)]; exact f2 a ha
      · rw [if_neg (show ¬ (if true = true then (1 : Int32) else 0) = 0 by decide), if_neg (show ¬ (if true = true then (1 : Int32) else 0) = 0 by decide)]
        exact ih n n' (i + 1) c M s (by omega) (by omega) (by omega) hC h0 hs (by omega) hd f1 f2 f6 f7
