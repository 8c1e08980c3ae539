/-! one act: why it may not be, and what it does -/
def AR (k a b k' a' b' : Int32) : Prop :=
  (∃ x y : Nat, x < 8 ∧ y < 8 ∧ a = nI x ∧ b = nI y ∧ a' = nI x ∧ b' = nI y ∧ ((k = 0 ∧ k' = 0) ∨ (k = 1 ∧ k' = 1) ∨ (k = 2 ∧ k' = 2))) ∨ (k = 3 ∧ k' = 3) ∨ (k = 4 ∧ k' = 9) ∨ (∃ p : Nat, p < 6 ∧ a = nI p ∧ a' = nI p ∧ ((k = 5 ∧ k' = 4) ∨ (k = 6 ∧ k' = 5) ∨ (k = 9 ∧ k' = 8) ∨ ∃ y : Nat, y < 8 ∧ b = nI y ∧ b' = nI y ∧ ((k = 7 ∧ k' = 6) ∨ (k = 8 ∧ k' = 7))))
theorem sitsB {c M : pStt} (h : relC c M) {p : Nat} (hp : p < 6) : ∃ β : Bool, f_X8_holds (c.1 0) (nI p) = some (if β then 1 else 0) ∧ M.2 4 p = (if β then 1 else 0) ∧ ∃ z, z < 64 ∧ c.1 0 = nI z ∧ β = z.testBit p := by
  obtain ⟨a1, a2, a3, a4, ⟨z, z1, z2, z3, z4⟩, a6, a7⟩ := h
  refine ⟨z.testBit p, ?_, z3 p hp, z, z1, z2, rfl⟩
  rw [z2, holdsN (by omega) (by omega)]
theorem why_way {c M : pStt} (h : relC c M) {x y : Nat} (hx : x < 8) (z : Int32) : ∃ n : Nat, n ≤ 10 ∧ f_X1_whyNoWay (nI x) (nI y) z c = some (nI n) ∧ f_X9_whyNoWay (nI x) (nI y) z M = some (nI n) := by
  unfold f_X1_whyNoWay f_X9_whyNoWay
  by_cases e : nI x = nI y
  · rw [if_pos e, if_pos e]; exact ⟨1, by omega, rfl, rfl⟩
  · rw [if_neg e, if_neg e, ldn _ hx (by omega), ldn _ hx (by omega), h.1 x hx, bs, bs, holds_has]
    rcases has_01 (M.2 0 x) (nI y) with e | e
    all_goals
      rw [e, bs, bs]
      by_cases c2 : (0 : Int32) = z
      · by_cases c3 : (1 : Int32) = z
        · rw [← c2] at c3; exact absurd c3 (by decide)
        · simp only [if_pos c2, if_neg c3]
          first
          | exact ⟨0, by omega, rfl, rfl⟩
          | exact ⟨2, by omega, rfl, rfl⟩
      · by_cases c3 : (1 : Int32) = z
        · simp only [if_neg c2, if_pos c3]
          first
          | exact ⟨0, by omega, rfl, rfl⟩
          | exact ⟨2, by omega, rfl, rfl⟩
        · simp only [if_neg c2, if_neg c3]
          exact ⟨2, by omega, rfl, rfl⟩
theorem why_there {c M : pStt} (h : relC c M) {k k' : Int32} {p y : Nat} (hp : p < 6) {b b' : Int32} (hk : (k = 6 ∧ k' = 5) ∨ (k = 9 ∧ k' = 8) ∨ ∃ y : Nat, y < 8 ∧ b = nI y ∧ b' = nI y ∧ ((k = 7 ∧ k' = 6) ∨ (k = 8 ∧ k' = 7))) : ∃ n : Nat, n ≤ 10 ∧ f_X1_whyNotThere k (nI p) b c = some (nI n) ∧ f_X9_whyNotDeed k' (nI p) b' M = some (nI n) ∧ (n = 0 → ¬ c.2 2 p = -1 ∧ f_X8_holds (c.1 0) (nI p) = some 0) := by
  obtain ⟨β, s1, s2, s3⟩ := sitsB h hp
  obtain ⟨a1, a2, a3, a4, a5, ⟨a6, a6'⟩, a7⟩ := h
  unfold f_X1_whyNotThere f_X9_whyNotDeed f_X9_whyNotBack
  rw [ldn _ hp (by omega), ldn _ hp (by omega), s1, ldn _ hp (by omega), s2, a6]
  simp only [bs]
  rcases a3 p hp with ⟨e1, e2⟩ | ⟨m, hm, e1, e2⟩
  · rw [e1, e2]
    exact ⟨4, by omega, rfl, rfl, fun h => by omega⟩
  · have hne : ¬ c.2 2 p = -1 := by rw [e1]; exact fun h => m1_ne (n := m) (by omega) h.symm
    have hn1 : ¬ nI m = -1 := fun h => m1_ne (n := m) (by omega) h.symm
    rw [e1, e2, if_neg hn1, if_pos (nI_pos' (by omega))]
    cases β
    · have hs : ∀ n, n = 0 → ¬ nI m = -1 ∧ some (if false = true then (1 : Int32) else 0) = some 0 := fun n _ => ⟨hn1, rfl⟩
      rcases hk with ⟨rfl, rfl⟩ | ⟨rfl, rfl⟩ | ⟨y, hy, rfl, rfl, ⟨rfl, rfl⟩ | ⟨rfl, rfl⟩⟩
      · rcases a6' with e | e
        · rw [e]; exact ⟨6, by omega, rfl, rfl, hs 6⟩
        · rw [e]
          by_cases c0 : nI m = 0
          · simp only [c0]; exact ⟨0, by omega, rfl, rfl, fun _ => ⟨by decide, rfl⟩⟩
          · refine ⟨7, by omega, ?_, ?_, hs 7⟩
            · show (if nI m = 0 then some 0 else some 7 : Option Int32).bind _ = _
              rw [if_neg c0]; rfl
            · show ((if nI m = 0 then some 0 else some 7 : Option Int32).bind _).bind _ = _
              rw [if_neg c0]; rfl
      · exact ⟨0, by omega, rfl, rfl, hs 0⟩
      · have hr := a1 m hm
        have l1 := ldn (c.2 0) hm (by omega)
        have l2 := ldn (M.2 0) hm (by omega)
        rw [hr] at l1
        rcases has_01 (M.2 0 m) (nI y) with e | e
        · refine ⟨8, by omega, ?_, ?_, hs 8⟩
          · show (ld (c.2 0) 8 (nI m)).bind _ = _
            rw [l1, bs, holds_has, e]; rfl
          · show (ld (M.2 0) 8 (nI m)).bind _ = _
            rw [l2, bs, e]; rfl
        · refine ⟨0, by omega, ?_, ?_, hs 0⟩
          · show (ld (c.2 0) 8 (nI m)).bind _ = _
            rw [l1, bs, holds_has, e]; rfl
          · show (ld (M.2 0) 8 (nI m)).bind _ = _
            rw [l2, bs, e]; rfl
      · have l1 := ldn (c.2 1) hy (by omega)
        have l2 := ldn (M.2 1) hy (by omega)
        have key : (c.2 1 y = nI m ∧ M.2 1 y = nI m) ∨ (¬ c.2 1 y = nI m ∧ ¬ M.2 1 y = nI m) := by
          rcases a2 y hy with ⟨t1, t2⟩ | ⟨q, hq, t1, t2⟩ | ⟨q, hq, t1, t2⟩
          · right; rw [t1, t2]; exact ⟨m1_ne (by omega), m6_ne (by omega)⟩
          · rw [t1, t2]
            by_cases e : nI q = nI m
            · exact Or.inl ⟨e, e⟩
            · exact Or.inr ⟨e, e⟩
          · right; rw [t1, t2, nI_eq (by omega) (by omega), nI_eq (by omega) (by omega)]; omega
        rcases key with ⟨t1, t2⟩ | ⟨t1, t2⟩
        · refine ⟨0, by omega, ?_, ?_, hs 0⟩
          · show (ld (c.2 1) 8 (nI y)).bind _ = _
            rw [l1, bs, if_pos t1]; rfl
          · show (ld (M.2 1) 8 (nI y)).bind _ = _
            rw [l2, bs]
            show (if M.2 1 y = nI m then some 0 else some 9 : Option Int32).bind _ = _
            rw [if_pos t2]; rfl
        · refine ⟨9, by omega, ?_, ?_, hs 9⟩
          · show (ld (c.2 1) 8 (nI y)).bind _ = _
            rw [l1, bs, if_neg t1]; rfl
          · show (ld (M.2 1) 8 (nI y)).bind _ = _
            rw [l2, bs]
            show (if M.2 1 y = nI m then some 0 else some 9 : Option Int32).bind _ = _
            rw [if_neg t2]; rfl
    · exact ⟨5, by omega, rfl, rfl, fun h => by omega⟩
theorem why_eq {c M : pStt} (h : relC c M) {k a b k' a' b' : Int32} (hk : AR k a b k' a' b') : ∃ n : Nat, n ≤ 10 ∧ f_X1_whyNot k a b c = some (nI n) ∧ f_X9_whyNot k' a' b' M = some (nI n) := by
  rcases hk with ⟨x, y, hx, hy, rfl, rfl, rfl, rfl, ⟨rfl, rfl⟩ | ⟨rfl, rfl⟩ | ⟨rfl, rfl⟩⟩ | ⟨rfl, rfl⟩ | ⟨rfl, rfl⟩ | ⟨p, hp, rfl, rfl, hk⟩
  · obtain ⟨n, hn, e1, e2⟩ := why_way h hx (y := y) 0
    refine ⟨n, hn, ?_, ?_⟩
    · unfold f_X1_whyNot; rw [if_pos rfl, e1]; rfl
    · unfold f_X9_whyNot; rw [if_pos rfl, e2]; rfl
  · obtain ⟨n, hn, e1, e2⟩ := why_way h hx (y := y) 1
    refine ⟨n, hn, ?_, ?_⟩
    · unfold f_X1_whyNot; rw [if_neg (by decide), if_pos rfl, e1]; rfl
    · unfold f_X9_whyNot; rw [if_neg (by decide), if_pos rfl, e2]; rfl
  · have ht := h.2.1 x hx
    unfold f_X1_whyNot f_X9_whyNot
    rw [if_neg (by decide), if_neg (by decide), if_pos rfl, if_neg (by decide), if_neg (by decide), if_pos rfl, ldn _ hx (by omega), ldn _ hx (by omega), bs, bs]
    rcases ht with ⟨t1, t2⟩ | ⟨q, hq, t1, t2⟩ | ⟨q, hq, t1, t2⟩
    · rw [t1, t2]; exact ⟨0, by omega, rfl, rfl⟩
    · rw [t1, t2, if_neg (fun h => m1_ne (n := q) (by omega) h.symm), if_neg (fun h => m6_ne (n := q) (by omega) h.symm)]; exact ⟨3, by omega, rfl, rfl⟩
    · rw [t1, t2, if_neg (fun h => m1_ne (n := 8 + q) (by omega) h.symm), if_neg (fun h => m6_ne (n := 10 + q) (by omega) h.symm)]; exact ⟨3, by omega, rfl, rfl⟩
  · exact ⟨0, by omega, rfl, rfl⟩
  · obtain ⟨n, hn, q1, q2⟩ := h.2.2.2.2.2.2
    have w1 : f_X1_whyNot 4 a b c = (if 99 ≤ c.1 2 then some 10 else some 0 : Option Int32).bind (fun v => some v) := rfl
    have w2 : f_X9_whyNot 9 a' b' M = (if M.1 1 = 99 then some 10 else some 0 : Option Int32).bind (fun v => some v) := rfl
    rw [w1, w2, q1, q2]
    by_cases e : n = 99
    · subst e; exact ⟨10, by omega, rfl, rfl⟩
    · rw [if_neg (ngeL (n := n) (k := 99) (y := 99) rfl (by omega) (by omega)), if_neg (neL (y := 99) (k := 99) rfl e (by omega) (by omega))]
      exact ⟨0, by omega, rfl, rfl⟩
  · rcases hk with ⟨rfl, rfl⟩ | hk
    · have w1 : f_X1_whyNot 5 (nI p) b c = ((ld (c.2 2) 6 (nI p)).bind (fun x_1 => if x_1 = (-1) then (if (c.1 1) = 0 then some 6 else some 0 : Option Int32).bind (fun v_3 => some v_3) else some 4)).bind (fun u => some u) := rfl
      have w2 : f_X9_whyNot 4 (nI p) b' M = (ld (M.2 2) 6 (nI p)).bind (fun x_11 => (if x_11 < 0 then if (M.1 0) = 0 then some 6 else some 0 else some 4 : Option Int32).bind (fun v_12 => some v_12)) := rfl
      rw [w1, w2, ldn _ hp (by omega), ldn _ hp (by omega), bs, bs, h.2.2.2.2.2.1.1]
      rcases h.2.2.1 p hp with ⟨e1, e2⟩ | ⟨m, hm, e1, e2⟩
      · rw [e1, e2]
        rcases h.2.2.2.2.2.1.2 with e | e
        · rw [e]; exact ⟨6, by omega, rfl, rfl⟩
        · rw [e]; exact ⟨0, by omega, rfl, rfl⟩
      · rw [e1, e2, if_neg (fun h => m1_ne (n := m) (by omega) h.symm), if_neg (nI_pos (by omega))]
        exact ⟨4, by omega, rfl, rfl⟩
    · obtain ⟨n, hn, e1, e2, e3⟩ := why_there (b := b) (b' := b') (y := 0) h hp hk
      refine ⟨n, hn, ?_, ?_⟩
      · have : f_X1_whyNot k (nI p) b c = (f_X1_whyNotThere k (nI p) b c).bind (fun u_15 => some u_15) := by
          rcases hk with ⟨rfl, rfl⟩ | ⟨rfl, rfl⟩ | ⟨y, hy, rfl, rfl, ⟨rfl, rfl⟩ | ⟨rfl, rfl⟩⟩ <;> rfl
        rw [this, e1]; rfl
      · have : f_X9_whyNot k' (nI p) b' M = (f_X9_whyNotDeed k' (nI p) b' M).bind (fun u_15 => some u_15) := by
          rcases hk with ⟨rfl, rfl⟩ | ⟨rfl, rfl⟩ | ⟨y, hy, rfl, rfl, ⟨rfl, rfl⟩ | ⟨rfl, rfl⟩⟩ <;> rfl
        rw [this, e2]; rfl
