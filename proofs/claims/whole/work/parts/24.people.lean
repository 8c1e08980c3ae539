/-! things and people -/
theorem sA_self (σ : pStt) (k : Nat) : sA σ k (σ.2 k) = σ := by
  obtain ⟨a, b⟩ := σ
  unfold sA
  congr 1
  funext j
  unfold va_up
  by_cases e : j = k
  · rw [if_pos e, e]
  · rw [if_neg e]
theorem sA_sA (σ : pStt) (k : Nat) (f f' : Nat → Int32) : sA (sA σ k f) k f' = sA σ k f' := by
  unfold sA
  simp only [bx_uu]
theorem m1_ne {n : Nat} (h : n < 2 ^ 31) : ¬ (-1 : Int32) = nI n := by
  intro e
  have : (-1 : Int32).toInt = (nI n).toInt := by rw [e]
  rw [nI_toInt h] at this
  have h2 : (-1 : Int32).toInt = -1 := by decide
  omega
theorem m6_ne {n : Nat} (h : n < 2 ^ 31) : ¬ (-6 : Int32) = nI n := by
  intro e
  have : (-6 : Int32).toInt = (nI n).toInt := by rw [e]
  rw [nI_toInt h] at this
  have h2 : (-6 : Int32).toInt = -6 := by decide
  omega
theorem cornerT {c M : pStt} {j : Nat} (hj : j < 8) (h : relT (c.2 1 j) (M.2 1 j)) : ∃ v, f_X1_cornerOfThing (nI j) c = some v ∧ f_X9_cornerOf (nI j) M = some v := by
  unfold f_X1_cornerOfThing f_X9_cornerOf
  rw [ldn _ hj (by omega), ldn _ hj (by omega)]
  simp only [bs]
  rw [X8_isCorner, in07]
  rcases h with ⟨e1, e2⟩ | ⟨n, hn, e1, e2⟩ | ⟨n, hn, e1, e2⟩
  · rw [e1, e2]; exact ⟨-6, rfl, rfl⟩
  · rw [e1, e2, isWn (j := n) (n := 7) (hi := 7) rfl (by omega) (by omega)]; exact ⟨nI n, rfl, rfl⟩
  · rw [e1, e2, isW0 (by rw [show (7 : Int32) = nI 7 from rfl]; intro q; exact absurd q.2 (nI_ge (by omega) (by omega))), isW0 (by rw [show (7 : Int32) = nI 7 from rfl]; intro q; exact absurd q.2 (nI_ge (by omega) (by omega)))]
    exact ⟨-6, rfl, rfl⟩
theorem holderT {c M : pStt} {j : Nat} (hj : j < 8) (h : relT (c.2 1 j) (M.2 1 j)) : ∃ v, f_X1_holderOfThing (nI j) c = some v ∧ f_X9_carrierOf (nI j) M = some v ∧ ∀ k, k < 6 → (c.2 1 j = nI (8 + k) ↔ v = nI k) := by
  unfold f_X1_holderOfThing f_X9_carrierOf
  rw [ldn _ hj (by omega), ldn _ hj (by omega)]
  simp only [bs]
  rcases h with ⟨e1, e2⟩ | ⟨n, hn, e1, e2⟩ | ⟨n, hn, e1, e2⟩
  · rw [e1, e2]
    exact ⟨-6, rfl, rfl, fun k hk => ⟨fun e => absurd e (m1_ne (by omega)), fun e => absurd e (m6_ne (by omega))⟩⟩
  · rw [e1, e2, if_pos (ltL (n := n) (y := 8) (k := 8) rfl (by omega) (by omega)), if_pos (ltL (n := n) (y := 10) (k := 10) rfl (by omega) (by omega))]
    refine ⟨-6, rfl, rfl, fun k hk => ⟨fun e => ?_, fun e => absurd e (m6_ne (by omega))⟩⟩
    rw [nI_eq (by omega) (by omega)] at e
    omega
  · rw [e1, e2, if_neg (nltL (n := 8 + n) (y := 8) (k := 8) rfl (by omega) (by omega)), if_neg (nltL (n := 10 + n) (y := 10) (k := 10) rfl (by omega) (by omega))]
    have s1 : nI (8 + n) - (8 : Int32) = nI n := by
      rw [show (8 : Int32) = nI 8 from rfl, pk_sub (by omega), show 8 + n - 8 = n by omega]
    have s2 : nI (10 + n) - (10 : Int32) = nI n := by
      rw [show (10 : Int32) = nI 10 from rfl, pk_sub (by omega), show 10 + n - 10 = n by omega]
    refine ⟨nI n, ?_, ?_, fun k hk => ?_⟩
    · show some (nI (8 + n) - (8 : Int32)) = _
      rw [s1]
    · show some (nI (10 + n) - (10 : Int32)) = _
      rw [s2]
    · rw [nI_eq (by omega) (by omega), nI_eq (by omega) (by omega)]
      omega
/-- what he carries goes -/
theorem drop_loop {k : Nat} (hk : k < 6) (a b : Int32) : ∀ (q n i : Nat) (c M : pStt), i + q = 8 → q < n → (∀ j, j < 8 → relT (c.2 1 j) (M.2 1 j)) → ∃ f f' : Nat → Int32, fl_X1_put_3 (nI k) a b n (nI i) c = some (sA c 1 f) ∧ fl_X9_drop_2 (nI k) n (nI i) M = some (sA M 1 f') ∧ (∀ j, j < 8 → relT (f j) (f' j)) ∧ ∀ j, j < 8 → f j = if i ≤ j ∧ c.2 1 j = nI (8 + k) then -1 else c.2 1 j := by
  intro q
  induction q with
  | zero =>
    intro n i c M hi hn h
    obtain ⟨n, rfl⟩ : ∃ m, n = m + 1 := ⟨n - 1, by omega⟩
    refine ⟨c.2 1, M.2 1, ?_, ?_, h, fun j hj => ?_⟩
    · rw [fl_X1_put_3, if_pos (geL (n := i) (y := 8) (k := 8) rfl (by omega) (by omega)), sA_self]
    · rw [fl_X9_drop_2, if_pos (geL (n := i) (y := 8) (k := 8) rfl (by omega) (by omega)), sA_self]
    · rw [if_neg (by omega)]
  | succ q ih =>
    intro n i c M hi hn h
    obtain ⟨n, rfl⟩ : ∃ m, n = m + 1 := ⟨n - 1, by omega⟩
    have hi8 : i < 8 := by omega
    obtain ⟨v, v1, v2, v3⟩ := holderT hi8 (h i hi8)
    have e8 : (8 : Int32) + nI k = nI (8 + k) := nI_add 8 k
    rw [fl_X1_put_3, fl_X9_drop_2, if_neg (ngeL (n := i) (y := 8) (k := 8) rfl (by omega) (by omega)), if_neg (ngeL (n := i) (y := 8) (k := 8) rfl (by omega) (by omega)), ldn _ hi8 (by omega), ldn _ hi8 (by omega), v2, e8, show nI i + 1 = nI (i + 1) from nI_1 i]
    simp only [bs]
    by_cases e : c.2 1 i = nI (8 + k)
    · have ev := (v3 k hk).mp e
      rw [if_pos e, if_pos ev]
      simp only [bs]
      rw [stAn c 1 _ hi8 (by omega), stAn M 1 _ hi8 (by omega)]
      simp only [bs]
      have h' : ∀ j, j < 8 → relT ((sA c 1 (upd (c.2 1) i (-1))).2 1 j) ((sA M 1 (upd (M.2 1) i (-6))).2 1 j) := by
        intro j hj
        show relT (upd (c.2 1) i (-1) j) (upd (M.2 1) i (-6) j)
        unfold upd
        by_cases ej : j = i
        · rw [if_pos ej, if_pos ej]; exact Or.inl ⟨rfl, rfl⟩
        · rw [if_neg ej, if_neg ej]; exact h j hj
      obtain ⟨f, f', r1, r2, r3, r4⟩ := ih n (i + 1) _ _ (by omega) (by omega) h'
      rw [sA_sA] at r1 r2
      refine ⟨f, f', r1, r2, r3, fun j hj => ?_⟩
      rw [r4 j hj]
      show (if i + 1 ≤ j ∧ upd (c.2 1) i (-1) j = nI (8 + k) then (-1 : Int32) else upd (c.2 1) i (-1) j) = _
      unfold upd
      by_cases ej : j = i
      · subst ej
        rw [if_pos rfl, if_neg (by omega), if_pos ⟨Nat.le_refl _, e⟩]
      · rw [if_neg ej]
        by_cases c1 : i ≤ j ∧ c.2 1 j = nI (8 + k)
        · rw [if_pos c1, if_pos ⟨by omega, c1.2⟩]
        · rw [if_neg c1, if_neg (fun z => c1 ⟨by omega, z.2⟩)]
    · have ev : ¬ v = nI k := fun z => e ((v3 k hk).mpr z)
      rw [if_neg e, if_neg ev]
      simp only [bs]
      rw [stAn M 1 _ hi8 (by omega)]
      simp only [bs]
      have es : upd (M.2 1) i (M.2 1 i) = M.2 1 := by
        funext j
        unfold upd
        by_cases ej : j = i
        · rw [if_pos ej, ej]
        · rw [if_neg ej]
      rw [es, sA_self]
      obtain ⟨f, f', r1, r2, r3, r4⟩ := ih n (i + 1) _ _ (by omega) (by omega) h
      refine ⟨f, f', r1, r2, r3, fun j hj => ?_⟩
      rw [r4 j hj]
      by_cases ej : j = i
      · subst ej
        rw [if_neg (by omega), if_neg (fun z => e z.2)]
      · by_cases c1 : i ≤ j ∧ c.2 1 j = nI (8 + k)
        · rw [if_pos c1, if_pos ⟨by omega, c1.2⟩]
        · rw [if_neg c1, if_neg (fun z => c1 ⟨by omega, z.2⟩)]
def clrb (z k : Nat) : Nat := z - (if z.testBit k then 2 ^ k else 0)
def setb (z k : Nat) : Nat := z + (if z.testBit k then 0 else 2 ^ k)
theorem clr_ok : ∀ z, z < 64 → ∀ k, k < 6 → (nI z &&& (((1 : Int32) <<< (nI k &&& 31)) ^^^ (-1 : Int32)) = nI (clrb z k)) ∧ clrb z k < 64 ∧ ∀ j, j < 6 → (clrb z k).testBit j = (z.testBit j && decide (j ≠ k)) := by decide +kernel
theorem set_ok : ∀ z, z < 64 → ∀ k, k < 6 → (nI z ||| ((1 : Int32) <<< (nI k &&& 31)) = nI (setb z k)) ∧ setb z k < 64 ∧ ∀ j, j < 6 → (setb z k).testBit j = (z.testBit j || decide (j = k)) := by decide +kernel
theorem relT_keep {t p : Int32} (h : relT t p) (k : Nat) : True := trivial
/-- one is put somewhere, with empty hands -/
theorem put_rel {c M : pStt} (h : relC c M) {k : Nat} (hk : k < 6) {a b : Int32} (hab : relP a b) {n : Nat} (hn : n ≤ 9) (hz : a = -1 → n = 0) : ∃ c' f', f_X1_put (nI k) a (nI n) c = some c' ∧ f_X9_drop (nI k) M = some (sA M 1 f') ∧ relC c' (sA (sA (sA (sA M 1 f') 2 (upd (M.2 2) k b)) 3 (upd (M.2 3) k (nI n))) 4 (upd (M.2 4) k 0)) := by
  obtain ⟨a1, a2, a3, a4, ⟨z, hz1, hz2, hz3, hz4⟩, a6, a8⟩ := h
  obtain ⟨f, f', r1, r2, r3, r4⟩ := drop_loop hk a (nI n) 8 2000 0 c M rfl (by omega) a2
  have r1 : fl_X1_put_3 (nI k) a (nI n) 2000 0 c = some (sA c 1 f) := r1
  have r2 : fl_X9_drop_2 (nI k) 2000 0 M = some (sA M 1 f') := r2
  obtain ⟨q1, q2, q3⟩ := clr_ok z hz1 k hk
  refine ⟨sI (sA (sA (sA c 1 f) 2 (upd (c.2 2) k a)) 3 (upd (c.2 3) k (nI n))) 0 (nI (clrb z k)), f', ?_, ?_, a1, r3, ?_, ?_, ⟨clrb z k, q2, rfl, ?_, ?_⟩, a6, a8⟩
  · unfold f_X1_put
    rw [r1, bs, stAn _ 2 _ hk (by omega), bs, stAn _ 3 _ hk (by omega), bs]
    show some (sI _ 0 (c.1 0 &&& _)) = _
    rw [hz2, q1]
    rfl
  · unfold f_X9_drop
    rw [r2]; rfl
  · intro j hj
    show relP (upd (c.2 2) k a j) (upd (M.2 2) k b j)
    unfold upd
    by_cases e : j = k
    · rw [if_pos e, if_pos e]; exact hab
    · rw [if_neg e, if_neg e]; exact a3 j hj
  · intro j hj
    show ∃ m : Nat, m ≤ 9 ∧ upd (c.2 3) k (nI n) j = nI m ∧ upd (M.2 3) k (nI n) j = nI m
    unfold upd
    by_cases e : j = k
    · rw [if_pos e, if_pos e]; exact ⟨n, hn, rfl, rfl⟩
    · rw [if_neg e, if_neg e]; exact a4 j hj
  · intro j hj
    show upd (M.2 4) k 0 j = _
    rw [q3 j hj]
    unfold upd
    by_cases e : j = k
    · rw [if_pos e]; simp [e]
    · rw [if_neg e, hz3 j hj]; simp [e]
  · intro k' hk' he
    have he : upd (c.2 2) k a k' = -1 := he
    show upd (c.2 3) k (nI n) k' = 0 ∧ (clrb z k).testBit k' = false ∧ ∀ j, j < 8 → ¬ f j = nI (8 + k')
    rw [q3 k' hk']
    unfold upd at he ⊢
    by_cases e : k' = k
    · rw [if_pos e] at he ⊢
      refine ⟨by rw [hz he]; rfl, by simp [e], fun j hj ej => ?_⟩
      rw [r4 j hj] at ej
      subst e
      by_cases c1 : 0 ≤ j ∧ c.2 1 j = nI (8 + k')
      · rw [if_pos c1] at ej; exact m1_ne (by omega) ej
      · rw [if_neg c1] at ej; exact c1 ⟨Nat.zero_le _, ej⟩
    · rw [if_neg e] at he ⊢
      obtain ⟨w1, w2, w3⟩ := hz4 k' hk' he
      refine ⟨w1, by rw [w2]; rfl, fun j hj ej => ?_⟩
      rw [r4 j hj] at ej
      by_cases c1 : 0 ≤ j ∧ c.2 1 j = nI (8 + k)
      · rw [if_pos c1] at ej; exact m1_ne (by omega) ej
      · rw [if_neg c1] at ej; exact w3 j hj ej
