/-! what follows -/
def onc (I J K : Nat → Nat) : Nat → Nat → Nat
  | 0, s => s
  | n + 1, s => if (onc I J K n s).testBit (I n) && (onc I J K n s).testBit (J n) then onc I J K n s ||| 2 ^ (K n) else onc I J K n s
def sub (s t : Nat) : Prop := ∀ b, s.testBit b = true → t.testBit b = true
theorem onc_sub (I J K : Nat → Nat) {s t : Nat} (h : sub s t) : ∀ n, sub (onc I J K n s) (onc I J K n t) := by
  intro n
  induction n with
  | zero => exact h
  | succ n ih =>
    intro b hb
    unfold onc at hb ⊢
    by_cases c : ((onc I J K n s).testBit (I n) && (onc I J K n s).testBit (J n)) = true
    · rw [if_pos c, Nat.testBit_or, Bool.or_eq_true] at hb
      rw [Bool.and_eq_true] at c
      rw [if_pos (by rw [Bool.and_eq_true]; exact ⟨ih _ c.1, ih _ c.2⟩), Nat.testBit_or, Bool.or_eq_true]
      rcases hb with hb | hb
      · exact Or.inl (ih b hb)
      · exact Or.inr hb
    · rw [if_neg c] at hb
      by_cases c2 : ((onc I J K n t).testBit (I n) && (onc I J K n t).testBit (J n)) = true
      · rw [if_pos c2, Nat.testBit_or, Bool.or_eq_true]; exact Or.inl (ih b hb)
      · rw [if_neg c2]; exact ih b hb
theorem onc_lt (I J K : Nat → Nat) {s N : Nat} (hs : s < 1024) (hK : ∀ e, e < N → K e < 10) : ∀ n, n ≤ N → onc I J K n s < 1024 := by
  intro n
  induction n with
  | zero => intro _; exact hs
  | succ n ih =>
    intro hn
    have h := ih (by omega)
    unfold onc
    by_cases c : ((onc I J K n s).testBit (I n) && (onc I J K n s).testBit (J n)) = true
    · rw [if_pos c]
      have hk : 2 ^ (K n) < 2 ^ 10 := Nat.pow_lt_pow_right (by omega) (hK n (by omega))
      exact Nat.or_lt_two_pow (n := 10) h hk
    · rw [if_neg c]; exact h
theorem two_sub (i j t : Nat) : (2 ^ i ||| 2 ^ j) &&& t = (2 ^ i ||| 2 ^ j) ↔ (t.testBit i && t.testBit j) = true := by
  constructor
  · intro h
    rw [Bool.and_eq_true]
    constructor
    · have := congrArg (fun z => z.testBit i) h
      simp only [Nat.testBit_and, Nat.testBit_or, Nat.testBit_two_pow_self, Bool.true_or, Bool.true_and] at this
      exact this
    · have := congrArg (fun z => z.testBit j) h
      simp only [Nat.testBit_and, Nat.testBit_or, Nat.testBit_two_pow_self, Bool.or_true, Bool.true_and] at this
      exact this
  · intro h
    rw [Bool.and_eq_true] at h
    apply Nat.eq_of_testBit_eq
    intro b
    rw [Nat.testBit_and, Nat.testBit_or, Nat.testBit_two_pow, Nat.testBit_two_pow]
    by_cases h1 : i = b
    · subst h1; rw [h.1]; simp
    · by_cases h2 : j = b
      · subst h2; rw [h.2]; simp
      · simp [h1, h2]
theorem once_loop {r M : pStt} {N : Nat} (hN : N ≤ 12) (h1 : r.1 0 = nI N) (h2 : M.1 2 = nI N) {I J K : Nat → Nat} (h : ∀ e, e < N → I e < 10 ∧ J e < 10 ∧ K e < 10 ∧ M.2 5 e = nI (I e) ∧ M.2 6 e = nI (J e) ∧ M.2 7 e = nI (K e) ∧ r.2 0 e = nI (2 ^ I e ||| 2 ^ J e) ∧ r.2 1 e = nI (2 ^ K e)) {s : Nat} (hs : s < 1024) (y3 y4 : Int32) : ∀ (k n n' e : Nat), e + k = N → k < n → k < n' → fl_X4_closure_16 y3 y4 r n (nI (onc I J K e s)) (nI e) = some (nI (onc I J K N s)) ∧ fl_X9_onceMore_4 M n' (nI (onc I J K e s)) (nI e) = some (nI (onc I J K N s)) := by
  intro k
  induction k with
  | zero =>
    intro n n' e he hn hn'
    obtain ⟨n, rfl⟩ : ∃ m, n = m + 1 := ⟨n - 1, by omega⟩
    obtain ⟨n', rfl⟩ : ∃ m, n' = m + 1 := ⟨n' - 1, by omega⟩
    have : e = N := by omega
    subst this
    rw [fl_X4_closure_16, fl_X9_onceMore_4, h1, h2, if_pos (Int32.le_refl _), if_pos (Int32.le_refl _)]
    exact ⟨rfl, rfl⟩
  | succ k ih =>
    intro n n' e he hn hn'
    obtain ⟨n, rfl⟩ : ∃ m, n = m + 1 := ⟨n - 1, by omega⟩
    obtain ⟨n', rfl⟩ : ∃ m, n' = m + 1 := ⟨n' - 1, by omega⟩
    obtain ⟨q1, q2, q3, q4, q5, q6, q7, q8⟩ := h e (by omega)
    have hlt := onc_lt I J K hs (fun e he => (h e he).2.2.1) e (by omega)
    obtain ⟨g1, g2⟩ := ih n n' (e + 1) (by omega) (by omega) (by omega)
    rw [fl_X4_closure_16, fl_X9_onceMore_4, h1, h2, if_neg (nI_ge (by omega) (by omega)), if_neg (nI_ge (by omega) (by omega)), ldn _ (by omega : e < 12) (by omega), ldn _ (by omega : e < 12) (by omega), ldn _ (by omega : e < 12) (by omega), ldn _ (by omega : e < 12) (by omega), ldn _ (by omega : e < 12) (by omega), q4, q5, q6, q7, q8, show nI e + 1 = nI (e + 1) from nI_1 e]
    simp only [bs]
    rw [shl1 (K e) (by omega), hasN (a := onc I J K e s) (b := I e) (by omega) (by omega), hasN (a := onc I J K e s) (b := J e) (by omega) (by omega), andN]
    have hp : ∀ x, x < 10 → 2 ^ x < 1024 := fun x hx => Nat.pow_lt_pow_right (m := x) (n := 10) (by omega) hx
    have hg : 2 ^ I e ||| 2 ^ J e < 1024 := Nat.or_lt_two_pow (n := 10) (hp _ q1) (hp _ q2)
    have hcond : nI ((2 ^ I e ||| 2 ^ J e) &&& onc I J K e s) = nI (2 ^ I e ||| 2 ^ J e) ↔ ((onc I J K e s).testBit (I e) && (onc I J K e s).testBit (J e)) = true := by
      rw [nI_eq (Nat.lt_of_le_of_lt Nat.and_le_left (by omega)) (by omega)]
      exact two_sub _ _ _
    have hunf : onc I J K (e + 1) s = if (onc I J K e s).testBit (I e) && (onc I J K e s).testBit (J e) then onc I J K e s ||| 2 ^ (K e) else onc I J K e s := rfl
    simp only [bs]
    by_cases c : ((onc I J K e s).testBit (I e) && (onc I J K e s).testBit (J e)) = true
    · rw [hunf, if_pos c] at g1 g2
      rw [if_pos (hcond.mpr c), orN]
      rw [Bool.and_eq_true] at c
      rw [c.1, c.2]
      refine ⟨g1, ?_⟩
      show fl_X9_onceMore_4 M n' (nI (onc I J K e s) ||| nI (2 ^ K e)) (nI (e + 1)) = _
      rw [orN]; exact g2
    · rw [hunf, if_neg c] at g1 g2
      rw [if_neg (fun z => c (hcond.mp z))]
      refine ⟨g1, ?_⟩
      have hz : nI (onc I J K e s) ||| (0 : Int32) = nI (onc I J K e s) := by simp
      cases c1 : (onc I J K e s).testBit (I e) with
      | false =>
        show fl_X9_onceMore_4 M n' (nI (onc I J K e s) ||| 0) (nI (e + 1)) = _
        rw [hz]; exact g2
      | true =>
        cases c2 : (onc I J K e s).testBit (J e) with
        | false =>
          show fl_X9_onceMore_4 M n' (nI (onc I J K e s) ||| 0) (nI (e + 1)) = _
          rw [hz]; exact g2
        | true => rw [c1, c2] at c; exact absurd rfl c
def itf (F : Nat → Nat) : Nat → Nat → Nat
  | 0, s => s
  | n + 1, s => itf F n (F s)
theorem itf_fix (F : Nat → Nat) {s : Nat} (h : F s = s) : ∀ n, itf F n s = s := by
  intro n
  induction n with
  | zero => rfl
  | succ n ih => show itf F n (F s) = s; rw [h]; exact ih
theorem itf_lt {F : Nat → Nat} (hF : ∀ s, s < 1024 → F s < 1024) : ∀ n s, s < 1024 → itf F n s < 1024 := by
  intro n
  induction n with
  | zero => intro s h; exact h
  | succ n ih => intro s h; exact ih (F s) (hF s h)
theorem itf_sub {F : Nat → Nat} (hF : ∀ s t, sub s t → sub (F s) (F t)) : ∀ n s t, sub s t → sub (itf F n s) (itf F n t) := by
  intro n
  induction n with
  | zero => intro s t h; exact h
  | succ n ih => intro s t h; exact ih (F s) (F t) (hF s t h)
theorem rules_cl {r M : pStt} (h : relR r M) : ∃ cl : Nat → Nat, (∀ s, s < 1024 → cl s < 1024 ∧ f_X4_closure (nI s) r = some (nI (cl s)) ∧ f_X9_closedOf (nI s) M = some (nI (cl s))) ∧ ∀ s t, sub s t → sub (cl s) (cl t) := by
  obtain ⟨N, hN, h1, h2, h3⟩ := h
  have hch : ∀ e, ∃ q : Nat × Nat × Nat, e < N → q.1 < 10 ∧ q.2.1 < 10 ∧ q.2.2 < 10 ∧ M.2 5 e = nI q.1 ∧ M.2 6 e = nI q.2.1 ∧ M.2 7 e = nI q.2.2 ∧ r.2 0 e = nI (2 ^ q.1 ||| 2 ^ q.2.1) ∧ r.2 1 e = nI (2 ^ q.2.2) := by
    intro e
    by_cases he : e < N
    · obtain ⟨i, j, k, p1, p2, p3, p4, p5, p6, p7, p8⟩ := h3 e he
      exact ⟨(i, j, k), fun _ => ⟨p1, p2, p3, p4, p5, p6, p7, p8⟩⟩
    · exact ⟨(0, 0, 0), fun q => absurd q he⟩
  let Q : Nat → Nat × Nat × Nat := fun e => Classical.choose (hch e)
  have hQ : ∀ e, e < N → (Q e).1 < 10 ∧ (Q e).2.1 < 10 ∧ (Q e).2.2 < 10 ∧ M.2 5 e = nI (Q e).1 ∧ M.2 6 e = nI (Q e).2.1 ∧ M.2 7 e = nI (Q e).2.2 ∧ r.2 0 e = nI (2 ^ (Q e).1 ||| 2 ^ (Q e).2.1) ∧ r.2 1 e = nI (2 ^ (Q e).2.2) := fun e he => Classical.choose_spec (hch e) he
  generalize hI : (fun e => (Q e).1) = I
  generalize hJ : (fun e => (Q e).2.1) = J
  generalize hK : (fun e => (Q e).2.2) = K
  have hq : ∀ e, e < N → I e < 10 ∧ J e < 10 ∧ K e < 10 ∧ M.2 5 e = nI (I e) ∧ M.2 6 e = nI (J e) ∧ M.2 7 e = nI (K e) ∧ r.2 0 e = nI (2 ^ I e ||| 2 ^ J e) ∧ r.2 1 e = nI (2 ^ K e) := by
    intro e he
    rw [← hI, ← hJ, ← hK]
    exact hQ e he
  let F : Nat → Nat := fun s => onc I J K N s
  have hF : ∀ s, s < 1024 → F s < 1024 := fun s hs => onc_lt I J K hs (fun e he => (hq e he).2.2.1) N (Nat.le_refl _)
  have o4 : ∀ s, s < 1024 → ∀ y3 y4, fl_X4_closure_16 y3 y4 r 2000 (nI s) 0 = some (nI (F s)) := fun s hs y3 y4 => (once_loop hN h1 h2 hq hs y3 y4 N 2000 2000 0 (by omega) (by omega) (by omega)).1
  have o9 : ∀ s, s < 1024 → f_X9_onceMore (nI s) M = some (nI (F s)) := by
    intro s hs
    have := (once_loop hN h1 h2 hq hs 0 0 N 2000 2000 0 (by omega) (by omega) (by omega)).2
    have : fl_X9_onceMore_4 M 2000 (nI s) 0 = some (nI (F s)) := this
    unfold f_X9_onceMore
    rw [this]; rfl
  have c9 : ∀ (k n e s : Nat), e + k = 10 → k < n → s < 1024 → fl_X9_closedOf_4 M n (nI s) (nI e) = some (nI (itf F k s)) := by
    intro k
    induction k with
    | zero =>
      intro n e s he hn hs
      obtain ⟨n, rfl⟩ : ∃ m, n = m + 1 := ⟨n - 1, by omega⟩
      rw [fl_X9_closedOf_4, if_pos (geL (n := e) (y := 10) (k := 10) rfl (by omega) (by omega))]
      rfl
    | succ k ih =>
      intro n e s he hn hs
      obtain ⟨n, rfl⟩ : ∃ m, n = m + 1 := ⟨n - 1, by omega⟩
      rw [fl_X9_closedOf_4, if_neg (ngeL (n := e) (y := 10) (k := 10) rfl (by omega) (by omega)), o9 s hs, bs, show nI e + 1 = nI (e + 1) from nI_1 e]
      exact ih n (e + 1) (F s) (by omega) (by omega) (hF s hs)
  have c4 : ∀ (k n e s : Nat), e + k = 10 → k < n → s < 1024 → ∃ b, fl_X4_closure_4 r n (nI s) (nI e) = some b ∧ sm (fun a => some a) (fun a => some a) b = some (nI (itf F k s)) := by
    intro k
    induction k with
    | zero =>
      intro n e s he hn hs
      obtain ⟨n, rfl⟩ : ∃ m, n = m + 1 := ⟨n - 1, by omega⟩
      rw [fl_X4_closure_4, if_pos (geL (n := e) (y := 10) (k := 10) rfl (by omega) (by omega))]
      exact ⟨_, rfl, rfl⟩
    | succ k ih =>
      intro n e s he hn hs
      obtain ⟨n, rfl⟩ : ∃ m, n = m + 1 := ⟨n - 1, by omega⟩
      rw [fl_X4_closure_4, if_neg (ngeL (n := e) (y := 10) (k := 10) rfl (by omega) (by omega)), o4 s hs, bs, show nI e + 1 = nI (e + 1) from nI_1 e]
      by_cases c : nI (F s) = nI s
      · rw [if_pos c]
        rw [nI_eq (by have := hF s hs; omega) (by omega)] at c
        refine ⟨_, rfl, ?_⟩
        show some (nI (F s)) = some (nI (itf F k (F s)))
        rw [c, itf_fix F c]
      · rw [if_neg c]
        exact ih n (e + 1) (F s) (by omega) (by omega) (hF s hs)
  refine ⟨itf F 10, fun s hs => ⟨itf_lt hF 10 s hs, ?_, ?_⟩, fun s t hst => itf_sub (fun s t h => onc_sub I J K h N) 10 s t hst⟩
  · obtain ⟨b, b1, b2⟩ := c4 10 2000 0 s rfl (by omega) hs
    have b1 : fl_X4_closure_4 r 2000 (nI s) 0 = some b := b1
    unfold f_X4_closure
    rw [b1]; exact b2
  · have b1 : fl_X9_closedOf_4 M 2000 (nI s) 0 = some (nI (itf F 10 s)) := c9 10 2000 0 s rfl (by omega) hs
    unfold f_X9_closedOf
    rw [b1]; rfl
theorem cpl_close : cp_close := by
  intro c r g d i0 i1 M x1 hV
  obtain ⟨cl, hcl, -⟩ := rules_cl hV.2.1
  rcases isW_cases x1 (hi := 1023) (n := 1023) rfl (by omega) with ⟨s, hs, rfl⟩ | e
  · have w := isWn (j := s) (n := 1023) (hi := 1023) rfl hs (by omega)
    obtain ⟨q1, q2, q3⟩ := hcl s (by omega)
    refine ⟨nI (cl s), nI (cl s), ?_, ?_, rfl, hV⟩
    · unfold f_X8_close; rw [w, q2]; rfl
    · unfold f_X9_close; rw [in0n (nI s) (b := 1023) (hi := 1023) (by decide), w, q3]; rfl
  · refine ⟨-2, -2, ?_, ?_, rfl, hV⟩
    · unfold f_X8_close; rw [e]; rfl
    · unfold f_X9_close; rw [in0n x1 (b := 1023) (hi := 1023) (by decide), e]; rfl
theorem b0_ok : ∀ k, k < 10 → (1023 : Int32) &&& (((1 : Int32) <<< (nI k &&& 31)) ^^^ (-1 : Int32)) = nI (1023 - 2 ^ k) := by decide +kernel
theorem b0_bit : ∀ k, k < 10 → (1023 - 2 ^ k).testBit k = false := by decide +kernel
theorem b0_few : ∀ k, k < 10 → ∀ s, s < 1024 → s.testBit k = false → s ≠ 1023 - 2 ^ k → pbf 32 s < pbf 32 (1023 - 2 ^ k) := by decide +kernel
theorem b0_sub {k s : Nat} (hk : k < 10) (hs : s < 1024) (h : s.testBit k = false) : sub s (1023 - 2 ^ k) := by
  intro b hb
  by_cases h10 : b < 10
  · have q : ∀ k, k < 10 → ∀ b, b < 10 → (1023 - 2 ^ k).testBit b = decide (b ≠ k) := by decide +kernel
    rw [q k hk b h10]
    apply decide_eq_true
    intro e
    rw [e, h] at hb
    cases hb
  · rw [Nat.testBit_lt_two_pow (Nat.lt_of_lt_of_le hs (show 2 ^ 10 ≤ 2 ^ b from Nat.pow_le_pow_right (by omega) (by omega)))] at hb
    cases hb
set_option maxHeartbeats 16000000 in
theorem cpl_least : cp_least := by
  intro c r g d i0 i1 M x1 x2 hV
  obtain ⟨cl, hcl, hmono⟩ := rules_cl hV.2.1
  have key : ∃ v, f_X8_least x1 x2 r = some v ∧ f_X9_least x1 x2 M = some v := by
    unfold f_X8_least f_X9_least
    rw [X8_isClaim, in09, in0n x2 (b := 1) (hi := 1) (by decide)]
    rcases isW_cases x1 (hi := 9) (n := 9) rfl (by omega) with ⟨k, hk, rfl⟩ | e
    · rw [isWn (j := k) (n := 9) (hi := 9) rfl hk (by omega)]
      rcases isW_cases x2 (hi := 1) (n := 1) rfl (by omega) with ⟨w, hw, rfl⟩ | e
      · rw [isWn (j := w) (n := 1) (hi := 1) rfl hw (by omega)]
        have hk10 : k < 10 := by omega
        have hB : 1023 - 2 ^ k < 1024 := Nat.lt_of_le_of_lt (Nat.sub_le _ _) (by decide)
        obtain ⟨B1, B2, B3⟩ := hcl _ hB
        -- the coupled loop, once both hold the same
        have ph2 : ∀ (q n n' i b : Nat), i + q = 1024 → q < n → q < n' → b < 1024 → ∃ v : Nat, v < 1024 ∧ fl_X4_leastGrounds_33 (nI k) r n (nI b) (nI (pbf 32 b)) (nI i) = some (nI v) ∧ fl_X9_least_31 (nI k) (nI w) M n' (nI b) (nI i) = some (nI v) := by
          intro q
          induction q with
          | zero =>
            intro n n' i b hi hn hn' hb
            obtain ⟨n, rfl⟩ : ∃ m, n = m + 1 := ⟨n - 1, by omega⟩
            obtain ⟨n', rfl⟩ : ∃ m, n' = m + 1 := ⟨n' - 1, by omega⟩
            rw [fl_X4_leastGrounds_33, fl_X9_least_31, if_pos (geL (n := i) (y := 1024) (k := 1024) rfl (by omega) (by omega)), if_pos (geL (n := i) (y := 1024) (k := 1024) rfl (by omega) (by omega))]
            exact ⟨b, hb, rfl, rfl⟩
          | succ q ih =>
            intro n n' i b hi hn hn' hb
            obtain ⟨n, rfl⟩ : ∃ m, n = m + 1 := ⟨n - 1, by omega⟩
            obtain ⟨n', rfl⟩ : ∃ m, n' = m + 1 := ⟨n' - 1, by omega⟩
            obtain ⟨C1, C2, C3⟩ := hcl i (by omega)
            have l1 := pbf_le 32 i
            have l2 := pbf_le 32 b
            rw [fl_X4_leastGrounds_33, fl_X9_least_31, if_neg (ngeL (n := i) (y := 1024) (k := 1024) rfl (by omega) (by omega)), if_neg (ngeL (n := i) (y := 1024) (k := 1024) rfl (by omega) (by omega)), if_neg (show ¬ nI b < 0 from nI_pos (by omega)), bitCountN (m := i) (by omega), onesN (m := i) (by omega), onesN (m := b) (by omega), holdsN (a := i) (b := k) (by omega) (by omega), hasN (a := i) (b := k) (by omega) (by omega), C2, C3, show nI i + 1 = nI (i + 1) from nI_1 i]
            simp only [bs]
            rw [holdsN (a := cl i) (b := k) (by omega) (by omega), hasN (a := cl i) (b := k) (by omega) (by omega)]
            by_cases c1 : pbf 32 b ≤ pbf 32 i
            · rw [if_pos (nI_le c1 (by omega)), if_pos (nI_le c1 (by omega))]
              exact ih n n' (i + 1) b (by omega) (by omega) (by omega) hb
            · rw [if_neg (nI_ge (by omega) (by omega)), if_neg (nI_ge (by omega) (by omega))]
              cases t1 : i.testBit k with
              | true => exact ih n n' (i + 1) b (by omega) (by omega) (by omega) hb
              | false =>
                cases t2 : (cl i).testBit k with
                | true => exact ih n n' (i + 1) i (by omega) (by omega) (by omega) (by omega)
                | false => exact ih n n' (i + 1) b (by omega) (by omega) (by omega) hb
        cases hg : (cl (1023 - 2 ^ k)).testBit k with
        | false =>
          have none_ : ∀ (q n i : Nat), i + q = 1024 → q < n → fl_X9_least_31 (nI k) (nI w) M n (-6) (nI i) = some (-6) := by
            intro q
            induction q with
            | zero =>
              intro n i hi hn
              obtain ⟨n, rfl⟩ : ∃ m, n = m + 1 := ⟨n - 1, by omega⟩
              rw [fl_X9_least_31, if_pos (geL (n := i) (y := 1024) (k := 1024) rfl (by omega) (by omega))]
            | succ q ih =>
              intro n i hi hn
              obtain ⟨n, rfl⟩ : ∃ m, n = m + 1 := ⟨n - 1, by omega⟩
              obtain ⟨C1, C2, C3⟩ := hcl i (by omega)
              rw [fl_X9_least_31, if_neg (ngeL (n := i) (y := 1024) (k := 1024) rfl (by omega) (by omega)), if_pos (show (-6 : Int32) < 0 by decide), hasN (a := i) (b := k) (by omega) (by omega), C3, show nI i + 1 = nI (i + 1) from nI_1 i]
              simp only [bs]
              rw [hasN (a := cl i) (b := k) (by omega) (by omega)]
              cases t1 : i.testBit k with
              | true => exact ih n (i + 1) (by omega) (by omega)
              | false =>
                cases t2 : (cl i).testBit k with
                | true =>
                  have := hmono i (1023 - 2 ^ k) (b0_sub hk10 (by omega) t1) k t2
                  rw [hg] at this
                  cases this
                | false => exact ih n (i + 1) (by omega) (by omega)
          have n1 : fl_X9_least_31 (nI k) (nI w) M 2000 (-6) 0 = some (-6) := none_ 1024 2000 0 rfl (by omega)
          have n2 : f_X4_leastGrounds (nI k) r = some (-6) := by
            unfold f_X4_leastGrounds
            rw [b0_ok k hk10, B2, bs, holdsN (a := cl (1023 - 2 ^ k)) (b := k) (by omega) (by omega), hg]; rfl
          rw [n1, n2]
          exact ⟨-6, rfl, rfl⟩
        | true =>
          have ph1 : ∀ (q n n' i : Nat), i + q = 1024 → q < n → q < n' → (∀ s, s < i → s.testBit k = false → (cl s).testBit k = false) → ∃ v : Nat, v < 1024 ∧ fl_X4_leastGrounds_33 (nI k) r n (nI (1023 - 2 ^ k)) (nI (pbf 32 (1023 - 2 ^ k))) (nI i) = some (nI v) ∧ fl_X9_least_31 (nI k) (nI w) M n' (-6) (nI i) = some (nI v) := by
            intro q
            induction q with
            | zero =>
              intro n n' i hi hn hn' hno
              have := hno (1023 - 2 ^ k) (by omega) (b0_bit k hk10)
              rw [hg] at this
              cases this
            | succ q ih =>
              intro n n' i hi hn hn' hno
              obtain ⟨n, rfl⟩ : ∃ m, n = m + 1 := ⟨n - 1, by omega⟩
              obtain ⟨n', rfl⟩ : ∃ m, n' = m + 1 := ⟨n' - 1, by omega⟩
              obtain ⟨C1, C2, C3⟩ := hcl i (by omega)
              have l1 := pbf_le 32 i
              have l2 := pbf_le 32 (1023 - 2 ^ k)
              rw [fl_X4_leastGrounds_33, fl_X9_least_31, if_neg (ngeL (n := i) (y := 1024) (k := 1024) rfl (by omega) (by omega)), if_neg (ngeL (n := i) (y := 1024) (k := 1024) rfl (by omega) (by omega)), if_pos (show (-6 : Int32) < 0 by decide), bitCountN (m := i) (by omega), holdsN (a := i) (b := k) (by omega) (by omega), hasN (a := i) (b := k) (by omega) (by omega), C2, C3, show nI i + 1 = nI (i + 1) from nI_1 i]
              simp only [bs]
              rw [holdsN (a := cl i) (b := k) (by omega) (by omega), hasN (a := cl i) (b := k) (by omega) (by omega)]
              have next : ∀ s, s < i + 1 → s ≠ i → s.testBit k = false → (cl s).testBit k = false := fun s h1 h2 => hno s (by omega)
              cases t1 : i.testBit k with
              | true =>
                obtain ⟨v, v1, v2, v3⟩ := ih n n' (i + 1) (by omega) (by omega) (by omega) (fun s h1 h2 => by
                  by_cases e : s = i
                  · subst e; rw [t1] at h2; cases h2
                  · exact next s h1 e h2)
                refine ⟨v, v1, ?_, v3⟩
                by_cases c1 : nI (pbf 32 (1023 - 2 ^ k)) ≤ nI (pbf 32 i)
                · rw [if_pos c1]; exact v2
                · rw [if_neg c1]; exact v2
              | false =>
                cases t2 : (cl i).testBit k with
                | false =>
                  obtain ⟨v, v1, v2, v3⟩ := ih n n' (i + 1) (by omega) (by omega) (by omega) (fun s h1 h2 => by
                    by_cases e : s = i
                    · subst e; exact t2
                    · exact next s h1 e h2)
                  refine ⟨v, v1, ?_, v3⟩
                  by_cases c1 : nI (pbf 32 (1023 - 2 ^ k)) ≤ nI (pbf 32 i)
                  · rw [if_pos c1]; exact v2
                  · rw [if_neg c1]; exact v2
                | true =>
                  obtain ⟨v, v1, v2, v3⟩ := ph2 q n n' (i + 1) i (by omega) (by omega) (by omega) (by omega)
                  refine ⟨v, v1, ?_, v3⟩
                  by_cases e : i = 1023 - 2 ^ k
                  · rw [e] at v2 ⊢
                    rw [if_pos (Int32.le_refl _)]; exact v2
                  · have := b0_few k hk10 i (by omega) t1 e
                    rw [if_neg (nI_ge this (by omega))]; exact v2
          obtain ⟨v, v1, v2, v3⟩ := ph1 1024 2000 2000 0 rfl (by omega) (by omega) (fun s h => by omega)
          have v3 : fl_X9_least_31 (nI k) (nI w) M 2000 (-6) 0 = some (nI v) := v3
          have v2 : fl_X4_leastGrounds_33 (nI k) r 2000 (nI (1023 - 2 ^ k)) (nI (pbf 32 (1023 - 2 ^ k))) 0 = some (nI v) := v2
          have n2 : f_X4_leastGrounds (nI k) r = some (nI v) := by
            unfold f_X4_leastGrounds
            rw [b0_ok k hk10, B2, bs, holdsN (a := cl (1023 - 2 ^ k)) (b := k) (by omega) (by omega), hg, bitCountN (m := 1023 - 2 ^ k) (by omega), if_pos rfl, bs, if_neg (by decide), bs, v2, bs]
          rw [n2, v3]
          simp only [bs]
          rw [if_neg (show ¬ nI v = -6 from fun e => m6_ne (by omega) e.symm), if_neg (show ¬ nI v < 0 from nI_pos (by omega)), bitCountN (m := v) (by omega), onesN (m := v) (by omega)]
          rcases (show w = 0 ∨ w = 1 by omega) with rfl | rfl
          · exact ⟨_, rfl, rfl⟩
          · exact ⟨_, rfl, rfl⟩
      · rw [e]; exact ⟨-2, rfl, rfl⟩
    · rw [e]; exact ⟨-2, rfl, rfl⟩
  obtain ⟨v, v1, v2⟩ := key
  exact ⟨v, v, v1, v2, rfl, hV⟩
