/-! the reference's net -/
/-- what is read of the net are its five entries -/
def ag5 (f h : Nat → Int32) : Prop := ∀ j, j < 5 → f j = h j
theorem ld_ag {f h : Nat → Int32} (g : ag5 f h) (y : Int32) : ld f 5 y = ld h 5 y := by
  unfold ld
  by_cases c : inB y 5 = true
  · rw [if_pos c, if_pos c]
    have : y.toNatClampNeg < 5 := by
      unfold inB at c
      rw [decide_eq_true_eq] at c
      omega
    rw [g _ this]
  · rw [if_neg c, if_neg c]
def R18 {α : Type} (σ τ : pStt) (u v : Option (α × pStt)) : Prop := (u = none ∧ v = none) ∨ ∃ (a : α) (f h : Nat → Int32), u = some (a, sA σ 18 f) ∧ v = some (a, sA τ 18 h) ∧ ag5 f h
theorem st_ag {f h : Nat → Int32} (g : ag5 f h) (σ τ : pStt) (y x : Int32) : (stA (sA σ 18 f) 18 5 y x = none ∧ stA (sA τ 18 h) 18 5 y x = none) ∨ ∃ f' h', stA (sA σ 18 f) 18 5 y x = some (sA σ 18 f') ∧ stA (sA τ 18 h) 18 5 y x = some (sA τ 18 h') ∧ ag5 f' h' := by
  unfold stA
  by_cases c : inB y 5 = true
  · rw [if_pos c, if_pos c, sA_sA, sA_sA]
    refine Or.inr ⟨_, _, rfl, rfl, fun j hj => ?_⟩
    show (if j = y.toNatClampNeg then x else f j) = (if j = y.toNatClampNeg then x else h j)
    by_cases e : j = y.toNatClampNeg
    · rw [if_pos e, if_pos e]
    · rw [if_neg e, if_neg e]; exact g j hj
  · rw [if_neg c, if_neg c]; exact Or.inl ⟨rfl, rfl⟩
theorem lay40 (σ τ : pStt) (y1 y2 y4 : Int32) : ∀ (n : Nat) (y3 y5 : Int32) (f h : Nat → Int32), ag5 f h → R18 σ τ (fl_X9_layNet_40 y1 y2 y4 n y3 y5 (sA σ 18 f)) (fl_X9_layNet_40 y1 y2 y4 n y3 y5 (sA τ 18 h)) := by
  intro n
  induction n with
  | zero => intro y3 y5 f h g; exact Or.inl ⟨rfl, rfl⟩
  | succ n ih =>
    intro y3 y5 f h g
    rw [fl_X9_layNet_40, fl_X9_layNet_40]
    by_cases c : y2 ≤ y5
    · rw [if_pos c, if_pos c]; exact Or.inr ⟨_, f, h, rfl, rfl, g⟩
    · rw [if_neg c, if_neg c]
      have e1 : ld ((sA σ 18 f).2 18) 5 y4 = ld ((sA τ 18 h).2 18) 5 y4 := ld_ag g y4
      rw [e1]
      cases ld ((sA τ 18 h).2 18) 5 y4 with
      | none => exact Or.inl ⟨rfl, rfl⟩
      | some x6 =>
        rw [bs, bs]
        cases f_X9_has y1 y3 with
        | none => exact Or.inl ⟨rfl, rfl⟩
        | some u7 =>
          rw [bs, bs]
          have hh : ∀ x : Int32, ∃ w, (if u7 = 0 then some 0 else some x : Option Int32) = some w := by
            intro x
            by_cases c : u7 = 0
            · exact ⟨0, if_pos c⟩
            · exact ⟨x, if_neg c⟩
          obtain ⟨w1, hw1⟩ := hh ((1 : Int32) <<< (y5 &&& 31))
          obtain ⟨w2, hw2⟩ := hh ((1 : Int32) <<< (y4 &&& 31))
          rw [hw1, bs, bs]
          rcases st_ag g σ τ y4 (x6 ||| w1) with ⟨a, b⟩ | ⟨f', h', a, b, g'⟩
          · rw [a, b]; exact Or.inl ⟨rfl, rfl⟩
          · rw [a, b, bs, bs]
            have e2 : ld ((sA σ 18 f').2 18) 5 y5 = ld ((sA τ 18 h').2 18) 5 y5 := ld_ag g' y5
            rw [e2]
            cases ld ((sA τ 18 h').2 18) 5 y5 with
            | none => exact Or.inl ⟨rfl, rfl⟩
            | some x10 =>
              rw [bs, bs, bs, bs, hw2, bs, bs]
              rcases st_ag g' σ τ y5 (x10 ||| w2) with ⟨a, b⟩ | ⟨f2, h2, a, b, g2⟩
              · rw [a, b]; exact Or.inl ⟨rfl, rfl⟩
              · rw [a, b, bs, bs]
                exact ih _ _ f2 h2 g2
theorem lay28 (σ τ : pStt) (y1 y2 : Int32) : ∀ (n : Nat) (y3 y4 : Int32) (f h : Nat → Int32), ag5 f h → (fl_X9_layNet_28 y1 y2 n y3 y4 (sA σ 18 f) = none ∧ fl_X9_layNet_28 y1 y2 n y3 y4 (sA τ 18 h) = none) ∨ ∃ f' h', fl_X9_layNet_28 y1 y2 n y3 y4 (sA σ 18 f) = some (sA σ 18 f') ∧ fl_X9_layNet_28 y1 y2 n y3 y4 (sA τ 18 h) = some (sA τ 18 h') ∧ ag5 f' h' := by
  intro n
  induction n with
  | zero => intro y3 y4 f h g; exact Or.inl ⟨rfl, rfl⟩
  | succ n ih =>
    intro y3 y4 f h g
    rw [fl_X9_layNet_28, fl_X9_layNet_28]
    by_cases c : y2 ≤ y4
    · rw [if_pos c, if_pos c]; exact Or.inr ⟨f, h, rfl, rfl, g⟩
    · rw [if_neg c, if_neg c]
      rcases lay40 σ τ y1 y2 y4 2000 y3 (y4 + 1) f h g with ⟨a, b⟩ | ⟨x, f', h', a, b, g'⟩
      · rw [a, b]; exact Or.inl ⟨rfl, rfl⟩
      · rw [a, b, bs, bs]
        exact ih _ _ f' h' g'
theorem lay5 (y1 y2 y3 : Int32) (σ : pStt) : ∀ (m n j : Nat) (f : Nat → Int32), j + m = 5 → m < n → (∀ i, i < j → f i = 0) → ∃ f', fl_X9_layNet_5 y1 y2 y3 n (nI j) (sA σ 18 f) = some (sA σ 18 f') ∧ ∀ i, i < 5 → f' i = 0 := by
  intro m
  induction m with
  | zero =>
    intro n j f hj hn h
    obtain ⟨n, rfl⟩ : ∃ m, n = m + 1 := ⟨n - 1, by omega⟩
    have : j = 5 := by omega
    subst this
    rw [fl_X9_layNet_5, if_pos (geL (n := 5) (k := 5) (y := 5) rfl (by omega) (by omega))]
    exact ⟨f, rfl, h⟩
  | succ m ih =>
    intro n j f hj hn h
    obtain ⟨n, rfl⟩ : ∃ m, n = m + 1 := ⟨n - 1, by omega⟩
    rw [fl_X9_layNet_5, if_neg (ngeL (n := j) (k := 5) (y := 5) rfl (by omega) (by omega)), stAn _ 18 _ (by omega : j < 5) (by omega), bs, show nI j + 1 = nI (j + 1) from nI_1 j, sA_sA]
    refine ih n (j + 1) _ (by omega) (by omega) (fun i hi => ?_)
    show (if i = j then (0 : Int32) else f i) = 0
    by_cases c : i = j
    · rw [if_pos c]
    · rw [if_neg c]; exact h i (by omega)
theorem hangs12 {σ τ : pStt} {f h : Nat → Int32} (g : ag5 f h) (y1 y3 : Int32) : ∀ (n : Nat) (y2 y4 : Int32), fl_X9_hangs_12 y1 y3 (sA σ 18 f) n y2 y4 = fl_X9_hangs_12 y1 y3 (sA τ 18 h) n y2 y4 := by
  intro n
  induction n with
  | zero => intro y2 y4; rfl
  | succ n ih =>
    intro y2 y4
    rw [fl_X9_hangs_12, fl_X9_hangs_12]
    have e1 : ld ((sA σ 18 f).2 18) 5 y4 = ld ((sA τ 18 h).2 18) 5 y4 := ld_ag g y4
    rw [e1]
    simp only [ih]
theorem hangs4 {σ τ : pStt} {f h : Nat → Int32} (g : ag5 f h) (y1 : Int32) : ∀ (n : Nat) (y2 y3 : Int32), fl_X9_hangs_4 y1 (sA σ 18 f) n y2 y3 = fl_X9_hangs_4 y1 (sA τ 18 h) n y2 y3 := by
  intro n
  induction n with
  | zero => intro y2 y4; rfl
  | succ n ih =>
    intro y2 y3
    rw [fl_X9_hangs_4, fl_X9_hangs_4, hangs12 (τ := τ) g y1 y3 2000 y2 0]
    simp only [ih]
theorem net_run {n m : Nat} (h1 : 1 ≤ n) (h5 : n ≤ 5) (hm : m < 2 ^ prs n) (σ : pStt) (f : Nat → Int32) : ∃ f', f_X9_layNet (nI m) (nI n) (sA σ 18 f) = some (sA σ 18 f') ∧ f_X9_hangs (nI n) (sA σ 18 f') = some (if (hbT n).testBit m then 1 else 0) := by
  have hok := net_ok h1 h5 hm
  unfold netOk at hok
  obtain ⟨a, ea, za⟩ := lay5 (nI m) (nI n) 0 σ 5 2000 0 f (by omega) (by omega) (fun i hi => by omega)
  obtain ⟨b, eb, zb⟩ := lay5 (nI m) (nI n) 0 zS 5 2000 0 (zS.2 18) (by omega) (by omega) (fun i hi => by omega)
  rw [sA_self] at eb
  have ea : fl_X9_layNet_5 (nI m) (nI n) 0 2000 0 (sA σ 18 f) = some (sA σ 18 a) := ea
  have eb : fl_X9_layNet_5 (nI m) (nI n) 0 2000 0 zS = some (sA zS 18 b) := eb
  have g : ag5 a b := fun j hj => by rw [za j hj, zb j hj]
  unfold f_X9_layNet at hok ⊢
  rw [eb, bs] at hok
  rw [ea, bs]
  rcases lay28 σ zS (nI m) (nI n) 2000 0 0 a b g with ⟨p, q⟩ | ⟨f', h', p, q, g'⟩
  · rw [q] at hok; cases hok
  · rw [q] at hok
    rw [p]
    refine ⟨f', rfl, ?_⟩
    have e : f_X9_hangs (nI n) (sA σ 18 f') = f_X9_hangs (nI n) (sA zS 18 h') := by
      unfold f_X9_hangs
      rw [hangs4 (τ := zS) g' (nI n) 2000 1 0]
    rw [e]
    have hok : (match f_X9_hangs (nI n) (sA zS 18 h') with
      | some v => v == (if (hbT n).testBit m then 1 else 0)
      | none => false) = true := hok
    cases ev : f_X9_hangs (nI n) (sA zS 18 h') with
    | none => rw [ev] at hok; cases hok
    | some v =>
      rw [ev] at hok
      exact congrArg some (eq_of_beq hok)
theorem power_eq (y0 : Int64) (y2 : Int32) : ∀ (n : Nat) (a : Int64) (b : Int32), fl_X9_power_5 y0 y2 n a b = fl_X8_power_5 y0 y2 n a b := by
  intro n
  induction n with
  | zero => intro a b; rfl
  | succ n ih =>
    intro a b
    rw [fl_X9_power_5, fl_X8_power_5, ih]
theorem nL_mul (a b : Nat) : nL a * nL b = nL (a * b) := (Int64.ofNat_mul a b).symm
theorem nL_add (a b : Nat) : nL a + nL b = nL (a + b) := (Int64.ofNat_add a b).symm
theorem pow_loop (a e : Nat) (he : e < 1000) : ∀ (k n i : Nat), i + k = e → k < n → fl_X9_power_5 (nL a) (nI e) n (nL (a ^ i)) (nI i) = some (nL (a ^ e)) := by
  intro k
  induction k with
  | zero =>
    intro n i hi hn
    obtain ⟨n, rfl⟩ : ∃ m, n = m + 1 := ⟨n - 1, by omega⟩
    have : i = e := by omega
    subst this
    rw [fl_X9_power_5, if_pos (Int32.le_refl _)]
  | succ k ih =>
    intro n i hi hn
    obtain ⟨n, rfl⟩ : ∃ m, n = m + 1 := ⟨n - 1, by omega⟩
    rw [fl_X9_power_5, if_neg (nI_ge (by omega) (by omega)), nL_mul, ← Nat.pow_succ, show nI i + 1 = nI (i + 1) from nI_1 i]
    exact ih n (i + 1) (by omega) (by omega)
theorem powN (a e : Nat) (he : e < 1000) : f_X9_power (nL a) (nI e) = some (nL (a ^ e)) := by
  have h : fl_X9_power_5 (nL a) (nI e) 2000 1 0 = _ := pow_loop a e he e 2000 0 (by omega) (by omega)
  unfold f_X9_power
  rw [h]; rfl
theorem prs_le : ∀ n, n ≤ 5 → prs n ≤ 10 ∧ nI n * (nI n - 1) / 2 = nI (prs n) := by decide +kernel
theorem pb10 {m : Nat} (h : m < 1024) : pbf 32 m = pbf 10 m := by
  have := pbf_add 10 22 m 0 h
  rw [Nat.mul_zero, Nat.add_zero, pbf_0 22, Nat.add_zero] at this
  exact this
theorem pbf_lt : ∀ k m, m < 2 ^ k → ∀ j, pbf (k + j) m ≤ k := by
  intro k m h j
  have := pbf_add k j m 0 h
  rw [Nat.mul_zero, Nat.add_zero, pbf_0 j, Nat.add_zero] at this
  rw [this]; exact pbf_le k m
theorem t64 : ∀ t, t ≤ 10 → (nI t).toInt64 = nL t ∧ (10 : Int64) - nL t = nL (10 - t) := by decide +kernel
theorem hang_loop {n t : Nat} (h1 : 1 ≤ n) (h5 : n ≤ 5) (ht : t ≤ 10) (y4 : Int32) (σ : pStt) : ∀ (k q m : Nat) (f : Nat → Int32), m + k = 2 ^ prs n → k < q → ∃ f', fl_X9_hang_84 (nI n) (nI t) y4 (nI (prs n)) q (nL (acc n t m)) (nI m) (sA σ 18 f) = some (nL (acc n t (2 ^ prs n)), sA σ 18 f') := by
  have hp := (prs_le n h5).1
  have hp2 : 2 ^ prs n ≤ 2 ^ 10 := Nat.pow_le_pow_right (by omega) hp
  intro k
  induction k with
  | zero =>
    intro q m f hm hq
    obtain ⟨q, rfl⟩ : ∃ z, q = z + 1 := ⟨q - 1, by omega⟩
    have : m = 2 ^ prs n := by omega
    subst this
    rw [fl_X9_hang_84, shl1 (prs n) (by omega), if_pos (Int32.le_refl _)]
    exact ⟨f, rfl⟩
  | succ k ih =>
    intro q m f hm hq
    obtain ⟨q, rfl⟩ : ∃ z, q = z + 1 := ⟨q - 1, by omega⟩
    obtain ⟨f', e1, e2⟩ := net_run h1 h5 (show m < 2 ^ prs n by omega) σ f
    have g1 := ih q (m + 1) f' (by omega) (by omega)
    have hpb : pbf 10 m ≤ prs n := by
      have := pbf_lt (prs n) m (by omega) (10 - prs n)
      rw [show prs n + (10 - prs n) = 10 by omega] at this
      exact this
    rw [fl_X9_hang_84, shl1 (prs n) (by omega), if_neg (nI_ge (by omega) (by omega)), e1, bs, e2, bs, onesN (by omega), bs, pb10 (by omega), (t64 t ht).1, (t64 t ht).2, powN _ _ (by omega), bs, bs, pk_sub hpb, powN _ _ (by omega), bs, nL_mul, show nI m + 1 = nI (m + 1) from nI_1 m]
    have hac : acc n t (m + 1) = acc n t m + (if (hbT n).testBit m then t ^ pbf 10 m * (10 - t) ^ (prs n - pbf 10 m) else 0) := rfl
    rw [hac] at g1
    cases e : (hbT n).testBit m
    · rw [e] at g1
      rw [← nL_add] at g1
      exact g1
    · rw [e] at g1
      rw [← nL_add] at g1
      exact g1
theorem apart_ag {g h : Nat → Int64} {a : Nat} (ha : a ≤ 6) (y2 : Int32) (hg : ∀ i, 1 ≤ i → i < a → g i = h i) : ∀ (n i : Nat) (y3 y5 : Int64), 1 ≤ i → i ≤ a → fl_X0_apart_8 (nI a) y2 g n y3 y5 (nI i) = fl_X0_apart_8 (nI a) y2 h n y3 y5 (nI i) := by
  intro n
  induction n with
  | zero => intro i y3 y5 hi hi2; rfl
  | succ n ih =>
    intro i y3 y5 hi hi2
    rw [fl_X0_apart_8, fl_X0_apart_8]
    by_cases c : i < a
    · rw [if_neg (nI_ge c (by omega)), if_neg (nI_ge c (by omega)), ldLn g (by omega : i < 6) (by omega), ldLn h (by omega : i < 6) (by omega), hg i hi c, show nI i + 1 = nI (i + 1) from nI_1 i]
      simp only [ih (i + 1) _ _ (by omega) (show i + 1 ≤ a by omega)]
    · have : i = a := by omega
      subst this
      rw [if_pos (Int32.le_refl _), if_pos (Int32.le_refl _)]
theorem tog_ag {a : Nat} (ha : a ≤ 5) (y2 : Int32) : ∀ (n i : Nat) (g h : Nat → Int64), 1 ≤ i → i ≤ a + 1 → (∀ q, 1 ≤ q → q < i → g q = h q) → (fl_X0_hangingTogether_2 (nI a) y2 n (nI i) g = none ∧ fl_X0_hangingTogether_2 (nI a) y2 n (nI i) h = none) ∨ ∃ g' h', fl_X0_hangingTogether_2 (nI a) y2 n (nI i) g = some g' ∧ fl_X0_hangingTogether_2 (nI a) y2 n (nI i) h = some h' ∧ ∀ q, 1 ≤ q → q ≤ a → g' q = h' q := by
  intro n
  induction n with
  | zero => intro i g h hi hi2 hg; exact Or.inl ⟨rfl, rfl⟩
  | succ n ih =>
    intro i g h hi hi2 hg
    rw [fl_X0_hangingTogether_2, fl_X0_hangingTogether_2]
    by_cases c : a < i
    · rw [if_pos (nI_lt c (by omega)), if_pos (nI_lt c (by omega))]
      exact Or.inr ⟨g, h, rfl, rfl, fun q h1 h2 => hg q h1 (by omega)⟩
    · rw [if_neg (nI_nlt (by omega) (by omega)), if_neg (nI_nlt (by omega) (by omega))]
      have ea : f_X0_apart (nI i) y2 g = f_X0_apart (nI i) y2 h := by
        unfold f_X0_apart
        have := apart_ag (a := i) (by omega) y2 hg 2000 1 0 1 (by omega) hi
        have this : fl_X0_apart_8 (nI i) y2 g 2000 0 1 1 = fl_X0_apart_8 (nI i) y2 h 2000 0 1 1 := this
        rw [this]
      rw [ea]
      unfold f_X8_pairs
      rw [bs, bs]
      cases f_X8_power 10 (nI i * (nI i - 1) / 2) with
      | none => exact Or.inl ⟨rfl, rfl⟩
      | some u3 =>
        rw [bs, bs]
        cases f_X0_apart (nI i) y2 h with
        | none => exact Or.inl ⟨rfl, rfl⟩
        | some u4 =>
          rw [bs, bs, stLn g _ (by omega : i < 6) (by omega), stLn h _ (by omega : i < 6) (by omega), bs, bs, show nI i + 1 = nI (i + 1) from nI_1 i]
          refine ih (i + 1) _ _ (by omega) (by omega) (fun q h1 h2 => ?_)
          unfold vp_updL
          by_cases e : q = i
          · simp only [e, if_true]
          · simp only [if_neg e]; exact hg q h1 (by omega)
def togOk (n t : Nat) : Bool := match f_X0_hangingTogether (nI n) (nI t) (fun _ => 0) with
  | some u => u.1 == nL (stT n t)
  | none => false
set_option maxHeartbeats 16000000 in
theorem tog_t : ∀ n, n < 5 → ∀ t, t < 11 → togOk (n + 1) t = true := by decide +kernel
theorem tog_ex {n t : Nat} (h1 : 1 ≤ n) (h5 : n ≤ 5) (ht : t ≤ 10) (g : Nat → Int64) : ∃ g', f_X0_hangingTogether (nI n) (nI t) g = some (nL (stT n t), g') := by
  have hok := tog_t (n - 1) (by omega) t (by omega)
  rw [show n - 1 + 1 = n by omega] at hok
  unfold togOk f_X0_hangingTogether at hok
  unfold f_X0_hangingTogether
  rcases tog_ag h5 (nI t) 2000 1 g (fun _ => 0) (by omega) (by omega) (fun q a b => by omega) with ⟨p, q⟩ | ⟨g', h', p, q, e⟩
  · have q : fl_X0_hangingTogether_2 (nI n) (nI t) 2000 1 (fun _ => 0) = none := q
    rw [q] at hok; cases hok
  · have q : fl_X0_hangingTogether_2 (nI n) (nI t) 2000 1 (fun _ => 0) = some h' := q
    have p : fl_X0_hangingTogether_2 (nI n) (nI t) 2000 1 g = some g' := p
    rw [q, bs, ldLn h' (by omega : n < 6) (by omega)] at hok
    rw [p, bs, ldLn g' (by omega : n < 6) (by omega), e n h1 (by omega)]
    have hok : (h' n == nL (stT n t)) = true := hok
    rw [eq_of_beq hok]
    exact ⟨g', rfl⟩
def partOk (a b : Int64) (q : Int32) : Bool := match f_X8_partOf a b q, f_X9_lowest a b q with
  | some x, some y => x == y
  | _, _ => false
theorem part_ex {a b : Int64} {q : Int32} (h : partOk a b q = true) : ∃ x, f_X8_partOf a b q = some x ∧ f_X9_lowest a b q = some x := by
  unfold partOk at h
  cases e1 : f_X8_partOf a b q with
  | none => rw [e1] at h; cases h
  | some x =>
    cases e2 : f_X9_lowest a b q with
    | none => rw [e1, e2] at h; cases h
    | some y =>
      rw [e1, e2] at h
      exact ⟨x, rfl, congrArg some (eq_of_beq h).symm⟩
set_option maxHeartbeats 16000000 in
theorem part_t0 : ∀ n, n < 5 → ∀ t, t < 11 → ∀ q, q < 2 → partOk (nL (stT (n + 1) t)) (nL (10 ^ prs (n + 1))) (nI q) = true := by decide +kernel
set_option maxHeartbeats 16000000 in
theorem part_t1 : ∀ n, n < 5 → ∀ t, t < 11 → ∀ q, q < 2 → partOk ((nI (prs (n + 1))).toInt64 * (nI t).toInt64) 10 (nI q) = true := by decide +kernel
theorem cpl_hang : cp_hang := by
  intro c r g d i0 i1 M ch x1 x2 x3 x4 hV
  have n1 : f_X9_in x1.toInt64 1 5 = f_X8_isWithin x1 1 5 := inW x1 1 5 (by decide) (by decide)
  have n2 : f_X9_in x2.toInt64 0 10 = f_X8_isWithin x2 0 10 := inW x2 0 10 (by decide) (by decide)
  have bad : (f_X8_hang x1 x2 x3 x4 ch = some (-1000000000000000002, ch) ∧ f_X9_hang x1 x2 x3 x4 M = some (-1000000000000000002, M)) → ∃ (u : Int64 × (Nat → Int64)) (v : Int64 × pStt), f_X8_hang x1 x2 x3 x4 ch = some u ∧ f_X9_hang x1 x2 x3 x4 M = some v ∧ u.1 = v.1 ∧ IV c r g d i0 i1 v.2 := fun h => ⟨_, _, h.1, h.2, rfl, hV⟩
  rcases isWr_cases x1 (a := 1) (b := 5) (lo := 1) (n := 5) rfl rfl (by omega) (by omega) with ⟨n, hn1, hn5, rfl⟩ | e
  · have w1 := isWr (j := n) (lo := 1) (n := 5) (a := 1) (b := 5) rfl rfl hn1 hn5 (by omega)
    rcases isW_cases x2 (hi := 10) (n := 10) rfl (by omega) with ⟨t, ht, rfl⟩ | e
    · have w2 := isWn (j := t) (n := 10) (hi := 10) rfl ht (by omega)
      rcases isW_cases x3 (hi := 1) (n := 1) rfl (by omega) with ⟨k, hk, rfl⟩ | e
      · have w3 := isWn (j := k) (n := 1) (hi := 1) rfl hk (by omega)
        rcases isW_cases x4 (hi := 1) (n := 1) rfl (by omega) with ⟨q, hq, rfl⟩ | e
        · have w4 := isWn (j := q) (n := 1) (hi := 1) rfl hq (by omega)
          have hp := (prs_le n hn5).2
          have hpl := (prs_le n hn5).1
          have hpl2 : 2 ^ prs n ≤ 2 ^ 10 := Nat.pow_le_pow_right (by omega) hpl
          have hk' : k = 0 ∨ k = 1 := by omega
          rcases hk' with rfl | rfl
          · obtain ⟨g', e8⟩ := tog_ex hn1 hn5 ht ch
            obtain ⟨f', e9⟩ := hang_loop hn1 hn5 ht (nI q) M (2 ^ prs n) 2000 0 (M.2 18) (by omega) (by omega)
            have hacc := acc_t (n - 1) (by omega) t (by omega)
            rw [show n - 1 + 1 = n by omega] at hacc
            rw [sA_self, hacc] at e9
            have e9 : fl_X9_hang_84 (nI n) (nI t) (nI q) (nI (prs n)) 2000 0 0 M = some (nL (stT n t), sA M 18 f') := e9
            have hx := part_t0 (n - 1) (by omega) t (by omega) q (by omega)
            rw [show n - 1 + 1 = n by omega] at hx
            obtain ⟨x, p8, p9⟩ := part_ex hx
            have pw9 : f_X9_power 10 (nI (prs n)) = some (nL (10 ^ prs n)) := powN 10 (prs n) (by omega)
            have pw8 : f_X8_power 10 (nI (prs n)) = some (nL (10 ^ prs n)) := by
              rw [← pw9]
              unfold f_X8_power f_X9_power
              rw [power_eq]
            refine ⟨(x, g'), (x, sA M 18 f'), ?_, ?_, rfl, hV⟩
            · unfold f_X8_hang f_X8_pairs
              rw [w1, w2, w3, w4]
              simp only [bs]
              rw [if_neg (by decide), if_neg (by decide), if_neg (by decide), if_neg (by decide), bs, if_neg (by decide), if_pos (show nI 0 = 0 from rfl), e8, bs, hp, pw8, bs, p8]
              rfl
            · unfold f_X9_hang
              rw [n1, w1, n2, w2, in01, w3, in01, w4]
              simp only [bs]
              rw [if_neg (by decide), if_neg (by decide), if_neg (by decide), if_neg (by decide), if_neg (by decide), hp, e9, bs, pw9, bs, p9]
              rfl
          · have hx := part_t1 (n - 1) (by omega) t (by omega) q (by omega)
            rw [show n - 1 + 1 = n by omega] at hx
            obtain ⟨x, p8, p9⟩ := part_ex hx
            refine ⟨(x, ch), (x, M), ?_, ?_, rfl, hV⟩
            · unfold f_X8_hang f_X8_pairs
              rw [w1, w2, w3, w4]
              simp only [bs]
              rw [if_neg (by decide), if_neg (by decide), if_neg (by decide), if_neg (by decide), bs, if_neg (by decide), if_neg (by decide), hp, p8]
              rfl
            · unfold f_X9_hang
              rw [n1, w1, n2, w2, in01, w3, in01, w4]
              simp only [bs]
              rw [if_neg (by decide), if_neg (by decide), if_neg (by decide), if_neg (by decide), if_pos (show nI 1 = 1 from rfl), hp, p9]
              rfl
        · apply bad
          constructor
          · unfold f_X8_hang; rw [w1, w2, w3, e]; rfl
          · unfold f_X9_hang; rw [n1, w1, n2, w2, in01, w3, in01, e]; rfl
      · apply bad
        constructor
        · unfold f_X8_hang; rw [w1, w2, e]; rfl
        · unfold f_X9_hang; rw [n1, w1, n2, w2, in01, e]; rfl
    · apply bad
      constructor
      · unfold f_X8_hang; rw [w1, e]; rfl
      · unfold f_X9_hang; rw [n1, w1, n2, e]; rfl
  · apply bad
    constructor
    · unfold f_X8_hang; rw [e]; rfl
    · unfold f_X9_hang; rw [n1, e]; rfl
