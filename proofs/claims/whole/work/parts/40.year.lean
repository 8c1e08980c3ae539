/-! the year -/
theorem lN_div {a d : Nat} (ha : a < 2 ^ 31) (h0 : 0 < d) (hd : d < 2 ^ 31) : lN a / lN d = lN (a / d) := by
  have hq : a / d < 2 ^ 31 := Nat.lt_of_le_of_lt (Nat.div_le_self a d) ha
  apply Int64.toInt_inj.mp
  rw [Int64.toInt_div, lN_toInt ha, lN_toInt hd, lN_toInt hq]
  have e : ((a : Int)).tdiv (d : Int) = ((a / d : Nat) : Int) := by
    rw [Int.tdiv_eq_ediv_of_nonneg (by omega)]
    first | rfl | exact (Int.natCast_ediv _ _).symm
  rw [e]
  have key : ∀ q : Nat, q < 2 ^ 31 → ((q : Int)).bmod (2 ^ 64) = (q : Int) := fun q hq => Int.bmod_eq_of_le (by omega) (by omega)
  exact key _ hq
theorem lN_rem {a d : Nat} (ha : a < 2 ^ 31) (h0 : 0 < d) (hd : d < 2 ^ 31) : lN a - lN a / lN d * lN d = lN (a % d) := by
  rw [lN_div ha h0 hd, lN_mul, lN_sub (Nat.div_mul_le_self a d)]
  exact congrArg lN (by have := Nat.div_add_mod' a d; omega)
theorem draw32 {v : Nat} (hv : v < 65537) : ((75 : Int32) * nI v + (74 : Int32)) - ((75 : Int32) * nI v + (74 : Int32)) / 65537 * 65537 = nI ((75 * v + 74) % 65537) := by
  have e : (75 : Int32) * nI v + (74 : Int32) = nI (75 * v + 74) := by
    rw [show (75 : Int32) * nI v = nI (75 * v) from (Int32.ofNat_mul 75 v).symm]
    exact nI_add _ 74
  rw [e]
  exact pk_rem (d := 65537) (by omega) (by omega) (by omega)
theorem draw64 {v : Nat} (hv : v < 65537) : (((75 : Int64) * (nI v).toInt64 + (74 : Int64)) - ((75 : Int64) * (nI v).toInt64 + (74 : Int64)) / 65537 * 65537).toInt32 = nI ((75 * v + 74) % 65537) := by
  have e : (75 : Int64) * (nI v).toInt64 + (74 : Int64) = lN (75 * v + 74) := by
    rw [nI_l (by omega), show (75 : Int64) * lN v = lN (75 * v) from lN_mul 75 v]
    exact lN_add _ 74
  rw [e]
  have := lN_rem (a := 75 * v + 74) (d := 65537) (by omega) (by omega) (by omega)
  have this : lN (75 * v + 74) - lN (75 * v + 74) / 65537 * 65537 = lN ((75 * v + 74) % 65537) := this
  rw [this, lN_i]
theorem year_loop (σ3 : pStt) (y3 : Int32) {m : Nat} (hm : m ≤ 99) : ∀ (k n n' i v : Nat) (T c M : pStt), i + k = m → k < n → k < n' → v < 65537 → relC c M → ∃ (T' c' M' : pStt) (t : Nat), fl_X8_liveYear_19 (nI m) σ3 n (nI v) (nI i) T c = some (T', c') ∧ fl_X9_year_55 (nI m) y3 n' (nI v) (nI i) M = some M' ∧ relC c' M' ∧ keepA M M' ∧ T'.1 2 = T.1 2 + nI t ∧ M'.1 6 = M.1 6 + nI t := by
  intro k
  induction k with
  | zero =>
    intro n n' i v T c M hi hn hn' hv h
    obtain ⟨n, rfl⟩ : ∃ m, n = m + 1 := ⟨n - 1, by omega⟩
    obtain ⟨n', rfl⟩ : ∃ m, n' = m + 1 := ⟨n' - 1, by omega⟩
    have : i = m := by omega
    subst this
    rw [fl_X8_liveYear_19, fl_X9_year_55, if_pos (Int32.le_refl _), if_pos (Int32.le_refl _)]
    exact ⟨T, c, M, 0, rfl, rfl, h, ⟨fun _ _ _ _ _ => rfl, fun _ _ => rfl⟩, (Int32.add_zero _).symm, (Int32.add_zero _).symm⟩
  | succ k ih =>
    intro n n' i v T c M hi hn hn' hv h
    obtain ⟨n, rfl⟩ : ∃ m, n = m + 1 := ⟨n - 1, by omega⟩
    obtain ⟨n', rfl⟩ : ∃ m, n' = m + 1 := ⟨n' - 1, by omega⟩
    rw [fl_X8_liveYear_19, fl_X9_year_55, if_neg (nI_ge (by omega) (by omega)), if_neg (nI_ge (by omega) (by omega)), draw32 hv, draw64 hv, show nI i + 1 = nI (i + 1) from nI_1 i]
    have hw : (75 * v + 74) % 65537 < 65537 := Nat.mod_lt _ (by omega)
    generalize (75 * v + 74) % 65537 = w at hw
    have r8 : nI w - nI w / 8 * 8 = nI (w % 8) := pk_rem (d := 8) (by omega) (by omega) (by omega)
    have d8 : nI w / 8 = nI (w / 8) := pk_div (d := 8) (by omega) (by omega) (by omega)
    rw [r8, d8]
    obtain ⟨T1, c1, M1, t1, e1, e2, h1, k1, s1, s2⟩ := drawn_ex h (m := w % 8) (q := w / 8) (by omega) (by omega) T
    rw [e1, e2, bs, bs]
    obtain ⟨T2, c2, M2, t2, f1, f2, h2, k2, u1, u2⟩ := ih n n' (i + 1) w T1 c1 M1 (by omega) (by omega) (by omega) hw h1
    refine ⟨T2, c2, M2, t1 + t2, f1, f2, h2, keepA_t k1 k2, ?_, ?_⟩
    · rw [u1, s1, Int32.add_assoc, nI_add]
    · rw [u2, s2, Int32.add_assoc, nI_add]
theorem begin_ex (T : pStt) {c : pStt} (tc : pStt) {M : pStt} (h : relC c M) : ∃ T' c', f_X6_begin T c tc = some (T', c') ∧ (∀ N, relC c N → relC c' N) ∧ T'.1 0 = 0 ∧ T'.1 1 = 0 ∧ T'.1 2 = 0 ∧ T'.1 3 = -6 ∧ T'.1 4 = -6 := by
  have hb : asB (c.1 1) = some (c.1 1) := by
    obtain ⟨a1, a2, a3, a4, a5, ⟨a6, a6'⟩, a7⟩ := h
    rw [a6]
    rcases a6' with e | e <;> (rw [e]; rfl)
  unfold f_X6_begin f_X1_copyFrom
  rw [hb]
  refine ⟨_, _, rfl, fun N h => ?_, rfl, rfl, rfl, rfl, rfl⟩
  exact relC_l h (fun j hj => cpy0 hj) (fun j hj => cpy0 hj) (fun j hj => cpy0 hj) (fun j hj => cpy0 hj) rfl rfl rfl
theorem there_loop {c M : pStt} (h : ∀ j, j < 6 → relP (c.2 2 j) (M.2 2 j)) : ∀ (k n i : Nat) (a : Int32), i + k = 6 → k < n → ∃ b, fl_X1_whoIsThere_4 c n a (nI i) = some b ∧ fl_X9_whoIsThere_4 M n a (nI i) = some b := by
  intro k
  induction k with
  | zero =>
    intro n i a hi hn
    obtain ⟨n, rfl⟩ : ∃ m, n = m + 1 := ⟨n - 1, by omega⟩
    have : i = 6 := by omega
    subst this
    rw [fl_X1_whoIsThere_4, fl_X9_whoIsThere_4, if_pos (geL (n := 6) (k := 6) (y := 6) rfl (by omega) (by omega)), if_pos (geL (n := 6) (k := 6) (y := 6) rfl (by omega) (by omega))]
    exact ⟨a, rfl, rfl⟩
  | succ k ih =>
    intro n i a hi hn
    obtain ⟨n, rfl⟩ : ∃ m, n = m + 1 := ⟨n - 1, by omega⟩
    rw [fl_X1_whoIsThere_4, fl_X9_whoIsThere_4, if_neg (ngeL (n := i) (k := 6) (y := 6) rfl (by omega) (by omega)), if_neg (ngeL (n := i) (k := 6) (y := 6) rfl (by omega) (by omega)), ldn _ (by omega : i < 6) (by omega), ldn _ (by omega : i < 6) (by omega), show nI i + 1 = nI (i + 1) from nI_1 i]
    simp only [bs]
    rcases h i (by omega) with ⟨e1, e2⟩ | ⟨m, hm, e1, e2⟩
    · rw [e1, e2, if_pos rfl, if_pos (show (-6 : Int32) < 0 by decide), bs, Int32.or_zero]
      exact ih n (i + 1) a (by omega) (by omega)
    · rw [e1, e2, if_neg (fun h => m1_ne (n := m) (by omega) h.symm), if_neg (nI_pos (by omega)), bs]
      exact ih n (i + 1) _ (by omega) (by omega)
theorem there_eq {c M : pStt} (h : relC c M) : ∃ b, f_X1_whoIsThere c = some b ∧ f_X9_whoIsThere M = some b := by
  obtain ⟨b, e1, e2⟩ := there_loop h.2.2.1 6 2000 0 0 (by omega) (by omega)
  have e1 : fl_X1_whoIsThere_4 c 2000 0 0 = some b := e1
  have e2 : fl_X9_whoIsThere_4 M 2000 0 0 = some b := e2
  refine ⟨b, ?_, ?_⟩
  · unfold f_X1_whoIsThere; rw [e1]; rfl
  · unfold f_X9_whoIsThere; rw [e2]; rfl
theorem relC_save {c M N : pStt} (h : relC c M) (e : ∀ q, q < 36 → fl2 N q = fl2 M q) (k : keep M N) : relC c N := relC_r h (agr_of e k)
theorem cpl_year : cp_year := by
  intro c r g d i0 i1 M tr tc x1 x2 x3 hV
  have n1 : f_X9_in x1.toInt64 0 9999 = f_X8_isWithin x1 0 9999 := inW x1 0 9999 (by decide) (by decide)
  have n2 : f_X9_in x2.toInt64 1 99 = f_X8_isWithin x2 1 99 := inW x2 1 99 (by decide) (by decide)
  have n3 : f_X9_in x3.toInt64 0 2 = f_X8_isWithin x3 0 2 := inW x3 0 2 (by decide) (by decide)
  rcases isW_cases x1 (hi := 9999) (n := 9999) rfl (by omega) with ⟨v, hv, rfl⟩ | e
  · have w1 := isWn (j := v) (n := 9999) (hi := 9999) rfl hv (by omega)
    rcases isWr_cases x2 (a := 1) (b := 99) (lo := 1) (n := 99) rfl rfl (by omega) (by omega) with ⟨m, hm1, hm2, rfl⟩ | e
    · have w2 := isWr (j := m) (lo := 1) (n := 99) (a := 1) (b := 99) rfl rfl hm1 hm2 (by omega)
      rcases isW_cases x3 (hi := 2) (n := 2) rfl (by omega) with ⟨k, hk, rfl⟩ | e
      · have w3 := isWn (j := k) (n := 2) (hi := 2) rfl hk (by omega)
        obtain ⟨T, c1, b1, b2, b3, b4, b5, b6, b7⟩ := begin_ex tr tc hV.1
        obtain ⟨N, s1, s2, s3, s4, s5, s6⟩ := save_ex M
        have hN : relC c N := relC_save hV.1 s2 s4
        have hN6 : relC c1 (sI N 6 0) := b2 N hN
        obtain ⟨T2, c2, M2, t, e1, e2, e3, e4, e5, e6⟩ := year_loop c (nI k) hm2 m 2000 2000 0 v T c1 (sI N 6 0) (by omega) (by omega) (by omega) (by omega) hN6
        have e1 : fl_X8_liveYear_19 (nI m) c 2000 (nI v) 0 T c1 = some (T2, c2) := e1
        have e2 : fl_X9_year_55 (nI m) (nI k) 2000 (nI v) 0 (sI N 6 0) = some M2 := e2
        have a8 : ∀ x : Int32, ∃ K, f_X9_back x M2 = some (x, K) ∧ IV c r g d i0 i1 K := by
          intro x
          obtain ⟨K, q1, q2, q3, q4⟩ := back_ex M2 x
          refine ⟨K, q1, IV_keep hV (fun q hq => ?_) (keep_t s4 (keep_t ?_ q3))⟩
          · rw [q2 q hq, e4.2 16 (by omega)]; exact s3 q hq
          · have : keep (sI N 6 0) M2 := keepA_k e4
            exact ⟨fun i a b => by rw [this.1 i a b, sI_o (by omega)], fun a x y => this.2 a x y⟩
        have q8 : f_X8_year (nI v) (nI m) (nI k) tr c tc = (if nI k = 0 then (f_X1_whoIsThere c2).bind (fun u_9 => some (u_9, T2, c2)) else if nI k = 1 then some (T2.1 2, T2, c2) else (f_X1_countWays c2).bind (fun u_11 => some (u_11, T2, c2))) := by
          unfold f_X8_year f_X8_liveYear
          rw [w1, bs, if_neg (by decide), w2, bs, if_neg (by decide), w3, bs, if_neg (by decide), b1, bs, e1]; rfl
        have q9 : f_X9_year (nI v) (nI m) (nI k) M = (if nI k = 0 then (f_X9_whoIsThere M2).bind (fun u_17 => some u_17) else if nI k = 1 then some (M2.1 6) else (f_X9_waysAll M2).bind (fun u_16 => some u_16) : Option Int32).bind (fun v_12 => (f_X9_back v_12 M2).bind (fun u_13 => some (u_13.1, u_13.2))) := by
          unfold f_X9_year
          rw [n1, w1, bs, if_neg (by decide), n2, w2, bs, if_neg (by decide), n3, w3, bs, if_neg (by decide), s1, bs, bs, e2]; rfl
        have hk' : k = 0 ∨ k = 1 ∨ k = 2 := by omega
        rcases hk' with rfl | rfl | rfl
        · obtain ⟨b, t1, t2⟩ := there_eq e3
          obtain ⟨K, z1, z2⟩ := a8 b
          refine ⟨(b, T2, c2), (b, K), ?_, ?_, rfl, z2⟩
          · rw [q8, if_pos (show nI 0 = 0 from rfl), t1]; rfl
          · rw [q9, if_pos (show nI 0 = 0 from rfl), t2, bs, bs, z1]; rfl
        · obtain ⟨K, z1, z2⟩ := a8 (M2.1 6)
          refine ⟨(T2.1 2, T2, c2), (M2.1 6, K), ?_, ?_, ?_, z2⟩
          · rw [q8, if_neg (by decide), if_pos (show nI 1 = 1 from rfl)]
          · rw [q9, if_neg (by decide), if_pos (show nI 1 = 1 from rfl), bs, z1]; rfl
          · show T2.1 2 = M2.1 6
            rw [e5, e6, b5]; rfl
        · obtain ⟨b, t1, t2⟩ := ways_eq e3.1
          obtain ⟨K, z1, z2⟩ := a8 b
          refine ⟨(b, T2, c2), (b, K), ?_, ?_, rfl, z2⟩
          · rw [q8, if_neg (by decide), if_neg (by decide), t1]; rfl
          · rw [q9, if_neg (by decide), if_neg (by decide), t2, bs, bs, z1]; rfl
      · refine ⟨(-2, tr, tc), (-2, M), ?_, ?_, rfl, hV⟩
        · unfold f_X8_year; rw [w1, w2, e]; rfl
        · unfold f_X9_year; rw [n1, w1, n2, w2, n3, e]; rfl
    · refine ⟨(-2, tr, tc), (-2, M), ?_, ?_, rfl, hV⟩
      · unfold f_X8_year; rw [w1, e]; rfl
      · unfold f_X9_year; rw [n1, w1, n2, e]; rfl
  · refine ⟨(-2, tr, tc), (-2, M), ?_, ?_, rfl, hV⟩
    · unfold f_X8_year; rw [e]; rfl
    · unfold f_X9_year; rw [n1, e]; rfl
