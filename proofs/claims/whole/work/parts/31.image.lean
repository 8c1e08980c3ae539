/-! image, restore, the new object -/
theorem cpy0 {f g : Nat → Int32} {n j : Nat} (h : j < n) : va_cpy f g 0 0 n j = f j := by
  unfold va_cpy
  rw [if_pos (by omega)]
  congr 1
  omega
theorem copy_ex {c c' r r' g g' M : pStt} (hC : relC c M) : ∃ u : pStt × pStt × pStt, f_X7_copyFrom c' c r' r g' g = some u ∧ (∀ N, relC c N → relC u.1 N) ∧ (∀ N, relR r N → relR u.2.1 N) ∧ (∀ N, relS g N → relS u.2.2 N) := by
  have hb : asB (c.1 1) = some (c.1 1) := by
    obtain ⟨a1, a2, a3, a4, a5, ⟨a6, a6'⟩, a7⟩ := hC
    rw [a6]
    rcases a6' with e | e <;> (rw [e]; rfl)
  unfold f_X7_copyFrom f_X1_copyFrom f_X4_copyFrom f_X5_copyFrom
  rw [hb]
  refine ⟨_, rfl, fun N h => ?_, fun N h => ?_, fun N h => ?_⟩
  · exact relC_l h (fun j hj => cpy0 hj) (fun j hj => cpy0 hj) (fun j hj => cpy0 hj) (fun j hj => cpy0 hj) rfl rfl rfl
  · exact relR_l h (fun j hj => cpy0 hj) (fun j hj => cpy0 hj) rfl
  · exact relS_l h (fun j hj => cpy0 hj) rfl
theorem in01 (x : Int32) : f_X9_in x.toInt64 0 1 = f_X8_isWithin x 0 1 := inW x 0 1 (by decide) (by decide)
theorem image_ex {k : Nat} (hk : k < 2) (M : pStt) : ∃ N, f_X9_image (nI k) M = some (1, N) ∧ agr M N ∧ agr M (kv k N) ∧ N.1 4 = M.1 4 ∧ (∀ j, N.2 12 j = M.2 12 j) ∧ (∀ j, j ≠ k → N.2 20 j = M.2 20 j) ∧ N.2 20 k = 1 ∧ ∀ q, (q < 110 * k ∨ 110 * k + 110 ≤ q) → N.2 19 q = M.2 19 q := by
  have hm : (110 : Int32) * nI k = nI (110 * k) := by
    have : k = 0 ∨ k = 1 := by omega
    rcases this with rfl | rfl <;> decide
  obtain ⟨σ', e, h1, h2, h3, h4, h5, h6, h7⟩ := passAll_ex hk (W := 1) (σ := sI (sI M 14 (nI (110 * k))) 15 1) rfl rfl
  have w := isWn (j := k) (n := 1) (hi := 1) rfl (by omega) (by omega)
  have hf : ∀ q, q < 106 → fld (sI (sI M 14 (nI (110 * k))) 15 1) q = fld M q := by
    intro q hq
    by_cases c : q < 4
    · rw [fld_int _ c, fld_int _ c, sI_o (by omega), sI_o (by omega)]
    · rw [fld_big _ c, fld_big _ c]; rfl
  have hp : ∀ q, q < 106 → pv k 1 (sI (sI M 14 (nI (110 * k))) 15 1) q = fld M q := by
    intro q hq
    unfold pv
    rw [if_neg (by decide)]; exact hf q hq
  refine ⟨sA σ' 20 (upd (σ'.2 20) k 1), ?_, fun q hq => ?_, fun q hq => ?_, h5, h6, fun j hj => ?_, ?_, fun q hq => ?_⟩
  · unfold f_X9_image
    rw [in01, w, bs, if_neg (by decide), hm, bs, asB1, bs, bs, e, bs, stAn σ' 20 _ (by omega : k < 2) (by omega)]
    rfl
  · have a := h3 q hq
    rw [if_pos hq, hp q hq] at a
    rw [← a]
    by_cases c : q < 4
    · rw [fld_int _ c, fld_int _ c]; rfl
    · rw [fld_big _ c, fld_big _ c, sA_o (by have := (dec2 q hq (by omega)).1; omega)]
  · rw [fld_kv k _ hq]
    have a := h4 (110 * k + q)
    rw [if_pos (by omega), Nat.add_sub_cancel_left, hp q hq] at a
    exact a
  · show upd (σ'.2 20) k 1 j = _
    unfold upd
    rw [if_neg hj]; exact h7 j
  · show upd (σ'.2 20) k 1 k = _
    unfold upd
    rw [if_pos rfl]
  · have a := h4 q
    rw [if_neg (by omega)] at a
    exact a
theorem restore_ex {k : Nat} (hk : k < 2) (M : pStt) (hM : M.2 20 k = 1) : ∃ N, f_X9_restore (nI k) M = some (1, N) ∧ agr (kv k M) N ∧ N.1 4 = M.1 4 ∧ (∀ j, N.2 12 j = M.2 12 j) ∧ (∀ j, N.2 20 j = M.2 20 j) ∧ ∀ q, N.2 19 q = M.2 19 q := by
  have hm : (110 : Int32) * nI k = nI (110 * k) := by
    have : k = 0 ∨ k = 1 := by omega
    rcases this with rfl | rfl <;> decide
  obtain ⟨σ', e, h1, h2, h3, h4, h5, h6, h7⟩ := passAll_ex hk (W := 0) (σ := sI (sI M 14 (nI (110 * k))) 15 0) rfl rfl
  have w := isWn (j := k) (n := 1) (hi := 1) rfl (by omega) (by omega)
  have hp : ∀ q, pv k 0 (sI (sI M 14 (nI (110 * k))) 15 0) q = M.2 19 (110 * k + q) := by
    intro q
    unfold pv
    rw [if_pos rfl]; rfl
  refine ⟨σ', ?_, fun q hq => ?_, h5, h6, h7, fun q => ?_⟩
  · unfold f_X9_restore
    rw [in01, w, bs, if_neg (by decide), ldn _ (by omega : k < 2) (by omega), hM, bs, if_neg (by decide), hm, bs, asB0, bs, bs, e]
    rfl
  · have a := h3 q hq
    rw [if_pos hq, hp q] at a
    rw [fld_kv k M hq]; exact a
  · have a := h4 q
    rw [a]
    by_cases c : 110 * k ≤ q ∧ q < 110 * k + 106
    · rw [if_pos c, hp, show 110 * k + (q - 110 * k) = q by omega]
    · rw [if_neg c]; rfl
theorem relI_o {i : Option (pStt × pStt × pStt)} {k j : Nat} (hk : k < 2) (hj : j < 2) (ne : j ≠ k) {M N : pStt} (h : relI i j M) (g1 : ∀ j, j ≠ k → N.2 20 j = M.2 20 j) (g2 : ∀ q, (q < 110 * k ∨ 110 * k + 110 ≤ q) → N.2 19 q = M.2 19 q) : relI i j N :=
  relI_r h (g1 j ne) (fun q hq => g2 _ (by omega))
theorem cpl_image : cp_image := by
  intro c r g d i0 i1 M x1 hV
  obtain ⟨hC, hR, hS, hD, hI0, hI1⟩ := hV
  rcases isW_cases x1 (hi := 1) (n := 1) rfl (by omega) with ⟨k, hk, rfl⟩ | e
  · right
    have hk' : k = 0 ∨ k = 1 := by omega
    refine ⟨by rcases hk' with rfl | rfl; exact Or.inl rfl; exact Or.inr rfl, fun c2 _ => ?_⟩
    obtain ⟨N, e, b1, b2, b3, b4, b5, b6, b7⟩ := image_ex (k := k) (by omega) M
    obtain ⟨u, eu, u1, u2, u3⟩ := copy_ex (c' := match selI (nI k) i0 i1 with | none => c2 | some t => t.1) (r' := match selI (nI k) i0 i1 with | none => zS | some t => t.2.1) (g' := match selI (nI k) i0 i1 with | none => zS | some t => t.2.2) (r := r) (g := g) hC
    refine ⟨u, (1, N), eu, e, rfl, relC_r hC b1, relR_r hR b1, relS_r hS b1, relD_r hD b3 (fun j _ => b4 j), ?_⟩
    have hu : relI (some u) k N := ⟨b6, relC_r (u1 M hC) b2, relR_r (u2 M hR) b2, relS_r (u3 M hS) b2⟩
    rcases hk' with rfl | rfl
    · exact ⟨hu, relI_o (k := 0) (by omega) (by omega) (by omega) hI1 b5 b7⟩
    · exact ⟨relI_o (k := 1) (by omega) (by omega) (by omega) hI0 b5 b7, hu⟩
  · left
    refine ⟨e, (-2, M), ?_, rfl, hC, hR, hS, hD, hI0, hI1⟩
    unfold f_X9_image
    rw [in01, e]; rfl
theorem cpl_restore : cp_restore := by
  intro c r g d i0 i1 M x1 hV
  have hV0 := hV
  obtain ⟨hC, hR, hS, hD, hI0, hI1⟩ := hV
  rcases isW_cases x1 (hi := 1) (n := 1) rfl (by omega) with ⟨k, hk, rfl⟩ | e
  · right
    have hk' : k = 0 ∨ k = 1 := by omega
    have w := isWn (j := k) (n := 1) (hi := 1) rfl (by omega) (by omega)
    refine ⟨by rcases hk' with rfl | rfl; exact Or.inl rfl; exact Or.inr rfl, ?_⟩
    have hs : relI (selI (nI k) i0 i1) k M := by
      rcases hk' with rfl | rfl
      · exact hI0
      · exact hI1
    cases es : selI (nI k) i0 i1 with
    | none =>
      left
      rw [es] at hs
      have hs : M.2 20 k = 0 := hs
      refine ⟨rfl, (-3, M), ?_, rfl, hV0⟩
      unfold f_X9_restore
      rw [in01, w, bs, if_neg (by decide), ldn _ (by omega : k < 2) (by omega), hs]; rfl
    | some t =>
      right
      rw [es] at hs
      obtain ⟨tc, tr, tg⟩ := t
      obtain ⟨s1, s2, s3, s4⟩ := hs
      obtain ⟨N, e, b1, b3, b4, b5, b7⟩ := restore_ex (k := k) (by omega) M s1
      obtain ⟨u, eu, u1, u2, u3⟩ := copy_ex (c' := c) (r' := r) (g' := g) (r := tr) (g := tg) s2
      refine ⟨(tc, tr, tg), rfl, u, (1, N), eu, e, rfl, relC_r (u1 _ s2) b1, relR_r (u2 _ s3) b1, relS_r (u3 _ s4) b1, relD_r hD b3 (fun j _ => b4 j), relI_r hI0 (b5 0) (fun q _ => b7 _), relI_r hI1 (b5 1) (fun q _ => b7 _)⟩
  · left
    refine ⟨e, (-2, M), ?_, rfl, hC, hR, hS, hD, hI0, hI1⟩
    unfold f_X9_restore
    rw [in01, e]; rfl
theorem init8a : ∀ (m n j : Nat) (σ : pStt), j + m = 8 → m < n → (∀ i, i < j → σ.2 1 i = -1) → ∃ σ', fl_X1_init_43 n (nI j) σ = some σ' ∧ (∀ i, i < 8 → σ'.2 1 i = -1) ∧ (∀ a, a ≠ 1 → σ'.2 a = σ.2 a) ∧ σ'.1 = σ.1 := by
  intro m
  induction m with
  | zero =>
    intro n j σ hj hn h
    obtain ⟨n, rfl⟩ : ∃ m, n = m + 1 := ⟨n - 1, by omega⟩
    have : j = 8 := by omega
    subst this
    rw [fl_X1_init_43, if_pos (geL (n := 8) (k := 8) (y := 8) rfl (by omega) (by omega))]
    exact ⟨σ, rfl, h, fun _ _ => rfl, rfl⟩
  | succ m ih =>
    intro n j σ hj hn h
    obtain ⟨n, rfl⟩ : ∃ m, n = m + 1 := ⟨n - 1, by omega⟩
    rw [fl_X1_init_43, if_neg (ngeL (n := j) (k := 8) (y := 8) rfl (by omega) (by omega)), stAn σ 1 _ (by omega : j < 8) (by omega), bs, show nI j + 1 = nI (j + 1) from nI_1 j]
    obtain ⟨σ', e, h1, h2, h3⟩ := ih n (j + 1) (sA σ 1 (upd (σ.2 1) j (-1))) (by omega) (by omega) (fun i hi => by
      show (if i = j then (-1 : Int32) else σ.2 1 i) = -1
      by_cases c : i = j
      · rw [if_pos c]
      · rw [if_neg c]; exact h i (by omega))
    exact ⟨σ', e, h1, fun a ha => by rw [h2 a ha, sA_o ha], h3⟩
theorem init8b : ∀ (m n j : Nat) (σ : pStt), j + m = 6 → m < n → (∀ i, i < j → σ.2 2 i = -1) → ∃ σ', fl_X1_init_64 n (nI j) σ = some σ' ∧ (∀ i, i < 6 → σ'.2 2 i = -1) ∧ (∀ a, a ≠ 2 → σ'.2 a = σ.2 a) ∧ σ'.1 = σ.1 := by
  intro m
  induction m with
  | zero =>
    intro n j σ hj hn h
    obtain ⟨n, rfl⟩ : ∃ m, n = m + 1 := ⟨n - 1, by omega⟩
    have : j = 6 := by omega
    subst this
    rw [fl_X1_init_64, if_pos (geL (n := 6) (k := 6) (y := 6) rfl (by omega) (by omega))]
    exact ⟨σ, rfl, h, fun _ _ => rfl, rfl⟩
  | succ m ih =>
    intro n j σ hj hn h
    obtain ⟨n, rfl⟩ : ∃ m, n = m + 1 := ⟨n - 1, by omega⟩
    rw [fl_X1_init_64, if_neg (ngeL (n := j) (k := 6) (y := 6) rfl (by omega) (by omega)), stAn σ 2 _ (by omega : j < 6) (by omega), bs, show nI j + 1 = nI (j + 1) from nI_1 j]
    obtain ⟨σ', e, h1, h2, h3⟩ := ih n (j + 1) (sA σ 2 (upd (σ.2 2) j (-1))) (by omega) (by omega) (fun i hi => by
      show (if i = j then (-1 : Int32) else σ.2 2 i) = -1
      by_cases c : i = j
      · rw [if_pos c]
      · rw [if_neg c]; exact h i (by omega))
    exact ⟨σ', e, h1, fun a ha => by rw [h2 a ha, sA_o ha], h3⟩
theorem init9a : ∀ (m n j : Nat) (σ : pStt), j + m = 8 → m < n → (∀ i, i < j → σ.2 1 i = -6) → ∃ σ', fl_X9_init_174 n (nI j) σ = some σ' ∧ (∀ i, i < 8 → σ'.2 1 i = -6) ∧ (∀ a, a ≠ 1 → σ'.2 a = σ.2 a) ∧ σ'.1 = σ.1 := by
  intro m
  induction m with
  | zero =>
    intro n j σ hj hn h
    obtain ⟨n, rfl⟩ : ∃ m, n = m + 1 := ⟨n - 1, by omega⟩
    have : j = 8 := by omega
    subst this
    rw [fl_X9_init_174, if_pos (geL (n := 8) (k := 8) (y := 8) rfl (by omega) (by omega))]
    exact ⟨σ, rfl, h, fun _ _ => rfl, rfl⟩
  | succ m ih =>
    intro n j σ hj hn h
    obtain ⟨n, rfl⟩ : ∃ m, n = m + 1 := ⟨n - 1, by omega⟩
    rw [fl_X9_init_174, if_neg (ngeL (n := j) (k := 8) (y := 8) rfl (by omega) (by omega)), stAn σ 1 _ (by omega : j < 8) (by omega), bs, show nI j + 1 = nI (j + 1) from nI_1 j]
    obtain ⟨σ', e, h1, h2, h3⟩ := ih n (j + 1) (sA σ 1 (upd (σ.2 1) j (-6))) (by omega) (by omega) (fun i hi => by
      show (if i = j then (-6 : Int32) else σ.2 1 i) = -6
      by_cases c : i = j
      · rw [if_pos c]
      · rw [if_neg c]; exact h i (by omega))
    exact ⟨σ', e, h1, fun a ha => by rw [h2 a ha, sA_o ha], h3⟩
theorem init9b : ∀ (m n j : Nat) (σ : pStt), j + m = 6 → m < n → (∀ i, i < j → σ.2 2 i = -6) → ∃ σ', fl_X9_init_196 n (nI j) σ = some σ' ∧ (∀ i, i < 6 → σ'.2 2 i = -6) ∧ (∀ a, a ≠ 2 → σ'.2 a = σ.2 a) ∧ σ'.1 = σ.1 := by
  intro m
  induction m with
  | zero =>
    intro n j σ hj hn h
    obtain ⟨n, rfl⟩ : ∃ m, n = m + 1 := ⟨n - 1, by omega⟩
    have : j = 6 := by omega
    subst this
    rw [fl_X9_init_196, if_pos (geL (n := 6) (k := 6) (y := 6) rfl (by omega) (by omega))]
    exact ⟨σ, rfl, h, fun _ _ => rfl, rfl⟩
  | succ m ih =>
    intro n j σ hj hn h
    obtain ⟨n, rfl⟩ : ∃ m, n = m + 1 := ⟨n - 1, by omega⟩
    rw [fl_X9_init_196, if_neg (ngeL (n := j) (k := 6) (y := 6) rfl (by omega) (by omega)), stAn σ 2 _ (by omega : j < 6) (by omega), bs, show nI j + 1 = nI (j + 1) from nI_1 j]
    obtain ⟨σ', e, h1, h2, h3⟩ := ih n (j + 1) (sA σ 2 (upd (σ.2 2) j (-6))) (by omega) (by omega) (fun i hi => by
      show (if i = j then (-6 : Int32) else σ.2 2 i) = -6
      by_cases c : i = j
      · rw [if_pos c]
      · rw [if_neg c]; exact h i (by omega))
    exact ⟨σ', e, h1, fun a ha => by rw [h2 a ha, sA_o ha], h3⟩
theorem cpl_init : cp_init := by
  obtain ⟨s1, e1, p1, p2, p3⟩ := init8a 8 2000 0 (sI zS 1 1) (by omega) (by omega) (fun i hi => by omega)
  obtain ⟨s2, e2, q1, q2, q3⟩ := init8b 6 2000 0 s1 (by omega) (by omega) (fun i hi => by omega)
  obtain ⟨t1, f1, r1, r2, r3⟩ := init9a 8 2000 0 zS (by omega) (by omega) (fun i hi => by omega)
  obtain ⟨t2, f2, w1, w2, w3⟩ := init9b 6 2000 0 t1 (by omega) (by omega) (fun i hi => by omega)
  have e1 : fl_X1_init_43 2000 0 (sI zS 1 1) = some s1 := e1
  have e2 : fl_X1_init_64 2000 0 s1 = some s2 := e2
  have f1 : fl_X9_init_174 2000 0 zS = some t1 := f1
  have f2 : fl_X9_init_196 2000 0 t1 = some t2 := f2
  have cI : s2.1 = (sI zS 1 1).1 := by rw [q3, p3]
  have tI : t2.1 = zS.1 := by rw [w3, r3]
  have cA : ∀ a, a ≠ 1 → a ≠ 2 → s2.2 a = zS.2 a := fun a h1 h2 => by rw [q2 a h2, p2 a h1]; rfl
  have tA : ∀ a, a ≠ 1 → a ≠ 2 → t2.2 a = zS.2 a := fun a h1 h2 => by rw [w2 a h2, r2 a h1]
  refine ⟨s2, sI t2 0 1, ?_, ?_, ?_⟩
  · unfold f_X1_init; rw [e1, bs, e2]; rfl
  · unfold f_X9_init; rw [f1, bs, f2]; rfl
  refine ⟨⟨fun j hj => ?_, fun j hj => Or.inl ?_, fun j hj => Or.inl ?_, fun j hj => ⟨0, by omega, ?_, ?_⟩, ⟨0, by omega, ?_, fun j hj => ?_, fun k hk _ => ⟨?_, ?_, fun j hj hc => ?_⟩⟩, ⟨?_, Or.inr rfl⟩, ⟨0, by omega, ?_, ?_⟩⟩, ⟨0, by omega, rfl, ?_, fun e he => by omega⟩, ⟨0, by omega, rfl, ?_, fun e he => by omega⟩, ⟨0, by omega, rfl, ?_, fun e he => by omega⟩, ?_, ?_⟩
  · show s2.2 0 j = t2.2 0 j
    rw [cA 0 (by omega) (by omega), tA 0 (by omega) (by omega)]
  · refine ⟨?_, ?_⟩
    · rw [q2 1 (by omega)]; exact p1 j hj
    · show t2.2 1 j = -6
      rw [w2 1 (by omega)]; exact r1 j hj
  · exact ⟨q1 j hj, w1 j hj⟩
  · rw [cA 3 (by omega) (by omega)]; rfl
  · show t2.2 3 j = _
    rw [tA 3 (by omega) (by omega)]; rfl
  · rw [cI]; rfl
  · show t2.2 4 j = _
    rw [tA 4 (by omega) (by omega), Nat.zero_testBit]; rfl
  · rw [cA 3 (by omega) (by omega)]; rfl
  · exact Nat.zero_testBit _
  · rw [q2 1 (by omega), p1 j hj] at hc
    have := congrArg Int32.toInt hc
    rw [nI_toInt (by omega)] at this
    have h2 : (-1 : Int32).toInt = -1 := by decide
    omega
  · rw [cI]; rfl
  · rw [cI]; rfl
  · show t2.1 1 = _
    rw [tI]; rfl
  · show t2.1 2 = _
    rw [tI]; rfl
  · show t2.1 3 = _
    rw [tI]; rfl
  · show t2.1 4 = _
    rw [tI]; rfl
  · show t2.2 20 0 = 0
    rw [tA 20 (by omega) (by omega)]; rfl
  · show t2.2 20 1 = 0
    rw [tA 20 (by omega) (by omega)]; rfl
