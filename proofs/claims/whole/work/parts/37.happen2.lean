/-! every act keeps the relation -/
theorem relC_z {c M c' M' : pStt} (h : relC c M) (h' : relC c' M') (e : ∀ j, j < 6 → M'.2 4 j = M.2 4 j) : c'.1 0 = c.1 0 := by
  obtain ⟨a1, a2, a3, a4, ⟨z, z1, z2, z3, z4⟩, a6, a7⟩ := h
  obtain ⟨b1, b2, b3, b4, ⟨y, y1, y2, y3, y4⟩, b6, b7⟩ := h'
  have : y = z := by
    apply Nat.eq_of_testBit_eq
    intro j
    by_cases hj : j < 6
    · have q := e j hj
      rw [y3 j hj, z3 j hj] at q
      revert q
      cases y.testBit j <;> cases z.testBit j <;> simp
    · have hp : 2 ^ 6 ≤ 2 ^ j := Nat.pow_le_pow_right (by omega) (by omega)
      rw [Nat.testBit_lt_two_pow (by omega), Nat.testBit_lt_two_pow (by omega)]
  rw [y2, z2, this]
theorem new_bits {z s : Nat} (hz : z < 64) (hs : s < 64) (hd : ∀ j, s.testBit j = true → z.testBit j = false) : nI (z ||| s) &&& (nI z ^^^ (-1 : Int32)) = nI s := by
  have hzs : z ||| s < 64 := Nat.or_lt_two_pow (n := 6) hz hs
  apply b_ext
  intro i hi
  rw [b_and, b_xor, b_m1 i hi, nI_bt (by omega), nI_bt (by omega), nI_bt (by omega), Nat.testBit_or]
  have := hd i
  revert this
  cases z.testBit i <;> cases s.testBit i <;> simp
theorem one_low : ∀ p, p < 6 → pbf 32 (2 ^ p) = 1 ∧ lowb (2 ^ p) = nI p ∧ 2 ^ p < 64 := by decide +kernel
theorem clr_id : ∀ z, z < 64 → ∀ k, k < 6 → z.testBit k = false → clrb z k = z := by decide +kernel
theorem why0_there {c M : pStt} (h : relC c M) {k k' : Int32} {p : Nat} (hp : p < 6) {b b' : Int32} (hk : (k = 6 ∧ k' = 5) ∨ (k = 9 ∧ k' = 8) ∨ ∃ y : Nat, y < 8 ∧ b = nI y ∧ b' = nI y ∧ ((k = 7 ∧ k' = 6) ∨ (k = 8 ∧ k' = 7))) (hw : f_X1_whyNot k (nI p) b c = some 0) : ¬ c.2 2 p = -1 ∧ ∃ z, z < 64 ∧ c.1 0 = nI z ∧ z.testBit p = false ∧ M.2 4 p = 0 := by
  obtain ⟨n, hn, e1, e2, e3⟩ := why_there (b := b) (b' := b') (y := 0) h hp hk
  have : f_X1_whyNot k (nI p) b c = (f_X1_whyNotThere k (nI p) b c).bind (fun u_15 => some u_15) := by
    rcases hk with ⟨rfl, rfl⟩ | ⟨rfl, rfl⟩ | ⟨y, hy, rfl, rfl, ⟨rfl, rfl⟩ | ⟨rfl, rfl⟩⟩ <;> rfl
  rw [this, e1, bs] at hw
  have hn0 : n = 0 := (nI_zero (by omega)).mp (Option.some.inj hw)
  obtain ⟨q1, q2⟩ := e3 hn0
  obtain ⟨β, s1, s2, z, s3, s4, s5⟩ := sitsB h hp
  rw [s1] at q2
  have hb : β = false := by
    cases β
    · rfl
    · exact absurd (Option.some.inj q2) (by decide)
  refine ⟨q1, z, s3, s4, by rw [← s5]; exact hb, by rw [s2, hb]; rfl⟩
theorem happen_ex {c M : pStt} (h : relC c M) {k a b k' a' b' : Int32} (hk : AR k a b k' a' b') (hw : f_X1_whyNot k a b c = some 0) : ∃ (c' M' : pStt) (s : Nat), f_X1_perform k a b c = some c' ∧ f_X9_happen k' a' b' M = some M' ∧ HP c M c' M' s := by
  have h0 := h
  have hS : relC c (sI M 7 (-6)) := h
  rcases hk with ⟨x, y, hx, hy, rfl, rfl, rfl, rfl, ⟨rfl, rfl⟩ | ⟨rfl, rfl⟩ | ⟨rfl, rfl⟩⟩ | ⟨rfl, rfl⟩ | ⟨rfl, rfl⟩ | ⟨p, hp, rfl, rfl, hk⟩
  · obtain ⟨f, f', e1, e2, e3⟩ := setWay_rel (M := sI M 7 (-6)) h.1 hx hy 1
    refine ⟨sA c 0 f, sA (sI M 7 (-6)) 0 f', 0, ?_, ?_, HP_0 ⟨e3, h.2⟩ rfl (fun i _ _ i7 => sI_o i7) (fun a ha => sA_o (by omega)) rfl⟩
    · show (f_X1_setWay (nI x) (nI y) 1 c).bind _ = _
      rw [e1]; rfl
    · show (f_X9_layWay (nI x) (nI y) 1 (sI M 7 (-6))).bind _ = _
      rw [e2]; rfl
  · obtain ⟨f, f', e1, e2, e3⟩ := setWay_rel (M := sI M 7 (-6)) h.1 hx hy 0
    refine ⟨sA c 0 f, sA (sI M 7 (-6)) 0 f', 0, ?_, ?_, HP_0 ⟨e3, h.2⟩ rfl (fun i _ _ i7 => sI_o i7) (fun a ha => sA_o (by omega)) rfl⟩
    · show (f_X1_setWay (nI x) (nI y) 0 c).bind _ = _
      rw [e1]; rfl
    · show (f_X9_layWay (nI x) (nI y) 0 (sI M 7 (-6))).bind _ = _
      rw [e2]; rfl
  · obtain ⟨a1, a2, a3, a4, ⟨z, z1, z2, z3, z4⟩, a6, a7⟩ := h
    refine ⟨sA c 1 (upd (c.2 1) x (nI y)), sA (sI M 7 (-6)) 1 (upd (M.2 1) x (nI y)), 0, ?_, ?_, HP_0 ⟨a1, fun j hj => ?_, a3, a4, ⟨z, z1, z2, z3, fun q hq hm => ?_⟩, a6, a7⟩ rfl (fun i _ _ i7 => sI_o i7) (fun a ha => sA_o (by omega)) rfl⟩
    · show (stA c 1 8 (nI x) (nI y)).bind _ = _
      rw [stAn c 1 _ hx (by omega)]; rfl
    · show (stA (sI M 7 (-6)) 1 8 (nI x) (nI y)).bind _ = _
      rw [stAn _ 1 _ hx (by omega)]; rfl
    · show relT (if j = x then nI y else c.2 1 j) (if j = x then nI y else M.2 1 j)
      by_cases e : j = x
      · rw [if_pos e, if_pos e]; exact Or.inr (Or.inl ⟨y, hy, rfl, rfl⟩)
      · rw [if_neg e, if_neg e]; exact a2 j hj
    · obtain ⟨w1, w2, w3⟩ := z4 q hq hm
      refine ⟨w1, w2, fun j hj => ?_⟩
      show ¬ (if j = x then nI y else c.2 1 j) = nI (8 + q)
      by_cases e : j = x
      · rw [if_pos e, nI_eq (by omega) (by omega)]; omega
      · rw [if_neg e]; exact w3 j hj
  · obtain ⟨a1, a2, a3, a4, a5, ⟨a6, a6'⟩, a7⟩ := h
    refine ⟨sI c 1 (1 - M.1 0), sI (sI M 7 (-6)) 0 (1 - M.1 0), 0, ?_, rfl, HP_0 ⟨a1, a2, a3, a4, a5, ⟨rfl, ?_⟩, a7⟩ rfl (fun i i0 _ i7 => by rw [sI_o i0, sI_o i7]) (fun a ha => rfl) rfl⟩
    · show (if c.1 1 = 0 then some 1 else some 0 : Option Int32).bind _ = _
      rw [a6]
      rcases a6' with e | e <;> (rw [e]; rfl)
    · show (1 : Int32) - M.1 0 = 0 ∨ (1 : Int32) - M.1 0 = 1
      rcases a6' with e | e
      · rw [e]; exact Or.inr rfl
      · rw [e]; exact Or.inl rfl
  · obtain ⟨a1, a2, a3, a4, ⟨z, z1, z2, z3, z4⟩, a6, ⟨hr, hr1, hr2, hr3⟩⟩ := h
    have w1 : f_X1_whyNot 4 a b c = (if 99 ≤ c.1 2 then some 10 else some 0 : Option Int32).bind (fun v => some v) := rfl
    have hr99 : hr ≠ 99 := by
      intro e
      rw [w1, hr2, e] at hw
      exact absurd (Option.some.inj hw) (by decide)
    have hC : relC (sI c 2 (nI (hr + 1))) (sI (sI M 7 (-6)) 1 (nI (hr + 1))) := ⟨a1, a2, a3, a4, ⟨z, z1, z2, z3, z4⟩, a6, ⟨hr + 1, by omega, rfl, rfl⟩⟩
    obtain ⟨c', M', s', e1, e2, e3, e4, e5, e6, e7, e8, e9, e10⟩ := hour_loop (M0 := sI M 7 (-6)) (nI (hr + 1)) (M.1 6) z1 6 2000 2000 0 (sI c 2 (nI (hr + 1))) (sI M 7 (-6)) 0 (by omega) (by omega) (by omega) hC (by rw [Nat.or_zero]; exact z2) (by omega) (by omega) (fun j hj => by rw [Nat.zero_testBit] at hj; cases hj) (fun _ _ _ => rfl) (fun _ _ => rfl) (add_n0 _) rfl
    have e1 : fl_X1_passHour_12 2000 0 (sI c 2 (nI (hr + 1))) = some c' := e1
    have e2 : fl_X9_passHour_2 2000 0 (sI M 7 (-6)) = some M' := e2
    have m1 : M'.1 1 = nI hr := by rw [e7 1 (by omega) (by omega)]; exact hr3
    refine ⟨c', sI M' 1 (nI (hr + 1)), s', ?_, ?_, e3, fun i i0 i1 i6 i7 => ?_, fun a ha => ?_, e5, ?_, ?_, ?_⟩
    · show (f_X1_passHour c).bind _ = _
      unfold f_X1_passHour
      rw [hr2, show nI hr + (1 : Int32) = nI (hr + 1) from nI_1 hr, bs, e1]; rfl
    · show (f_X9_passHour (sI M 7 (-6))).bind _ = _
      unfold f_X9_passHour
      rw [e2, bs, m1, show nI hr + (1 : Int32) = nI (hr + 1) from nI_1 hr]; rfl
    · rw [sI_o i1, e7 i i6 i7, sI_o i7]
    · exact e8 a ha
    · rw [e4, z2]; exact new_bits z1 e5 e6
    · exact e9
    · exact e10
  · rcases hk with ⟨rfl, rfl⟩ | hk
    · have w1 : f_X1_whyNot 5 (nI p) b c = ((ld (c.2 2) 6 (nI p)).bind (fun x_1 => if x_1 = (-1) then (if (c.1 1) = 0 then some 6 else some 0 : Option Int32).bind (fun v_3 => some v_3) else some 4)).bind (fun u => some u) := rfl
      have hh : c.2 2 p = -1 := by
        rcases h.2.2.1 p hp with ⟨e1, e2⟩ | ⟨m, hm, e1, e2⟩
        · exact e1
        · rw [w1, ldn _ hp (by omega), bs, e1, if_neg (fun h => m1_ne (n := m) (by omega) h.symm)] at hw
          exact absurd (Option.some.inj hw) (by decide)
      obtain ⟨a1, a2, a3, a4, ⟨z, z1, z2, z3, z4⟩, a6, a8⟩ := h
      obtain ⟨g1, g2, g3⟩ := z4 p hp hh
      obtain ⟨f, f', r1, r2, r3, r4⟩ := drop_loop hp 0 0 8 2000 0 c M rfl (by omega) a2
      have r1 : fl_X1_put_3 (nI p) 0 0 2000 0 c = some (sA c 1 f) := r1
      obtain ⟨q1, q2, q3⟩ := clr_ok z z1 p hp
      rw [clr_id z z1 p hp g2] at q1
      have hf : ∀ j, j < 8 → f j = c.2 1 j := by
        intro j hj
        rw [r4 j hj, if_neg (fun hc => g3 j hj hc.2)]
      refine ⟨sI (sA (sA (sA c 1 f) 2 (upd (c.2 2) p 0)) 3 (upd (c.2 3) p 0)) 0 (nI z), sA (sI M 7 (-6)) 2 (upd (M.2 2) p 0), 0, ?_, ?_, HP_0 ⟨a1, fun j hj => ?_, fun j hj => ?_, fun j hj => ?_, ⟨z, z1, rfl, z3, fun k hk hm => ?_⟩, a6, a8⟩ z2.symm (fun i _ _ i7 => sI_o i7) (fun a ha => sA_o (by omega)) rfl⟩
      · show (f_X1_put (nI p) 0 0 c).bind _ = _
        unfold f_X1_put
        rw [r1, bs, stAn _ 2 _ hp (by omega), bs, stAn _ 3 _ hp (by omega), bs]
        show (some (sI _ 0 (c.1 0 &&& _))).bind _ = _
        rw [z2, q1]; rfl
      · show ((stA (sI M 7 (-6)) 2 6 (nI p) 0).bind _).bind _ = _
        rw [stAn _ 2 _ hp (by omega)]; rfl
      · show relT (f j) (M.2 1 j)
        rw [hf j hj]; exact a2 j hj
      · show relP (if j = p then 0 else c.2 2 j) (if j = p then 0 else M.2 2 j)
        by_cases e : j = p
        · rw [if_pos e, if_pos e]; exact Or.inr ⟨0, by omega, rfl, rfl⟩
        · rw [if_neg e, if_neg e]; exact a3 j hj
      · show ∃ n : Nat, n ≤ 9 ∧ (if j = p then 0 else c.2 3 j) = nI n ∧ M.2 3 j = nI n
        by_cases e : j = p
        · rw [if_pos e, e]
          obtain ⟨n, hn, n1, n2⟩ := a4 p hp
          rw [g1] at n1
          exact ⟨n, hn, n1, n2⟩
        · rw [if_neg e]; exact a4 j hj
      · have hm : (if k = p then 0 else c.2 2 k) = -1 := hm
        by_cases e : k = p
        · rw [if_pos e] at hm; exact absurd hm (by decide)
        · rw [if_neg e] at hm
          obtain ⟨w1, w2, w3⟩ := z4 k hk hm
          refine ⟨?_, w2, fun j hj => ?_⟩
          · show (if k = p then 0 else c.2 3 k) = 0
            rw [if_neg e]; exact w1
          · show ¬ f j = _
            rw [hf j hj]; exact w3 j hj
    · obtain ⟨ht, z, z1, z2, zb, m4⟩ := why0_there (b' := b') h hp hk hw
      rcases hk with ⟨rfl, rfl⟩ | ⟨rfl, rfl⟩ | ⟨y, hy, rfl, rfl, ⟨rfl, rfl⟩ | ⟨rfl, rfl⟩⟩
      · obtain ⟨c', f', e1, e2, e3⟩ := put_rel hS hp (a := -1) (b := -6) (Or.inl ⟨rfl, rfl⟩) (n := 0) (by omega) (fun _ => rfl)
        have eu : upd ((sI M 7 (-6)).2 4) p 0 = (sI M 7 (-6)).2 4 := by
          funext j
          show (if j = p then 0 else M.2 4 j) = M.2 4 j
          by_cases e : j = p
          · rw [if_pos e, e, m4]
          · rw [if_neg e]
        rw [eu] at e3
        have e3 : relC c' (sA (sA (sA (sI M 7 (-6)) 1 f') 2 (upd (M.2 2) p (-6))) 3 (upd (M.2 3) p (nI 0))) := e3
        refine ⟨c', _, 0, ?_, ?_, HP_0 e3 (relC_z h0 e3 (fun _ _ => rfl)) (fun i _ _ i7 => sI_o i7) (fun a ha => ?_) rfl⟩
        · show (f_X1_put (nI p) (-1) 0 c).bind _ = _
          have e1 : f_X1_put (nI p) (-1) 0 c = some c' := e1
          rw [e1]; rfl
        · show ((f_X9_comeBack (nI p) (sI M 7 (-6))).bind _).bind _ = _
          unfold f_X9_comeBack
          rw [e2, bs, stAn _ 2 _ hp (by omega), bs, stAn _ 3 _ hp (by omega)]; rfl
        · rw [sA_o (by omega), sA_o (by omega), sA_o (by omega)]; rfl
      · have hR := sit_rel (M := sI M 7 (-6)) hS hp z1 z2 ht
        obtain ⟨o1, o2, o3⟩ := one_low p hp
        have hR : relC (sI c 0 (nI (z ||| 2 ^ p))) (sI (sI (sA (sI M 7 (-6)) 4 (upd (M.2 4) p 1)) 6 (M.1 6 + 1)) 7 (nI p)) := hR
        refine ⟨_, _, 2 ^ p, ?_, ?_, hR, fun i i0 i1 i6 i7 => ?_, fun a ha => ?_, o3, ?_, ?_, ?_⟩
        · show (some (sI c 0 (c.1 0 ||| ((1 : Int32) <<< (nI p &&& 31))))).bind _ = _
          rw [shl1 p (by omega), z2, orN]; rfl
        · show ((f_X9_sit (nI p) (sI M 7 (-6))).bind _).bind _ = _
          rw [sit_eq hp]; rfl
        · rw [sI_o i7, sI_o i6]
          show (sI M 7 (-6)).1 i = _
          rw [sI_o i7]
        · show (sA (sI M 7 (-6)) 4 _).2 a = _
          rw [sA_o (by omega)]; rfl
        · show nI (z ||| 2 ^ p) &&& _ = _
          rw [z2]
          refine new_bits z1 o3 (fun j hj => ?_)
          rw [Nat.testBit_two_pow, decide_eq_true_eq] at hj
          rw [← hj]; exact zb
        · rw [o1]; rfl
        · rw [o2]; rfl
      · obtain ⟨a1, a2, a3, a4, ⟨z', z1', z2', z3', z4'⟩, a6, a8⟩ := h
        refine ⟨sA c 2 (upd (c.2 2) p (nI y)), sA (sI M 7 (-6)) 2 (upd (M.2 2) p (nI y)), 0, ?_, ?_, HP_0 ⟨a1, a2, fun j hj => ?_, a4, ⟨z', z1', z2', z3', fun k hk hm => ?_⟩, a6, a8⟩ rfl (fun i _ _ i7 => sI_o i7) (fun a ha => sA_o (by omega)) rfl⟩
        · show (stA c 2 6 (nI p) (nI y)).bind _ = _
          rw [stAn _ 2 _ hp (by omega)]; rfl
        · show ((stA (sI M 7 (-6)) 2 6 (nI p) (nI y)).bind _).bind _ = _
          rw [stAn _ 2 _ hp (by omega)]; rfl
        · show relP (if j = p then nI y else c.2 2 j) (if j = p then nI y else M.2 2 j)
          by_cases e : j = p
          · rw [if_pos e, if_pos e]; exact Or.inr ⟨y, hy, rfl, rfl⟩
          · rw [if_neg e, if_neg e]; exact a3 j hj
        · have hm : (if k = p then nI y else c.2 2 k) = -1 := hm
          by_cases e : k = p
          · rw [if_pos e] at hm; exact absurd hm.symm (m1_ne (by omega))
          · rw [if_neg e] at hm; exact z4' k hk hm
      · obtain ⟨a1, a2, a3, a4, ⟨z', z1', z2', z3', z4'⟩, a6, a8⟩ := h
        have e8 : (8 : Int32) + nI p = nI (8 + p) := nI_add 8 p
        have e10 : (10 : Int32) + nI p = nI (10 + p) := nI_add 10 p
        refine ⟨sA c 1 (upd (c.2 1) y (nI (8 + p))), sA (sI M 7 (-6)) 1 (upd (M.2 1) y (nI (10 + p))), 0, ?_, ?_, HP_0 ⟨a1, fun j hj => ?_, a3, a4, ⟨z', z1', z2', z3', fun k hk hm => ?_⟩, a6, a8⟩ rfl (fun i _ _ i7 => sI_o i7) (fun a ha => sA_o (by omega)) rfl⟩
        · show (stA c 1 8 (nI y) ((8 : Int32) + nI p)).bind _ = _
          rw [e8, stAn _ 1 _ hy (by omega)]; rfl
        · show ((stA (sI M 7 (-6)) 1 8 (nI y) ((10 : Int32) + nI p)).bind _).bind _ = _
          rw [e10, stAn _ 1 _ hy (by omega)]; rfl
        · show relT (if j = y then nI (8 + p) else c.2 1 j) (if j = y then nI (10 + p) else M.2 1 j)
          by_cases e : j = y
          · rw [if_pos e, if_pos e]; exact Or.inr (Or.inr ⟨p, hp, rfl, rfl⟩)
          · rw [if_neg e, if_neg e]; exact a2 j hj
        · obtain ⟨w1, w2, w3⟩ := z4' k hk hm
          refine ⟨w1, w2, fun j hj => ?_⟩
          show ¬ (if j = y then nI (8 + p) else c.2 1 j) = nI (8 + k)
          by_cases e : j = y
          · rw [if_pos e, nI_eq (by omega) (by omega)]
            intro e2
            have : p = k := by omega
            subst this
            exact ht hm
          · rw [if_neg e]; exact w3 j hj
