/-! the pad read by the reference -/
def PK (M M' : pStt) (q : Nat) : Prop := (∀ i, i ≠ 5 → M'.1 i = M.1 i) ∧ (∀ a, a ≠ 13 → a ≠ 14 → a ≠ 15 → M'.2 a = M.2 a) ∧ ∀ j, j < q → M'.2 13 j = M.2 13 j ∧ M'.2 14 j = M.2 14 j ∧ M'.2 15 j = M.2 15 j
theorem PK_r (M : pStt) (q : Nat) : PK M M q := ⟨fun _ _ => rfl, fun _ _ _ _ => rfl, fun _ _ => ⟨rfl, rfl, rfl⟩⟩
theorem PK_t {M N K : pStt} {q : Nat} (h : PK M N q) (g : PK N K q) : PK M K q :=
  ⟨fun i a => by rw [g.1 i a, h.1 i a], fun i a b c => by rw [g.2.1 i a b c, h.2.1 i a b c], fun j hj => ⟨by rw [(g.2.2 j hj).1, (h.2.2 j hj).1], by rw [(g.2.2 j hj).2.1, (h.2.2 j hj).2.1], by rw [(g.2.2 j hj).2.2, (h.2.2 j hj).2.2]⟩⟩
theorem upd_o {f : Nat → Int32} {q j : Nat} {x : Int32} (h : j < q) : upd f q x j = f j := by
  unfold upd; rw [if_neg (by omega)]
theorem upd_s {f : Nat → Int32} {q : Nat} {x : Int32} : upd f q x q = x := by
  unfold upd; rw [if_pos rfl]
/-- an act is written whole -/
def AW (M M' : pStt) (q : Nat) (k a b : Int32) : Prop := M'.1 5 = nI (q + 1) ∧ PK M M' q ∧ M'.2 13 q = k ∧ M'.2 14 q = a ∧ M'.2 15 q = b
theorem ends_ex {M : pStt} {q : Nat} (h : M.1 5 = nI q) (hq : q < 60) (x y : Int32) : ∃ M', f_X9_ends x y M = some (0, M') ∧ AW M M' q x (M.2 14 q) y := by
  refine ⟨sI (sA (sA M 13 (upd (M.2 13) q x)) 15 (upd (M.2 15) q y)) 5 (nI (q + 1)), ?_, rfl, ⟨fun i hi => sI_o hi, fun a h1 h2 h3 => ?_, fun j hj => ⟨upd_o hj, rfl, upd_o hj⟩⟩, upd_s, rfl, upd_s⟩
  · unfold f_X9_ends
    rw [h, stAn M 13 _ hq (by omega), bs]
    show (stA _ 15 60 (M.1 5) y).bind _ = _
    rw [h, stAn _ 15 _ hq (by omega), bs]
    show (some (sI _ 5 (M.1 5 + 1))).bind _ = _
    rw [h, show nI q + (1 : Int32) = nI (q + 1) from nI_1 q]; rfl
  · show (sA (sA M 13 _) 15 _).2 a = _
    rw [sA_o h3, sA_o h1]
theorem AW_t {M N K : pStt} {q : Nat} {k a b : Int32} (h : PK M N q) (g : AW N K q k a b) : AW M K q k a b := ⟨g.1, PK_t h g.2.1, g.2.2⟩
theorem which_ex {M : pStt} {q : Nat} (hq : q < 60) (x : Int32) : stA M 14 60 (nI q) x = some (sA M 14 (upd (M.2 14) q x)) ∧ PK M (sA M 14 (upd (M.2 14) q x)) q ∧ (sA M 14 (upd (M.2 14) q x)).2 14 q = x :=
  ⟨stAn M 14 _ hq (by omega), ⟨fun _ _ => rfl, fun a h1 h2 h3 => sA_o h2, fun j hj => ⟨rfl, upd_o hj, rfl⟩⟩, upd_s⟩
theorem in_c {c lo hi : Nat} {a b : Int64} (ha : a = (nI lo).toInt64) (hb : b = (nI hi).toInt64) (hc : c < 200) (hl : lo < 200) (hh : hi < 200) : f_X9_in (nI c).toInt64 a b = some (if lo ≤ c ∧ c ≤ hi then 1 else 0) := by
  rw [inW (nI c) (nI lo) (nI hi) ha hb]
  by_cases h : lo ≤ c ∧ c ≤ hi
  · rw [if_pos h]; exact isW1 (nI_le h.1 (by omega)) (nI_le h.2 (by omega))
  · rw [if_neg h]
    refine isW0 (fun g => h ?_)
    rw [nI_leI (by omega) (by omega), nI_leI (by omega) (by omega)] at g
    exact g
theorem read_at {st : Int32} {c : Nat} (hc : c < 200) (M : pStt) : f_X9_readOn st (nI c) M = (if st = 0 then (f_X9_begin (nI c) M).bind (fun u_4 => some (u_4.1, u_4.2)) else if st = 1 then if (if 97 ≤ c ∧ c ≤ 104 then (1 : Int32) else 0) = 0 then some ((-6), M) else (f_X9_begun ((nI c - (97 : Int32))) 2 M).bind (fun u_7 => some (u_7.1, u_7.2)) else if st = 3 then if (if 48 ≤ c ∧ c ≤ 55 then (1 : Int32) else 0) = 0 then some ((-6), M) else (f_X9_begun ((nI c - (48 : Int32))) 4 M).bind (fun u_10 => some (u_10.1, u_10.2)) else if st = 5 then (f_X9_deed (nI c) M).bind (fun u_12 => some (u_12.1, u_12.2)) else if st = 6 then if (if 48 ≤ c ∧ c ≤ 55 then (1 : Int32) else 0) = 0 then some ((-6), M) else (f_X9_ends 7 ((nI c - (48 : Int32))) M).bind (fun u_15 => some (u_15.1, u_15.2)) else if (if 97 ≤ c ∧ c ≤ 104 then (1 : Int32) else 0) = 0 then some ((-6), M) else (ld (M.2 13) 60 ((M.1 5))).bind (fun x_17 => (f_X9_ends x_17 ((nI c - (97 : Int32))) M).bind (fun u_18 => some (u_18.1, u_18.2)))) := by
  unfold f_X9_readOn
  rw [in_c (lo := 97) (hi := 104) (by decide) (by decide) hc (by omega) (by omega), in_c (lo := 48) (hi := 55) (by decide) (by decide) hc (by omega) (by omega), bs, bs]
/-- the first sign -/
theorem at0 {M : pStt} {q c : Nat} (h : M.1 5 = nI q) (hq : q < 60) (hc : c < 200) : (c = 46 ∧ ∃ M' a, f_X9_readOn 0 (nI c) M = some (0, M') ∧ AW M M' q 9 a 0) ∨ (c = 112 ∧ ∃ M' a, f_X9_readOn 0 (nI c) M = some (0, M') ∧ AW M M' q 3 a 0) ∨ (∃ x lo st, ((c = 116 ∧ x = 2 ∧ lo = 48 ∧ st = 3) ∨ (c = 119 ∧ x = 0 ∧ lo = 97 ∧ st = 1) ∨ (c = 120 ∧ x = 1 ∧ lo = 97 ∧ st = (1 : Int32))) ∧ ∃ M', f_X9_readOn 0 (nI c) M = some (st, M') ∧ M'.1 5 = nI q ∧ PK M M' q ∧ M'.2 13 q = x) ∨ ((65 ≤ c ∧ c < 71) ∧ ∃ M', f_X9_readOn 0 (nI c) M = some (5, M') ∧ M'.1 5 = nI q ∧ PK M M' q ∧ M'.2 14 q = nI (c - 65)) ∨ (c ≠ 46 ∧ c ≠ 112 ∧ c ≠ 116 ∧ c ≠ 119 ∧ c ≠ 120 ∧ (c < 65 ∨ 71 ≤ c) ∧ ∃ M', f_X9_readOn 0 (nI c) M = some (-6, M') ∧ PK M M' q) := by
  rw [read_at hc, if_pos rfl]
  unfold f_X9_begin
  rw [in_c (lo := 65) (hi := 70) (by decide) (by decide) hc (by omega) (by omega), bs, h]
  obtain ⟨v, hv⟩ : ∃ v, (if (if 65 ≤ c ∧ c ≤ 70 then (1 : Int32) else 0) = 0 then some 0 else some (nI c - 65) : Option Int32) = some v ∧ ((65 ≤ c ∧ c ≤ 70) → v = nI (c - 65)) := by
    by_cases k : 65 ≤ c ∧ c ≤ 70
    · rw [if_pos k]
      refine ⟨_, if_neg (by decide), fun _ => ?_⟩
      exact pk_sub (b := 65) k.1
    · rw [if_neg k]
      exact ⟨0, if_pos rfl, fun h => absurd h k⟩
  obtain ⟨w1, w2, w3⟩ := which_ex (M := M) hq v
  rw [hv.1, bs, w1, bs]
  have h5 : (sA M 14 (upd (M.2 14) q v)).1 5 = nI q := h
  have op : ∀ x y, f_X9_opens x y (sA M 14 (upd (M.2 14) q v)) = some (y, sA (sA M 14 (upd (M.2 14) q v)) 13 (upd (M.2 13) q x)) := fun x y => by
    unfold f_X9_opens
    rw [h5, stAn _ 13 _ hq (by omega)]; rfl
  have kp : ∀ x, PK M (sA (sA M 14 (upd (M.2 14) q v)) 13 (upd (M.2 13) q x)) q := fun x => ⟨fun _ _ => rfl, fun a h1 h2 h3 => by rw [sA_o h1, sA_o h2], fun j hj => ⟨upd_o hj, upd_o hj, rfl⟩⟩
  by_cases c1 : c = 46
  · left
    obtain ⟨M', e1, e2⟩ := ends_ex h5 hq 9 0
    rw [c1, if_pos (show nI 46 = 46 from rfl), e1]
    exact ⟨rfl, M', _, rfl, AW_t w2 e2⟩
  by_cases c2 : c = 112
  · right; left
    obtain ⟨M', e1, e2⟩ := ends_ex h5 hq 3 0
    rw [c2, if_neg (by decide), if_pos (show nI 112 = 112 from rfl), e1]
    exact ⟨rfl, M', _, rfl, AW_t w2 e2⟩
  by_cases c3 : c = 116
  · right; right; left
    refine ⟨2, 48, 3, Or.inl ⟨c3, rfl, rfl, rfl⟩, sA (sA M 14 (upd (M.2 14) q v)) 13 (upd (M.2 13) q 2), ?_, h5, kp 2, upd_s⟩
    rw [c3, if_neg (by decide), if_neg (by decide), if_pos (show nI 116 = 116 from rfl), op]; rfl
  by_cases c4 : c = 119
  · right; right; left
    refine ⟨0, 97, 1, Or.inr (Or.inl ⟨c4, rfl, rfl, rfl⟩), sA (sA M 14 (upd (M.2 14) q v)) 13 (upd (M.2 13) q 0), ?_, h5, kp 0, upd_s⟩
    rw [c4, if_neg (by decide), if_neg (by decide), if_neg (by decide), if_pos (show nI 119 = 119 from rfl), op]; rfl
  by_cases c5 : c = 120
  · right; right; left
    refine ⟨1, 97, 1, Or.inr (Or.inr ⟨c5, rfl, rfl, rfl⟩), sA (sA M 14 (upd (M.2 14) q v)) 13 (upd (M.2 13) q 1), ?_, h5, kp 1, upd_s⟩
    rw [c5, if_neg (by decide), if_neg (by decide), if_neg (by decide), if_neg (by decide), if_pos (show nI 120 = 120 from rfl), op]; rfl
  right; right; right
  rw [if_neg (neL (y := 46) (k := 46) rfl c1 (by omega) (by omega)), if_neg (neL (y := 112) (k := 112) rfl c2 (by omega) (by omega)), if_neg (neL (y := 116) (k := 116) rfl c3 (by omega) (by omega)), if_neg (neL (y := 119) (k := 119) rfl c4 (by omega) (by omega)), if_neg (neL (y := 120) (k := 120) rfl c5 (by omega) (by omega)), bs]
  by_cases k : 65 ≤ c ∧ c ≤ 70
  · left
    rw [if_pos k, if_neg (by decide)]
    exact ⟨⟨k.1, by omega⟩, _, rfl, h5, w2, by rw [w3]; exact hv.2 k⟩
  · right
    rw [if_neg k, if_pos rfl]
    exact ⟨c1, c2, c3, c4, c5, by omega, _, rfl, w2⟩
theorem at13 {M : pStt} {q c lo : Nat} {st : Int32} (hs : (st = 1 ∧ lo = 97) ∨ (st = 3 ∧ lo = 48)) (h : M.1 5 = nI q) (hq : q < 60) (hc : c < 200) : ((lo ≤ c ∧ c < lo + 8) ∧ ∃ M', f_X9_readOn st (nI c) M = some (st + 1, M') ∧ M'.1 5 = nI q ∧ PK M M' q ∧ M'.2 13 q = M.2 13 q ∧ M'.2 14 q = nI (c - lo)) ∨ ((c < lo ∨ lo + 8 ≤ c) ∧ f_X9_readOn st (nI c) M = some (-6, M)) := by
  rw [read_at hc]
  by_cases k : lo ≤ c ∧ c ≤ lo + 7
  · left
    obtain ⟨w1, w2, w3⟩ := which_ex (M := M) hq (nI (c - lo))
    have hb : ∀ x, f_X9_begun (nI (c - lo)) x M = some (x, sA M 14 (upd (M.2 14) q (nI (c - lo)))) := fun x => by
      unfold f_X9_begun
      rw [h, w1]; rfl
    refine ⟨⟨k.1, by omega⟩, sA M 14 (upd (M.2 14) q (nI (c - lo))), ?_, h, w2, rfl, w3⟩
    rcases hs with ⟨rfl, rfl⟩ | ⟨rfl, rfl⟩
    · rw [if_neg (by decide), if_pos rfl, if_pos k, if_neg (by decide), show nI c - (97 : Int32) = nI (c - 97) from pk_sub (b := 97) k.1, hb]; rfl
    · rw [if_neg (by decide), if_neg (by decide), if_pos rfl, if_neg (by rw [if_pos k]; decide), show nI c - (48 : Int32) = nI (c - 48) from pk_sub (b := 48) k.1, hb]; rfl
  · right
    refine ⟨by omega, ?_⟩
    rcases hs with ⟨rfl, rfl⟩ | ⟨rfl, rfl⟩
    · rw [if_neg (by decide), if_pos rfl, if_neg k, if_pos rfl]
    · rw [if_neg (by decide), if_neg (by decide), if_pos rfl, if_pos (by rw [if_neg k])]
theorem at24 {M : pStt} {q c : Nat} {st : Int32} (hs : st = 2 ∨ st = 4) (h : M.1 5 = nI q) (hq : q < 60) (hc : c < 200) : ((97 ≤ c ∧ c < 105) ∧ ∃ M', f_X9_readOn st (nI c) M = some (0, M') ∧ AW M M' q (M.2 13 q) (M.2 14 q) (nI (c - 97))) ∨ ((c < 97 ∨ 105 ≤ c) ∧ f_X9_readOn st (nI c) M = some (-6, M)) := by
  rw [read_at hc]
  have e : ∀ A B C D E F : Option (Int32 × pStt), (if st = 0 then A else if st = 1 then B else if st = 3 then C else if st = 5 then D else if st = 6 then E else F) = F := by
    intro A B C D E F
    rcases hs with rfl | rfl <;> rfl
  rw [e]
  by_cases k : 97 ≤ c ∧ c ≤ 104
  · left
    obtain ⟨M', e1, e2⟩ := ends_ex h hq (M.2 13 q) (nI (c - 97))
    refine ⟨⟨k.1, by omega⟩, M', ?_, e2⟩
    rw [if_neg (by rw [if_pos k]; decide), h, ldn _ hq (by omega), bs, show nI c - (97 : Int32) = nI (c - 97) from pk_sub (b := 97) k.1, e1]; rfl
  · right
    refine ⟨by omega, ?_⟩
    rw [if_pos (by rw [if_neg k])]
theorem at6 {M : pStt} {q c : Nat} (h : M.1 5 = nI q) (hq : q < 60) (hc : c < 200) : ((48 ≤ c ∧ c < 56) ∧ ∃ M', f_X9_readOn 6 (nI c) M = some (0, M') ∧ AW M M' q 7 (M.2 14 q) (nI (c - 48))) ∨ ((c < 48 ∨ 56 ≤ c) ∧ f_X9_readOn 6 (nI c) M = some (-6, M)) := by
  rw [read_at hc]
  by_cases k : 48 ≤ c ∧ c ≤ 55
  · left
    obtain ⟨M', e1, e2⟩ := ends_ex h hq 7 (nI (c - 48))
    refine ⟨⟨k.1, by omega⟩, M', ?_, e2⟩
    rw [if_neg (by decide), if_neg (by decide), if_neg (by decide), if_neg (by decide), if_pos rfl, if_neg (by rw [if_pos k]; decide), show nI c - (48 : Int32) = nI (c - 48) from pk_sub (b := 48) k.1, e1]; rfl
  · right
    refine ⟨by omega, ?_⟩
    rw [if_neg (by decide), if_neg (by decide), if_neg (by decide), if_neg (by decide), if_pos rfl, if_pos (by rw [if_neg k])]
theorem at5 {M : pStt} {q c : Nat} (h : M.1 5 = nI q) (hq : q < 60) (hc : c < 200) : (∃ k, ((c = 33 ∧ k = 8) ∨ (c = 40 ∧ k = 4) ∨ (c = 41 ∧ k = (5 : Int32))) ∧ ∃ M', f_X9_readOn 5 (nI c) M = some (0, M') ∧ AW M M' q k (M.2 14 q) 0) ∨ (c = 36 ∧ f_X9_readOn 5 (nI c) M = some (6, M)) ∨ ((97 ≤ c ∧ c < 105) ∧ ∃ M', f_X9_readOn 5 (nI c) M = some (0, M') ∧ AW M M' q 6 (M.2 14 q) (nI (c - 97))) ∨ (c ≠ 33 ∧ c ≠ 36 ∧ c ≠ 40 ∧ c ≠ 41 ∧ (c < 97 ∨ 105 ≤ c) ∧ f_X9_readOn 5 (nI c) M = some (-6, M)) := by
  rw [read_at hc, if_neg (show ¬ (5 : Int32) = 0 by decide), if_neg (show ¬ (5 : Int32) = 1 by decide), if_neg (show ¬ (5 : Int32) = 3 by decide), if_pos rfl]
  unfold f_X9_deed
  by_cases c1 : c = 33
  · left
    obtain ⟨M', e1, e2⟩ := ends_ex h hq 8 0
    refine ⟨8, Or.inl ⟨c1, rfl⟩, M', ?_, e2⟩
    rw [c1, if_pos (show nI 33 = 33 from rfl), e1]; rfl
  by_cases c2 : c = 36
  · right; left
    refine ⟨c2, ?_⟩
    rw [c2]; rfl
  by_cases c3 : c = 40
  · left
    obtain ⟨M', e1, e2⟩ := ends_ex h hq 4 0
    refine ⟨4, Or.inr (Or.inl ⟨c3, rfl⟩), M', ?_, e2⟩
    rw [c3, if_neg (by decide), if_neg (by decide), if_pos (show nI 40 = 40 from rfl), e1]; rfl
  by_cases c4 : c = 41
  · left
    obtain ⟨M', e1, e2⟩ := ends_ex h hq 5 0
    refine ⟨5, Or.inr (Or.inr ⟨c4, rfl⟩), M', ?_, e2⟩
    rw [c4, if_neg (by decide), if_neg (by decide), if_neg (by decide), if_pos (show nI 41 = 41 from rfl), e1]; rfl
  right; right
  rw [if_neg (neL (y := 33) (k := 33) rfl c1 (by omega) (by omega)), if_neg (neL (y := 36) (k := 36) rfl c2 (by omega) (by omega)), if_neg (neL (y := 40) (k := 40) rfl c3 (by omega) (by omega)), if_neg (neL (y := 41) (k := 41) rfl c4 (by omega) (by omega)), in_c (lo := 97) (hi := 104) (by decide) (by decide) hc (by omega) (by omega), bs]
  by_cases k : 97 ≤ c ∧ c ≤ 104
  · left
    obtain ⟨M', e1, e2⟩ := ends_ex h hq 6 (nI (c - 97))
    refine ⟨⟨k.1, by omega⟩, M', ?_, e2⟩
    rw [if_neg (by rw [if_pos k]; decide), show nI c - (97 : Int32) = nI (c - 97) from pk_sub (b := 97) k.1, e1]; rfl
  · right
    refine ⟨c1, c2, c3, c4, by omega, ?_⟩
    rw [if_pos (by rw [if_neg k])]; rfl
