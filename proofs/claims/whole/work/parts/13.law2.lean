set_option maxRecDepth 100000 in
theorem wd652 : Cond.methodLink RL 125 yX8_image ∈ lw_tbl := List.mem_of_getElem? (i := 652) (by decide +kernel)
set_option maxRecDepth 100000 in
theorem wd653 : Cond.instanceMethod yX8_image ∈ lw_tbl := List.mem_of_getElem? (i := 653) (by decide +kernel)
set_option maxRecDepth 100000 in
theorem wd654 : Cond.selects RX8 yX8_image yX8_image ∈ lw_tbl := List.mem_of_getElem? (i := 654) (by decide +kernel)
set_option maxRecDepth 100000 in
theorem wd655 : Cond.code yX8_image cX8_image 3 (some .int) ∈ lw_tbl := List.mem_of_getElem? (i := 655) (by decide +kernel)
set_option maxRecDepth 100000 in
theorem wd671 : Cond.methodLink RL 129 yX8_restore ∈ lw_tbl := List.mem_of_getElem? (i := 671) (by decide +kernel)
set_option maxRecDepth 100000 in
theorem wd672 : Cond.instanceMethod yX8_restore ∈ lw_tbl := List.mem_of_getElem? (i := 672) (by decide +kernel)
set_option maxRecDepth 100000 in
theorem wd673 : Cond.selects RX8 yX8_restore yX8_restore ∈ lw_tbl := List.mem_of_getElem? (i := 673) (by decide +kernel)
set_option maxRecDepth 100000 in
theorem wd674 : Cond.code yX8_restore cX8_restore 3 (some .int) ∈ lw_tbl := List.mem_of_getElem? (i := 674) (by decide +kernel)
set_option maxRecDepth 100000 in
theorem wd1143 : Cond.methodLink RL 128 yX9_image ∈ lw_tbl := List.mem_of_getElem? (i := 1143) (by decide +kernel)
set_option maxRecDepth 100000 in
theorem wd1159 : Cond.methodLink RL 132 yX9_restore ∈ lw_tbl := List.mem_of_getElem? (i := 1159) (by decide +kernel)
theorem lb_perm {cy : Nat → ClassId} {o om : Nat} {x : Nat → Nat → Nat} {qm : Nat → Nat} {rr : Nat → Option Nat} {cc r g tc d tr gm : pStt} {ch : Nat → Int64} {M : pStt} {E F : List va_W} (h : E.Perm F) : (LB cy o om x qm rr cc r g tc d tr gm ch M E).Perm (LB cy o om x qm rr cc r g tc d tr gm ch M F) := h.append_left (LB cy o om x qm rr cc r g tc d tr gm ch M [])
section LWD
variable {p : Program} {l : Launch} {e : Env} {s : State} {m : MethodId} {args : Array Value} {below : List Frame} {meth : Method} {c : Code} {H : Heap} {locs : List Loc} {cells slots : Nat} {Q : State → Prop} {ls : Array Slot} {D : va_G} {cy : Nat → ClassId} {A : Nat → Prop} {b L : Nat} {xs : Nat → Int32} {o om : Nat} {x : Nat → Nat → Nat} {qm : Nat → Nat} {rest : List Value} {pc index : Nat}
set_option maxHeartbeats 4000000 in
set_option maxRecDepth 100000 in
theorem im_call (S : CX p m c cL_law 4 s args RL D cy) (hlk : (Cond.methodLink RL index yX8_image).before args s = true) {rr : Nat → Option Nat} {cc r g tc d tr gm : pStt} {ch : Nat → Int64} {M : pStt} (ik : Option IMd) (E : List va_W) (hw : PW D A s.heap (LB cy o om x qm rr cc r g tc d tr gm ch M (imL cy ik ++ E)) H locs) {x1 : Int32} (hk : x1 = 0 ∨ x1 = 1) (hrk : rr x1.toNatClampNeg = imA ik) {c2 : pStt} (hc2 : f_X1_init (sI zS 1 1) = some c2) {u : pStt × pStt × pStt} (hu : f_X7_copyFrom (match imS ik with | none => c2 | some t => t.1) cc (match imS ik with | none => zS | some t => t.2.1) r (match imS ik with | none => zS | some t => t.2.2) g = some u) (hsz : ls.size = 4) (hrest : (rest.map fun v => v.category).sum ≤ 8) (hdg : decode cL_law pc = .ok (.invokevirtual index, 3)) (hcs : cells + 11 ≤ room_1.cells ∧ slots + 75 ≤ room_1.slots)
    (K : ∀ (a : Nat) (w p1 p4 p5 : Nat → Nat) (H : Heap) (locs : List Loc), PW D A s.heap (LB cy o om x qm (va_up rr x1.toNatClampNeg (some a)) cc r g tc d tr gm ch M (imL cy (some (a, w, p1, p4, p5, u)) ++ E)) H locs → W p l e room_1 s m args below meth c H locs (cells + 11 * (1 - imN ik)) (slots + 75 * (1 - imN ik)) Q (F0 m (pc + 3) ls (.int 1 :: rest))) : W p l e room_1 s m args below meth c H locs cells slots Q (F0 m pc ls (.int x1 :: .ref o :: rest)) := by
  cases ik with
  | none =>
    have hw : PW D A s.heap (LB cy o om x qm rr cc r g tc d tr gm ch M ([] :: [] :: [] :: [] :: E)) H locs := pw_cast hw rfl
    refine x_callV (n := 1) (ov := some (.int 1)) (As := [.int x1]) S hw (c_X8_imageN l D cy o (x 0) (x 5) (x 1) (x 2) (x 3) cc r g rr x1 hk hrk c2 hc2 u hu) (MF.of S.2.2.2.2 wd655 wd70 (by decide)) (S.2.2.2.2.wd wd653 rfl) (S.2.2.2.2.wd wd654 rfl) hlk ⟨rfl, rfl, Nat.le_of_ble_eq_true rfl, Nat.le_of_ble_eq_true rfl⟩ [0, 1, 2, 3, 5, 6, 12, 13, 14, 15] rfl (by decide) (fun _ => rfl) rfl rfl rfl rfl hsz rfl hrest hdg hcs (fun z H locs hw => ?_)
    exact K (z 4 0) (z 0) (z 1) (z 2) (z 3) H locs hw
  | some ik =>
    obtain ⟨a, w, p1, p4, p5, t⟩ := ik
    refine w_callV (n := 1) (ov := some (.int 1)) (As := [.int x1]) S hw (c_X8_imageS l D cy o (x 0) (x 5) (x 1) (x 2) (x 3) cc r g rr x1 a w p1 p4 p5 t.1 t.2.1 t.2.2 hk hrk u hu) (MF.of S.2.2.2.2 wd655 wd70 (by decide)) (S.2.2.2.2.wd wd653 rfl) (S.2.2.2.2.wd wd654 rfl) hlk ⟨rfl, rfl, Nat.le_of_ble_eq_true rfl, Nat.le_of_ble_eq_true rfl⟩ [0, 1, 2, 3, 5, 6, 12, 13, 14, 15] rfl (by decide) rfl rfl rfl rfl rfl hsz rfl hrest hdg ⟨Nat.le_trans (Nat.le_add_right _ _) hcs.1, Nat.le_trans (Nat.le_add_right _ _) hcs.2⟩ (fun H locs hw => ?_)
    have hup : va_up rr x1.toNatClampNeg (some a) = rr := by
      funext j
      unfold va_up
      by_cases hj : j = x1.toNatClampNeg
      · rw [if_pos hj, hj, hrk]; rfl
      · rw [if_neg hj]
    have K2 := K a w p1 p4 p5 H locs
    rw [hup] at K2
    exact K2 hw
set_option maxHeartbeats 4000000 in
set_option maxRecDepth 100000 in
theorem lc_image (hC : cp_image) (hI : cp_init) (S : CX p m c cL_law 4 s args RL D cy) (hX : SC A b L xs s) (hL : L ≤ 2560) {i : Nat} (hi : i + 4 < L) (h : LI D A s.heap cy o om x qm H locs cells slots) (hl : lv_has ls 4 [(0, .ref b), (1, .ref o), (2, .ref om), (3, .int (nI i))]) (K : ∀ (H : Heap) (locs : List Loc) (ls : Array Slot) (cells slots : Nat), LI D A s.heap cy o om x qm H locs cells slots → lv_has ls 4 [(0, .ref b), (1, .ref o), (2, .ref om), (3, .int (nI i))] → W p l e room_1 s m args below meth c H locs cells slots Q (F0 m 1050 ls [])) : W p l e room_1 s m args below meth c H locs cells slots Q (F0 m 981 ls []) := by
  obtain ⟨rr, cc, r, g, tc, d, tr, gm, ch, M, i0, i1, hw, hV, hr0, hr1, hce, hsl⟩ := h
  have hn0 := imN_le i0
  have hn1 := imN_le i1
  have hcs : cells + 11 ≤ room_1.cells ∧ slots + 75 ≤ room_1.slots := ⟨by rw [hce]; show _ ≤ 600000; omega, by rw [hsl]; show _ ≤ 7302250; omega⟩
  have hcs0 : cells ≤ room_1.cells ∧ slots ≤ room_1.slots := ⟨Nat.le_trans (Nat.le_add_right _ _) hcs.1, Nat.le_trans (Nat.le_add_right _ _) hcs.2⟩
  refine lv_aload_n S.1 S.2.1 dL_law_981 rfl (lv_at hl 1 rfl) ?_
  refine lv_aload_n S.1 S.2.1 dL_law_982 rfl (lv_at hl 0 rfl) ?_
  refine lv_iload_n S.1 S.2.1 dL_law_983 rfl (lv_at hl 3 rfl) ?_
  refine lv_iconst (v := 1) S.1 S.2.1 dL_law_984 (by decide) ?_
  refine lv_iadd S.1 S.2.1 dL_law_985 ?_
  refine w_sld (k := i + 1) S hw hX (by omega) hL (nI_add i 1) dL_law_986 ?_
  obtain ⟨c2, M2, hc2, -, -⟩ := hI
  rcases hC cc r g d (imS i0) (imS i1) M (xs (i + 1)) hV with ⟨ho, v, hv, he, hV⟩ | ⟨hk, hq⟩
  · refine w_callV (n := 1) (ov := some (.int (-2))) (As := [.int (xs (i + 1))]) S hw (c_X8_imageO l D cy o (x 0) (xs (i + 1)) ho) (MF.of S.2.2.2.2 wd655 wd70 (by decide)) (S.2.2.2.2.wd wd653 rfl) (S.2.2.2.2.wd wd654 rfl) (S.2.2.2.2.wd wd652 rfl) ⟨rfl, rfl, Nat.le_of_ble_eq_true rfl, Nat.le_of_ble_eq_true rfl⟩ [0] rfl (by decide) rfl rfl rfl rfl rfl hl.1 rfl (Nat.le_of_ble_eq_true rfl) dL_law_987 hcs0 (fun H locs hw => ?_)
    have hw : PW D A s.heap (LB cy o om x qm rr cc r g tc d tr gm ch M (imL cy i0 ++ imL cy i1)) H locs := hw
    refine lv_aload_n S.1 S.2.1 dL_law_990 rfl (lv_at hl 2 rfl) ?_
    refine lv_aload_n S.1 S.2.1 dL_law_991 rfl (lv_at hl 0 rfl) ?_
    refine lv_iload_n S.1 S.2.1 dL_law_992 rfl (lv_at hl 3 rfl) ?_
    refine lv_iconst (v := 1) S.1 S.2.1 dL_law_993 (by decide) ?_
    refine lv_iadd S.1 S.2.1 dL_law_994 ?_
    refine w_sld (k := i + 1) S hw hX (by omega) hL (nI_add i 1) dL_law_995 ?_
    refine k_X9_image S (S.2.2.2.2.wd wd1143 rfl) hw hv [11] rfl (by decide) rfl ⟨rfl, rfl, Nat.le_of_ble_eq_true rfl, Nat.le_of_ble_eq_true rfl⟩ hl.1 (Nat.le_of_ble_eq_true rfl) dL_law_996 hcs0 (fun H locs hw => ?_)
    have hw : PW D A s.heap (LB cy o om x qm rr cc r g tc d tr gm ch v.2 (imL cy i0 ++ imL cy i1)) H locs := hw
    refine lv_icmp_eq (tgt := 1050) S.1 S.2.1 dL_law_999 (by decide) (fun _ => ?_) (fun h => absurd he.symm h)
    exact K _ _ _ _ _ ⟨rr, cc, r, g, tc, d, tr, gm, ch, v.2, i0, i1, hw, hV, hr0, hr1, hce, hsl⟩ hl
  · obtain ⟨u, v, hu, hv, he, hV⟩ := hq c2 hc2
    have hk2 := hk
    rcases hk with hx | hx
    · rw [hx] at hu hV
      rw [show selI 0 (imS i0) (imS i1) = imS i0 from if_pos rfl] at hu
      rw [show upI 0 (some u) (imS i0) (imS i1) = (some u, imS i1) from if_pos rfl] at hV
      have ez : (xs (i + 1)).toNatClampNeg = 0 := by rw [hx]; decide
      refine im_call S (S.2.2.2.2.wd wd652 rfl) i0 (imL cy i1) hw hk2 (by rw [ez]; exact hr0) hc2 hu hl.1 (Nat.le_of_ble_eq_true rfl) dL_law_987 hcs (fun a w p1 p4 p5 H locs hw => ?_)
      rw [ez] at hw
      refine lv_aload_n S.1 S.2.1 dL_law_990 rfl (lv_at hl 2 rfl) ?_
      refine lv_aload_n S.1 S.2.1 dL_law_991 rfl (lv_at hl 0 rfl) ?_
      refine lv_iload_n S.1 S.2.1 dL_law_992 rfl (lv_at hl 3 rfl) ?_
      refine lv_iconst (v := 1) S.1 S.2.1 dL_law_993 (by decide) ?_
      refine lv_iadd S.1 S.2.1 dL_law_994 ?_
      refine w_sld (k := i + 1) S hw hX (by omega) hL (nI_add i 1) dL_law_995 ?_
      refine k_X9_image S (S.2.2.2.2.wd wd1143 rfl) hw hv [11] rfl (by decide) rfl ⟨rfl, rfl, Nat.le_of_ble_eq_true rfl, Nat.le_of_ble_eq_true rfl⟩ hl.1 (Nat.le_of_ble_eq_true rfl) dL_law_996 ⟨by have := hcs.1; have h2 := Nat.sub_le 1 (imN i0); exact Nat.le_trans (by omega) this, by have := hcs.2; have h2 := Nat.sub_le 1 (imN i0); exact Nat.le_trans (by omega) this⟩ (fun H locs hw => ?_)
      have hw : PW D A s.heap (LB cy o om x qm (va_up rr 0 (some a)) cc r g tc d tr gm ch v.2 (imL cy (some (a, w, p1, p4, p5, u)) ++ imL cy i1)) H locs := hw
      refine lv_icmp_eq (tgt := 1050) S.1 S.2.1 dL_law_999 (by decide) (fun _ => ?_) (fun h => absurd he.symm h)
      exact K _ _ _ _ _ ⟨va_up rr 0 (some a), cc, r, g, tc, d, tr, gm, ch, v.2, some (a, w, p1, p4, p5, u), i1, hw, hV, rfl, hr1, by rw [hce]; show _ = 100 + 11 * (1 + imN i1); omega, by rw [hsl]; show _ = 10000 + 75 * (1 + imN i1); omega⟩ hl
    · rw [hx] at hu hV
      rw [show selI 1 (imS i0) (imS i1) = imS i1 from if_neg (by decide)] at hu
      rw [show upI 1 (some u) (imS i0) (imS i1) = (imS i0, some u) from if_neg (by decide)] at hV
      have ez : (xs (i + 1)).toNatClampNeg = 1 := by rw [hx]; decide
      have hw : PW D A s.heap (LB cy o om x qm rr cc r g tc d tr gm ch M (imL cy i1 ++ imL cy i0)) H locs := pw_perm hw (lb_perm (List.perm_append_comm))
      refine im_call S (S.2.2.2.2.wd wd652 rfl) i1 (imL cy i0) hw hk2 (by rw [ez]; exact hr1) hc2 hu hl.1 (Nat.le_of_ble_eq_true rfl) dL_law_987 hcs (fun a w p1 p4 p5 H locs hw => ?_)
      rw [ez] at hw
      refine lv_aload_n S.1 S.2.1 dL_law_990 rfl (lv_at hl 2 rfl) ?_
      refine lv_aload_n S.1 S.2.1 dL_law_991 rfl (lv_at hl 0 rfl) ?_
      refine lv_iload_n S.1 S.2.1 dL_law_992 rfl (lv_at hl 3 rfl) ?_
      refine lv_iconst (v := 1) S.1 S.2.1 dL_law_993 (by decide) ?_
      refine lv_iadd S.1 S.2.1 dL_law_994 ?_
      refine w_sld (k := i + 1) S hw hX (by omega) hL (nI_add i 1) dL_law_995 ?_
      refine k_X9_image S (S.2.2.2.2.wd wd1143 rfl) hw hv [11] rfl (by decide) rfl ⟨rfl, rfl, Nat.le_of_ble_eq_true rfl, Nat.le_of_ble_eq_true rfl⟩ hl.1 (Nat.le_of_ble_eq_true rfl) dL_law_996 ⟨by have := hcs.1; have h2 := Nat.sub_le 1 (imN i1); exact Nat.le_trans (by omega) this, by have := hcs.2; have h2 := Nat.sub_le 1 (imN i1); exact Nat.le_trans (by omega) this⟩ (fun H locs hw => ?_)
      have hw : PW D A s.heap (LB cy o om x qm (va_up rr 1 (some a)) cc r g tc d tr gm ch v.2 (imL cy (some (a, w, p1, p4, p5, u)) ++ imL cy i0)) H locs := hw
      refine lv_icmp_eq (tgt := 1050) S.1 S.2.1 dL_law_999 (by decide) (fun _ => ?_) (fun h => absurd he.symm h)
      exact K _ _ _ _ _ ⟨va_up rr 1 (some a), cc, r, g, tc, d, tr, gm, ch, v.2, i0, some (a, w, p1, p4, p5, u), pw_perm hw (lb_perm List.perm_append_comm), hV, hr0, rfl, by rw [hce]; show _ = 100 + 11 * (imN i0 + 1); omega, by rw [hsl]; show _ = 10000 + 75 * (imN i0 + 1); omega⟩ hl

set_option maxHeartbeats 4000000 in
set_option maxRecDepth 100000 in
theorem lc_restore (hC : cp_restore) (S : CX p m c cL_law 4 s args RL D cy) (hX : SC A b L xs s) (hL : L ≤ 2560) {i : Nat} (hi : i + 4 < L) (h : LI D A s.heap cy o om x qm H locs cells slots) (hl : lv_has ls 4 [(0, .ref b), (1, .ref o), (2, .ref om), (3, .int (nI i))]) (K : ∀ (H : Heap) (locs : List Loc) (ls : Array Slot) (cells slots : Nat), LI D A s.heap cy o om x qm H locs cells slots → lv_has ls 4 [(0, .ref b), (1, .ref o), (2, .ref om), (3, .int (nI i))] → W p l e room_1 s m args below meth c H locs cells slots Q (F0 m 1050 ls [])) : W p l e room_1 s m args below meth c H locs cells slots Q (F0 m 1004 ls []) := by
  obtain ⟨rr, cc, r, g, tc, d, tr, gm, ch, M, i0, i1, hw, hV, hr0, hr1, hce, hsl⟩ := h
  have hn0 := imN_le i0
  have hn1 := imN_le i1
  have hcs : cells + 11 ≤ room_1.cells ∧ slots + 75 ≤ room_1.slots := ⟨by rw [hce]; show _ ≤ 600000; omega, by rw [hsl]; show _ ≤ 7302250; omega⟩
  have hcs0 : cells ≤ room_1.cells ∧ slots ≤ room_1.slots := ⟨Nat.le_trans (Nat.le_add_right _ _) hcs.1, Nat.le_trans (Nat.le_add_right _ _) hcs.2⟩
  refine lv_aload_n S.1 S.2.1 dL_law_1004 rfl (lv_at hl 1 rfl) ?_
  refine lv_aload_n S.1 S.2.1 dL_law_1005 rfl (lv_at hl 0 rfl) ?_
  refine lv_iload_n S.1 S.2.1 dL_law_1006 rfl (lv_at hl 3 rfl) ?_
  refine lv_iconst (v := 1) S.1 S.2.1 dL_law_1007 (by decide) ?_
  refine lv_iadd S.1 S.2.1 dL_law_1008 ?_
  refine w_sld (k := i + 1) S hw hX (by omega) hL (nI_add i 1) dL_law_1009 ?_
  rcases hC cc r g d (imS i0) (imS i1) M (xs (i + 1)) hV with ⟨ho, v, hv, he, hV⟩ | ⟨hk, ⟨hn, v, hv, he, hV⟩ | ⟨t, ht, u, v, hu, hv, he, hV⟩⟩
  · refine w_callV (n := 1) (ov := some (.int (-2))) (As := [.int (xs (i + 1))]) S hw (c_X8_restoreO l D cy o (x 0) (xs (i + 1)) ho) (MF.of S.2.2.2.2 wd674 wd70 (by decide)) (S.2.2.2.2.wd wd672 rfl) (S.2.2.2.2.wd wd673 rfl) (S.2.2.2.2.wd wd671 rfl) ⟨rfl, rfl, Nat.le_of_ble_eq_true rfl, Nat.le_of_ble_eq_true rfl⟩ [0] rfl (by decide) rfl rfl rfl rfl rfl hl.1 rfl (Nat.le_of_ble_eq_true rfl) dL_law_1010 hcs0 (fun H locs hw => ?_)
    have hw : PW D A s.heap (LB cy o om x qm rr cc r g tc d tr gm ch M (imL cy i0 ++ imL cy i1)) H locs := hw
    refine lv_aload_n S.1 S.2.1 dL_law_1013 rfl (lv_at hl 2 rfl) ?_
    refine lv_aload_n S.1 S.2.1 dL_law_1014 rfl (lv_at hl 0 rfl) ?_
    refine lv_iload_n S.1 S.2.1 dL_law_1015 rfl (lv_at hl 3 rfl) ?_
    refine lv_iconst (v := 1) S.1 S.2.1 dL_law_1016 (by decide) ?_
    refine lv_iadd S.1 S.2.1 dL_law_1017 ?_
    refine w_sld (k := i + 1) S hw hX (by omega) hL (nI_add i 1) dL_law_1018 ?_
    refine k_X9_restore S (S.2.2.2.2.wd wd1159 rfl) hw hv [11] rfl (by decide) rfl ⟨rfl, rfl, Nat.le_of_ble_eq_true rfl, Nat.le_of_ble_eq_true rfl⟩ hl.1 (Nat.le_of_ble_eq_true rfl) dL_law_1019 hcs0 (fun H locs hw => ?_)
    have hw : PW D A s.heap (LB cy o om x qm rr cc r g tc d tr gm ch v.2 (imL cy i0 ++ imL cy i1)) H locs := hw
    refine lv_icmp_eq (tgt := 1050) S.1 S.2.1 dL_law_1022 (by decide) (fun _ => ?_) (fun h => absurd he.symm h)
    exact K _ _ _ _ _ ⟨rr, cc, r, g, tc, d, tr, gm, ch, v.2, i0, i1, hw, hV, hr0, hr1, hce, hsl⟩ hl
  · have hrn : rr (xs (i + 1)).toNatClampNeg = none := by
      rcases hk with hx | hx
      · rw [hx] at hn ⊢
        rw [show selI 0 (imS i0) (imS i1) = imS i0 from if_pos rfl] at hn
        cases i0 with
        | none => exact hr0
        | some _ => cases hn
      · rw [hx] at hn ⊢
        rw [show selI 1 (imS i0) (imS i1) = imS i1 from if_neg (by decide)] at hn
        cases i1 with
        | none => exact hr1
        | some _ => cases hn
    refine w_callV (n := 1) (ov := some (.int (-3))) (As := [.int (xs (i + 1))]) S hw (c_X8_restoreN l D cy o (x 0) rr (xs (i + 1)) hk hrn) (MF.of S.2.2.2.2 wd674 wd70 (by decide)) (S.2.2.2.2.wd wd672 rfl) (S.2.2.2.2.wd wd673 rfl) (S.2.2.2.2.wd wd671 rfl) ⟨rfl, rfl, Nat.le_of_ble_eq_true rfl, Nat.le_of_ble_eq_true rfl⟩ [0, 6] rfl (by decide) rfl rfl rfl rfl rfl hl.1 rfl (Nat.le_of_ble_eq_true rfl) dL_law_1010 hcs0 (fun H locs hw => ?_)
    have hw : PW D A s.heap (LB cy o om x qm rr cc r g tc d tr gm ch M (imL cy i0 ++ imL cy i1)) H locs := hw
    refine lv_aload_n S.1 S.2.1 dL_law_1013 rfl (lv_at hl 2 rfl) ?_
    refine lv_aload_n S.1 S.2.1 dL_law_1014 rfl (lv_at hl 0 rfl) ?_
    refine lv_iload_n S.1 S.2.1 dL_law_1015 rfl (lv_at hl 3 rfl) ?_
    refine lv_iconst (v := 1) S.1 S.2.1 dL_law_1016 (by decide) ?_
    refine lv_iadd S.1 S.2.1 dL_law_1017 ?_
    refine w_sld (k := i + 1) S hw hX (by omega) hL (nI_add i 1) dL_law_1018 ?_
    refine k_X9_restore S (S.2.2.2.2.wd wd1159 rfl) hw hv [11] rfl (by decide) rfl ⟨rfl, rfl, Nat.le_of_ble_eq_true rfl, Nat.le_of_ble_eq_true rfl⟩ hl.1 (Nat.le_of_ble_eq_true rfl) dL_law_1019 hcs0 (fun H locs hw => ?_)
    have hw : PW D A s.heap (LB cy o om x qm rr cc r g tc d tr gm ch v.2 (imL cy i0 ++ imL cy i1)) H locs := hw
    refine lv_icmp_eq (tgt := 1050) S.1 S.2.1 dL_law_1022 (by decide) (fun _ => ?_) (fun h => absurd he.symm h)
    exact K _ _ _ _ _ ⟨rr, cc, r, g, tc, d, tr, gm, ch, v.2, i0, i1, hw, hV, hr0, hr1, hce, hsl⟩ hl
  · have hk2 := hk
    rcases hk with hx | hx
    · rw [hx, show selI 0 (imS i0) (imS i1) = imS i0 from if_pos rfl] at ht
      have ez : (xs (i + 1)).toNatClampNeg = 0 := by rw [hx]; decide
      cases i0 with
      | none => cases ht
      | some ik =>
        obtain ⟨a, w, p1, p4, p5, t0⟩ := ik
        cases ht
        refine w_callV (n := 1) (ov := some (.int 1)) (As := [.int (xs (i + 1))]) S hw (c_X8_restoreS l D cy o (x 0) (x 5) (x 1) (x 2) (x 3) cc r g rr (xs (i + 1)) a w p1 p4 p5 t0.1 t0.2.1 t0.2.2 hk2 (by rw [ez]; exact hr0) u hu) (MF.of S.2.2.2.2 wd674 wd70 (by decide)) (S.2.2.2.2.wd wd672 rfl) (S.2.2.2.2.wd wd673 rfl) (S.2.2.2.2.wd wd671 rfl) ⟨rfl, rfl, Nat.le_of_ble_eq_true rfl, Nat.le_of_ble_eq_true rfl⟩ [0, 1, 2, 3, 5, 6, 12, 13, 14, 15] rfl (by decide) rfl rfl rfl rfl rfl hl.1 rfl (Nat.le_of_ble_eq_true rfl) dL_law_1010 hcs0 (fun H locs hw => ?_)
        have hw : PW D A s.heap (LB cy o om x qm rr u.1 u.2.1 u.2.2 tc d tr gm ch M (imL cy (some (a, w, p1, p4, p5, t0)) ++ imL cy i1)) H locs := hw
        refine lv_aload_n S.1 S.2.1 dL_law_1013 rfl (lv_at hl 2 rfl) ?_
        refine lv_aload_n S.1 S.2.1 dL_law_1014 rfl (lv_at hl 0 rfl) ?_
        refine lv_iload_n S.1 S.2.1 dL_law_1015 rfl (lv_at hl 3 rfl) ?_
        refine lv_iconst (v := 1) S.1 S.2.1 dL_law_1016 (by decide) ?_
        refine lv_iadd S.1 S.2.1 dL_law_1017 ?_
        refine w_sld (k := i + 1) S hw hX (by omega) hL (nI_add i 1) dL_law_1018 ?_
        refine k_X9_restore S (S.2.2.2.2.wd wd1159 rfl) hw hv [11] rfl (by decide) rfl ⟨rfl, rfl, Nat.le_of_ble_eq_true rfl, Nat.le_of_ble_eq_true rfl⟩ hl.1 (Nat.le_of_ble_eq_true rfl) dL_law_1019 hcs0 (fun H locs hw => ?_)
        have hw : PW D A s.heap (LB cy o om x qm rr u.1 u.2.1 u.2.2 tc d tr gm ch v.2 (imL cy (some (a, w, p1, p4, p5, t0)) ++ imL cy i1)) H locs := hw
        refine lv_icmp_eq (tgt := 1050) S.1 S.2.1 dL_law_1022 (by decide) (fun _ => ?_) (fun h => absurd he.symm h)
        exact K _ _ _ _ _ ⟨rr, u.1, u.2.1, u.2.2, tc, d, tr, gm, ch, v.2, some (a, w, p1, p4, p5, t0), i1, hw, hV, hr0, hr1, hce, hsl⟩ hl
    · rw [hx, show selI 1 (imS i0) (imS i1) = imS i1 from if_neg (by decide)] at ht
      have ez : (xs (i + 1)).toNatClampNeg = 1 := by rw [hx]; decide
      cases i1 with
      | none => cases ht
      | some ik =>
        obtain ⟨a, w, p1, p4, p5, t0⟩ := ik
        cases ht
        have hw : PW D A s.heap (LB cy o om x qm rr cc r g tc d tr gm ch M (imL cy (some (a, w, p1, p4, p5, t0)) ++ imL cy i0)) H locs := pw_perm hw (lb_perm (List.perm_append_comm))
        refine w_callV (n := 1) (ov := some (.int 1)) (As := [.int (xs (i + 1))]) S hw (c_X8_restoreS l D cy o (x 0) (x 5) (x 1) (x 2) (x 3) cc r g rr (xs (i + 1)) a w p1 p4 p5 t0.1 t0.2.1 t0.2.2 hk2 (by rw [ez]; exact hr1) u hu) (MF.of S.2.2.2.2 wd674 wd70 (by decide)) (S.2.2.2.2.wd wd672 rfl) (S.2.2.2.2.wd wd673 rfl) (S.2.2.2.2.wd wd671 rfl) ⟨rfl, rfl, Nat.le_of_ble_eq_true rfl, Nat.le_of_ble_eq_true rfl⟩ [0, 1, 2, 3, 5, 6, 12, 13, 14, 15] rfl (by decide) rfl rfl rfl rfl rfl hl.1 rfl (Nat.le_of_ble_eq_true rfl) dL_law_1010 hcs0 (fun H locs hw => ?_)
        have hw : PW D A s.heap (LB cy o om x qm rr u.1 u.2.1 u.2.2 tc d tr gm ch M (imL cy (some (a, w, p1, p4, p5, t0)) ++ imL cy i0)) H locs := hw
        refine lv_aload_n S.1 S.2.1 dL_law_1013 rfl (lv_at hl 2 rfl) ?_
        refine lv_aload_n S.1 S.2.1 dL_law_1014 rfl (lv_at hl 0 rfl) ?_
        refine lv_iload_n S.1 S.2.1 dL_law_1015 rfl (lv_at hl 3 rfl) ?_
        refine lv_iconst (v := 1) S.1 S.2.1 dL_law_1016 (by decide) ?_
        refine lv_iadd S.1 S.2.1 dL_law_1017 ?_
        refine w_sld (k := i + 1) S hw hX (by omega) hL (nI_add i 1) dL_law_1018 ?_
        refine k_X9_restore S (S.2.2.2.2.wd wd1159 rfl) hw hv [11] rfl (by decide) rfl ⟨rfl, rfl, Nat.le_of_ble_eq_true rfl, Nat.le_of_ble_eq_true rfl⟩ hl.1 (Nat.le_of_ble_eq_true rfl) dL_law_1019 hcs0 (fun H locs hw => ?_)
        have hw : PW D A s.heap (LB cy o om x qm rr u.1 u.2.1 u.2.2 tc d tr gm ch v.2 (imL cy (some (a, w, p1, p4, p5, t0)) ++ imL cy i0)) H locs := hw
        refine lv_icmp_eq (tgt := 1050) S.1 S.2.1 dL_law_1022 (by decide) (fun _ => ?_) (fun h => absurd he.symm h)
        exact K _ _ _ _ _ ⟨rr, u.1, u.2.1, u.2.2, tc, d, tr, gm, ch, v.2, i0, some (a, w, p1, p4, p5, t0), pw_perm hw (lb_perm List.perm_append_comm), hV, hr0, hr1, hce, hsl⟩ hl
end LWD
