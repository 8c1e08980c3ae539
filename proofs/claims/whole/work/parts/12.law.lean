abbrev IMd : Type := Nat × (Nat → Nat) × (Nat → Nat) × (Nat → Nat) × (Nat → Nat) × (pStt × pStt × pStt)
def imL (cy : Nat → ClassId) (i : Option IMd) : List va_W := match i with
  | none => []
  | some (a, w, p1, p4, p5, t) => [pX1 cy (w 0) p1 t.1, pX4 cy (w 1) p4 t.2.1, pX5 cy (w 2) p5 t.2.2, pX7 a w]
def imS (i : Option IMd) : Option (pStt × pStt × pStt) := i.map (fun t => t.2.2.2.2.2)
def imA (i : Option IMd) : Option Nat := i.map (fun t => t.1)
def imN (i : Option IMd) : Nat := match i with
  | none => 0
  | some _ => 1
abbrev LB (cy : Nat → ClassId) (o om : Nat) (x : Nat → Nat → Nat) (qm : Nat → Nat) (rr : Nat → Option Nat) (c r g tc d tr gm : pStt) (ch : Nat → Int64) (M : pStt) (ex : List va_W) : List va_W := pX8 o (x 0) :: pX1 cy (x 5 0) (x 1) c :: pX4 cy (x 5 1) (x 2) r :: pX5 cy (x 5 2) (x 3) g :: pX1 cy (x 7 0) (x 4) tc :: pX7 (x 0 0) (x 5) :: pIm cy (x 0 1) rr :: pX3 cy (x 0 2) (x 6) d :: pX6 (x 0 3) (x 7) tr :: pX2 cy (x 0 4) (x 8) gm :: pX0 cy (x 0 5) (x 9) ch :: pX9 cy om qm M :: ex
def LI (D : va_G) (A : Nat → Prop) (H0 : Heap) (cy : Nat → ClassId) (o om : Nat) (x : Nat → Nat → Nat) (qm : Nat → Nat) (H : Heap) (locs : List Loc) (cells slots : Nat) : Prop :=
  ∃ (rr : Nat → Option Nat) (c r g tc d tr gm : pStt) (ch : Nat → Int64) (M : pStt) (i0 i1 : Option IMd), PW D A H0 (LB cy o om x qm rr c r g tc d tr gm ch M (imL cy i0 ++ imL cy i1)) H locs ∧ IV c r g d (imS i0) (imS i1) M ∧ rr 0 = imA i0 ∧ rr 1 = imA i1 ∧ cells = 100 + 11 * (imN i0 + imN i1) ∧ slots = 10000 + 75 * (imN i0 + imN i1)
theorem imN_le (i : Option IMd) : imN i ≤ 1 := by cases i <;> simp [imN]
def SC (A : Nat → Prop) (b L : Nat) (xs : Nat → Int32) (s : State) : Prop := va_X b L xs s s.heap ∧ b < s.heap.size ∧ ¬ A b
section LWR
variable {p : Program} {l : Launch} {e : Env} {R : Room} {s : State} {m : MethodId} {args : Array Value} {below : List Frame} {meth : Method} {c : Code} {H : Heap} {locs : List Loc} {cells slots : Nat} {Q : State → Prop} {cc : ByteArray} {pc nL : Nat} {ls : Array Slot} {rest : List Value} {D : va_G} {cy : Nat → ClassId} {A : Nat → Prop} {own : String} {Ps : List va_W} {b L : Nat} {xs : Nat → Int32}
theorem w_sld (S : CX p m c cc nL s args own D cy) (hw : PW D A s.heap Ps H locs) (hX : SC A b L xs s) {ix : Int32} {k : Nat} (hk : k < L) (hL : L ≤ 2560) (hi : ix = nI k) (hdg : decode cc pc = .ok (.iaload, 1)) (kk : W p l e R s m args below meth c H locs cells slots Q (F0 m (pc + 1) ls (.int (xs k) :: rest))) : W p l e R s m args below meth c H locs cells slots Q (F0 m pc ls (.int ix :: .ref b :: rest)) := by
  have h : vp_in ix L := by rw [hi]; exact vp_in_nI hk (by omega)
  have e1 : ix.toNatClampNeg = k := by rw [hi]; exact nI_clamp (by omega)
  have kk2 : W p l e R s m args below meth c H locs cells slots Q (F0 m (pc + 1) ls (.int (xs ix.toNatClampNeg) :: rest)) := by rw [e1]; exact kk
  exact va_sld S.1 S.2.1 hX.1 hX.2.1 hX.2.2 hw.2.2.1 h hdg kk2
end LWR

set_option maxRecDepth 100000 in
theorem wd280 : Cond.methodLink RL 13 yX8_way ∈ lw_tbl := List.mem_of_getElem? (i := 280) (by decide +kernel)
set_option maxRecDepth 100000 in
theorem wd304 : Cond.methodLink RL 18 yX8_thing ∈ lw_tbl := List.mem_of_getElem? (i := 304) (by decide +kernel)
set_option maxRecDepth 100000 in
theorem wd316 : Cond.methodLink RL 23 yX8_person ∈ lw_tbl := List.mem_of_getElem? (i := 316) (by decide +kernel)
set_option maxRecDepth 100000 in
theorem wd331 : Cond.methodLink RL 28 yX8_pole ∈ lw_tbl := List.mem_of_getElem? (i := 331) (by decide +kernel)
set_option maxRecDepth 100000 in
theorem wd339 : Cond.methodLink RL 33 yX8_say ∈ lw_tbl := List.mem_of_getElem? (i := 339) (by decide +kernel)
set_option maxRecDepth 100000 in
theorem wd347 : Cond.methodLink RL 38 yX8_wipe ∈ lw_tbl := List.mem_of_getElem? (i := 347) (by decide +kernel)
set_option maxRecDepth 100000 in
theorem wd351 : Cond.methodLink RL 43 yX8_fault ∈ lw_tbl := List.mem_of_getElem? (i := 351) (by decide +kernel)
set_option maxRecDepth 100000 in
theorem wd387 : Cond.methodLink RL 47 yX8_judge ∈ lw_tbl := List.mem_of_getElem? (i := 387) (by decide +kernel)
set_option maxRecDepth 100000 in
theorem wd453 : Cond.methodLink RL 51 yX8_behind ∈ lw_tbl := List.mem_of_getElem? (i := 453) (by decide +kernel)
set_option maxRecDepth 100000 in
theorem wd465 : Cond.methodLink RL 55 yX8_lies ∈ lw_tbl := List.mem_of_getElem? (i := 465) (by decide +kernel)
set_option maxRecDepth 100000 in
theorem wd473 : Cond.methodLink RL 59 yX8_there ∈ lw_tbl := List.mem_of_getElem? (i := 473) (by decide +kernel)
set_option maxRecDepth 100000 in
theorem wd481 : Cond.methodLink RL 63 yX8_first ∈ lw_tbl := List.mem_of_getElem? (i := 481) (by decide +kernel)
set_option maxRecDepth 100000 in
theorem wd485 : Cond.methodLink RL 67 yX8_done ∈ lw_tbl := List.mem_of_getElem? (i := 485) (by decide +kernel)
set_option maxRecDepth 100000 in
theorem wd490 : Cond.methodLink RL 71 yX8_join ∈ lw_tbl := List.mem_of_getElem? (i := 490) (by decide +kernel)
set_option maxRecDepth 100000 in
theorem wd502 : Cond.methodLink RL 75 yX8_cut ∈ lw_tbl := List.mem_of_getElem? (i := 502) (by decide +kernel)
set_option maxRecDepth 100000 in
theorem wd515 : Cond.methodLink RL 79 yX8_rule ∈ lw_tbl := List.mem_of_getElem? (i := 515) (by decide +kernel)
set_option maxRecDepth 100000 in
theorem wd526 : Cond.methodLink RL 83 yX8_unrule ∈ lw_tbl := List.mem_of_getElem? (i := 526) (by decide +kernel)
set_option maxRecDepth 100000 in
theorem wd530 : Cond.methodLink RL 87 yX8_close ∈ lw_tbl := List.mem_of_getElem? (i := 530) (by decide +kernel)
set_option maxRecDepth 100000 in
theorem wd538 : Cond.methodLink RL 91 yX8_least ∈ lw_tbl := List.mem_of_getElem? (i := 538) (by decide +kernel)
set_option maxRecDepth 100000 in
theorem wd550 : Cond.methodLink RL 95 yX8_swore ∈ lw_tbl := List.mem_of_getElem? (i := 550) (by decide +kernel)
set_option maxRecDepth 100000 in
theorem wd567 : Cond.methodLink RL 100 yX8_forget ∈ lw_tbl := List.mem_of_getElem? (i := 567) (by decide +kernel)
set_option maxRecDepth 100000 in
theorem wd571 : Cond.methodLink RL 104 yX8_liars ∈ lw_tbl := List.mem_of_getElem? (i := 571) (by decide +kernel)
set_option maxRecDepth 100000 in
theorem wd580 : Cond.methodLink RL 108 yX8_ask ∈ lw_tbl := List.mem_of_getElem? (i := 580) (by decide +kernel)
set_option maxRecDepth 100000 in
theorem wd593 : Cond.methodLink RL 112 yX8_walk ∈ lw_tbl := List.mem_of_getElem? (i := 593) (by decide +kernel)
set_option maxRecDepth 100000 in
theorem wd610 : Cond.methodLink RL 116 yX8_hang ∈ lw_tbl := List.mem_of_getElem? (i := 610) (by decide +kernel)
set_option maxRecDepth 100000 in
theorem wd639 : Cond.methodLink RL 121 yX8_year ∈ lw_tbl := List.mem_of_getElem? (i := 639) (by decide +kernel)
set_option maxRecDepth 100000 in
theorem wd675 : Cond.methodLink RL 133 yX8_told ∈ lw_tbl := List.mem_of_getElem? (i := 675) (by decide +kernel)
set_option maxRecDepth 100000 in
theorem wd810 : Cond.methodLink RL 17 yX9_way ∈ lw_tbl := List.mem_of_getElem? (i := 810) (by decide +kernel)
set_option maxRecDepth 100000 in
theorem wd832 : Cond.methodLink RL 22 yX9_thing ∈ lw_tbl := List.mem_of_getElem? (i := 832) (by decide +kernel)
set_option maxRecDepth 100000 in
theorem wd844 : Cond.methodLink RL 27 yX9_person ∈ lw_tbl := List.mem_of_getElem? (i := 844) (by decide +kernel)
set_option maxRecDepth 100000 in
theorem wd861 : Cond.methodLink RL 32 yX9_pole ∈ lw_tbl := List.mem_of_getElem? (i := 861) (by decide +kernel)
set_option maxRecDepth 100000 in
theorem wd865 : Cond.methodLink RL 37 yX9_say ∈ lw_tbl := List.mem_of_getElem? (i := 865) (by decide +kernel)
set_option maxRecDepth 100000 in
theorem wd871 : Cond.methodLink RL 42 yX9_wipe ∈ lw_tbl := List.mem_of_getElem? (i := 871) (by decide +kernel)
set_option maxRecDepth 100000 in
theorem wd875 : Cond.methodLink RL 46 yX9_fault ∈ lw_tbl := List.mem_of_getElem? (i := 875) (by decide +kernel)
set_option maxRecDepth 100000 in
theorem wd909 : Cond.methodLink RL 50 yX9_judge ∈ lw_tbl := List.mem_of_getElem? (i := 909) (by decide +kernel)
set_option maxRecDepth 100000 in
theorem wd986 : Cond.methodLink RL 54 yX9_behind ∈ lw_tbl := List.mem_of_getElem? (i := 986) (by decide +kernel)
set_option maxRecDepth 100000 in
theorem wd999 : Cond.methodLink RL 58 yX9_lies ∈ lw_tbl := List.mem_of_getElem? (i := 999) (by decide +kernel)
set_option maxRecDepth 100000 in
theorem wd1003 : Cond.methodLink RL 62 yX9_there ∈ lw_tbl := List.mem_of_getElem? (i := 1003) (by decide +kernel)
set_option maxRecDepth 100000 in
theorem wd1020 : Cond.methodLink RL 66 yX9_first ∈ lw_tbl := List.mem_of_getElem? (i := 1020) (by decide +kernel)
set_option maxRecDepth 100000 in
theorem wd1024 : Cond.methodLink RL 70 yX9_done ∈ lw_tbl := List.mem_of_getElem? (i := 1024) (by decide +kernel)
set_option maxRecDepth 100000 in
theorem wd1028 : Cond.methodLink RL 74 yX9_join ∈ lw_tbl := List.mem_of_getElem? (i := 1028) (by decide +kernel)
set_option maxRecDepth 100000 in
theorem wd1036 : Cond.methodLink RL 78 yX9_cut ∈ lw_tbl := List.mem_of_getElem? (i := 1036) (by decide +kernel)
set_option maxRecDepth 100000 in
theorem wd1044 : Cond.methodLink RL 82 yX9_rule ∈ lw_tbl := List.mem_of_getElem? (i := 1044) (by decide +kernel)
set_option maxRecDepth 100000 in
theorem wd1048 : Cond.methodLink RL 86 yX9_unrule ∈ lw_tbl := List.mem_of_getElem? (i := 1048) (by decide +kernel)
set_option maxRecDepth 100000 in
theorem wd1052 : Cond.methodLink RL 90 yX9_close ∈ lw_tbl := List.mem_of_getElem? (i := 1052) (by decide +kernel)
set_option maxRecDepth 100000 in
theorem wd1065 : Cond.methodLink RL 94 yX9_least ∈ lw_tbl := List.mem_of_getElem? (i := 1065) (by decide +kernel)
set_option maxRecDepth 100000 in
theorem wd1069 : Cond.methodLink RL 99 yX9_swore ∈ lw_tbl := List.mem_of_getElem? (i := 1069) (by decide +kernel)
set_option maxRecDepth 100000 in
theorem wd1076 : Cond.methodLink RL 103 yX9_forget ∈ lw_tbl := List.mem_of_getElem? (i := 1076) (by decide +kernel)
set_option maxRecDepth 100000 in
theorem wd1080 : Cond.methodLink RL 107 yX9_liars ∈ lw_tbl := List.mem_of_getElem? (i := 1080) (by decide +kernel)
set_option maxRecDepth 100000 in
theorem wd1091 : Cond.methodLink RL 111 yX9_ask ∈ lw_tbl := List.mem_of_getElem? (i := 1091) (by decide +kernel)
set_option maxRecDepth 100000 in
theorem wd1099 : Cond.methodLink RL 115 yX9_walk ∈ lw_tbl := List.mem_of_getElem? (i := 1099) (by decide +kernel)
set_option maxRecDepth 100000 in
theorem wd1107 : Cond.methodLink RL 120 yX9_hang ∈ lw_tbl := List.mem_of_getElem? (i := 1107) (by decide +kernel)
set_option maxRecDepth 100000 in
theorem wd1127 : Cond.methodLink RL 124 yX9_year ∈ lw_tbl := List.mem_of_getElem? (i := 1127) (by decide +kernel)
set_option maxRecDepth 100000 in
theorem wd1163 : Cond.methodLink RL 136 yX9_told ∈ lw_tbl := List.mem_of_getElem? (i := 1163) (by decide +kernel)
section LWC
variable {p : Program} {l : Launch} {e : Env} {s : State} {m : MethodId} {args : Array Value} {below : List Frame} {meth : Method} {c : Code} {H : Heap} {locs : List Loc} {cells slots : Nat} {Q : State → Prop} {ls : Array Slot} {D : va_G} {cy : Nat → ClassId} {A : Nat → Prop} {b L : Nat} {xs : Nat → Int32} {o om : Nat} {x : Nat → Nat → Nat} {qm : Nat → Nat}
theorem lg_cmp_self (x : Int64) : lg_cmp x x = 0 := by simp [lg_cmp]
set_option maxHeartbeats 4000000 in
set_option maxRecDepth 100000 in
theorem lc_way (hC : cp_way) (S : CX p m c cL_law 4 s args RL D cy) (hX : SC A b L xs s) (hL : L ≤ 2560) {i : Nat} (hi : i + 4 < L) (h : LI D A s.heap cy o om x qm H locs cells slots) (hl : lv_has ls 4 [(0, .ref b), (1, .ref o), (2, .ref om), (3, .int (nI i))]) (K : ∀ (H : Heap) (locs : List Loc) (ls : Array Slot) (cells slots : Nat), LI D A s.heap cy o om x qm H locs cells slots → lv_has ls 4 [(0, .ref b), (1, .ref o), (2, .ref om), (3, .int (nI i))] → W p l e room_1 s m args below meth c H locs cells slots Q (F0 m 1050 ls [])) : W p l e room_1 s m args below meth c H locs cells slots Q (F0 m 164 ls []) := by
  obtain ⟨rr, cc, r, g, tc, d, tr, gm, ch, M, i0, i1, hw, hV, hr0, hr1, hce, hsl⟩ := h
  have hn0 := imN_le i0
  have hn1 := imN_le i1
  have hcs : cells ≤ room_1.cells ∧ slots ≤ room_1.slots := ⟨by rw [hce]; show _ ≤ 600000; omega, by rw [hsl]; show _ ≤ 7302250; omega⟩
  by_cases hz : xs (i + 3) = 0
  ·
    obtain ⟨u, v, hu, hv, he, hV⟩ := hC cc r g d (imS i0) (imS i1) M  (xs (i + 1)) (xs (i + 2)) (0) hV (by decide)
    refine lv_aload_n S.1 S.2.1 dL_law_164 rfl (lv_at hl 1 rfl) ?_
    refine lv_aload_n S.1 S.2.1 dL_law_165 rfl (lv_at hl 0 rfl) ?_
    refine lv_iload_n S.1 S.2.1 dL_law_166 rfl (lv_at hl 3 rfl) ?_
    refine lv_iconst (v := 1) S.1 S.2.1 dL_law_167 (by decide) ?_
    refine lv_iadd S.1 S.2.1 dL_law_168 ?_
    refine w_sld (k := i + 1) S hw hX (by omega) hL (nI_add i 1) dL_law_169 ?_
    refine lv_aload_n S.1 S.2.1 dL_law_170 rfl (lv_at hl 0 rfl) ?_
    refine lv_iload_n S.1 S.2.1 dL_law_171 rfl (lv_at hl 3 rfl) ?_
    refine lv_iconst (v := 2) S.1 S.2.1 dL_law_172 (by decide) ?_
    refine lv_iadd S.1 S.2.1 dL_law_173 ?_
    refine w_sld (k := i + 2) S hw hX (by omega) hL (nI_add i 2) dL_law_174 ?_
    refine lv_aload_n S.1 S.2.1 dL_law_175 rfl (lv_at hl 0 rfl) ?_
    refine lv_iload_n S.1 S.2.1 dL_law_176 rfl (lv_at hl 3 rfl) ?_
    refine lv_iconst (v := 3) S.1 S.2.1 dL_law_177 (by decide) ?_
    refine lv_iadd S.1 S.2.1 dL_law_178 ?_
    refine w_sld (k := i + 3) S hw hX (by omega) hL (nI_add i 3) dL_law_179 ?_
    refine lv_if_eq (tgt := 187) S.1 S.2.1 dL_law_180 (by decide) (fun _ => ?_) (fun h => absurd hz h)
    refine lv_iconst (v := 0) S.1 S.2.1 dL_law_187 (by decide) ?_
    refine k_X8_way S (S.2.2.2.2.wd wd280 rfl) hw hu [0, 5, 1] rfl (by decide) rfl ⟨rfl, rfl, Nat.le_of_ble_eq_true rfl, Nat.le_of_ble_eq_true rfl⟩ hl.1 (Nat.le_of_ble_eq_true rfl) dL_law_188 hcs (fun H locs hw => ?_)
    have hw : PW D A s.heap (LB cy o om x qm rr u.2 r g tc d tr gm ch M (imL cy i0 ++ imL cy i1)) H locs := hw
    refine lv_aload_n S.1 S.2.1 dL_law_191 rfl (lv_at hl 2 rfl) ?_
    refine lv_aload_n S.1 S.2.1 dL_law_192 rfl (lv_at hl 0 rfl) ?_
    refine lv_iload_n S.1 S.2.1 dL_law_193 rfl (lv_at hl 3 rfl) ?_
    refine lv_iconst (v := 1) S.1 S.2.1 dL_law_194 (by decide) ?_
    refine lv_iadd S.1 S.2.1 dL_law_195 ?_
    refine w_sld (k := i + 1) S hw hX (by omega) hL (nI_add i 1) dL_law_196 ?_
    refine lv_aload_n S.1 S.2.1 dL_law_197 rfl (lv_at hl 0 rfl) ?_
    refine lv_iload_n S.1 S.2.1 dL_law_198 rfl (lv_at hl 3 rfl) ?_
    refine lv_iconst (v := 2) S.1 S.2.1 dL_law_199 (by decide) ?_
    refine lv_iadd S.1 S.2.1 dL_law_200 ?_
    refine w_sld (k := i + 2) S hw hX (by omega) hL (nI_add i 2) dL_law_201 ?_
    refine lv_aload_n S.1 S.2.1 dL_law_202 rfl (lv_at hl 0 rfl) ?_
    refine lv_iload_n S.1 S.2.1 dL_law_203 rfl (lv_at hl 3 rfl) ?_
    refine lv_iconst (v := 3) S.1 S.2.1 dL_law_204 (by decide) ?_
    refine lv_iadd S.1 S.2.1 dL_law_205 ?_
    refine w_sld (k := i + 3) S hw hX (by omega) hL (nI_add i 3) dL_law_206 ?_
    refine lv_if_eq (tgt := 214) S.1 S.2.1 dL_law_207 (by decide) (fun _ => ?_) (fun h => absurd hz h)
    refine lv_iconst (v := 0) S.1 S.2.1 dL_law_214 (by decide) ?_
    refine k_X9_way S (S.2.2.2.2.wd wd810 rfl) hw hv [11] rfl (by decide) rfl ⟨rfl, rfl, Nat.le_of_ble_eq_true rfl, Nat.le_of_ble_eq_true rfl⟩ hl.1 (Nat.le_of_ble_eq_true rfl) dL_law_215 hcs (fun H locs hw => ?_)
    have hw : PW D A s.heap (LB cy o om x qm rr u.2 r g tc d tr gm ch v.2 (imL cy i0 ++ imL cy i1)) H locs := hw
    refine lv_icmp_eq (tgt := 1050) S.1 S.2.1 dL_law_218 (by decide) (fun _ => ?_) (fun h => absurd he h)
    exact K _ _ _ _ _ ⟨rr, u.2, r, g, tc, d, tr, gm, ch, v.2, i0, i1, hw, hV, hr0, hr1, hce, hsl⟩ hl
  ·
    obtain ⟨u, v, hu, hv, he, hV⟩ := hC cc r g d (imS i0) (imS i1) M  (xs (i + 1)) (xs (i + 2)) (1) hV (by decide)
    refine lv_aload_n S.1 S.2.1 dL_law_164 rfl (lv_at hl 1 rfl) ?_
    refine lv_aload_n S.1 S.2.1 dL_law_165 rfl (lv_at hl 0 rfl) ?_
    refine lv_iload_n S.1 S.2.1 dL_law_166 rfl (lv_at hl 3 rfl) ?_
    refine lv_iconst (v := 1) S.1 S.2.1 dL_law_167 (by decide) ?_
    refine lv_iadd S.1 S.2.1 dL_law_168 ?_
    refine w_sld (k := i + 1) S hw hX (by omega) hL (nI_add i 1) dL_law_169 ?_
    refine lv_aload_n S.1 S.2.1 dL_law_170 rfl (lv_at hl 0 rfl) ?_
    refine lv_iload_n S.1 S.2.1 dL_law_171 rfl (lv_at hl 3 rfl) ?_
    refine lv_iconst (v := 2) S.1 S.2.1 dL_law_172 (by decide) ?_
    refine lv_iadd S.1 S.2.1 dL_law_173 ?_
    refine w_sld (k := i + 2) S hw hX (by omega) hL (nI_add i 2) dL_law_174 ?_
    refine lv_aload_n S.1 S.2.1 dL_law_175 rfl (lv_at hl 0 rfl) ?_
    refine lv_iload_n S.1 S.2.1 dL_law_176 rfl (lv_at hl 3 rfl) ?_
    refine lv_iconst (v := 3) S.1 S.2.1 dL_law_177 (by decide) ?_
    refine lv_iadd S.1 S.2.1 dL_law_178 ?_
    refine w_sld (k := i + 3) S hw hX (by omega) hL (nI_add i 3) dL_law_179 ?_
    refine lv_if_eq (tgt := 187) S.1 S.2.1 dL_law_180 (by decide) (fun h => absurd h hz) (fun _ => ?_)
    refine lv_iconst (v := 1) S.1 S.2.1 dL_law_183 (by decide) ?_
    refine lv_goto (tgt := 188) S.1 S.2.1 dL_law_184 (by decide) ?_
    refine k_X8_way S (S.2.2.2.2.wd wd280 rfl) hw hu [0, 5, 1] rfl (by decide) rfl ⟨rfl, rfl, Nat.le_of_ble_eq_true rfl, Nat.le_of_ble_eq_true rfl⟩ hl.1 (Nat.le_of_ble_eq_true rfl) dL_law_188 hcs (fun H locs hw => ?_)
    have hw : PW D A s.heap (LB cy o om x qm rr u.2 r g tc d tr gm ch M (imL cy i0 ++ imL cy i1)) H locs := hw
    refine lv_aload_n S.1 S.2.1 dL_law_191 rfl (lv_at hl 2 rfl) ?_
    refine lv_aload_n S.1 S.2.1 dL_law_192 rfl (lv_at hl 0 rfl) ?_
    refine lv_iload_n S.1 S.2.1 dL_law_193 rfl (lv_at hl 3 rfl) ?_
    refine lv_iconst (v := 1) S.1 S.2.1 dL_law_194 (by decide) ?_
    refine lv_iadd S.1 S.2.1 dL_law_195 ?_
    refine w_sld (k := i + 1) S hw hX (by omega) hL (nI_add i 1) dL_law_196 ?_
    refine lv_aload_n S.1 S.2.1 dL_law_197 rfl (lv_at hl 0 rfl) ?_
    refine lv_iload_n S.1 S.2.1 dL_law_198 rfl (lv_at hl 3 rfl) ?_
    refine lv_iconst (v := 2) S.1 S.2.1 dL_law_199 (by decide) ?_
    refine lv_iadd S.1 S.2.1 dL_law_200 ?_
    refine w_sld (k := i + 2) S hw hX (by omega) hL (nI_add i 2) dL_law_201 ?_
    refine lv_aload_n S.1 S.2.1 dL_law_202 rfl (lv_at hl 0 rfl) ?_
    refine lv_iload_n S.1 S.2.1 dL_law_203 rfl (lv_at hl 3 rfl) ?_
    refine lv_iconst (v := 3) S.1 S.2.1 dL_law_204 (by decide) ?_
    refine lv_iadd S.1 S.2.1 dL_law_205 ?_
    refine w_sld (k := i + 3) S hw hX (by omega) hL (nI_add i 3) dL_law_206 ?_
    refine lv_if_eq (tgt := 214) S.1 S.2.1 dL_law_207 (by decide) (fun h => absurd h hz) (fun _ => ?_)
    refine lv_iconst (v := 1) S.1 S.2.1 dL_law_210 (by decide) ?_
    refine lv_goto (tgt := 215) S.1 S.2.1 dL_law_211 (by decide) ?_
    refine k_X9_way S (S.2.2.2.2.wd wd810 rfl) hw hv [11] rfl (by decide) rfl ⟨rfl, rfl, Nat.le_of_ble_eq_true rfl, Nat.le_of_ble_eq_true rfl⟩ hl.1 (Nat.le_of_ble_eq_true rfl) dL_law_215 hcs (fun H locs hw => ?_)
    have hw : PW D A s.heap (LB cy o om x qm rr u.2 r g tc d tr gm ch v.2 (imL cy i0 ++ imL cy i1)) H locs := hw
    refine lv_icmp_eq (tgt := 1050) S.1 S.2.1 dL_law_218 (by decide) (fun _ => ?_) (fun h => absurd he h)
    exact K _ _ _ _ _ ⟨rr, u.2, r, g, tc, d, tr, gm, ch, v.2, i0, i1, hw, hV, hr0, hr1, hce, hsl⟩ hl
set_option maxHeartbeats 4000000 in
set_option maxRecDepth 100000 in
theorem lc_thing (hC : cp_thing) (S : CX p m c cL_law 4 s args RL D cy) (hX : SC A b L xs s) (hL : L ≤ 2560) {i : Nat} (hi : i + 4 < L) (h : LI D A s.heap cy o om x qm H locs cells slots) (hl : lv_has ls 4 [(0, .ref b), (1, .ref o), (2, .ref om), (3, .int (nI i))]) (K : ∀ (H : Heap) (locs : List Loc) (ls : Array Slot) (cells slots : Nat), LI D A s.heap cy o om x qm H locs cells slots → lv_has ls 4 [(0, .ref b), (1, .ref o), (2, .ref om), (3, .int (nI i))] → W p l e room_1 s m args below meth c H locs cells slots Q (F0 m 1050 ls [])) : W p l e room_1 s m args below meth c H locs cells slots Q (F0 m 223 ls []) := by
  obtain ⟨rr, cc, r, g, tc, d, tr, gm, ch, M, i0, i1, hw, hV, hr0, hr1, hce, hsl⟩ := h
  have hn0 := imN_le i0
  have hn1 := imN_le i1
  have hcs : cells ≤ room_1.cells ∧ slots ≤ room_1.slots := ⟨by rw [hce]; show _ ≤ 600000; omega, by rw [hsl]; show _ ≤ 7302250; omega⟩
  obtain ⟨u, v, hu, hv, he, hV⟩ := hC cc r g d (imS i0) (imS i1) M  (xs (i + 1)) (xs (i + 2)) hV 
  refine lv_aload_n S.1 S.2.1 dL_law_223 rfl (lv_at hl 1 rfl) ?_
  refine lv_aload_n S.1 S.2.1 dL_law_224 rfl (lv_at hl 0 rfl) ?_
  refine lv_iload_n S.1 S.2.1 dL_law_225 rfl (lv_at hl 3 rfl) ?_
  refine lv_iconst (v := 1) S.1 S.2.1 dL_law_226 (by decide) ?_
  refine lv_iadd S.1 S.2.1 dL_law_227 ?_
  refine w_sld (k := i + 1) S hw hX (by omega) hL (nI_add i 1) dL_law_228 ?_
  refine lv_aload_n S.1 S.2.1 dL_law_229 rfl (lv_at hl 0 rfl) ?_
  refine lv_iload_n S.1 S.2.1 dL_law_230 rfl (lv_at hl 3 rfl) ?_
  refine lv_iconst (v := 2) S.1 S.2.1 dL_law_231 (by decide) ?_
  refine lv_iadd S.1 S.2.1 dL_law_232 ?_
  refine w_sld (k := i + 2) S hw hX (by omega) hL (nI_add i 2) dL_law_233 ?_
  refine k_X8_thing S (S.2.2.2.2.wd wd304 rfl) hw hu [0, 5, 1] rfl (by decide) rfl ⟨rfl, rfl, Nat.le_of_ble_eq_true rfl, Nat.le_of_ble_eq_true rfl⟩ hl.1 (Nat.le_of_ble_eq_true rfl) dL_law_234 hcs (fun H locs hw => ?_)
  have hw : PW D A s.heap (LB cy o om x qm rr u.2 r g tc d tr gm ch M (imL cy i0 ++ imL cy i1)) H locs := hw
  refine lv_aload_n S.1 S.2.1 dL_law_237 rfl (lv_at hl 2 rfl) ?_
  refine lv_aload_n S.1 S.2.1 dL_law_238 rfl (lv_at hl 0 rfl) ?_
  refine lv_iload_n S.1 S.2.1 dL_law_239 rfl (lv_at hl 3 rfl) ?_
  refine lv_iconst (v := 1) S.1 S.2.1 dL_law_240 (by decide) ?_
  refine lv_iadd S.1 S.2.1 dL_law_241 ?_
  refine w_sld (k := i + 1) S hw hX (by omega) hL (nI_add i 1) dL_law_242 ?_
  refine lv_aload_n S.1 S.2.1 dL_law_243 rfl (lv_at hl 0 rfl) ?_
  refine lv_iload_n S.1 S.2.1 dL_law_244 rfl (lv_at hl 3 rfl) ?_
  refine lv_iconst (v := 2) S.1 S.2.1 dL_law_245 (by decide) ?_
  refine lv_iadd S.1 S.2.1 dL_law_246 ?_
  refine w_sld (k := i + 2) S hw hX (by omega) hL (nI_add i 2) dL_law_247 ?_
  refine k_X9_thing S (S.2.2.2.2.wd wd832 rfl) hw hv [11] rfl (by decide) rfl ⟨rfl, rfl, Nat.le_of_ble_eq_true rfl, Nat.le_of_ble_eq_true rfl⟩ hl.1 (Nat.le_of_ble_eq_true rfl) dL_law_248 hcs (fun H locs hw => ?_)
  have hw : PW D A s.heap (LB cy o om x qm rr u.2 r g tc d tr gm ch v.2 (imL cy i0 ++ imL cy i1)) H locs := hw
  refine lv_icmp_eq (tgt := 1050) S.1 S.2.1 dL_law_251 (by decide) (fun _ => ?_) (fun h => absurd he h)
  exact K _ _ _ _ _ ⟨rr, u.2, r, g, tc, d, tr, gm, ch, v.2, i0, i1, hw, hV, hr0, hr1, hce, hsl⟩ hl
set_option maxHeartbeats 4000000 in
set_option maxRecDepth 100000 in
theorem lc_person (hC : cp_person) (S : CX p m c cL_law 4 s args RL D cy) (hX : SC A b L xs s) (hL : L ≤ 2560) {i : Nat} (hi : i + 4 < L) (h : LI D A s.heap cy o om x qm H locs cells slots) (hl : lv_has ls 4 [(0, .ref b), (1, .ref o), (2, .ref om), (3, .int (nI i))]) (K : ∀ (H : Heap) (locs : List Loc) (ls : Array Slot) (cells slots : Nat), LI D A s.heap cy o om x qm H locs cells slots → lv_has ls 4 [(0, .ref b), (1, .ref o), (2, .ref om), (3, .int (nI i))] → W p l e room_1 s m args below meth c H locs cells slots Q (F0 m 1050 ls [])) : W p l e room_1 s m args below meth c H locs cells slots Q (F0 m 256 ls []) := by
  obtain ⟨rr, cc, r, g, tc, d, tr, gm, ch, M, i0, i1, hw, hV, hr0, hr1, hce, hsl⟩ := h
  have hn0 := imN_le i0
  have hn1 := imN_le i1
  have hcs : cells ≤ room_1.cells ∧ slots ≤ room_1.slots := ⟨by rw [hce]; show _ ≤ 600000; omega, by rw [hsl]; show _ ≤ 7302250; omega⟩
  obtain ⟨u, v, hu, hv, he, hV⟩ := hC cc r g d (imS i0) (imS i1) M  (xs (i + 1)) (xs (i + 2)) (xs (i + 3)) hV 
  refine lv_aload_n S.1 S.2.1 dL_law_256 rfl (lv_at hl 1 rfl) ?_
  refine lv_aload_n S.1 S.2.1 dL_law_257 rfl (lv_at hl 0 rfl) ?_
  refine lv_iload_n S.1 S.2.1 dL_law_258 rfl (lv_at hl 3 rfl) ?_
  refine lv_iconst (v := 1) S.1 S.2.1 dL_law_259 (by decide) ?_
  refine lv_iadd S.1 S.2.1 dL_law_260 ?_
  refine w_sld (k := i + 1) S hw hX (by omega) hL (nI_add i 1) dL_law_261 ?_
  refine lv_aload_n S.1 S.2.1 dL_law_262 rfl (lv_at hl 0 rfl) ?_
  refine lv_iload_n S.1 S.2.1 dL_law_263 rfl (lv_at hl 3 rfl) ?_
  refine lv_iconst (v := 2) S.1 S.2.1 dL_law_264 (by decide) ?_
  refine lv_iadd S.1 S.2.1 dL_law_265 ?_
  refine w_sld (k := i + 2) S hw hX (by omega) hL (nI_add i 2) dL_law_266 ?_
  refine lv_aload_n S.1 S.2.1 dL_law_267 rfl (lv_at hl 0 rfl) ?_
  refine lv_iload_n S.1 S.2.1 dL_law_268 rfl (lv_at hl 3 rfl) ?_
  refine lv_iconst (v := 3) S.1 S.2.1 dL_law_269 (by decide) ?_
  refine lv_iadd S.1 S.2.1 dL_law_270 ?_
  refine w_sld (k := i + 3) S hw hX (by omega) hL (nI_add i 3) dL_law_271 ?_
  refine k_X8_person S (S.2.2.2.2.wd wd316 rfl) hw hu [0, 5, 1] rfl (by decide) rfl ⟨rfl, rfl, Nat.le_of_ble_eq_true rfl, Nat.le_of_ble_eq_true rfl⟩ hl.1 (Nat.le_of_ble_eq_true rfl) dL_law_272 hcs (fun H locs hw => ?_)
  have hw : PW D A s.heap (LB cy o om x qm rr u.2 r g tc d tr gm ch M (imL cy i0 ++ imL cy i1)) H locs := hw
  refine lv_aload_n S.1 S.2.1 dL_law_275 rfl (lv_at hl 2 rfl) ?_
  refine lv_aload_n S.1 S.2.1 dL_law_276 rfl (lv_at hl 0 rfl) ?_
  refine lv_iload_n S.1 S.2.1 dL_law_277 rfl (lv_at hl 3 rfl) ?_
  refine lv_iconst (v := 1) S.1 S.2.1 dL_law_278 (by decide) ?_
  refine lv_iadd S.1 S.2.1 dL_law_279 ?_
  refine w_sld (k := i + 1) S hw hX (by omega) hL (nI_add i 1) dL_law_280 ?_
  refine lv_aload_n S.1 S.2.1 dL_law_281 rfl (lv_at hl 0 rfl) ?_
  refine lv_iload_n S.1 S.2.1 dL_law_282 rfl (lv_at hl 3 rfl) ?_
  refine lv_iconst (v := 2) S.1 S.2.1 dL_law_283 (by decide) ?_
  refine lv_iadd S.1 S.2.1 dL_law_284 ?_
  refine w_sld (k := i + 2) S hw hX (by omega) hL (nI_add i 2) dL_law_285 ?_
  refine lv_aload_n S.1 S.2.1 dL_law_286 rfl (lv_at hl 0 rfl) ?_
  refine lv_iload_n S.1 S.2.1 dL_law_287 rfl (lv_at hl 3 rfl) ?_
  refine lv_iconst (v := 3) S.1 S.2.1 dL_law_288 (by decide) ?_
  refine lv_iadd S.1 S.2.1 dL_law_289 ?_
  refine w_sld (k := i + 3) S hw hX (by omega) hL (nI_add i 3) dL_law_290 ?_
  refine k_X9_person S (S.2.2.2.2.wd wd844 rfl) hw hv [11] rfl (by decide) rfl ⟨rfl, rfl, Nat.le_of_ble_eq_true rfl, Nat.le_of_ble_eq_true rfl⟩ hl.1 (Nat.le_of_ble_eq_true rfl) dL_law_291 hcs (fun H locs hw => ?_)
  have hw : PW D A s.heap (LB cy o om x qm rr u.2 r g tc d tr gm ch v.2 (imL cy i0 ++ imL cy i1)) H locs := hw
  refine lv_icmp_eq (tgt := 1050) S.1 S.2.1 dL_law_294 (by decide) (fun _ => ?_) (fun h => absurd he h)
  exact K _ _ _ _ _ ⟨rr, u.2, r, g, tc, d, tr, gm, ch, v.2, i0, i1, hw, hV, hr0, hr1, hce, hsl⟩ hl
set_option maxHeartbeats 4000000 in
set_option maxRecDepth 100000 in
theorem lc_pole (hC : cp_pole) (S : CX p m c cL_law 4 s args RL D cy) (hX : SC A b L xs s) (hL : L ≤ 2560) {i : Nat} (hi : i + 4 < L) (h : LI D A s.heap cy o om x qm H locs cells slots) (hl : lv_has ls 4 [(0, .ref b), (1, .ref o), (2, .ref om), (3, .int (nI i))]) (K : ∀ (H : Heap) (locs : List Loc) (ls : Array Slot) (cells slots : Nat), LI D A s.heap cy o om x qm H locs cells slots → lv_has ls 4 [(0, .ref b), (1, .ref o), (2, .ref om), (3, .int (nI i))] → W p l e room_1 s m args below meth c H locs cells slots Q (F0 m 1050 ls [])) : W p l e room_1 s m args below meth c H locs cells slots Q (F0 m 299 ls []) := by
  obtain ⟨rr, cc, r, g, tc, d, tr, gm, ch, M, i0, i1, hw, hV, hr0, hr1, hce, hsl⟩ := h
  have hn0 := imN_le i0
  have hn1 := imN_le i1
  have hcs : cells ≤ room_1.cells ∧ slots ≤ room_1.slots := ⟨by rw [hce]; show _ ≤ 600000; omega, by rw [hsl]; show _ ≤ 7302250; omega⟩
  by_cases hz : xs (i + 1) = 0
  ·
    obtain ⟨u, v, hu, hv, he, hV⟩ := hC cc r g d (imS i0) (imS i1) M  (0) hV (by decide)
    refine lv_aload_n S.1 S.2.1 dL_law_299 rfl (lv_at hl 1 rfl) ?_
    refine lv_aload_n S.1 S.2.1 dL_law_300 rfl (lv_at hl 0 rfl) ?_
    refine lv_iload_n S.1 S.2.1 dL_law_301 rfl (lv_at hl 3 rfl) ?_
    refine lv_iconst (v := 1) S.1 S.2.1 dL_law_302 (by decide) ?_
    refine lv_iadd S.1 S.2.1 dL_law_303 ?_
    refine w_sld (k := i + 1) S hw hX (by omega) hL (nI_add i 1) dL_law_304 ?_
    refine lv_if_eq (tgt := 312) S.1 S.2.1 dL_law_305 (by decide) (fun _ => ?_) (fun h => absurd hz h)
    refine lv_iconst (v := 0) S.1 S.2.1 dL_law_312 (by decide) ?_
    refine k_X8_pole S (S.2.2.2.2.wd wd331 rfl) hw hu [0, 5, 1] rfl (by decide) rfl ⟨rfl, rfl, Nat.le_of_ble_eq_true rfl, Nat.le_of_ble_eq_true rfl⟩ hl.1 (Nat.le_of_ble_eq_true rfl) dL_law_313 hcs (fun H locs hw => ?_)
    have hw : PW D A s.heap (LB cy o om x qm rr u.2 r g tc d tr gm ch M (imL cy i0 ++ imL cy i1)) H locs := hw
    refine lv_aload_n S.1 S.2.1 dL_law_316 rfl (lv_at hl 2 rfl) ?_
    refine lv_aload_n S.1 S.2.1 dL_law_317 rfl (lv_at hl 0 rfl) ?_
    refine lv_iload_n S.1 S.2.1 dL_law_318 rfl (lv_at hl 3 rfl) ?_
    refine lv_iconst (v := 1) S.1 S.2.1 dL_law_319 (by decide) ?_
    refine lv_iadd S.1 S.2.1 dL_law_320 ?_
    refine w_sld (k := i + 1) S hw hX (by omega) hL (nI_add i 1) dL_law_321 ?_
    refine lv_if_eq (tgt := 329) S.1 S.2.1 dL_law_322 (by decide) (fun _ => ?_) (fun h => absurd hz h)
    refine lv_iconst (v := 0) S.1 S.2.1 dL_law_329 (by decide) ?_
    refine k_X9_pole S (S.2.2.2.2.wd wd861 rfl) hw hv [11] rfl (by decide) rfl ⟨rfl, rfl, Nat.le_of_ble_eq_true rfl, Nat.le_of_ble_eq_true rfl⟩ hl.1 (Nat.le_of_ble_eq_true rfl) dL_law_330 hcs (fun H locs hw => ?_)
    have hw : PW D A s.heap (LB cy o om x qm rr u.2 r g tc d tr gm ch v.2 (imL cy i0 ++ imL cy i1)) H locs := hw
    refine lv_icmp_eq (tgt := 1050) S.1 S.2.1 dL_law_333 (by decide) (fun _ => ?_) (fun h => absurd he h)
    exact K _ _ _ _ _ ⟨rr, u.2, r, g, tc, d, tr, gm, ch, v.2, i0, i1, hw, hV, hr0, hr1, hce, hsl⟩ hl
  ·
    obtain ⟨u, v, hu, hv, he, hV⟩ := hC cc r g d (imS i0) (imS i1) M  (1) hV (by decide)
    refine lv_aload_n S.1 S.2.1 dL_law_299 rfl (lv_at hl 1 rfl) ?_
    refine lv_aload_n S.1 S.2.1 dL_law_300 rfl (lv_at hl 0 rfl) ?_
    refine lv_iload_n S.1 S.2.1 dL_law_301 rfl (lv_at hl 3 rfl) ?_
    refine lv_iconst (v := 1) S.1 S.2.1 dL_law_302 (by decide) ?_
    refine lv_iadd S.1 S.2.1 dL_law_303 ?_
    refine w_sld (k := i + 1) S hw hX (by omega) hL (nI_add i 1) dL_law_304 ?_
    refine lv_if_eq (tgt := 312) S.1 S.2.1 dL_law_305 (by decide) (fun h => absurd h hz) (fun _ => ?_)
    refine lv_iconst (v := 1) S.1 S.2.1 dL_law_308 (by decide) ?_
    refine lv_goto (tgt := 313) S.1 S.2.1 dL_law_309 (by decide) ?_
    refine k_X8_pole S (S.2.2.2.2.wd wd331 rfl) hw hu [0, 5, 1] rfl (by decide) rfl ⟨rfl, rfl, Nat.le_of_ble_eq_true rfl, Nat.le_of_ble_eq_true rfl⟩ hl.1 (Nat.le_of_ble_eq_true rfl) dL_law_313 hcs (fun H locs hw => ?_)
    have hw : PW D A s.heap (LB cy o om x qm rr u.2 r g tc d tr gm ch M (imL cy i0 ++ imL cy i1)) H locs := hw
    refine lv_aload_n S.1 S.2.1 dL_law_316 rfl (lv_at hl 2 rfl) ?_
    refine lv_aload_n S.1 S.2.1 dL_law_317 rfl (lv_at hl 0 rfl) ?_
    refine lv_iload_n S.1 S.2.1 dL_law_318 rfl (lv_at hl 3 rfl) ?_
    refine lv_iconst (v := 1) S.1 S.2.1 dL_law_319 (by decide) ?_
    refine lv_iadd S.1 S.2.1 dL_law_320 ?_
    refine w_sld (k := i + 1) S hw hX (by omega) hL (nI_add i 1) dL_law_321 ?_
    refine lv_if_eq (tgt := 329) S.1 S.2.1 dL_law_322 (by decide) (fun h => absurd h hz) (fun _ => ?_)
    refine lv_iconst (v := 1) S.1 S.2.1 dL_law_325 (by decide) ?_
    refine lv_goto (tgt := 330) S.1 S.2.1 dL_law_326 (by decide) ?_
    refine k_X9_pole S (S.2.2.2.2.wd wd861 rfl) hw hv [11] rfl (by decide) rfl ⟨rfl, rfl, Nat.le_of_ble_eq_true rfl, Nat.le_of_ble_eq_true rfl⟩ hl.1 (Nat.le_of_ble_eq_true rfl) dL_law_330 hcs (fun H locs hw => ?_)
    have hw : PW D A s.heap (LB cy o om x qm rr u.2 r g tc d tr gm ch v.2 (imL cy i0 ++ imL cy i1)) H locs := hw
    refine lv_icmp_eq (tgt := 1050) S.1 S.2.1 dL_law_333 (by decide) (fun _ => ?_) (fun h => absurd he h)
    exact K _ _ _ _ _ ⟨rr, u.2, r, g, tc, d, tr, gm, ch, v.2, i0, i1, hw, hV, hr0, hr1, hce, hsl⟩ hl
set_option maxHeartbeats 4000000 in
set_option maxRecDepth 100000 in
theorem lc_say (hC : cp_say) (S : CX p m c cL_law 4 s args RL D cy) (hX : SC A b L xs s) (hL : L ≤ 2560) {i : Nat} (hi : i + 4 < L) (h : LI D A s.heap cy o om x qm H locs cells slots) (hl : lv_has ls 4 [(0, .ref b), (1, .ref o), (2, .ref om), (3, .int (nI i))]) (K : ∀ (H : Heap) (locs : List Loc) (ls : Array Slot) (cells slots : Nat), LI D A s.heap cy o om x qm H locs cells slots → lv_has ls 4 [(0, .ref b), (1, .ref o), (2, .ref om), (3, .int (nI i))] → W p l e room_1 s m args below meth c H locs cells slots Q (F0 m 1050 ls [])) : W p l e room_1 s m args below meth c H locs cells slots Q (F0 m 338 ls []) := by
  obtain ⟨rr, cc, r, g, tc, d, tr, gm, ch, M, i0, i1, hw, hV, hr0, hr1, hce, hsl⟩ := h
  have hn0 := imN_le i0
  have hn1 := imN_le i1
  have hcs : cells ≤ room_1.cells ∧ slots ≤ room_1.slots := ⟨by rw [hce]; show _ ≤ 600000; omega, by rw [hsl]; show _ ≤ 7302250; omega⟩
  obtain ⟨u, v, hu, hv, he, hV⟩ := hC cc r g d (imS i0) (imS i1) M  (xs (i + 1)) hV 
  refine lv_aload_n S.1 S.2.1 dL_law_338 rfl (lv_at hl 1 rfl) ?_
  refine lv_aload_n S.1 S.2.1 dL_law_339 rfl (lv_at hl 0 rfl) ?_
  refine lv_iload_n S.1 S.2.1 dL_law_340 rfl (lv_at hl 3 rfl) ?_
  refine lv_iconst (v := 1) S.1 S.2.1 dL_law_341 (by decide) ?_
  refine lv_iadd S.1 S.2.1 dL_law_342 ?_
  refine w_sld (k := i + 1) S hw hX (by omega) hL (nI_add i 1) dL_law_343 ?_
  refine k_X8_say S (S.2.2.2.2.wd wd339 rfl) hw hu [0, 7] rfl (by decide) rfl ⟨rfl, rfl, Nat.le_of_ble_eq_true rfl, Nat.le_of_ble_eq_true rfl⟩ hl.1 (Nat.le_of_ble_eq_true rfl) dL_law_344 hcs (fun H locs hw => ?_)
  have hw : PW D A s.heap (LB cy o om x qm rr cc r g tc u.2 tr gm ch M (imL cy i0 ++ imL cy i1)) H locs := hw
  refine lv_aload_n S.1 S.2.1 dL_law_347 rfl (lv_at hl 2 rfl) ?_
  refine lv_aload_n S.1 S.2.1 dL_law_348 rfl (lv_at hl 0 rfl) ?_
  refine lv_iload_n S.1 S.2.1 dL_law_349 rfl (lv_at hl 3 rfl) ?_
  refine lv_iconst (v := 1) S.1 S.2.1 dL_law_350 (by decide) ?_
  refine lv_iadd S.1 S.2.1 dL_law_351 ?_
  refine w_sld (k := i + 1) S hw hX (by omega) hL (nI_add i 1) dL_law_352 ?_
  refine k_X9_say S (S.2.2.2.2.wd wd865 rfl) hw hv [11] rfl (by decide) rfl ⟨rfl, rfl, Nat.le_of_ble_eq_true rfl, Nat.le_of_ble_eq_true rfl⟩ hl.1 (Nat.le_of_ble_eq_true rfl) dL_law_353 hcs (fun H locs hw => ?_)
  have hw : PW D A s.heap (LB cy o om x qm rr cc r g tc u.2 tr gm ch v.2 (imL cy i0 ++ imL cy i1)) H locs := hw
  refine lv_icmp_eq (tgt := 1050) S.1 S.2.1 dL_law_356 (by decide) (fun _ => ?_) (fun h => absurd he h)
  exact K _ _ _ _ _ ⟨rr, cc, r, g, tc, u.2, tr, gm, ch, v.2, i0, i1, hw, hV, hr0, hr1, hce, hsl⟩ hl
set_option maxHeartbeats 4000000 in
set_option maxRecDepth 100000 in
theorem lc_wipe (hC : cp_wipe) (S : CX p m c cL_law 4 s args RL D cy) (hX : SC A b L xs s) (hL : L ≤ 2560) {i : Nat} (hi : i + 4 < L) (h : LI D A s.heap cy o om x qm H locs cells slots) (hl : lv_has ls 4 [(0, .ref b), (1, .ref o), (2, .ref om), (3, .int (nI i))]) (K : ∀ (H : Heap) (locs : List Loc) (ls : Array Slot) (cells slots : Nat), LI D A s.heap cy o om x qm H locs cells slots → lv_has ls 4 [(0, .ref b), (1, .ref o), (2, .ref om), (3, .int (nI i))] → W p l e room_1 s m args below meth c H locs cells slots Q (F0 m 1050 ls [])) : W p l e room_1 s m args below meth c H locs cells slots Q (F0 m 361 ls []) := by
  obtain ⟨rr, cc, r, g, tc, d, tr, gm, ch, M, i0, i1, hw, hV, hr0, hr1, hce, hsl⟩ := h
  have hn0 := imN_le i0
  have hn1 := imN_le i1
  have hcs : cells ≤ room_1.cells ∧ slots ≤ room_1.slots := ⟨by rw [hce]; show _ ≤ 600000; omega, by rw [hsl]; show _ ≤ 7302250; omega⟩
  obtain ⟨u, v, hu, hv, he, hV⟩ := hC cc r g d (imS i0) (imS i1) M   hV 
  refine lv_aload_n S.1 S.2.1 dL_law_361 rfl (lv_at hl 1 rfl) ?_
  refine k_X8_wipe S (S.2.2.2.2.wd wd347 rfl) hw hu [0, 7] rfl (by decide) rfl ⟨rfl, rfl, Nat.le_of_ble_eq_true rfl, Nat.le_of_ble_eq_true rfl⟩ hl.1 (Nat.le_of_ble_eq_true rfl) dL_law_362 hcs (fun H locs hw => ?_)
  have hw : PW D A s.heap (LB cy o om x qm rr cc r g tc u.2 tr gm ch M (imL cy i0 ++ imL cy i1)) H locs := hw
  refine lv_aload_n S.1 S.2.1 dL_law_365 rfl (lv_at hl 2 rfl) ?_
  refine k_X9_wipe S (S.2.2.2.2.wd wd871 rfl) hw hv [11] rfl (by decide) rfl ⟨rfl, rfl, Nat.le_of_ble_eq_true rfl, Nat.le_of_ble_eq_true rfl⟩ hl.1 (Nat.le_of_ble_eq_true rfl) dL_law_366 hcs (fun H locs hw => ?_)
  have hw : PW D A s.heap (LB cy o om x qm rr cc r g tc u.2 tr gm ch v.2 (imL cy i0 ++ imL cy i1)) H locs := hw
  refine lv_icmp_eq (tgt := 1050) S.1 S.2.1 dL_law_369 (by decide) (fun _ => ?_) (fun h => absurd he h)
  exact K _ _ _ _ _ ⟨rr, cc, r, g, tc, u.2, tr, gm, ch, v.2, i0, i1, hw, hV, hr0, hr1, hce, hsl⟩ hl
set_option maxHeartbeats 4000000 in
set_option maxRecDepth 100000 in
theorem lc_fault (hC : cp_fault) (S : CX p m c cL_law 4 s args RL D cy) (hX : SC A b L xs s) (hL : L ≤ 2560) {i : Nat} (hi : i + 4 < L) (h : LI D A s.heap cy o om x qm H locs cells slots) (hl : lv_has ls 4 [(0, .ref b), (1, .ref o), (2, .ref om), (3, .int (nI i))]) (K : ∀ (H : Heap) (locs : List Loc) (ls : Array Slot) (cells slots : Nat), LI D A s.heap cy o om x qm H locs cells slots → lv_has ls 4 [(0, .ref b), (1, .ref o), (2, .ref om), (3, .int (nI i))] → W p l e room_1 s m args below meth c H locs cells slots Q (F0 m 1050 ls [])) : W p l e room_1 s m args below meth c H locs cells slots Q (F0 m 374 ls []) := by
  obtain ⟨rr, cc, r, g, tc, d, tr, gm, ch, M, i0, i1, hw, hV, hr0, hr1, hce, hsl⟩ := h
  have hn0 := imN_le i0
  have hn1 := imN_le i1
  have hcs : cells ≤ room_1.cells ∧ slots ≤ room_1.slots := ⟨by rw [hce]; show _ ≤ 600000; omega, by rw [hsl]; show _ ≤ 7302250; omega⟩
  obtain ⟨u, v, hu, hv, he, hV⟩ := hC cc r g d (imS i0) (imS i1) M   hV 
  refine lv_aload_n S.1 S.2.1 dL_law_374 rfl (lv_at hl 1 rfl) ?_
  refine k_X8_fault S (S.2.2.2.2.wd wd351 rfl) hw hu [0, 7] rfl (by decide) rfl ⟨rfl, rfl, Nat.le_of_ble_eq_true rfl, Nat.le_of_ble_eq_true rfl⟩ hl.1 (Nat.le_of_ble_eq_true rfl) dL_law_375 hcs (fun H locs hw => ?_)
  have hw : PW D A s.heap (LB cy o om x qm rr cc r g tc u.2 tr gm ch M (imL cy i0 ++ imL cy i1)) H locs := hw
  refine lv_aload_n S.1 S.2.1 dL_law_378 rfl (lv_at hl 2 rfl) ?_
  refine k_X9_fault S (S.2.2.2.2.wd wd875 rfl) hw hv [11] rfl (by decide) rfl ⟨rfl, rfl, Nat.le_of_ble_eq_true rfl, Nat.le_of_ble_eq_true rfl⟩ hl.1 (Nat.le_of_ble_eq_true rfl) dL_law_379 hcs (fun H locs hw => ?_)
  have hw : PW D A s.heap (LB cy o om x qm rr cc r g tc u.2 tr gm ch v.2 (imL cy i0 ++ imL cy i1)) H locs := hw
  refine lv_icmp_eq (tgt := 1050) S.1 S.2.1 dL_law_382 (by decide) (fun _ => ?_) (fun h => absurd he h)
  exact K _ _ _ _ _ ⟨rr, cc, r, g, tc, u.2, tr, gm, ch, v.2, i0, i1, hw, hV, hr0, hr1, hce, hsl⟩ hl
set_option maxHeartbeats 4000000 in
set_option maxRecDepth 100000 in
theorem lc_judge (hC : cp_judge) (S : CX p m c cL_law 4 s args RL D cy) (hX : SC A b L xs s) (hL : L ≤ 2560) {i : Nat} (hi : i + 4 < L) (h : LI D A s.heap cy o om x qm H locs cells slots) (hl : lv_has ls 4 [(0, .ref b), (1, .ref o), (2, .ref om), (3, .int (nI i))]) (K : ∀ (H : Heap) (locs : List Loc) (ls : Array Slot) (cells slots : Nat), LI D A s.heap cy o om x qm H locs cells slots → lv_has ls 4 [(0, .ref b), (1, .ref o), (2, .ref om), (3, .int (nI i))] → W p l e room_1 s m args below meth c H locs cells slots Q (F0 m 1050 ls [])) : W p l e room_1 s m args below meth c H locs cells slots Q (F0 m 387 ls []) := by
  obtain ⟨rr, cc, r, g, tc, d, tr, gm, ch, M, i0, i1, hw, hV, hr0, hr1, hce, hsl⟩ := h
  have hn0 := imN_le i0
  have hn1 := imN_le i1
  have hcs : cells ≤ room_1.cells ∧ slots ≤ room_1.slots := ⟨by rw [hce]; show _ ≤ 600000; omega, by rw [hsl]; show _ ≤ 7302250; omega⟩
  obtain ⟨u, v, hu, hv, he, hV⟩ := hC cc r g d (imS i0) (imS i1) M tr tc (xs (i + 1)) hV 
  refine lv_aload_n S.1 S.2.1 dL_law_387 rfl (lv_at hl 1 rfl) ?_
  refine lv_aload_n S.1 S.2.1 dL_law_388 rfl (lv_at hl 0 rfl) ?_
  refine lv_iload_n S.1 S.2.1 dL_law_389 rfl (lv_at hl 3 rfl) ?_
  refine lv_iconst (v := 1) S.1 S.2.1 dL_law_390 (by decide) ?_
  refine lv_iadd S.1 S.2.1 dL_law_391 ?_
  refine w_sld (k := i + 1) S hw hX (by omega) hL (nI_add i 1) dL_law_392 ?_
  refine k_X8_judge S (S.2.2.2.2.wd wd387 rfl) hw hu [0, 8, 5, 1, 4, 7] rfl (by decide) rfl ⟨rfl, rfl, Nat.le_of_ble_eq_true rfl, Nat.le_of_ble_eq_true rfl⟩ hl.1 (Nat.le_of_ble_eq_true rfl) dL_law_393 hcs (fun H locs hw => ?_)
  have hw : PW D A s.heap (LB cy o om x qm rr cc r g u.2.2.1 u.2.2.2 u.2.1 gm ch M (imL cy i0 ++ imL cy i1)) H locs := hw
  refine lv_aload_n S.1 S.2.1 dL_law_396 rfl (lv_at hl 2 rfl) ?_
  refine lv_aload_n S.1 S.2.1 dL_law_397 rfl (lv_at hl 0 rfl) ?_
  refine lv_iload_n S.1 S.2.1 dL_law_398 rfl (lv_at hl 3 rfl) ?_
  refine lv_iconst (v := 1) S.1 S.2.1 dL_law_399 (by decide) ?_
  refine lv_iadd S.1 S.2.1 dL_law_400 ?_
  refine w_sld (k := i + 1) S hw hX (by omega) hL (nI_add i 1) dL_law_401 ?_
  refine k_X9_judge S (S.2.2.2.2.wd wd909 rfl) hw hv [11] rfl (by decide) rfl ⟨rfl, rfl, Nat.le_of_ble_eq_true rfl, Nat.le_of_ble_eq_true rfl⟩ hl.1 (Nat.le_of_ble_eq_true rfl) dL_law_402 hcs (fun H locs hw => ?_)
  have hw : PW D A s.heap (LB cy o om x qm rr cc r g u.2.2.1 u.2.2.2 u.2.1 gm ch v.2 (imL cy i0 ++ imL cy i1)) H locs := hw
  refine lv_icmp_eq (tgt := 1050) S.1 S.2.1 dL_law_405 (by decide) (fun _ => ?_) (fun h => absurd he h)
  exact K _ _ _ _ _ ⟨rr, cc, r, g, u.2.2.1, u.2.2.2, u.2.1, gm, ch, v.2, i0, i1, hw, hV, hr0, hr1, hce, hsl⟩ hl
set_option maxHeartbeats 4000000 in
set_option maxRecDepth 100000 in
theorem lc_behind (hC : cp_behind) (S : CX p m c cL_law 4 s args RL D cy) (hX : SC A b L xs s) (hL : L ≤ 2560) {i : Nat} (hi : i + 4 < L) (h : LI D A s.heap cy o om x qm H locs cells slots) (hl : lv_has ls 4 [(0, .ref b), (1, .ref o), (2, .ref om), (3, .int (nI i))]) (K : ∀ (H : Heap) (locs : List Loc) (ls : Array Slot) (cells slots : Nat), LI D A s.heap cy o om x qm H locs cells slots → lv_has ls 4 [(0, .ref b), (1, .ref o), (2, .ref om), (3, .int (nI i))] → W p l e room_1 s m args below meth c H locs cells slots Q (F0 m 1050 ls [])) : W p l e room_1 s m args below meth c H locs cells slots Q (F0 m 410 ls []) := by
  obtain ⟨rr, cc, r, g, tc, d, tr, gm, ch, M, i0, i1, hw, hV, hr0, hr1, hce, hsl⟩ := h
  have hn0 := imN_le i0
  have hn1 := imN_le i1
  have hcs : cells ≤ room_1.cells ∧ slots ≤ room_1.slots := ⟨by rw [hce]; show _ ≤ 600000; omega, by rw [hsl]; show _ ≤ 7302250; omega⟩
  obtain ⟨u, v, hu, hv, he, hV⟩ := hC cc r g d (imS i0) (imS i1) M tr tc (xs (i + 1)) (xs (i + 2)) hV 
  refine lv_aload_n S.1 S.2.1 dL_law_410 rfl (lv_at hl 1 rfl) ?_
  refine lv_aload_n S.1 S.2.1 dL_law_411 rfl (lv_at hl 0 rfl) ?_
  refine lv_iload_n S.1 S.2.1 dL_law_412 rfl (lv_at hl 3 rfl) ?_
  refine lv_iconst (v := 1) S.1 S.2.1 dL_law_413 (by decide) ?_
  refine lv_iadd S.1 S.2.1 dL_law_414 ?_
  refine w_sld (k := i + 1) S hw hX (by omega) hL (nI_add i 1) dL_law_415 ?_
  refine lv_aload_n S.1 S.2.1 dL_law_416 rfl (lv_at hl 0 rfl) ?_
  refine lv_iload_n S.1 S.2.1 dL_law_417 rfl (lv_at hl 3 rfl) ?_
  refine lv_iconst (v := 2) S.1 S.2.1 dL_law_418 (by decide) ?_
  refine lv_iadd S.1 S.2.1 dL_law_419 ?_
  refine w_sld (k := i + 2) S hw hX (by omega) hL (nI_add i 2) dL_law_420 ?_
  refine k_X8_behind S (S.2.2.2.2.wd wd453 rfl) hw hu [0, 8, 5, 1, 4, 7] rfl (by decide) rfl ⟨rfl, rfl, Nat.le_of_ble_eq_true rfl, Nat.le_of_ble_eq_true rfl⟩ hl.1 (Nat.le_of_ble_eq_true rfl) dL_law_421 hcs (fun H locs hw => ?_)
  have hw : PW D A s.heap (LB cy o om x qm rr cc r g u.2.2.1 u.2.2.2 u.2.1 gm ch M (imL cy i0 ++ imL cy i1)) H locs := hw
  refine lv_aload_n S.1 S.2.1 dL_law_424 rfl (lv_at hl 2 rfl) ?_
  refine lv_aload_n S.1 S.2.1 dL_law_425 rfl (lv_at hl 0 rfl) ?_
  refine lv_iload_n S.1 S.2.1 dL_law_426 rfl (lv_at hl 3 rfl) ?_
  refine lv_iconst (v := 1) S.1 S.2.1 dL_law_427 (by decide) ?_
  refine lv_iadd S.1 S.2.1 dL_law_428 ?_
  refine w_sld (k := i + 1) S hw hX (by omega) hL (nI_add i 1) dL_law_429 ?_
  refine lv_aload_n S.1 S.2.1 dL_law_430 rfl (lv_at hl 0 rfl) ?_
  refine lv_iload_n S.1 S.2.1 dL_law_431 rfl (lv_at hl 3 rfl) ?_
  refine lv_iconst (v := 2) S.1 S.2.1 dL_law_432 (by decide) ?_
  refine lv_iadd S.1 S.2.1 dL_law_433 ?_
  refine w_sld (k := i + 2) S hw hX (by omega) hL (nI_add i 2) dL_law_434 ?_
  refine k_X9_behind S (S.2.2.2.2.wd wd986 rfl) hw hv [11] rfl (by decide) rfl ⟨rfl, rfl, Nat.le_of_ble_eq_true rfl, Nat.le_of_ble_eq_true rfl⟩ hl.1 (Nat.le_of_ble_eq_true rfl) dL_law_435 hcs (fun H locs hw => ?_)
  have hw : PW D A s.heap (LB cy o om x qm rr cc r g u.2.2.1 u.2.2.2 u.2.1 gm ch v.2 (imL cy i0 ++ imL cy i1)) H locs := hw
  refine lv_icmp_eq (tgt := 1050) S.1 S.2.1 dL_law_438 (by decide) (fun _ => ?_) (fun h => absurd he h)
  exact K _ _ _ _ _ ⟨rr, cc, r, g, u.2.2.1, u.2.2.2, u.2.1, gm, ch, v.2, i0, i1, hw, hV, hr0, hr1, hce, hsl⟩ hl
set_option maxHeartbeats 4000000 in
set_option maxRecDepth 100000 in
theorem lc_lies (hC : cp_lies) (S : CX p m c cL_law 4 s args RL D cy) (hX : SC A b L xs s) (hL : L ≤ 2560) {i : Nat} (hi : i + 4 < L) (h : LI D A s.heap cy o om x qm H locs cells slots) (hl : lv_has ls 4 [(0, .ref b), (1, .ref o), (2, .ref om), (3, .int (nI i))]) (K : ∀ (H : Heap) (locs : List Loc) (ls : Array Slot) (cells slots : Nat), LI D A s.heap cy o om x qm H locs cells slots → lv_has ls 4 [(0, .ref b), (1, .ref o), (2, .ref om), (3, .int (nI i))] → W p l e room_1 s m args below meth c H locs cells slots Q (F0 m 1050 ls [])) : W p l e room_1 s m args below meth c H locs cells slots Q (F0 m 443 ls []) := by
  obtain ⟨rr, cc, r, g, tc, d, tr, gm, ch, M, i0, i1, hw, hV, hr0, hr1, hce, hsl⟩ := h
  have hn0 := imN_le i0
  have hn1 := imN_le i1
  have hcs : cells ≤ room_1.cells ∧ slots ≤ room_1.slots := ⟨by rw [hce]; show _ ≤ 600000; omega, by rw [hsl]; show _ ≤ 7302250; omega⟩
  obtain ⟨u, v, hu, hv, he, hV⟩ := hC cc r g d (imS i0) (imS i1) M tr tc (xs (i + 1)) (xs (i + 2)) hV 
  refine lv_aload_n S.1 S.2.1 dL_law_443 rfl (lv_at hl 1 rfl) ?_
  refine lv_aload_n S.1 S.2.1 dL_law_444 rfl (lv_at hl 0 rfl) ?_
  refine lv_iload_n S.1 S.2.1 dL_law_445 rfl (lv_at hl 3 rfl) ?_
  refine lv_iconst (v := 1) S.1 S.2.1 dL_law_446 (by decide) ?_
  refine lv_iadd S.1 S.2.1 dL_law_447 ?_
  refine w_sld (k := i + 1) S hw hX (by omega) hL (nI_add i 1) dL_law_448 ?_
  refine lv_aload_n S.1 S.2.1 dL_law_449 rfl (lv_at hl 0 rfl) ?_
  refine lv_iload_n S.1 S.2.1 dL_law_450 rfl (lv_at hl 3 rfl) ?_
  refine lv_iconst (v := 2) S.1 S.2.1 dL_law_451 (by decide) ?_
  refine lv_iadd S.1 S.2.1 dL_law_452 ?_
  refine w_sld (k := i + 2) S hw hX (by omega) hL (nI_add i 2) dL_law_453 ?_
  refine k_X8_lies S (S.2.2.2.2.wd wd465 rfl) hw hu [0, 8, 5, 1, 4, 7] rfl (by decide) rfl ⟨rfl, rfl, Nat.le_of_ble_eq_true rfl, Nat.le_of_ble_eq_true rfl⟩ hl.1 (Nat.le_of_ble_eq_true rfl) dL_law_454 hcs (fun H locs hw => ?_)
  have hw : PW D A s.heap (LB cy o om x qm rr cc r g u.2.2.1 u.2.2.2 u.2.1 gm ch M (imL cy i0 ++ imL cy i1)) H locs := hw
  refine lv_aload_n S.1 S.2.1 dL_law_457 rfl (lv_at hl 2 rfl) ?_
  refine lv_aload_n S.1 S.2.1 dL_law_458 rfl (lv_at hl 0 rfl) ?_
  refine lv_iload_n S.1 S.2.1 dL_law_459 rfl (lv_at hl 3 rfl) ?_
  refine lv_iconst (v := 1) S.1 S.2.1 dL_law_460 (by decide) ?_
  refine lv_iadd S.1 S.2.1 dL_law_461 ?_
  refine w_sld (k := i + 1) S hw hX (by omega) hL (nI_add i 1) dL_law_462 ?_
  refine lv_aload_n S.1 S.2.1 dL_law_463 rfl (lv_at hl 0 rfl) ?_
  refine lv_iload_n S.1 S.2.1 dL_law_464 rfl (lv_at hl 3 rfl) ?_
  refine lv_iconst (v := 2) S.1 S.2.1 dL_law_465 (by decide) ?_
  refine lv_iadd S.1 S.2.1 dL_law_466 ?_
  refine w_sld (k := i + 2) S hw hX (by omega) hL (nI_add i 2) dL_law_467 ?_
  refine k_X9_lies S (S.2.2.2.2.wd wd999 rfl) hw hv [11] rfl (by decide) rfl ⟨rfl, rfl, Nat.le_of_ble_eq_true rfl, Nat.le_of_ble_eq_true rfl⟩ hl.1 (Nat.le_of_ble_eq_true rfl) dL_law_468 hcs (fun H locs hw => ?_)
  have hw : PW D A s.heap (LB cy o om x qm rr cc r g u.2.2.1 u.2.2.2 u.2.1 gm ch v.2 (imL cy i0 ++ imL cy i1)) H locs := hw
  refine lv_icmp_eq (tgt := 1050) S.1 S.2.1 dL_law_471 (by decide) (fun _ => ?_) (fun h => absurd he h)
  exact K _ _ _ _ _ ⟨rr, cc, r, g, u.2.2.1, u.2.2.2, u.2.1, gm, ch, v.2, i0, i1, hw, hV, hr0, hr1, hce, hsl⟩ hl
set_option maxHeartbeats 4000000 in
set_option maxRecDepth 100000 in
theorem lc_there (hC : cp_there) (S : CX p m c cL_law 4 s args RL D cy) (hX : SC A b L xs s) (hL : L ≤ 2560) {i : Nat} (hi : i + 4 < L) (h : LI D A s.heap cy o om x qm H locs cells slots) (hl : lv_has ls 4 [(0, .ref b), (1, .ref o), (2, .ref om), (3, .int (nI i))]) (K : ∀ (H : Heap) (locs : List Loc) (ls : Array Slot) (cells slots : Nat), LI D A s.heap cy o om x qm H locs cells slots → lv_has ls 4 [(0, .ref b), (1, .ref o), (2, .ref om), (3, .int (nI i))] → W p l e room_1 s m args below meth c H locs cells slots Q (F0 m 1050 ls [])) : W p l e room_1 s m args below meth c H locs cells slots Q (F0 m 476 ls []) := by
  obtain ⟨rr, cc, r, g, tc, d, tr, gm, ch, M, i0, i1, hw, hV, hr0, hr1, hce, hsl⟩ := h
  have hn0 := imN_le i0
  have hn1 := imN_le i1
  have hcs : cells ≤ room_1.cells ∧ slots ≤ room_1.slots := ⟨by rw [hce]; show _ ≤ 600000; omega, by rw [hsl]; show _ ≤ 7302250; omega⟩
  obtain ⟨u, v, hu, hv, he, hV⟩ := hC cc r g d (imS i0) (imS i1) M tr tc (xs (i + 1)) hV 
  refine lv_aload_n S.1 S.2.1 dL_law_476 rfl (lv_at hl 1 rfl) ?_
  refine lv_aload_n S.1 S.2.1 dL_law_477 rfl (lv_at hl 0 rfl) ?_
  refine lv_iload_n S.1 S.2.1 dL_law_478 rfl (lv_at hl 3 rfl) ?_
  refine lv_iconst (v := 1) S.1 S.2.1 dL_law_479 (by decide) ?_
  refine lv_iadd S.1 S.2.1 dL_law_480 ?_
  refine w_sld (k := i + 1) S hw hX (by omega) hL (nI_add i 1) dL_law_481 ?_
  refine k_X8_there S (S.2.2.2.2.wd wd473 rfl) hw hu [0, 8, 5, 1, 4, 7] rfl (by decide) rfl ⟨rfl, rfl, Nat.le_of_ble_eq_true rfl, Nat.le_of_ble_eq_true rfl⟩ hl.1 (Nat.le_of_ble_eq_true rfl) dL_law_482 hcs (fun H locs hw => ?_)
  have hw : PW D A s.heap (LB cy o om x qm rr cc r g u.2.2.1 u.2.2.2 u.2.1 gm ch M (imL cy i0 ++ imL cy i1)) H locs := hw
  refine lv_aload_n S.1 S.2.1 dL_law_485 rfl (lv_at hl 2 rfl) ?_
  refine lv_aload_n S.1 S.2.1 dL_law_486 rfl (lv_at hl 0 rfl) ?_
  refine lv_iload_n S.1 S.2.1 dL_law_487 rfl (lv_at hl 3 rfl) ?_
  refine lv_iconst (v := 1) S.1 S.2.1 dL_law_488 (by decide) ?_
  refine lv_iadd S.1 S.2.1 dL_law_489 ?_
  refine w_sld (k := i + 1) S hw hX (by omega) hL (nI_add i 1) dL_law_490 ?_
  refine k_X9_there S (S.2.2.2.2.wd wd1003 rfl) hw hv [11] rfl (by decide) rfl ⟨rfl, rfl, Nat.le_of_ble_eq_true rfl, Nat.le_of_ble_eq_true rfl⟩ hl.1 (Nat.le_of_ble_eq_true rfl) dL_law_491 hcs (fun H locs hw => ?_)
  have hw : PW D A s.heap (LB cy o om x qm rr cc r g u.2.2.1 u.2.2.2 u.2.1 gm ch v.2 (imL cy i0 ++ imL cy i1)) H locs := hw
  refine lv_icmp_eq (tgt := 1050) S.1 S.2.1 dL_law_494 (by decide) (fun _ => ?_) (fun h => absurd he h)
  exact K _ _ _ _ _ ⟨rr, cc, r, g, u.2.2.1, u.2.2.2, u.2.1, gm, ch, v.2, i0, i1, hw, hV, hr0, hr1, hce, hsl⟩ hl
set_option maxHeartbeats 4000000 in
set_option maxRecDepth 100000 in
theorem lc_first (hC : cp_first) (S : CX p m c cL_law 4 s args RL D cy) (hX : SC A b L xs s) (hL : L ≤ 2560) {i : Nat} (hi : i + 4 < L) (h : LI D A s.heap cy o om x qm H locs cells slots) (hl : lv_has ls 4 [(0, .ref b), (1, .ref o), (2, .ref om), (3, .int (nI i))]) (K : ∀ (H : Heap) (locs : List Loc) (ls : Array Slot) (cells slots : Nat), LI D A s.heap cy o om x qm H locs cells slots → lv_has ls 4 [(0, .ref b), (1, .ref o), (2, .ref om), (3, .int (nI i))] → W p l e room_1 s m args below meth c H locs cells slots Q (F0 m 1050 ls [])) : W p l e room_1 s m args below meth c H locs cells slots Q (F0 m 499 ls []) := by
  obtain ⟨rr, cc, r, g, tc, d, tr, gm, ch, M, i0, i1, hw, hV, hr0, hr1, hce, hsl⟩ := h
  have hn0 := imN_le i0
  have hn1 := imN_le i1
  have hcs : cells ≤ room_1.cells ∧ slots ≤ room_1.slots := ⟨by rw [hce]; show _ ≤ 600000; omega, by rw [hsl]; show _ ≤ 7302250; omega⟩
  obtain ⟨u, v, hu, hv, he, hV⟩ := hC cc r g d (imS i0) (imS i1) M tr tc (xs (i + 1)) hV 
  refine lv_aload_n S.1 S.2.1 dL_law_499 rfl (lv_at hl 1 rfl) ?_
  refine lv_aload_n S.1 S.2.1 dL_law_500 rfl (lv_at hl 0 rfl) ?_
  refine lv_iload_n S.1 S.2.1 dL_law_501 rfl (lv_at hl 3 rfl) ?_
  refine lv_iconst (v := 1) S.1 S.2.1 dL_law_502 (by decide) ?_
  refine lv_iadd S.1 S.2.1 dL_law_503 ?_
  refine w_sld (k := i + 1) S hw hX (by omega) hL (nI_add i 1) dL_law_504 ?_
  refine k_X8_first S (S.2.2.2.2.wd wd481 rfl) hw hu [0, 8, 5, 1, 4, 7] rfl (by decide) rfl ⟨rfl, rfl, Nat.le_of_ble_eq_true rfl, Nat.le_of_ble_eq_true rfl⟩ hl.1 (Nat.le_of_ble_eq_true rfl) dL_law_505 hcs (fun H locs hw => ?_)
  have hw : PW D A s.heap (LB cy o om x qm rr cc r g u.2.2.1 u.2.2.2 u.2.1 gm ch M (imL cy i0 ++ imL cy i1)) H locs := hw
  refine lv_aload_n S.1 S.2.1 dL_law_508 rfl (lv_at hl 2 rfl) ?_
  refine lv_aload_n S.1 S.2.1 dL_law_509 rfl (lv_at hl 0 rfl) ?_
  refine lv_iload_n S.1 S.2.1 dL_law_510 rfl (lv_at hl 3 rfl) ?_
  refine lv_iconst (v := 1) S.1 S.2.1 dL_law_511 (by decide) ?_
  refine lv_iadd S.1 S.2.1 dL_law_512 ?_
  refine w_sld (k := i + 1) S hw hX (by omega) hL (nI_add i 1) dL_law_513 ?_
  refine k_X9_first S (S.2.2.2.2.wd wd1020 rfl) hw hv [11] rfl (by decide) rfl ⟨rfl, rfl, Nat.le_of_ble_eq_true rfl, Nat.le_of_ble_eq_true rfl⟩ hl.1 (Nat.le_of_ble_eq_true rfl) dL_law_514 hcs (fun H locs hw => ?_)
  have hw : PW D A s.heap (LB cy o om x qm rr cc r g u.2.2.1 u.2.2.2 u.2.1 gm ch v.2 (imL cy i0 ++ imL cy i1)) H locs := hw
  refine lv_icmp_eq (tgt := 1050) S.1 S.2.1 dL_law_517 (by decide) (fun _ => ?_) (fun h => absurd he h)
  exact K _ _ _ _ _ ⟨rr, cc, r, g, u.2.2.1, u.2.2.2, u.2.1, gm, ch, v.2, i0, i1, hw, hV, hr0, hr1, hce, hsl⟩ hl
set_option maxHeartbeats 4000000 in
set_option maxRecDepth 100000 in
theorem lc_done (hC : cp_done) (S : CX p m c cL_law 4 s args RL D cy) (hX : SC A b L xs s) (hL : L ≤ 2560) {i : Nat} (hi : i + 4 < L) (h : LI D A s.heap cy o om x qm H locs cells slots) (hl : lv_has ls 4 [(0, .ref b), (1, .ref o), (2, .ref om), (3, .int (nI i))]) (K : ∀ (H : Heap) (locs : List Loc) (ls : Array Slot) (cells slots : Nat), LI D A s.heap cy o om x qm H locs cells slots → lv_has ls 4 [(0, .ref b), (1, .ref o), (2, .ref om), (3, .int (nI i))] → W p l e room_1 s m args below meth c H locs cells slots Q (F0 m 1050 ls [])) : W p l e room_1 s m args below meth c H locs cells slots Q (F0 m 522 ls []) := by
  obtain ⟨rr, cc, r, g, tc, d, tr, gm, ch, M, i0, i1, hw, hV, hr0, hr1, hce, hsl⟩ := h
  have hn0 := imN_le i0
  have hn1 := imN_le i1
  have hcs : cells ≤ room_1.cells ∧ slots ≤ room_1.slots := ⟨by rw [hce]; show _ ≤ 600000; omega, by rw [hsl]; show _ ≤ 7302250; omega⟩
  obtain ⟨u, v, hu, hv, he, hV⟩ := hC cc r g d (imS i0) (imS i1) M tr tc  hV 
  refine lv_aload_n S.1 S.2.1 dL_law_522 rfl (lv_at hl 1 rfl) ?_
  refine k_X8_done S (S.2.2.2.2.wd wd485 rfl) hw hu [0, 8, 5, 1, 4, 7] rfl (by decide) rfl ⟨rfl, rfl, Nat.le_of_ble_eq_true rfl, Nat.le_of_ble_eq_true rfl⟩ hl.1 (Nat.le_of_ble_eq_true rfl) dL_law_523 hcs (fun H locs hw => ?_)
  have hw : PW D A s.heap (LB cy o om x qm rr u.2.2.1 r g u.2.2.2.1 u.2.2.2.2 u.2.1 gm ch M (imL cy i0 ++ imL cy i1)) H locs := hw
  refine lv_aload_n S.1 S.2.1 dL_law_526 rfl (lv_at hl 2 rfl) ?_
  refine k_X9_done S (S.2.2.2.2.wd wd1024 rfl) hw hv [11] rfl (by decide) rfl ⟨rfl, rfl, Nat.le_of_ble_eq_true rfl, Nat.le_of_ble_eq_true rfl⟩ hl.1 (Nat.le_of_ble_eq_true rfl) dL_law_527 hcs (fun H locs hw => ?_)
  have hw : PW D A s.heap (LB cy o om x qm rr u.2.2.1 r g u.2.2.2.1 u.2.2.2.2 u.2.1 gm ch v.2 (imL cy i0 ++ imL cy i1)) H locs := hw
  refine lv_icmp_eq (tgt := 1050) S.1 S.2.1 dL_law_530 (by decide) (fun _ => ?_) (fun h => absurd he h)
  exact K _ _ _ _ _ ⟨rr, u.2.2.1, r, g, u.2.2.2.1, u.2.2.2.2, u.2.1, gm, ch, v.2, i0, i1, hw, hV, hr0, hr1, hce, hsl⟩ hl
set_option maxHeartbeats 4000000 in
set_option maxRecDepth 100000 in
theorem lc_join (hC : cp_join) (S : CX p m c cL_law 4 s args RL D cy) (hX : SC A b L xs s) (hL : L ≤ 2560) {i : Nat} (hi : i + 4 < L) (h : LI D A s.heap cy o om x qm H locs cells slots) (hl : lv_has ls 4 [(0, .ref b), (1, .ref o), (2, .ref om), (3, .int (nI i))]) (K : ∀ (H : Heap) (locs : List Loc) (ls : Array Slot) (cells slots : Nat), LI D A s.heap cy o om x qm H locs cells slots → lv_has ls 4 [(0, .ref b), (1, .ref o), (2, .ref om), (3, .int (nI i))] → W p l e room_1 s m args below meth c H locs cells slots Q (F0 m 1050 ls [])) : W p l e room_1 s m args below meth c H locs cells slots Q (F0 m 535 ls []) := by
  obtain ⟨rr, cc, r, g, tc, d, tr, gm, ch, M, i0, i1, hw, hV, hr0, hr1, hce, hsl⟩ := h
  have hn0 := imN_le i0
  have hn1 := imN_le i1
  have hcs : cells ≤ room_1.cells ∧ slots ≤ room_1.slots := ⟨by rw [hce]; show _ ≤ 600000; omega, by rw [hsl]; show _ ≤ 7302250; omega⟩
  obtain ⟨u, v, hu, hv, he, hV⟩ := hC cc r g d (imS i0) (imS i1) M  (xs (i + 1)) (xs (i + 2)) hV 
  refine lv_aload_n S.1 S.2.1 dL_law_535 rfl (lv_at hl 1 rfl) ?_
  refine lv_aload_n S.1 S.2.1 dL_law_536 rfl (lv_at hl 0 rfl) ?_
  refine lv_iload_n S.1 S.2.1 dL_law_537 rfl (lv_at hl 3 rfl) ?_
  refine lv_iconst (v := 1) S.1 S.2.1 dL_law_538 (by decide) ?_
  refine lv_iadd S.1 S.2.1 dL_law_539 ?_
  refine w_sld (k := i + 1) S hw hX (by omega) hL (nI_add i 1) dL_law_540 ?_
  refine lv_aload_n S.1 S.2.1 dL_law_541 rfl (lv_at hl 0 rfl) ?_
  refine lv_iload_n S.1 S.2.1 dL_law_542 rfl (lv_at hl 3 rfl) ?_
  refine lv_iconst (v := 2) S.1 S.2.1 dL_law_543 (by decide) ?_
  refine lv_iadd S.1 S.2.1 dL_law_544 ?_
  refine w_sld (k := i + 2) S hw hX (by omega) hL (nI_add i 2) dL_law_545 ?_
  refine k_X8_join S (S.2.2.2.2.wd wd490 rfl) hw hu [0, 5, 1] rfl (by decide) rfl ⟨rfl, rfl, Nat.le_of_ble_eq_true rfl, Nat.le_of_ble_eq_true rfl⟩ hl.1 (Nat.le_of_ble_eq_true rfl) dL_law_546 hcs (fun H locs hw => ?_)
  have hw : PW D A s.heap (LB cy o om x qm rr cc r g tc d tr gm ch M (imL cy i0 ++ imL cy i1)) H locs := hw
  refine lv_aload_n S.1 S.2.1 dL_law_549 rfl (lv_at hl 2 rfl) ?_
  refine lv_aload_n S.1 S.2.1 dL_law_550 rfl (lv_at hl 0 rfl) ?_
  refine lv_iload_n S.1 S.2.1 dL_law_551 rfl (lv_at hl 3 rfl) ?_
  refine lv_iconst (v := 1) S.1 S.2.1 dL_law_552 (by decide) ?_
  refine lv_iadd S.1 S.2.1 dL_law_553 ?_
  refine w_sld (k := i + 1) S hw hX (by omega) hL (nI_add i 1) dL_law_554 ?_
  refine lv_aload_n S.1 S.2.1 dL_law_555 rfl (lv_at hl 0 rfl) ?_
  refine lv_iload_n S.1 S.2.1 dL_law_556 rfl (lv_at hl 3 rfl) ?_
  refine lv_iconst (v := 2) S.1 S.2.1 dL_law_557 (by decide) ?_
  refine lv_iadd S.1 S.2.1 dL_law_558 ?_
  refine w_sld (k := i + 2) S hw hX (by omega) hL (nI_add i 2) dL_law_559 ?_
  refine k_X9_join S (S.2.2.2.2.wd wd1028 rfl) hw hv [11] rfl (by decide) rfl ⟨rfl, rfl, Nat.le_of_ble_eq_true rfl, Nat.le_of_ble_eq_true rfl⟩ hl.1 (Nat.le_of_ble_eq_true rfl) dL_law_560 hcs (fun H locs hw => ?_)
  have hw : PW D A s.heap (LB cy o om x qm rr cc r g tc d tr gm ch M (imL cy i0 ++ imL cy i1)) H locs := hw
  refine lv_icmp_eq (tgt := 1050) S.1 S.2.1 dL_law_563 (by decide) (fun _ => ?_) (fun h => absurd he h)
  exact K _ _ _ _ _ ⟨rr, cc, r, g, tc, d, tr, gm, ch, M, i0, i1, hw, hV, hr0, hr1, hce, hsl⟩ hl
set_option maxHeartbeats 4000000 in
set_option maxRecDepth 100000 in
theorem lc_cut (hC : cp_cut) (S : CX p m c cL_law 4 s args RL D cy) (hX : SC A b L xs s) (hL : L ≤ 2560) {i : Nat} (hi : i + 4 < L) (h : LI D A s.heap cy o om x qm H locs cells slots) (hl : lv_has ls 4 [(0, .ref b), (1, .ref o), (2, .ref om), (3, .int (nI i))]) (K : ∀ (H : Heap) (locs : List Loc) (ls : Array Slot) (cells slots : Nat), LI D A s.heap cy o om x qm H locs cells slots → lv_has ls 4 [(0, .ref b), (1, .ref o), (2, .ref om), (3, .int (nI i))] → W p l e room_1 s m args below meth c H locs cells slots Q (F0 m 1050 ls [])) : W p l e room_1 s m args below meth c H locs cells slots Q (F0 m 568 ls []) := by
  obtain ⟨rr, cc, r, g, tc, d, tr, gm, ch, M, i0, i1, hw, hV, hr0, hr1, hce, hsl⟩ := h
  have hn0 := imN_le i0
  have hn1 := imN_le i1
  have hcs : cells ≤ room_1.cells ∧ slots ≤ room_1.slots := ⟨by rw [hce]; show _ ≤ 600000; omega, by rw [hsl]; show _ ≤ 7302250; omega⟩
  obtain ⟨u, v, hu, hv, he, hV⟩ := hC cc r g d (imS i0) (imS i1) M  (xs (i + 1)) (xs (i + 2)) (xs (i + 3)) hV 
  refine lv_aload_n S.1 S.2.1 dL_law_568 rfl (lv_at hl 1 rfl) ?_
  refine lv_aload_n S.1 S.2.1 dL_law_569 rfl (lv_at hl 0 rfl) ?_
  refine lv_iload_n S.1 S.2.1 dL_law_570 rfl (lv_at hl 3 rfl) ?_
  refine lv_iconst (v := 1) S.1 S.2.1 dL_law_571 (by decide) ?_
  refine lv_iadd S.1 S.2.1 dL_law_572 ?_
  refine w_sld (k := i + 1) S hw hX (by omega) hL (nI_add i 1) dL_law_573 ?_
  refine lv_aload_n S.1 S.2.1 dL_law_574 rfl (lv_at hl 0 rfl) ?_
  refine lv_iload_n S.1 S.2.1 dL_law_575 rfl (lv_at hl 3 rfl) ?_
  refine lv_iconst (v := 2) S.1 S.2.1 dL_law_576 (by decide) ?_
  refine lv_iadd S.1 S.2.1 dL_law_577 ?_
  refine w_sld (k := i + 2) S hw hX (by omega) hL (nI_add i 2) dL_law_578 ?_
  refine lv_aload_n S.1 S.2.1 dL_law_579 rfl (lv_at hl 0 rfl) ?_
  refine lv_iload_n S.1 S.2.1 dL_law_580 rfl (lv_at hl 3 rfl) ?_
  refine lv_iconst (v := 3) S.1 S.2.1 dL_law_581 (by decide) ?_
  refine lv_iadd S.1 S.2.1 dL_law_582 ?_
  refine w_sld (k := i + 3) S hw hX (by omega) hL (nI_add i 3) dL_law_583 ?_
  refine k_X8_cut S (S.2.2.2.2.wd wd502 rfl) hw hu [0, 5, 1] rfl (by decide) rfl ⟨rfl, rfl, Nat.le_of_ble_eq_true rfl, Nat.le_of_ble_eq_true rfl⟩ hl.1 (Nat.le_of_ble_eq_true rfl) dL_law_584 hcs (fun H locs hw => ?_)
  have hw : PW D A s.heap (LB cy o om x qm rr cc r g tc d tr gm ch M (imL cy i0 ++ imL cy i1)) H locs := hw
  refine lv_aload_n S.1 S.2.1 dL_law_587 rfl (lv_at hl 2 rfl) ?_
  refine lv_aload_n S.1 S.2.1 dL_law_588 rfl (lv_at hl 0 rfl) ?_
  refine lv_iload_n S.1 S.2.1 dL_law_589 rfl (lv_at hl 3 rfl) ?_
  refine lv_iconst (v := 1) S.1 S.2.1 dL_law_590 (by decide) ?_
  refine lv_iadd S.1 S.2.1 dL_law_591 ?_
  refine w_sld (k := i + 1) S hw hX (by omega) hL (nI_add i 1) dL_law_592 ?_
  refine lv_aload_n S.1 S.2.1 dL_law_593 rfl (lv_at hl 0 rfl) ?_
  refine lv_iload_n S.1 S.2.1 dL_law_594 rfl (lv_at hl 3 rfl) ?_
  refine lv_iconst (v := 2) S.1 S.2.1 dL_law_595 (by decide) ?_
  refine lv_iadd S.1 S.2.1 dL_law_596 ?_
  refine w_sld (k := i + 2) S hw hX (by omega) hL (nI_add i 2) dL_law_597 ?_
  refine lv_aload_n S.1 S.2.1 dL_law_598 rfl (lv_at hl 0 rfl) ?_
  refine lv_iload_n S.1 S.2.1 dL_law_599 rfl (lv_at hl 3 rfl) ?_
  refine lv_iconst (v := 3) S.1 S.2.1 dL_law_600 (by decide) ?_
  refine lv_iadd S.1 S.2.1 dL_law_601 ?_
  refine w_sld (k := i + 3) S hw hX (by omega) hL (nI_add i 3) dL_law_602 ?_
  refine k_X9_cut S (S.2.2.2.2.wd wd1036 rfl) hw hv [11] rfl (by decide) rfl ⟨rfl, rfl, Nat.le_of_ble_eq_true rfl, Nat.le_of_ble_eq_true rfl⟩ hl.1 (Nat.le_of_ble_eq_true rfl) dL_law_603 hcs (fun H locs hw => ?_)
  have hw : PW D A s.heap (LB cy o om x qm rr cc r g tc d tr gm ch M (imL cy i0 ++ imL cy i1)) H locs := hw
  refine lv_icmp_eq (tgt := 1050) S.1 S.2.1 dL_law_606 (by decide) (fun _ => ?_) (fun h => absurd he h)
  exact K _ _ _ _ _ ⟨rr, cc, r, g, tc, d, tr, gm, ch, M, i0, i1, hw, hV, hr0, hr1, hce, hsl⟩ hl
set_option maxHeartbeats 4000000 in
set_option maxRecDepth 100000 in
theorem lc_rule (hC : cp_rule) (S : CX p m c cL_law 4 s args RL D cy) (hX : SC A b L xs s) (hL : L ≤ 2560) {i : Nat} (hi : i + 4 < L) (h : LI D A s.heap cy o om x qm H locs cells slots) (hl : lv_has ls 4 [(0, .ref b), (1, .ref o), (2, .ref om), (3, .int (nI i))]) (K : ∀ (H : Heap) (locs : List Loc) (ls : Array Slot) (cells slots : Nat), LI D A s.heap cy o om x qm H locs cells slots → lv_has ls 4 [(0, .ref b), (1, .ref o), (2, .ref om), (3, .int (nI i))] → W p l e room_1 s m args below meth c H locs cells slots Q (F0 m 1050 ls [])) : W p l e room_1 s m args below meth c H locs cells slots Q (F0 m 611 ls []) := by
  obtain ⟨rr, cc, r, g, tc, d, tr, gm, ch, M, i0, i1, hw, hV, hr0, hr1, hce, hsl⟩ := h
  have hn0 := imN_le i0
  have hn1 := imN_le i1
  have hcs : cells ≤ room_1.cells ∧ slots ≤ room_1.slots := ⟨by rw [hce]; show _ ≤ 600000; omega, by rw [hsl]; show _ ≤ 7302250; omega⟩
  obtain ⟨u, v, hu, hv, he, hV⟩ := hC cc r g d (imS i0) (imS i1) M  (xs (i + 1)) (xs (i + 2)) (xs (i + 3)) hV 
  refine lv_aload_n S.1 S.2.1 dL_law_611 rfl (lv_at hl 1 rfl) ?_
  refine lv_aload_n S.1 S.2.1 dL_law_612 rfl (lv_at hl 0 rfl) ?_
  refine lv_iload_n S.1 S.2.1 dL_law_613 rfl (lv_at hl 3 rfl) ?_
  refine lv_iconst (v := 1) S.1 S.2.1 dL_law_614 (by decide) ?_
  refine lv_iadd S.1 S.2.1 dL_law_615 ?_
  refine w_sld (k := i + 1) S hw hX (by omega) hL (nI_add i 1) dL_law_616 ?_
  refine lv_aload_n S.1 S.2.1 dL_law_617 rfl (lv_at hl 0 rfl) ?_
  refine lv_iload_n S.1 S.2.1 dL_law_618 rfl (lv_at hl 3 rfl) ?_
  refine lv_iconst (v := 2) S.1 S.2.1 dL_law_619 (by decide) ?_
  refine lv_iadd S.1 S.2.1 dL_law_620 ?_
  refine w_sld (k := i + 2) S hw hX (by omega) hL (nI_add i 2) dL_law_621 ?_
  refine lv_aload_n S.1 S.2.1 dL_law_622 rfl (lv_at hl 0 rfl) ?_
  refine lv_iload_n S.1 S.2.1 dL_law_623 rfl (lv_at hl 3 rfl) ?_
  refine lv_iconst (v := 3) S.1 S.2.1 dL_law_624 (by decide) ?_
  refine lv_iadd S.1 S.2.1 dL_law_625 ?_
  refine w_sld (k := i + 3) S hw hX (by omega) hL (nI_add i 3) dL_law_626 ?_
  refine k_X8_rule S (S.2.2.2.2.wd wd515 rfl) hw hu [0, 5, 2] rfl (by decide) rfl ⟨rfl, rfl, Nat.le_of_ble_eq_true rfl, Nat.le_of_ble_eq_true rfl⟩ hl.1 (Nat.le_of_ble_eq_true rfl) dL_law_627 hcs (fun H locs hw => ?_)
  have hw : PW D A s.heap (LB cy o om x qm rr cc u.2 g tc d tr gm ch M (imL cy i0 ++ imL cy i1)) H locs := hw
  refine lv_aload_n S.1 S.2.1 dL_law_630 rfl (lv_at hl 2 rfl) ?_
  refine lv_aload_n S.1 S.2.1 dL_law_631 rfl (lv_at hl 0 rfl) ?_
  refine lv_iload_n S.1 S.2.1 dL_law_632 rfl (lv_at hl 3 rfl) ?_
  refine lv_iconst (v := 1) S.1 S.2.1 dL_law_633 (by decide) ?_
  refine lv_iadd S.1 S.2.1 dL_law_634 ?_
  refine w_sld (k := i + 1) S hw hX (by omega) hL (nI_add i 1) dL_law_635 ?_
  refine lv_aload_n S.1 S.2.1 dL_law_636 rfl (lv_at hl 0 rfl) ?_
  refine lv_iload_n S.1 S.2.1 dL_law_637 rfl (lv_at hl 3 rfl) ?_
  refine lv_iconst (v := 2) S.1 S.2.1 dL_law_638 (by decide) ?_
  refine lv_iadd S.1 S.2.1 dL_law_639 ?_
  refine w_sld (k := i + 2) S hw hX (by omega) hL (nI_add i 2) dL_law_640 ?_
  refine lv_aload_n S.1 S.2.1 dL_law_641 rfl (lv_at hl 0 rfl) ?_
  refine lv_iload_n S.1 S.2.1 dL_law_642 rfl (lv_at hl 3 rfl) ?_
  refine lv_iconst (v := 3) S.1 S.2.1 dL_law_643 (by decide) ?_
  refine lv_iadd S.1 S.2.1 dL_law_644 ?_
  refine w_sld (k := i + 3) S hw hX (by omega) hL (nI_add i 3) dL_law_645 ?_
  refine k_X9_rule S (S.2.2.2.2.wd wd1044 rfl) hw hv [11] rfl (by decide) rfl ⟨rfl, rfl, Nat.le_of_ble_eq_true rfl, Nat.le_of_ble_eq_true rfl⟩ hl.1 (Nat.le_of_ble_eq_true rfl) dL_law_646 hcs (fun H locs hw => ?_)
  have hw : PW D A s.heap (LB cy o om x qm rr cc u.2 g tc d tr gm ch v.2 (imL cy i0 ++ imL cy i1)) H locs := hw
  refine lv_icmp_eq (tgt := 1050) S.1 S.2.1 dL_law_649 (by decide) (fun _ => ?_) (fun h => absurd he h)
  exact K _ _ _ _ _ ⟨rr, cc, u.2, g, tc, d, tr, gm, ch, v.2, i0, i1, hw, hV, hr0, hr1, hce, hsl⟩ hl
set_option maxHeartbeats 4000000 in
set_option maxRecDepth 100000 in
theorem lc_unrule (hC : cp_unrule) (S : CX p m c cL_law 4 s args RL D cy) (hX : SC A b L xs s) (hL : L ≤ 2560) {i : Nat} (hi : i + 4 < L) (h : LI D A s.heap cy o om x qm H locs cells slots) (hl : lv_has ls 4 [(0, .ref b), (1, .ref o), (2, .ref om), (3, .int (nI i))]) (K : ∀ (H : Heap) (locs : List Loc) (ls : Array Slot) (cells slots : Nat), LI D A s.heap cy o om x qm H locs cells slots → lv_has ls 4 [(0, .ref b), (1, .ref o), (2, .ref om), (3, .int (nI i))] → W p l e room_1 s m args below meth c H locs cells slots Q (F0 m 1050 ls [])) : W p l e room_1 s m args below meth c H locs cells slots Q (F0 m 654 ls []) := by
  obtain ⟨rr, cc, r, g, tc, d, tr, gm, ch, M, i0, i1, hw, hV, hr0, hr1, hce, hsl⟩ := h
  have hn0 := imN_le i0
  have hn1 := imN_le i1
  have hcs : cells ≤ room_1.cells ∧ slots ≤ room_1.slots := ⟨by rw [hce]; show _ ≤ 600000; omega, by rw [hsl]; show _ ≤ 7302250; omega⟩
  obtain ⟨u, v, hu, hv, he, hV⟩ := hC cc r g d (imS i0) (imS i1) M   hV 
  refine lv_aload_n S.1 S.2.1 dL_law_654 rfl (lv_at hl 1 rfl) ?_
  refine k_X8_unrule S (S.2.2.2.2.wd wd526 rfl) hw hu [0, 5, 2] rfl (by decide) rfl ⟨rfl, rfl, Nat.le_of_ble_eq_true rfl, Nat.le_of_ble_eq_true rfl⟩ hl.1 (Nat.le_of_ble_eq_true rfl) dL_law_655 hcs (fun H locs hw => ?_)
  have hw : PW D A s.heap (LB cy o om x qm rr cc u.2 g tc d tr gm ch M (imL cy i0 ++ imL cy i1)) H locs := hw
  refine lv_aload_n S.1 S.2.1 dL_law_658 rfl (lv_at hl 2 rfl) ?_
  refine k_X9_unrule S (S.2.2.2.2.wd wd1048 rfl) hw hv [11] rfl (by decide) rfl ⟨rfl, rfl, Nat.le_of_ble_eq_true rfl, Nat.le_of_ble_eq_true rfl⟩ hl.1 (Nat.le_of_ble_eq_true rfl) dL_law_659 hcs (fun H locs hw => ?_)
  have hw : PW D A s.heap (LB cy o om x qm rr cc u.2 g tc d tr gm ch v.2 (imL cy i0 ++ imL cy i1)) H locs := hw
  refine lv_icmp_eq (tgt := 1050) S.1 S.2.1 dL_law_662 (by decide) (fun _ => ?_) (fun h => absurd he h)
  exact K _ _ _ _ _ ⟨rr, cc, u.2, g, tc, d, tr, gm, ch, v.2, i0, i1, hw, hV, hr0, hr1, hce, hsl⟩ hl
set_option maxHeartbeats 4000000 in
set_option maxRecDepth 100000 in
theorem lc_close (hC : cp_close) (S : CX p m c cL_law 4 s args RL D cy) (hX : SC A b L xs s) (hL : L ≤ 2560) {i : Nat} (hi : i + 4 < L) (h : LI D A s.heap cy o om x qm H locs cells slots) (hl : lv_has ls 4 [(0, .ref b), (1, .ref o), (2, .ref om), (3, .int (nI i))]) (K : ∀ (H : Heap) (locs : List Loc) (ls : Array Slot) (cells slots : Nat), LI D A s.heap cy o om x qm H locs cells slots → lv_has ls 4 [(0, .ref b), (1, .ref o), (2, .ref om), (3, .int (nI i))] → W p l e room_1 s m args below meth c H locs cells slots Q (F0 m 1050 ls [])) : W p l e room_1 s m args below meth c H locs cells slots Q (F0 m 667 ls []) := by
  obtain ⟨rr, cc, r, g, tc, d, tr, gm, ch, M, i0, i1, hw, hV, hr0, hr1, hce, hsl⟩ := h
  have hn0 := imN_le i0
  have hn1 := imN_le i1
  have hcs : cells ≤ room_1.cells ∧ slots ≤ room_1.slots := ⟨by rw [hce]; show _ ≤ 600000; omega, by rw [hsl]; show _ ≤ 7302250; omega⟩
  obtain ⟨u, v, hu, hv, he, hV⟩ := hC cc r g d (imS i0) (imS i1) M  (xs (i + 1)) hV 
  refine lv_aload_n S.1 S.2.1 dL_law_667 rfl (lv_at hl 1 rfl) ?_
  refine lv_aload_n S.1 S.2.1 dL_law_668 rfl (lv_at hl 0 rfl) ?_
  refine lv_iload_n S.1 S.2.1 dL_law_669 rfl (lv_at hl 3 rfl) ?_
  refine lv_iconst (v := 1) S.1 S.2.1 dL_law_670 (by decide) ?_
  refine lv_iadd S.1 S.2.1 dL_law_671 ?_
  refine w_sld (k := i + 1) S hw hX (by omega) hL (nI_add i 1) dL_law_672 ?_
  refine k_X8_close S (S.2.2.2.2.wd wd530 rfl) hw hu [0, 5, 2] rfl (by decide) rfl ⟨rfl, rfl, Nat.le_of_ble_eq_true rfl, Nat.le_of_ble_eq_true rfl⟩ hl.1 (Nat.le_of_ble_eq_true rfl) dL_law_673 hcs (fun H locs hw => ?_)
  have hw : PW D A s.heap (LB cy o om x qm rr cc r g tc d tr gm ch M (imL cy i0 ++ imL cy i1)) H locs := hw
  refine lv_aload_n S.1 S.2.1 dL_law_676 rfl (lv_at hl 2 rfl) ?_
  refine lv_aload_n S.1 S.2.1 dL_law_677 rfl (lv_at hl 0 rfl) ?_
  refine lv_iload_n S.1 S.2.1 dL_law_678 rfl (lv_at hl 3 rfl) ?_
  refine lv_iconst (v := 1) S.1 S.2.1 dL_law_679 (by decide) ?_
  refine lv_iadd S.1 S.2.1 dL_law_680 ?_
  refine w_sld (k := i + 1) S hw hX (by omega) hL (nI_add i 1) dL_law_681 ?_
  refine k_X9_close S (S.2.2.2.2.wd wd1052 rfl) hw hv [11] rfl (by decide) rfl ⟨rfl, rfl, Nat.le_of_ble_eq_true rfl, Nat.le_of_ble_eq_true rfl⟩ hl.1 (Nat.le_of_ble_eq_true rfl) dL_law_682 hcs (fun H locs hw => ?_)
  have hw : PW D A s.heap (LB cy o om x qm rr cc r g tc d tr gm ch M (imL cy i0 ++ imL cy i1)) H locs := hw
  refine lv_icmp_eq (tgt := 1050) S.1 S.2.1 dL_law_685 (by decide) (fun _ => ?_) (fun h => absurd he h)
  exact K _ _ _ _ _ ⟨rr, cc, r, g, tc, d, tr, gm, ch, M, i0, i1, hw, hV, hr0, hr1, hce, hsl⟩ hl
set_option maxHeartbeats 4000000 in
set_option maxRecDepth 100000 in
theorem lc_least (hC : cp_least) (S : CX p m c cL_law 4 s args RL D cy) (hX : SC A b L xs s) (hL : L ≤ 2560) {i : Nat} (hi : i + 4 < L) (h : LI D A s.heap cy o om x qm H locs cells slots) (hl : lv_has ls 4 [(0, .ref b), (1, .ref o), (2, .ref om), (3, .int (nI i))]) (K : ∀ (H : Heap) (locs : List Loc) (ls : Array Slot) (cells slots : Nat), LI D A s.heap cy o om x qm H locs cells slots → lv_has ls 4 [(0, .ref b), (1, .ref o), (2, .ref om), (3, .int (nI i))] → W p l e room_1 s m args below meth c H locs cells slots Q (F0 m 1050 ls [])) : W p l e room_1 s m args below meth c H locs cells slots Q (F0 m 690 ls []) := by
  obtain ⟨rr, cc, r, g, tc, d, tr, gm, ch, M, i0, i1, hw, hV, hr0, hr1, hce, hsl⟩ := h
  have hn0 := imN_le i0
  have hn1 := imN_le i1
  have hcs : cells ≤ room_1.cells ∧ slots ≤ room_1.slots := ⟨by rw [hce]; show _ ≤ 600000; omega, by rw [hsl]; show _ ≤ 7302250; omega⟩
  obtain ⟨u, v, hu, hv, he, hV⟩ := hC cc r g d (imS i0) (imS i1) M  (xs (i + 1)) (xs (i + 2)) hV 
  refine lv_aload_n S.1 S.2.1 dL_law_690 rfl (lv_at hl 1 rfl) ?_
  refine lv_aload_n S.1 S.2.1 dL_law_691 rfl (lv_at hl 0 rfl) ?_
  refine lv_iload_n S.1 S.2.1 dL_law_692 rfl (lv_at hl 3 rfl) ?_
  refine lv_iconst (v := 1) S.1 S.2.1 dL_law_693 (by decide) ?_
  refine lv_iadd S.1 S.2.1 dL_law_694 ?_
  refine w_sld (k := i + 1) S hw hX (by omega) hL (nI_add i 1) dL_law_695 ?_
  refine lv_aload_n S.1 S.2.1 dL_law_696 rfl (lv_at hl 0 rfl) ?_
  refine lv_iload_n S.1 S.2.1 dL_law_697 rfl (lv_at hl 3 rfl) ?_
  refine lv_iconst (v := 2) S.1 S.2.1 dL_law_698 (by decide) ?_
  refine lv_iadd S.1 S.2.1 dL_law_699 ?_
  refine w_sld (k := i + 2) S hw hX (by omega) hL (nI_add i 2) dL_law_700 ?_
  refine k_X8_least S (S.2.2.2.2.wd wd538 rfl) hw hu [0, 5, 2] rfl (by decide) rfl ⟨rfl, rfl, Nat.le_of_ble_eq_true rfl, Nat.le_of_ble_eq_true rfl⟩ hl.1 (Nat.le_of_ble_eq_true rfl) dL_law_701 hcs (fun H locs hw => ?_)
  have hw : PW D A s.heap (LB cy o om x qm rr cc r g tc d tr gm ch M (imL cy i0 ++ imL cy i1)) H locs := hw
  refine lv_aload_n S.1 S.2.1 dL_law_704 rfl (lv_at hl 2 rfl) ?_
  refine lv_aload_n S.1 S.2.1 dL_law_705 rfl (lv_at hl 0 rfl) ?_
  refine lv_iload_n S.1 S.2.1 dL_law_706 rfl (lv_at hl 3 rfl) ?_
  refine lv_iconst (v := 1) S.1 S.2.1 dL_law_707 (by decide) ?_
  refine lv_iadd S.1 S.2.1 dL_law_708 ?_
  refine w_sld (k := i + 1) S hw hX (by omega) hL (nI_add i 1) dL_law_709 ?_
  refine lv_aload_n S.1 S.2.1 dL_law_710 rfl (lv_at hl 0 rfl) ?_
  refine lv_iload_n S.1 S.2.1 dL_law_711 rfl (lv_at hl 3 rfl) ?_
  refine lv_iconst (v := 2) S.1 S.2.1 dL_law_712 (by decide) ?_
  refine lv_iadd S.1 S.2.1 dL_law_713 ?_
  refine w_sld (k := i + 2) S hw hX (by omega) hL (nI_add i 2) dL_law_714 ?_
  refine k_X9_least S (S.2.2.2.2.wd wd1065 rfl) hw hv [11] rfl (by decide) rfl ⟨rfl, rfl, Nat.le_of_ble_eq_true rfl, Nat.le_of_ble_eq_true rfl⟩ hl.1 (Nat.le_of_ble_eq_true rfl) dL_law_715 hcs (fun H locs hw => ?_)
  have hw : PW D A s.heap (LB cy o om x qm rr cc r g tc d tr gm ch M (imL cy i0 ++ imL cy i1)) H locs := hw
  refine lv_icmp_eq (tgt := 1050) S.1 S.2.1 dL_law_718 (by decide) (fun _ => ?_) (fun h => absurd he h)
  exact K _ _ _ _ _ ⟨rr, cc, r, g, tc, d, tr, gm, ch, M, i0, i1, hw, hV, hr0, hr1, hce, hsl⟩ hl
set_option maxHeartbeats 4000000 in
set_option maxRecDepth 100000 in
theorem lc_swore (hC : cp_swore) (S : CX p m c cL_law 4 s args RL D cy) (hX : SC A b L xs s) (hL : L ≤ 2560) {i : Nat} (hi : i + 4 < L) (h : LI D A s.heap cy o om x qm H locs cells slots) (hl : lv_has ls 4 [(0, .ref b), (1, .ref o), (2, .ref om), (3, .int (nI i))]) (K : ∀ (H : Heap) (locs : List Loc) (ls : Array Slot) (cells slots : Nat), LI D A s.heap cy o om x qm H locs cells slots → lv_has ls 4 [(0, .ref b), (1, .ref o), (2, .ref om), (3, .int (nI i))] → W p l e room_1 s m args below meth c H locs cells slots Q (F0 m 1050 ls [])) : W p l e room_1 s m args below meth c H locs cells slots Q (F0 m 723 ls []) := by
  obtain ⟨rr, cc, r, g, tc, d, tr, gm, ch, M, i0, i1, hw, hV, hr0, hr1, hce, hsl⟩ := h
  have hn0 := imN_le i0
  have hn1 := imN_le i1
  have hcs : cells ≤ room_1.cells ∧ slots ≤ room_1.slots := ⟨by rw [hce]; show _ ≤ 600000; omega, by rw [hsl]; show _ ≤ 7302250; omega⟩
  by_cases hz : xs (i + 4) = 0
  ·
    obtain ⟨u, v, hu, hv, he, hV⟩ := hC cc r g d (imS i0) (imS i1) M  (xs (i + 1)) (xs (i + 2)) (xs (i + 3)) (0) hV (by decide)
    refine lv_aload_n S.1 S.2.1 dL_law_723 rfl (lv_at hl 1 rfl) ?_
    refine lv_aload_n S.1 S.2.1 dL_law_724 rfl (lv_at hl 0 rfl) ?_
    refine lv_iload_n S.1 S.2.1 dL_law_725 rfl (lv_at hl 3 rfl) ?_
    refine lv_iconst (v := 1) S.1 S.2.1 dL_law_726 (by decide) ?_
    refine lv_iadd S.1 S.2.1 dL_law_727 ?_
    refine w_sld (k := i + 1) S hw hX (by omega) hL (nI_add i 1) dL_law_728 ?_
    refine lv_aload_n S.1 S.2.1 dL_law_729 rfl (lv_at hl 0 rfl) ?_
    refine lv_iload_n S.1 S.2.1 dL_law_730 rfl (lv_at hl 3 rfl) ?_
    refine lv_iconst (v := 2) S.1 S.2.1 dL_law_731 (by decide) ?_
    refine lv_iadd S.1 S.2.1 dL_law_732 ?_
    refine w_sld (k := i + 2) S hw hX (by omega) hL (nI_add i 2) dL_law_733 ?_
    refine lv_aload_n S.1 S.2.1 dL_law_734 rfl (lv_at hl 0 rfl) ?_
    refine lv_iload_n S.1 S.2.1 dL_law_735 rfl (lv_at hl 3 rfl) ?_
    refine lv_iconst (v := 3) S.1 S.2.1 dL_law_736 (by decide) ?_
    refine lv_iadd S.1 S.2.1 dL_law_737 ?_
    refine w_sld (k := i + 3) S hw hX (by omega) hL (nI_add i 3) dL_law_738 ?_
    refine lv_aload_n S.1 S.2.1 dL_law_739 rfl (lv_at hl 0 rfl) ?_
    refine lv_iload_n S.1 S.2.1 dL_law_740 rfl (lv_at hl 3 rfl) ?_
    refine lv_iconst (v := 4) S.1 S.2.1 dL_law_741 (by decide) ?_
    refine lv_iadd S.1 S.2.1 dL_law_742 ?_
    refine w_sld (k := i + 4) S hw hX (by omega) hL (nI_add i 4) dL_law_743 ?_
    refine lv_if_eq (tgt := 751) S.1 S.2.1 dL_law_744 (by decide) (fun _ => ?_) (fun h => absurd hz h)
    refine lv_iconst (v := 0) S.1 S.2.1 dL_law_751 (by decide) ?_
    refine k_X8_swore S (S.2.2.2.2.wd wd550 rfl) hw hu [0, 5, 3] rfl (by decide) rfl ⟨rfl, rfl, Nat.le_of_ble_eq_true rfl, Nat.le_of_ble_eq_true rfl⟩ hl.1 (Nat.le_of_ble_eq_true rfl) dL_law_752 hcs (fun H locs hw => ?_)
    have hw : PW D A s.heap (LB cy o om x qm rr cc r u.2 tc d tr gm ch M (imL cy i0 ++ imL cy i1)) H locs := hw
    refine lv_aload_n S.1 S.2.1 dL_law_755 rfl (lv_at hl 2 rfl) ?_
    refine lv_aload_n S.1 S.2.1 dL_law_756 rfl (lv_at hl 0 rfl) ?_
    refine lv_iload_n S.1 S.2.1 dL_law_757 rfl (lv_at hl 3 rfl) ?_
    refine lv_iconst (v := 1) S.1 S.2.1 dL_law_758 (by decide) ?_
    refine lv_iadd S.1 S.2.1 dL_law_759 ?_
    refine w_sld (k := i + 1) S hw hX (by omega) hL (nI_add i 1) dL_law_760 ?_
    refine lv_aload_n S.1 S.2.1 dL_law_761 rfl (lv_at hl 0 rfl) ?_
    refine lv_iload_n S.1 S.2.1 dL_law_762 rfl (lv_at hl 3 rfl) ?_
    refine lv_iconst (v := 2) S.1 S.2.1 dL_law_763 (by decide) ?_
    refine lv_iadd S.1 S.2.1 dL_law_764 ?_
    refine w_sld (k := i + 2) S hw hX (by omega) hL (nI_add i 2) dL_law_765 ?_
    refine lv_aload_n S.1 S.2.1 dL_law_766 rfl (lv_at hl 0 rfl) ?_
    refine lv_iload_n S.1 S.2.1 dL_law_767 rfl (lv_at hl 3 rfl) ?_
    refine lv_iconst (v := 3) S.1 S.2.1 dL_law_768 (by decide) ?_
    refine lv_iadd S.1 S.2.1 dL_law_769 ?_
    refine w_sld (k := i + 3) S hw hX (by omega) hL (nI_add i 3) dL_law_770 ?_
    refine lv_aload_n S.1 S.2.1 dL_law_771 rfl (lv_at hl 0 rfl) ?_
    refine lv_iload_n S.1 S.2.1 dL_law_772 rfl (lv_at hl 3 rfl) ?_
    refine lv_iconst (v := 4) S.1 S.2.1 dL_law_773 (by decide) ?_
    refine lv_iadd S.1 S.2.1 dL_law_774 ?_
    refine w_sld (k := i + 4) S hw hX (by omega) hL (nI_add i 4) dL_law_775 ?_
    refine lv_if_eq (tgt := 783) S.1 S.2.1 dL_law_776 (by decide) (fun _ => ?_) (fun h => absurd hz h)
    refine lv_iconst (v := 0) S.1 S.2.1 dL_law_783 (by decide) ?_
    refine k_X9_swore S (S.2.2.2.2.wd wd1069 rfl) hw hv [11] rfl (by decide) rfl ⟨rfl, rfl, Nat.le_of_ble_eq_true rfl, Nat.le_of_ble_eq_true rfl⟩ hl.1 (Nat.le_of_ble_eq_true rfl) dL_law_784 hcs (fun H locs hw => ?_)
    have hw : PW D A s.heap (LB cy o om x qm rr cc r u.2 tc d tr gm ch v.2 (imL cy i0 ++ imL cy i1)) H locs := hw
    refine lv_icmp_eq (tgt := 1050) S.1 S.2.1 dL_law_787 (by decide) (fun _ => ?_) (fun h => absurd he h)
    exact K _ _ _ _ _ ⟨rr, cc, r, u.2, tc, d, tr, gm, ch, v.2, i0, i1, hw, hV, hr0, hr1, hce, hsl⟩ hl
  ·
    obtain ⟨u, v, hu, hv, he, hV⟩ := hC cc r g d (imS i0) (imS i1) M  (xs (i + 1)) (xs (i + 2)) (xs (i + 3)) (1) hV (by decide)
    refine lv_aload_n S.1 S.2.1 dL_law_723 rfl (lv_at hl 1 rfl) ?_
    refine lv_aload_n S.1 S.2.1 dL_law_724 rfl (lv_at hl 0 rfl) ?_
    refine lv_iload_n S.1 S.2.1 dL_law_725 rfl (lv_at hl 3 rfl) ?_
    refine lv_iconst (v := 1) S.1 S.2.1 dL_law_726 (by decide) ?_
    refine lv_iadd S.1 S.2.1 dL_law_727 ?_
    refine w_sld (k := i + 1) S hw hX (by omega) hL (nI_add i 1) dL_law_728 ?_
    refine lv_aload_n S.1 S.2.1 dL_law_729 rfl (lv_at hl 0 rfl) ?_
    refine lv_iload_n S.1 S.2.1 dL_law_730 rfl (lv_at hl 3 rfl) ?_
    refine lv_iconst (v := 2) S.1 S.2.1 dL_law_731 (by decide) ?_
    refine lv_iadd S.1 S.2.1 dL_law_732 ?_
    refine w_sld (k := i + 2) S hw hX (by omega) hL (nI_add i 2) dL_law_733 ?_
    refine lv_aload_n S.1 S.2.1 dL_law_734 rfl (lv_at hl 0 rfl) ?_
    refine lv_iload_n S.1 S.2.1 dL_law_735 rfl (lv_at hl 3 rfl) ?_
    refine lv_iconst (v := 3) S.1 S.2.1 dL_law_736 (by decide) ?_
    refine lv_iadd S.1 S.2.1 dL_law_737 ?_
    refine w_sld (k := i + 3) S hw hX (by omega) hL (nI_add i 3) dL_law_738 ?_
    refine lv_aload_n S.1 S.2.1 dL_law_739 rfl (lv_at hl 0 rfl) ?_
    refine lv_iload_n S.1 S.2.1 dL_law_740 rfl (lv_at hl 3 rfl) ?_
    refine lv_iconst (v := 4) S.1 S.2.1 dL_law_741 (by decide) ?_
    refine lv_iadd S.1 S.2.1 dL_law_742 ?_
    refine w_sld (k := i + 4) S hw hX (by omega) hL (nI_add i 4) dL_law_743 ?_
    refine lv_if_eq (tgt := 751) S.1 S.2.1 dL_law_744 (by decide) (fun h => absurd h hz) (fun _ => ?_)
    refine lv_iconst (v := 1) S.1 S.2.1 dL_law_747 (by decide) ?_
    refine lv_goto (tgt := 752) S.1 S.2.1 dL_law_748 (by decide) ?_
    refine k_X8_swore S (S.2.2.2.2.wd wd550 rfl) hw hu [0, 5, 3] rfl (by decide) rfl ⟨rfl, rfl, Nat.le_of_ble_eq_true rfl, Nat.le_of_ble_eq_true rfl⟩ hl.1 (Nat.le_of_ble_eq_true rfl) dL_law_752 hcs (fun H locs hw => ?_)
    have hw : PW D A s.heap (LB cy o om x qm rr cc r u.2 tc d tr gm ch M (imL cy i0 ++ imL cy i1)) H locs := hw
    refine lv_aload_n S.1 S.2.1 dL_law_755 rfl (lv_at hl 2 rfl) ?_
    refine lv_aload_n S.1 S.2.1 dL_law_756 rfl (lv_at hl 0 rfl) ?_
    refine lv_iload_n S.1 S.2.1 dL_law_757 rfl (lv_at hl 3 rfl) ?_
    refine lv_iconst (v := 1) S.1 S.2.1 dL_law_758 (by decide) ?_
    refine lv_iadd S.1 S.2.1 dL_law_759 ?_
    refine w_sld (k := i + 1) S hw hX (by omega) hL (nI_add i 1) dL_law_760 ?_
    refine lv_aload_n S.1 S.2.1 dL_law_761 rfl (lv_at hl 0 rfl) ?_
    refine lv_iload_n S.1 S.2.1 dL_law_762 rfl (lv_at hl 3 rfl) ?_
    refine lv_iconst (v := 2) S.1 S.2.1 dL_law_763 (by decide) ?_
    refine lv_iadd S.1 S.2.1 dL_law_764 ?_
    refine w_sld (k := i + 2) S hw hX (by omega) hL (nI_add i 2) dL_law_765 ?_
    refine lv_aload_n S.1 S.2.1 dL_law_766 rfl (lv_at hl 0 rfl) ?_
    refine lv_iload_n S.1 S.2.1 dL_law_767 rfl (lv_at hl 3 rfl) ?_
    refine lv_iconst (v := 3) S.1 S.2.1 dL_law_768 (by decide) ?_
    refine lv_iadd S.1 S.2.1 dL_law_769 ?_
    refine w_sld (k := i + 3) S hw hX (by omega) hL (nI_add i 3) dL_law_770 ?_
    refine lv_aload_n S.1 S.2.1 dL_law_771 rfl (lv_at hl 0 rfl) ?_
    refine lv_iload_n S.1 S.2.1 dL_law_772 rfl (lv_at hl 3 rfl) ?_
    refine lv_iconst (v := 4) S.1 S.2.1 dL_law_773 (by decide) ?_
    refine lv_iadd S.1 S.2.1 dL_law_774 ?_
    refine w_sld (k := i + 4) S hw hX (by omega) hL (nI_add i 4) dL_law_775 ?_
    refine lv_if_eq (tgt := 783) S.1 S.2.1 dL_law_776 (by decide) (fun h => absurd h hz) (fun _ => ?_)
    refine lv_iconst (v := 1) S.1 S.2.1 dL_law_779 (by decide) ?_
    refine lv_goto (tgt := 784) S.1 S.2.1 dL_law_780 (by decide) ?_
    refine k_X9_swore S (S.2.2.2.2.wd wd1069 rfl) hw hv [11] rfl (by decide) rfl ⟨rfl, rfl, Nat.le_of_ble_eq_true rfl, Nat.le_of_ble_eq_true rfl⟩ hl.1 (Nat.le_of_ble_eq_true rfl) dL_law_784 hcs (fun H locs hw => ?_)
    have hw : PW D A s.heap (LB cy o om x qm rr cc r u.2 tc d tr gm ch v.2 (imL cy i0 ++ imL cy i1)) H locs := hw
    refine lv_icmp_eq (tgt := 1050) S.1 S.2.1 dL_law_787 (by decide) (fun _ => ?_) (fun h => absurd he h)
    exact K _ _ _ _ _ ⟨rr, cc, r, u.2, tc, d, tr, gm, ch, v.2, i0, i1, hw, hV, hr0, hr1, hce, hsl⟩ hl
set_option maxHeartbeats 4000000 in
set_option maxRecDepth 100000 in
theorem lc_forget (hC : cp_forget) (S : CX p m c cL_law 4 s args RL D cy) (hX : SC A b L xs s) (hL : L ≤ 2560) {i : Nat} (hi : i + 4 < L) (h : LI D A s.heap cy o om x qm H locs cells slots) (hl : lv_has ls 4 [(0, .ref b), (1, .ref o), (2, .ref om), (3, .int (nI i))]) (K : ∀ (H : Heap) (locs : List Loc) (ls : Array Slot) (cells slots : Nat), LI D A s.heap cy o om x qm H locs cells slots → lv_has ls 4 [(0, .ref b), (1, .ref o), (2, .ref om), (3, .int (nI i))] → W p l e room_1 s m args below meth c H locs cells slots Q (F0 m 1050 ls [])) : W p l e room_1 s m args below meth c H locs cells slots Q (F0 m 792 ls []) := by
  obtain ⟨rr, cc, r, g, tc, d, tr, gm, ch, M, i0, i1, hw, hV, hr0, hr1, hce, hsl⟩ := h
  have hn0 := imN_le i0
  have hn1 := imN_le i1
  have hcs : cells ≤ room_1.cells ∧ slots ≤ room_1.slots := ⟨by rw [hce]; show _ ≤ 600000; omega, by rw [hsl]; show _ ≤ 7302250; omega⟩
  obtain ⟨u, v, hu, hv, he, hV⟩ := hC cc r g d (imS i0) (imS i1) M   hV 
  refine lv_aload_n S.1 S.2.1 dL_law_792 rfl (lv_at hl 1 rfl) ?_
  refine k_X8_forget S (S.2.2.2.2.wd wd567 rfl) hw hu [0, 5, 3] rfl (by decide) rfl ⟨rfl, rfl, Nat.le_of_ble_eq_true rfl, Nat.le_of_ble_eq_true rfl⟩ hl.1 (Nat.le_of_ble_eq_true rfl) dL_law_793 hcs (fun H locs hw => ?_)
  have hw : PW D A s.heap (LB cy o om x qm rr cc r u.2 tc d tr gm ch M (imL cy i0 ++ imL cy i1)) H locs := hw
  refine lv_aload_n S.1 S.2.1 dL_law_796 rfl (lv_at hl 2 rfl) ?_
  refine k_X9_forget S (S.2.2.2.2.wd wd1076 rfl) hw hv [11] rfl (by decide) rfl ⟨rfl, rfl, Nat.le_of_ble_eq_true rfl, Nat.le_of_ble_eq_true rfl⟩ hl.1 (Nat.le_of_ble_eq_true rfl) dL_law_797 hcs (fun H locs hw => ?_)
  have hw : PW D A s.heap (LB cy o om x qm rr cc r u.2 tc d tr gm ch v.2 (imL cy i0 ++ imL cy i1)) H locs := hw
  refine lv_icmp_eq (tgt := 1050) S.1 S.2.1 dL_law_800 (by decide) (fun _ => ?_) (fun h => absurd he h)
  exact K _ _ _ _ _ ⟨rr, cc, r, u.2, tc, d, tr, gm, ch, v.2, i0, i1, hw, hV, hr0, hr1, hce, hsl⟩ hl
set_option maxHeartbeats 4000000 in
set_option maxRecDepth 100000 in
theorem lc_liars (hC : cp_liars) (S : CX p m c cL_law 4 s args RL D cy) (hX : SC A b L xs s) (hL : L ≤ 2560) {i : Nat} (hi : i + 4 < L) (h : LI D A s.heap cy o om x qm H locs cells slots) (hl : lv_has ls 4 [(0, .ref b), (1, .ref o), (2, .ref om), (3, .int (nI i))]) (K : ∀ (H : Heap) (locs : List Loc) (ls : Array Slot) (cells slots : Nat), LI D A s.heap cy o om x qm H locs cells slots → lv_has ls 4 [(0, .ref b), (1, .ref o), (2, .ref om), (3, .int (nI i))] → W p l e room_1 s m args below meth c H locs cells slots Q (F0 m 1050 ls [])) : W p l e room_1 s m args below meth c H locs cells slots Q (F0 m 805 ls []) := by
  obtain ⟨rr, cc, r, g, tc, d, tr, gm, ch, M, i0, i1, hw, hV, hr0, hr1, hce, hsl⟩ := h
  have hn0 := imN_le i0
  have hn1 := imN_le i1
  have hcs : cells ≤ room_1.cells ∧ slots ≤ room_1.slots := ⟨by rw [hce]; show _ ≤ 600000; omega, by rw [hsl]; show _ ≤ 7302250; omega⟩
  obtain ⟨u, v, hu, hv, he, hV⟩ := hC cc r g d (imS i0) (imS i1) M  (xs (i + 1)) hV 
  refine lv_aload_n S.1 S.2.1 dL_law_805 rfl (lv_at hl 1 rfl) ?_
  refine lv_aload_n S.1 S.2.1 dL_law_806 rfl (lv_at hl 0 rfl) ?_
  refine lv_iload_n S.1 S.2.1 dL_law_807 rfl (lv_at hl 3 rfl) ?_
  refine lv_iconst (v := 1) S.1 S.2.1 dL_law_808 (by decide) ?_
  refine lv_iadd S.1 S.2.1 dL_law_809 ?_
  refine w_sld (k := i + 1) S hw hX (by omega) hL (nI_add i 1) dL_law_810 ?_
  refine k_X8_liars S (S.2.2.2.2.wd wd571 rfl) hw hu [0, 5, 3] rfl (by decide) rfl ⟨rfl, rfl, Nat.le_of_ble_eq_true rfl, Nat.le_of_ble_eq_true rfl⟩ hl.1 (Nat.le_of_ble_eq_true rfl) dL_law_811 hcs (fun H locs hw => ?_)
  have hw : PW D A s.heap (LB cy o om x qm rr cc r g tc d tr gm ch M (imL cy i0 ++ imL cy i1)) H locs := hw
  refine lv_aload_n S.1 S.2.1 dL_law_814 rfl (lv_at hl 2 rfl) ?_
  refine lv_aload_n S.1 S.2.1 dL_law_815 rfl (lv_at hl 0 rfl) ?_
  refine lv_iload_n S.1 S.2.1 dL_law_816 rfl (lv_at hl 3 rfl) ?_
  refine lv_iconst (v := 1) S.1 S.2.1 dL_law_817 (by decide) ?_
  refine lv_iadd S.1 S.2.1 dL_law_818 ?_
  refine w_sld (k := i + 1) S hw hX (by omega) hL (nI_add i 1) dL_law_819 ?_
  refine k_X9_liars S (S.2.2.2.2.wd wd1080 rfl) hw hv [11] rfl (by decide) rfl ⟨rfl, rfl, Nat.le_of_ble_eq_true rfl, Nat.le_of_ble_eq_true rfl⟩ hl.1 (Nat.le_of_ble_eq_true rfl) dL_law_820 hcs (fun H locs hw => ?_)
  have hw : PW D A s.heap (LB cy o om x qm rr cc r g tc d tr gm ch M (imL cy i0 ++ imL cy i1)) H locs := hw
  refine lv_icmp_eq (tgt := 1050) S.1 S.2.1 dL_law_823 (by decide) (fun _ => ?_) (fun h => absurd he h)
  exact K _ _ _ _ _ ⟨rr, cc, r, g, tc, d, tr, gm, ch, M, i0, i1, hw, hV, hr0, hr1, hce, hsl⟩ hl
set_option maxHeartbeats 4000000 in
set_option maxRecDepth 100000 in
theorem lc_ask (hC : cp_ask) (S : CX p m c cL_law 4 s args RL D cy) (hX : SC A b L xs s) (hL : L ≤ 2560) {i : Nat} (hi : i + 4 < L) (h : LI D A s.heap cy o om x qm H locs cells slots) (hl : lv_has ls 4 [(0, .ref b), (1, .ref o), (2, .ref om), (3, .int (nI i))]) (K : ∀ (H : Heap) (locs : List Loc) (ls : Array Slot) (cells slots : Nat), LI D A s.heap cy o om x qm H locs cells slots → lv_has ls 4 [(0, .ref b), (1, .ref o), (2, .ref om), (3, .int (nI i))] → W p l e room_1 s m args below meth c H locs cells slots Q (F0 m 1050 ls [])) : W p l e room_1 s m args below meth c H locs cells slots Q (F0 m 828 ls []) := by
  obtain ⟨rr, cc, r, g, tc, d, tr, gm, ch, M, i0, i1, hw, hV, hr0, hr1, hce, hsl⟩ := h
  have hn0 := imN_le i0
  have hn1 := imN_le i1
  have hcs : cells ≤ room_1.cells ∧ slots ≤ room_1.slots := ⟨by rw [hce]; show _ ≤ 600000; omega, by rw [hsl]; show _ ≤ 7302250; omega⟩
  obtain ⟨u, v, hu, hv, he, hV⟩ := hC cc r g d (imS i0) (imS i1) M  (xs (i + 1)) hV 
  refine lv_aload_n S.1 S.2.1 dL_law_828 rfl (lv_at hl 1 rfl) ?_
  refine lv_aload_n S.1 S.2.1 dL_law_829 rfl (lv_at hl 0 rfl) ?_
  refine lv_iload_n S.1 S.2.1 dL_law_830 rfl (lv_at hl 3 rfl) ?_
  refine lv_iconst (v := 1) S.1 S.2.1 dL_law_831 (by decide) ?_
  refine lv_iadd S.1 S.2.1 dL_law_832 ?_
  refine w_sld (k := i + 1) S hw hX (by omega) hL (nI_add i 1) dL_law_833 ?_
  refine k_X8_ask S (S.2.2.2.2.wd wd580 rfl) hw hu [0, 5, 3] rfl (by decide) rfl ⟨rfl, rfl, Nat.le_of_ble_eq_true rfl, Nat.le_of_ble_eq_true rfl⟩ hl.1 (Nat.le_of_ble_eq_true rfl) dL_law_834 hcs (fun H locs hw => ?_)
  have hw : PW D A s.heap (LB cy o om x qm rr cc r g tc d tr gm ch M (imL cy i0 ++ imL cy i1)) H locs := hw
  refine lv_aload_n S.1 S.2.1 dL_law_837 rfl (lv_at hl 2 rfl) ?_
  refine lv_aload_n S.1 S.2.1 dL_law_838 rfl (lv_at hl 0 rfl) ?_
  refine lv_iload_n S.1 S.2.1 dL_law_839 rfl (lv_at hl 3 rfl) ?_
  refine lv_iconst (v := 1) S.1 S.2.1 dL_law_840 (by decide) ?_
  refine lv_iadd S.1 S.2.1 dL_law_841 ?_
  refine w_sld (k := i + 1) S hw hX (by omega) hL (nI_add i 1) dL_law_842 ?_
  refine k_X9_ask S (S.2.2.2.2.wd wd1091 rfl) hw hv [11] rfl (by decide) rfl ⟨rfl, rfl, Nat.le_of_ble_eq_true rfl, Nat.le_of_ble_eq_true rfl⟩ hl.1 (Nat.le_of_ble_eq_true rfl) dL_law_843 hcs (fun H locs hw => ?_)
  have hw : PW D A s.heap (LB cy o om x qm rr cc r g tc d tr gm ch M (imL cy i0 ++ imL cy i1)) H locs := hw
  refine lv_icmp_eq (tgt := 1050) S.1 S.2.1 dL_law_846 (by decide) (fun _ => ?_) (fun h => absurd he h)
  exact K _ _ _ _ _ ⟨rr, cc, r, g, tc, d, tr, gm, ch, M, i0, i1, hw, hV, hr0, hr1, hce, hsl⟩ hl
set_option maxHeartbeats 4000000 in
set_option maxRecDepth 100000 in
theorem lc_walk (hC : cp_walk) (S : CX p m c cL_law 4 s args RL D cy) (hX : SC A b L xs s) (hL : L ≤ 2560) {i : Nat} (hi : i + 4 < L) (h : LI D A s.heap cy o om x qm H locs cells slots) (hl : lv_has ls 4 [(0, .ref b), (1, .ref o), (2, .ref om), (3, .int (nI i))]) (K : ∀ (H : Heap) (locs : List Loc) (ls : Array Slot) (cells slots : Nat), LI D A s.heap cy o om x qm H locs cells slots → lv_has ls 4 [(0, .ref b), (1, .ref o), (2, .ref om), (3, .int (nI i))] → W p l e room_1 s m args below meth c H locs cells slots Q (F0 m 1050 ls [])) : W p l e room_1 s m args below meth c H locs cells slots Q (F0 m 851 ls []) := by
  obtain ⟨rr, cc, r, g, tc, d, tr, gm, ch, M, i0, i1, hw, hV, hr0, hr1, hce, hsl⟩ := h
  have hn0 := imN_le i0
  have hn1 := imN_le i1
  have hcs : cells ≤ room_1.cells ∧ slots ≤ room_1.slots := ⟨by rw [hce]; show _ ≤ 600000; omega, by rw [hsl]; show _ ≤ 7302250; omega⟩
  obtain ⟨u, v, hu, hv, he, hV⟩ := hC cc r g d (imS i0) (imS i1) M gm (xs (i + 1)) (xs (i + 2)) hV 
  refine lv_aload_n S.1 S.2.1 dL_law_851 rfl (lv_at hl 1 rfl) ?_
  refine lv_aload_n S.1 S.2.1 dL_law_852 rfl (lv_at hl 0 rfl) ?_
  refine lv_iload_n S.1 S.2.1 dL_law_853 rfl (lv_at hl 3 rfl) ?_
  refine lv_iconst (v := 1) S.1 S.2.1 dL_law_854 (by decide) ?_
  refine lv_iadd S.1 S.2.1 dL_law_855 ?_
  refine w_sld (k := i + 1) S hw hX (by omega) hL (nI_add i 1) dL_law_856 ?_
  refine lv_aload_n S.1 S.2.1 dL_law_857 rfl (lv_at hl 0 rfl) ?_
  refine lv_iload_n S.1 S.2.1 dL_law_858 rfl (lv_at hl 3 rfl) ?_
  refine lv_iconst (v := 2) S.1 S.2.1 dL_law_859 (by decide) ?_
  refine lv_iadd S.1 S.2.1 dL_law_860 ?_
  refine w_sld (k := i + 2) S hw hX (by omega) hL (nI_add i 2) dL_law_861 ?_
  refine k_X8_walk S (S.2.2.2.2.wd wd593 rfl) hw hu [0, 9, 5, 1] rfl (by decide) rfl ⟨rfl, rfl, Nat.le_of_ble_eq_true rfl, Nat.le_of_ble_eq_true rfl⟩ hl.1 (Nat.le_of_ble_eq_true rfl) dL_law_862 hcs (fun H locs hw => ?_)
  have hw : PW D A s.heap (LB cy o om x qm rr cc r g tc d tr u.2 ch M (imL cy i0 ++ imL cy i1)) H locs := hw
  refine lv_aload_n S.1 S.2.1 dL_law_865 rfl (lv_at hl 2 rfl) ?_
  refine lv_aload_n S.1 S.2.1 dL_law_866 rfl (lv_at hl 0 rfl) ?_
  refine lv_iload_n S.1 S.2.1 dL_law_867 rfl (lv_at hl 3 rfl) ?_
  refine lv_iconst (v := 1) S.1 S.2.1 dL_law_868 (by decide) ?_
  refine lv_iadd S.1 S.2.1 dL_law_869 ?_
  refine w_sld (k := i + 1) S hw hX (by omega) hL (nI_add i 1) dL_law_870 ?_
  refine lv_aload_n S.1 S.2.1 dL_law_871 rfl (lv_at hl 0 rfl) ?_
  refine lv_iload_n S.1 S.2.1 dL_law_872 rfl (lv_at hl 3 rfl) ?_
  refine lv_iconst (v := 2) S.1 S.2.1 dL_law_873 (by decide) ?_
  refine lv_iadd S.1 S.2.1 dL_law_874 ?_
  refine w_sld (k := i + 2) S hw hX (by omega) hL (nI_add i 2) dL_law_875 ?_
  refine k_X9_walk S (S.2.2.2.2.wd wd1099 rfl) hw hv [11] rfl (by decide) rfl ⟨rfl, rfl, Nat.le_of_ble_eq_true rfl, Nat.le_of_ble_eq_true rfl⟩ hl.1 (Nat.le_of_ble_eq_true rfl) dL_law_876 hcs (fun H locs hw => ?_)
  have hw : PW D A s.heap (LB cy o om x qm rr cc r g tc d tr u.2 ch v.2 (imL cy i0 ++ imL cy i1)) H locs := hw
  refine lv_icmp_eq (tgt := 1050) S.1 S.2.1 dL_law_879 (by decide) (fun _ => ?_) (fun h => absurd he h)
  exact K _ _ _ _ _ ⟨rr, cc, r, g, tc, d, tr, u.2, ch, v.2, i0, i1, hw, hV, hr0, hr1, hce, hsl⟩ hl
set_option maxHeartbeats 4000000 in
set_option maxRecDepth 100000 in
theorem lc_hang (hC : cp_hang) (S : CX p m c cL_law 4 s args RL D cy) (hX : SC A b L xs s) (hL : L ≤ 2560) {i : Nat} (hi : i + 4 < L) (h : LI D A s.heap cy o om x qm H locs cells slots) (hl : lv_has ls 4 [(0, .ref b), (1, .ref o), (2, .ref om), (3, .int (nI i))]) (K : ∀ (H : Heap) (locs : List Loc) (ls : Array Slot) (cells slots : Nat), LI D A s.heap cy o om x qm H locs cells slots → lv_has ls 4 [(0, .ref b), (1, .ref o), (2, .ref om), (3, .int (nI i))] → W p l e room_1 s m args below meth c H locs cells slots Q (F0 m 1050 ls [])) : W p l e room_1 s m args below meth c H locs cells slots Q (F0 m 884 ls []) := by
  obtain ⟨rr, cc, r, g, tc, d, tr, gm, ch, M, i0, i1, hw, hV, hr0, hr1, hce, hsl⟩ := h
  have hn0 := imN_le i0
  have hn1 := imN_le i1
  have hcs : cells ≤ room_1.cells ∧ slots ≤ room_1.slots := ⟨by rw [hce]; show _ ≤ 600000; omega, by rw [hsl]; show _ ≤ 7302250; omega⟩
  obtain ⟨u, v, hu, hv, he, hV⟩ := hC cc r g d (imS i0) (imS i1) M ch (xs (i + 1)) (xs (i + 2)) (xs (i + 3)) (xs (i + 4)) hV 
  refine lv_aload_n S.1 S.2.1 dL_law_884 rfl (lv_at hl 1 rfl) ?_
  refine lv_aload_n S.1 S.2.1 dL_law_885 rfl (lv_at hl 0 rfl) ?_
  refine lv_iload_n S.1 S.2.1 dL_law_886 rfl (lv_at hl 3 rfl) ?_
  refine lv_iconst (v := 1) S.1 S.2.1 dL_law_887 (by decide) ?_
  refine lv_iadd S.1 S.2.1 dL_law_888 ?_
  refine w_sld (k := i + 1) S hw hX (by omega) hL (nI_add i 1) dL_law_889 ?_
  refine lv_aload_n S.1 S.2.1 dL_law_890 rfl (lv_at hl 0 rfl) ?_
  refine lv_iload_n S.1 S.2.1 dL_law_891 rfl (lv_at hl 3 rfl) ?_
  refine lv_iconst (v := 2) S.1 S.2.1 dL_law_892 (by decide) ?_
  refine lv_iadd S.1 S.2.1 dL_law_893 ?_
  refine w_sld (k := i + 2) S hw hX (by omega) hL (nI_add i 2) dL_law_894 ?_
  refine lv_aload_n S.1 S.2.1 dL_law_895 rfl (lv_at hl 0 rfl) ?_
  refine lv_iload_n S.1 S.2.1 dL_law_896 rfl (lv_at hl 3 rfl) ?_
  refine lv_iconst (v := 3) S.1 S.2.1 dL_law_897 (by decide) ?_
  refine lv_iadd S.1 S.2.1 dL_law_898 ?_
  refine w_sld (k := i + 3) S hw hX (by omega) hL (nI_add i 3) dL_law_899 ?_
  refine lv_aload_n S.1 S.2.1 dL_law_900 rfl (lv_at hl 0 rfl) ?_
  refine lv_iload_n S.1 S.2.1 dL_law_901 rfl (lv_at hl 3 rfl) ?_
  refine lv_iconst (v := 4) S.1 S.2.1 dL_law_902 (by decide) ?_
  refine lv_iadd S.1 S.2.1 dL_law_903 ?_
  refine w_sld (k := i + 4) S hw hX (by omega) hL (nI_add i 4) dL_law_904 ?_
  refine k_X8_hang S (S.2.2.2.2.wd wd610 rfl) hw hu [0, 10] rfl (by decide) rfl ⟨rfl, rfl, Nat.le_of_ble_eq_true rfl, Nat.le_of_ble_eq_true rfl⟩ hl.1 (Nat.le_of_ble_eq_true rfl) dL_law_905 hcs (fun H locs hw => ?_)
  have hw : PW D A s.heap (LB cy o om x qm rr cc r g tc d tr gm u.2 M (imL cy i0 ++ imL cy i1)) H locs := hw
  refine lv_aload_n S.1 S.2.1 dL_law_908 rfl (lv_at hl 2 rfl) ?_
  refine lv_aload_n S.1 S.2.1 dL_law_909 rfl (lv_at hl 0 rfl) ?_
  refine lv_iload_n S.1 S.2.1 dL_law_910 rfl (lv_at hl 3 rfl) ?_
  refine lv_iconst (v := 1) S.1 S.2.1 dL_law_911 (by decide) ?_
  refine lv_iadd S.1 S.2.1 dL_law_912 ?_
  refine w_sld (k := i + 1) S hw hX (by omega) hL (nI_add i 1) dL_law_913 ?_
  refine lv_aload_n S.1 S.2.1 dL_law_914 rfl (lv_at hl 0 rfl) ?_
  refine lv_iload_n S.1 S.2.1 dL_law_915 rfl (lv_at hl 3 rfl) ?_
  refine lv_iconst (v := 2) S.1 S.2.1 dL_law_916 (by decide) ?_
  refine lv_iadd S.1 S.2.1 dL_law_917 ?_
  refine w_sld (k := i + 2) S hw hX (by omega) hL (nI_add i 2) dL_law_918 ?_
  refine lv_aload_n S.1 S.2.1 dL_law_919 rfl (lv_at hl 0 rfl) ?_
  refine lv_iload_n S.1 S.2.1 dL_law_920 rfl (lv_at hl 3 rfl) ?_
  refine lv_iconst (v := 3) S.1 S.2.1 dL_law_921 (by decide) ?_
  refine lv_iadd S.1 S.2.1 dL_law_922 ?_
  refine w_sld (k := i + 3) S hw hX (by omega) hL (nI_add i 3) dL_law_923 ?_
  refine lv_aload_n S.1 S.2.1 dL_law_924 rfl (lv_at hl 0 rfl) ?_
  refine lv_iload_n S.1 S.2.1 dL_law_925 rfl (lv_at hl 3 rfl) ?_
  refine lv_iconst (v := 4) S.1 S.2.1 dL_law_926 (by decide) ?_
  refine lv_iadd S.1 S.2.1 dL_law_927 ?_
  refine w_sld (k := i + 4) S hw hX (by omega) hL (nI_add i 4) dL_law_928 ?_
  refine k_X9_hang S (S.2.2.2.2.wd wd1107 rfl) hw hv [11] rfl (by decide) rfl ⟨rfl, rfl, Nat.le_of_ble_eq_true rfl, Nat.le_of_ble_eq_true rfl⟩ hl.1 (Nat.le_of_ble_eq_true rfl) dL_law_929 hcs (fun H locs hw => ?_)
  have hw : PW D A s.heap (LB cy o om x qm rr cc r g tc d tr gm u.2 v.2 (imL cy i0 ++ imL cy i1)) H locs := hw
  refine W.lcmp S.1 S.2.1 dL_law_932 ?_
  refine lv_if_eq (tgt := 1050) S.1 S.2.1 dL_law_933 (by decide) (fun _ => ?_) (fun h => absurd (by rw [he]; exact lg_cmp_self _) h)
  exact K _ _ _ _ _ ⟨rr, cc, r, g, tc, d, tr, gm, u.2, v.2, i0, i1, hw, hV, hr0, hr1, hce, hsl⟩ hl
set_option maxHeartbeats 4000000 in
set_option maxRecDepth 100000 in
theorem lc_year (hC : cp_year) (S : CX p m c cL_law 4 s args RL D cy) (hX : SC A b L xs s) (hL : L ≤ 2560) {i : Nat} (hi : i + 4 < L) (h : LI D A s.heap cy o om x qm H locs cells slots) (hl : lv_has ls 4 [(0, .ref b), (1, .ref o), (2, .ref om), (3, .int (nI i))]) (K : ∀ (H : Heap) (locs : List Loc) (ls : Array Slot) (cells slots : Nat), LI D A s.heap cy o om x qm H locs cells slots → lv_has ls 4 [(0, .ref b), (1, .ref o), (2, .ref om), (3, .int (nI i))] → W p l e room_1 s m args below meth c H locs cells slots Q (F0 m 1050 ls [])) : W p l e room_1 s m args below meth c H locs cells slots Q (F0 m 938 ls []) := by
  obtain ⟨rr, cc, r, g, tc, d, tr, gm, ch, M, i0, i1, hw, hV, hr0, hr1, hce, hsl⟩ := h
  have hn0 := imN_le i0
  have hn1 := imN_le i1
  have hcs : cells ≤ room_1.cells ∧ slots ≤ room_1.slots := ⟨by rw [hce]; show _ ≤ 600000; omega, by rw [hsl]; show _ ≤ 7302250; omega⟩
  obtain ⟨u, v, hu, hv, he, hV⟩ := hC cc r g d (imS i0) (imS i1) M tr tc (xs (i + 1)) (xs (i + 2)) (xs (i + 3)) hV 
  refine lv_aload_n S.1 S.2.1 dL_law_938 rfl (lv_at hl 1 rfl) ?_
  refine lv_aload_n S.1 S.2.1 dL_law_939 rfl (lv_at hl 0 rfl) ?_
  refine lv_iload_n S.1 S.2.1 dL_law_940 rfl (lv_at hl 3 rfl) ?_
  refine lv_iconst (v := 1) S.1 S.2.1 dL_law_941 (by decide) ?_
  refine lv_iadd S.1 S.2.1 dL_law_942 ?_
  refine w_sld (k := i + 1) S hw hX (by omega) hL (nI_add i 1) dL_law_943 ?_
  refine lv_aload_n S.1 S.2.1 dL_law_944 rfl (lv_at hl 0 rfl) ?_
  refine lv_iload_n S.1 S.2.1 dL_law_945 rfl (lv_at hl 3 rfl) ?_
  refine lv_iconst (v := 2) S.1 S.2.1 dL_law_946 (by decide) ?_
  refine lv_iadd S.1 S.2.1 dL_law_947 ?_
  refine w_sld (k := i + 2) S hw hX (by omega) hL (nI_add i 2) dL_law_948 ?_
  refine lv_aload_n S.1 S.2.1 dL_law_949 rfl (lv_at hl 0 rfl) ?_
  refine lv_iload_n S.1 S.2.1 dL_law_950 rfl (lv_at hl 3 rfl) ?_
  refine lv_iconst (v := 3) S.1 S.2.1 dL_law_951 (by decide) ?_
  refine lv_iadd S.1 S.2.1 dL_law_952 ?_
  refine w_sld (k := i + 3) S hw hX (by omega) hL (nI_add i 3) dL_law_953 ?_
  refine k_X8_year S (S.2.2.2.2.wd wd639 rfl) hw hu [0, 8, 5, 1, 4] rfl (by decide) rfl ⟨rfl, rfl, Nat.le_of_ble_eq_true rfl, Nat.le_of_ble_eq_true rfl⟩ hl.1 (Nat.le_of_ble_eq_true rfl) dL_law_954 hcs (fun H locs hw => ?_)
  have hw : PW D A s.heap (LB cy o om x qm rr cc r g u.2.2 d u.2.1 gm ch M (imL cy i0 ++ imL cy i1)) H locs := hw
  refine lv_aload_n S.1 S.2.1 dL_law_957 rfl (lv_at hl 2 rfl) ?_
  refine lv_aload_n S.1 S.2.1 dL_law_958 rfl (lv_at hl 0 rfl) ?_
  refine lv_iload_n S.1 S.2.1 dL_law_959 rfl (lv_at hl 3 rfl) ?_
  refine lv_iconst (v := 1) S.1 S.2.1 dL_law_960 (by decide) ?_
  refine lv_iadd S.1 S.2.1 dL_law_961 ?_
  refine w_sld (k := i + 1) S hw hX (by omega) hL (nI_add i 1) dL_law_962 ?_
  refine lv_aload_n S.1 S.2.1 dL_law_963 rfl (lv_at hl 0 rfl) ?_
  refine lv_iload_n S.1 S.2.1 dL_law_964 rfl (lv_at hl 3 rfl) ?_
  refine lv_iconst (v := 2) S.1 S.2.1 dL_law_965 (by decide) ?_
  refine lv_iadd S.1 S.2.1 dL_law_966 ?_
  refine w_sld (k := i + 2) S hw hX (by omega) hL (nI_add i 2) dL_law_967 ?_
  refine lv_aload_n S.1 S.2.1 dL_law_968 rfl (lv_at hl 0 rfl) ?_
  refine lv_iload_n S.1 S.2.1 dL_law_969 rfl (lv_at hl 3 rfl) ?_
  refine lv_iconst (v := 3) S.1 S.2.1 dL_law_970 (by decide) ?_
  refine lv_iadd S.1 S.2.1 dL_law_971 ?_
  refine w_sld (k := i + 3) S hw hX (by omega) hL (nI_add i 3) dL_law_972 ?_
  refine k_X9_year S (S.2.2.2.2.wd wd1127 rfl) hw hv [11] rfl (by decide) rfl ⟨rfl, rfl, Nat.le_of_ble_eq_true rfl, Nat.le_of_ble_eq_true rfl⟩ hl.1 (Nat.le_of_ble_eq_true rfl) dL_law_973 hcs (fun H locs hw => ?_)
  have hw : PW D A s.heap (LB cy o om x qm rr cc r g u.2.2 d u.2.1 gm ch v.2 (imL cy i0 ++ imL cy i1)) H locs := hw
  refine lv_icmp_eq (tgt := 1050) S.1 S.2.1 dL_law_976 (by decide) (fun _ => ?_) (fun h => absurd he h)
  exact K _ _ _ _ _ ⟨rr, cc, r, g, u.2.2, d, u.2.1, gm, ch, v.2, i0, i1, hw, hV, hr0, hr1, hce, hsl⟩ hl
set_option maxHeartbeats 4000000 in
set_option maxRecDepth 100000 in
theorem lc_told (hC : cp_told) (S : CX p m c cL_law 4 s args RL D cy) (hX : SC A b L xs s) (hL : L ≤ 2560) {i : Nat} (hi : i + 4 < L) (h : LI D A s.heap cy o om x qm H locs cells slots) (hl : lv_has ls 4 [(0, .ref b), (1, .ref o), (2, .ref om), (3, .int (nI i))]) (K : ∀ (H : Heap) (locs : List Loc) (ls : Array Slot) (cells slots : Nat), LI D A s.heap cy o om x qm H locs cells slots → lv_has ls 4 [(0, .ref b), (1, .ref o), (2, .ref om), (3, .int (nI i))] → W p l e room_1 s m args below meth c H locs cells slots Q (F0 m 1050 ls [])) : W p l e room_1 s m args below meth c H locs cells slots Q (F0 m 1027 ls []) := by
  obtain ⟨rr, cc, r, g, tc, d, tr, gm, ch, M, i0, i1, hw, hV, hr0, hr1, hce, hsl⟩ := h
  have hn0 := imN_le i0
  have hn1 := imN_le i1
  have hcs : cells ≤ room_1.cells ∧ slots ≤ room_1.slots := ⟨by rw [hce]; show _ ≤ 600000; omega, by rw [hsl]; show _ ≤ 7302250; omega⟩
  obtain ⟨u, v, hu, hv, he, hV⟩ := hC cc r g d (imS i0) (imS i1) M  (xs (i + 1)) hV 
  refine lv_aload_n S.1 S.2.1 dL_law_1027 rfl (lv_at hl 1 rfl) ?_
  refine lv_aload_n S.1 S.2.1 dL_law_1028 rfl (lv_at hl 0 rfl) ?_
  refine lv_iload_n S.1 S.2.1 dL_law_1029 rfl (lv_at hl 3 rfl) ?_
  refine lv_iconst (v := 1) S.1 S.2.1 dL_law_1030 (by decide) ?_
  refine lv_iadd S.1 S.2.1 dL_law_1031 ?_
  refine w_sld (k := i + 1) S hw hX (by omega) hL (nI_add i 1) dL_law_1032 ?_
  refine k_X8_told S (S.2.2.2.2.wd wd675 rfl) hw hu [0, 5, 3, 2, 1, 7] rfl (by decide) rfl ⟨rfl, rfl, Nat.le_of_ble_eq_true rfl, Nat.le_of_ble_eq_true rfl⟩ hl.1 (Nat.le_of_ble_eq_true rfl) dL_law_1033 hcs (fun H locs hw => ?_)
  have hw : PW D A s.heap (LB cy o om x qm rr cc r g tc d tr gm ch M (imL cy i0 ++ imL cy i1)) H locs := hw
  refine lv_aload_n S.1 S.2.1 dL_law_1036 rfl (lv_at hl 2 rfl) ?_
  refine lv_aload_n S.1 S.2.1 dL_law_1037 rfl (lv_at hl 0 rfl) ?_
  refine lv_iload_n S.1 S.2.1 dL_law_1038 rfl (lv_at hl 3 rfl) ?_
  refine lv_iconst (v := 1) S.1 S.2.1 dL_law_1039 (by decide) ?_
  refine lv_iadd S.1 S.2.1 dL_law_1040 ?_
  refine w_sld (k := i + 1) S hw hX (by omega) hL (nI_add i 1) dL_law_1041 ?_
  refine k_X9_told S (S.2.2.2.2.wd wd1163 rfl) hw hv [11] rfl (by decide) rfl ⟨rfl, rfl, Nat.le_of_ble_eq_true rfl, Nat.le_of_ble_eq_true rfl⟩ hl.1 (Nat.le_of_ble_eq_true rfl) dL_law_1042 hcs (fun H locs hw => ?_)
  have hw : PW D A s.heap (LB cy o om x qm rr cc r g tc d tr gm ch M (imL cy i0 ++ imL cy i1)) H locs := hw
  refine lv_icmp_eq (tgt := 1050) S.1 S.2.1 dL_law_1045 (by decide) (fun _ => ?_) (fun h => absurd he h)
  exact K _ _ _ _ _ ⟨rr, cc, r, g, tc, d, tr, gm, ch, M, i0, i1, hw, hV, hr0, hr1, hce, hsl⟩ hl
end LWC
