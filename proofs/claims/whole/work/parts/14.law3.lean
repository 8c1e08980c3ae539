set_option maxRecDepth 100000 in
theorem wd83 : Cond.classLink RL 7 RX8 ∈ lw_tbl := List.mem_of_getElem? (i := 83) (by decide +kernel)
set_option maxRecDepth 100000 in
theorem wd84 : Cond.instantiable RX8 6 ∈ lw_tbl := List.mem_of_getElem? (i := 84) (by decide +kernel)
set_option maxRecDepth 100000 in
theorem wd85 : Cond.methodLink RL 9 yX8_init ∈ lw_tbl := List.mem_of_getElem? (i := 85) (by decide +kernel)
set_option maxRecDepth 100000 in
theorem wd86 : Cond.instanceMethod yX8_init ∈ lw_tbl := List.mem_of_getElem? (i := 86) (by decide +kernel)
set_option maxRecDepth 100000 in
theorem wd87 : Cond.code yX8_init cX8_init 1 none ∈ lw_tbl := List.mem_of_getElem? (i := 87) (by decide +kernel)
set_option maxRecDepth 100000 in
theorem wd691 : Cond.classLink RL 10 RX9 ∈ lw_tbl := List.mem_of_getElem? (i := 691) (by decide +kernel)
set_option maxRecDepth 100000 in
theorem wd692 : Cond.instantiable RX9 37 ∈ lw_tbl := List.mem_of_getElem? (i := 692) (by decide +kernel)
set_option maxRecDepth 100000 in
theorem wd693 : Cond.methodLink RL 12 yX9_init ∈ lw_tbl := List.mem_of_getElem? (i := 693) (by decide +kernel)
set_option maxRecDepth 100000 in
theorem wd694 : Cond.instanceMethod yX9_init ∈ lw_tbl := List.mem_of_getElem? (i := 694) (by decide +kernel)
set_option maxRecDepth 100000 in
theorem wd695 : Cond.code yX9_init cX9_init 2 none ∈ lw_tbl := List.mem_of_getElem? (i := 695) (by decide +kernel)
/-! THE CLAIM OUT OF ONE WALK OF THE LAW'S BODY. Your part is whole_start (and what it stands on); all else here is the same for every law, but numbers. -/
def R_law : String := "SwornLaneLaw"
def lw_P (b : Addr) (xs : List Int32) (args : Array Value) (s : State) : Prop := args = #[.ref b] ∧ s.IntsAt b xs ∧ xs.length ≤ 2560 ∧ (Jvm.Cond.and given_1 narrow_1).before args s = true
def lw_Q (_ : Array Value) (s : State) (o : Outcome) (t : State) : Prop := o = .returned (some (.int 1)) ∧ Framed s o t [] 600000 7302250
def lw_Z (below : List Frame) (a : Array Value) (s : State) : State → Prop := fun t => ∃ o, t.status = .running ∧ Ended t below o ∧ lw_Q a s o t
/-- the law's own end, with 1 on the stack, nothing written that was there before, its room as the claim has it -/
theorem lw_ret {p : Program} {l : Launch} {e : Env} {s : State} {m : MethodId} {below : List Frame} {meth : Method} {c : Code} {b : Nat} (hx : p.tables.exec = Jvm.exec) (hb : c.code = code) (hr : meth.sig.returnType = ret) (hlocks : meth.locks = false) {pc : Nat} {H : Heap} {ls : Array Slot} (hdg : decode code pc = .ok (.ireturn, 1)) : W p l e room_1 s m #[Value.ref b] below meth c H [] 600000 7302250 (lw_Z below #[Value.ref b] s) (F0 m pc ls [.int 1]) := by
  intro T hT X
  obtain ⟨fs, hret, hrun, hended, hW, hframe⟩ := X.leave (v := some (.int 1)) (hlocks := hlocks) (fun h => by rw [hr] at h; cases h)
  have hmeth' : T.vm.method? m = some meth := X.method'
  refine ⟨T.setFrames fs, ?_, .returned (some (.int 1)), hrun, hended, rfl, ⟨_, rfl⟩, hW, hframe⟩
  jvm_step X.here [X.here.top, hx, hb, hdg, hmeth', hr, ret, narrow_b1]
  (try refine ⟨rfl, ?_⟩); (try refine ⟨rfl, ?_⟩)
  first | (intro acts; rw [hret _ acts rfl rfl rfl]) | rw [hret _ _ rfl rfl rfl]
  exact Steps.refl _
/-- what holds at the law's entry: the machine, the code, the tables' words (any of lw_tbl by 'hts w (by decide +kernel)'), the script of L ints xs at the cell b, what the Statement gives of the start (any of its parts by flat_of_before) -/
def lw_At (p : Program) (s : State) (m : MethodId) (meth : Method) (c : Code) (b L : Nat) (xs : Nat → Int32) : Prop :=
  p.tables.exec = Jvm.exec ∧ c.code = code ∧ meth.sig.returnType = ret ∧ c.maxLocals = 4 ∧ s.vm.findClass R_law = some m.cls ∧ (∀ w ∈ lw_tbl, w.before #[Value.ref b] s = true) ∧ va_X b L xs s s.heap ∧ b < s.heap.size ∧ meth.locks = false ∧ (Jvm.Cond.and given_1 narrow_1).before #[Value.ref b] s = true
theorem gt_iff_ {L i : Nat} (hL : L ≤ 2560) (hi : i ≤ 2570) : (Int32.ofNat L - 5 < nI i) ↔ L < i + 5 := by
  have e1 : (Int32.ofNat L - 5).toInt = (L : Int) - 5 := by
    have h := pk_sub_toInt (a := L) (b := 5) (by omega) (by omega)
    exact h
  have e2 : (nI i).toInt = (i : Int) := nI_toInt (by omega)
  rw [Int32.lt_iff_toInt_lt, e1, e2]
  omega
set_option maxHeartbeats 8000000 in
set_option maxRecDepth 100000 in
theorem law_loop {p : Program} {l : Launch} {e : Env} {s : State} {m : MethodId} {below : List Frame} {meth : Method} {c : Code} {D : va_G} {cy : Nat → ClassId} {b L : Nat} {xs : Nat → Int32} {o om : Nat} {x : Nat → Nat → Nat} {qm : Nat → Nat} (hC : CPL) (S : CX p m c cL_law 4 s #[Value.ref b] RL D cy) (hr : meth.sig.returnType = ret) (hlocks : meth.locks = false) (hX : SC (fun q : Nat => s.heap.size ≤ q) b L xs s) (hL : L ≤ 2560) :
    ∀ (n i : Nat) (H : Heap) (locs : List Loc) (ls : Array Slot) (cells slots : Nat), i ≤ L + 5 → L + 6 ≤ i + n → LI D (fun q : Nat => s.heap.size ≤ q) s.heap cy o om x qm H locs cells slots → lv_has ls 4 [(0, .ref b), (1, .ref o), (2, .ref om), (3, .int (nI i))] → W p l e room_1 s m #[Value.ref b] below meth c H locs cells slots (lw_Z below #[Value.ref b] s) (F0 m 18 ls []) := by
  intro n
  induction n with
  | zero => intro i H locs ls cells slots h1 h2; omega
  | succ n ih =>
    intro i H locs ls cells slots h1 h2 h hl
    have hW : ∃ Ps, PW D (fun q : Nat => s.heap.size ≤ q) s.heap Ps H locs ∧ cells ≤ 600000 ∧ slots ≤ 7302250 := by
      obtain ⟨rr, cc, r, g, tc, d, tr, gm, ch, M, i0, i1, hw, hV, hr0, hr1, hce, hsl⟩ := h
      have hn0 := imN_le i0
      have hn1 := imN_le i1
      exact ⟨_, hw, by omega, by omega⟩
    obtain ⟨Ps, hw, hc1, hc2⟩ := hW
    refine lv_iload_n S.1 S.2.1 dL_law_18 rfl (lv_at hl 3 rfl) ?_
    refine lv_aload_n S.1 S.2.1 dL_law_19 rfl (lv_at hl 0 rfl) ?_
    refine va_slen S.1 S.2.1 hX.1 hX.2.1 hX.2.2 hw.2.2.1 dL_law_20 ?_
    refine lv_iconst (v := 5) S.1 S.2.1 dL_law_21 (by decide) ?_
    refine lv_isub S.1 S.2.1 dL_law_22 ?_
    refine lv_icmp_gt (tgt := 1056) S.1 S.2.1 dL_law_23 (by decide) (fun q => ?_) (fun q => ?_)
    · refine lv_iconst (v := 1) S.1 S.2.1 dL_law_1056 (by decide) ?_
      refine va_forget (fun q hq => hw.2.2.1.2.2 q hq) ?_
      refine W.widen (k := 600000) (n := 7302250) hc1 hc2 ?_
      exact lw_ret S.1 S.2.1 hr hlocks dL_law_1057
    · have hi : i + 4 < L := by
        have := (not_congr (gt_iff_ hL (by omega : i ≤ 2570))).mp q
        omega
      have K : ∀ (H : Heap) (locs : List Loc) (ls : Array Slot) (cells slots : Nat), LI D (fun q : Nat => s.heap.size ≤ q) s.heap cy o om x qm H locs cells slots → lv_has ls 4 [(0, .ref b), (1, .ref o), (2, .ref om), (3, .int (nI i))] → W p l e room_1 s m #[Value.ref b] below meth c H locs cells slots (lw_Z below #[Value.ref b] s) (F0 m 1050 ls []) := by
        intro H locs ls cells slots h hl
        refine lv_iinc (v := nI (i + 5)) (lv' := [(3, .int (nI (i + 5))), (0, .ref b), (1, .ref o), (2, .ref om)]) S.1 S.2.1 dL_law_1050 hl (k := 3) rfl (by show nI i + nI 5 = _; exact nI_add i 5) (by decide) rfl (fun ls hl => ?_)
        refine lv_goto (tgt := 18) S.1 S.2.1 dL_law_1053 (by decide) ?_
        exact ih (i + 5) H locs ls cells slots (by omega) (by omega) h (lv_sub hl [1, 2, 3, 0] rfl)
      refine lv_aload_n S.1 S.2.1 dL_law_26 rfl (lv_at hl 0 rfl) ?_
      refine lv_iload_n S.1 S.2.1 dL_law_27 rfl (lv_at hl 3 rfl) ?_
      refine w_sld (k := i) S hw hX (by omega) hL rfl dL_law_28 ?_
      refine lv_bipush (v := 31) S.1 S.2.1 dL_law_29 (by decide) ?_
      refine lv_iand S.1 S.2.1 dL_law_31 ?_
      obtain ⟨h_way, h_thing, h_person, h_pole, h_say, h_wipe, h_fault, h_judge, h_behind, h_lies, h_there, h_first, h_done, h_join, h_cut, h_rule, h_unrule, h_close, h_least, h_swore, h_forget, h_liars, h_ask, h_walk, h_hang, h_year, h_image, h_restore, h_told, h_init⟩ := hC
      by_cases c_0 : xs i &&& 31 = 0
      · refine lv_tableIn (off := 132) (tgt := 164) S.1 S.2.1 dL_law_32 (by rw [c_0]; decide) (by rw [c_0]; decide) (by rw [c_0]; rfl) (by decide) ?_
        exact lc_way h_way S hX hL hi h hl K
      by_cases c_1 : xs i &&& 31 = 1
      · refine lv_tableIn (off := 191) (tgt := 223) S.1 S.2.1 dL_law_32 (by rw [c_1]; decide) (by rw [c_1]; decide) (by rw [c_1]; rfl) (by decide) ?_
        exact lc_thing h_thing S hX hL hi h hl K
      by_cases c_2 : xs i &&& 31 = 2
      · refine lv_tableIn (off := 224) (tgt := 256) S.1 S.2.1 dL_law_32 (by rw [c_2]; decide) (by rw [c_2]; decide) (by rw [c_2]; rfl) (by decide) ?_
        exact lc_person h_person S hX hL hi h hl K
      by_cases c_3 : xs i &&& 31 = 3
      · refine lv_tableIn (off := 267) (tgt := 299) S.1 S.2.1 dL_law_32 (by rw [c_3]; decide) (by rw [c_3]; decide) (by rw [c_3]; rfl) (by decide) ?_
        exact lc_pole h_pole S hX hL hi h hl K
      by_cases c_4 : xs i &&& 31 = 4
      · refine lv_tableIn (off := 306) (tgt := 338) S.1 S.2.1 dL_law_32 (by rw [c_4]; decide) (by rw [c_4]; decide) (by rw [c_4]; rfl) (by decide) ?_
        exact lc_say h_say S hX hL hi h hl K
      by_cases c_5 : xs i &&& 31 = 5
      · refine lv_tableIn (off := 329) (tgt := 361) S.1 S.2.1 dL_law_32 (by rw [c_5]; decide) (by rw [c_5]; decide) (by rw [c_5]; rfl) (by decide) ?_
        exact lc_wipe h_wipe S hX hL hi h hl K
      by_cases c_6 : xs i &&& 31 = 6
      · refine lv_tableIn (off := 342) (tgt := 374) S.1 S.2.1 dL_law_32 (by rw [c_6]; decide) (by rw [c_6]; decide) (by rw [c_6]; rfl) (by decide) ?_
        exact lc_fault h_fault S hX hL hi h hl K
      by_cases c_7 : xs i &&& 31 = 7
      · refine lv_tableIn (off := 355) (tgt := 387) S.1 S.2.1 dL_law_32 (by rw [c_7]; decide) (by rw [c_7]; decide) (by rw [c_7]; rfl) (by decide) ?_
        exact lc_judge h_judge S hX hL hi h hl K
      by_cases c_8 : xs i &&& 31 = 8
      · refine lv_tableIn (off := 378) (tgt := 410) S.1 S.2.1 dL_law_32 (by rw [c_8]; decide) (by rw [c_8]; decide) (by rw [c_8]; rfl) (by decide) ?_
        exact lc_behind h_behind S hX hL hi h hl K
      by_cases c_9 : xs i &&& 31 = 9
      · refine lv_tableIn (off := 411) (tgt := 443) S.1 S.2.1 dL_law_32 (by rw [c_9]; decide) (by rw [c_9]; decide) (by rw [c_9]; rfl) (by decide) ?_
        exact lc_lies h_lies S hX hL hi h hl K
      by_cases c_10 : xs i &&& 31 = 10
      · refine lv_tableIn (off := 444) (tgt := 476) S.1 S.2.1 dL_law_32 (by rw [c_10]; decide) (by rw [c_10]; decide) (by rw [c_10]; rfl) (by decide) ?_
        exact lc_there h_there S hX hL hi h hl K
      by_cases c_11 : xs i &&& 31 = 11
      · refine lv_tableIn (off := 467) (tgt := 499) S.1 S.2.1 dL_law_32 (by rw [c_11]; decide) (by rw [c_11]; decide) (by rw [c_11]; rfl) (by decide) ?_
        exact lc_first h_first S hX hL hi h hl K
      by_cases c_12 : xs i &&& 31 = 12
      · refine lv_tableIn (off := 490) (tgt := 522) S.1 S.2.1 dL_law_32 (by rw [c_12]; decide) (by rw [c_12]; decide) (by rw [c_12]; rfl) (by decide) ?_
        exact lc_done h_done S hX hL hi h hl K
      by_cases c_13 : xs i &&& 31 = 13
      · refine lv_tableIn (off := 503) (tgt := 535) S.1 S.2.1 dL_law_32 (by rw [c_13]; decide) (by rw [c_13]; decide) (by rw [c_13]; rfl) (by decide) ?_
        exact lc_join h_join S hX hL hi h hl K
      by_cases c_14 : xs i &&& 31 = 14
      · refine lv_tableIn (off := 536) (tgt := 568) S.1 S.2.1 dL_law_32 (by rw [c_14]; decide) (by rw [c_14]; decide) (by rw [c_14]; rfl) (by decide) ?_
        exact lc_cut h_cut S hX hL hi h hl K
      by_cases c_15 : xs i &&& 31 = 15
      · refine lv_tableIn (off := 579) (tgt := 611) S.1 S.2.1 dL_law_32 (by rw [c_15]; decide) (by rw [c_15]; decide) (by rw [c_15]; rfl) (by decide) ?_
        exact lc_rule h_rule S hX hL hi h hl K
      by_cases c_16 : xs i &&& 31 = 16
      · refine lv_tableIn (off := 622) (tgt := 654) S.1 S.2.1 dL_law_32 (by rw [c_16]; decide) (by rw [c_16]; decide) (by rw [c_16]; rfl) (by decide) ?_
        exact lc_unrule h_unrule S hX hL hi h hl K
      by_cases c_17 : xs i &&& 31 = 17
      · refine lv_tableIn (off := 635) (tgt := 667) S.1 S.2.1 dL_law_32 (by rw [c_17]; decide) (by rw [c_17]; decide) (by rw [c_17]; rfl) (by decide) ?_
        exact lc_close h_close S hX hL hi h hl K
      by_cases c_18 : xs i &&& 31 = 18
      · refine lv_tableIn (off := 658) (tgt := 690) S.1 S.2.1 dL_law_32 (by rw [c_18]; decide) (by rw [c_18]; decide) (by rw [c_18]; rfl) (by decide) ?_
        exact lc_least h_least S hX hL hi h hl K
      by_cases c_19 : xs i &&& 31 = 19
      · refine lv_tableIn (off := 691) (tgt := 723) S.1 S.2.1 dL_law_32 (by rw [c_19]; decide) (by rw [c_19]; decide) (by rw [c_19]; rfl) (by decide) ?_
        exact lc_swore h_swore S hX hL hi h hl K
      by_cases c_20 : xs i &&& 31 = 20
      · refine lv_tableIn (off := 760) (tgt := 792) S.1 S.2.1 dL_law_32 (by rw [c_20]; decide) (by rw [c_20]; decide) (by rw [c_20]; rfl) (by decide) ?_
        exact lc_forget h_forget S hX hL hi h hl K
      by_cases c_21 : xs i &&& 31 = 21
      · refine lv_tableIn (off := 773) (tgt := 805) S.1 S.2.1 dL_law_32 (by rw [c_21]; decide) (by rw [c_21]; decide) (by rw [c_21]; rfl) (by decide) ?_
        exact lc_liars h_liars S hX hL hi h hl K
      by_cases c_22 : xs i &&& 31 = 22
      · refine lv_tableIn (off := 796) (tgt := 828) S.1 S.2.1 dL_law_32 (by rw [c_22]; decide) (by rw [c_22]; decide) (by rw [c_22]; rfl) (by decide) ?_
        exact lc_ask h_ask S hX hL hi h hl K
      by_cases c_23 : xs i &&& 31 = 23
      · refine lv_tableIn (off := 819) (tgt := 851) S.1 S.2.1 dL_law_32 (by rw [c_23]; decide) (by rw [c_23]; decide) (by rw [c_23]; rfl) (by decide) ?_
        exact lc_walk h_walk S hX hL hi h hl K
      by_cases c_24 : xs i &&& 31 = 24
      · refine lv_tableIn (off := 852) (tgt := 884) S.1 S.2.1 dL_law_32 (by rw [c_24]; decide) (by rw [c_24]; decide) (by rw [c_24]; rfl) (by decide) ?_
        exact lc_hang h_hang S hX hL hi h hl K
      by_cases c_25 : xs i &&& 31 = 25
      · refine lv_tableIn (off := 906) (tgt := 938) S.1 S.2.1 dL_law_32 (by rw [c_25]; decide) (by rw [c_25]; decide) (by rw [c_25]; rfl) (by decide) ?_
        exact lc_year h_year S hX hL hi h hl K
      by_cases c_26 : xs i &&& 31 = 26
      · refine lv_tableIn (off := 949) (tgt := 981) S.1 S.2.1 dL_law_32 (by rw [c_26]; decide) (by rw [c_26]; decide) (by rw [c_26]; rfl) (by decide) ?_
        exact lc_image h_image h_init S hX hL hi h hl K
      by_cases c_27 : xs i &&& 31 = 27
      · refine lv_tableIn (off := 972) (tgt := 1004) S.1 S.2.1 dL_law_32 (by rw [c_27]; decide) (by rw [c_27]; decide) (by rw [c_27]; rfl) (by decide) ?_
        exact lc_restore h_restore S hX hL hi h hl K
      by_cases c_28 : xs i &&& 31 = 28
      · refine lv_tableIn (off := 995) (tgt := 1027) S.1 S.2.1 dL_law_32 (by rw [c_28]; decide) (by rw [c_28]; decide) (by rw [c_28]; rfl) (by decide) ?_
        exact lc_told h_told S hX hL hi h hl K
      have t_0 := ne_toInt (k := 0) c_0 (by decide)
      have t_1 := ne_toInt (k := 1) c_1 (by decide)
      have t_2 := ne_toInt (k := 2) c_2 (by decide)
      have t_3 := ne_toInt (k := 3) c_3 (by decide)
      have t_4 := ne_toInt (k := 4) c_4 (by decide)
      have t_5 := ne_toInt (k := 5) c_5 (by decide)
      have t_6 := ne_toInt (k := 6) c_6 (by decide)
      have t_7 := ne_toInt (k := 7) c_7 (by decide)
      have t_8 := ne_toInt (k := 8) c_8 (by decide)
      have t_9 := ne_toInt (k := 9) c_9 (by decide)
      have t_10 := ne_toInt (k := 10) c_10 (by decide)
      have t_11 := ne_toInt (k := 11) c_11 (by decide)
      have t_12 := ne_toInt (k := 12) c_12 (by decide)
      have t_13 := ne_toInt (k := 13) c_13 (by decide)
      have t_14 := ne_toInt (k := 14) c_14 (by decide)
      have t_15 := ne_toInt (k := 15) c_15 (by decide)
      have t_16 := ne_toInt (k := 16) c_16 (by decide)
      have t_17 := ne_toInt (k := 17) c_17 (by decide)
      have t_18 := ne_toInt (k := 18) c_18 (by decide)
      have t_19 := ne_toInt (k := 19) c_19 (by decide)
      have t_20 := ne_toInt (k := 20) c_20 (by decide)
      have t_21 := ne_toInt (k := 21) c_21 (by decide)
      have t_22 := ne_toInt (k := 22) c_22 (by decide)
      have t_23 := ne_toInt (k := 23) c_23 (by decide)
      have t_24 := ne_toInt (k := 24) c_24 (by decide)
      have t_25 := ne_toInt (k := 25) c_25 (by decide)
      have t_26 := ne_toInt (k := 26) c_26 (by decide)
      have t_27 := ne_toInt (k := 27) c_27 (by decide)
      have t_28 := ne_toInt (k := 28) c_28 (by decide)
      refine lv_tableOut (tgt := 1050) S.1 S.2.1 dL_law_32 (by omega) (by decide) ?_
      exact K H locs ls cells slots h hl
theorem in_of {ws : List Cond} (h : (ws.all (fun w => decide (w ∈ lw_tbl) && tb_ok w)) = true) : ∀ w ∈ ws, w ∈ lw_tbl := fun w hw => by
  have h1 := List.all_eq_true.mp h w hw
  simp only [Bool.and_eq_true, decide_eq_true_eq] at h1
  exact h1.1
set_option maxHeartbeats 4000000 in
theorem kx_start {s : State} {args : Array Value} (hts : ∀ w ∈ lw_tbl, w.before args s = true) : ∃ (D : va_G) (cy : Nat → ClassId), KX D cy s := by
  obtain ⟨c0, iS0, hK0⟩ := u_known (C := RX0) (T := TX0) (N := 1) (n := 1) hts (in_of inl_X0) (hts (.instantiable RX0 1) wd251)
  obtain ⟨c1, iS1, hK1⟩ := u_known (C := RX1) (T := TX1) (N := 7) (n := 7) hts (in_of inl_X1) (hts (.instantiable RX1 7) wd98)
  obtain ⟨c2, iS2, hK2⟩ := u_known (C := RX2) (T := TX2) (N := 1) (n := 1) hts (in_of inl_X2) (hts (.instantiable RX2 1) wd241)
  obtain ⟨c3, iS3, hK3⟩ := u_known (C := RX3) (T := TX3) (N := 6) (n := 6) hts (in_of inl_X3) (hts (.instantiable RX3 6) wd179)
  obtain ⟨c4, iS4, hK4⟩ := u_known (C := RX4) (T := TX4) (N := 3) (n := 3) hts (in_of inl_X4) (hts (.instantiable RX4 3) wd134)
  obtain ⟨c5, iS5, hK5⟩ := u_known (C := RX5) (T := TX5) (N := 2) (n := 2) hts (in_of inl_X5) (hts (.instantiable RX5 2) wd151)
  obtain ⟨c6, iS6, hK6⟩ := u_known (C := RX6) (T := TX6) (N := 6) (n := 6) hts (in_of inl_X6) (hts (.instantiable RX6 6) wd208)
  obtain ⟨c7, iS7, hK7⟩ := u_known (C := RX7) (T := TX7) (N := 3) (n := 3) hts (in_of inl_X7) (hts (.instantiable RX7 3) wd92)
  obtain ⟨c8, iS8, hK8⟩ := u_known (C := RX8) (T := TX8) (N := 6) (n := 6) hts (in_of inl_X8) (hts (.instantiable RX8 6) wd84)
  obtain ⟨c9, iS9, hK9⟩ := u_known (C := RX9) (T := TX9) (N := 37) (n := 37) hts (in_of inl_X9) (hts (.instantiable RX9 37) wd692)
  obtain ⟨a0, kA0, p0, f0, g0, e0⟩ := Cond.arrayClass_spec (hts _ wd_ac_int)
  obtain ⟨a1, kA1, p1, f1, g1, e1⟩ := Cond.arrayClass_spec (hts _ wd_ac_boolean)
  obtain ⟨a2, kA2, p2, f2, g2, e2⟩ := Cond.arrayClass_spec (hts _ wd_ac_long)
  obtain ⟨p3, a3, kA3, w1, -, g3, e3, f3⟩ := Cond.arrayOver_spec (hts _ wd_ao_W)
  refine ⟨(fun k => [c0, c1, c2, c3, c4, c5, c6, c7, c8, c9].getD k c0, fun k => [iS0, iS1, iS2, iS3, iS4, iS5, iS6, iS7, iS8, iS9].getD k iS0), (fun k => [a0, a1, a2, a3].getD k a0), ⟨fun k q hq => ?_, fun k q hq => ?_⟩, fun w hw hg => tb_move (State.WarmedH.refl s) hg (hts w hw)⟩
  · match k, hq with
    | 0, hq => cases hq; exact hK0
    | 1, hq => cases hq; exact hK1
    | 2, hq => cases hq; exact hK2
    | 3, hq => cases hq; exact hK3
    | 4, hq => cases hq; exact hK4
    | 5, hq => cases hq; exact hK5
    | 6, hq => cases hq; exact hK6
    | 7, hq => cases hq; exact hK7
    | 8, hq => cases hq; exact hK8
    | 9, hq => cases hq; exact hK9
    | k + 10, hq => simp [vwCl] at hq
  · match k, hq with
    | 0, hq => cases hq; exact ⟨fun n z => ⟨fun k h => (by cases h), kA0, g0, p0, e0⟩, f0⟩
    | 1, hq => cases hq; exact ⟨fun n z => ⟨fun k h => (by cases h), kA1, g1, p1, e1⟩, f1⟩
    | 2, hq => cases hq; exact ⟨fun n z => ⟨fun k h => (by cases h), kA2, g2, p2, e2⟩, f2⟩
    | 3, hq => cases hq; exact ⟨fun n z => ⟨fun k h => (by cases h), kA3, g3, p3, e3⟩, kA3, p3, g3, e3, w1, f3⟩
    | k + 4, hq => simp [kx_tys] at hq
set_option maxHeartbeats 8000000 in
set_option maxRecDepth 100000 in
theorem whole_startC (hC : CPL) {p : Program} {e : Env} {s : State} {m : MethodId} {below : List Frame} {meth : Method} {c : Code} (l : Launch) {b L : Nat} {xs : Nat → Int32} (hL : L ≤ 2560) (C0 : lw_At p s m meth c b L xs) : W p l e room_1 s m #[Value.ref b] below meth c s.heap [] 0 0 (lw_Z below #[Value.ref b] s) (entryFrame m ([Value.ref b] : List Value).toArray 4) := by
  obtain ⟨hx, hb, hr, hml, hown, hts, hX0, hbl, hlocks, hgv⟩ := C0
  obtain ⟨D, cy, hK⟩ := kx_start hts
  have S : CX p m c cL_law 4 s #[Value.ref b] RL D cy := ⟨hx, hb, hml, hown, hK⟩
  have hX : SC (fun q : Nat => s.heap.size ≤ q) b L xs s := ⟨hX0, hbl, Nat.not_le.mpr hbl⟩
  have hI : cp_init := hC.2.2.2.2.2.2.2.2.2.2.2.2.2.2.2.2.2.2.2.2.2.2.2.2.2.2.2.2.2
  obtain ⟨c2, M, hc2, hM, hV⟩ := hI
  have hw : PW D (fun q : Nat => s.heap.size ≤ q) s.heap [[], [], [], [], [], [], [], [], [], []] s.heap [] := ⟨fun k q h => by simp at h, ⟨fun i j p q h => by simp at h, fun k q h => by simp at h⟩, va_S.rf, fun _ h => h⟩
  have hl := lv_entry ([.ref b]) (n := 4) (Nat.le_of_ble_eq_true rfl)
  rw [lg_entry_eq]
  generalize (lg_sl ([.ref b]) ++ List.replicate (4 - (lg_sl ([.ref b])).length) Slot.unset).toArray = ls at hl ⊢
  have hl : lv_has ls 4 [(0, .ref b)] := hl
  refine x_new (ci := 8) (fs := [.null, .null, .null, .null, .null, .null]) S hw rfl (lay_X8 S.2.2.2.2) tyX8 tyX8_ok (S.2.2.2.2.wd wd83 rfl) (S.2.2.2.2.wd wd84 rfl) (S.2.2.2.2.wd wd70 rfl) (fun j hj => by rcases (show j = 0 ∨ j = 1 ∨ j = 2 ∨ j = 3 ∨ j = 4 ∨ j = 5 by omega) with rfl | rfl | rfl | rfl | rfl | rfl <;> rfl) (Nat.le_of_ble_eq_true rfl) (Nat.le_of_ble_eq_true rfl) dL_law_0 (fun a8 H hw => ?_)
  have hw : PW D (fun q : Nat => s.heap.size ≤ q) s.heap [[], [], [], [], [], [], [], [], [], [], [(a8, .inr (8, [.null, .null, .null, .null, .null, .null]))]] H _ := hw
  refine lv_dup S.1 S.2.1 dL_law_3 rfl ?_
  refine x_callI (n := 0) (As := []) S hw (c_X8_init l D cy a8 c2 hc2) (MF.of S.2.2.2.2 wd87 wd70 (by decide)) (S.2.2.2.2.wd wd86 rfl) rfl (S.2.2.2.2.wd wd85 rfl) ⟨rfl, rfl, Nat.le_of_ble_eq_true rfl, Nat.le_of_ble_eq_true rfl⟩ [10, 0, 1, 2, 3, 4, 5, 6, 7, 8, 9] rfl (by decide) (fun _ => rfl) rfl hl.1 rfl (Nat.le_of_ble_eq_true rfl) dL_law_4 ⟨Nat.le_of_ble_eq_true rfl, Nat.le_of_ble_eq_true rfl⟩ (fun x H locs hw => ?_)
  have hw : PW D (fun q : Nat => s.heap.size ≤ q) s.heap ([pX1 cy (x 5 0) (x 1) c2, pX4 cy (x 5 1) (x 2) zS, pX5 cy (x 5 2) (x 3) zS, pX1 cy (x 7 0) (x 4) c2, pX7 (x 0 0) (x 5), pIm cy (x 0 1) (fun _ => none), pX3 cy (x 0 2) (x 6) zS, pX6 (x 0 3) (x 7) zS, pX2 cy (x 0 4) (x 8) zS, pX0 cy (x 0 5) (x 9) (fun _ => 0)] ++ [pX8 a8 (x 0)]) H locs := hw
  have hw : PW D (fun q : Nat => s.heap.size ≤ q) s.heap [pX8 a8 (x 0), pX1 cy (x 5 0) (x 1) c2, pX4 cy (x 5 1) (x 2) zS, pX5 cy (x 5 2) (x 3) zS, pX1 cy (x 7 0) (x 4) c2, pX7 (x 0 0) (x 5), pIm cy (x 0 1) (fun _ => none), pX3 cy (x 0 2) (x 6) zS, pX6 (x 0 3) (x 7) zS, pX2 cy (x 0 4) (x 8) zS, pX0 cy (x 0 5) (x 9) (fun _ => 0)] H locs := pw_perm hw List.perm_append_comm
  refine lv_astore_n (lv' := [(1, .ref a8), (0, .ref b)]) S.1 S.2.1 dL_law_7 rfl hl (by decide) rfl (fun ls hl => ?_)
  refine x_new (ci := 9) (fs := [.null, .null, .null, .null, .null, .int 0, .int 0, .null, .null, .null, .int 0, .null, .null, .null, .null, .int 0, .null, .int 0, .null, .null, .null, .int 0, .int 0, .int 0, .null, .int 0, .int 0, .int 0, .int 0, .int 0, .int 0, .null, .null, .null, .null, .int 0, .int 0]) S hw rfl (lay_X9 S.2.2.2.2) tyX9 tyX9_ok (S.2.2.2.2.wd wd691 rfl) (S.2.2.2.2.wd wd692 rfl) (S.2.2.2.2.wd wd79 rfl) (fun j hj => by rcases (show j = 0 ∨ j = 1 ∨ j = 2 ∨ j = 3 ∨ j = 4 ∨ j = 5 ∨ j = 6 ∨ j = 7 ∨ j = 8 ∨ j = 9 ∨ j = 10 ∨ j = 11 ∨ j = 12 ∨ j = 13 ∨ j = 14 ∨ j = 15 ∨ j = 16 ∨ j = 17 ∨ j = 18 ∨ j = 19 ∨ j = 20 ∨ j = 21 ∨ j = 22 ∨ j = 23 ∨ j = 24 ∨ j = 25 ∨ j = 26 ∨ j = 27 ∨ j = 28 ∨ j = 29 ∨ j = 30 ∨ j = 31 ∨ j = 32 ∨ j = 33 ∨ j = 34 ∨ j = 35 ∨ j = 36 by omega) with rfl | rfl | rfl | rfl | rfl | rfl | rfl | rfl | rfl | rfl | rfl | rfl | rfl | rfl | rfl | rfl | rfl | rfl | rfl | rfl | rfl | rfl | rfl | rfl | rfl | rfl | rfl | rfl | rfl | rfl | rfl | rfl | rfl | rfl | rfl | rfl | rfl <;> rfl) (Nat.le_of_ble_eq_true rfl) (Nat.le_of_ble_eq_true rfl) dL_law_8 (fun a9 H hw => ?_)
  have hw : PW D (fun q : Nat => s.heap.size ≤ q) s.heap [pX8 a8 (x 0), pX1 cy (x 5 0) (x 1) c2, pX4 cy (x 5 1) (x 2) zS, pX5 cy (x 5 2) (x 3) zS, pX1 cy (x 7 0) (x 4) c2, pX7 (x 0 0) (x 5), pIm cy (x 0 1) (fun _ => none), pX3 cy (x 0 2) (x 6) zS, pX6 (x 0 3) (x 7) zS, pX2 cy (x 0 4) (x 8) zS, pX0 cy (x 0 5) (x 9) (fun _ => 0), [(a9, .inr (9, [.null, .null, .null, .null, .null, .int 0, .int 0, .null, .null, .null, .int 0, .null, .null, .null, .null, .int 0, .null, .int 0, .null, .null, .null, .int 0, .int 0, .int 0, .null, .int 0, .int 0, .int 0, .int 0, .int 0, .int 0, .null, .null, .null, .null, .int 0, .int 0]))]] H _ := hw
  refine lv_dup S.1 S.2.1 dL_law_11 rfl ?_
  refine x_callI (n := 0) (As := []) S hw (c_X9_init l D cy a9 M hM) (MF.of S.2.2.2.2 wd695 wd79 (by decide)) (S.2.2.2.2.wd wd694 rfl) rfl (S.2.2.2.2.wd wd693 rfl) ⟨rfl, rfl, Nat.le_of_ble_eq_true rfl, Nat.le_of_ble_eq_true rfl⟩ [11] rfl (by decide) (fun _ => rfl) rfl hl.1 rfl (Nat.le_of_ble_eq_true rfl) dL_law_12 ⟨Nat.le_of_ble_eq_true rfl, Nat.le_of_ble_eq_true rfl⟩ (fun x9 H locs hw => ?_)
  have hw : PW D (fun q : Nat => s.heap.size ≤ q) s.heap (LB cy a8 a9 x (x9 0) (fun _ => none) c2 zS zS c2 zS zS zS (fun _ => 0) M (imL cy none ++ imL cy none)) H locs := hw
  refine lv_astore_n (lv' := [(2, .ref a9), (1, .ref a8), (0, .ref b)]) S.1 S.2.1 dL_law_15 rfl hl (by decide) rfl (fun ls hl => ?_)
  refine lv_iconst (v := 0) S.1 S.2.1 dL_law_16 (by decide) ?_
  refine lv_istore_n (lv' := [(3, .int 0), (2, .ref a9), (1, .ref a8), (0, .ref b)]) S.1 S.2.1 dL_law_17 rfl hl (by decide) rfl (fun ls hl => ?_)
  refine W.widen (k := 100) (n := 10000) (Nat.le_of_ble_eq_true rfl) (Nat.le_of_ble_eq_true rfl) ?_
  exact law_loop hC S hr hlocks hX hL (L + 6) 0 H locs ls 100 10000 (Nat.zero_le _) (by omega) ⟨fun _ => none, c2, zS, zS, c2, zS, zS, zS, fun _ => 0, M, none, none, hw, hV, rfl, rfl, rfl, rfl⟩ (lv_sub hl [3, 2, 1, 0] rfl)
