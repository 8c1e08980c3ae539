abbrev rmX9_whyNotBack : Room := { frames := 0, cells := 0, slots := 0, locals := 0 }
def f_X9_whyNotBack (x1 : Int32) (σ0 : pStt) : Option (Int32) := (if (σ0.1 0) = 0 then some 6 else (ld (σ0.2 2) 6 x1).bind (fun x_3 => if x_3 = 0 then some 0 else some 7) : Option Int32).bind (fun v_1 => some v_1)
set_option maxHeartbeats 4000000 in
set_option maxRecDepth 100000 in
theorem c_X9_whyNotBack (l : Launch) (D : va_G) (cy : Nat → ClassId) (o0 : Nat) (q0 : Nat → Nat) (x1 : Int32) (σ0 : pStt) (u : Int32) (hf : f_X9_whyNotBack x1 σ0 = some u) : CT l yX9_whyNotBack cX9_whyNotBack 2 (some .int) rmX9_whyNotBack D cy [.ref o0, .int x1] [pX9 cy o0 q0 σ0] (some (.int u)) [pX9 cy o0 q0 σ0] := by
  refine CT.of (by decide) (Nat.le_of_ble_eq_true rfl) (fun p e s m args below meth c ls A Q hA hQ S hr hlk hl hw => ?_)
  have hl : lv_has ls 2 [(0, .ref o0), (1, .int x1)] := hl
  rw [f_X9_whyNotBack] at hf
  refine lv_aload_n S.1 S.2.1 dX9_whyNotBack_0 rfl (lv_at hl 0 rfl) ?_
  refine gf_X9_74 S hw 0 rfl dX9_whyNotBack_1 ?_
  obtain ⟨v_1, e_v_1, hf⟩ := ob hf
  have hJ_v_1 : ∀ (H : Heap) (locs : List Loc), PW D A s.heap [pX9 cy o0 q0 σ0] H locs → W p l e rmX9_whyNotBack s m args below meth c H locs 0 0 Q (F0 m 27 ls [.int v_1]) := by
    intro H locs hw
    cases hf
    exact w_iret S hr hlk hA hQ hw dX9_whyNotBack_27
  replace hf := e_v_1
  clear e_v_1
  refine lv_if_ne (tgt := 12) S.1 S.2.1 dX9_whyNotBack_4 (by decide) (fun c_2 => ?_) (fun c_2 => ?_)
  · replace hf := (if_neg c_2).symm.trans hf
    refine lv_aload_n S.1 S.2.1 dX9_whyNotBack_12 rfl (lv_at hl 0 rfl) ?_
    refine gf_X9_16 S hw 0 rfl dX9_whyNotBack_13 ?_
    refine lv_iload_n S.1 S.2.1 dX9_whyNotBack_16 rfl (lv_at hl 1 rfl) ?_
    obtain ⟨x_3, e_x_3, hf⟩ := ob hf
    refine al_X9_2 S hw 0 rfl e_x_3 dX9_whyNotBack_17 ?_
    refine lv_if_ne (tgt := 25) S.1 S.2.1 dX9_whyNotBack_18 (by decide) (fun c_4 => ?_) (fun c_4 => ?_)
    · replace hf := (if_neg c_4).symm.trans hf
      refine lv_bipush (v := 7) S.1 S.2.1 dX9_whyNotBack_25 (by decide) ?_
      cases hf
      exact hJ_v_1 _ _ hw
    · replace hf := (if_pos c_4).symm.trans hf
      refine lv_iconst (v := 0) S.1 S.2.1 dX9_whyNotBack_21 (by decide) ?_
      refine lv_goto (tgt := 27) S.1 S.2.1 dX9_whyNotBack_22 (by decide) ?_
      cases hf
      exact hJ_v_1 _ _ hw
  · replace hf := (if_pos c_2).symm.trans hf
    refine lv_bipush (v := 6) S.1 S.2.1 dX9_whyNotBack_7 (by decide) ?_
    refine lv_goto (tgt := 27) S.1 S.2.1 dX9_whyNotBack_9 (by decide) ?_
    cases hf
    exact hJ_v_1 _ _ hw
section
variable {p : Program} {l : Launch} {e : Env} {R : Room} {s : State} {m : MethodId} {args : Array Value} {below : List Frame} {meth : Method} {c : Code} {H : Heap} {locs : List Loc} {cells slots : Nat} {Q : State → Prop} {cc : ByteArray} {pc nL : Nat} {ls : Array Slot} {rest : List Value} {D : va_G} {cy : Nat → ClassId} {A : Nat → Prop} {H0 : Heap} {own : String} {Ps : List va_W}
set_option maxRecDepth 100000 in
theorem k_X9_whyNotBack {o0 : Nat} {q0 : Nat → Nat} {x1 : Int32} {σ0 : pStt} {u : Int32} {index : Nat} (S : CX p m c cc nL s args own D cy) (hl : (Cond.methodLink own index yX9_whyNotBack).before args s = true) (hw : PW D A H0 Ps H locs) (hf : f_X9_whyNotBack x1 σ0 = some u) (js : List Nat) (hC : js.map (fun j => Ps[j]?) = [some (pX9 cy o0 q0 σ0)]) (hnd : js.Nodup) (hlen : js.length = 1) (hR : RMok rmX9_whyNotBack R 2) (hsize : ls.size = nL) (hrest : (rest.map fun v => v.category).sum ≤ 8) (hdg : decode cc pc = .ok (.invokevirtual index, 3)) (hcs : cells ≤ R.cells ∧ slots ≤ R.slots)
    (kk : ∀ (H1 : Heap) (locs1 : List Loc), PW D A H0 (setAll Ps js [pX9 cy o0 q0 σ0]) H1 locs1 → W p l e R s m args below meth c H1 locs1 cells slots Q (F0 m (pc + 3) ls (.int u :: rest))) : W p l e R s m args below meth c H locs cells slots Q (F0 m pc ls (.int x1 :: .ref o0 :: rest)) :=
  w_callV (n := 1) (ov := (some (.int u))) (As := [.int x1]) (Cs := [pX9 cy o0 q0 σ0]) (Cs' := [pX9 cy o0 q0 σ0]) S hw (c_X9_whyNotBack l D cy o0 q0 x1 σ0 u hf) (MF.of S.2.2.2.2 wd953 wd79 (by decide)) (S.2.2.2.2.wd wd952 rfl) (S.2.2.2.2.wd wd39 rfl) hl hR js hC hnd hlen rfl rfl rfl rfl hsize rfl hrest hdg hcs kk
end
abbrev rmX9_whyNotDeed : Room := { frames := 1, cells := 0, slots := 0, locals := 21 }
def f_X9_whyNotDeed (x1 : Int32) (x2 : Int32) (x3 : Int32) (σ0 : pStt) : Option (Int32) := (ld (σ0.2 2) 6 x2).bind (fun x_1 => if 0 ≤ x_1 then (ld (σ0.2 4) 6 x2).bind (fun x_3 => if x_3 = 1 then some 5 else if x1 = 5 then (f_X9_whyNotBack x2 σ0).bind (fun u_6 => some u_6) else if x1 = 6 then (ld (σ0.2 2) 6 x2).bind (fun x_8 => (ld (σ0.2 0) 8 x_8).bind (fun x_9 => (f_X9_has x_9 x3).bind (fun u_10 => (if u_10 = 0 then some 8 else some 0 : Option Int32).bind (fun v_11 => some v_11)))) else if x1 = 7 then (ld (σ0.2 1) 8 x3).bind (fun x_14 => (ld (σ0.2 2) 6 x2).bind (fun x_15 => (if x_14 = x_15 then some 0 else some 9 : Option Int32).bind (fun v_16 => some v_16))) else some 0) else some 4)
set_option maxHeartbeats 4000000 in
set_option maxRecDepth 100000 in
theorem c_X9_whyNotDeed (l : Launch) (D : va_G) (cy : Nat → ClassId) (o0 : Nat) (q0 : Nat → Nat) (x1 : Int32) (x2 : Int32) (x3 : Int32) (σ0 : pStt) (u : Int32) (hf : f_X9_whyNotDeed x1 x2 x3 σ0 = some u) : CT l yX9_whyNotDeed cX9_whyNotDeed 4 (some .int) rmX9_whyNotDeed D cy [.ref o0, .int x1, .int x2, .int x3] [pX9 cy o0 q0 σ0] (some (.int u)) [pX9 cy o0 q0 σ0] := by
  refine CT.of (by decide) (Nat.le_of_ble_eq_true rfl) (fun p e s m args below meth c ls A Q hA hQ S hr hlk hl hw => ?_)
  have hl : lv_has ls 4 [(0, .ref o0), (1, .int x1), (2, .int x2), (3, .int x3)] := hl
  rw [f_X9_whyNotDeed] at hf
  refine lv_aload_n S.1 S.2.1 dX9_whyNotDeed_0 rfl (lv_at hl 0 rfl) ?_
  refine gf_X9_16 S hw 0 rfl dX9_whyNotDeed_1 ?_
  refine lv_iload_n S.1 S.2.1 dX9_whyNotDeed_4 rfl (lv_at hl 2 rfl) ?_
  obtain ⟨x_1, e_x_1, hf⟩ := ob hf
  refine al_X9_2 S hw 0 rfl e_x_1 dX9_whyNotDeed_5 ?_
  refine lv_if_ge (tgt := 11) S.1 S.2.1 dX9_whyNotDeed_6 (by decide) (fun c_2 => ?_) (fun c_2 => ?_)
  · replace hf := (if_pos c_2).symm.trans hf
    refine lv_aload_n S.1 S.2.1 dX9_whyNotDeed_11 rfl (lv_at hl 0 rfl) ?_
    refine gf_X9_22 S hw 0 rfl dX9_whyNotDeed_12 ?_
    refine lv_iload_n S.1 S.2.1 dX9_whyNotDeed_15 rfl (lv_at hl 2 rfl) ?_
    obtain ⟨x_3, e_x_3, hf⟩ := ob hf
    refine al_X9_4 S hw 0 rfl e_x_3 dX9_whyNotDeed_16 ?_
    refine lv_iconst (v := 1) S.1 S.2.1 dX9_whyNotDeed_17 (by decide) ?_
    refine lv_icmp_ne (tgt := 23) S.1 S.2.1 dX9_whyNotDeed_18 (by decide) (fun c_4 => ?_) (fun c_4 => ?_)
    · replace hf := (if_neg c_4).symm.trans hf
      refine lv_iload_n S.1 S.2.1 dX9_whyNotDeed_23 rfl (lv_at hl 1 rfl) ?_
      by_cases c_5 : x1 = 5
      · replace hf := (if_pos c_5).symm.trans hf
        refine lv_tableIn (off := 28) (tgt := 52) S.1 S.2.1 dX9_whyNotDeed_24 (by rw [c_5]; decide) (by rw [c_5]; decide) (by rw [c_5]; rfl) (by decide) ?_
        refine lv_aload_n S.1 S.2.1 dX9_whyNotDeed_52 rfl (lv_at hl 0 rfl) ?_
        refine lv_iload_n S.1 S.2.1 dX9_whyNotDeed_53 rfl (lv_at hl 2 rfl) ?_
        obtain ⟨u_6, e_u_6, hf⟩ := ob hf
        refine k_X9_whyNotBack S (S.2.2.2.2.wd wd950 rfl) hw e_u_6 [0] rfl (by decide) rfl ⟨rfl, rfl, Nat.le_of_ble_eq_true rfl, Nat.le_of_ble_eq_true rfl⟩ hl.1 (Nat.le_of_ble_eq_true rfl) dX9_whyNotDeed_54 ⟨Nat.zero_le _, Nat.zero_le _⟩ (fun H locs hw => ?_)
        have hw : PW D A s.heap [pX9 cy o0 q0 σ0] H locs := hw
        cases hf
        exact w_iret S hr hlk hA hQ hw dX9_whyNotDeed_57
      · replace hf := (if_neg c_5).symm.trans hf
        by_cases c_7 : x1 = 6
        · replace hf := (if_pos c_7).symm.trans hf
          refine lv_tableIn (off := 34) (tgt := 58) S.1 S.2.1 dX9_whyNotDeed_24 (by rw [c_7]; decide) (by rw [c_7]; decide) (by rw [c_7]; rfl) (by decide) ?_
          refine lv_aload_n S.1 S.2.1 dX9_whyNotDeed_58 rfl (lv_at hl 0 rfl) ?_
          refine gf_X9_7 S hw 0 rfl dX9_whyNotDeed_59 ?_
          refine lv_aload_n S.1 S.2.1 dX9_whyNotDeed_62 rfl (lv_at hl 0 rfl) ?_
          refine gf_X9_16 S hw 0 rfl dX9_whyNotDeed_63 ?_
          refine lv_iload_n S.1 S.2.1 dX9_whyNotDeed_66 rfl (lv_at hl 2 rfl) ?_
          obtain ⟨x_8, e_x_8, hf⟩ := ob hf
          refine al_X9_2 S hw 0 rfl e_x_8 dX9_whyNotDeed_67 ?_
          obtain ⟨x_9, e_x_9, hf⟩ := ob hf
          refine al_X9_0 S hw 0 rfl e_x_9 dX9_whyNotDeed_68 ?_
          refine lv_iload_n S.1 S.2.1 dX9_whyNotDeed_69 rfl (lv_at hl 3 rfl) ?_
          obtain ⟨u_10, e_u_10, hf⟩ := ob hf
          refine k_X9_has S (S.2.2.2.2.wd wd943 rfl) hw e_u_10 [] rfl (by decide) rfl ⟨rfl, rfl, Nat.le_of_ble_eq_true rfl, Nat.le_of_ble_eq_true rfl⟩ hl.1 (Nat.le_of_ble_eq_true rfl) dX9_whyNotDeed_70 ⟨Nat.zero_le _, Nat.zero_le _⟩ (fun H locs hw => ?_)
          have hw : PW D A s.heap [pX9 cy o0 q0 σ0] H locs := hw
          obtain ⟨v_11, e_v_11, hf⟩ := ob hf
          have hJ_v_11 : ∀ (H : Heap) (locs : List Loc), PW D A s.heap [pX9 cy o0 q0 σ0] H locs → W p l e rmX9_whyNotDeed s m args below meth c H locs 0 0 Q (F0 m 82 ls [.int v_11]) := by
            intro H locs hw
            cases hf
            exact w_iret S hr hlk hA hQ hw dX9_whyNotDeed_82
          replace hf := e_v_11
          clear e_v_11
          refine lv_if_eq (tgt := 80) S.1 S.2.1 dX9_whyNotDeed_73 (by decide) (fun c_12 => ?_) (fun c_12 => ?_)
          · replace hf := (if_pos c_12).symm.trans hf
            refine lv_bipush (v := 8) S.1 S.2.1 dX9_whyNotDeed_80 (by decide) ?_
            cases hf
            exact hJ_v_11 _ _ hw
          · replace hf := (if_neg c_12).symm.trans hf
            refine lv_iconst (v := 0) S.1 S.2.1 dX9_whyNotDeed_76 (by decide) ?_
            refine lv_goto (tgt := 82) S.1 S.2.1 dX9_whyNotDeed_77 (by decide) ?_
            cases hf
            exact hJ_v_11 _ _ hw
        · replace hf := (if_neg c_7).symm.trans hf
          by_cases c_13 : x1 = 7
          · replace hf := (if_pos c_13).symm.trans hf
            refine lv_tableIn (off := 59) (tgt := 83) S.1 S.2.1 dX9_whyNotDeed_24 (by rw [c_13]; decide) (by rw [c_13]; decide) (by rw [c_13]; rfl) (by decide) ?_
            refine lv_aload_n S.1 S.2.1 dX9_whyNotDeed_83 rfl (lv_at hl 0 rfl) ?_
            refine gf_X9_13 S hw 0 rfl dX9_whyNotDeed_84 ?_
            refine lv_iload_n S.1 S.2.1 dX9_whyNotDeed_87 rfl (lv_at hl 3 rfl) ?_
            obtain ⟨x_14, e_x_14, hf⟩ := ob hf
            refine al_X9_1 S hw 0 rfl e_x_14 dX9_whyNotDeed_88 ?_
            refine lv_aload_n S.1 S.2.1 dX9_whyNotDeed_89 rfl (lv_at hl 0 rfl) ?_
            refine gf_X9_16 S hw 0 rfl dX9_whyNotDeed_90 ?_
            refine lv_iload_n S.1 S.2.1 dX9_whyNotDeed_93 rfl (lv_at hl 2 rfl) ?_
            obtain ⟨x_15, e_x_15, hf⟩ := ob hf
            refine al_X9_2 S hw 0 rfl e_x_15 dX9_whyNotDeed_94 ?_
            obtain ⟨v_16, e_v_16, hf⟩ := ob hf
            have hJ_v_16 : ∀ (H : Heap) (locs : List Loc), PW D A s.heap [pX9 cy o0 q0 σ0] H locs → W p l e rmX9_whyNotDeed s m args below meth c H locs 0 0 Q (F0 m 104 ls [.int v_16]) := by
              intro H locs hw
              cases hf
              exact w_iret S hr hlk hA hQ hw dX9_whyNotDeed_104
            replace hf := e_v_16
            clear e_v_16
            refine lv_icmp_ne (tgt := 102) S.1 S.2.1 dX9_whyNotDeed_95 (by decide) (fun c_17 => ?_) (fun c_17 => ?_)
            · replace hf := (if_neg c_17).symm.trans hf
              refine lv_bipush (v := 9) S.1 S.2.1 dX9_whyNotDeed_102 (by decide) ?_
              cases hf
              exact hJ_v_16 _ _ hw
            · replace hf := (if_pos c_17).symm.trans hf
              refine lv_iconst (v := 0) S.1 S.2.1 dX9_whyNotDeed_98 (by decide) ?_
              refine lv_goto (tgt := 104) S.1 S.2.1 dX9_whyNotDeed_99 (by decide) ?_
              cases hf
              exact hJ_v_16 _ _ hw
          · replace hf := (if_neg c_13).symm.trans hf
            have t_c_5 := ne_toInt (k := 5) c_5 (by decide)
            have t_c_7 := ne_toInt (k := 6) c_7 (by decide)
            have t_c_13 := ne_toInt (k := 7) c_13 (by decide)
            refine lv_tableOut (tgt := 105) S.1 S.2.1 dX9_whyNotDeed_24 (by omega) (by decide) ?_
            refine lv_iconst (v := 0) S.1 S.2.1 dX9_whyNotDeed_105 (by decide) ?_
            cases hf
            exact w_iret S hr hlk hA hQ hw dX9_whyNotDeed_106
    · replace hf := (if_pos c_4).symm.trans hf
      refine lv_iconst (v := 5) S.1 S.2.1 dX9_whyNotDeed_21 (by decide) ?_
      cases hf
      exact w_iret S hr hlk hA hQ hw dX9_whyNotDeed_22
  · replace hf := (if_neg c_2).symm.trans hf
    refine lv_iconst (v := 4) S.1 S.2.1 dX9_whyNotDeed_9 (by decide) ?_
    cases hf
    exact w_iret S hr hlk hA hQ hw dX9_whyNotDeed_10
section
variable {p : Program} {l : Launch} {e : Env} {R : Room} {s : State} {m : MethodId} {args : Array Value} {below : List Frame} {meth : Method} {c : Code} {H : Heap} {locs : List Loc} {cells slots : Nat} {Q : State → Prop} {cc : ByteArray} {pc nL : Nat} {ls : Array Slot} {rest : List Value} {D : va_G} {cy : Nat → ClassId} {A : Nat → Prop} {H0 : Heap} {own : String} {Ps : List va_W}
set_option maxRecDepth 100000 in
theorem k_X9_whyNotDeed {o0 : Nat} {q0 : Nat → Nat} {x1 : Int32} {x2 : Int32} {x3 : Int32} {σ0 : pStt} {u : Int32} {index : Nat} (S : CX p m c cc nL s args own D cy) (hl : (Cond.methodLink own index yX9_whyNotDeed).before args s = true) (hw : PW D A H0 Ps H locs) (hf : f_X9_whyNotDeed x1 x2 x3 σ0 = some u) (js : List Nat) (hC : js.map (fun j => Ps[j]?) = [some (pX9 cy o0 q0 σ0)]) (hnd : js.Nodup) (hlen : js.length = 1) (hR : RMok rmX9_whyNotDeed R 4) (hsize : ls.size = nL) (hrest : (rest.map fun v => v.category).sum ≤ 8) (hdg : decode cc pc = .ok (.invokevirtual index, 3)) (hcs : cells ≤ R.cells ∧ slots ≤ R.slots)
    (kk : ∀ (H1 : Heap) (locs1 : List Loc), PW D A H0 (setAll Ps js [pX9 cy o0 q0 σ0]) H1 locs1 → W p l e R s m args below meth c H1 locs1 cells slots Q (F0 m (pc + 3) ls (.int u :: rest))) : W p l e R s m args below meth c H locs cells slots Q (F0 m pc ls (.int x3 :: .int x2 :: .int x1 :: .ref o0 :: rest)) :=
  w_callV (n := 3) (ov := (some (.int u))) (As := [.int x1, .int x2, .int x3]) (Cs := [pX9 cy o0 q0 σ0]) (Cs' := [pX9 cy o0 q0 σ0]) S hw (c_X9_whyNotDeed l D cy o0 q0 x1 x2 x3 σ0 u hf) (MF.of S.2.2.2.2 wd949 wd79 (by decide)) (S.2.2.2.2.wd wd948 rfl) (S.2.2.2.2.wd wd38 rfl) hl hR js hC hnd hlen rfl rfl rfl rfl hsize rfl hrest hdg hcs kk
end
abbrev rmX9_whyNot : Room := { frames := 2, cells := 0, slots := 0, locals := 44 }
def f_X9_whyNot (x1 : Int32) (x2 : Int32) (x3 : Int32) (σ0 : pStt) : Option (Int32) := if x1 = 0 then (f_X9_whyNoWay x2 x3 0 σ0).bind (fun u_2 => some u_2) else if x1 = 1 then (f_X9_whyNoWay x2 x3 1 σ0).bind (fun u_4 => some u_4) else if x1 = 2 then (ld (σ0.2 1) 8 x2).bind (fun x_6 => (if x_6 = (-6) then some 0 else some 3 : Option Int32).bind (fun v_7 => some v_7)) else if x1 = 3 then some 0 else if x1 = 4 then (ld (σ0.2 2) 6 x2).bind (fun x_11 => (if x_11 < 0 then if (σ0.1 0) = 0 then some 6 else some 0 else some 4 : Option Int32).bind (fun v_12 => some v_12)) else if x1 = 9 then (if (σ0.1 1) = 99 then some 10 else some 0 : Option Int32).bind (fun v_16 => some v_16) else (f_X9_whyNotDeed x1 x2 x3 σ0).bind (fun u_18 => some u_18)
set_option maxHeartbeats 4000000 in
set_option maxRecDepth 100000 in
theorem c_X9_whyNot (l : Launch) (D : va_G) (cy : Nat → ClassId) (o0 : Nat) (q0 : Nat → Nat) (x1 : Int32) (x2 : Int32) (x3 : Int32) (σ0 : pStt) (u : Int32) (hf : f_X9_whyNot x1 x2 x3 σ0 = some u) : CT l yX9_whyNot cX9_whyNot 4 (some .int) rmX9_whyNot D cy [.ref o0, .int x1, .int x2, .int x3] [pX9 cy o0 q0 σ0] (some (.int u)) [pX9 cy o0 q0 σ0] := by
  refine CT.of (by decide) (Nat.le_of_ble_eq_true rfl) (fun p e s m args below meth c ls A Q hA hQ S hr hlk hl hw => ?_)
  have hl : lv_has ls 4 [(0, .ref o0), (1, .int x1), (2, .int x2), (3, .int x3)] := hl
  rw [f_X9_whyNot] at hf
  refine lv_iload_n S.1 S.2.1 dX9_whyNot_0 rfl (lv_at hl 1 rfl) ?_
  by_cases c_1 : x1 = 0
  · replace hf := (if_pos c_1).symm.trans hf
    refine lv_tableIn (off := 55) (tgt := 56) S.1 S.2.1 dX9_whyNot_1 (by rw [c_1]; decide) (by rw [c_1]; decide) (by rw [c_1]; rfl) (by decide) ?_
    refine lv_aload_n S.1 S.2.1 dX9_whyNot_56 rfl (lv_at hl 0 rfl) ?_
    refine lv_iload_n S.1 S.2.1 dX9_whyNot_57 rfl (lv_at hl 2 rfl) ?_
    refine lv_iload_n S.1 S.2.1 dX9_whyNot_58 rfl (lv_at hl 3 rfl) ?_
    refine lv_iconst (v := 0) S.1 S.2.1 dX9_whyNot_59 (by decide) ?_
    obtain ⟨u_2, e_u_2, hf⟩ := ob hf
    refine k_X9_whyNoWay S (S.2.2.2.2.wd wd939 rfl) hw e_u_2 [0] rfl (by decide) rfl ⟨rfl, rfl, Nat.le_of_ble_eq_true rfl, Nat.le_of_ble_eq_true rfl⟩ hl.1 (Nat.le_of_ble_eq_true rfl) dX9_whyNot_60 ⟨Nat.zero_le _, Nat.zero_le _⟩ (fun H locs hw => ?_)
    have hw : PW D A s.heap [pX9 cy o0 q0 σ0] H locs := hw
    cases hf
    exact w_iret S hr hlk hA hQ hw dX9_whyNot_63
  · replace hf := (if_neg c_1).symm.trans hf
    by_cases c_3 : x1 = 1
    · replace hf := (if_pos c_3).symm.trans hf
      refine lv_tableIn (off := 63) (tgt := 64) S.1 S.2.1 dX9_whyNot_1 (by rw [c_3]; decide) (by rw [c_3]; decide) (by rw [c_3]; rfl) (by decide) ?_
      refine lv_aload_n S.1 S.2.1 dX9_whyNot_64 rfl (lv_at hl 0 rfl) ?_
      refine lv_iload_n S.1 S.2.1 dX9_whyNot_65 rfl (lv_at hl 2 rfl) ?_
      refine lv_iload_n S.1 S.2.1 dX9_whyNot_66 rfl (lv_at hl 3 rfl) ?_
      refine lv_iconst (v := 1) S.1 S.2.1 dX9_whyNot_67 (by decide) ?_
      obtain ⟨u_4, e_u_4, hf⟩ := ob hf
      refine k_X9_whyNoWay S (S.2.2.2.2.wd wd939 rfl) hw e_u_4 [0] rfl (by decide) rfl ⟨rfl, rfl, Nat.le_of_ble_eq_true rfl, Nat.le_of_ble_eq_true rfl⟩ hl.1 (Nat.le_of_ble_eq_true rfl) dX9_whyNot_68 ⟨Nat.zero_le _, Nat.zero_le _⟩ (fun H locs hw => ?_)
      have hw : PW D A s.heap [pX9 cy o0 q0 σ0] H locs := hw
      cases hf
      exact w_iret S hr hlk hA hQ hw dX9_whyNot_71
    · replace hf := (if_neg c_3).symm.trans hf
      by_cases c_5 : x1 = 2
      · replace hf := (if_pos c_5).symm.trans hf
        refine lv_tableIn (off := 71) (tgt := 72) S.1 S.2.1 dX9_whyNot_1 (by rw [c_5]; decide) (by rw [c_5]; decide) (by rw [c_5]; rfl) (by decide) ?_
        refine lv_aload_n S.1 S.2.1 dX9_whyNot_72 rfl (lv_at hl 0 rfl) ?_
        refine gf_X9_13 S hw 0 rfl dX9_whyNot_73 ?_
        refine lv_iload_n S.1 S.2.1 dX9_whyNot_76 rfl (lv_at hl 2 rfl) ?_
        obtain ⟨x_6, e_x_6, hf⟩ := ob hf
        refine al_X9_1 S hw 0 rfl e_x_6 dX9_whyNot_77 ?_
        refine lv_bipush (v := (-6)) S.1 S.2.1 dX9_whyNot_78 (by decide) ?_
        obtain ⟨v_7, e_v_7, hf⟩ := ob hf
        have hJ_v_7 : ∀ (H : Heap) (locs : List Loc), PW D A s.heap [pX9 cy o0 q0 σ0] H locs → W p l e rmX9_whyNot s m args below meth c H locs 0 0 Q (F0 m 88 ls [.int v_7]) := by
          intro H locs hw
          cases hf
          exact w_iret S hr hlk hA hQ hw dX9_whyNot_88
        replace hf := e_v_7
        clear e_v_7
        refine lv_icmp_ne (tgt := 87) S.1 S.2.1 dX9_whyNot_80 (by decide) (fun c_8 => ?_) (fun c_8 => ?_)
        · replace hf := (if_neg c_8).symm.trans hf
          refine lv_iconst (v := 3) S.1 S.2.1 dX9_whyNot_87 (by decide) ?_
          cases hf
          exact hJ_v_7 _ _ hw
        · replace hf := (if_pos c_8).symm.trans hf
          refine lv_iconst (v := 0) S.1 S.2.1 dX9_whyNot_83 (by decide) ?_
          refine lv_goto (tgt := 88) S.1 S.2.1 dX9_whyNot_84 (by decide) ?_
          cases hf
          exact hJ_v_7 _ _ hw
      · replace hf := (if_neg c_5).symm.trans hf
        by_cases c_9 : x1 = 3
        · replace hf := (if_pos c_9).symm.trans hf
          refine lv_tableIn (off := 88) (tgt := 89) S.1 S.2.1 dX9_whyNot_1 (by rw [c_9]; decide) (by rw [c_9]; decide) (by rw [c_9]; rfl) (by decide) ?_
          refine lv_iconst (v := 0) S.1 S.2.1 dX9_whyNot_89 (by decide) ?_
          cases hf
          exact w_iret S hr hlk hA hQ hw dX9_whyNot_90
        · replace hf := (if_neg c_9).symm.trans hf
          by_cases c_10 : x1 = 4
          · replace hf := (if_pos c_10).symm.trans hf
            refine lv_tableIn (off := 90) (tgt := 91) S.1 S.2.1 dX9_whyNot_1 (by rw [c_10]; decide) (by rw [c_10]; decide) (by rw [c_10]; rfl) (by decide) ?_
            refine lv_aload_n S.1 S.2.1 dX9_whyNot_91 rfl (lv_at hl 0 rfl) ?_
            refine gf_X9_16 S hw 0 rfl dX9_whyNot_92 ?_
            refine lv_iload_n S.1 S.2.1 dX9_whyNot_95 rfl (lv_at hl 2 rfl) ?_
            obtain ⟨x_11, e_x_11, hf⟩ := ob hf
            refine al_X9_2 S hw 0 rfl e_x_11 dX9_whyNot_96 ?_
            obtain ⟨v_12, e_v_12, hf⟩ := ob hf
            have hJ_v_12 : ∀ (H : Heap) (locs : List Loc), PW D A s.heap [pX9 cy o0 q0 σ0] H locs → W p l e rmX9_whyNot s m args below meth c H locs 0 0 Q (F0 m 117 ls [.int v_12]) := by
              intro H locs hw
              cases hf
              exact w_iret S hr hlk hA hQ hw dX9_whyNot_117
            replace hf := e_v_12
            clear e_v_12
            refine lv_if_lt (tgt := 104) S.1 S.2.1 dX9_whyNot_97 (by decide) (fun c_13 => ?_) (fun c_13 => ?_)
            · replace hf := (if_pos c_13).symm.trans hf
              refine lv_aload_n S.1 S.2.1 dX9_whyNot_104 rfl (lv_at hl 0 rfl) ?_
              refine gf_X9_74 S hw 0 rfl dX9_whyNot_105 ?_
              refine lv_if_ne (tgt := 116) S.1 S.2.1 dX9_whyNot_108 (by decide) (fun c_14 => ?_) (fun c_14 => ?_)
              · replace hf := (if_neg c_14).symm.trans hf
                refine lv_iconst (v := 0) S.1 S.2.1 dX9_whyNot_116 (by decide) ?_
                cases hf
                exact hJ_v_12 _ _ hw
              · replace hf := (if_pos c_14).symm.trans hf
                refine lv_bipush (v := 6) S.1 S.2.1 dX9_whyNot_111 (by decide) ?_
                refine lv_goto (tgt := 117) S.1 S.2.1 dX9_whyNot_113 (by decide) ?_
                cases hf
                exact hJ_v_12 _ _ hw
            · replace hf := (if_neg c_13).symm.trans hf
              refine lv_iconst (v := 4) S.1 S.2.1 dX9_whyNot_100 (by decide) ?_
              refine lv_goto (tgt := 117) S.1 S.2.1 dX9_whyNot_101 (by decide) ?_
              cases hf
              exact hJ_v_12 _ _ hw
          · replace hf := (if_neg c_10).symm.trans hf
            by_cases c_15 : x1 = 9
            · replace hf := (if_pos c_15).symm.trans hf
              refine lv_tableIn (off := 117) (tgt := 118) S.1 S.2.1 dX9_whyNot_1 (by rw [c_15]; decide) (by rw [c_15]; decide) (by rw [c_15]; rfl) (by decide) ?_
              refine lv_aload_n S.1 S.2.1 dX9_whyNot_118 rfl (lv_at hl 0 rfl) ?_
              refine gf_X9_174 S hw 0 rfl dX9_whyNot_119 ?_
              refine lv_bipush (v := 99) S.1 S.2.1 dX9_whyNot_122 (by decide) ?_
              obtain ⟨v_16, e_v_16, hf⟩ := ob hf
              have hJ_v_16 : ∀ (H : Heap) (locs : List Loc), PW D A s.heap [pX9 cy o0 q0 σ0] H locs → W p l e rmX9_whyNot s m args below meth c H locs 0 0 Q (F0 m 133 ls [.int v_16]) := by
                intro H locs hw
                cases hf
                exact w_iret S hr hlk hA hQ hw dX9_whyNot_133
              replace hf := e_v_16
              clear e_v_16
              refine lv_icmp_ne (tgt := 132) S.1 S.2.1 dX9_whyNot_124 (by decide) (fun c_17 => ?_) (fun c_17 => ?_)
              · replace hf := (if_neg c_17).symm.trans hf
                refine lv_iconst (v := 0) S.1 S.2.1 dX9_whyNot_132 (by decide) ?_
                cases hf
                exact hJ_v_16 _ _ hw
              · replace hf := (if_pos c_17).symm.trans hf
                refine lv_bipush (v := 10) S.1 S.2.1 dX9_whyNot_127 (by decide) ?_
                refine lv_goto (tgt := 133) S.1 S.2.1 dX9_whyNot_129 (by decide) ?_
                cases hf
                exact hJ_v_16 _ _ hw
            · replace hf := (if_neg c_15).symm.trans hf
              have t_c_1 := ne_toInt (k := 0) c_1 (by decide)
              have t_c_3 := ne_toInt (k := 1) c_3 (by decide)
              have t_c_5 := ne_toInt (k := 2) c_5 (by decide)
              have t_c_9 := ne_toInt (k := 3) c_9 (by decide)
              have t_c_10 := ne_toInt (k := 4) c_10 (by decide)
              have t_c_15 := ne_toInt (k := 9) c_15 (by decide)
              refine w_tabD (tgt := 134) S.1 S.2.1 dX9_whyNot_1 ?_ (by decide) ?_
              · by_cases hh : (x1 : Int32).toInt < 0 ∨ 9 < (x1 : Int32).toInt
                · exact Or.inl hh
                · refine Or.inr ⟨by omega, by omega, ?_⟩
                  have h3 : (x1 : Int32).toInt = 5 ∨ (x1 : Int32).toInt = 6 ∨ (x1 : Int32).toInt = 7 ∨ (x1 : Int32).toInt = 8 := by omega
                  rcases h3 with e3 | e3 | e3 | e3 <;> (rw [e3]; rfl)
              ·
                refine lv_aload_n S.1 S.2.1 dX9_whyNot_134 rfl (lv_at hl 0 rfl) ?_
                refine lv_iload_n S.1 S.2.1 dX9_whyNot_135 rfl (lv_at hl 1 rfl) ?_
                refine lv_iload_n S.1 S.2.1 dX9_whyNot_136 rfl (lv_at hl 2 rfl) ?_
                refine lv_iload_n S.1 S.2.1 dX9_whyNot_137 rfl (lv_at hl 3 rfl) ?_
                obtain ⟨u_18, e_u_18, hf⟩ := ob hf
                refine k_X9_whyNotDeed S (S.2.2.2.2.wd wd946 rfl) hw e_u_18 [0] rfl (by decide) rfl ⟨rfl, rfl, Nat.le_of_ble_eq_true rfl, Nat.le_of_ble_eq_true rfl⟩ hl.1 (Nat.le_of_ble_eq_true rfl) dX9_whyNot_138 ⟨Nat.zero_le _, Nat.zero_le _⟩ (fun H locs hw => ?_)
                have hw : PW D A s.heap [pX9 cy o0 q0 σ0] H locs := hw
                cases hf
                exact w_iret S hr hlk hA hQ hw dX9_whyNot_141
section
variable {p : Program} {l : Launch} {e : Env} {R : Room} {s : State} {m : MethodId} {args : Array Value} {below : List Frame} {meth : Method} {c : Code} {H : Heap} {locs : List Loc} {cells slots : Nat} {Q : State → Prop} {cc : ByteArray} {pc nL : Nat} {ls : Array Slot} {rest : List Value} {D : va_G} {cy : Nat → ClassId} {A : Nat → Prop} {H0 : Heap} {own : String} {Ps : List va_W}
set_option maxRecDepth 100000 in
theorem k_X9_whyNot {o0 : Nat} {q0 : Nat → Nat} {x1 : Int32} {x2 : Int32} {x3 : Int32} {σ0 : pStt} {u : Int32} {index : Nat} (S : CX p m c cc nL s args own D cy) (hl : (Cond.methodLink own index yX9_whyNot).before args s = true) (hw : PW D A H0 Ps H locs) (hf : f_X9_whyNot x1 x2 x3 σ0 = some u) (js : List Nat) (hC : js.map (fun j => Ps[j]?) = [some (pX9 cy o0 q0 σ0)]) (hnd : js.Nodup) (hlen : js.length = 1) (hR : RMok rmX9_whyNot R 4) (hsize : ls.size = nL) (hrest : (rest.map fun v => v.category).sum ≤ 8) (hdg : decode cc pc = .ok (.invokevirtual index, 3)) (hcs : cells ≤ R.cells ∧ slots ≤ R.slots)
    (kk : ∀ (H1 : Heap) (locs1 : List Loc), PW D A H0 (setAll Ps js [pX9 cy o0 q0 σ0]) H1 locs1 → W p l e R s m args below meth c H1 locs1 cells slots Q (F0 m (pc + 3) ls (.int u :: rest))) : W p l e R s m args below meth c H locs cells slots Q (F0 m pc ls (.int x3 :: .int x2 :: .int x1 :: .ref o0 :: rest)) :=
  w_callV (n := 3) (ov := (some (.int u))) (As := [.int x1, .int x2, .int x3]) (Cs := [pX9 cy o0 q0 σ0]) (Cs' := [pX9 cy o0 q0 σ0]) S hw (c_X9_whyNot l D cy o0 q0 x1 x2 x3 σ0 u hf) (MF.of S.2.2.2.2 wd938 wd79 (by decide)) (S.2.2.2.2.wd wd937 rfl) (S.2.2.2.2.wd wd36 rfl) hl hR js hC hnd hlen rfl rfl rfl rfl hsize rfl hrest hdg hcs kk
end
abbrev rmX9_sit : Room := { frames := 0, cells := 0, slots := 0, locals := 0 }
def f_X9_sit (x1 : Int32) (σ0 : pStt) : Option (pStt) := (stA σ0 4 6 x1 1).bind (fun σ_1 => (some (sI σ_1 6 (((σ_1.1 6) + (1 : Int32))))).bind (fun σ_2 => (if 0 ≤ (σ_2.1 7) then some ((σ_2.1 7)) else some x1 : Option Int32).bind (fun v_3 => (some (sI σ_2 7 v_3)).bind (fun σ_4 => some σ_4))))
set_option maxHeartbeats 4000000 in
set_option maxRecDepth 100000 in
theorem c_X9_sit (l : Launch) (D : va_G) (cy : Nat → ClassId) (o0 : Nat) (q0 : Nat → Nat) (x1 : Int32) (σ0 : pStt) (u : pStt) (hf : f_X9_sit x1 σ0 = some u) : CT l yX9_sit cX9_sit 2 none rmX9_sit D cy [.ref o0, .int x1] [pX9 cy o0 q0 σ0] none [pX9 cy o0 q0 u] := by
  refine CT.of (by decide) (Nat.le_of_ble_eq_true rfl) (fun p e s m args below meth c ls A Q hA hQ S hr hlk hl hw => ?_)
  have hl : lv_has ls 2 [(0, .ref o0), (1, .int x1)] := hl
  rw [f_X9_sit] at hf
  refine lv_aload_n S.1 S.2.1 dX9_sit_0 rfl (lv_at hl 0 rfl) ?_
  refine gf_X9_22 S hw 0 rfl dX9_sit_1 ?_
  refine lv_iload_n S.1 S.2.1 dX9_sit_4 rfl (lv_at hl 1 rfl) ?_
  refine lv_iconst (v := 1) S.1 S.2.1 dX9_sit_5 (by decide) ?_
  obtain ⟨σ_1, e_σ_1, hf⟩ := ob hf
  refine as_X9_4 S hw 0 rfl e_σ_1 dX9_sit_6 (fun H locs hw => ?_)
  have hw : PW D A s.heap [pX9 cy o0 q0 σ_1] H locs := hw
  refine lv_aload_n S.1 S.2.1 dX9_sit_7 rfl (lv_at hl 0 rfl) ?_
  refine lv_dup S.1 S.2.1 dX9_sit_8 rfl ?_
  refine gf_X9_181 S hw 0 rfl dX9_sit_9 ?_
  refine lv_iconst (v := 1) S.1 S.2.1 dX9_sit_12 (by decide) ?_
  refine lv_iadd S.1 S.2.1 dX9_sit_13 ?_
  obtain ⟨σ_2, e_σ_2, hf⟩ := ob hf
  refine pf_X9_181 S hw 0 rfl e_σ_2 dX9_sit_14 (fun H locs hw => ?_)
  have hw : PW D A s.heap [pX9 cy o0 q0 σ_2] H locs := hw
  refine lv_aload_n S.1 S.2.1 dX9_sit_17 rfl (lv_at hl 0 rfl) ?_
  refine lv_aload_n S.1 S.2.1 dX9_sit_18 rfl (lv_at hl 0 rfl) ?_
  refine gf_X9_184 S hw 0 rfl dX9_sit_19 ?_
  obtain ⟨v_3, e_v_3, hf⟩ := ob hf
  have hJ_v_3 : ∀ (H : Heap) (locs : List Loc), PW D A s.heap [pX9 cy o0 q0 σ_2] H locs → W p l e rmX9_sit s m args below meth c H locs 0 0 Q (F0 m 33 ls [.int v_3, .ref o0]) := by
    intro H locs hw
    obtain ⟨σ_4, e_σ_4, hf⟩ := ob hf
    refine pf_X9_184 S hw 0 rfl e_σ_4 dX9_sit_33 (fun H locs hw => ?_)
    have hw : PW D A s.heap [pX9 cy o0 q0 σ_4] H locs := hw
    cases hf
    exact w_vret S hr hlk hA hQ hw dX9_sit_36
  replace hf := e_v_3
  clear e_v_3
  refine lv_if_ge (tgt := 29) S.1 S.2.1 dX9_sit_22 (by decide) (fun c_5 => ?_) (fun c_5 => ?_)
  · replace hf := (if_pos c_5).symm.trans hf
    refine lv_aload_n S.1 S.2.1 dX9_sit_29 rfl (lv_at hl 0 rfl) ?_
    refine gf_X9_184 S hw 0 rfl dX9_sit_30 ?_
    cases hf
    exact hJ_v_3 _ _ hw
  · replace hf := (if_neg c_5).symm.trans hf
    refine lv_iload_n S.1 S.2.1 dX9_sit_25 rfl (lv_at hl 1 rfl) ?_
    refine lv_goto (tgt := 33) S.1 S.2.1 dX9_sit_26 (by decide) ?_
    cases hf
    exact hJ_v_3 _ _ hw
section
variable {p : Program} {l : Launch} {e : Env} {R : Room} {s : State} {m : MethodId} {args : Array Value} {below : List Frame} {meth : Method} {c : Code} {H : Heap} {locs : List Loc} {cells slots : Nat} {Q : State → Prop} {cc : ByteArray} {pc nL : Nat} {ls : Array Slot} {rest : List Value} {D : va_G} {cy : Nat → ClassId} {A : Nat → Prop} {H0 : Heap} {own : String} {Ps : List va_W}
set_option maxRecDepth 100000 in
theorem k_X9_sit {o0 : Nat} {q0 : Nat → Nat} {x1 : Int32} {σ0 : pStt} {u : pStt} {index : Nat} (S : CX p m c cc nL s args own D cy) (hl : (Cond.methodLink own index yX9_sit).before args s = true) (hw : PW D A H0 Ps H locs) (hf : f_X9_sit x1 σ0 = some u) (js : List Nat) (hC : js.map (fun j => Ps[j]?) = [some (pX9 cy o0 q0 σ0)]) (hnd : js.Nodup) (hlen : js.length = 1) (hR : RMok rmX9_sit R 2) (hsize : ls.size = nL) (hrest : (rest.map fun v => v.category).sum ≤ 8) (hdg : decode cc pc = .ok (.invokevirtual index, 3)) (hcs : cells ≤ R.cells ∧ slots ≤ R.slots)
    (kk : ∀ (H1 : Heap) (locs1 : List Loc), PW D A H0 (setAll Ps js [pX9 cy o0 q0 u]) H1 locs1 → W p l e R s m args below meth c H1 locs1 cells slots Q (F0 m (pc + 3) ls (rest))) : W p l e R s m args below meth c H locs cells slots Q (F0 m pc ls (.int x1 :: .ref o0 :: rest)) :=
  w_callV (n := 1) (ov := none) (As := [.int x1]) (Cs := [pX9 cy o0 q0 σ0]) (Cs' := [pX9 cy o0 q0 u]) S hw (c_X9_sit l D cy o0 q0 x1 σ0 u hf) (MF.of S.2.2.2.2 wd973 wd79 (by decide)) (S.2.2.2.2.wd wd972 rfl) (S.2.2.2.2.wd wd44 rfl) hl hR js hC hnd hlen rfl rfl rfl rfl hsize rfl hrest hdg hcs kk
end
abbrev rmX9_comeBack : Room := { frames := 2, cells := 0, slots := 0, locals := 43 }
def f_X9_comeBack (x1 : Int32) (σ0 : pStt) : Option (pStt) := (f_X9_drop x1 σ0).bind (fun u_1 => (stA u_1 2 6 x1 ((-6))).bind (fun σ_2 => (stA σ_2 3 6 x1 0).bind (fun σ_3 => some σ_3)))
set_option maxHeartbeats 4000000 in
set_option maxRecDepth 100000 in
theorem c_X9_comeBack (l : Launch) (D : va_G) (cy : Nat → ClassId) (o0 : Nat) (q0 : Nat → Nat) (x1 : Int32) (σ0 : pStt) (u : pStt) (hf : f_X9_comeBack x1 σ0 = some u) : CT l yX9_comeBack cX9_comeBack 2 none rmX9_comeBack D cy [.ref o0, .int x1] [pX9 cy o0 q0 σ0] none [pX9 cy o0 q0 u] := by
  refine CT.of (by decide) (Nat.le_of_ble_eq_true rfl) (fun p e s m args below meth c ls A Q hA hQ S hr hlk hl hw => ?_)
  have hl : lv_has ls 2 [(0, .ref o0), (1, .int x1)] := hl
  rw [f_X9_comeBack] at hf
  refine lv_aload_n S.1 S.2.1 dX9_comeBack_0 rfl (lv_at hl 0 rfl) ?_
  refine lv_iload_n S.1 S.2.1 dX9_comeBack_1 rfl (lv_at hl 1 rfl) ?_
  obtain ⟨u_1, e_u_1, hf⟩ := ob hf
  refine k_X9_drop S (S.2.2.2.2.wd wd853 rfl) hw e_u_1 [0] rfl (by decide) rfl ⟨rfl, rfl, Nat.le_of_ble_eq_true rfl, Nat.le_of_ble_eq_true rfl⟩ hl.1 (Nat.le_of_ble_eq_true rfl) dX9_comeBack_2 ⟨Nat.zero_le _, Nat.zero_le _⟩ (fun H locs hw => ?_)
  have hw : PW D A s.heap [pX9 cy o0 q0 u_1] H locs := hw
  refine lv_aload_n S.1 S.2.1 dX9_comeBack_5 rfl (lv_at hl 0 rfl) ?_
  refine gf_X9_16 S hw 0 rfl dX9_comeBack_6 ?_
  refine lv_iload_n S.1 S.2.1 dX9_comeBack_9 rfl (lv_at hl 1 rfl) ?_
  refine lv_bipush (v := (-6)) S.1 S.2.1 dX9_comeBack_10 (by decide) ?_
  obtain ⟨σ_2, e_σ_2, hf⟩ := ob hf
  refine as_X9_2 S hw 0 rfl e_σ_2 dX9_comeBack_12 (fun H locs hw => ?_)
  have hw : PW D A s.heap [pX9 cy o0 q0 σ_2] H locs := hw
  refine lv_aload_n S.1 S.2.1 dX9_comeBack_13 rfl (lv_at hl 0 rfl) ?_
  refine gf_X9_19 S hw 0 rfl dX9_comeBack_14 ?_
  refine lv_iload_n S.1 S.2.1 dX9_comeBack_17 rfl (lv_at hl 1 rfl) ?_
  refine lv_iconst (v := 0) S.1 S.2.1 dX9_comeBack_18 (by decide) ?_
  obtain ⟨σ_3, e_σ_3, hf⟩ := ob hf
  refine as_X9_3 S hw 0 rfl e_σ_3 dX9_comeBack_19 (fun H locs hw => ?_)
  have hw : PW D A s.heap [pX9 cy o0 q0 σ_3] H locs := hw
  cases hf
  exact w_vret S hr hlk hA hQ hw dX9_comeBack_20
section
variable {p : Program} {l : Launch} {e : Env} {R : Room} {s : State} {m : MethodId} {args : Array Value} {below : List Frame} {meth : Method} {c : Code} {H : Heap} {locs : List Loc} {cells slots : Nat} {Q : State → Prop} {cc : ByteArray} {pc nL : Nat} {ls : Array Slot} {rest : List Value} {D : va_G} {cy : Nat → ClassId} {A : Nat → Prop} {H0 : Heap} {own : String} {Ps : List va_W}
set_option maxRecDepth 100000 in
theorem k_X9_comeBack {o0 : Nat} {q0 : Nat → Nat} {x1 : Int32} {σ0 : pStt} {u : pStt} {index : Nat} (S : CX p m c cc nL s args own D cy) (hl : (Cond.methodLink own index yX9_comeBack).before args s = true) (hw : PW D A H0 Ps H locs) (hf : f_X9_comeBack x1 σ0 = some u) (js : List Nat) (hC : js.map (fun j => Ps[j]?) = [some (pX9 cy o0 q0 σ0)]) (hnd : js.Nodup) (hlen : js.length = 1) (hR : RMok rmX9_comeBack R 2) (hsize : ls.size = nL) (hrest : (rest.map fun v => v.category).sum ≤ 8) (hdg : decode cc pc = .ok (.invokevirtual index, 3)) (hcs : cells ≤ R.cells ∧ slots ≤ R.slots)
    (kk : ∀ (H1 : Heap) (locs1 : List Loc), PW D A H0 (setAll Ps js [pX9 cy o0 q0 u]) H1 locs1 → W p l e R s m args below meth c H1 locs1 cells slots Q (F0 m (pc + 3) ls (rest))) : W p l e R s m args below meth c H locs cells slots Q (F0 m pc ls (.int x1 :: .ref o0 :: rest)) :=
  w_callV (n := 1) (ov := none) (As := [.int x1]) (Cs := [pX9 cy o0 q0 σ0]) (Cs' := [pX9 cy o0 q0 u]) S hw (c_X9_comeBack l D cy o0 q0 x1 σ0 u hf) (MF.of S.2.2.2.2 wd981 wd79 (by decide)) (S.2.2.2.2.wd wd980 rfl) (S.2.2.2.2.wd wd46 rfl) hl hR js hC hnd hlen rfl rfl rfl rfl hsize rfl hrest hdg hcs kk
end
abbrev rmX9_fade : Room := { frames := 1, cells := 0, slots := 0, locals := 21 }
def f_X9_fade (x1 : Int32) (σ0 : pStt) : Option (pStt) := (ld (σ0.2 3) 6 x1).bind (fun x_1 => (ld (σ0.2 3) 6 x1).bind (fun x_2 => (if 9 ≤ x_2 then some 0 else some 1 : Option Int32).bind (fun v_3 => (stA σ0 3 6 x1 ((x_1 + v_3))).bind (fun σ_4 => (ld (σ_4.2 3) 6 x1).bind (fun x_5 => if x_5 = 9 then (f_X9_sit x1 σ_4).bind (fun u_7 => some u_7) else some σ_4)))))
set_option maxHeartbeats 4000000 in
set_option maxRecDepth 100000 in
theorem c_X9_fade (l : Launch) (D : va_G) (cy : Nat → ClassId) (o0 : Nat) (q0 : Nat → Nat) (x1 : Int32) (σ0 : pStt) (u : pStt) (hf : f_X9_fade x1 σ0 = some u) : CT l yX9_fade cX9_fade 2 none rmX9_fade D cy [.ref o0, .int x1] [pX9 cy o0 q0 σ0] none [pX9 cy o0 q0 u] := by
  refine CT.of (by decide) (Nat.le_of_ble_eq_true rfl) (fun p e s m args below meth c ls A Q hA hQ S hr hlk hl hw => ?_)
  have hl : lv_has ls 2 [(0, .ref o0), (1, .int x1)] := hl
  rw [f_X9_fade] at hf
  refine lv_aload_n S.1 S.2.1 dX9_fade_0 rfl (lv_at hl 0 rfl) ?_
  refine gf_X9_19 S hw 0 rfl dX9_fade_1 ?_
  refine lv_iload_n S.1 S.2.1 dX9_fade_4 rfl (lv_at hl 1 rfl) ?_
  refine lv_dup2_11 S.1 S.2.1 dX9_fade_5 rfl rfl ?_
  obtain ⟨x_1, e_x_1, hf⟩ := ob hf
  refine al_X9_3 S hw 0 rfl e_x_1 dX9_fade_6 ?_
  refine lv_aload_n S.1 S.2.1 dX9_fade_7 rfl (lv_at hl 0 rfl) ?_
  refine gf_X9_19 S hw 0 rfl dX9_fade_8 ?_
  refine lv_iload_n S.1 S.2.1 dX9_fade_11 rfl (lv_at hl 1 rfl) ?_
  obtain ⟨x_2, e_x_2, hf⟩ := ob hf
  refine al_X9_3 S hw 0 rfl e_x_2 dX9_fade_12 ?_
  refine lv_bipush (v := 9) S.1 S.2.1 dX9_fade_13 (by decide) ?_
  obtain ⟨v_3, e_v_3, hf⟩ := ob hf
  have hJ_v_3 : ∀ (H : Heap) (locs : List Loc), PW D A s.heap [pX9 cy o0 q0 σ0] H locs → W p l e rmX9_fade s m args below meth c H locs 0 0 Q (F0 m 23 ls [.int v_3, .int x_1, .int x1, .ref ((q0 3))]) := by
    intro H locs hw
    refine lv_iadd S.1 S.2.1 dX9_fade_23 ?_
    obtain ⟨σ_4, e_σ_4, hf⟩ := ob hf
    refine as_X9_3 S hw 0 rfl e_σ_4 dX9_fade_24 (fun H locs hw => ?_)
    have hw : PW D A s.heap [pX9 cy o0 q0 σ_4] H locs := hw
    refine lv_aload_n S.1 S.2.1 dX9_fade_25 rfl (lv_at hl 0 rfl) ?_
    refine gf_X9_19 S hw 0 rfl dX9_fade_26 ?_
    refine lv_iload_n S.1 S.2.1 dX9_fade_29 rfl (lv_at hl 1 rfl) ?_
    obtain ⟨x_5, e_x_5, hf⟩ := ob hf
    refine al_X9_3 S hw 0 rfl e_x_5 dX9_fade_30 ?_
    refine lv_bipush (v := 9) S.1 S.2.1 dX9_fade_31 (by decide) ?_
    refine lv_icmp_ne (tgt := 41) S.1 S.2.1 dX9_fade_33 (by decide) (fun c_6 => ?_) (fun c_6 => ?_)
    · replace hf := (if_neg c_6).symm.trans hf
      cases hf
      exact w_vret S hr hlk hA hQ hw dX9_fade_41
    · replace hf := (if_pos c_6).symm.trans hf
      refine lv_aload_n S.1 S.2.1 dX9_fade_36 rfl (lv_at hl 0 rfl) ?_
      refine lv_iload_n S.1 S.2.1 dX9_fade_37 rfl (lv_at hl 1 rfl) ?_
      obtain ⟨u_7, e_u_7, hf⟩ := ob hf
      refine k_X9_sit S (S.2.2.2.2.wd wd970 rfl) hw e_u_7 [0] rfl (by decide) rfl ⟨rfl, rfl, Nat.le_of_ble_eq_true rfl, Nat.le_of_ble_eq_true rfl⟩ hl.1 (Nat.le_of_ble_eq_true rfl) dX9_fade_38 ⟨Nat.zero_le _, Nat.zero_le _⟩ (fun H locs hw => ?_)
      have hw : PW D A s.heap [pX9 cy o0 q0 u_7] H locs := hw
      cases hf
      exact w_vret S hr hlk hA hQ hw dX9_fade_41
  replace hf := e_v_3
  clear e_v_3
  refine lv_icmp_ge (tgt := 22) S.1 S.2.1 dX9_fade_15 (by decide) (fun c_8 => ?_) (fun c_8 => ?_)
  · replace hf := (if_pos c_8).symm.trans hf
    refine lv_iconst (v := 0) S.1 S.2.1 dX9_fade_22 (by decide) ?_
    cases hf
    exact hJ_v_3 _ _ hw
  · replace hf := (if_neg c_8).symm.trans hf
    refine lv_iconst (v := 1) S.1 S.2.1 dX9_fade_18 (by decide) ?_
    refine lv_goto (tgt := 23) S.1 S.2.1 dX9_fade_19 (by decide) ?_
    cases hf
    exact hJ_v_3 _ _ hw
section
variable {p : Program} {l : Launch} {e : Env} {R : Room} {s : State} {m : MethodId} {args : Array Value} {below : List Frame} {meth : Method} {c : Code} {H : Heap} {locs : List Loc} {cells slots : Nat} {Q : State → Prop} {cc : ByteArray} {pc nL : Nat} {ls : Array Slot} {rest : List Value} {D : va_G} {cy : Nat → ClassId} {A : Nat → Prop} {H0 : Heap} {own : String} {Ps : List va_W}
set_option maxRecDepth 100000 in
theorem k_X9_fade {o0 : Nat} {q0 : Nat → Nat} {x1 : Int32} {σ0 : pStt} {u : pStt} {index : Nat} (S : CX p m c cc nL s args own D cy) (hl : (Cond.methodLink own index yX9_fade).before args s = true) (hw : PW D A H0 Ps H locs) (hf : f_X9_fade x1 σ0 = some u) (js : List Nat) (hC : js.map (fun j => Ps[j]?) = [some (pX9 cy o0 q0 σ0)]) (hnd : js.Nodup) (hlen : js.length = 1) (hR : RMok rmX9_fade R 2) (hsize : ls.size = nL) (hrest : (rest.map fun v => v.category).sum ≤ 8) (hdg : decode cc pc = .ok (.invokevirtual index, 3)) (hcs : cells ≤ R.cells ∧ slots ≤ R.slots)
    (kk : ∀ (H1 : Heap) (locs1 : List Loc), PW D A H0 (setAll Ps js [pX9 cy o0 q0 u]) H1 locs1 → W p l e R s m args below meth c H1 locs1 cells slots Q (F0 m (pc + 3) ls (rest))) : W p l e R s m args below meth c H locs cells slots Q (F0 m pc ls (.int x1 :: .ref o0 :: rest)) :=
  w_callV (n := 1) (ov := none) (As := [.int x1]) (Cs := [pX9 cy o0 q0 σ0]) (Cs' := [pX9 cy o0 q0 u]) S hw (c_X9_fade l D cy o0 q0 x1 σ0 u hf) (MF.of S.2.2.2.2 wd969 wd79 (by decide)) (S.2.2.2.2.wd wd968 rfl) (S.2.2.2.2.wd wd43 rfl) hl hR js hC hnd hlen rfl rfl rfl rfl hsize rfl hrest hdg hcs kk
end
abbrev rmX9_passHour : Room := { frames := 2, cells := 0, slots := 0, locals := 42 }
def fl_X9_passHour_2   : Nat → Int32 → pStt → Option (pStt)
  | 0, _, _ => none
  | n + 1, y1, σ0 => if 6 ≤ y1 then some σ0 else (ld (σ0.2 2) 6 y1).bind (fun x_2 => if x_2 < 0 then fl_X9_passHour_2 n ((y1 + 1)) σ0 else (ld (σ0.2 4) 6 y1).bind (fun x_4 => if x_4 = 0 then (f_X9_fade y1 σ0).bind (fun u_6 => fl_X9_passHour_2 n ((y1 + 1)) u_6) else fl_X9_passHour_2 n ((y1 + 1)) σ0))
def f_X9_passHour (σ0 : pStt) : Option (pStt) := (fl_X9_passHour_2 2000 0 σ0).bind (fun u_7 => (some (sI u_7 1 (((u_7.1 1) + (1 : Int32))))).bind (fun σ_8 => some σ_8))
section
variable {p : Program} {l : Launch} {e : Env} {s : State} {m : MethodId} {args : Array Value} {below : List Frame} {meth : Method} {c : Code} {Q : State → Prop} {D : va_G} {cy : Nat → ClassId} {A : Nat → Prop} {H0 : Heap}
set_option maxHeartbeats 4000000 in
set_option maxRecDepth 100000 in
theorem lp_X9_passHour_2 (S : CX p m c cX9_passHour 2 s args RX9 D cy) {o0 : Nat} {q0 : Nat → Nat}   : ∀ (n : Nat) (y1 : Int32) (σ0 : pStt) (H : Heap) (locs : List Loc) (ls : Array Slot) (u : pStt), PW D A H0 [pX9 cy o0 q0 σ0] H locs → lv_has ls 2 [(0, .ref o0), (1, .int y1)] → fl_X9_passHour_2 n y1 σ0 = some u → (∀ (H : Heap) (locs : List Loc) (ls : Array Slot), PW D A H0 [pX9 cy o0 q0 u] H locs → lv_has ls 2 [(0, .ref o0)] → W p l e rmX9_passHour s m args below meth c H locs 0 0 Q (F0 m 37 ls [])) → W p l e rmX9_passHour s m args below meth c H locs 0 0 Q (F0 m 2 ls []) := by
  intro n
  induction n with
  | zero =>
    intro y1 σ0 H locs ls u hw hl hf K0
    rw [fl_X9_passHour_2] at hf
    cases hf
  | succ n ih =>
    intro y1 σ0 H locs ls u hw hl hf K0
    rw [fl_X9_passHour_2] at hf
    refine lv_iload_n S.1 S.2.1 dX9_passHour_2 rfl (lv_at hl 1 rfl) ?_
    refine lv_bipush (v := 6) S.1 S.2.1 dX9_passHour_3 (by decide) ?_
    refine lv_icmp_ge (tgt := 37) S.1 S.2.1 dX9_passHour_5 (by decide) (fun c_1 => ?_) (fun c_1 => ?_)
    · replace hf := (if_pos c_1).symm.trans hf
      cases hf
      exact K0 _ _ _ hw (lv_sub hl [0] rfl)
    · replace hf := (if_neg c_1).symm.trans hf
      refine lv_aload_n S.1 S.2.1 dX9_passHour_8 rfl (lv_at hl 0 rfl) ?_
      refine gf_X9_16 S hw 0 rfl dX9_passHour_9 ?_
      refine lv_iload_n S.1 S.2.1 dX9_passHour_12 rfl (lv_at hl 1 rfl) ?_
      obtain ⟨x_2, e_x_2, hf⟩ := ob hf
      refine al_X9_2 S hw 0 rfl e_x_2 dX9_passHour_13 ?_
      refine lv_if_lt (tgt := 31) S.1 S.2.1 dX9_passHour_14 (by decide) (fun c_3 => ?_) (fun c_3 => ?_)
      · replace hf := (if_pos c_3).symm.trans hf
        refine lv_iinc (v := (y1 + 1)) (lv' := [(1, .int ((y1 + 1))), (0, .ref o0)]) S.1 S.2.1 dX9_passHour_31 hl (k := 1) rfl rfl (by decide) rfl (fun ls hl => ?_)
        refine lv_goto (tgt := 2) S.1 S.2.1 dX9_passHour_34 (by decide) ?_
        exact ih _ _ _ _ _ _ hw (lv_sub hl [1, 0] rfl) hf K0
      · replace hf := (if_neg c_3).symm.trans hf
        refine lv_aload_n S.1 S.2.1 dX9_passHour_17 rfl (lv_at hl 0 rfl) ?_
        refine gf_X9_22 S hw 0 rfl dX9_passHour_18 ?_
        refine lv_iload_n S.1 S.2.1 dX9_passHour_21 rfl (lv_at hl 1 rfl) ?_
        obtain ⟨x_4, e_x_4, hf⟩ := ob hf
        refine al_X9_4 S hw 0 rfl e_x_4 dX9_passHour_22 ?_
        refine lv_if_ne (tgt := 31) S.1 S.2.1 dX9_passHour_23 (by decide) (fun c_5 => ?_) (fun c_5 => ?_)
        · replace hf := (if_neg c_5).symm.trans hf
          refine lv_iinc (v := (y1 + 1)) (lv' := [(1, .int ((y1 + 1))), (0, .ref o0)]) S.1 S.2.1 dX9_passHour_31 hl (k := 1) rfl rfl (by decide) rfl (fun ls hl => ?_)
          refine lv_goto (tgt := 2) S.1 S.2.1 dX9_passHour_34 (by decide) ?_
          exact ih _ _ _ _ _ _ hw (lv_sub hl [1, 0] rfl) hf K0
        · replace hf := (if_pos c_5).symm.trans hf
          refine lv_aload_n S.1 S.2.1 dX9_passHour_26 rfl (lv_at hl 0 rfl) ?_
          refine lv_iload_n S.1 S.2.1 dX9_passHour_27 rfl (lv_at hl 1 rfl) ?_
          obtain ⟨u_6, e_u_6, hf⟩ := ob hf
          refine k_X9_fade S (S.2.2.2.2.wd wd966 rfl) hw e_u_6 [0] rfl (by decide) rfl ⟨rfl, rfl, Nat.le_of_ble_eq_true rfl, Nat.le_of_ble_eq_true rfl⟩ hl.1 (Nat.le_of_ble_eq_true rfl) dX9_passHour_28 ⟨Nat.zero_le _, Nat.zero_le _⟩ (fun H locs hw => ?_)
          have hw : PW D A H0 [pX9 cy o0 q0 u_6] H locs := hw
          refine lv_iinc (v := (y1 + 1)) (lv' := [(1, .int ((y1 + 1))), (0, .ref o0)]) S.1 S.2.1 dX9_passHour_31 hl (k := 1) rfl rfl (by decide) rfl (fun ls hl => ?_)
          refine lv_goto (tgt := 2) S.1 S.2.1 dX9_passHour_34 (by decide) ?_
          exact ih _ _ _ _ _ _ hw (lv_sub hl [1, 0] rfl) hf K0
end
set_option maxHeartbeats 4000000 in
set_option maxRecDepth 100000 in
theorem c_X9_passHour (l : Launch) (D : va_G) (cy : Nat → ClassId) (o0 : Nat) (q0 : Nat → Nat) (σ0 : pStt) (u : pStt) (hf : f_X9_passHour σ0 = some u) : CT l yX9_passHour cX9_passHour 2 none rmX9_passHour D cy [.ref o0] [pX9 cy o0 q0 σ0] none [pX9 cy o0 q0 u] := by
  refine CT.of (by decide) (Nat.le_of_ble_eq_true rfl) (fun p e s m args below meth c ls A Q hA hQ S hr hlk hl hw => ?_)
  have hl : lv_has ls 2 [(0, .ref o0)] := hl
  rw [f_X9_passHour] at hf
  refine lv_iconst (v := 0) S.1 S.2.1 dX9_passHour_0 (by decide) ?_
  refine lv_istore_n (lv' := [(1, .int 0), (0, .ref o0)]) S.1 S.2.1 dX9_passHour_1 rfl hl (by decide) rfl (fun ls hl => ?_)
  obtain ⟨u_7, e_u_7, hf⟩ := ob hf
  refine lp_X9_passHour_2 S 2000 _ _ _ _ _ _ hw (lv_sub hl [1, 0] rfl) e_u_7 ?_
  · intro H locs ls hw hl
    refine lv_aload_n S.1 S.2.1 dX9_passHour_37 rfl (lv_at hl 0 rfl) ?_
    refine lv_dup S.1 S.2.1 dX9_passHour_38 rfl ?_
    refine gf_X9_174 S hw 0 rfl dX9_passHour_39 ?_
    refine lv_iconst (v := 1) S.1 S.2.1 dX9_passHour_42 (by decide) ?_
    refine lv_iadd S.1 S.2.1 dX9_passHour_43 ?_
    obtain ⟨σ_8, e_σ_8, hf⟩ := ob hf
    refine pf_X9_174 S hw 0 rfl e_σ_8 dX9_passHour_44 (fun H locs hw => ?_)
    have hw : PW D A s.heap [pX9 cy o0 q0 σ_8] H locs := hw
    cases hf
    exact w_vret S hr hlk hA hQ hw dX9_passHour_47
section
variable {p : Program} {l : Launch} {e : Env} {R : Room} {s : State} {m : MethodId} {args : Array Value} {below : List Frame} {meth : Method} {c : Code} {H : Heap} {locs : List Loc} {cells slots : Nat} {Q : State → Prop} {cc : ByteArray} {pc nL : Nat} {ls : Array Slot} {rest : List Value} {D : va_G} {cy : Nat → ClassId} {A : Nat → Prop} {H0 : Heap} {own : String} {Ps : List va_W}
set_option maxRecDepth 100000 in
theorem k_X9_passHour {o0 : Nat} {q0 : Nat → Nat}  {σ0 : pStt} {u : pStt} {index : Nat} (S : CX p m c cc nL s args own D cy) (hl : (Cond.methodLink own index yX9_passHour).before args s = true) (hw : PW D A H0 Ps H locs) (hf : f_X9_passHour σ0 = some u) (js : List Nat) (hC : js.map (fun j => Ps[j]?) = [some (pX9 cy o0 q0 σ0)]) (hnd : js.Nodup) (hlen : js.length = 1) (hR : RMok rmX9_passHour R 2) (hsize : ls.size = nL) (hrest : (rest.map fun v => v.category).sum ≤ 8) (hdg : decode cc pc = .ok (.invokevirtual index, 3)) (hcs : cells ≤ R.cells ∧ slots ≤ R.slots)
    (kk : ∀ (H1 : Heap) (locs1 : List Loc), PW D A H0 (setAll Ps js [pX9 cy o0 q0 u]) H1 locs1 → W p l e R s m args below meth c H1 locs1 cells slots Q (F0 m (pc + 3) ls (rest))) : W p l e R s m args below meth c H locs cells slots Q (F0 m pc ls (.ref o0 :: rest)) :=
  w_callV (n := 0) (ov := none) (As := []) (Cs := [pX9 cy o0 q0 σ0]) (Cs' := [pX9 cy o0 q0 u]) S hw (c_X9_passHour l D cy o0 q0 σ0 u hf) (MF.of S.2.2.2.2 wd965 wd79 (by decide)) (S.2.2.2.2.wd wd964 rfl) (S.2.2.2.2.wd wd42 rfl) hl hR js hC hnd hlen rfl rfl rfl rfl hsize rfl hrest hdg hcs kk
end
abbrev rmX9_happenToOne : Room := { frames := 3, cells := 0, slots := 0, locals := 64 }
def f_X9_happenToOne (x1 : Int32) (x2 : Int32) (x3 : Int32) (σ0 : pStt) : Option (pStt) := if x1 = 4 then (stA σ0 2 6 x2 0).bind (fun σ_2 => some σ_2) else if x1 = 5 then (f_X9_comeBack x2 σ0).bind (fun u_4 => some u_4) else if x1 = 6 then (stA σ0 2 6 x2 x3).bind (fun σ_6 => some σ_6) else if x1 = 7 then (stA σ0 1 8 x3 (((10 : Int32) + x2))).bind (fun σ_8 => some σ_8) else (f_X9_sit x2 σ0).bind (fun u_9 => some u_9)
set_option maxHeartbeats 4000000 in
set_option maxRecDepth 100000 in
theorem c_X9_happenToOne (l : Launch) (D : va_G) (cy : Nat → ClassId) (o0 : Nat) (q0 : Nat → Nat) (x1 : Int32) (x2 : Int32) (x3 : Int32) (σ0 : pStt) (u : pStt) (hf : f_X9_happenToOne x1 x2 x3 σ0 = some u) : CT l yX9_happenToOne cX9_happenToOne 4 none rmX9_happenToOne D cy [.ref o0, .int x1, .int x2, .int x3] [pX9 cy o0 q0 σ0] none [pX9 cy o0 q0 u] := by
  refine CT.of (by decide) (Nat.le_of_ble_eq_true rfl) (fun p e s m args below meth c ls A Q hA hQ S hr hlk hl hw => ?_)
  have hl : lv_has ls 4 [(0, .ref o0), (1, .int x1), (2, .int x2), (3, .int x3)] := hl
  rw [f_X9_happenToOne] at hf
  refine lv_iload_n S.1 S.2.1 dX9_happenToOne_0 rfl (lv_at hl 1 rfl) ?_
  by_cases c_1 : x1 = 4
  · replace hf := (if_pos c_1).symm.trans hf
    refine lv_tableIn (off := 31) (tgt := 32) S.1 S.2.1 dX9_happenToOne_1 (by rw [c_1]; decide) (by rw [c_1]; decide) (by rw [c_1]; rfl) (by decide) ?_
    refine lv_aload_n S.1 S.2.1 dX9_happenToOne_32 rfl (lv_at hl 0 rfl) ?_
    refine gf_X9_16 S hw 0 rfl dX9_happenToOne_33 ?_
    refine lv_iload_n S.1 S.2.1 dX9_happenToOne_36 rfl (lv_at hl 2 rfl) ?_
    refine lv_iconst (v := 0) S.1 S.2.1 dX9_happenToOne_37 (by decide) ?_
    obtain ⟨σ_2, e_σ_2, hf⟩ := ob hf
    refine as_X9_2 S hw 0 rfl e_σ_2 dX9_happenToOne_38 (fun H locs hw => ?_)
    have hw : PW D A s.heap [pX9 cy o0 q0 σ_2] H locs := hw
    refine lv_goto (tgt := 78) S.1 S.2.1 dX9_happenToOne_39 (by decide) ?_
    cases hf
    exact w_vret S hr hlk hA hQ hw dX9_happenToOne_78
  · replace hf := (if_neg c_1).symm.trans hf
    by_cases c_3 : x1 = 5
    · replace hf := (if_pos c_3).symm.trans hf
      refine lv_tableIn (off := 41) (tgt := 42) S.1 S.2.1 dX9_happenToOne_1 (by rw [c_3]; decide) (by rw [c_3]; decide) (by rw [c_3]; rfl) (by decide) ?_
      refine lv_aload_n S.1 S.2.1 dX9_happenToOne_42 rfl (lv_at hl 0 rfl) ?_
      refine lv_iload_n S.1 S.2.1 dX9_happenToOne_43 rfl (lv_at hl 2 rfl) ?_
      obtain ⟨u_4, e_u_4, hf⟩ := ob hf
      refine k_X9_comeBack S (S.2.2.2.2.wd wd978 rfl) hw e_u_4 [0] rfl (by decide) rfl ⟨rfl, rfl, Nat.le_of_ble_eq_true rfl, Nat.le_of_ble_eq_true rfl⟩ hl.1 (Nat.le_of_ble_eq_true rfl) dX9_happenToOne_44 ⟨Nat.zero_le _, Nat.zero_le _⟩ (fun H locs hw => ?_)
      have hw : PW D A s.heap [pX9 cy o0 q0 u_4] H locs := hw
      refine lv_goto (tgt := 78) S.1 S.2.1 dX9_happenToOne_47 (by decide) ?_
      cases hf
      exact w_vret S hr hlk hA hQ hw dX9_happenToOne_78
    · replace hf := (if_neg c_3).symm.trans hf
      by_cases c_5 : x1 = 6
      · replace hf := (if_pos c_5).symm.trans hf
        refine lv_tableIn (off := 49) (tgt := 50) S.1 S.2.1 dX9_happenToOne_1 (by rw [c_5]; decide) (by rw [c_5]; decide) (by rw [c_5]; rfl) (by decide) ?_
        refine lv_aload_n S.1 S.2.1 dX9_happenToOne_50 rfl (lv_at hl 0 rfl) ?_
        refine gf_X9_16 S hw 0 rfl dX9_happenToOne_51 ?_
        refine lv_iload_n S.1 S.2.1 dX9_happenToOne_54 rfl (lv_at hl 2 rfl) ?_
        refine lv_iload_n S.1 S.2.1 dX9_happenToOne_55 rfl (lv_at hl 3 rfl) ?_
        obtain ⟨σ_6, e_σ_6, hf⟩ := ob hf
        refine as_X9_2 S hw 0 rfl e_σ_6 dX9_happenToOne_56 (fun H locs hw => ?_)
        have hw : PW D A s.heap [pX9 cy o0 q0 σ_6] H locs := hw
        refine lv_goto (tgt := 78) S.1 S.2.1 dX9_happenToOne_57 (by decide) ?_
        cases hf
        exact w_vret S hr hlk hA hQ hw dX9_happenToOne_78
      · replace hf := (if_neg c_5).symm.trans hf
        by_cases c_7 : x1 = 7
        · replace hf := (if_pos c_7).symm.trans hf
          refine lv_tableIn (off := 59) (tgt := 60) S.1 S.2.1 dX9_happenToOne_1 (by rw [c_7]; decide) (by rw [c_7]; decide) (by rw [c_7]; rfl) (by decide) ?_
          refine lv_aload_n S.1 S.2.1 dX9_happenToOne_60 rfl (lv_at hl 0 rfl) ?_
          refine gf_X9_13 S hw 0 rfl dX9_happenToOne_61 ?_
          refine lv_iload_n S.1 S.2.1 dX9_happenToOne_64 rfl (lv_at hl 3 rfl) ?_
          refine lv_bipush (v := 10) S.1 S.2.1 dX9_happenToOne_65 (by decide) ?_
          refine lv_iload_n S.1 S.2.1 dX9_happenToOne_67 rfl (lv_at hl 2 rfl) ?_
          refine lv_iadd S.1 S.2.1 dX9_happenToOne_68 ?_
          obtain ⟨σ_8, e_σ_8, hf⟩ := ob hf
          refine as_X9_1 S hw 0 rfl e_σ_8 dX9_happenToOne_69 (fun H locs hw => ?_)
          have hw : PW D A s.heap [pX9 cy o0 q0 σ_8] H locs := hw
          refine lv_goto (tgt := 78) S.1 S.2.1 dX9_happenToOne_70 (by decide) ?_
          cases hf
          exact w_vret S hr hlk hA hQ hw dX9_happenToOne_78
        · replace hf := (if_neg c_7).symm.trans hf
          have t_c_1 := ne_toInt (k := 4) c_1 (by decide)
          have t_c_3 := ne_toInt (k := 5) c_3 (by decide)
          have t_c_5 := ne_toInt (k := 6) c_5 (by decide)
          have t_c_7 := ne_toInt (k := 7) c_7 (by decide)
          refine lv_tableOut (tgt := 73) S.1 S.2.1 dX9_happenToOne_1 (by omega) (by decide) ?_
          refine lv_aload_n S.1 S.2.1 dX9_happenToOne_73 rfl (lv_at hl 0 rfl) ?_
          refine lv_iload_n S.1 S.2.1 dX9_happenToOne_74 rfl (lv_at hl 2 rfl) ?_
          obtain ⟨u_9, e_u_9, hf⟩ := ob hf
          refine k_X9_sit S (S.2.2.2.2.wd wd970 rfl) hw e_u_9 [0] rfl (by decide) rfl ⟨rfl, rfl, Nat.le_of_ble_eq_true rfl, Nat.le_of_ble_eq_true rfl⟩ hl.1 (Nat.le_of_ble_eq_true rfl) dX9_happenToOne_75 ⟨Nat.zero_le _, Nat.zero_le _⟩ (fun H locs hw => ?_)
          have hw : PW D A s.heap [pX9 cy o0 q0 u_9] H locs := hw
          cases hf
          exact w_vret S hr hlk hA hQ hw dX9_happenToOne_78
section
variable {p : Program} {l : Launch} {e : Env} {R : Room} {s : State} {m : MethodId} {args : Array Value} {below : List Frame} {meth : Method} {c : Code} {H : Heap} {locs : List Loc} {cells slots : Nat} {Q : State → Prop} {cc : ByteArray} {pc nL : Nat} {ls : Array Slot} {rest : List Value} {D : va_G} {cy : Nat → ClassId} {A : Nat → Prop} {H0 : Heap} {own : String} {Ps : List va_W}
set_option maxRecDepth 100000 in
theorem k_X9_happenToOne {o0 : Nat} {q0 : Nat → Nat} {x1 : Int32} {x2 : Int32} {x3 : Int32} {σ0 : pStt} {u : pStt} {index : Nat} (S : CX p m c cc nL s args own D cy) (hl : (Cond.methodLink own index yX9_happenToOne).before args s = true) (hw : PW D A H0 Ps H locs) (hf : f_X9_happenToOne x1 x2 x3 σ0 = some u) (js : List Nat) (hC : js.map (fun j => Ps[j]?) = [some (pX9 cy o0 q0 σ0)]) (hnd : js.Nodup) (hlen : js.length = 1) (hR : RMok rmX9_happenToOne R 4) (hsize : ls.size = nL) (hrest : (rest.map fun v => v.category).sum ≤ 8) (hdg : decode cc pc = .ok (.invokevirtual index, 3)) (hcs : cells ≤ R.cells ∧ slots ≤ R.slots)
    (kk : ∀ (H1 : Heap) (locs1 : List Loc), PW D A H0 (setAll Ps js [pX9 cy o0 q0 u]) H1 locs1 → W p l e R s m args below meth c H1 locs1 cells slots Q (F0 m (pc + 3) ls (rest))) : W p l e R s m args below meth c H locs cells slots Q (F0 m pc ls (.int x3 :: .int x2 :: .int x1 :: .ref o0 :: rest)) :=
  w_callV (n := 3) (ov := none) (As := [.int x1, .int x2, .int x3]) (Cs := [pX9 cy o0 q0 σ0]) (Cs' := [pX9 cy o0 q0 u]) S hw (c_X9_happenToOne l D cy o0 q0 x1 x2 x3 σ0 u hf) (MF.of S.2.2.2.2 wd977 wd79 (by decide)) (S.2.2.2.2.wd wd976 rfl) (S.2.2.2.2.wd wd45 rfl) hl hR js hC hnd hlen rfl rfl rfl rfl hsize rfl hrest hdg hcs kk
end
abbrev rmX9_happen : Room := { frames := 4, cells := 0, slots := 0, locals := 87 }
def f_X9_happen (x1 : Int32) (x2 : Int32) (x3 : Int32) (σ0 : pStt) : Option (pStt) := (some (sI σ0 7 ((-6)))).bind (fun σ_1 => if x1 = 0 then (f_X9_layWay x2 x3 1 σ_1).bind (fun u_3 => some u_3) else if x1 = 1 then (f_X9_layWay x2 x3 0 σ_1).bind (fun u_5 => some u_5) else if x1 = 2 then (stA σ_1 1 8 x2 x3).bind (fun σ_7 => some σ_7) else if x1 = 3 then (some (sI σ_1 0 (((1 : Int32) - (σ_1.1 0))))).bind (fun σ_9 => some σ_9) else if x1 = 9 then (f_X9_passHour σ_1).bind (fun u_11 => some u_11) else (f_X9_happenToOne x1 x2 x3 σ_1).bind (fun u_12 => some u_12))
set_option maxHeartbeats 4000000 in
set_option maxRecDepth 100000 in
theorem c_X9_happen (l : Launch) (D : va_G) (cy : Nat → ClassId) (o0 : Nat) (q0 : Nat → Nat) (x1 : Int32) (x2 : Int32) (x3 : Int32) (σ0 : pStt) (u : pStt) (hf : f_X9_happen x1 x2 x3 σ0 = some u) : CT l yX9_happen cX9_happen 4 none rmX9_happen D cy [.ref o0, .int x1, .int x2, .int x3] [pX9 cy o0 q0 σ0] none [pX9 cy o0 q0 u] := by
  refine CT.of (by decide) (Nat.le_of_ble_eq_true rfl) (fun p e s m args below meth c ls A Q hA hQ S hr hlk hl hw => ?_)
  have hl : lv_has ls 4 [(0, .ref o0), (1, .int x1), (2, .int x2), (3, .int x3)] := hl
  rw [f_X9_happen] at hf
  refine lv_aload_n S.1 S.2.1 dX9_happen_0 rfl (lv_at hl 0 rfl) ?_
  refine lv_bipush (v := (-6)) S.1 S.2.1 dX9_happen_1 (by decide) ?_
  obtain ⟨σ_1, e_σ_1, hf⟩ := ob hf
  refine pf_X9_184 S hw 0 rfl e_σ_1 dX9_happen_3 (fun H locs hw => ?_)
  have hw : PW D A s.heap [pX9 cy o0 q0 σ_1] H locs := hw
  refine lv_iload_n S.1 S.2.1 dX9_happen_6 rfl (lv_at hl 1 rfl) ?_
  by_cases c_2 : x1 = 0
  · replace hf := (if_pos c_2).symm.trans hf
    refine lv_tableIn (off := 53) (tgt := 60) S.1 S.2.1 dX9_happen_7 (by rw [c_2]; decide) (by rw [c_2]; decide) (by rw [c_2]; rfl) (by decide) ?_
    refine lv_aload_n S.1 S.2.1 dX9_happen_60 rfl (lv_at hl 0 rfl) ?_
    refine lv_iload_n S.1 S.2.1 dX9_happen_61 rfl (lv_at hl 2 rfl) ?_
    refine lv_iload_n S.1 S.2.1 dX9_happen_62 rfl (lv_at hl 3 rfl) ?_
    refine lv_iconst (v := 1) S.1 S.2.1 dX9_happen_63 (by decide) ?_
    obtain ⟨u_3, e_u_3, hf⟩ := ob hf
    refine k_X9_layWay S (S.2.2.2.2.wd wd821 rfl) hw e_u_3 [0] rfl (by decide) rfl ⟨rfl, rfl, Nat.le_of_ble_eq_true rfl, Nat.le_of_ble_eq_true rfl⟩ hl.1 (Nat.le_of_ble_eq_true rfl) dX9_happen_64 ⟨Nat.zero_le _, Nat.zero_le _⟩ (fun H locs hw => ?_)
    have hw : PW D A s.heap [pX9 cy o0 q0 u_3] H locs := hw
    refine lv_goto (tgt := 117) S.1 S.2.1 dX9_happen_67 (by decide) ?_
    cases hf
    exact w_vret S hr hlk hA hQ hw dX9_happen_117
  · replace hf := (if_neg c_2).symm.trans hf
    by_cases c_4 : x1 = 1
    · replace hf := (if_pos c_4).symm.trans hf
      refine lv_tableIn (off := 63) (tgt := 70) S.1 S.2.1 dX9_happen_7 (by rw [c_4]; decide) (by rw [c_4]; decide) (by rw [c_4]; rfl) (by decide) ?_
      refine lv_aload_n S.1 S.2.1 dX9_happen_70 rfl (lv_at hl 0 rfl) ?_
      refine lv_iload_n S.1 S.2.1 dX9_happen_71 rfl (lv_at hl 2 rfl) ?_
      refine lv_iload_n S.1 S.2.1 dX9_happen_72 rfl (lv_at hl 3 rfl) ?_
      refine lv_iconst (v := 0) S.1 S.2.1 dX9_happen_73 (by decide) ?_
      obtain ⟨u_5, e_u_5, hf⟩ := ob hf
      refine k_X9_layWay S (S.2.2.2.2.wd wd821 rfl) hw e_u_5 [0] rfl (by decide) rfl ⟨rfl, rfl, Nat.le_of_ble_eq_true rfl, Nat.le_of_ble_eq_true rfl⟩ hl.1 (Nat.le_of_ble_eq_true rfl) dX9_happen_74 ⟨Nat.zero_le _, Nat.zero_le _⟩ (fun H locs hw => ?_)
      have hw : PW D A s.heap [pX9 cy o0 q0 u_5] H locs := hw
      refine lv_goto (tgt := 117) S.1 S.2.1 dX9_happen_77 (by decide) ?_
      cases hf
      exact w_vret S hr hlk hA hQ hw dX9_happen_117
    · replace hf := (if_neg c_4).symm.trans hf
      by_cases c_6 : x1 = 2
      · replace hf := (if_pos c_6).symm.trans hf
        refine lv_tableIn (off := 73) (tgt := 80) S.1 S.2.1 dX9_happen_7 (by rw [c_6]; decide) (by rw [c_6]; decide) (by rw [c_6]; rfl) (by decide) ?_
        refine lv_aload_n S.1 S.2.1 dX9_happen_80 rfl (lv_at hl 0 rfl) ?_
        refine gf_X9_13 S hw 0 rfl dX9_happen_81 ?_
        refine lv_iload_n S.1 S.2.1 dX9_happen_84 rfl (lv_at hl 2 rfl) ?_
        refine lv_iload_n S.1 S.2.1 dX9_happen_85 rfl (lv_at hl 3 rfl) ?_
        obtain ⟨σ_7, e_σ_7, hf⟩ := ob hf
        refine as_X9_1 S hw 0 rfl e_σ_7 dX9_happen_86 (fun H locs hw => ?_)
        have hw : PW D A s.heap [pX9 cy o0 q0 σ_7] H locs := hw
        refine lv_goto (tgt := 117) S.1 S.2.1 dX9_happen_87 (by decide) ?_
        cases hf
        exact w_vret S hr hlk hA hQ hw dX9_happen_117
      · replace hf := (if_neg c_6).symm.trans hf
        by_cases c_8 : x1 = 3
        · replace hf := (if_pos c_8).symm.trans hf
          refine lv_tableIn (off := 83) (tgt := 90) S.1 S.2.1 dX9_happen_7 (by rw [c_8]; decide) (by rw [c_8]; decide) (by rw [c_8]; rfl) (by decide) ?_
          refine lv_aload_n S.1 S.2.1 dX9_happen_90 rfl (lv_at hl 0 rfl) ?_
          refine lv_iconst (v := 1) S.1 S.2.1 dX9_happen_91 (by decide) ?_
          refine lv_aload_n S.1 S.2.1 dX9_happen_92 rfl (lv_at hl 0 rfl) ?_
          refine gf_X9_74 S hw 0 rfl dX9_happen_93 ?_
          refine lv_isub S.1 S.2.1 dX9_happen_96 ?_
          obtain ⟨σ_9, e_σ_9, hf⟩ := ob hf
          refine pf_X9_74 S hw 0 rfl e_σ_9 dX9_happen_97 (fun H locs hw => ?_)
          have hw : PW D A s.heap [pX9 cy o0 q0 σ_9] H locs := hw
          refine lv_goto (tgt := 117) S.1 S.2.1 dX9_happen_100 (by decide) ?_
          cases hf
          exact w_vret S hr hlk hA hQ hw dX9_happen_117
        · replace hf := (if_neg c_8).symm.trans hf
          by_cases c_10 : x1 = 9
          · replace hf := (if_pos c_10).symm.trans hf
            refine lv_tableIn (off := 96) (tgt := 103) S.1 S.2.1 dX9_happen_7 (by rw [c_10]; decide) (by rw [c_10]; decide) (by rw [c_10]; rfl) (by decide) ?_
            refine lv_aload_n S.1 S.2.1 dX9_happen_103 rfl (lv_at hl 0 rfl) ?_
            obtain ⟨u_11, e_u_11, hf⟩ := ob hf
            refine k_X9_passHour S (S.2.2.2.2.wd wd962 rfl) hw e_u_11 [0] rfl (by decide) rfl ⟨rfl, rfl, Nat.le_of_ble_eq_true rfl, Nat.le_of_ble_eq_true rfl⟩ hl.1 (Nat.le_of_ble_eq_true rfl) dX9_happen_104 ⟨Nat.zero_le _, Nat.zero_le _⟩ (fun H locs hw => ?_)
            have hw : PW D A s.heap [pX9 cy o0 q0 u_11] H locs := hw
            refine lv_goto (tgt := 117) S.1 S.2.1 dX9_happen_107 (by decide) ?_
            cases hf
            exact w_vret S hr hlk hA hQ hw dX9_happen_117
          · replace hf := (if_neg c_10).symm.trans hf
            have t_c_2 := ne_toInt (k := 0) c_2 (by decide)
            have t_c_4 := ne_toInt (k := 1) c_4 (by decide)
            have t_c_6 := ne_toInt (k := 2) c_6 (by decide)
            have t_c_8 := ne_toInt (k := 3) c_8 (by decide)
            have t_c_10 := ne_toInt (k := 9) c_10 (by decide)
            refine w_tabD (tgt := 110) S.1 S.2.1 dX9_happen_7 ?_ (by decide) ?_
            · by_cases hh : (x1 : Int32).toInt < 0 ∨ 9 < (x1 : Int32).toInt
              · exact Or.inl hh
              · refine Or.inr ⟨by omega, by omega, ?_⟩
                have h3 : (x1 : Int32).toInt = 4 ∨ (x1 : Int32).toInt = 5 ∨ (x1 : Int32).toInt = 6 ∨ (x1 : Int32).toInt = 7 ∨ (x1 : Int32).toInt = 8 := by omega
                rcases h3 with e3 | e3 | e3 | e3 | e3 <;> (rw [e3]; rfl)
            ·
              refine lv_aload_n S.1 S.2.1 dX9_happen_110 rfl (lv_at hl 0 rfl) ?_
              refine lv_iload_n S.1 S.2.1 dX9_happen_111 rfl (lv_at hl 1 rfl) ?_
              refine lv_iload_n S.1 S.2.1 dX9_happen_112 rfl (lv_at hl 2 rfl) ?_
              refine lv_iload_n S.1 S.2.1 dX9_happen_113 rfl (lv_at hl 3 rfl) ?_
              obtain ⟨u_12, e_u_12, hf⟩ := ob hf
              refine k_X9_happenToOne S (S.2.2.2.2.wd wd974 rfl) hw e_u_12 [0] rfl (by decide) rfl ⟨rfl, rfl, Nat.le_of_ble_eq_true rfl, Nat.le_of_ble_eq_true rfl⟩ hl.1 (Nat.le_of_ble_eq_true rfl) dX9_happen_114 ⟨Nat.zero_le _, Nat.zero_le _⟩ (fun H locs hw => ?_)
              have hw : PW D A s.heap [pX9 cy o0 q0 u_12] H locs := hw
              cases hf
              exact w_vret S hr hlk hA hQ hw dX9_happen_117
section
variable {p : Program} {l : Launch} {e : Env} {R : Room} {s : State} {m : MethodId} {args : Array Value} {below : List Frame} {meth : Method} {c : Code} {H : Heap} {locs : List Loc} {cells slots : Nat} {Q : State → Prop} {cc : ByteArray} {pc nL : Nat} {ls : Array Slot} {rest : List Value} {D : va_G} {cy : Nat → ClassId} {A : Nat → Prop} {H0 : Heap} {own : String} {Ps : List va_W}
set_option maxRecDepth 100000 in
theorem k_X9_happen {o0 : Nat} {q0 : Nat → Nat} {x1 : Int32} {x2 : Int32} {x3 : Int32} {σ0 : pStt} {u : pStt} {index : Nat} (S : CX p m c cc nL s args own D cy) (hl : (Cond.methodLink own index yX9_happen).before args s = true) (hw : PW D A H0 Ps H locs) (hf : f_X9_happen x1 x2 x3 σ0 = some u) (js : List Nat) (hC : js.map (fun j => Ps[j]?) = [some (pX9 cy o0 q0 σ0)]) (hnd : js.Nodup) (hlen : js.length = 1) (hR : RMok rmX9_happen R 4) (hsize : ls.size = nL) (hrest : (rest.map fun v => v.category).sum ≤ 8) (hdg : decode cc pc = .ok (.invokevirtual index, 3)) (hcs : cells ≤ R.cells ∧ slots ≤ R.slots)
    (kk : ∀ (H1 : Heap) (locs1 : List Loc), PW D A H0 (setAll Ps js [pX9 cy o0 q0 u]) H1 locs1 → W p l e R s m args below meth c H1 locs1 cells slots Q (F0 m (pc + 3) ls (rest))) : W p l e R s m args below meth c H locs cells slots Q (F0 m pc ls (.int x3 :: .int x2 :: .int x1 :: .ref o0 :: rest)) :=
  w_callV (n := 3) (ov := none) (As := [.int x1, .int x2, .int x3]) (Cs := [pX9 cy o0 q0 σ0]) (Cs' := [pX9 cy o0 q0 u]) S hw (c_X9_happen l D cy o0 q0 x1 x2 x3 σ0 u hf) (MF.of S.2.2.2.2 wd961 wd79 (by decide)) (S.2.2.2.2.wd wd960 rfl) (S.2.2.2.2.wd wd41 rfl) hl hR js hC hnd hlen rfl rfl rfl rfl hsize rfl hrest hdg hcs kk
end
abbrev rmX9_carry : Room := { frames := 0, cells := 0, slots := 0, locals := 0 }
def f_X9_carry (x1 : Int32) (σ0 : pStt) : Option (Int32 × pStt) := (if (σ0.1 9) = 0 then some x1 else (ld (σ0.2 16) 36 ((σ0.1 8))).bind (fun x_5 => some x_5) : Option Int32).bind (fun v_1 => (stA σ0 16 36 ((σ0.1 8)) v_1).bind (fun σ_2 => (some (sI σ_2 8 (((σ_2.1 8) + (1 : Int32))))).bind (fun σ_3 => some (v_1, σ_3))))
set_option maxHeartbeats 4000000 in
set_option maxRecDepth 100000 in
theorem c_X9_carry (l : Launch) (D : va_G) (cy : Nat → ClassId) (o0 : Nat) (q0 : Nat → Nat) (x1 : Int32) (σ0 : pStt) (u : Int32 × pStt) (hf : f_X9_carry x1 σ0 = some u) : CT l yX9_carry cX9_carry 3 (some .int) rmX9_carry D cy [.ref o0, .int x1] [pX9 cy o0 q0 σ0] (some (.int u.1)) [pX9 cy o0 q0 u.2] := by
  refine CT.of (by decide) (Nat.le_of_ble_eq_true rfl) (fun p e s m args below meth c ls A Q hA hQ S hr hlk hl hw => ?_)
  have hl : lv_has ls 3 [(0, .ref o0), (1, .int x1)] := hl
  rw [f_X9_carry] at hf
  refine lv_aload_n S.1 S.2.1 dX9_carry_0 rfl (lv_at hl 0 rfl) ?_
  refine gf_X9_203 S hw 0 rfl dX9_carry_1 ?_
  obtain ⟨v_1, e_v_1, hf⟩ := ob hf
  have hJ_v_1 : ∀ (H : Heap) (locs : List Loc), PW D A s.heap [pX9 cy o0 q0 σ0] H locs → W p l e rmX9_carry s m args below meth c H locs 0 0 Q (F0 m 20 ls [.int v_1]) := by
    intro H locs hw
    refine lv_istore_n (lv' := [(2, .int v_1), (0, .ref o0), (1, .int x1)]) S.1 S.2.1 dX9_carry_20 rfl hl (by decide) rfl (fun ls hl => ?_)
    refine lv_aload_n S.1 S.2.1 dX9_carry_21 rfl (lv_at hl 1 rfl) ?_
    refine gf_X9_58 S hw 0 rfl dX9_carry_22 ?_
    refine lv_aload_n S.1 S.2.1 dX9_carry_25 rfl (lv_at hl 1 rfl) ?_
    refine gf_X9_207 S hw 0 rfl dX9_carry_26 ?_
    refine lv_iload_n S.1 S.2.1 dX9_carry_29 rfl (lv_at hl 0 rfl) ?_
    obtain ⟨σ_2, e_σ_2, hf⟩ := ob hf
    refine as_X9_16 S hw 0 rfl e_σ_2 dX9_carry_30 (fun H locs hw => ?_)
    have hw : PW D A s.heap [pX9 cy o0 q0 σ_2] H locs := hw
    refine lv_aload_n S.1 S.2.1 dX9_carry_31 rfl (lv_at hl 1 rfl) ?_
    refine lv_dup S.1 S.2.1 dX9_carry_32 rfl ?_
    refine gf_X9_207 S hw 0 rfl dX9_carry_33 ?_
    refine lv_iconst (v := 1) S.1 S.2.1 dX9_carry_36 (by decide) ?_
    refine lv_iadd S.1 S.2.1 dX9_carry_37 ?_
    obtain ⟨σ_3, e_σ_3, hf⟩ := ob hf
    refine pf_X9_207 S hw 0 rfl e_σ_3 dX9_carry_38 (fun H locs hw => ?_)
    have hw : PW D A s.heap [pX9 cy o0 q0 σ_3] H locs := hw
    refine lv_iload_n S.1 S.2.1 dX9_carry_41 rfl (lv_at hl 0 rfl) ?_
    cases hf
    exact w_iret S hr hlk hA hQ hw dX9_carry_42
  replace hf := e_v_1
  clear e_v_1
  refine lv_if_eq (tgt := 19) S.1 S.2.1 dX9_carry_4 (by decide) (fun c_4 => ?_) (fun c_4 => ?_)
  · replace hf := (if_pos c_4).symm.trans hf
    refine lv_iload_n S.1 S.2.1 dX9_carry_19 rfl (lv_at hl 1 rfl) ?_
    cases hf
    exact hJ_v_1 _ _ hw
  · replace hf := (if_neg c_4).symm.trans hf
    refine lv_aload_n S.1 S.2.1 dX9_carry_7 rfl (lv_at hl 0 rfl) ?_
    refine gf_X9_58 S hw 0 rfl dX9_carry_8 ?_
    refine lv_aload_n S.1 S.2.1 dX9_carry_11 rfl (lv_at hl 0 rfl) ?_
    refine gf_X9_207 S hw 0 rfl dX9_carry_12 ?_
    obtain ⟨x_5, e_x_5, hf⟩ := ob hf
    refine al_X9_16 S hw 0 rfl e_x_5 dX9_carry_15 ?_
    refine lv_goto (tgt := 20) S.1 S.2.1 dX9_carry_16 (by decide) ?_
    cases hf
    exact hJ_v_1 _ _ hw
section
variable {p : Program} {l : Launch} {e : Env} {R : Room} {s : State} {m : MethodId} {args : Array Value} {below : List Frame} {meth : Method} {c : Code} {H : Heap} {locs : List Loc} {cells slots : Nat} {Q : State → Prop} {cc : ByteArray} {pc nL : Nat} {ls : Array Slot} {rest : List Value} {D : va_G} {cy : Nat → ClassId} {A : Nat → Prop} {H0 : Heap} {own : String} {Ps : List va_W}
set_option maxRecDepth 100000 in
theorem k_X9_carry {o0 : Nat} {q0 : Nat → Nat} {x1 : Int32} {σ0 : pStt} {u : Int32 × pStt} {index : Nat} (S : CX p m c cc nL s args own D cy) (hl : (Cond.methodLink own index yX9_carry).before args s = true) (hw : PW D A H0 Ps H locs) (hf : f_X9_carry x1 σ0 = some u) (js : List Nat) (hC : js.map (fun j => Ps[j]?) = [some (pX9 cy o0 q0 σ0)]) (hnd : js.Nodup) (hlen : js.length = 1) (hR : RMok rmX9_carry R 3) (hsize : ls.size = nL) (hrest : (rest.map fun v => v.category).sum ≤ 8) (hdg : decode cc pc = .ok (.invokevirtual index, 3)) (hcs : cells ≤ R.cells ∧ slots ≤ R.slots)
    (kk : ∀ (H1 : Heap) (locs1 : List Loc), PW D A H0 (setAll Ps js [pX9 cy o0 q0 u.2]) H1 locs1 → W p l e R s m args below meth c H1 locs1 cells slots Q (F0 m (pc + 3) ls (.int u.1 :: rest))) : W p l e R s m args below meth c H locs cells slots Q (F0 m pc ls (.int x1 :: .ref o0 :: rest)) :=
  w_callV (n := 1) (ov := (some (.int u.1))) (As := [.int x1]) (Cs := [pX9 cy o0 q0 σ0]) (Cs' := [pX9 cy o0 q0 u.2]) S hw (c_X9_carry l D cy o0 q0 x1 σ0 u hf) (MF.of S.2.2.2.2 wd925 wd79 (by decide)) (S.2.2.2.2.wd wd924 rfl) (S.2.2.2.2.wd wd33 rfl) hl hR js hC hnd hlen rfl rfl rfl rfl hsize rfl hrest hdg hcs kk
end
abbrev rmX9_carryRow_a0 : Room := { frames := 1, cells := 0, slots := 0, locals := 22 }
def fl_X9_carryRow_a0_2 (y2 : Int32)  : Nat → Int32 → pStt → Option (pStt)
  | 0, _, _ => none
  | n + 1, y3, σ0 => if y2 ≤ y3 then some σ0 else (ld (σ0.2 0) 8 y3).bind (fun x_2 => (f_X9_carry x_2 σ0).bind (fun u_3 => (stA u_3.2 0 8 y3 u_3.1).bind (fun σ_4 => fl_X9_carryRow_a0_2 y2 n ((y3 + 1)) σ_4)))
def f_X9_carryRow_a0 (x2 : Int32) (σ0 : pStt) : Option (pStt) := (fl_X9_carryRow_a0_2 x2 2000 0 σ0).bind (fun u_5 => some u_5)
section
variable {p : Program} {l : Launch} {e : Env} {s : State} {m : MethodId} {args : Array Value} {below : List Frame} {meth : Method} {c : Code} {Q : State → Prop} {D : va_G} {cy : Nat → ClassId} {A : Nat → Prop} {H0 : Heap}
set_option maxHeartbeats 4000000 in
set_option maxRecDepth 100000 in
theorem lp_X9_carryRow_a0_2 (S : CX p m c cX9_carryRow 4 s args RX9 D cy) {o0 : Nat} {q0 : Nat → Nat}  {y2 : Int32} : ∀ (n : Nat) (y3 : Int32) (σ0 : pStt) (H : Heap) (locs : List Loc) (ls : Array Slot) (u : pStt), PW D A H0 [pX9 cy o0 q0 σ0] H locs → lv_has ls 4 [(0, .ref o0), (1, .ref ((q0 0))), (2, .int y2), (3, .int y3)] → fl_X9_carryRow_a0_2 y2 n y3 σ0 = some u → (∀ (H : Heap) (locs : List Loc) (ls : Array Slot), PW D A H0 [pX9 cy o0 q0 u] H locs → lv_has ls 4 [] → W p l e rmX9_carryRow_a0 s m args below meth c H locs 0 0 Q (F0 m 23 ls [])) → W p l e rmX9_carryRow_a0 s m args below meth c H locs 0 0 Q (F0 m 2 ls []) := by
  intro n
  induction n with
  | zero =>
    intro y3 σ0 H locs ls u hw hl hf K0
    rw [fl_X9_carryRow_a0_2] at hf
    cases hf
  | succ n ih =>
    intro y3 σ0 H locs ls u hw hl hf K0
    rw [fl_X9_carryRow_a0_2] at hf
    refine lv_iload_n S.1 S.2.1 dX9_carryRow_2 rfl (lv_at hl 3 rfl) ?_
    refine lv_iload_n S.1 S.2.1 dX9_carryRow_3 rfl (lv_at hl 2 rfl) ?_
    refine lv_icmp_ge (tgt := 23) S.1 S.2.1 dX9_carryRow_4 (by decide) (fun c_1 => ?_) (fun c_1 => ?_)
    · replace hf := (if_pos c_1).symm.trans hf
      cases hf
      exact K0 _ _ _ hw (lv_sub hl [] rfl)
    · replace hf := (if_neg c_1).symm.trans hf
      refine lv_aload_n S.1 S.2.1 dX9_carryRow_7 rfl (lv_at hl 1 rfl) ?_
      refine lv_iload_n S.1 S.2.1 dX9_carryRow_8 rfl (lv_at hl 3 rfl) ?_
      refine lv_aload_n S.1 S.2.1 dX9_carryRow_9 rfl (lv_at hl 0 rfl) ?_
      refine lv_aload_n S.1 S.2.1 dX9_carryRow_10 rfl (lv_at hl 1 rfl) ?_
      refine lv_iload_n S.1 S.2.1 dX9_carryRow_11 rfl (lv_at hl 3 rfl) ?_
      obtain ⟨x_2, e_x_2, hf⟩ := ob hf
      refine al_X9_0 S hw 0 rfl e_x_2 dX9_carryRow_12 ?_
      obtain ⟨u_3, e_u_3, hf⟩ := ob hf
      refine k_X9_carry S (S.2.2.2.2.wd wd922 rfl) hw e_u_3 [0] rfl (by decide) rfl ⟨rfl, rfl, Nat.le_of_ble_eq_true rfl, Nat.le_of_ble_eq_true rfl⟩ hl.1 (Nat.le_of_ble_eq_true rfl) dX9_carryRow_13 ⟨Nat.zero_le _, Nat.zero_le _⟩ (fun H locs hw => ?_)
      have hw : PW D A H0 [pX9 cy o0 q0 u_3.2] H locs := hw
      obtain ⟨σ_4, e_σ_4, hf⟩ := ob hf
      refine as_X9_0 S hw 0 rfl e_σ_4 dX9_carryRow_16 (fun H locs hw => ?_)
      have hw : PW D A H0 [pX9 cy o0 q0 σ_4] H locs := hw
      refine lv_iinc (v := (y3 + 1)) (lv' := [(3, .int ((y3 + 1))), (0, .ref o0), (1, .ref ((q0 0))), (2, .int y2)]) S.1 S.2.1 dX9_carryRow_17 hl (k := 3) rfl rfl (by decide) rfl (fun ls hl => ?_)
      refine lv_goto (tgt := 2) S.1 S.2.1 dX9_carryRow_20 (by decide) ?_
      exact ih _ _ _ _ _ _ hw (lv_sub hl [1, 2, 3, 0] rfl) hf K0
end
set_option maxHeartbeats 4000000 in
set_option maxRecDepth 100000 in
theorem c_X9_carryRow_a0 (l : Launch) (D : va_G) (cy : Nat → ClassId) (o0 : Nat) (q0 : Nat → Nat) (x2 : Int32) (σ0 : pStt) (u : pStt) (hf : f_X9_carryRow_a0 x2 σ0 = some u) : CT l yX9_carryRow cX9_carryRow 4 none rmX9_carryRow_a0 D cy [.ref o0, .ref ((q0 0)), .int x2] [pX9 cy o0 q0 σ0] none [pX9 cy o0 q0 u] := by
  refine CT.of (by decide) (Nat.le_of_ble_eq_true rfl) (fun p e s m args below meth c ls A Q hA hQ S hr hlk hl hw => ?_)
  have hl : lv_has ls 4 [(0, .ref o0), (1, .ref ((q0 0))), (2, .int x2)] := hl
  rw [f_X9_carryRow_a0] at hf
  refine lv_iconst (v := 0) S.1 S.2.1 dX9_carryRow_0 (by decide) ?_
  refine lv_istore_n (lv' := [(3, .int 0), (0, .ref o0), (1, .ref ((q0 0))), (2, .int x2)]) S.1 S.2.1 dX9_carryRow_1 rfl hl (by decide) rfl (fun ls hl => ?_)
  obtain ⟨u_5, e_u_5, hf⟩ := ob hf
  refine lp_X9_carryRow_a0_2 S 2000 _ _ _ _ _ _ hw (lv_sub hl [1, 2, 3, 0] rfl) e_u_5 ?_
  · intro H locs ls hw hl
    cases hf
    exact w_vret S hr hlk hA hQ hw dX9_carryRow_23
section
variable {p : Program} {l : Launch} {e : Env} {R : Room} {s : State} {m : MethodId} {args : Array Value} {below : List Frame} {meth : Method} {c : Code} {H : Heap} {locs : List Loc} {cells slots : Nat} {Q : State → Prop} {cc : ByteArray} {pc nL : Nat} {ls : Array Slot} {rest : List Value} {D : va_G} {cy : Nat → ClassId} {A : Nat → Prop} {H0 : Heap} {own : String} {Ps : List va_W}
set_option maxRecDepth 100000 in
theorem k_X9_carryRow_a0 {o0 : Nat} {q0 : Nat → Nat} {x2 : Int32} {σ0 : pStt} {u : pStt} {index : Nat} (S : CX p m c cc nL s args own D cy) (hl : (Cond.methodLink own index yX9_carryRow).before args s = true) (hw : PW D A H0 Ps H locs) (hf : f_X9_carryRow_a0 x2 σ0 = some u) (js : List Nat) (hC : js.map (fun j => Ps[j]?) = [some (pX9 cy o0 q0 σ0)]) (hnd : js.Nodup) (hlen : js.length = 1) (hR : RMok rmX9_carryRow_a0 R 4) (hsize : ls.size = nL) (hrest : (rest.map fun v => v.category).sum ≤ 8) (hdg : decode cc pc = .ok (.invokevirtual index, 3)) (hcs : cells ≤ R.cells ∧ slots ≤ R.slots)
    (kk : ∀ (H1 : Heap) (locs1 : List Loc), PW D A H0 (setAll Ps js [pX9 cy o0 q0 u]) H1 locs1 → W p l e R s m args below meth c H1 locs1 cells slots Q (F0 m (pc + 3) ls (rest))) : W p l e R s m args below meth c H locs cells slots Q (F0 m pc ls (.int x2 :: .ref ((q0 0)) :: .ref o0 :: rest)) :=
  w_callV (n := 2) (ov := none) (As := [.ref ((q0 0)), .int x2]) (Cs := [pX9 cy o0 q0 σ0]) (Cs' := [pX9 cy o0 q0 u]) S hw (c_X9_carryRow_a0 l D cy o0 q0 x2 σ0 u hf) (MF.of S.2.2.2.2 wd929 wd79 (by decide)) (S.2.2.2.2.wd wd928 rfl) (S.2.2.2.2.wd wd34 rfl) hl hR js hC hnd hlen rfl rfl rfl rfl hsize rfl hrest hdg hcs kk
end
abbrev rmX9_carryRow_a1 : Room := { frames := 1, cells := 0, slots := 0, locals := 22 }
def fl_X9_carryRow_a1_2 (y2 : Int32)  : Nat → Int32 → pStt → Option (pStt)
  | 0, _, _ => none
  | n + 1, y3, σ0 => if y2 ≤ y3 then some σ0 else (ld (σ0.2 1) 8 y3).bind (fun x_2 => (f_X9_carry x_2 σ0).bind (fun u_3 => (stA u_3.2 1 8 y3 u_3.1).bind (fun σ_4 => fl_X9_carryRow_a1_2 y2 n ((y3 + 1)) σ_4)))
def f_X9_carryRow_a1 (x2 : Int32) (σ0 : pStt) : Option (pStt) := (fl_X9_carryRow_a1_2 x2 2000 0 σ0).bind (fun u_5 => some u_5)
section
variable {p : Program} {l : Launch} {e : Env} {s : State} {m : MethodId} {args : Array Value} {below : List Frame} {meth : Method} {c : Code} {Q : State → Prop} {D : va_G} {cy : Nat → ClassId} {A : Nat → Prop} {H0 : Heap}
set_option maxHeartbeats 4000000 in
set_option maxRecDepth 100000 in
theorem lp_X9_carryRow_a1_2 (S : CX p m c cX9_carryRow 4 s args RX9 D cy) {o0 : Nat} {q0 : Nat → Nat}  {y2 : Int32} : ∀ (n : Nat) (y3 : Int32) (σ0 : pStt) (H : Heap) (locs : List Loc) (ls : Array Slot) (u : pStt), PW D A H0 [pX9 cy o0 q0 σ0] H locs → lv_has ls 4 [(0, .ref o0), (1, .ref ((q0 1))), (2, .int y2), (3, .int y3)] → fl_X9_carryRow_a1_2 y2 n y3 σ0 = some u → (∀ (H : Heap) (locs : List Loc) (ls : Array Slot), PW D A H0 [pX9 cy o0 q0 u] H locs → lv_has ls 4 [] → W p l e rmX9_carryRow_a1 s m args below meth c H locs 0 0 Q (F0 m 23 ls [])) → W p l e rmX9_carryRow_a1 s m args below meth c H locs 0 0 Q (F0 m 2 ls []) := by
  intro n
  induction n with
  | zero =>
    intro y3 σ0 H locs ls u hw hl hf K0
    rw [fl_X9_carryRow_a1_2] at hf
    cases hf
  | succ n ih =>
    intro y3 σ0 H locs ls u hw hl hf K0
    rw [fl_X9_carryRow_a1_2] at hf
    refine lv_iload_n S.1 S.2.1 dX9_carryRow_2 rfl (lv_at hl 3 rfl) ?_
    refine lv_iload_n S.1 S.2.1 dX9_carryRow_3 rfl (lv_at hl 2 rfl) ?_
    refine lv_icmp_ge (tgt := 23) S.1 S.2.1 dX9_carryRow_4 (by decide) (fun c_1 => ?_) (fun c_1 => ?_)
    · replace hf := (if_pos c_1).symm.trans hf
      cases hf
      exact K0 _ _ _ hw (lv_sub hl [] rfl)
    · replace hf := (if_neg c_1).symm.trans hf
      refine lv_aload_n S.1 S.2.1 dX9_carryRow_7 rfl (lv_at hl 1 rfl) ?_
      refine lv_iload_n S.1 S.2.1 dX9_carryRow_8 rfl (lv_at hl 3 rfl) ?_
      refine lv_aload_n S.1 S.2.1 dX9_carryRow_9 rfl (lv_at hl 0 rfl) ?_
      refine lv_aload_n S.1 S.2.1 dX9_carryRow_10 rfl (lv_at hl 1 rfl) ?_
      refine lv_iload_n S.1 S.2.1 dX9_carryRow_11 rfl (lv_at hl 3 rfl) ?_
      obtain ⟨x_2, e_x_2, hf⟩ := ob hf
      refine al_X9_1 S hw 0 rfl e_x_2 dX9_carryRow_12 ?_
      obtain ⟨u_3, e_u_3, hf⟩ := ob hf
      refine k_X9_carry S (S.2.2.2.2.wd wd922 rfl) hw e_u_3 [0] rfl (by decide) rfl ⟨rfl, rfl, Nat.le_of_ble_eq_true rfl, Nat.le_of_ble_eq_true rfl⟩ hl.1 (Nat.le_of_ble_eq_true rfl) dX9_carryRow_13 ⟨Nat.zero_le _, Nat.zero_le _⟩ (fun H locs hw => ?_)
      have hw : PW D A H0 [pX9 cy o0 q0 u_3.2] H locs := hw
      obtain ⟨σ_4, e_σ_4, hf⟩ := ob hf
      refine as_X9_1 S hw 0 rfl e_σ_4 dX9_carryRow_16 (fun H locs hw => ?_)
      have hw : PW D A H0 [pX9 cy o0 q0 σ_4] H locs := hw
      refine lv_iinc (v := (y3 + 1)) (lv' := [(3, .int ((y3 + 1))), (0, .ref o0), (1, .ref ((q0 1))), (2, .int y2)]) S.1 S.2.1 dX9_carryRow_17 hl (k := 3) rfl rfl (by decide) rfl (fun ls hl => ?_)
      refine lv_goto (tgt := 2) S.1 S.2.1 dX9_carryRow_20 (by decide) ?_
      exact ih _ _ _ _ _ _ hw (lv_sub hl [1, 2, 3, 0] rfl) hf K0
end
set_option maxHeartbeats 4000000 in
set_option maxRecDepth 100000 in
theorem c_X9_carryRow_a1 (l : Launch) (D : va_G) (cy : Nat → ClassId) (o0 : Nat) (q0 : Nat → Nat) (x2 : Int32) (σ0 : pStt) (u : pStt) (hf : f_X9_carryRow_a1 x2 σ0 = some u) : CT l yX9_carryRow cX9_carryRow 4 none rmX9_carryRow_a1 D cy [.ref o0, .ref ((q0 1)), .int x2] [pX9 cy o0 q0 σ0] none [pX9 cy o0 q0 u] := by
  refine CT.of (by decide) (Nat.le_of_ble_eq_true rfl) (fun p e s m args below meth c ls A Q hA hQ S hr hlk hl hw => ?_)
  have hl : lv_has ls 4 [(0, .ref o0), (1, .ref ((q0 1))), (2, .int x2)] := hl
  rw [f_X9_carryRow_a1] at hf
  refine lv_iconst (v := 0) S.1 S.2.1 dX9_carryRow_0 (by decide) ?_
  refine lv_istore_n (lv' := [(3, .int 0), (0, .ref o0), (1, .ref ((q0 1))), (2, .int x2)]) S.1 S.2.1 dX9_carryRow_1 rfl hl (by decide) rfl (fun ls hl => ?_)
  obtain ⟨u_5, e_u_5, hf⟩ := ob hf
  refine lp_X9_carryRow_a1_2 S 2000 _ _ _ _ _ _ hw (lv_sub hl [1, 2, 3, 0] rfl) e_u_5 ?_
  · intro H locs ls hw hl
    cases hf
    exact w_vret S hr hlk hA hQ hw dX9_carryRow_23
section
variable {p : Program} {l : Launch} {e : Env} {R : Room} {s : State} {m : MethodId} {args : Array Value} {below : List Frame} {meth : Method} {c : Code} {H : Heap} {locs : List Loc} {cells slots : Nat} {Q : State → Prop} {cc : ByteArray} {pc nL : Nat} {ls : Array Slot} {rest : List Value} {D : va_G} {cy : Nat → ClassId} {A : Nat → Prop} {H0 : Heap} {own : String} {Ps : List va_W}
set_option maxRecDepth 100000 in
theorem k_X9_carryRow_a1 {o0 : Nat} {q0 : Nat → Nat} {x2 : Int32} {σ0 : pStt} {u : pStt} {index : Nat} (S : CX p m c cc nL s args own D cy) (hl : (Cond.methodLink own index yX9_carryRow).before args s = true) (hw : PW D A H0 Ps H locs) (hf : f_X9_carryRow_a1 x2 σ0 = some u) (js : List Nat) (hC : js.map (fun j => Ps[j]?) = [some (pX9 cy o0 q0 σ0)]) (hnd : js.Nodup) (hlen : js.length = 1) (hR : RMok rmX9_carryRow_a1 R 4) (hsize : ls.size = nL) (hrest : (rest.map fun v => v.category).sum ≤ 8) (hdg : decode cc pc = .ok (.invokevirtual index, 3)) (hcs : cells ≤ R.cells ∧ slots ≤ R.slots)
    (kk : ∀ (H1 : Heap) (locs1 : List Loc), PW D A H0 (setAll Ps js [pX9 cy o0 q0 u]) H1 locs1 → W p l e R s m args below meth c H1 locs1 cells slots Q (F0 m (pc + 3) ls (rest))) : W p l e R s m args below meth c H locs cells slots Q (F0 m pc ls (.int x2 :: .ref ((q0 1)) :: .ref o0 :: rest)) :=
  w_callV (n := 2) (ov := none) (As := [.ref ((q0 1)), .int x2]) (Cs := [pX9 cy o0 q0 σ0]) (Cs' := [pX9 cy o0 q0 u]) S hw (c_X9_carryRow_a1 l D cy o0 q0 x2 σ0 u hf) (MF.of S.2.2.2.2 wd929 wd79 (by decide)) (S.2.2.2.2.wd wd928 rfl) (S.2.2.2.2.wd wd34 rfl) hl hR js hC hnd hlen rfl rfl rfl rfl hsize rfl hrest hdg hcs kk
end
abbrev rmX9_carryRow_a2 : Room := { frames := 1, cells := 0, slots := 0, locals := 22 }
def fl_X9_carryRow_a2_2 (y2 : Int32)  : Nat → Int32 → pStt → Option (pStt)
  | 0, _, _ => none
  | n + 1, y3, σ0 => if y2 ≤ y3 then some σ0 else (ld (σ0.2 2) 6 y3).bind (fun x_2 => (f_X9_carry x_2 σ0).bind (fun u_3 => (stA u_3.2 2 6 y3 u_3.1).bind (fun σ_4 => fl_X9_carryRow_a2_2 y2 n ((y3 + 1)) σ_4)))
def f_X9_carryRow_a2 (x2 : Int32) (σ0 : pStt) : Option (pStt) := (fl_X9_carryRow_a2_2 x2 2000 0 σ0).bind (fun u_5 => some u_5)
section
variable {p : Program} {l : Launch} {e : Env} {s : State} {m : MethodId} {args : Array Value} {below : List Frame} {meth : Method} {c : Code} {Q : State → Prop} {D : va_G} {cy : Nat → ClassId} {A : Nat → Prop} {H0 : Heap}
set_option maxHeartbeats 4000000 in
set_option maxRecDepth 100000 in
theorem lp_X9_carryRow_a2_2 (S : CX p m c cX9_carryRow 4 s args RX9 D cy) {o0 : Nat} {q0 : Nat → Nat}  {y2 : Int32} : ∀ (n : Nat) (y3 : Int32) (σ0 : pStt) (H : Heap) (locs : List Loc) (ls : Array Slot) (u : pStt), PW D A H0 [pX9 cy o0 q0 σ0] H locs → lv_has ls 4 [(0, .ref o0), (1, .ref ((q0 2))), (2, .int y2), (3, .int y3)] → fl_X9_carryRow_a2_2 y2 n y3 σ0 = some u → (∀ (H : Heap) (locs : List Loc) (ls : Array Slot), PW D A H0 [pX9 cy o0 q0 u] H locs → lv_has ls 4 [] → W p l e rmX9_carryRow_a2 s m args below meth c H locs 0 0 Q (F0 m 23 ls [])) → W p l e rmX9_carryRow_a2 s m args below meth c H locs 0 0 Q (F0 m 2 ls []) := by
  intro n
  induction n with
  | zero =>
    intro y3 σ0 H locs ls u hw hl hf K0
    rw [fl_X9_carryRow_a2_2] at hf
    cases hf
  | succ n ih =>
    intro y3 σ0 H locs ls u hw hl hf K0
    rw [fl_X9_carryRow_a2_2] at hf
    refine lv_iload_n S.1 S.2.1 dX9_carryRow_2 rfl (lv_at hl 3 rfl) ?_
    refine lv_iload_n S.1 S.2.1 dX9_carryRow_3 rfl (lv_at hl 2 rfl) ?_
    refine lv_icmp_ge (tgt := 23) S.1 S.2.1 dX9_carryRow_4 (by decide) (fun c_1 => ?_) (fun c_1 => ?_)
    · replace hf := (if_pos c_1).symm.trans hf
      cases hf
      exact K0 _ _ _ hw (lv_sub hl [] rfl)
    · replace hf := (if_neg c_1).symm.trans hf
      refine lv_aload_n S.1 S.2.1 dX9_carryRow_7 rfl (lv_at hl 1 rfl) ?_
      refine lv_iload_n S.1 S.2.1 dX9_carryRow_8 rfl (lv_at hl 3 rfl) ?_
      refine lv_aload_n S.1 S.2.1 dX9_carryRow_9 rfl (lv_at hl 0 rfl) ?_
      refine lv_aload_n S.1 S.2.1 dX9_carryRow_10 rfl (lv_at hl 1 rfl) ?_
      refine lv_iload_n S.1 S.2.1 dX9_carryRow_11 rfl (lv_at hl 3 rfl) ?_
      obtain ⟨x_2, e_x_2, hf⟩ := ob hf
      refine al_X9_2 S hw 0 rfl e_x_2 dX9_carryRow_12 ?_
      obtain ⟨u_3, e_u_3, hf⟩ := ob hf
      refine k_X9_carry S (S.2.2.2.2.wd wd922 rfl) hw e_u_3 [0] rfl (by decide) rfl ⟨rfl, rfl, Nat.le_of_ble_eq_true rfl, Nat.le_of_ble_eq_true rfl⟩ hl.1 (Nat.le_of_ble_eq_true rfl) dX9_carryRow_13 ⟨Nat.zero_le _, Nat.zero_le _⟩ (fun H locs hw => ?_)
      have hw : PW D A H0 [pX9 cy o0 q0 u_3.2] H locs := hw
      obtain ⟨σ_4, e_σ_4, hf⟩ := ob hf
      refine as_X9_2 S hw 0 rfl e_σ_4 dX9_carryRow_16 (fun H locs hw => ?_)
      have hw : PW D A H0 [pX9 cy o0 q0 σ_4] H locs := hw
      refine lv_iinc (v := (y3 + 1)) (lv' := [(3, .int ((y3 + 1))), (0, .ref o0), (1, .ref ((q0 2))), (2, .int y2)]) S.1 S.2.1 dX9_carryRow_17 hl (k := 3) rfl rfl (by decide) rfl (fun ls hl => ?_)
      refine lv_goto (tgt := 2) S.1 S.2.1 dX9_carryRow_20 (by decide) ?_
      exact ih _ _ _ _ _ _ hw (lv_sub hl [1, 2, 3, 0] rfl) hf K0
end
set_option maxHeartbeats 4000000 in
set_option maxRecDepth 100000 in
theorem c_X9_carryRow_a2 (l : Launch) (D : va_G) (cy : Nat → ClassId) (o0 : Nat) (q0 : Nat → Nat) (x2 : Int32) (σ0 : pStt) (u : pStt) (hf : f_X9_carryRow_a2 x2 σ0 = some u) : CT l yX9_carryRow cX9_carryRow 4 none rmX9_carryRow_a2 D cy [.ref o0, .ref ((q0 2)), .int x2] [pX9 cy o0 q0 σ0] none [pX9 cy o0 q0 u] := by
  refine CT.of (by decide) (Nat.le_of_ble_eq_true rfl) (fun p e s m args below meth c ls A Q hA hQ S hr hlk hl hw => ?_)
  have hl : lv_has ls 4 [(0, .ref o0), (1, .ref ((q0 2))), (2, .int x2)] := hl
  rw [f_X9_carryRow_a2] at hf
  refine lv_iconst (v := 0) S.1 S.2.1 dX9_carryRow_0 (by decide) ?_
  refine lv_istore_n (lv' := [(3, .int 0), (0, .ref o0), (1, .ref ((q0 2))), (2, .int x2)]) S.1 S.2.1 dX9_carryRow_1 rfl hl (by decide) rfl (fun ls hl => ?_)
  obtain ⟨u_5, e_u_5, hf⟩ := ob hf
  refine lp_X9_carryRow_a2_2 S 2000 _ _ _ _ _ _ hw (lv_sub hl [1, 2, 3, 0] rfl) e_u_5 ?_
  · intro H locs ls hw hl
    cases hf
    exact w_vret S hr hlk hA hQ hw dX9_carryRow_23
section
variable {p : Program} {l : Launch} {e : Env} {R : Room} {s : State} {m : MethodId} {args : Array Value} {below : List Frame} {meth : Method} {c : Code} {H : Heap} {locs : List Loc} {cells slots : Nat} {Q : State → Prop} {cc : ByteArray} {pc nL : Nat} {ls : Array Slot} {rest : List Value} {D : va_G} {cy : Nat → ClassId} {A : Nat → Prop} {H0 : Heap} {own : String} {Ps : List va_W}
set_option maxRecDepth 100000 in
theorem k_X9_carryRow_a2 {o0 : Nat} {q0 : Nat → Nat} {x2 : Int32} {σ0 : pStt} {u : pStt} {index : Nat} (S : CX p m c cc nL s args own D cy) (hl : (Cond.methodLink own index yX9_carryRow).before args s = true) (hw : PW D A H0 Ps H locs) (hf : f_X9_carryRow_a2 x2 σ0 = some u) (js : List Nat) (hC : js.map (fun j => Ps[j]?) = [some (pX9 cy o0 q0 σ0)]) (hnd : js.Nodup) (hlen : js.length = 1) (hR : RMok rmX9_carryRow_a2 R 4) (hsize : ls.size = nL) (hrest : (rest.map fun v => v.category).sum ≤ 8) (hdg : decode cc pc = .ok (.invokevirtual index, 3)) (hcs : cells ≤ R.cells ∧ slots ≤ R.slots)
    (kk : ∀ (H1 : Heap) (locs1 : List Loc), PW D A H0 (setAll Ps js [pX9 cy o0 q0 u]) H1 locs1 → W p l e R s m args below meth c H1 locs1 cells slots Q (F0 m (pc + 3) ls (rest))) : W p l e R s m args below meth c H locs cells slots Q (F0 m pc ls (.int x2 :: .ref ((q0 2)) :: .ref o0 :: rest)) :=
  w_callV (n := 2) (ov := none) (As := [.ref ((q0 2)), .int x2]) (Cs := [pX9 cy o0 q0 σ0]) (Cs' := [pX9 cy o0 q0 u]) S hw (c_X9_carryRow_a2 l D cy o0 q0 x2 σ0 u hf) (MF.of S.2.2.2.2 wd929 wd79 (by decide)) (S.2.2.2.2.wd wd928 rfl) (S.2.2.2.2.wd wd34 rfl) hl hR js hC hnd hlen rfl rfl rfl rfl hsize rfl hrest hdg hcs kk
end
abbrev rmX9_carryRow_a3 : Room := { frames := 1, cells := 0, slots := 0, locals := 22 }
def fl_X9_carryRow_a3_2 (y2 : Int32)  : Nat → Int32 → pStt → Option (pStt)
  | 0, _, _ => none
  | n + 1, y3, σ0 => if y2 ≤ y3 then some σ0 else (ld (σ0.2 3) 6 y3).bind (fun x_2 => (f_X9_carry x_2 σ0).bind (fun u_3 => (stA u_3.2 3 6 y3 u_3.1).bind (fun σ_4 => fl_X9_carryRow_a3_2 y2 n ((y3 + 1)) σ_4)))
def f_X9_carryRow_a3 (x2 : Int32) (σ0 : pStt) : Option (pStt) := (fl_X9_carryRow_a3_2 x2 2000 0 σ0).bind (fun u_5 => some u_5)
section
variable {p : Program} {l : Launch} {e : Env} {s : State} {m : MethodId} {args : Array Value} {below : List Frame} {meth : Method} {c : Code} {Q : State → Prop} {D : va_G} {cy : Nat → ClassId} {A : Nat → Prop} {H0 : Heap}
set_option maxHeartbeats 4000000 in
set_option maxRecDepth 100000 in
theorem lp_X9_carryRow_a3_2 (S : CX p m c cX9_carryRow 4 s args RX9 D cy) {o0 : Nat} {q0 : Nat → Nat}  {y2 : Int32} : ∀ (n : Nat) (y3 : Int32) (σ0 : pStt) (H : Heap) (locs : List Loc) (ls : Array Slot) (u : pStt), PW D A H0 [pX9 cy o0 q0 σ0] H locs → lv_has ls 4 [(0, .ref o0), (1, .ref ((q0 3))), (2, .int y2), (3, .int y3)] → fl_X9_carryRow_a3_2 y2 n y3 σ0 = some u → (∀ (H : Heap) (locs : List Loc) (ls : Array Slot), PW D A H0 [pX9 cy o0 q0 u] H locs → lv_has ls 4 [] → W p l e rmX9_carryRow_a3 s m args below meth c H locs 0 0 Q (F0 m 23 ls [])) → W p l e rmX9_carryRow_a3 s m args below meth c H locs 0 0 Q (F0 m 2 ls []) := by
  intro n
  induction n with
  | zero =>
    intro y3 σ0 H locs ls u hw hl hf K0
    rw [fl_X9_carryRow_a3_2] at hf
    cases hf
  | succ n ih =>
    intro y3 σ0 H locs ls u hw hl hf K0
    rw [fl_X9_carryRow_a3_2] at hf
    refine lv_iload_n S.1 S.2.1 dX9_carryRow_2 rfl (lv_at hl 3 rfl) ?_
    refine lv_iload_n S.1 S.2.1 dX9_carryRow_3 rfl (lv_at hl 2 rfl) ?_
    refine lv_icmp_ge (tgt := 23) S.1 S.2.1 dX9_carryRow_4 (by decide) (fun c_1 => ?_) (fun c_1 => ?_)
    · replace hf := (if_pos c_1).symm.trans hf
      cases hf
      exact K0 _ _ _ hw (lv_sub hl [] rfl)
    · replace hf := (if_neg c_1).symm.trans hf
      refine lv_aload_n S.1 S.2.1 dX9_carryRow_7 rfl (lv_at hl 1 rfl) ?_
      refine lv_iload_n S.1 S.2.1 dX9_carryRow_8 rfl (lv_at hl 3 rfl) ?_
      refine lv_aload_n S.1 S.2.1 dX9_carryRow_9 rfl (lv_at hl 0 rfl) ?_
      refine lv_aload_n S.1 S.2.1 dX9_carryRow_10 rfl (lv_at hl 1 rfl) ?_
      refine lv_iload_n S.1 S.2.1 dX9_carryRow_11 rfl (lv_at hl 3 rfl) ?_
      obtain ⟨x_2, e_x_2, hf⟩ := ob hf
      refine al_X9_3 S hw 0 rfl e_x_2 dX9_carryRow_12 ?_
      obtain ⟨u_3, e_u_3, hf⟩ := ob hf
      refine k_X9_carry S (S.2.2.2.2.wd wd922 rfl) hw e_u_3 [0] rfl (by decide) rfl ⟨rfl, rfl, Nat.le_of_ble_eq_true rfl, Nat.le_of_ble_eq_true rfl⟩ hl.1 (Nat.le_of_ble_eq_true rfl) dX9_carryRow_13 ⟨Nat.zero_le _, Nat.zero_le _⟩ (fun H locs hw => ?_)
      have hw : PW D A H0 [pX9 cy o0 q0 u_3.2] H locs := hw
      obtain ⟨σ_4, e_σ_4, hf⟩ := ob hf
      refine as_X9_3 S hw 0 rfl e_σ_4 dX9_carryRow_16 (fun H locs hw => ?_)
      have hw : PW D A H0 [pX9 cy o0 q0 σ_4] H locs := hw
      refine lv_iinc (v := (y3 + 1)) (lv' := [(3, .int ((y3 + 1))), (0, .ref o0), (1, .ref ((q0 3))), (2, .int y2)]) S.1 S.2.1 dX9_carryRow_17 hl (k := 3) rfl rfl (by decide) rfl (fun ls hl => ?_)
      refine lv_goto (tgt := 2) S.1 S.2.1 dX9_carryRow_20 (by decide) ?_
      exact ih _ _ _ _ _ _ hw (lv_sub hl [1, 2, 3, 0] rfl) hf K0
end
set_option maxHeartbeats 4000000 in
set_option maxRecDepth 100000 in
theorem c_X9_carryRow_a3 (l : Launch) (D : va_G) (cy : Nat → ClassId) (o0 : Nat) (q0 : Nat → Nat) (x2 : Int32) (σ0 : pStt) (u : pStt) (hf : f_X9_carryRow_a3 x2 σ0 = some u) : CT l yX9_carryRow cX9_carryRow 4 none rmX9_carryRow_a3 D cy [.ref o0, .ref ((q0 3)), .int x2] [pX9 cy o0 q0 σ0] none [pX9 cy o0 q0 u] := by
  refine CT.of (by decide) (Nat.le_of_ble_eq_true rfl) (fun p e s m args below meth c ls A Q hA hQ S hr hlk hl hw => ?_)
  have hl : lv_has ls 4 [(0, .ref o0), (1, .ref ((q0 3))), (2, .int x2)] := hl
  rw [f_X9_carryRow_a3] at hf
  refine lv_iconst (v := 0) S.1 S.2.1 dX9_carryRow_0 (by decide) ?_
  refine lv_istore_n (lv' := [(3, .int 0), (0, .ref o0), (1, .ref ((q0 3))), (2, .int x2)]) S.1 S.2.1 dX9_carryRow_1 rfl hl (by decide) rfl (fun ls hl => ?_)
  obtain ⟨u_5, e_u_5, hf⟩ := ob hf
  refine lp_X9_carryRow_a3_2 S 2000 _ _ _ _ _ _ hw (lv_sub hl [1, 2, 3, 0] rfl) e_u_5 ?_
  · intro H locs ls hw hl
    cases hf
    exact w_vret S hr hlk hA hQ hw dX9_carryRow_23
section
variable {p : Program} {l : Launch} {e : Env} {R : Room} {s : State} {m : MethodId} {args : Array Value} {below : List Frame} {meth : Method} {c : Code} {H : Heap} {locs : List Loc} {cells slots : Nat} {Q : State → Prop} {cc : ByteArray} {pc nL : Nat} {ls : Array Slot} {rest : List Value} {D : va_G} {cy : Nat → ClassId} {A : Nat → Prop} {H0 : Heap} {own : String} {Ps : List va_W}
set_option maxRecDepth 100000 in
theorem k_X9_carryRow_a3 {o0 : Nat} {q0 : Nat → Nat} {x2 : Int32} {σ0 : pStt} {u : pStt} {index : Nat} (S : CX p m c cc nL s args own D cy) (hl : (Cond.methodLink own index yX9_carryRow).before args s = true) (hw : PW D A H0 Ps H locs) (hf : f_X9_carryRow_a3 x2 σ0 = some u) (js : List Nat) (hC : js.map (fun j => Ps[j]?) = [some (pX9 cy o0 q0 σ0)]) (hnd : js.Nodup) (hlen : js.length = 1) (hR : RMok rmX9_carryRow_a3 R 4) (hsize : ls.size = nL) (hrest : (rest.map fun v => v.category).sum ≤ 8) (hdg : decode cc pc = .ok (.invokevirtual index, 3)) (hcs : cells ≤ R.cells ∧ slots ≤ R.slots)
    (kk : ∀ (H1 : Heap) (locs1 : List Loc), PW D A H0 (setAll Ps js [pX9 cy o0 q0 u]) H1 locs1 → W p l e R s m args below meth c H1 locs1 cells slots Q (F0 m (pc + 3) ls (rest))) : W p l e R s m args below meth c H locs cells slots Q (F0 m pc ls (.int x2 :: .ref ((q0 3)) :: .ref o0 :: rest)) :=
  w_callV (n := 2) (ov := none) (As := [.ref ((q0 3)), .int x2]) (Cs := [pX9 cy o0 q0 σ0]) (Cs' := [pX9 cy o0 q0 u]) S hw (c_X9_carryRow_a3 l D cy o0 q0 x2 σ0 u hf) (MF.of S.2.2.2.2 wd929 wd79 (by decide)) (S.2.2.2.2.wd wd928 rfl) (S.2.2.2.2.wd wd34 rfl) hl hR js hC hnd hlen rfl rfl rfl rfl hsize rfl hrest hdg hcs kk
end
abbrev rmX9_carryRow_a4 : Room := { frames := 1, cells := 0, slots := 0, locals := 22 }
def fl_X9_carryRow_a4_2 (y2 : Int32)  : Nat → Int32 → pStt → Option (pStt)
  | 0, _, _ => none
  | n + 1, y3, σ0 => if y2 ≤ y3 then some σ0 else (ld (σ0.2 4) 6 y3).bind (fun x_2 => (f_X9_carry x_2 σ0).bind (fun u_3 => (stA u_3.2 4 6 y3 u_3.1).bind (fun σ_4 => fl_X9_carryRow_a4_2 y2 n ((y3 + 1)) σ_4)))
def f_X9_carryRow_a4 (x2 : Int32) (σ0 : pStt) : Option (pStt) := (fl_X9_carryRow_a4_2 x2 2000 0 σ0).bind (fun u_5 => some u_5)
section
variable {p : Program} {l : Launch} {e : Env} {s : State} {m : MethodId} {args : Array Value} {below : List Frame} {meth : Method} {c : Code} {Q : State → Prop} {D : va_G} {cy : Nat → ClassId} {A : Nat → Prop} {H0 : Heap}
set_option maxHeartbeats 4000000 in
set_option maxRecDepth 100000 in
theorem lp_X9_carryRow_a4_2 (S : CX p m c cX9_carryRow 4 s args RX9 D cy) {o0 : Nat} {q0 : Nat → Nat}  {y2 : Int32} : ∀ (n : Nat) (y3 : Int32) (σ0 : pStt) (H : Heap) (locs : List Loc) (ls : Array Slot) (u : pStt), PW D A H0 [pX9 cy o0 q0 σ0] H locs → lv_has ls 4 [(0, .ref o0), (1, .ref ((q0 4))), (2, .int y2), (3, .int y3)] → fl_X9_carryRow_a4_2 y2 n y3 σ0 = some u → (∀ (H : Heap) (locs : List Loc) (ls : Array Slot), PW D A H0 [pX9 cy o0 q0 u] H locs → lv_has ls 4 [] → W p l e rmX9_carryRow_a4 s m args below meth c H locs 0 0 Q (F0 m 23 ls [])) → W p l e rmX9_carryRow_a4 s m args below meth c H locs 0 0 Q (F0 m 2 ls []) := by
  intro n
  induction n with
  | zero =>
    intro y3 σ0 H locs ls u hw hl hf K0
    rw [fl_X9_carryRow_a4_2] at hf
    cases hf
  | succ n ih =>
    intro y3 σ0 H locs ls u hw hl hf K0
    rw [fl_X9_carryRow_a4_2] at hf
    refine lv_iload_n S.1 S.2.1 dX9_carryRow_2 rfl (lv_at hl 3 rfl) ?_
    refine lv_iload_n S.1 S.2.1 dX9_carryRow_3 rfl (lv_at hl 2 rfl) ?_
    refine lv_icmp_ge (tgt := 23) S.1 S.2.1 dX9_carryRow_4 (by decide) (fun c_1 => ?_) (fun c_1 => ?_)
    · replace hf := (if_pos c_1).symm.trans hf
      cases hf
      exact K0 _ _ _ hw (lv_sub hl [] rfl)
    · replace hf := (if_neg c_1).symm.trans hf
      refine lv_aload_n S.1 S.2.1 dX9_carryRow_7 rfl (lv_at hl 1 rfl) ?_
      refine lv_iload_n S.1 S.2.1 dX9_carryRow_8 rfl (lv_at hl 3 rfl) ?_
      refine lv_aload_n S.1 S.2.1 dX9_carryRow_9 rfl (lv_at hl 0 rfl) ?_
      refine lv_aload_n S.1 S.2.1 dX9_carryRow_10 rfl (lv_at hl 1 rfl) ?_
      refine lv_iload_n S.1 S.2.1 dX9_carryRow_11 rfl (lv_at hl 3 rfl) ?_
      obtain ⟨x_2, e_x_2, hf⟩ := ob hf
      refine al_X9_4 S hw 0 rfl e_x_2 dX9_carryRow_12 ?_
      obtain ⟨u_3, e_u_3, hf⟩ := ob hf
      refine k_X9_carry S (S.2.2.2.2.wd wd922 rfl) hw e_u_3 [0] rfl (by decide) rfl ⟨rfl, rfl, Nat.le_of_ble_eq_true rfl, Nat.le_of_ble_eq_true rfl⟩ hl.1 (Nat.le_of_ble_eq_true rfl) dX9_carryRow_13 ⟨Nat.zero_le _, Nat.zero_le _⟩ (fun H locs hw => ?_)
      have hw : PW D A H0 [pX9 cy o0 q0 u_3.2] H locs := hw
      obtain ⟨σ_4, e_σ_4, hf⟩ := ob hf
      refine as_X9_4 S hw 0 rfl e_σ_4 dX9_carryRow_16 (fun H locs hw => ?_)
      have hw : PW D A H0 [pX9 cy o0 q0 σ_4] H locs := hw
      refine lv_iinc (v := (y3 + 1)) (lv' := [(3, .int ((y3 + 1))), (0, .ref o0), (1, .ref ((q0 4))), (2, .int y2)]) S.1 S.2.1 dX9_carryRow_17 hl (k := 3) rfl rfl (by decide) rfl (fun ls hl => ?_)
      refine lv_goto (tgt := 2) S.1 S.2.1 dX9_carryRow_20 (by decide) ?_
      exact ih _ _ _ _ _ _ hw (lv_sub hl [1, 2, 3, 0] rfl) hf K0
end
set_option maxHeartbeats 4000000 in
set_option maxRecDepth 100000 in
theorem c_X9_carryRow_a4 (l : Launch) (D : va_G) (cy : Nat → ClassId) (o0 : Nat) (q0 : Nat → Nat) (x2 : Int32) (σ0 : pStt) (u : pStt) (hf : f_X9_carryRow_a4 x2 σ0 = some u) : CT l yX9_carryRow cX9_carryRow 4 none rmX9_carryRow_a4 D cy [.ref o0, .ref ((q0 4)), .int x2] [pX9 cy o0 q0 σ0] none [pX9 cy o0 q0 u] := by
  refine CT.of (by decide) (Nat.le_of_ble_eq_true rfl) (fun p e s m args below meth c ls A Q hA hQ S hr hlk hl hw => ?_)
  have hl : lv_has ls 4 [(0, .ref o0), (1, .ref ((q0 4))), (2, .int x2)] := hl
  rw [f_X9_carryRow_a4] at hf
  refine lv_iconst (v := 0) S.1 S.2.1 dX9_carryRow_0 (by decide) ?_
  refine lv_istore_n (lv' := [(3, .int 0), (0, .ref o0), (1, .ref ((q0 4))), (2, .int x2)]) S.1 S.2.1 dX9_carryRow_1 rfl hl (by decide) rfl (fun ls hl => ?_)
  obtain ⟨u_5, e_u_5, hf⟩ := ob hf
  refine lp_X9_carryRow_a4_2 S 2000 _ _ _ _ _ _ hw (lv_sub hl [1, 2, 3, 0] rfl) e_u_5 ?_
  · intro H locs ls hw hl
    cases hf
    exact w_vret S hr hlk hA hQ hw dX9_carryRow_23
section
variable {p : Program} {l : Launch} {e : Env} {R : Room} {s : State} {m : MethodId} {args : Array Value} {below : List Frame} {meth : Method} {c : Code} {H : Heap} {locs : List Loc} {cells slots : Nat} {Q : State → Prop} {cc : ByteArray} {pc nL : Nat} {ls : Array Slot} {rest : List Value} {D : va_G} {cy : Nat → ClassId} {A : Nat → Prop} {H0 : Heap} {own : String} {Ps : List va_W}
set_option maxRecDepth 100000 in
theorem k_X9_carryRow_a4 {o0 : Nat} {q0 : Nat → Nat} {x2 : Int32} {σ0 : pStt} {u : pStt} {index : Nat} (S : CX p m c cc nL s args own D cy) (hl : (Cond.methodLink own index yX9_carryRow).before args s = true) (hw : PW D A H0 Ps H locs) (hf : f_X9_carryRow_a4 x2 σ0 = some u) (js : List Nat) (hC : js.map (fun j => Ps[j]?) = [some (pX9 cy o0 q0 σ0)]) (hnd : js.Nodup) (hlen : js.length = 1) (hR : RMok rmX9_carryRow_a4 R 4) (hsize : ls.size = nL) (hrest : (rest.map fun v => v.category).sum ≤ 8) (hdg : decode cc pc = .ok (.invokevirtual index, 3)) (hcs : cells ≤ R.cells ∧ slots ≤ R.slots)
    (kk : ∀ (H1 : Heap) (locs1 : List Loc), PW D A H0 (setAll Ps js [pX9 cy o0 q0 u]) H1 locs1 → W p l e R s m args below meth c H1 locs1 cells slots Q (F0 m (pc + 3) ls (rest))) : W p l e R s m args below meth c H locs cells slots Q (F0 m pc ls (.int x2 :: .ref ((q0 4)) :: .ref o0 :: rest)) :=
  w_callV (n := 2) (ov := none) (As := [.ref ((q0 4)), .int x2]) (Cs := [pX9 cy o0 q0 σ0]) (Cs' := [pX9 cy o0 q0 u]) S hw (c_X9_carryRow_a4 l D cy o0 q0 x2 σ0 u hf) (MF.of S.2.2.2.2 wd929 wd79 (by decide)) (S.2.2.2.2.wd wd928 rfl) (S.2.2.2.2.wd wd34 rfl) hl hR js hC hnd hlen rfl rfl rfl rfl hsize rfl hrest hdg hcs kk
end
abbrev rmX9_carryAll : Room := { frames := 2, cells := 0, slots := 0, locals := 45 }
def f_X9_carryAll (x1 : Int32) (σ0 : pStt) : Option (pStt) := (some (sI σ0 8 0)).bind (fun σ_1 => (asB x1).bind (fun b_2 => (some (sI σ_1 9 b_2)).bind (fun σ_3 => (f_X9_carry ((σ_3.1 0)) σ_3).bind (fun u_4 => (some (sI u_4.2 0 u_4.1)).bind (fun σ_5 => (f_X9_carry ((σ_5.1 1)) σ_5).bind (fun u_6 => (some (sI u_6.2 1 u_6.1)).bind (fun σ_7 => (f_X9_carryRow_a0 8 σ_7).bind (fun u_8 => (f_X9_carryRow_a1 8 u_8).bind (fun u_9 => (f_X9_carryRow_a2 6 u_9).bind (fun u_10 => (f_X9_carryRow_a3 6 u_10).bind (fun u_11 => (f_X9_carryRow_a4 6 u_11).bind (fun u_12 => some u_12))))))))))))
set_option maxHeartbeats 4000000 in
set_option maxRecDepth 100000 in
theorem c_X9_carryAll (l : Launch) (D : va_G) (cy : Nat → ClassId) (o0 : Nat) (q0 : Nat → Nat) (x1 : Int32) (σ0 : pStt) (u : pStt) (hf : f_X9_carryAll x1 σ0 = some u) : CT l yX9_carryAll cX9_carryAll 2 none rmX9_carryAll D cy [.ref o0, .int x1] [pX9 cy o0 q0 σ0] none [pX9 cy o0 q0 u] := by
  refine CT.of (by decide) (Nat.le_of_ble_eq_true rfl) (fun p e s m args below meth c ls A Q hA hQ S hr hlk hl hw => ?_)
  have hl : lv_has ls 2 [(0, .ref o0), (1, .int x1)] := hl
  rw [f_X9_carryAll] at hf
  refine lv_aload_n S.1 S.2.1 dX9_carryAll_0 rfl (lv_at hl 0 rfl) ?_
  refine lv_iconst (v := 0) S.1 S.2.1 dX9_carryAll_1 (by decide) ?_
  obtain ⟨σ_1, e_σ_1, hf⟩ := ob hf
  refine pf_X9_207 S hw 0 rfl e_σ_1 dX9_carryAll_2 (fun H locs hw => ?_)
  have hw : PW D A s.heap [pX9 cy o0 q0 σ_1] H locs := hw
  refine lv_aload_n S.1 S.2.1 dX9_carryAll_5 rfl (lv_at hl 0 rfl) ?_
  refine lv_iload_n S.1 S.2.1 dX9_carryAll_6 rfl (lv_at hl 1 rfl) ?_
  obtain ⟨b_2, e_b_2, hf⟩ := ob hf
  obtain ⟨σ_3, e_σ_3, hf⟩ := ob hf
  refine pf_X9_203 S hw 0 rfl e_b_2 e_σ_3 dX9_carryAll_7 (fun H locs hw => ?_)
  have hw : PW D A s.heap [pX9 cy o0 q0 σ_3] H locs := hw
  refine lv_aload_n S.1 S.2.1 dX9_carryAll_10 rfl (lv_at hl 0 rfl) ?_
  refine lv_aload_n S.1 S.2.1 dX9_carryAll_11 rfl (lv_at hl 0 rfl) ?_
  refine lv_aload_n S.1 S.2.1 dX9_carryAll_12 rfl (lv_at hl 0 rfl) ?_
  refine gf_X9_74 S hw 0 rfl dX9_carryAll_13 ?_
  obtain ⟨u_4, e_u_4, hf⟩ := ob hf
  refine k_X9_carry S (S.2.2.2.2.wd wd922 rfl) hw e_u_4 [0] rfl (by decide) rfl ⟨rfl, rfl, Nat.le_of_ble_eq_true rfl, Nat.le_of_ble_eq_true rfl⟩ hl.1 (Nat.le_of_ble_eq_true rfl) dX9_carryAll_16 ⟨Nat.zero_le _, Nat.zero_le _⟩ (fun H locs hw => ?_)
  have hw : PW D A s.heap [pX9 cy o0 q0 u_4.2] H locs := hw
  obtain ⟨σ_5, e_σ_5, hf⟩ := ob hf
  refine pf_X9_74 S hw 0 rfl e_σ_5 dX9_carryAll_19 (fun H locs hw => ?_)
  have hw : PW D A s.heap [pX9 cy o0 q0 σ_5] H locs := hw
  refine lv_aload_n S.1 S.2.1 dX9_carryAll_22 rfl (lv_at hl 0 rfl) ?_
  refine lv_aload_n S.1 S.2.1 dX9_carryAll_23 rfl (lv_at hl 0 rfl) ?_
  refine lv_aload_n S.1 S.2.1 dX9_carryAll_24 rfl (lv_at hl 0 rfl) ?_
  refine gf_X9_174 S hw 0 rfl dX9_carryAll_25 ?_
  obtain ⟨u_6, e_u_6, hf⟩ := ob hf
  refine k_X9_carry S (S.2.2.2.2.wd wd922 rfl) hw e_u_6 [0] rfl (by decide) rfl ⟨rfl, rfl, Nat.le_of_ble_eq_true rfl, Nat.le_of_ble_eq_true rfl⟩ hl.1 (Nat.le_of_ble_eq_true rfl) dX9_carryAll_28 ⟨Nat.zero_le _, Nat.zero_le _⟩ (fun H locs hw => ?_)
  have hw : PW D A s.heap [pX9 cy o0 q0 u_6.2] H locs := hw
  obtain ⟨σ_7, e_σ_7, hf⟩ := ob hf
  refine pf_X9_174 S hw 0 rfl e_σ_7 dX9_carryAll_31 (fun H locs hw => ?_)
  have hw : PW D A s.heap [pX9 cy o0 q0 σ_7] H locs := hw
  refine lv_aload_n S.1 S.2.1 dX9_carryAll_34 rfl (lv_at hl 0 rfl) ?_
  refine lv_aload_n S.1 S.2.1 dX9_carryAll_35 rfl (lv_at hl 0 rfl) ?_
  refine gf_X9_7 S hw 0 rfl dX9_carryAll_36 ?_
  refine lv_bipush (v := 8) S.1 S.2.1 dX9_carryAll_39 (by decide) ?_
  obtain ⟨u_8, e_u_8, hf⟩ := ob hf
  refine k_X9_carryRow_a0 S (S.2.2.2.2.wd wd926 rfl) hw e_u_8 [0] rfl (by decide) rfl ⟨rfl, rfl, Nat.le_of_ble_eq_true rfl, Nat.le_of_ble_eq_true rfl⟩ hl.1 (Nat.le_of_ble_eq_true rfl) dX9_carryAll_41 ⟨Nat.zero_le _, Nat.zero_le _⟩ (fun H locs hw => ?_)
  have hw : PW D A s.heap [pX9 cy o0 q0 u_8] H locs := hw
  refine lv_aload_n S.1 S.2.1 dX9_carryAll_44 rfl (lv_at hl 0 rfl) ?_
  refine lv_aload_n S.1 S.2.1 dX9_carryAll_45 rfl (lv_at hl 0 rfl) ?_
  refine gf_X9_13 S hw 0 rfl dX9_carryAll_46 ?_
  refine lv_bipush (v := 8) S.1 S.2.1 dX9_carryAll_49 (by decide) ?_
  obtain ⟨u_9, e_u_9, hf⟩ := ob hf
  refine k_X9_carryRow_a1 S (S.2.2.2.2.wd wd926 rfl) hw e_u_9 [0] rfl (by decide) rfl ⟨rfl, rfl, Nat.le_of_ble_eq_true rfl, Nat.le_of_ble_eq_true rfl⟩ hl.1 (Nat.le_of_ble_eq_true rfl) dX9_carryAll_51 ⟨Nat.zero_le _, Nat.zero_le _⟩ (fun H locs hw => ?_)
  have hw : PW D A s.heap [pX9 cy o0 q0 u_9] H locs := hw
  refine lv_aload_n S.1 S.2.1 dX9_carryAll_54 rfl (lv_at hl 0 rfl) ?_
  refine lv_aload_n S.1 S.2.1 dX9_carryAll_55 rfl (lv_at hl 0 rfl) ?_
  refine gf_X9_16 S hw 0 rfl dX9_carryAll_56 ?_
  refine lv_bipush (v := 6) S.1 S.2.1 dX9_carryAll_59 (by decide) ?_
  obtain ⟨u_10, e_u_10, hf⟩ := ob hf
  refine k_X9_carryRow_a2 S (S.2.2.2.2.wd wd926 rfl) hw e_u_10 [0] rfl (by decide) rfl ⟨rfl, rfl, Nat.le_of_ble_eq_true rfl, Nat.le_of_ble_eq_true rfl⟩ hl.1 (Nat.le_of_ble_eq_true rfl) dX9_carryAll_61 ⟨Nat.zero_le _, Nat.zero_le _⟩ (fun H locs hw => ?_)
  have hw : PW D A s.heap [pX9 cy o0 q0 u_10] H locs := hw
  refine lv_aload_n S.1 S.2.1 dX9_carryAll_64 rfl (lv_at hl 0 rfl) ?_
  refine lv_aload_n S.1 S.2.1 dX9_carryAll_65 rfl (lv_at hl 0 rfl) ?_
  refine gf_X9_19 S hw 0 rfl dX9_carryAll_66 ?_
  refine lv_bipush (v := 6) S.1 S.2.1 dX9_carryAll_69 (by decide) ?_
  obtain ⟨u_11, e_u_11, hf⟩ := ob hf
  refine k_X9_carryRow_a3 S (S.2.2.2.2.wd wd926 rfl) hw e_u_11 [0] rfl (by decide) rfl ⟨rfl, rfl, Nat.le_of_ble_eq_true rfl, Nat.le_of_ble_eq_true rfl⟩ hl.1 (Nat.le_of_ble_eq_true rfl) dX9_carryAll_71 ⟨Nat.zero_le _, Nat.zero_le _⟩ (fun H locs hw => ?_)
  have hw : PW D A s.heap [pX9 cy o0 q0 u_11] H locs := hw
  refine lv_aload_n S.1 S.2.1 dX9_carryAll_74 rfl (lv_at hl 0 rfl) ?_
  refine lv_aload_n S.1 S.2.1 dX9_carryAll_75 rfl (lv_at hl 0 rfl) ?_
  refine gf_X9_22 S hw 0 rfl dX9_carryAll_76 ?_
  refine lv_bipush (v := 6) S.1 S.2.1 dX9_carryAll_79 (by decide) ?_
  obtain ⟨u_12, e_u_12, hf⟩ := ob hf
  refine k_X9_carryRow_a4 S (S.2.2.2.2.wd wd926 rfl) hw e_u_12 [0] rfl (by decide) rfl ⟨rfl, rfl, Nat.le_of_ble_eq_true rfl, Nat.le_of_ble_eq_true rfl⟩ hl.1 (Nat.le_of_ble_eq_true rfl) dX9_carryAll_81 ⟨Nat.zero_le _, Nat.zero_le _⟩ (fun H locs hw => ?_)
  have hw : PW D A s.heap [pX9 cy o0 q0 u_12] H locs := hw
  cases hf
  exact w_vret S hr hlk hA hQ hw dX9_carryAll_84
section
variable {p : Program} {l : Launch} {e : Env} {R : Room} {s : State} {m : MethodId} {args : Array Value} {below : List Frame} {meth : Method} {c : Code} {H : Heap} {locs : List Loc} {cells slots : Nat} {Q : State → Prop} {cc : ByteArray} {pc nL : Nat} {ls : Array Slot} {rest : List Value} {D : va_G} {cy : Nat → ClassId} {A : Nat → Prop} {H0 : Heap} {own : String} {Ps : List va_W}
set_option maxRecDepth 100000 in
theorem k_X9_carryAll {o0 : Nat} {q0 : Nat → Nat} {x1 : Int32} {σ0 : pStt} {u : pStt} {index : Nat} (S : CX p m c cc nL s args own D cy) (hl : (Cond.methodLink own index yX9_carryAll).before args s = true) (hw : PW D A H0 Ps H locs) (hf : f_X9_carryAll x1 σ0 = some u) (js : List Nat) (hC : js.map (fun j => Ps[j]?) = [some (pX9 cy o0 q0 σ0)]) (hnd : js.Nodup) (hlen : js.length = 1) (hR : RMok rmX9_carryAll R 2) (hsize : ls.size = nL) (hrest : (rest.map fun v => v.category).sum ≤ 8) (hdg : decode cc pc = .ok (.invokevirtual index, 3)) (hcs : cells ≤ R.cells ∧ slots ≤ R.slots)
    (kk : ∀ (H1 : Heap) (locs1 : List Loc), PW D A H0 (setAll Ps js [pX9 cy o0 q0 u]) H1 locs1 → W p l e R s m args below meth c H1 locs1 cells slots Q (F0 m (pc + 3) ls (rest))) : W p l e R s m args below meth c H locs cells slots Q (F0 m pc ls (.int x1 :: .ref o0 :: rest)) :=
  w_callV (n := 1) (ov := none) (As := [.int x1]) (Cs := [pX9 cy o0 q0 σ0]) (Cs' := [pX9 cy o0 q0 u]) S hw (c_X9_carryAll l D cy o0 q0 x1 σ0 u hf) (MF.of S.2.2.2.2 wd921 wd79 (by decide)) (S.2.2.2.2.wd wd920 rfl) (S.2.2.2.2.wd wd32 rfl) hl hR js hC hnd hlen rfl rfl rfl rfl hsize rfl hrest hdg hcs kk
end
abbrev rmX9_back : Room := { frames := 3, cells := 0, slots := 0, locals := 66 }
def f_X9_back (x1 : Int32) (σ0 : pStt) : Option (Int32 × pStt) := (f_X9_carryAll 1 σ0).bind (fun u_1 => some (x1, u_1))
set_option maxHeartbeats 4000000 in
set_option maxRecDepth 100000 in
theorem c_X9_back (l : Launch) (D : va_G) (cy : Nat → ClassId) (o0 : Nat) (q0 : Nat → Nat) (x1 : Int32) (σ0 : pStt) (u : Int32 × pStt) (hf : f_X9_back x1 σ0 = some u) : CT l yX9_back cX9_back 2 (some .int) rmX9_back D cy [.ref o0, .int x1] [pX9 cy o0 q0 σ0] (some (.int u.1)) [pX9 cy o0 q0 u.2] := by
  refine CT.of (by decide) (Nat.le_of_ble_eq_true rfl) (fun p e s m args below meth c ls A Q hA hQ S hr hlk hl hw => ?_)
  have hl : lv_has ls 2 [(0, .ref o0), (1, .int x1)] := hl
  rw [f_X9_back] at hf
  refine lv_aload_n S.1 S.2.1 dX9_back_0 rfl (lv_at hl 0 rfl) ?_
  refine lv_iconst (v := 1) S.1 S.2.1 dX9_back_1 (by decide) ?_
  obtain ⟨u_1, e_u_1, hf⟩ := ob hf
  refine k_X9_carryAll S (S.2.2.2.2.wd wd918 rfl) hw e_u_1 [0] rfl (by decide) rfl ⟨rfl, rfl, Nat.le_of_ble_eq_true rfl, Nat.le_of_ble_eq_true rfl⟩ hl.1 (Nat.le_of_ble_eq_true rfl) dX9_back_2 ⟨Nat.zero_le _, Nat.zero_le _⟩ (fun H locs hw => ?_)
  have hw : PW D A s.heap [pX9 cy o0 q0 u_1] H locs := hw
  refine lv_iload_n S.1 S.2.1 dX9_back_5 rfl (lv_at hl 1 rfl) ?_
  cases hf
  exact w_iret S hr hlk hA hQ hw dX9_back_6
section
variable {p : Program} {l : Launch} {e : Env} {R : Room} {s : State} {m : MethodId} {args : Array Value} {below : List Frame} {meth : Method} {c : Code} {H : Heap} {locs : List Loc} {cells slots : Nat} {Q : State → Prop} {cc : ByteArray} {pc nL : Nat} {ls : Array Slot} {rest : List Value} {D : va_G} {cy : Nat → ClassId} {A : Nat → Prop} {H0 : Heap} {own : String} {Ps : List va_W}
set_option maxRecDepth 100000 in
theorem k_X9_back {o0 : Nat} {q0 : Nat → Nat} {x1 : Int32} {σ0 : pStt} {u : Int32 × pStt} {index : Nat} (S : CX p m c cc nL s args own D cy) (hl : (Cond.methodLink own index yX9_back).before args s = true) (hw : PW D A H0 Ps H locs) (hf : f_X9_back x1 σ0 = some u) (js : List Nat) (hC : js.map (fun j => Ps[j]?) = [some (pX9 cy o0 q0 σ0)]) (hnd : js.Nodup) (hlen : js.length = 1) (hR : RMok rmX9_back R 2) (hsize : ls.size = nL) (hrest : (rest.map fun v => v.category).sum ≤ 8) (hdg : decode cc pc = .ok (.invokevirtual index, 3)) (hcs : cells ≤ R.cells ∧ slots ≤ R.slots)
    (kk : ∀ (H1 : Heap) (locs1 : List Loc), PW D A H0 (setAll Ps js [pX9 cy o0 q0 u.2]) H1 locs1 → W p l e R s m args below meth c H1 locs1 cells slots Q (F0 m (pc + 3) ls (.int u.1 :: rest))) : W p l e R s m args below meth c H locs cells slots Q (F0 m pc ls (.int x1 :: .ref o0 :: rest)) :=
  w_callV (n := 1) (ov := (some (.int u.1))) (As := [.int x1]) (Cs := [pX9 cy o0 q0 σ0]) (Cs' := [pX9 cy o0 q0 u.2]) S hw (c_X9_back l D cy o0 q0 x1 σ0 u hf) (MF.of S.2.2.2.2 wd985 wd79 (by decide)) (S.2.2.2.2.wd wd984 rfl) (S.2.2.2.2.wd wd47 rfl) hl hR js hC hnd hlen rfl rfl rfl rfl hsize rfl hrest hdg hcs kk
end
abbrev rmX9_goOne : Room := { frames := 5, cells := 0, slots := 0, locals := 110 }
def f_X9_goOne (x1 : Int32) (σ0 : pStt) : Option (pStt) := (ld (σ0.2 13) 60 x1).bind (fun x_1 => (ld (σ0.2 14) 60 x1).bind (fun x_2 => (ld (σ0.2 15) 60 x1).bind (fun x_3 => (f_X9_happen x_1 x_2 x_3 σ0).bind (fun u_4 => if (u_4.1 7) < 0 then some u_4 else if 0 ≤ (u_4.1 12) then some u_4 else (some (sI u_4 12 x1)).bind (fun σ_7 => (some (sI σ_7 13 ((σ_7.1 7)))).bind (fun σ_8 => some σ_8))))))
set_option maxHeartbeats 4000000 in
set_option maxRecDepth 100000 in
theorem c_X9_goOne (l : Launch) (D : va_G) (cy : Nat → ClassId) (o0 : Nat) (q0 : Nat → Nat) (x1 : Int32) (σ0 : pStt) (u : pStt) (hf : f_X9_goOne x1 σ0 = some u) : CT l yX9_goOne cX9_goOne 2 none rmX9_goOne D cy [.ref o0, .int x1] [pX9 cy o0 q0 σ0] none [pX9 cy o0 q0 u] := by
  refine CT.of (by decide) (Nat.le_of_ble_eq_true rfl) (fun p e s m args below meth c ls A Q hA hQ S hr hlk hl hw => ?_)
  have hl : lv_has ls 2 [(0, .ref o0), (1, .int x1)] := hl
  rw [f_X9_goOne] at hf
  refine lv_aload_n S.1 S.2.1 dX9_goOne_0 rfl (lv_at hl 0 rfl) ?_
  refine lv_aload_n S.1 S.2.1 dX9_goOne_1 rfl (lv_at hl 0 rfl) ?_
  refine gf_X9_49 S hw 0 rfl dX9_goOne_2 ?_
  refine lv_iload_n S.1 S.2.1 dX9_goOne_5 rfl (lv_at hl 1 rfl) ?_
  obtain ⟨x_1, e_x_1, hf⟩ := ob hf
  refine al_X9_13 S hw 0 rfl e_x_1 dX9_goOne_6 ?_
  refine lv_aload_n S.1 S.2.1 dX9_goOne_7 rfl (lv_at hl 0 rfl) ?_
  refine gf_X9_52 S hw 0 rfl dX9_goOne_8 ?_
  refine lv_iload_n S.1 S.2.1 dX9_goOne_11 rfl (lv_at hl 1 rfl) ?_
  obtain ⟨x_2, e_x_2, hf⟩ := ob hf
  refine al_X9_14 S hw 0 rfl e_x_2 dX9_goOne_12 ?_
  refine lv_aload_n S.1 S.2.1 dX9_goOne_13 rfl (lv_at hl 0 rfl) ?_
  refine gf_X9_55 S hw 0 rfl dX9_goOne_14 ?_
  refine lv_iload_n S.1 S.2.1 dX9_goOne_17 rfl (lv_at hl 1 rfl) ?_
  obtain ⟨x_3, e_x_3, hf⟩ := ob hf
  refine al_X9_15 S hw 0 rfl e_x_3 dX9_goOne_18 ?_
  obtain ⟨u_4, e_u_4, hf⟩ := ob hf
  refine k_X9_happen S (S.2.2.2.2.wd wd958 rfl) hw e_u_4 [0] rfl (by decide) rfl ⟨rfl, rfl, Nat.le_of_ble_eq_true rfl, Nat.le_of_ble_eq_true rfl⟩ hl.1 (Nat.le_of_ble_eq_true rfl) dX9_goOne_19 ⟨Nat.zero_le _, Nat.zero_le _⟩ (fun H locs hw => ?_)
  have hw : PW D A s.heap [pX9 cy o0 q0 u_4] H locs := hw
  refine lv_aload_n S.1 S.2.1 dX9_goOne_22 rfl (lv_at hl 0 rfl) ?_
  refine gf_X9_184 S hw 0 rfl dX9_goOne_23 ?_
  refine lv_if_lt (tgt := 49) S.1 S.2.1 dX9_goOne_26 (by decide) (fun c_5 => ?_) (fun c_5 => ?_)
  · replace hf := (if_pos c_5).symm.trans hf
    cases hf
    exact w_vret S hr hlk hA hQ hw dX9_goOne_49
  · replace hf := (if_neg c_5).symm.trans hf
    refine lv_aload_n S.1 S.2.1 dX9_goOne_29 rfl (lv_at hl 0 rfl) ?_
    refine gf_X9_224 S hw 0 rfl dX9_goOne_30 ?_
    refine lv_if_ge (tgt := 49) S.1 S.2.1 dX9_goOne_33 (by decide) (fun c_6 => ?_) (fun c_6 => ?_)
    · replace hf := (if_pos c_6).symm.trans hf
      cases hf
      exact w_vret S hr hlk hA hQ hw dX9_goOne_49
    · replace hf := (if_neg c_6).symm.trans hf
      refine lv_aload_n S.1 S.2.1 dX9_goOne_36 rfl (lv_at hl 0 rfl) ?_
      refine lv_iload_n S.1 S.2.1 dX9_goOne_37 rfl (lv_at hl 1 rfl) ?_
      obtain ⟨σ_7, e_σ_7, hf⟩ := ob hf
      refine pf_X9_224 S hw 0 rfl e_σ_7 dX9_goOne_38 (fun H locs hw => ?_)
      have hw : PW D A s.heap [pX9 cy o0 q0 σ_7] H locs := hw
      refine lv_aload_n S.1 S.2.1 dX9_goOne_41 rfl (lv_at hl 0 rfl) ?_
      refine lv_aload_n S.1 S.2.1 dX9_goOne_42 rfl (lv_at hl 0 rfl) ?_
      refine gf_X9_184 S hw 0 rfl dX9_goOne_43 ?_
      obtain ⟨σ_8, e_σ_8, hf⟩ := ob hf
      refine pf_X9_227 S hw 0 rfl e_σ_8 dX9_goOne_46 (fun H locs hw => ?_)
      have hw : PW D A s.heap [pX9 cy o0 q0 σ_8] H locs := hw
      cases hf
      exact w_vret S hr hlk hA hQ hw dX9_goOne_49
section
variable {p : Program} {l : Launch} {e : Env} {R : Room} {s : State} {m : MethodId} {args : Array Value} {below : List Frame} {meth : Method} {c : Code} {H : Heap} {locs : List Loc} {cells slots : Nat} {Q : State → Prop} {cc : ByteArray} {pc nL : Nat} {ls : Array Slot} {rest : List Value} {D : va_G} {cy : Nat → ClassId} {A : Nat → Prop} {H0 : Heap} {own : String} {Ps : List va_W}
set_option maxRecDepth 100000 in
theorem k_X9_goOne {o0 : Nat} {q0 : Nat → Nat} {x1 : Int32} {σ0 : pStt} {u : pStt} {index : Nat} (S : CX p m c cc nL s args own D cy) (hl : (Cond.methodLink own index yX9_goOne).before args s = true) (hw : PW D A H0 Ps H locs) (hf : f_X9_goOne x1 σ0 = some u) (js : List Nat) (hC : js.map (fun j => Ps[j]?) = [some (pX9 cy o0 q0 σ0)]) (hnd : js.Nodup) (hlen : js.length = 1) (hR : RMok rmX9_goOne R 2) (hsize : ls.size = nL) (hrest : (rest.map fun v => v.category).sum ≤ 8) (hdg : decode cc pc = .ok (.invokevirtual index, 3)) (hcs : cells ≤ R.cells ∧ slots ≤ R.slots)
    (kk : ∀ (H1 : Heap) (locs1 : List Loc), PW D A H0 (setAll Ps js [pX9 cy o0 q0 u]) H1 locs1 → W p l e R s m args below meth c H1 locs1 cells slots Q (F0 m (pc + 3) ls (rest))) : W p l e R s m args below meth c H locs cells slots Q (F0 m pc ls (.int x1 :: .ref o0 :: rest)) :=
  w_callV (n := 1) (ov := none) (As := [.int x1]) (Cs := [pX9 cy o0 q0 σ0]) (Cs' := [pX9 cy o0 q0 u]) S hw (c_X9_goOne l D cy o0 q0 x1 σ0 u hf) (MF.of S.2.2.2.2 wd957 wd79 (by decide)) (S.2.2.2.2.wd wd956 rfl) (S.2.2.2.2.wd wd40 rfl) hl hR js hC hnd hlen rfl rfl rfl rfl hsize rfl hrest hdg hcs kk
end
abbrev rmX9_goSessions : Room := { frames := 6, cells := 0, slots := 0, locals := 131 }
def fl_X9_goSessions_31   : Nat → Int32 → pStt → Option (pStt)
  | 0, _, _ => none
  | n + 1, y1, σ0 => if (σ0.1 5) ≤ y1 then some σ0 else if 0 ≤ (σ0.1 10) then some σ0 else (ld (σ0.2 13) 60 y1).bind (fun x_8 => (ld (σ0.2 14) 60 y1).bind (fun x_9 => (ld (σ0.2 15) 60 y1).bind (fun x_10 => (f_X9_whyNot x_8 x_9 x_10 σ0).bind (fun u_11 => (if u_11 ≤ 0 then some ((-6)) else some y1 : Option Int32).bind (fun v_12 => (some (sI σ0 10 v_12)).bind (fun σ_13 => (if u_11 ≤ 0 then some ((-6)) else some u_11 : Option Int32).bind (fun v_14 => (some (sI σ_13 11 v_14)).bind (fun σ_15 => if u_11 = 0 then (f_X9_goOne y1 σ_15).bind (fun u_17 => fl_X9_goSessions_31 n ((y1 + 1)) u_17) else fl_X9_goSessions_31 n ((y1 + 1)) σ_15))))))))
def f_X9_goSessions (σ0 : pStt) : Option (pStt) := (some (sI σ0 10 ((-6)))).bind (fun σ_1 => (some (sI σ_1 11 ((-6)))).bind (fun σ_2 => (some (sI σ_2 12 ((-6)))).bind (fun σ_3 => (some (sI σ_3 13 ((-6)))).bind (fun σ_4 => (some (sI σ_4 6 0)).bind (fun σ_5 => (fl_X9_goSessions_31 2000 0 σ_5).bind (fun u_20 => some u_20))))))
section
variable {p : Program} {l : Launch} {e : Env} {s : State} {m : MethodId} {args : Array Value} {below : List Frame} {meth : Method} {c : Code} {Q : State → Prop} {D : va_G} {cy : Nat → ClassId} {A : Nat → Prop} {H0 : Heap}
set_option maxHeartbeats 4000000 in
set_option maxRecDepth 100000 in
theorem lp_X9_goSessions_31 (S : CX p m c cX9_goSessions 3 s args RX9 D cy) {o0 : Nat} {q0 : Nat → Nat}   : ∀ (n : Nat) (y1 : Int32) (σ0 : pStt) (H : Heap) (locs : List Loc) (ls : Array Slot) (u : pStt), PW D A H0 [pX9 cy o0 q0 σ0] H locs → lv_has ls 3 [(0, .ref o0), (1, .int y1)] → fl_X9_goSessions_31 n y1 σ0 = some u → (∀ (H : Heap) (locs : List Loc) (ls : Array Slot), PW D A H0 [pX9 cy o0 q0 u] H locs → lv_has ls 3 [] → W p l e rmX9_goSessions s m args below meth c H locs 0 0 Q (F0 m 112 ls [])) → W p l e rmX9_goSessions s m args below meth c H locs 0 0 Q (F0 m 31 ls []) := by
  intro n
  induction n with
  | zero =>
    intro y1 σ0 H locs ls u hw hl hf K0
    rw [fl_X9_goSessions_31] at hf
    cases hf
  | succ n ih =>
    intro y1 σ0 H locs ls u hw hl hf K0
    rw [fl_X9_goSessions_31] at hf
    refine lv_iload_n S.1 S.2.1 dX9_goSessions_31 rfl (lv_at hl 1 rfl) ?_
    refine lv_aload_n S.1 S.2.1 dX9_goSessions_32 rfl (lv_at hl 0 rfl) ?_
    refine gf_X9_129 S hw 0 rfl dX9_goSessions_33 ?_
    refine lv_icmp_ge (tgt := 112) S.1 S.2.1 dX9_goSessions_36 (by decide) (fun c_6 => ?_) (fun c_6 => ?_)
    · replace hf := (if_pos c_6).symm.trans hf
      cases hf
      exact K0 _ _ _ hw (lv_sub hl [] rfl)
    · replace hf := (if_neg c_6).symm.trans hf
      refine lv_aload_n S.1 S.2.1 dX9_goSessions_39 rfl (lv_at hl 0 rfl) ?_
      refine gf_X9_230 S hw 0 rfl dX9_goSessions_40 ?_
      refine lv_if_ge (tgt := 112) S.1 S.2.1 dX9_goSessions_43 (by decide) (fun c_7 => ?_) (fun c_7 => ?_)
      · replace hf := (if_pos c_7).symm.trans hf
        cases hf
        exact K0 _ _ _ hw (lv_sub hl [] rfl)
      · replace hf := (if_neg c_7).symm.trans hf
        refine lv_aload_n S.1 S.2.1 dX9_goSessions_46 rfl (lv_at hl 0 rfl) ?_
        refine lv_aload_n S.1 S.2.1 dX9_goSessions_47 rfl (lv_at hl 0 rfl) ?_
        refine gf_X9_49 S hw 0 rfl dX9_goSessions_48 ?_
        refine lv_iload_n S.1 S.2.1 dX9_goSessions_51 rfl (lv_at hl 1 rfl) ?_
        obtain ⟨x_8, e_x_8, hf⟩ := ob hf
        refine al_X9_13 S hw 0 rfl e_x_8 dX9_goSessions_52 ?_
        refine lv_aload_n S.1 S.2.1 dX9_goSessions_53 rfl (lv_at hl 0 rfl) ?_
        refine gf_X9_52 S hw 0 rfl dX9_goSessions_54 ?_
        refine lv_iload_n S.1 S.2.1 dX9_goSessions_57 rfl (lv_at hl 1 rfl) ?_
        obtain ⟨x_9, e_x_9, hf⟩ := ob hf
        refine al_X9_14 S hw 0 rfl e_x_9 dX9_goSessions_58 ?_
        refine lv_aload_n S.1 S.2.1 dX9_goSessions_59 rfl (lv_at hl 0 rfl) ?_
        refine gf_X9_55 S hw 0 rfl dX9_goSessions_60 ?_
        refine lv_iload_n S.1 S.2.1 dX9_goSessions_63 rfl (lv_at hl 1 rfl) ?_
        obtain ⟨x_10, e_x_10, hf⟩ := ob hf
        refine al_X9_15 S hw 0 rfl e_x_10 dX9_goSessions_64 ?_
        obtain ⟨u_11, e_u_11, hf⟩ := ob hf
        refine k_X9_whyNot S (S.2.2.2.2.wd wd935 rfl) hw e_u_11 [0] rfl (by decide) rfl ⟨rfl, rfl, Nat.le_of_ble_eq_true rfl, Nat.le_of_ble_eq_true rfl⟩ hl.1 (Nat.le_of_ble_eq_true rfl) dX9_goSessions_65 ⟨Nat.zero_le _, Nat.zero_le _⟩ (fun H locs hw => ?_)
        have hw : PW D A H0 [pX9 cy o0 q0 σ0] H locs := hw
        refine lv_istore_n (lv' := [(2, .int u_11), (0, .ref o0), (1, .int y1)]) S.1 S.2.1 dX9_goSessions_68 rfl hl (by decide) rfl (fun ls hl => ?_)
        refine lv_aload_n S.1 S.2.1 dX9_goSessions_69 rfl (lv_at hl 1 rfl) ?_
        refine lv_iload_n S.1 S.2.1 dX9_goSessions_70 rfl (lv_at hl 0 rfl) ?_
        obtain ⟨v_12, e_v_12, hf⟩ := ob hf
        have hJ_v_12 : ∀ (H : Heap) (locs : List Loc), PW D A H0 [pX9 cy o0 q0 σ0] H locs → W p l e rmX9_goSessions s m args below meth c H locs 0 0 Q (F0 m 80 ls [.int v_12, .ref o0]) := by
          intro H locs hw
          obtain ⟨σ_13, e_σ_13, hf⟩ := ob hf
          refine pf_X9_230 S hw 0 rfl e_σ_13 dX9_goSessions_80 (fun H locs hw => ?_)
          have hw : PW D A H0 [pX9 cy o0 q0 σ_13] H locs := hw
          refine lv_aload_n S.1 S.2.1 dX9_goSessions_83 rfl (lv_at hl 1 rfl) ?_
          refine lv_iload_n S.1 S.2.1 dX9_goSessions_84 rfl (lv_at hl 0 rfl) ?_
          obtain ⟨v_14, e_v_14, hf⟩ := ob hf
          have hJ_v_14 : ∀ (H : Heap) (locs : List Loc), PW D A H0 [pX9 cy o0 q0 σ_13] H locs → W p l e rmX9_goSessions s m args below meth c H locs 0 0 Q (F0 m 94 ls [.int v_14, .ref o0]) := by
            intro H locs hw
            obtain ⟨σ_15, e_σ_15, hf⟩ := ob hf
            refine pf_X9_233 S hw 0 rfl e_σ_15 dX9_goSessions_94 (fun H locs hw => ?_)
            have hw : PW D A H0 [pX9 cy o0 q0 σ_15] H locs := hw
            refine lv_iload_n S.1 S.2.1 dX9_goSessions_97 rfl (lv_at hl 0 rfl) ?_
            refine lv_if_ne (tgt := 106) S.1 S.2.1 dX9_goSessions_98 (by decide) (fun c_16 => ?_) (fun c_16 => ?_)
            · replace hf := (if_neg c_16).symm.trans hf
              refine lv_iinc (v := (y1 + 1)) (lv' := [(1, .int ((y1 + 1))), (2, .int u_11), (0, .ref o0)]) S.1 S.2.1 dX9_goSessions_106 hl (k := 2) rfl rfl (by decide) rfl (fun ls hl => ?_)
              refine lv_goto (tgt := 31) S.1 S.2.1 dX9_goSessions_109 (by decide) ?_
              exact ih _ _ _ _ _ _ hw (lv_sub hl [2, 0] rfl) hf K0
            · replace hf := (if_pos c_16).symm.trans hf
              refine lv_aload_n S.1 S.2.1 dX9_goSessions_101 rfl (lv_at hl 1 rfl) ?_
              refine lv_iload_n S.1 S.2.1 dX9_goSessions_102 rfl (lv_at hl 2 rfl) ?_
              obtain ⟨u_17, e_u_17, hf⟩ := ob hf
              refine k_X9_goOne S (S.2.2.2.2.wd wd954 rfl) hw e_u_17 [0] rfl (by decide) rfl ⟨rfl, rfl, Nat.le_of_ble_eq_true rfl, Nat.le_of_ble_eq_true rfl⟩ hl.1 (Nat.le_of_ble_eq_true rfl) dX9_goSessions_103 ⟨Nat.zero_le _, Nat.zero_le _⟩ (fun H locs hw => ?_)
              have hw : PW D A H0 [pX9 cy o0 q0 u_17] H locs := hw
              refine lv_iinc (v := (y1 + 1)) (lv' := [(1, .int ((y1 + 1))), (2, .int u_11), (0, .ref o0)]) S.1 S.2.1 dX9_goSessions_106 hl (k := 2) rfl rfl (by decide) rfl (fun ls hl => ?_)
              refine lv_goto (tgt := 31) S.1 S.2.1 dX9_goSessions_109 (by decide) ?_
              exact ih _ _ _ _ _ _ hw (lv_sub hl [2, 0] rfl) hf K0
          replace hf := e_v_14
          clear e_v_14
          refine lv_if_le (tgt := 92) S.1 S.2.1 dX9_goSessions_85 (by decide) (fun c_18 => ?_) (fun c_18 => ?_)
          · replace hf := (if_pos c_18).symm.trans hf
            refine lv_bipush (v := (-6)) S.1 S.2.1 dX9_goSessions_92 (by decide) ?_
            cases hf
            exact hJ_v_14 _ _ hw
          · replace hf := (if_neg c_18).symm.trans hf
            refine lv_iload_n S.1 S.2.1 dX9_goSessions_88 rfl (lv_at hl 0 rfl) ?_
            refine lv_goto (tgt := 94) S.1 S.2.1 dX9_goSessions_89 (by decide) ?_
            cases hf
            exact hJ_v_14 _ _ hw
        replace hf := e_v_12
        clear e_v_12
        refine lv_if_le (tgt := 78) S.1 S.2.1 dX9_goSessions_71 (by decide) (fun c_19 => ?_) (fun c_19 => ?_)
        · replace hf := (if_pos c_19).symm.trans hf
          refine lv_bipush (v := (-6)) S.1 S.2.1 dX9_goSessions_78 (by decide) ?_
          cases hf
          exact hJ_v_12 _ _ hw
        · replace hf := (if_neg c_19).symm.trans hf
          refine lv_iload_n S.1 S.2.1 dX9_goSessions_74 rfl (lv_at hl 2 rfl) ?_
          refine lv_goto (tgt := 80) S.1 S.2.1 dX9_goSessions_75 (by decide) ?_
          cases hf
          exact hJ_v_12 _ _ hw
end
set_option maxHeartbeats 4000000 in
set_option maxRecDepth 100000 in
theorem c_X9_goSessions (l : Launch) (D : va_G) (cy : Nat → ClassId) (o0 : Nat) (q0 : Nat → Nat) (σ0 : pStt) (u : pStt) (hf : f_X9_goSessions σ0 = some u) : CT l yX9_goSessions cX9_goSessions 3 none rmX9_goSessions D cy [.ref o0] [pX9 cy o0 q0 σ0] none [pX9 cy o0 q0 u] := by
  refine CT.of (by decide) (Nat.le_of_ble_eq_true rfl) (fun p e s m args below meth c ls A Q hA hQ S hr hlk hl hw => ?_)
  have hl : lv_has ls 3 [(0, .ref o0)] := hl
  rw [f_X9_goSessions] at hf
  refine lv_aload_n S.1 S.2.1 dX9_goSessions_0 rfl (lv_at hl 0 rfl) ?_
  refine lv_bipush (v := (-6)) S.1 S.2.1 dX9_goSessions_1 (by decide) ?_
  obtain ⟨σ_1, e_σ_1, hf⟩ := ob hf
  refine pf_X9_230 S hw 0 rfl e_σ_1 dX9_goSessions_3 (fun H locs hw => ?_)
  have hw : PW D A s.heap [pX9 cy o0 q0 σ_1] H locs := hw
  refine lv_aload_n S.1 S.2.1 dX9_goSessions_6 rfl (lv_at hl 0 rfl) ?_
  refine lv_bipush (v := (-6)) S.1 S.2.1 dX9_goSessions_7 (by decide) ?_
  obtain ⟨σ_2, e_σ_2, hf⟩ := ob hf
  refine pf_X9_233 S hw 0 rfl e_σ_2 dX9_goSessions_9 (fun H locs hw => ?_)
  have hw : PW D A s.heap [pX9 cy o0 q0 σ_2] H locs := hw
  refine lv_aload_n S.1 S.2.1 dX9_goSessions_12 rfl (lv_at hl 0 rfl) ?_
  refine lv_bipush (v := (-6)) S.1 S.2.1 dX9_goSessions_13 (by decide) ?_
  obtain ⟨σ_3, e_σ_3, hf⟩ := ob hf
  refine pf_X9_224 S hw 0 rfl e_σ_3 dX9_goSessions_15 (fun H locs hw => ?_)
  have hw : PW D A s.heap [pX9 cy o0 q0 σ_3] H locs := hw
  refine lv_aload_n S.1 S.2.1 dX9_goSessions_18 rfl (lv_at hl 0 rfl) ?_
  refine lv_bipush (v := (-6)) S.1 S.2.1 dX9_goSessions_19 (by decide) ?_
  obtain ⟨σ_4, e_σ_4, hf⟩ := ob hf
  refine pf_X9_227 S hw 0 rfl e_σ_4 dX9_goSessions_21 (fun H locs hw => ?_)
  have hw : PW D A s.heap [pX9 cy o0 q0 σ_4] H locs := hw
  refine lv_aload_n S.1 S.2.1 dX9_goSessions_24 rfl (lv_at hl 0 rfl) ?_
  refine lv_iconst (v := 0) S.1 S.2.1 dX9_goSessions_25 (by decide) ?_
  obtain ⟨σ_5, e_σ_5, hf⟩ := ob hf
  refine pf_X9_181 S hw 0 rfl e_σ_5 dX9_goSessions_26 (fun H locs hw => ?_)
  have hw : PW D A s.heap [pX9 cy o0 q0 σ_5] H locs := hw
  refine lv_iconst (v := 0) S.1 S.2.1 dX9_goSessions_29 (by decide) ?_
  refine lv_istore_n (lv' := [(1, .int 0), (0, .ref o0)]) S.1 S.2.1 dX9_goSessions_30 rfl hl (by decide) rfl (fun ls hl => ?_)
  obtain ⟨u_20, e_u_20, hf⟩ := ob hf
  refine lp_X9_goSessions_31 S 2000 _ _ _ _ _ _ hw (lv_sub hl [1, 0] rfl) e_u_20 ?_
  · intro H locs ls hw hl
    cases hf
    exact w_vret S hr hlk hA hQ hw dX9_goSessions_112
section
variable {p : Program} {l : Launch} {e : Env} {R : Room} {s : State} {m : MethodId} {args : Array Value} {below : List Frame} {meth : Method} {c : Code} {H : Heap} {locs : List Loc} {cells slots : Nat} {Q : State → Prop} {cc : ByteArray} {pc nL : Nat} {ls : Array Slot} {rest : List Value} {D : va_G} {cy : Nat → ClassId} {A : Nat → Prop} {H0 : Heap} {own : String} {Ps : List va_W}
set_option maxRecDepth 100000 in
theorem k_X9_goSessions {o0 : Nat} {q0 : Nat → Nat}  {σ0 : pStt} {u : pStt} {index : Nat} (S : CX p m c cc nL s args own D cy) (hl : (Cond.methodLink own index yX9_goSessions).before args s = true) (hw : PW D A H0 Ps H locs) (hf : f_X9_goSessions σ0 = some u) (js : List Nat) (hC : js.map (fun j => Ps[j]?) = [some (pX9 cy o0 q0 σ0)]) (hnd : js.Nodup) (hlen : js.length = 1) (hR : RMok rmX9_goSessions R 3) (hsize : ls.size = nL) (hrest : (rest.map fun v => v.category).sum ≤ 8) (hdg : decode cc pc = .ok (.invokevirtual index, 3)) (hcs : cells ≤ R.cells ∧ slots ≤ R.slots)
    (kk : ∀ (H1 : Heap) (locs1 : List Loc), PW D A H0 (setAll Ps js [pX9 cy o0 q0 u]) H1 locs1 → W p l e R s m args below meth c H1 locs1 cells slots Q (F0 m (pc + 3) ls (rest))) : W p l e R s m args below meth c H locs cells slots Q (F0 m pc ls (.ref o0 :: rest)) :=
  w_callV (n := 0) (ov := none) (As := []) (Cs := [pX9 cy o0 q0 σ0]) (Cs' := [pX9 cy o0 q0 u]) S hw (c_X9_goSessions l D cy o0 q0 σ0 u hf) (MF.of S.2.2.2.2 wd934 wd79 (by decide)) (S.2.2.2.2.wd wd933 rfl) (S.2.2.2.2.wd wd35 rfl) hl hR js hC hnd hlen rfl rfl rfl rfl hsize rfl hrest hdg hcs kk
end
abbrev rmX9_refusal : Room := { frames := 7, cells := 0, slots := 0, locals := 153 }
def f_X9_refusal (σ0 : pStt) : Option (Int32 × pStt) := (f_X9_carryAll 0 σ0).bind (fun u_1 => (f_X9_fault u_1).bind (fun u_2 => if u_2.1 < 0 then (f_X9_goSessions u_2.2).bind (fun u_4 => (if (u_4.1 10) < 0 then some ((-6)) else some ((-3)) : Option Int32).bind (fun v_5 => some (v_5, u_4))) else some ((-5), u_2.2)))
set_option maxHeartbeats 4000000 in
set_option maxRecDepth 100000 in
theorem c_X9_refusal (l : Launch) (D : va_G) (cy : Nat → ClassId) (o0 : Nat) (q0 : Nat → Nat) (σ0 : pStt) (u : Int32 × pStt) (hf : f_X9_refusal σ0 = some u) : CT l yX9_refusal cX9_refusal 1 (some .int) rmX9_refusal D cy [.ref o0] [pX9 cy o0 q0 σ0] (some (.int u.1)) [pX9 cy o0 q0 u.2] := by
  refine CT.of (by decide) (Nat.le_of_ble_eq_true rfl) (fun p e s m args below meth c ls A Q hA hQ S hr hlk hl hw => ?_)
  have hl : lv_has ls 1 [(0, .ref o0)] := hl
  rw [f_X9_refusal] at hf
  refine lv_aload_n S.1 S.2.1 dX9_refusal_0 rfl (lv_at hl 0 rfl) ?_
  refine lv_iconst (v := 0) S.1 S.2.1 dX9_refusal_1 (by decide) ?_
  obtain ⟨u_1, e_u_1, hf⟩ := ob hf
  refine k_X9_carryAll S (S.2.2.2.2.wd wd918 rfl) hw e_u_1 [0] rfl (by decide) rfl ⟨rfl, rfl, Nat.le_of_ble_eq_true rfl, Nat.le_of_ble_eq_true rfl⟩ hl.1 (Nat.le_of_ble_eq_true rfl) dX9_refusal_2 ⟨Nat.zero_le _, Nat.zero_le _⟩ (fun H locs hw => ?_)
  have hw : PW D A s.heap [pX9 cy o0 q0 u_1] H locs := hw
  refine lv_aload_n S.1 S.2.1 dX9_refusal_5 rfl (lv_at hl 0 rfl) ?_
  obtain ⟨u_2, e_u_2, hf⟩ := ob hf
  refine k_X9_fault S (S.2.2.2.2.wd wd930 rfl) hw e_u_2 [0] rfl (by decide) rfl ⟨rfl, rfl, Nat.le_of_ble_eq_true rfl, Nat.le_of_ble_eq_true rfl⟩ hl.1 (Nat.le_of_ble_eq_true rfl) dX9_refusal_6 ⟨Nat.zero_le _, Nat.zero_le _⟩ (fun H locs hw => ?_)
  have hw : PW D A s.heap [pX9 cy o0 q0 u_2.2] H locs := hw
  refine lv_if_lt (tgt := 15) S.1 S.2.1 dX9_refusal_9 (by decide) (fun c_3 => ?_) (fun c_3 => ?_)
  · replace hf := (if_pos c_3).symm.trans hf
    refine lv_aload_n S.1 S.2.1 dX9_refusal_15 rfl (lv_at hl 0 rfl) ?_
    obtain ⟨u_4, e_u_4, hf⟩ := ob hf
    refine k_X9_goSessions S (S.2.2.2.2.wd wd931 rfl) hw e_u_4 [0] rfl (by decide) rfl ⟨rfl, rfl, Nat.le_of_ble_eq_true rfl, Nat.le_of_ble_eq_true rfl⟩ hl.1 (Nat.le_of_ble_eq_true rfl) dX9_refusal_16 ⟨Nat.zero_le _, Nat.zero_le _⟩ (fun H locs hw => ?_)
    have hw : PW D A s.heap [pX9 cy o0 q0 u_4] H locs := hw
    refine lv_aload_n S.1 S.2.1 dX9_refusal_19 rfl (lv_at hl 0 rfl) ?_
    refine gf_X9_230 S hw 0 rfl dX9_refusal_20 ?_
    obtain ⟨v_5, e_v_5, hf⟩ := ob hf
    have hJ_v_5 : ∀ (H : Heap) (locs : List Loc), PW D A s.heap [pX9 cy o0 q0 u_4] H locs → W p l e rmX9_refusal s m args below meth c H locs 0 0 Q (F0 m 33 ls [.int v_5]) := by
      intro H locs hw
      cases hf
      exact w_iret S hr hlk hA hQ hw dX9_refusal_33
    replace hf := e_v_5
    clear e_v_5
    refine lv_if_lt (tgt := 31) S.1 S.2.1 dX9_refusal_23 (by decide) (fun c_6 => ?_) (fun c_6 => ?_)
    · replace hf := (if_pos c_6).symm.trans hf
      refine lv_bipush (v := (-6)) S.1 S.2.1 dX9_refusal_31 (by decide) ?_
      cases hf
      exact hJ_v_5 _ _ hw
    · replace hf := (if_neg c_6).symm.trans hf
      refine lv_bipush (v := (-3)) S.1 S.2.1 dX9_refusal_26 (by decide) ?_
      refine lv_goto (tgt := 33) S.1 S.2.1 dX9_refusal_28 (by decide) ?_
      cases hf
      exact hJ_v_5 _ _ hw
  · replace hf := (if_neg c_3).symm.trans hf
    refine lv_bipush (v := (-5)) S.1 S.2.1 dX9_refusal_12 (by decide) ?_
    cases hf
    exact w_iret S hr hlk hA hQ hw dX9_refusal_14
section
variable {p : Program} {l : Launch} {e : Env} {R : Room} {s : State} {m : MethodId} {args : Array Value} {below : List Frame} {meth : Method} {c : Code} {H : Heap} {locs : List Loc} {cells slots : Nat} {Q : State → Prop} {cc : ByteArray} {pc nL : Nat} {ls : Array Slot} {rest : List Value} {D : va_G} {cy : Nat → ClassId} {A : Nat → Prop} {H0 : Heap} {own : String} {Ps : List va_W}
set_option maxRecDepth 100000 in
theorem k_X9_refusal {o0 : Nat} {q0 : Nat → Nat}  {σ0 : pStt} {u : Int32 × pStt} {index : Nat} (S : CX p m c cc nL s args own D cy) (hl : (Cond.methodLink own index yX9_refusal).before args s = true) (hw : PW D A H0 Ps H locs) (hf : f_X9_refusal σ0 = some u) (js : List Nat) (hC : js.map (fun j => Ps[j]?) = [some (pX9 cy o0 q0 σ0)]) (hnd : js.Nodup) (hlen : js.length = 1) (hR : RMok rmX9_refusal R 1) (hsize : ls.size = nL) (hrest : (rest.map fun v => v.category).sum ≤ 8) (hdg : decode cc pc = .ok (.invokevirtual index, 3)) (hcs : cells ≤ R.cells ∧ slots ≤ R.slots)
    (kk : ∀ (H1 : Heap) (locs1 : List Loc), PW D A H0 (setAll Ps js [pX9 cy o0 q0 u.2]) H1 locs1 → W p l e R s m args below meth c H1 locs1 cells slots Q (F0 m (pc + 3) ls (.int u.1 :: rest))) : W p l e R s m args below meth c H locs cells slots Q (F0 m pc ls (.ref o0 :: rest)) :=
  w_callV (n := 0) (ov := (some (.int u.1))) (As := []) (Cs := [pX9 cy o0 q0 σ0]) (Cs' := [pX9 cy o0 q0 u.2]) S hw (c_X9_refusal l D cy o0 q0 σ0 u hf) (MF.of S.2.2.2.2 wd917 wd79 (by decide)) (S.2.2.2.2.wd wd916 rfl) (S.2.2.2.2.wd wd31 rfl) hl hR js hC hnd hlen rfl rfl rfl rfl hsize rfl hrest hdg hcs kk
end
abbrev rmX9_judge : Room := { frames := 8, cells := 0, slots := 0, locals := 173 }
def f_X9_judge (x1 : Int32) (σ0 : pStt) : Option (Int32 × pStt) := (f_X9_in ((x1 : Int32).toInt64) 0 2).bind (fun u_1 => if u_1 = 0 then some ((-2), σ0) else (f_X9_refusal σ0).bind (fun u_3 => (f_X9_back u_3.1 u_3.2).bind (fun u_4 => if u_4.1 = (-5) then some (u_4.1, u_4.2) else if x1 ≤ 1 then (if x1 = 0 then some ((u_4.2.1 10)) else if x1 = 1 then some ((u_4.2.1 11)) else some ((u_4.2.1 6)) : Option Int32).bind (fun v_7 => some (v_7, u_4.2)) else if u_4.1 = (-3) then some (u_4.1, u_4.2) else (if x1 = 0 then some ((u_4.2.1 10)) else if x1 = 1 then some ((u_4.2.1 11)) else some ((u_4.2.1 6)) : Option Int32).bind (fun v_11 => some (v_11, u_4.2)))))
set_option maxHeartbeats 4000000 in
set_option maxRecDepth 100000 in
theorem c_X9_judge (l : Launch) (D : va_G) (cy : Nat → ClassId) (o0 : Nat) (q0 : Nat → Nat) (x1 : Int32) (σ0 : pStt) (u : Int32 × pStt) (hf : f_X9_judge x1 σ0 = some u) : CT l yX9_judge cX9_judge 3 (some .int) rmX9_judge D cy [.ref o0, .int x1] [pX9 cy o0 q0 σ0] (some (.int u.1)) [pX9 cy o0 q0 u.2] := by
  refine CT.of (by decide) (Nat.le_of_ble_eq_true rfl) (fun p e s m args below meth c ls A Q hA hQ S hr hlk hl hw => ?_)
  have hl : lv_has ls 3 [(0, .ref o0), (1, .int x1)] := hl
  rw [f_X9_judge] at hf
  refine lv_iload_n S.1 S.2.1 dX9_judge_0 rfl (lv_at hl 1 rfl) ?_
  refine lv_i2l (v := (x1 : Int32).toInt64) S.1 S.2.1 dX9_judge_1 rfl ?_
  refine lv_lconst (v := 0) S.1 S.2.1 dX9_judge_2 (by decide) ?_
  refine lv_ldc2 (v := 2) S.1 S.2.1 S.2.2.2.1 (S.2.2.2.2.wd wd913 rfl) dX9_judge_3 ?_
  obtain ⟨u_1, e_u_1, hf⟩ := ob hf
  refine k_X9_in S (S.2.2.2.2.wd wd818 rfl) hw e_u_1 [] rfl (by decide) rfl ⟨rfl, rfl, Nat.le_of_ble_eq_true rfl, Nat.le_of_ble_eq_true rfl⟩ hl.1 (Nat.le_of_ble_eq_true rfl) dX9_judge_6 ⟨Nat.zero_le _, Nat.zero_le _⟩ (fun H locs hw => ?_)
  have hw : PW D A s.heap [pX9 cy o0 q0 σ0] H locs := hw
  refine lv_if_ne (tgt := 15) S.1 S.2.1 dX9_judge_9 (by decide) (fun c_2 => ?_) (fun c_2 => ?_)
  · replace hf := (if_neg c_2).symm.trans hf
    refine lv_aload_n S.1 S.2.1 dX9_judge_15 rfl (lv_at hl 0 rfl) ?_
    refine lv_aload_n S.1 S.2.1 dX9_judge_16 rfl (lv_at hl 0 rfl) ?_
    obtain ⟨u_3, e_u_3, hf⟩ := ob hf
    refine k_X9_refusal S (S.2.2.2.2.wd wd914 rfl) hw e_u_3 [0] rfl (by decide) rfl ⟨rfl, rfl, Nat.le_of_ble_eq_true rfl, Nat.le_of_ble_eq_true rfl⟩ hl.1 (Nat.le_of_ble_eq_true rfl) dX9_judge_17 ⟨Nat.zero_le _, Nat.zero_le _⟩ (fun H locs hw => ?_)
    have hw : PW D A s.heap [pX9 cy o0 q0 u_3.2] H locs := hw
    obtain ⟨u_4, e_u_4, hf⟩ := ob hf
    refine k_X9_back S (S.2.2.2.2.wd wd982 rfl) hw e_u_4 [0] rfl (by decide) rfl ⟨rfl, rfl, Nat.le_of_ble_eq_true rfl, Nat.le_of_ble_eq_true rfl⟩ hl.1 (Nat.le_of_ble_eq_true rfl) dX9_judge_20 ⟨Nat.zero_le _, Nat.zero_le _⟩ (fun H locs hw => ?_)
    have hw : PW D A s.heap [pX9 cy o0 q0 u_4.2] H locs := hw
    refine lv_istore_n (lv' := [(2, .int u_4.1), (0, .ref o0), (1, .int x1)]) S.1 S.2.1 dX9_judge_23 rfl hl (by decide) rfl (fun ls hl => ?_)
    refine lv_iload_n S.1 S.2.1 dX9_judge_24 rfl (lv_at hl 0 rfl) ?_
    refine lv_bipush (v := (-5)) S.1 S.2.1 dX9_judge_25 (by decide) ?_
    refine lv_icmp_eq (tgt := 41) S.1 S.2.1 dX9_judge_27 (by decide) (fun c_5 => ?_) (fun c_5 => ?_)
    · replace hf := (if_pos c_5).symm.trans hf
      refine lv_iload_n S.1 S.2.1 dX9_judge_41 rfl (lv_at hl 0 rfl) ?_
      cases hf
      exact w_iret S hr hlk hA hQ hw dX9_judge_42
    · replace hf := (if_neg c_5).symm.trans hf
      refine lv_iload_n S.1 S.2.1 dX9_judge_30 rfl (lv_at hl 2 rfl) ?_
      refine lv_iconst (v := 1) S.1 S.2.1 dX9_judge_31 (by decide) ?_
      refine lv_icmp_le (tgt := 43) S.1 S.2.1 dX9_judge_32 (by decide) (fun c_6 => ?_) (fun c_6 => ?_)
      · replace hf := (if_pos c_6).symm.trans hf
        refine lv_iload_n S.1 S.2.1 dX9_judge_43 rfl (lv_at hl 2 rfl) ?_
        obtain ⟨v_7, e_v_7, hf⟩ := ob hf
        have hJ_v_7 : ∀ (H : Heap) (locs : List Loc), PW D A s.heap [pX9 cy o0 q0 u_4.2] H locs → W p l e rmX9_judge s m args below meth c H locs 0 0 Q (F0 m 70 ls [.int v_7]) := by
          intro H locs hw
          cases hf
          exact w_iret S hr hlk hA hQ hw dX9_judge_70
        replace hf := e_v_7
        clear e_v_7
        refine lv_if_ne (tgt := 54) S.1 S.2.1 dX9_judge_44 (by decide) (fun c_8 => ?_) (fun c_8 => ?_)
        · replace hf := (if_neg c_8).symm.trans hf
          refine lv_iload_n S.1 S.2.1 dX9_judge_54 rfl (lv_at hl 2 rfl) ?_
          refine lv_iconst (v := 1) S.1 S.2.1 dX9_judge_55 (by decide) ?_
          refine lv_icmp_ne (tgt := 66) S.1 S.2.1 dX9_judge_56 (by decide) (fun c_9 => ?_) (fun c_9 => ?_)
          · replace hf := (if_neg c_9).symm.trans hf
            refine lv_aload_n S.1 S.2.1 dX9_judge_66 rfl (lv_at hl 1 rfl) ?_
            refine gf_X9_181 S hw 0 rfl dX9_judge_67 ?_
            cases hf
            exact hJ_v_7 _ _ hw
          · replace hf := (if_pos c_9).symm.trans hf
            refine lv_aload_n S.1 S.2.1 dX9_judge_59 rfl (lv_at hl 1 rfl) ?_
            refine gf_X9_233 S hw 0 rfl dX9_judge_60 ?_
            refine lv_goto (tgt := 70) S.1 S.2.1 dX9_judge_63 (by decide) ?_
            cases hf
            exact hJ_v_7 _ _ hw
        · replace hf := (if_pos c_8).symm.trans hf
          refine lv_aload_n S.1 S.2.1 dX9_judge_47 rfl (lv_at hl 1 rfl) ?_
          refine gf_X9_230 S hw 0 rfl dX9_judge_48 ?_
          refine lv_goto (tgt := 70) S.1 S.2.1 dX9_judge_51 (by decide) ?_
          cases hf
          exact hJ_v_7 _ _ hw
      · replace hf := (if_neg c_6).symm.trans hf
        refine lv_iload_n S.1 S.2.1 dX9_judge_35 rfl (lv_at hl 0 rfl) ?_
        refine lv_bipush (v := (-3)) S.1 S.2.1 dX9_judge_36 (by decide) ?_
        refine lv_icmp_ne (tgt := 43) S.1 S.2.1 dX9_judge_38 (by decide) (fun c_10 => ?_) (fun c_10 => ?_)
        · replace hf := (if_neg c_10).symm.trans hf
          refine lv_iload_n S.1 S.2.1 dX9_judge_43 rfl (lv_at hl 2 rfl) ?_
          obtain ⟨v_11, e_v_11, hf⟩ := ob hf
          have hJ_v_11 : ∀ (H : Heap) (locs : List Loc), PW D A s.heap [pX9 cy o0 q0 u_4.2] H locs → W p l e rmX9_judge s m args below meth c H locs 0 0 Q (F0 m 70 ls [.int v_11]) := by
            intro H locs hw
            cases hf
            exact w_iret S hr hlk hA hQ hw dX9_judge_70
          replace hf := e_v_11
          clear e_v_11
          refine lv_if_ne (tgt := 54) S.1 S.2.1 dX9_judge_44 (by decide) (fun c_12 => ?_) (fun c_12 => ?_)
          · replace hf := (if_neg c_12).symm.trans hf
            refine lv_iload_n S.1 S.2.1 dX9_judge_54 rfl (lv_at hl 2 rfl) ?_
            refine lv_iconst (v := 1) S.1 S.2.1 dX9_judge_55 (by decide) ?_
            refine lv_icmp_ne (tgt := 66) S.1 S.2.1 dX9_judge_56 (by decide) (fun c_13 => ?_) (fun c_13 => ?_)
            · replace hf := (if_neg c_13).symm.trans hf
              refine lv_aload_n S.1 S.2.1 dX9_judge_66 rfl (lv_at hl 1 rfl) ?_
              refine gf_X9_181 S hw 0 rfl dX9_judge_67 ?_
              cases hf
              exact hJ_v_11 _ _ hw
            · replace hf := (if_pos c_13).symm.trans hf
              refine lv_aload_n S.1 S.2.1 dX9_judge_59 rfl (lv_at hl 1 rfl) ?_
              refine gf_X9_233 S hw 0 rfl dX9_judge_60 ?_
              refine lv_goto (tgt := 70) S.1 S.2.1 dX9_judge_63 (by decide) ?_
              cases hf
              exact hJ_v_11 _ _ hw
          · replace hf := (if_pos c_12).symm.trans hf
            refine lv_aload_n S.1 S.2.1 dX9_judge_47 rfl (lv_at hl 1 rfl) ?_
            refine gf_X9_230 S hw 0 rfl dX9_judge_48 ?_
            refine lv_goto (tgt := 70) S.1 S.2.1 dX9_judge_51 (by decide) ?_
            cases hf
            exact hJ_v_11 _ _ hw
        · replace hf := (if_pos c_10).symm.trans hf
          refine lv_iload_n S.1 S.2.1 dX9_judge_41 rfl (lv_at hl 0 rfl) ?_
          cases hf
          exact w_iret S hr hlk hA hQ hw dX9_judge_42
  · replace hf := (if_pos c_2).symm.trans hf
    refine lv_bipush (v := (-2)) S.1 S.2.1 dX9_judge_12 (by decide) ?_
    cases hf
    exact w_iret S hr hlk hA hQ hw dX9_judge_14
section
variable {p : Program} {l : Launch} {e : Env} {R : Room} {s : State} {m : MethodId} {args : Array Value} {below : List Frame} {meth : Method} {c : Code} {H : Heap} {locs : List Loc} {cells slots : Nat} {Q : State → Prop} {cc : ByteArray} {pc nL : Nat} {ls : Array Slot} {rest : List Value} {D : va_G} {cy : Nat → ClassId} {A : Nat → Prop} {H0 : Heap} {own : String} {Ps : List va_W}
set_option maxRecDepth 100000 in
theorem k_X9_judge {o0 : Nat} {q0 : Nat → Nat} {x1 : Int32} {σ0 : pStt} {u : Int32 × pStt} {index : Nat} (S : CX p m c cc nL s args own D cy) (hl : (Cond.methodLink own index yX9_judge).before args s = true) (hw : PW D A H0 Ps H locs) (hf : f_X9_judge x1 σ0 = some u) (js : List Nat) (hC : js.map (fun j => Ps[j]?) = [some (pX9 cy o0 q0 σ0)]) (hnd : js.Nodup) (hlen : js.length = 1) (hR : RMok rmX9_judge R 3) (hsize : ls.size = nL) (hrest : (rest.map fun v => v.category).sum ≤ 8) (hdg : decode cc pc = .ok (.invokevirtual index, 3)) (hcs : cells ≤ R.cells ∧ slots ≤ R.slots)
    (kk : ∀ (H1 : Heap) (locs1 : List Loc), PW D A H0 (setAll Ps js [pX9 cy o0 q0 u.2]) H1 locs1 → W p l e R s m args below meth c H1 locs1 cells slots Q (F0 m (pc + 3) ls (.int u.1 :: rest))) : W p l e R s m args below meth c H locs cells slots Q (F0 m pc ls (.int x1 :: .ref o0 :: rest)) :=
  w_callV (n := 1) (ov := (some (.int u.1))) (As := [.int x1]) (Cs := [pX9 cy o0 q0 σ0]) (Cs' := [pX9 cy o0 q0 u.2]) S hw (c_X9_judge l D cy o0 q0 x1 σ0 u hf) (MF.of S.2.2.2.2 wd912 wd79 (by decide)) (S.2.2.2.2.wd wd910 rfl) (S.2.2.2.2.wd wd911 rfl) hl hR js hC hnd hlen rfl rfl rfl rfl hsize rfl hrest hdg hcs kk
end
abbrev rmX9_carriedBy : Room := { frames := 1, cells := 0, slots := 0, locals := 21 }
def fl_X9_carriedBy_4 (y1 : Int32) (σ0 : pStt) : Nat → Int32 → Int32 → Option (Int32)
  | 0, _, _ => none
  | n + 1, y2, y3 => if 8 ≤ y3 then some y2 else (f_X9_carrierOf y3 σ0).bind (fun u_2 => (if u_2 = y1 then some (((1 : Int32) <<< (y3 &&& 31))) else some 0 : Option Int32).bind (fun v_3 => fl_X9_carriedBy_4 y1 σ0 n ((y2 ||| v_3)) ((y3 + 1))))
def f_X9_carriedBy (x1 : Int32) (σ0 : pStt) : Option (Int32) := (fl_X9_carriedBy_4 x1 σ0 2000 0 0).bind (fun u_5 => some u_5)
section
variable {p : Program} {l : Launch} {e : Env} {s : State} {m : MethodId} {args : Array Value} {below : List Frame} {meth : Method} {c : Code} {Q : State → Prop} {D : va_G} {cy : Nat → ClassId} {A : Nat → Prop} {H0 : Heap}
set_option maxHeartbeats 4000000 in
set_option maxRecDepth 100000 in
theorem lp_X9_carriedBy_4 (S : CX p m c cX9_carriedBy 4 s args RX9 D cy) {o0 : Nat} {q0 : Nat → Nat} {σ0 : pStt} {y1 : Int32} : ∀ (n : Nat) (y2 : Int32) (y3 : Int32) (H : Heap) (locs : List Loc) (ls : Array Slot) (u : Int32), PW D A H0 [pX9 cy o0 q0 σ0] H locs → lv_has ls 4 [(0, .ref o0), (1, .int y1), (2, .int y2), (3, .int y3)] → fl_X9_carriedBy_4 y1 σ0 n y2 y3 = some u → (∀ (H : Heap) (locs : List Loc) (ls : Array Slot), PW D A H0 [pX9 cy o0 q0 σ0] H locs → lv_has ls 4 [(2, .int u)] → W p l e rmX9_carriedBy s m args below meth c H locs 0 0 Q (F0 m 35 ls [])) → W p l e rmX9_carriedBy s m args below meth c H locs 0 0 Q (F0 m 4 ls []) := by
  intro n
  induction n with
  | zero =>
    intro y2 y3 H locs ls u hw hl hf K0
    rw [fl_X9_carriedBy_4] at hf
    cases hf
  | succ n ih =>
    intro y2 y3 H locs ls u hw hl hf K0
    rw [fl_X9_carriedBy_4] at hf
    refine lv_iload_n S.1 S.2.1 dX9_carriedBy_4 rfl (lv_at hl 3 rfl) ?_
    refine lv_bipush (v := 8) S.1 S.2.1 dX9_carriedBy_5 (by decide) ?_
    refine lv_icmp_ge (tgt := 35) S.1 S.2.1 dX9_carriedBy_7 (by decide) (fun c_1 => ?_) (fun c_1 => ?_)
    · replace hf := (if_pos c_1).symm.trans hf
      cases hf
      exact K0 _ _ _ hw (lv_sub hl [2] rfl)
    · replace hf := (if_neg c_1).symm.trans hf
      refine lv_iload_n S.1 S.2.1 dX9_carriedBy_10 rfl (lv_at hl 2 rfl) ?_
      refine lv_aload_n S.1 S.2.1 dX9_carriedBy_11 rfl (lv_at hl 0 rfl) ?_
      refine lv_iload_n S.1 S.2.1 dX9_carriedBy_12 rfl (lv_at hl 3 rfl) ?_
      obtain ⟨u_2, e_u_2, hf⟩ := ob hf
      refine k_X9_carrierOf S (S.2.2.2.2.wd wd857 rfl) hw e_u_2 [0] rfl (by decide) rfl ⟨rfl, rfl, Nat.le_of_ble_eq_true rfl, Nat.le_of_ble_eq_true rfl⟩ hl.1 (Nat.le_of_ble_eq_true rfl) dX9_carriedBy_13 ⟨Nat.zero_le _, Nat.zero_le _⟩ (fun H locs hw => ?_)
      have hw : PW D A H0 [pX9 cy o0 q0 σ0] H locs := hw
      refine lv_iload_n S.1 S.2.1 dX9_carriedBy_16 rfl (lv_at hl 1 rfl) ?_
      obtain ⟨v_3, e_v_3, hf⟩ := ob hf
      have hJ_v_3 : ∀ (H : Heap) (locs : List Loc), PW D A H0 [pX9 cy o0 q0 σ0] H locs → W p l e rmX9_carriedBy s m args below meth c H locs 0 0 Q (F0 m 27 ls [.int v_3, .int y2]) := by
        intro H locs hw
        refine lv_ior S.1 S.2.1 dX9_carriedBy_27 ?_
        refine lv_istore_n (lv' := [(2, .int ((y2 ||| v_3))), (0, .ref o0), (1, .int y1), (3, .int y3)]) S.1 S.2.1 dX9_carriedBy_28 rfl hl (by decide) rfl (fun ls hl => ?_)
        refine lv_iinc (v := (y3 + 1)) (lv' := [(3, .int ((y3 + 1))), (2, .int ((y2 ||| v_3))), (0, .ref o0), (1, .int y1)]) S.1 S.2.1 dX9_carriedBy_29 hl (k := 3) rfl rfl (by decide) rfl (fun ls hl => ?_)
        refine lv_goto (tgt := 4) S.1 S.2.1 dX9_carriedBy_32 (by decide) ?_
        exact ih _ _ _ _ _ _ hw (lv_sub hl [2, 3, 1, 0] rfl) hf K0
      replace hf := e_v_3
      clear e_v_3
      refine lv_icmp_ne (tgt := 26) S.1 S.2.1 dX9_carriedBy_17 (by decide) (fun c_4 => ?_) (fun c_4 => ?_)
      · replace hf := (if_neg c_4).symm.trans hf
        refine lv_iconst (v := 0) S.1 S.2.1 dX9_carriedBy_26 (by decide) ?_
        cases hf
        exact hJ_v_3 _ _ hw
      · replace hf := (if_pos c_4).symm.trans hf
        refine lv_iconst (v := 1) S.1 S.2.1 dX9_carriedBy_20 (by decide) ?_
        refine lv_iload_n S.1 S.2.1 dX9_carriedBy_21 rfl (lv_at hl 3 rfl) ?_
        refine lv_ishl S.1 S.2.1 dX9_carriedBy_22 ?_
        refine lv_goto (tgt := 27) S.1 S.2.1 dX9_carriedBy_23 (by decide) ?_
        cases hf
        exact hJ_v_3 _ _ hw
end
set_option maxHeartbeats 4000000 in
set_option maxRecDepth 100000 in
theorem c_X9_carriedBy (l : Launch) (D : va_G) (cy : Nat → ClassId) (o0 : Nat) (q0 : Nat → Nat) (x1 : Int32) (σ0 : pStt) (u : Int32) (hf : f_X9_carriedBy x1 σ0 = some u) : CT l yX9_carriedBy cX9_carriedBy 4 (some .int) rmX9_carriedBy D cy [.ref o0, .int x1] [pX9 cy o0 q0 σ0] (some (.int u)) [pX9 cy o0 q0 σ0] := by
  refine CT.of (by decide) (Nat.le_of_ble_eq_true rfl) (fun p e s m args below meth c ls A Q hA hQ S hr hlk hl hw => ?_)
  have hl : lv_has ls 4 [(0, .ref o0), (1, .int x1)] := hl
  rw [f_X9_carriedBy] at hf
  refine lv_iconst (v := 0) S.1 S.2.1 dX9_carriedBy_0 (by decide) ?_
  refine lv_istore_n (lv' := [(2, .int 0), (0, .ref o0), (1, .int x1)]) S.1 S.2.1 dX9_carriedBy_1 rfl hl (by decide) rfl (fun ls hl => ?_)
  refine lv_iconst (v := 0) S.1 S.2.1 dX9_carriedBy_2 (by decide) ?_
  refine lv_istore_n (lv' := [(3, .int 0), (2, .int 0), (0, .ref o0), (1, .int x1)]) S.1 S.2.1 dX9_carriedBy_3 rfl hl (by decide) rfl (fun ls hl => ?_)
  obtain ⟨u_5, e_u_5, hf⟩ := ob hf
  refine lp_X9_carriedBy_4 S 2000 _ _ _ _ _ _ hw (lv_sub hl [2, 3, 1, 0] rfl) e_u_5 ?_
  · intro H locs ls hw hl
    refine lv_iload_n S.1 S.2.1 dX9_carriedBy_35 rfl (lv_at hl 0 rfl) ?_
    cases hf
    exact w_iret S hr hlk hA hQ hw dX9_carriedBy_36
section
variable {p : Program} {l : Launch} {e : Env} {R : Room} {s : State} {m : MethodId} {args : Array Value} {below : List Frame} {meth : Method} {c : Code} {H : Heap} {locs : List Loc} {cells slots : Nat} {Q : State → Prop} {cc : ByteArray} {pc nL : Nat} {ls : Array Slot} {rest : List Value} {D : va_G} {cy : Nat → ClassId} {A : Nat → Prop} {H0 : Heap} {own : String} {Ps : List va_W}
set_option maxRecDepth 100000 in
theorem k_X9_carriedBy {o0 : Nat} {q0 : Nat → Nat} {x1 : Int32} {σ0 : pStt} {u : Int32} {index : Nat} (S : CX p m c cc nL s args own D cy) (hl : (Cond.methodLink own index yX9_carriedBy).before args s = true) (hw : PW D A H0 Ps H locs) (hf : f_X9_carriedBy x1 σ0 = some u) (js : List Nat) (hC : js.map (fun j => Ps[j]?) = [some (pX9 cy o0 q0 σ0)]) (hnd : js.Nodup) (hlen : js.length = 1) (hR : RMok rmX9_carriedBy R 4) (hsize : ls.size = nL) (hrest : (rest.map fun v => v.category).sum ≤ 8) (hdg : decode cc pc = .ok (.invokevirtual index, 3)) (hcs : cells ≤ R.cells ∧ slots ≤ R.slots)
    (kk : ∀ (H1 : Heap) (locs1 : List Loc), PW D A H0 (setAll Ps js [pX9 cy o0 q0 σ0]) H1 locs1 → W p l e R s m args below meth c H1 locs1 cells slots Q (F0 m (pc + 3) ls (.int u :: rest))) : W p l e R s m args below meth c H locs cells slots Q (F0 m pc ls (.int x1 :: .ref o0 :: rest)) :=
  w_callV (n := 1) (ov := (some (.int u))) (As := [.int x1]) (Cs := [pX9 cy o0 q0 σ0]) (Cs' := [pX9 cy o0 q0 σ0]) S hw (c_X9_carriedBy l D cy o0 q0 x1 σ0 u hf) (MF.of S.2.2.2.2 wd998 wd79 (by decide)) (S.2.2.2.2.wd wd997 rfl) (S.2.2.2.2.wd wd49 rfl) hl hR js hC hnd hlen rfl rfl rfl rfl hsize rfl hrest hdg hcs kk
end
abbrev rmX9_ofPerson : Room := { frames := 2, cells := 0, slots := 0, locals := 44 }
def f_X9_ofPerson (x1 : Int32) (x2 : Int32) (σ0 : pStt) : Option (Int32) := (if x2 = 0 then (ld (σ0.2 2) 6 x1).bind (fun x_8 => some x_8) else if x2 = 1 then (ld (σ0.2 3) 6 x1).bind (fun x_7 => some x_7) else if x2 = 2 then (ld (σ0.2 4) 6 x1).bind (fun x_6 => some x_6) else (f_X9_carriedBy x1 σ0).bind (fun u_5 => some u_5) : Option Int32).bind (fun v_1 => some v_1)
set_option maxHeartbeats 4000000 in
set_option maxRecDepth 100000 in
theorem c_X9_ofPerson (l : Launch) (D : va_G) (cy : Nat → ClassId) (o0 : Nat) (q0 : Nat → Nat) (x1 : Int32) (x2 : Int32) (σ0 : pStt) (u : Int32) (hf : f_X9_ofPerson x1 x2 σ0 = some u) : CT l yX9_ofPerson cX9_ofPerson 3 (some .int) rmX9_ofPerson D cy [.ref o0, .int x1, .int x2] [pX9 cy o0 q0 σ0] (some (.int u)) [pX9 cy o0 q0 σ0] := by
  refine CT.of (by decide) (Nat.le_of_ble_eq_true rfl) (fun p e s m args below meth c ls A Q hA hQ S hr hlk hl hw => ?_)
  have hl : lv_has ls 3 [(0, .ref o0), (1, .int x1), (2, .int x2)] := hl
  rw [f_X9_ofPerson] at hf
  refine lv_iload_n S.1 S.2.1 dX9_ofPerson_0 rfl (lv_at hl 2 rfl) ?_
  obtain ⟨v_1, e_v_1, hf⟩ := ob hf
  have hJ_v_1 : ∀ (H : Heap) (locs : List Loc), PW D A s.heap [pX9 cy o0 q0 σ0] H locs → W p l e rmX9_ofPerson s m args below meth c H locs 0 0 Q (F0 m 46 ls [.int v_1]) := by
    intro H locs hw
    cases hf
    exact w_iret S hr hlk hA hQ hw dX9_ofPerson_46
  replace hf := e_v_1
  clear e_v_1
  refine lv_if_ne (tgt := 13) S.1 S.2.1 dX9_ofPerson_1 (by decide) (fun c_2 => ?_) (fun c_2 => ?_)
  · replace hf := (if_neg c_2).symm.trans hf
    refine lv_iload_n S.1 S.2.1 dX9_ofPerson_13 rfl (lv_at hl 2 rfl) ?_
    refine lv_iconst (v := 1) S.1 S.2.1 dX9_ofPerson_14 (by decide) ?_
    refine lv_icmp_ne (tgt := 27) S.1 S.2.1 dX9_ofPerson_15 (by decide) (fun c_3 => ?_) (fun c_3 => ?_)
    · replace hf := (if_neg c_3).symm.trans hf
      refine lv_iload_n S.1 S.2.1 dX9_ofPerson_27 rfl (lv_at hl 2 rfl) ?_
      refine lv_iconst (v := 2) S.1 S.2.1 dX9_ofPerson_28 (by decide) ?_
      refine lv_icmp_ne (tgt := 41) S.1 S.2.1 dX9_ofPerson_29 (by decide) (fun c_4 => ?_) (fun c_4 => ?_)
      · replace hf := (if_neg c_4).symm.trans hf
        refine lv_aload_n S.1 S.2.1 dX9_ofPerson_41 rfl (lv_at hl 0 rfl) ?_
        refine lv_iload_n S.1 S.2.1 dX9_ofPerson_42 rfl (lv_at hl 1 rfl) ?_
        obtain ⟨u_5, e_u_5, hf⟩ := ob hf
        refine k_X9_carriedBy S (S.2.2.2.2.wd wd995 rfl) hw e_u_5 [0] rfl (by decide) rfl ⟨rfl, rfl, Nat.le_of_ble_eq_true rfl, Nat.le_of_ble_eq_true rfl⟩ hl.1 (Nat.le_of_ble_eq_true rfl) dX9_ofPerson_43 ⟨Nat.zero_le _, Nat.zero_le _⟩ (fun H locs hw => ?_)
        have hw : PW D A s.heap [pX9 cy o0 q0 σ0] H locs := hw
        cases hf
        exact hJ_v_1 _ _ hw
      · replace hf := (if_pos c_4).symm.trans hf
        refine lv_aload_n S.1 S.2.1 dX9_ofPerson_32 rfl (lv_at hl 0 rfl) ?_
        refine gf_X9_22 S hw 0 rfl dX9_ofPerson_33 ?_
        refine lv_iload_n S.1 S.2.1 dX9_ofPerson_36 rfl (lv_at hl 1 rfl) ?_
        obtain ⟨x_6, e_x_6, hf⟩ := ob hf
        refine al_X9_4 S hw 0 rfl e_x_6 dX9_ofPerson_37 ?_
        refine lv_goto (tgt := 46) S.1 S.2.1 dX9_ofPerson_38 (by decide) ?_
        cases hf
        exact hJ_v_1 _ _ hw
    · replace hf := (if_pos c_3).symm.trans hf
      refine lv_aload_n S.1 S.2.1 dX9_ofPerson_18 rfl (lv_at hl 0 rfl) ?_
      refine gf_X9_19 S hw 0 rfl dX9_ofPerson_19 ?_
      refine lv_iload_n S.1 S.2.1 dX9_ofPerson_22 rfl (lv_at hl 1 rfl) ?_
      obtain ⟨x_7, e_x_7, hf⟩ := ob hf
      refine al_X9_3 S hw 0 rfl e_x_7 dX9_ofPerson_23 ?_
      refine lv_goto (tgt := 46) S.1 S.2.1 dX9_ofPerson_24 (by decide) ?_
      cases hf
      exact hJ_v_1 _ _ hw
  · replace hf := (if_pos c_2).symm.trans hf
    refine lv_aload_n S.1 S.2.1 dX9_ofPerson_4 rfl (lv_at hl 0 rfl) ?_
    refine gf_X9_16 S hw 0 rfl dX9_ofPerson_5 ?_
    refine lv_iload_n S.1 S.2.1 dX9_ofPerson_8 rfl (lv_at hl 1 rfl) ?_
    obtain ⟨x_8, e_x_8, hf⟩ := ob hf
    refine al_X9_2 S hw 0 rfl e_x_8 dX9_ofPerson_9 ?_
    refine lv_goto (tgt := 46) S.1 S.2.1 dX9_ofPerson_10 (by decide) ?_
    cases hf
    exact hJ_v_1 _ _ hw
section
variable {p : Program} {l : Launch} {e : Env} {R : Room} {s : State} {m : MethodId} {args : Array Value} {below : List Frame} {meth : Method} {c : Code} {H : Heap} {locs : List Loc} {cells slots : Nat} {Q : State → Prop} {cc : ByteArray} {pc nL : Nat} {ls : Array Slot} {rest : List Value} {D : va_G} {cy : Nat → ClassId} {A : Nat → Prop} {H0 : Heap} {own : String} {Ps : List va_W}
set_option maxRecDepth 100000 in
theorem k_X9_ofPerson {o0 : Nat} {q0 : Nat → Nat} {x1 : Int32} {x2 : Int32} {σ0 : pStt} {u : Int32} {index : Nat} (S : CX p m c cc nL s args own D cy) (hl : (Cond.methodLink own index yX9_ofPerson).before args s = true) (hw : PW D A H0 Ps H locs) (hf : f_X9_ofPerson x1 x2 σ0 = some u) (js : List Nat) (hC : js.map (fun j => Ps[j]?) = [some (pX9 cy o0 q0 σ0)]) (hnd : js.Nodup) (hlen : js.length = 1) (hR : RMok rmX9_ofPerson R 3) (hsize : ls.size = nL) (hrest : (rest.map fun v => v.category).sum ≤ 8) (hdg : decode cc pc = .ok (.invokevirtual index, 3)) (hcs : cells ≤ R.cells ∧ slots ≤ R.slots)
    (kk : ∀ (H1 : Heap) (locs1 : List Loc), PW D A H0 (setAll Ps js [pX9 cy o0 q0 σ0]) H1 locs1 → W p l e R s m args below meth c H1 locs1 cells slots Q (F0 m (pc + 3) ls (.int u :: rest))) : W p l e R s m args below meth c H locs cells slots Q (F0 m pc ls (.int x2 :: .int x1 :: .ref o0 :: rest)) :=
  w_callV (n := 2) (ov := (some (.int u))) (As := [.int x1, .int x2]) (Cs := [pX9 cy o0 q0 σ0]) (Cs' := [pX9 cy o0 q0 σ0]) S hw (c_X9_ofPerson l D cy o0 q0 x1 x2 σ0 u hf) (MF.of S.2.2.2.2 wd994 wd79 (by decide)) (S.2.2.2.2.wd wd993 rfl) (S.2.2.2.2.wd wd48 rfl) hl hR js hC hnd hlen rfl rfl rfl rfl hsize rfl hrest hdg hcs kk
end
abbrev rmX9_behind : Room := { frames := 8, cells := 0, slots := 0, locals := 173 }
def f_X9_behind (x1 : Int32) (x2 : Int32) (σ0 : pStt) : Option (Int32 × pStt) := (f_X9_isPerson x1).bind (fun u_1 => if u_1 = 0 then some ((-1), σ0) else (f_X9_in ((x2 : Int32).toInt64) 0 3).bind (fun u_3 => if u_3 = 0 then some ((-2), σ0) else (f_X9_refusal σ0).bind (fun u_5 => (if u_5.1 = (-6) then (f_X9_ofPerson x1 x2 u_5.2).bind (fun u_9 => some u_9) else some u_5.1 : Option Int32).bind (fun v_6 => (f_X9_back v_6 u_5.2).bind (fun u_7 => some (u_7.1, u_7.2))))))
set_option maxHeartbeats 4000000 in
set_option maxRecDepth 100000 in
theorem c_X9_behind (l : Launch) (D : va_G) (cy : Nat → ClassId) (o0 : Nat) (q0 : Nat → Nat) (x1 : Int32) (x2 : Int32) (σ0 : pStt) (u : Int32 × pStt) (hf : f_X9_behind x1 x2 σ0 = some u) : CT l yX9_behind cX9_behind 4 (some .int) rmX9_behind D cy [.ref o0, .int x1, .int x2] [pX9 cy o0 q0 σ0] (some (.int u.1)) [pX9 cy o0 q0 u.2] := by
  refine CT.of (by decide) (Nat.le_of_ble_eq_true rfl) (fun p e s m args below meth c ls A Q hA hQ S hr hlk hl hw => ?_)
  have hl : lv_has ls 4 [(0, .ref o0), (1, .int x1), (2, .int x2)] := hl
  rw [f_X9_behind] at hf
  refine lv_iload_n S.1 S.2.1 dX9_behind_0 rfl (lv_at hl 1 rfl) ?_
  obtain ⟨u_1, e_u_1, hf⟩ := ob hf
  refine k_X9_isPerson S (S.2.2.2.2.wd wd848 rfl) hw e_u_1 [] rfl (by decide) rfl ⟨rfl, rfl, Nat.le_of_ble_eq_true rfl, Nat.le_of_ble_eq_true rfl⟩ hl.1 (Nat.le_of_ble_eq_true rfl) dX9_behind_1 ⟨Nat.zero_le _, Nat.zero_le _⟩ (fun H locs hw => ?_)
  have hw : PW D A s.heap [pX9 cy o0 q0 σ0] H locs := hw
  refine lv_if_ne (tgt := 9) S.1 S.2.1 dX9_behind_4 (by decide) (fun c_2 => ?_) (fun c_2 => ?_)
  · replace hf := (if_neg c_2).symm.trans hf
    refine lv_iload_n S.1 S.2.1 dX9_behind_9 rfl (lv_at hl 2 rfl) ?_
    refine lv_i2l (v := (x2 : Int32).toInt64) S.1 S.2.1 dX9_behind_10 rfl ?_
    refine lv_lconst (v := 0) S.1 S.2.1 dX9_behind_11 (by decide) ?_
    refine lv_ldc2 (v := 3) S.1 S.2.1 S.2.2.2.1 (S.2.2.2.2.wd wd990 rfl) dX9_behind_12 ?_
    obtain ⟨u_3, e_u_3, hf⟩ := ob hf
    refine k_X9_in S (S.2.2.2.2.wd wd818 rfl) hw e_u_3 [] rfl (by decide) rfl ⟨rfl, rfl, Nat.le_of_ble_eq_true rfl, Nat.le_of_ble_eq_true rfl⟩ hl.1 (Nat.le_of_ble_eq_true rfl) dX9_behind_15 ⟨Nat.zero_le _, Nat.zero_le _⟩ (fun H locs hw => ?_)
    have hw : PW D A s.heap [pX9 cy o0 q0 σ0] H locs := hw
    refine lv_if_ne (tgt := 24) S.1 S.2.1 dX9_behind_18 (by decide) (fun c_4 => ?_) (fun c_4 => ?_)
    · replace hf := (if_neg c_4).symm.trans hf
      refine lv_aload_n S.1 S.2.1 dX9_behind_24 rfl (lv_at hl 0 rfl) ?_
      obtain ⟨u_5, e_u_5, hf⟩ := ob hf
      refine k_X9_refusal S (S.2.2.2.2.wd wd914 rfl) hw e_u_5 [0] rfl (by decide) rfl ⟨rfl, rfl, Nat.le_of_ble_eq_true rfl, Nat.le_of_ble_eq_true rfl⟩ hl.1 (Nat.le_of_ble_eq_true rfl) dX9_behind_25 ⟨Nat.zero_le _, Nat.zero_le _⟩ (fun H locs hw => ?_)
      have hw : PW D A s.heap [pX9 cy o0 q0 u_5.2] H locs := hw
      refine lv_istore_n (lv' := [(3, .int u_5.1), (0, .ref o0), (1, .int x1), (2, .int x2)]) S.1 S.2.1 dX9_behind_28 rfl hl (by decide) rfl (fun ls hl => ?_)
      refine lv_aload_n S.1 S.2.1 dX9_behind_29 rfl (lv_at hl 1 rfl) ?_
      refine lv_iload_n S.1 S.2.1 dX9_behind_30 rfl (lv_at hl 0 rfl) ?_
      refine lv_bipush (v := (-6)) S.1 S.2.1 dX9_behind_31 (by decide) ?_
      obtain ⟨v_6, e_v_6, hf⟩ := ob hf
      have hJ_v_6 : ∀ (H : Heap) (locs : List Loc), PW D A s.heap [pX9 cy o0 q0 u_5.2] H locs → W p l e rmX9_behind s m args below meth c H locs 0 0 Q (F0 m 46 ls [.int v_6, .ref o0]) := by
        intro H locs hw
        obtain ⟨u_7, e_u_7, hf⟩ := ob hf
        refine k_X9_back S (S.2.2.2.2.wd wd982 rfl) hw e_u_7 [0] rfl (by decide) rfl ⟨rfl, rfl, Nat.le_of_ble_eq_true rfl, Nat.le_of_ble_eq_true rfl⟩ hl.1 (Nat.le_of_ble_eq_true rfl) dX9_behind_46 ⟨Nat.zero_le _, Nat.zero_le _⟩ (fun H locs hw => ?_)
        have hw : PW D A s.heap [pX9 cy o0 q0 u_7.2] H locs := hw
        cases hf
        exact w_iret S hr hlk hA hQ hw dX9_behind_49
      replace hf := e_v_6
      clear e_v_6
      refine lv_icmp_eq (tgt := 40) S.1 S.2.1 dX9_behind_33 (by decide) (fun c_8 => ?_) (fun c_8 => ?_)
      · replace hf := (if_pos c_8).symm.trans hf
        refine lv_aload_n S.1 S.2.1 dX9_behind_40 rfl (lv_at hl 1 rfl) ?_
        refine lv_iload_n S.1 S.2.1 dX9_behind_41 rfl (lv_at hl 2 rfl) ?_
        refine lv_iload_n S.1 S.2.1 dX9_behind_42 rfl (lv_at hl 3 rfl) ?_
        obtain ⟨u_9, e_u_9, hf⟩ := ob hf
        refine k_X9_ofPerson S (S.2.2.2.2.wd wd991 rfl) hw e_u_9 [0] rfl (by decide) rfl ⟨rfl, rfl, Nat.le_of_ble_eq_true rfl, Nat.le_of_ble_eq_true rfl⟩ hl.1 (Nat.le_of_ble_eq_true rfl) dX9_behind_43 ⟨Nat.zero_le _, Nat.zero_le _⟩ (fun H locs hw => ?_)
        have hw : PW D A s.heap [pX9 cy o0 q0 u_5.2] H locs := hw
        cases hf
        exact hJ_v_6 _ _ hw
      · replace hf := (if_neg c_8).symm.trans hf
        refine lv_iload_n S.1 S.2.1 dX9_behind_36 rfl (lv_at hl 0 rfl) ?_
        refine lv_goto (tgt := 46) S.1 S.2.1 dX9_behind_37 (by decide) ?_
        cases hf
        exact hJ_v_6 _ _ hw
    · replace hf := (if_pos c_4).symm.trans hf
      refine lv_bipush (v := (-2)) S.1 S.2.1 dX9_behind_21 (by decide) ?_
      cases hf
      exact w_iret S hr hlk hA hQ hw dX9_behind_23
  · replace hf := (if_pos c_2).symm.trans hf
    refine lv_iconst (v := (-1)) S.1 S.2.1 dX9_behind_7 (by decide) ?_
    cases hf
    exact w_iret S hr hlk hA hQ hw dX9_behind_8
section
variable {p : Program} {l : Launch} {e : Env} {R : Room} {s : State} {m : MethodId} {args : Array Value} {below : List Frame} {meth : Method} {c : Code} {H : Heap} {locs : List Loc} {cells slots : Nat} {Q : State → Prop} {cc : ByteArray} {pc nL : Nat} {ls : Array Slot} {rest : List Value} {D : va_G} {cy : Nat → ClassId} {A : Nat → Prop} {H0 : Heap} {own : String} {Ps : List va_W}
set_option maxRecDepth 100000 in
theorem k_X9_behind {o0 : Nat} {q0 : Nat → Nat} {x1 : Int32} {x2 : Int32} {σ0 : pStt} {u : Int32 × pStt} {index : Nat} (S : CX p m c cc nL s args own D cy) (hl : (Cond.methodLink own index yX9_behind).before args s = true) (hw : PW D A H0 Ps H locs) (hf : f_X9_behind x1 x2 σ0 = some u) (js : List Nat) (hC : js.map (fun j => Ps[j]?) = [some (pX9 cy o0 q0 σ0)]) (hnd : js.Nodup) (hlen : js.length = 1) (hR : RMok rmX9_behind R 4) (hsize : ls.size = nL) (hrest : (rest.map fun v => v.category).sum ≤ 8) (hdg : decode cc pc = .ok (.invokevirtual index, 3)) (hcs : cells ≤ R.cells ∧ slots ≤ R.slots)
    (kk : ∀ (H1 : Heap) (locs1 : List Loc), PW D A H0 (setAll Ps js [pX9 cy o0 q0 u.2]) H1 locs1 → W p l e R s m args below meth c H1 locs1 cells slots Q (F0 m (pc + 3) ls (.int u.1 :: rest))) : W p l e R s m args below meth c H locs cells slots Q (F0 m pc ls (.int x2 :: .int x1 :: .ref o0 :: rest)) :=
  w_callV (n := 2) (ov := (some (.int u.1))) (As := [.int x1, .int x2]) (Cs := [pX9 cy o0 q0 σ0]) (Cs' := [pX9 cy o0 q0 u.2]) S hw (c_X9_behind l D cy o0 q0 x1 x2 σ0 u hf) (MF.of S.2.2.2.2 wd989 wd79 (by decide)) (S.2.2.2.2.wd wd987 rfl) (S.2.2.2.2.wd wd988 rfl) hl hR js hC hnd hlen rfl rfl rfl rfl hsize rfl hrest hdg hcs kk
end
abbrev rmX9_lies : Room := { frames := 8, cells := 0, slots := 0, locals := 173 }
def f_X9_lies (x1 : Int32) (x2 : Int32) (σ0 : pStt) : Option (Int32 × pStt) := (f_X9_isThing x1).bind (fun u_1 => if u_1 = 0 then some ((-1), σ0) else (f_X9_in ((x2 : Int32).toInt64) 0 1).bind (fun u_3 => if u_3 = 0 then some ((-2), σ0) else (f_X9_refusal σ0).bind (fun u_5 => (if u_5.1 = (-6) then if x2 = 0 then (f_X9_cornerOf x1 u_5.2).bind (fun u_11 => some u_11) else (f_X9_carrierOf x1 u_5.2).bind (fun u_10 => some u_10) else some u_5.1 : Option Int32).bind (fun v_6 => (f_X9_back v_6 u_5.2).bind (fun u_7 => some (u_7.1, u_7.2))))))
set_option maxHeartbeats 4000000 in
set_option maxRecDepth 100000 in
theorem c_X9_lies (l : Launch) (D : va_G) (cy : Nat → ClassId) (o0 : Nat) (q0 : Nat → Nat) (x1 : Int32) (x2 : Int32) (σ0 : pStt) (u : Int32 × pStt) (hf : f_X9_lies x1 x2 σ0 = some u) : CT l yX9_lies cX9_lies 4 (some .int) rmX9_lies D cy [.ref o0, .int x1, .int x2] [pX9 cy o0 q0 σ0] (some (.int u.1)) [pX9 cy o0 q0 u.2] := by
  refine CT.of (by decide) (Nat.le_of_ble_eq_true rfl) (fun p e s m args below meth c ls A Q hA hQ S hr hlk hl hw => ?_)
  have hl : lv_has ls 4 [(0, .ref o0), (1, .int x1), (2, .int x2)] := hl
  rw [f_X9_lies] at hf
  refine lv_iload_n S.1 S.2.1 dX9_lies_0 rfl (lv_at hl 1 rfl) ?_
  obtain ⟨u_1, e_u_1, hf⟩ := ob hf
  refine k_X9_isThing S (S.2.2.2.2.wd wd836 rfl) hw e_u_1 [] rfl (by decide) rfl ⟨rfl, rfl, Nat.le_of_ble_eq_true rfl, Nat.le_of_ble_eq_true rfl⟩ hl.1 (Nat.le_of_ble_eq_true rfl) dX9_lies_1 ⟨Nat.zero_le _, Nat.zero_le _⟩ (fun H locs hw => ?_)
  have hw : PW D A s.heap [pX9 cy o0 q0 σ0] H locs := hw
  refine lv_if_ne (tgt := 9) S.1 S.2.1 dX9_lies_4 (by decide) (fun c_2 => ?_) (fun c_2 => ?_)
  · replace hf := (if_neg c_2).symm.trans hf
    refine lv_iload_n S.1 S.2.1 dX9_lies_9 rfl (lv_at hl 2 rfl) ?_
    refine lv_i2l (v := (x2 : Int32).toInt64) S.1 S.2.1 dX9_lies_10 rfl ?_
    refine lv_lconst (v := 0) S.1 S.2.1 dX9_lies_11 (by decide) ?_
    refine lv_lconst (v := 1) S.1 S.2.1 dX9_lies_12 (by decide) ?_
    obtain ⟨u_3, e_u_3, hf⟩ := ob hf
    refine k_X9_in S (S.2.2.2.2.wd wd818 rfl) hw e_u_3 [] rfl (by decide) rfl ⟨rfl, rfl, Nat.le_of_ble_eq_true rfl, Nat.le_of_ble_eq_true rfl⟩ hl.1 (Nat.le_of_ble_eq_true rfl) dX9_lies_13 ⟨Nat.zero_le _, Nat.zero_le _⟩ (fun H locs hw => ?_)
    have hw : PW D A s.heap [pX9 cy o0 q0 σ0] H locs := hw
    refine lv_if_ne (tgt := 22) S.1 S.2.1 dX9_lies_16 (by decide) (fun c_4 => ?_) (fun c_4 => ?_)
    · replace hf := (if_neg c_4).symm.trans hf
      refine lv_aload_n S.1 S.2.1 dX9_lies_22 rfl (lv_at hl 0 rfl) ?_
      obtain ⟨u_5, e_u_5, hf⟩ := ob hf
      refine k_X9_refusal S (S.2.2.2.2.wd wd914 rfl) hw e_u_5 [0] rfl (by decide) rfl ⟨rfl, rfl, Nat.le_of_ble_eq_true rfl, Nat.le_of_ble_eq_true rfl⟩ hl.1 (Nat.le_of_ble_eq_true rfl) dX9_lies_23 ⟨Nat.zero_le _, Nat.zero_le _⟩ (fun H locs hw => ?_)
      have hw : PW D A s.heap [pX9 cy o0 q0 u_5.2] H locs := hw
      refine lv_istore_n (lv' := [(3, .int u_5.1), (0, .ref o0), (1, .int x1), (2, .int x2)]) S.1 S.2.1 dX9_lies_26 rfl hl (by decide) rfl (fun ls hl => ?_)
      refine lv_aload_n S.1 S.2.1 dX9_lies_27 rfl (lv_at hl 1 rfl) ?_
      refine lv_iload_n S.1 S.2.1 dX9_lies_28 rfl (lv_at hl 0 rfl) ?_
      refine lv_bipush (v := (-6)) S.1 S.2.1 dX9_lies_29 (by decide) ?_
      obtain ⟨v_6, e_v_6, hf⟩ := ob hf
      have hJ_v_6 : ∀ (H : Heap) (locs : List Loc), PW D A s.heap [pX9 cy o0 q0 u_5.2] H locs → W p l e rmX9_lies s m args below meth c H locs 0 0 Q (F0 m 55 ls [.int v_6, .ref o0]) := by
        intro H locs hw
        obtain ⟨u_7, e_u_7, hf⟩ := ob hf
        refine k_X9_back S (S.2.2.2.2.wd wd982 rfl) hw e_u_7 [0] rfl (by decide) rfl ⟨rfl, rfl, Nat.le_of_ble_eq_true rfl, Nat.le_of_ble_eq_true rfl⟩ hl.1 (Nat.le_of_ble_eq_true rfl) dX9_lies_55 ⟨Nat.zero_le _, Nat.zero_le _⟩ (fun H locs hw => ?_)
        have hw : PW D A s.heap [pX9 cy o0 q0 u_7.2] H locs := hw
        cases hf
        exact w_iret S hr hlk hA hQ hw dX9_lies_58
      replace hf := e_v_6
      clear e_v_6
      refine lv_icmp_eq (tgt := 38) S.1 S.2.1 dX9_lies_31 (by decide) (fun c_8 => ?_) (fun c_8 => ?_)
      · replace hf := (if_pos c_8).symm.trans hf
        refine lv_iload_n S.1 S.2.1 dX9_lies_38 rfl (lv_at hl 3 rfl) ?_
        refine lv_if_ne (tgt := 50) S.1 S.2.1 dX9_lies_39 (by decide) (fun c_9 => ?_) (fun c_9 => ?_)
        · replace hf := (if_neg c_9).symm.trans hf
          refine lv_aload_n S.1 S.2.1 dX9_lies_50 rfl (lv_at hl 1 rfl) ?_
          refine lv_iload_n S.1 S.2.1 dX9_lies_51 rfl (lv_at hl 2 rfl) ?_
          obtain ⟨u_10, e_u_10, hf⟩ := ob hf
          refine k_X9_carrierOf S (S.2.2.2.2.wd wd857 rfl) hw e_u_10 [0] rfl (by decide) rfl ⟨rfl, rfl, Nat.le_of_ble_eq_true rfl, Nat.le_of_ble_eq_true rfl⟩ hl.1 (Nat.le_of_ble_eq_true rfl) dX9_lies_52 ⟨Nat.zero_le _, Nat.zero_le _⟩ (fun H locs hw => ?_)
          have hw : PW D A s.heap [pX9 cy o0 q0 u_5.2] H locs := hw
          cases hf
          exact hJ_v_6 _ _ hw
        · replace hf := (if_pos c_9).symm.trans hf
          refine lv_aload_n S.1 S.2.1 dX9_lies_42 rfl (lv_at hl 1 rfl) ?_
          refine lv_iload_n S.1 S.2.1 dX9_lies_43 rfl (lv_at hl 2 rfl) ?_
          obtain ⟨u_11, e_u_11, hf⟩ := ob hf
          refine k_X9_cornerOf S (S.2.2.2.2.wd wd840 rfl) hw e_u_11 [0] rfl (by decide) rfl ⟨rfl, rfl, Nat.le_of_ble_eq_true rfl, Nat.le_of_ble_eq_true rfl⟩ hl.1 (Nat.le_of_ble_eq_true rfl) dX9_lies_44 ⟨Nat.zero_le _, Nat.zero_le _⟩ (fun H locs hw => ?_)
          have hw : PW D A s.heap [pX9 cy o0 q0 u_5.2] H locs := hw
          refine lv_goto (tgt := 55) S.1 S.2.1 dX9_lies_47 (by decide) ?_
          cases hf
          exact hJ_v_6 _ _ hw
      · replace hf := (if_neg c_8).symm.trans hf
        refine lv_iload_n S.1 S.2.1 dX9_lies_34 rfl (lv_at hl 0 rfl) ?_
        refine lv_goto (tgt := 55) S.1 S.2.1 dX9_lies_35 (by decide) ?_
        cases hf
        exact hJ_v_6 _ _ hw
    · replace hf := (if_pos c_4).symm.trans hf
      refine lv_bipush (v := (-2)) S.1 S.2.1 dX9_lies_19 (by decide) ?_
      cases hf
      exact w_iret S hr hlk hA hQ hw dX9_lies_21
  · replace hf := (if_pos c_2).symm.trans hf
    refine lv_iconst (v := (-1)) S.1 S.2.1 dX9_lies_7 (by decide) ?_
    cases hf
    exact w_iret S hr hlk hA hQ hw dX9_lies_8
section
variable {p : Program} {l : Launch} {e : Env} {R : Room} {s : State} {m : MethodId} {args : Array Value} {below : List Frame} {meth : Method} {c : Code} {H : Heap} {locs : List Loc} {cells slots : Nat} {Q : State → Prop} {cc : ByteArray} {pc nL : Nat} {ls : Array Slot} {rest : List Value} {D : va_G} {cy : Nat → ClassId} {A : Nat → Prop} {H0 : Heap} {own : String} {Ps : List va_W}
set_option maxRecDepth 100000 in
theorem k_X9_lies {o0 : Nat} {q0 : Nat → Nat} {x1 : Int32} {x2 : Int32} {σ0 : pStt} {u : Int32 × pStt} {index : Nat} (S : CX p m c cc nL s args own D cy) (hl : (Cond.methodLink own index yX9_lies).before args s = true) (hw : PW D A H0 Ps H locs) (hf : f_X9_lies x1 x2 σ0 = some u) (js : List Nat) (hC : js.map (fun j => Ps[j]?) = [some (pX9 cy o0 q0 σ0)]) (hnd : js.Nodup) (hlen : js.length = 1) (hR : RMok rmX9_lies R 4) (hsize : ls.size = nL) (hrest : (rest.map fun v => v.category).sum ≤ 8) (hdg : decode cc pc = .ok (.invokevirtual index, 3)) (hcs : cells ≤ R.cells ∧ slots ≤ R.slots)
    (kk : ∀ (H1 : Heap) (locs1 : List Loc), PW D A H0 (setAll Ps js [pX9 cy o0 q0 u.2]) H1 locs1 → W p l e R s m args below meth c H1 locs1 cells slots Q (F0 m (pc + 3) ls (.int u.1 :: rest))) : W p l e R s m args below meth c H locs cells slots Q (F0 m pc ls (.int x2 :: .int x1 :: .ref o0 :: rest)) :=
  w_callV (n := 2) (ov := (some (.int u.1))) (As := [.int x1, .int x2]) (Cs := [pX9 cy o0 q0 σ0]) (Cs' := [pX9 cy o0 q0 u.2]) S hw (c_X9_lies l D cy o0 q0 x1 x2 σ0 u hf) (MF.of S.2.2.2.2 wd1002 wd79 (by decide)) (S.2.2.2.2.wd wd1000 rfl) (S.2.2.2.2.wd wd1001 rfl) hl hR js hC hnd hlen rfl rfl rfl rfl hsize rfl hrest hdg hcs kk
end
