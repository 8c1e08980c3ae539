abbrev rmX9_toldOfPerson : Room := { frames := 3, cells := 0, slots := 0, locals := 66 }
def f_X9_toldOfPerson (x1 : Int32) (σ0 : pStt) : Option (Int32) := (f_X9_isPerson ((x1 - x1 / 10 * 10))).bind (fun u_1 => (if u_1 = 0 then some ((-2)) else (f_X9_ofPerson ((x1 - x1 / 10 * 10)) (((x1 / 10) - (1 : Int32))) σ0).bind (fun u_4 => some u_4) : Option Int32).bind (fun v_2 => some v_2))
set_option maxHeartbeats 4000000 in
set_option maxRecDepth 100000 in
theorem c_X9_toldOfPerson (l : Launch) (D : va_G) (cy : Nat → ClassId) (o0 : Nat) (q0 : Nat → Nat) (x1 : Int32) (σ0 : pStt) (u : Int32) (hf : f_X9_toldOfPerson x1 σ0 = some u) : CT l yX9_toldOfPerson cX9_toldOfPerson 3 (some .int) rmX9_toldOfPerson D cy [.ref o0, .int x1] [pX9 cy o0 q0 σ0] (some (.int u)) [pX9 cy o0 q0 σ0] := by
  refine CT.of (by decide) (Nat.le_of_ble_eq_true rfl) (fun p e s m args below meth c ls A Q hA hQ S hr hlk hl hw => ?_)
  have hl : lv_has ls 3 [(0, .ref o0), (1, .int x1)] := hl
  rw [f_X9_toldOfPerson] at hf
  refine lv_iload_n S.1 S.2.1 dX9_toldOfPerson_0 rfl (lv_at hl 1 rfl) ?_
  refine lv_bipush (v := 10) S.1 S.2.1 dX9_toldOfPerson_1 (by decide) ?_
  refine lv_irem S.1 S.2.1 dX9_toldOfPerson_3 (by decide) ?_
  refine lv_istore_n (lv' := [(2, .int ((x1 - x1 / 10 * 10))), (0, .ref o0), (1, .int x1)]) S.1 S.2.1 dX9_toldOfPerson_4 rfl hl (by decide) rfl (fun ls hl => ?_)
  refine lv_iload_n S.1 S.2.1 dX9_toldOfPerson_5 rfl (lv_at hl 0 rfl) ?_
  obtain ⟨u_1, e_u_1, hf⟩ := ob hf
  refine k_X9_isPerson S (S.2.2.2.2.wd wd848 rfl) hw e_u_1 [] rfl (by decide) rfl ⟨rfl, rfl, Nat.le_of_ble_eq_true rfl, Nat.le_of_ble_eq_true rfl⟩ hl.1 (Nat.le_of_ble_eq_true rfl) dX9_toldOfPerson_6 ⟨Nat.zero_le _, Nat.zero_le _⟩ (fun H locs hw => ?_)
  have hw : PW D A s.heap [pX9 cy o0 q0 σ0] H locs := hw
  obtain ⟨v_2, e_v_2, hf⟩ := ob hf
  have hJ_v_2 : ∀ (H : Heap) (locs : List Loc), PW D A s.heap [pX9 cy o0 q0 σ0] H locs → W p l e rmX9_toldOfPerson s m args below meth c H locs 0 0 Q (F0 m 28 ls [.int v_2]) := by
    intro H locs hw
    cases hf
    exact w_iret S hr hlk hA hQ hw dX9_toldOfPerson_28
  replace hf := e_v_2
  clear e_v_2
  refine lv_if_eq (tgt := 26) S.1 S.2.1 dX9_toldOfPerson_9 (by decide) (fun c_3 => ?_) (fun c_3 => ?_)
  · replace hf := (if_pos c_3).symm.trans hf
    refine lv_bipush (v := (-2)) S.1 S.2.1 dX9_toldOfPerson_26 (by decide) ?_
    cases hf
    exact hJ_v_2 _ _ hw
  · replace hf := (if_neg c_3).symm.trans hf
    refine lv_aload_n S.1 S.2.1 dX9_toldOfPerson_12 rfl (lv_at hl 1 rfl) ?_
    refine lv_iload_n S.1 S.2.1 dX9_toldOfPerson_13 rfl (lv_at hl 0 rfl) ?_
    refine lv_iload_n S.1 S.2.1 dX9_toldOfPerson_14 rfl (lv_at hl 2 rfl) ?_
    refine lv_bipush (v := 10) S.1 S.2.1 dX9_toldOfPerson_15 (by decide) ?_
    refine lv_idiv S.1 S.2.1 dX9_toldOfPerson_17 (by decide) ?_
    refine lv_iconst (v := 1) S.1 S.2.1 dX9_toldOfPerson_18 (by decide) ?_
    refine lv_isub S.1 S.2.1 dX9_toldOfPerson_19 ?_
    obtain ⟨u_4, e_u_4, hf⟩ := ob hf
    refine k_X9_ofPerson S (S.2.2.2.2.wd wd991 rfl) hw e_u_4 [0] rfl (by decide) rfl ⟨rfl, rfl, Nat.le_of_ble_eq_true rfl, Nat.le_of_ble_eq_true rfl⟩ hl.1 (Nat.le_of_ble_eq_true rfl) dX9_toldOfPerson_20 ⟨Nat.zero_le _, Nat.zero_le _⟩ (fun H locs hw => ?_)
    have hw : PW D A s.heap [pX9 cy o0 q0 σ0] H locs := hw
    refine lv_goto (tgt := 28) S.1 S.2.1 dX9_toldOfPerson_23 (by decide) ?_
    cases hf
    exact hJ_v_2 _ _ hw
section
variable {p : Program} {l : Launch} {e : Env} {R : Room} {s : State} {m : MethodId} {args : Array Value} {below : List Frame} {meth : Method} {c : Code} {H : Heap} {locs : List Loc} {cells slots : Nat} {Q : State → Prop} {cc : ByteArray} {pc nL : Nat} {ls : Array Slot} {rest : List Value} {D : va_G} {cy : Nat → ClassId} {A : Nat → Prop} {H0 : Heap} {own : String} {Ps : List va_W}
set_option maxRecDepth 100000 in
theorem k_X9_toldOfPerson {o0 : Nat} {q0 : Nat → Nat} {x1 : Int32} {σ0 : pStt} {u : Int32} {index : Nat} (S : CX p m c cc nL s args own D cy) (hl : (Cond.methodLink own index yX9_toldOfPerson).before args s = true) (hw : PW D A H0 Ps H locs) (hf : f_X9_toldOfPerson x1 σ0 = some u) (js : List Nat) (hC : js.map (fun j => Ps[j]?) = [some (pX9 cy o0 q0 σ0)]) (hnd : js.Nodup) (hlen : js.length = 1) (hR : RMok rmX9_toldOfPerson R 3) (hsize : ls.size = nL) (hrest : (rest.map fun v => v.category).sum ≤ 8) (hdg : decode cc pc = .ok (.invokevirtual index, 3)) (hcs : cells ≤ R.cells ∧ slots ≤ R.slots)
    (kk : ∀ (H1 : Heap) (locs1 : List Loc), PW D A H0 (setAll Ps js [pX9 cy o0 q0 σ0]) H1 locs1 → W p l e R s m args below meth c H1 locs1 cells slots Q (F0 m (pc + 3) ls (.int u :: rest))) : W p l e R s m args below meth c H locs cells slots Q (F0 m pc ls (.int x1 :: .ref o0 :: rest)) :=
  w_callV (n := 1) (ov := (some (.int u))) (As := [.int x1]) (Cs := [pX9 cy o0 q0 σ0]) (Cs' := [pX9 cy o0 q0 σ0]) S hw (c_X9_toldOfPerson l D cy o0 q0 x1 σ0 u hf) (MF.of S.2.2.2.2 wd1171 wd79 (by decide)) (S.2.2.2.2.wd wd1170 rfl) (S.2.2.2.2.wd wd66 rfl) hl hR js hC hnd hlen rfl rfl rfl rfl hsize rfl hrest hdg hcs kk
end
abbrev rmX9_toldOfOther : Room := { frames := 2, cells := 0, slots := 0, locals := 46 }
def f_X9_toldOfOther (x1 : Int32) (σ0 : pStt) : Option (Int32) := (f_X9_isThing ((x1 - x1 / 10 * 10))).bind (fun u_1 => if u_1 = 0 then some ((-2)) else (if 50 ≤ x1 then if 60 ≤ x1 then (ld (σ0.2 0) 8 ((x1 - x1 / 10 * 10))).bind (fun x_6 => some x_6) else (f_X9_carrierOf ((x1 - x1 / 10 * 10)) σ0).bind (fun u_7 => some u_7) else (f_X9_cornerOf ((x1 - x1 / 10 * 10)) σ0).bind (fun u_8 => some u_8) : Option Int32).bind (fun v_3 => some v_3))
set_option maxHeartbeats 4000000 in
set_option maxRecDepth 100000 in
theorem c_X9_toldOfOther (l : Launch) (D : va_G) (cy : Nat → ClassId) (o0 : Nat) (q0 : Nat → Nat) (x1 : Int32) (σ0 : pStt) (u : Int32) (hf : f_X9_toldOfOther x1 σ0 = some u) : CT l yX9_toldOfOther cX9_toldOfOther 3 (some .int) rmX9_toldOfOther D cy [.ref o0, .int x1] [pX9 cy o0 q0 σ0] (some (.int u)) [pX9 cy o0 q0 σ0] := by
  refine CT.of (by decide) (Nat.le_of_ble_eq_true rfl) (fun p e s m args below meth c ls A Q hA hQ S hr hlk hl hw => ?_)
  have hl : lv_has ls 3 [(0, .ref o0), (1, .int x1)] := hl
  rw [f_X9_toldOfOther] at hf
  refine lv_iload_n S.1 S.2.1 dX9_toldOfOther_0 rfl (lv_at hl 1 rfl) ?_
  refine lv_bipush (v := 10) S.1 S.2.1 dX9_toldOfOther_1 (by decide) ?_
  refine lv_irem S.1 S.2.1 dX9_toldOfOther_3 (by decide) ?_
  refine lv_istore_n (lv' := [(2, .int ((x1 - x1 / 10 * 10))), (0, .ref o0), (1, .int x1)]) S.1 S.2.1 dX9_toldOfOther_4 rfl hl (by decide) rfl (fun ls hl => ?_)
  refine lv_iload_n S.1 S.2.1 dX9_toldOfOther_5 rfl (lv_at hl 0 rfl) ?_
  obtain ⟨u_1, e_u_1, hf⟩ := ob hf
  refine k_X9_isThing S (S.2.2.2.2.wd wd836 rfl) hw e_u_1 [] rfl (by decide) rfl ⟨rfl, rfl, Nat.le_of_ble_eq_true rfl, Nat.le_of_ble_eq_true rfl⟩ hl.1 (Nat.le_of_ble_eq_true rfl) dX9_toldOfOther_6 ⟨Nat.zero_le _, Nat.zero_le _⟩ (fun H locs hw => ?_)
  have hw : PW D A s.heap [pX9 cy o0 q0 σ0] H locs := hw
  refine lv_if_ne (tgt := 15) S.1 S.2.1 dX9_toldOfOther_9 (by decide) (fun c_2 => ?_) (fun c_2 => ?_)
  · replace hf := (if_neg c_2).symm.trans hf
    refine lv_iload_n S.1 S.2.1 dX9_toldOfOther_15 rfl (lv_at hl 2 rfl) ?_
    refine lv_bipush (v := 50) S.1 S.2.1 dX9_toldOfOther_16 (by decide) ?_
    obtain ⟨v_3, e_v_3, hf⟩ := ob hf
    have hJ_v_3 : ∀ (H : Heap) (locs : List Loc), PW D A s.heap [pX9 cy o0 q0 σ0] H locs → W p l e rmX9_toldOfOther s m args below meth c H locs 0 0 Q (F0 m 49 ls [.int v_3]) := by
      intro H locs hw
      cases hf
      exact w_iret S hr hlk hA hQ hw dX9_toldOfOther_49
    replace hf := e_v_3
    clear e_v_3
    refine lv_icmp_ge (tgt := 29) S.1 S.2.1 dX9_toldOfOther_18 (by decide) (fun c_4 => ?_) (fun c_4 => ?_)
    · replace hf := (if_pos c_4).symm.trans hf
      refine lv_iload_n S.1 S.2.1 dX9_toldOfOther_29 rfl (lv_at hl 2 rfl) ?_
      refine lv_bipush (v := 60) S.1 S.2.1 dX9_toldOfOther_30 (by decide) ?_
      refine lv_icmp_ge (tgt := 43) S.1 S.2.1 dX9_toldOfOther_32 (by decide) (fun c_5 => ?_) (fun c_5 => ?_)
      · replace hf := (if_pos c_5).symm.trans hf
        refine lv_aload_n S.1 S.2.1 dX9_toldOfOther_43 rfl (lv_at hl 1 rfl) ?_
        refine gf_X9_7 S hw 0 rfl dX9_toldOfOther_44 ?_
        refine lv_iload_n S.1 S.2.1 dX9_toldOfOther_47 rfl (lv_at hl 0 rfl) ?_
        obtain ⟨x_6, e_x_6, hf⟩ := ob hf
        refine al_X9_0 S hw 0 rfl e_x_6 dX9_toldOfOther_48 ?_
        cases hf
        exact hJ_v_3 _ _ hw
      · replace hf := (if_neg c_5).symm.trans hf
        refine lv_aload_n S.1 S.2.1 dX9_toldOfOther_35 rfl (lv_at hl 1 rfl) ?_
        refine lv_iload_n S.1 S.2.1 dX9_toldOfOther_36 rfl (lv_at hl 0 rfl) ?_
        obtain ⟨u_7, e_u_7, hf⟩ := ob hf
        refine k_X9_carrierOf S (S.2.2.2.2.wd wd857 rfl) hw e_u_7 [0] rfl (by decide) rfl ⟨rfl, rfl, Nat.le_of_ble_eq_true rfl, Nat.le_of_ble_eq_true rfl⟩ hl.1 (Nat.le_of_ble_eq_true rfl) dX9_toldOfOther_37 ⟨Nat.zero_le _, Nat.zero_le _⟩ (fun H locs hw => ?_)
        have hw : PW D A s.heap [pX9 cy o0 q0 σ0] H locs := hw
        refine lv_goto (tgt := 49) S.1 S.2.1 dX9_toldOfOther_40 (by decide) ?_
        cases hf
        exact hJ_v_3 _ _ hw
    · replace hf := (if_neg c_4).symm.trans hf
      refine lv_aload_n S.1 S.2.1 dX9_toldOfOther_21 rfl (lv_at hl 1 rfl) ?_
      refine lv_iload_n S.1 S.2.1 dX9_toldOfOther_22 rfl (lv_at hl 0 rfl) ?_
      obtain ⟨u_8, e_u_8, hf⟩ := ob hf
      refine k_X9_cornerOf S (S.2.2.2.2.wd wd840 rfl) hw e_u_8 [0] rfl (by decide) rfl ⟨rfl, rfl, Nat.le_of_ble_eq_true rfl, Nat.le_of_ble_eq_true rfl⟩ hl.1 (Nat.le_of_ble_eq_true rfl) dX9_toldOfOther_23 ⟨Nat.zero_le _, Nat.zero_le _⟩ (fun H locs hw => ?_)
      have hw : PW D A s.heap [pX9 cy o0 q0 σ0] H locs := hw
      refine lv_goto (tgt := 49) S.1 S.2.1 dX9_toldOfOther_26 (by decide) ?_
      cases hf
      exact hJ_v_3 _ _ hw
  · replace hf := (if_pos c_2).symm.trans hf
    refine lv_bipush (v := (-2)) S.1 S.2.1 dX9_toldOfOther_12 (by decide) ?_
    cases hf
    exact w_iret S hr hlk hA hQ hw dX9_toldOfOther_14
section
variable {p : Program} {l : Launch} {e : Env} {R : Room} {s : State} {m : MethodId} {args : Array Value} {below : List Frame} {meth : Method} {c : Code} {H : Heap} {locs : List Loc} {cells slots : Nat} {Q : State → Prop} {cc : ByteArray} {pc nL : Nat} {ls : Array Slot} {rest : List Value} {D : va_G} {cy : Nat → ClassId} {A : Nat → Prop} {H0 : Heap} {own : String} {Ps : List va_W}
set_option maxRecDepth 100000 in
theorem k_X9_toldOfOther {o0 : Nat} {q0 : Nat → Nat} {x1 : Int32} {σ0 : pStt} {u : Int32} {index : Nat} (S : CX p m c cc nL s args own D cy) (hl : (Cond.methodLink own index yX9_toldOfOther).before args s = true) (hw : PW D A H0 Ps H locs) (hf : f_X9_toldOfOther x1 σ0 = some u) (js : List Nat) (hC : js.map (fun j => Ps[j]?) = [some (pX9 cy o0 q0 σ0)]) (hnd : js.Nodup) (hlen : js.length = 1) (hR : RMok rmX9_toldOfOther R 3) (hsize : ls.size = nL) (hrest : (rest.map fun v => v.category).sum ≤ 8) (hdg : decode cc pc = .ok (.invokevirtual index, 3)) (hcs : cells ≤ R.cells ∧ slots ≤ R.slots)
    (kk : ∀ (H1 : Heap) (locs1 : List Loc), PW D A H0 (setAll Ps js [pX9 cy o0 q0 σ0]) H1 locs1 → W p l e R s m args below meth c H1 locs1 cells slots Q (F0 m (pc + 3) ls (.int u :: rest))) : W p l e R s m args below meth c H locs cells slots Q (F0 m pc ls (.int x1 :: .ref o0 :: rest)) :=
  w_callV (n := 1) (ov := (some (.int u))) (As := [.int x1]) (Cs := [pX9 cy o0 q0 σ0]) (Cs' := [pX9 cy o0 q0 σ0]) S hw (c_X9_toldOfOther l D cy o0 q0 x1 σ0 u hf) (MF.of S.2.2.2.2 wd1177 wd79 (by decide)) (S.2.2.2.2.wd wd1176 rfl) (S.2.2.2.2.wd wd67 rfl) hl hR js hC hnd hlen rfl rfl rfl rfl hsize rfl hrest hdg hcs kk
end
abbrev rmX9_toldOfAll : Room := { frames := 2, cells := 0, slots := 0, locals := 44 }
def f_X9_toldOfAll (x1 : Int32) (σ0 : pStt) : Option (Int32) := if x1 = 0 then some ((σ0.1 4)) else if x1 = 1 then (f_X9_waysAll σ0).bind (fun u_3 => some u_3) else if x1 = 2 then some ((σ0.1 0)) else if x1 = 3 then some ((σ0.1 1)) else if x1 = 4 then some ((σ0.1 2)) else if x1 = 5 then some ((σ0.1 3)) else some ((-2))
set_option maxHeartbeats 4000000 in
set_option maxRecDepth 100000 in
theorem c_X9_toldOfAll (l : Launch) (D : va_G) (cy : Nat → ClassId) (o0 : Nat) (q0 : Nat → Nat) (x1 : Int32) (σ0 : pStt) (u : Int32) (hf : f_X9_toldOfAll x1 σ0 = some u) : CT l yX9_toldOfAll cX9_toldOfAll 2 (some .int) rmX9_toldOfAll D cy [.ref o0, .int x1] [pX9 cy o0 q0 σ0] (some (.int u)) [pX9 cy o0 q0 σ0] := by
  refine CT.of (by decide) (Nat.le_of_ble_eq_true rfl) (fun p e s m args below meth c ls A Q hA hQ S hr hlk hl hw => ?_)
  have hl : lv_has ls 2 [(0, .ref o0), (1, .int x1)] := hl
  rw [f_X9_toldOfAll] at hf
  refine lv_iload_n S.1 S.2.1 dX9_toldOfAll_0 rfl (lv_at hl 1 rfl) ?_
  by_cases c_1 : x1 = 0
  · replace hf := (if_pos c_1).symm.trans hf
    refine lv_tableIn (off := 39) (tgt := 40) S.1 S.2.1 dX9_toldOfAll_1 (by rw [c_1]; decide) (by rw [c_1]; decide) (by rw [c_1]; rfl) (by decide) ?_
    refine lv_aload_n S.1 S.2.1 dX9_toldOfAll_40 rfl (lv_at hl 0 rfl) ?_
    refine gf_X9_126 S hw 0 rfl dX9_toldOfAll_41 ?_
    cases hf
    exact w_iret S hr hlk hA hQ hw dX9_toldOfAll_44
  · replace hf := (if_neg c_1).symm.trans hf
    by_cases c_2 : x1 = 1
    · replace hf := (if_pos c_2).symm.trans hf
      refine lv_tableIn (off := 44) (tgt := 45) S.1 S.2.1 dX9_toldOfAll_1 (by rw [c_2]; decide) (by rw [c_2]; decide) (by rw [c_2]; rfl) (by decide) ?_
      refine lv_aload_n S.1 S.2.1 dX9_toldOfAll_45 rfl (lv_at hl 0 rfl) ?_
      obtain ⟨u_3, e_u_3, hf⟩ := ob hf
      refine k_X9_waysAll S (S.2.2.2.2.wd wd825 rfl) hw e_u_3 [0] rfl (by decide) rfl ⟨rfl, rfl, Nat.le_of_ble_eq_true rfl, Nat.le_of_ble_eq_true rfl⟩ hl.1 (Nat.le_of_ble_eq_true rfl) dX9_toldOfAll_46 ⟨Nat.zero_le _, Nat.zero_le _⟩ (fun H locs hw => ?_)
      have hw : PW D A s.heap [pX9 cy o0 q0 σ0] H locs := hw
      cases hf
      exact w_iret S hr hlk hA hQ hw dX9_toldOfAll_49
    · replace hf := (if_neg c_2).symm.trans hf
      by_cases c_4 : x1 = 2
      · replace hf := (if_pos c_4).symm.trans hf
        refine lv_tableIn (off := 49) (tgt := 50) S.1 S.2.1 dX9_toldOfAll_1 (by rw [c_4]; decide) (by rw [c_4]; decide) (by rw [c_4]; rfl) (by decide) ?_
        refine lv_aload_n S.1 S.2.1 dX9_toldOfAll_50 rfl (lv_at hl 0 rfl) ?_
        refine gf_X9_74 S hw 0 rfl dX9_toldOfAll_51 ?_
        cases hf
        exact w_iret S hr hlk hA hQ hw dX9_toldOfAll_54
      · replace hf := (if_neg c_4).symm.trans hf
        by_cases c_5 : x1 = 3
        · replace hf := (if_pos c_5).symm.trans hf
          refine lv_tableIn (off := 54) (tgt := 55) S.1 S.2.1 dX9_toldOfAll_1 (by rw [c_5]; decide) (by rw [c_5]; decide) (by rw [c_5]; rfl) (by decide) ?_
          refine lv_aload_n S.1 S.2.1 dX9_toldOfAll_55 rfl (lv_at hl 0 rfl) ?_
          refine gf_X9_174 S hw 0 rfl dX9_toldOfAll_56 ?_
          cases hf
          exact w_iret S hr hlk hA hQ hw dX9_toldOfAll_59
        · replace hf := (if_neg c_5).symm.trans hf
          by_cases c_6 : x1 = 4
          · replace hf := (if_pos c_6).symm.trans hf
            refine lv_tableIn (off := 59) (tgt := 60) S.1 S.2.1 dX9_toldOfAll_1 (by rw [c_6]; decide) (by rw [c_6]; decide) (by rw [c_6]; rfl) (by decide) ?_
            refine lv_aload_n S.1 S.2.1 dX9_toldOfAll_60 rfl (lv_at hl 0 rfl) ?_
            refine gf_X9_281 S hw 0 rfl dX9_toldOfAll_61 ?_
            cases hf
            exact w_iret S hr hlk hA hQ hw dX9_toldOfAll_64
          · replace hf := (if_neg c_6).symm.trans hf
            by_cases c_7 : x1 = 5
            · replace hf := (if_pos c_7).symm.trans hf
              refine lv_tableIn (off := 64) (tgt := 65) S.1 S.2.1 dX9_toldOfAll_1 (by rw [c_7]; decide) (by rw [c_7]; decide) (by rw [c_7]; rfl) (by decide) ?_
              refine lv_aload_n S.1 S.2.1 dX9_toldOfAll_65 rfl (lv_at hl 0 rfl) ?_
              refine gf_X9_296 S hw 0 rfl dX9_toldOfAll_66 ?_
              cases hf
              exact w_iret S hr hlk hA hQ hw dX9_toldOfAll_69
            · replace hf := (if_neg c_7).symm.trans hf
              have t_c_1 := ne_toInt (k := 0) c_1 (by decide)
              have t_c_2 := ne_toInt (k := 1) c_2 (by decide)
              have t_c_4 := ne_toInt (k := 2) c_4 (by decide)
              have t_c_5 := ne_toInt (k := 3) c_5 (by decide)
              have t_c_6 := ne_toInt (k := 4) c_6 (by decide)
              have t_c_7 := ne_toInt (k := 5) c_7 (by decide)
              refine lv_tableOut (tgt := 70) S.1 S.2.1 dX9_toldOfAll_1 (by omega) (by decide) ?_
              refine lv_bipush (v := (-2)) S.1 S.2.1 dX9_toldOfAll_70 (by decide) ?_
              cases hf
              exact w_iret S hr hlk hA hQ hw dX9_toldOfAll_72
section
variable {p : Program} {l : Launch} {e : Env} {R : Room} {s : State} {m : MethodId} {args : Array Value} {below : List Frame} {meth : Method} {c : Code} {H : Heap} {locs : List Loc} {cells slots : Nat} {Q : State → Prop} {cc : ByteArray} {pc nL : Nat} {ls : Array Slot} {rest : List Value} {D : va_G} {cy : Nat → ClassId} {A : Nat → Prop} {H0 : Heap} {own : String} {Ps : List va_W}
set_option maxRecDepth 100000 in
theorem k_X9_toldOfAll {o0 : Nat} {q0 : Nat → Nat} {x1 : Int32} {σ0 : pStt} {u : Int32} {index : Nat} (S : CX p m c cc nL s args own D cy) (hl : (Cond.methodLink own index yX9_toldOfAll).before args s = true) (hw : PW D A H0 Ps H locs) (hf : f_X9_toldOfAll x1 σ0 = some u) (js : List Nat) (hC : js.map (fun j => Ps[j]?) = [some (pX9 cy o0 q0 σ0)]) (hnd : js.Nodup) (hlen : js.length = 1) (hR : RMok rmX9_toldOfAll R 2) (hsize : ls.size = nL) (hrest : (rest.map fun v => v.category).sum ≤ 8) (hdg : decode cc pc = .ok (.invokevirtual index, 3)) (hcs : cells ≤ R.cells ∧ slots ≤ R.slots)
    (kk : ∀ (H1 : Heap) (locs1 : List Loc), PW D A H0 (setAll Ps js [pX9 cy o0 q0 σ0]) H1 locs1 → W p l e R s m args below meth c H1 locs1 cells slots Q (F0 m (pc + 3) ls (.int u :: rest))) : W p l e R s m args below meth c H locs cells slots Q (F0 m pc ls (.int x1 :: .ref o0 :: rest)) :=
  w_callV (n := 1) (ov := (some (.int u))) (As := [.int x1]) (Cs := [pX9 cy o0 q0 σ0]) (Cs' := [pX9 cy o0 q0 σ0]) S hw (c_X9_toldOfAll l D cy o0 q0 x1 σ0 u hf) (MF.of S.2.2.2.2 wd1181 wd79 (by decide)) (S.2.2.2.2.wd wd1180 rfl) (S.2.2.2.2.wd wd68 rfl) hl hR js hC hnd hlen rfl rfl rfl rfl hsize rfl hrest hdg hcs kk
end
abbrev rmX9_told : Room := { frames := 4, cells := 0, slots := 0, locals := 88 }
def f_X9_told (x1 : Int32) (σ0 : pStt) : Option (Int32) := (f_X9_in ((x1 : Int32).toInt64) 10 39).bind (fun u_1 => if u_1 = 0 then (f_X9_in ((x1 : Int32).toInt64) 40 69).bind (fun u_3 => (if u_3 = 0 then (f_X9_toldOfAll x1 σ0).bind (fun u_6 => some u_6) else (f_X9_toldOfOther x1 σ0).bind (fun u_7 => some u_7) : Option Int32).bind (fun v_4 => some v_4)) else (f_X9_toldOfPerson x1 σ0).bind (fun u_8 => some u_8))
set_option maxHeartbeats 4000000 in
set_option maxRecDepth 100000 in
theorem c_X9_told (l : Launch) (D : va_G) (cy : Nat → ClassId) (o0 : Nat) (q0 : Nat → Nat) (x1 : Int32) (σ0 : pStt) (u : Int32) (hf : f_X9_told x1 σ0 = some u) : CT l yX9_told cX9_told 2 (some .int) rmX9_told D cy [.ref o0, .int x1] [pX9 cy o0 q0 σ0] (some (.int u)) [pX9 cy o0 q0 σ0] := by
  refine CT.of (by decide) (Nat.le_of_ble_eq_true rfl) (fun p e s m args below meth c ls A Q hA hQ S hr hlk hl hw => ?_)
  have hl : lv_has ls 2 [(0, .ref o0), (1, .int x1)] := hl
  rw [f_X9_told] at hf
  refine lv_iload_n S.1 S.2.1 dX9_told_0 rfl (lv_at hl 1 rfl) ?_
  refine lv_i2l (v := (x1 : Int32).toInt64) S.1 S.2.1 dX9_told_1 rfl ?_
  refine lv_ldc2 (v := 10) S.1 S.2.1 S.2.2.2.1 (S.2.2.2.2.wd wd1111 rfl) dX9_told_2 ?_
  refine lv_ldc2 (v := 39) S.1 S.2.1 S.2.2.2.1 (S.2.2.2.2.wd wd1167 rfl) dX9_told_5 ?_
  obtain ⟨u_1, e_u_1, hf⟩ := ob hf
  refine k_X9_in S (S.2.2.2.2.wd wd818 rfl) hw e_u_1 [] rfl (by decide) rfl ⟨rfl, rfl, Nat.le_of_ble_eq_true rfl, Nat.le_of_ble_eq_true rfl⟩ hl.1 (Nat.le_of_ble_eq_true rfl) dX9_told_8 ⟨Nat.zero_le _, Nat.zero_le _⟩ (fun H locs hw => ?_)
  have hw : PW D A s.heap [pX9 cy o0 q0 σ0] H locs := hw
  refine lv_if_eq (tgt := 20) S.1 S.2.1 dX9_told_11 (by decide) (fun c_2 => ?_) (fun c_2 => ?_)
  · replace hf := (if_pos c_2).symm.trans hf
    refine lv_iload_n S.1 S.2.1 dX9_told_20 rfl (lv_at hl 1 rfl) ?_
    refine lv_i2l (v := (x1 : Int32).toInt64) S.1 S.2.1 dX9_told_21 rfl ?_
    refine lv_ldc2 (v := 40) S.1 S.2.1 S.2.2.2.1 (S.2.2.2.2.wd wd1172 rfl) dX9_told_22 ?_
    refine lv_ldc2 (v := 69) S.1 S.2.1 S.2.2.2.1 (S.2.2.2.2.wd wd1173 rfl) dX9_told_25 ?_
    obtain ⟨u_3, e_u_3, hf⟩ := ob hf
    refine k_X9_in S (S.2.2.2.2.wd wd818 rfl) hw e_u_3 [] rfl (by decide) rfl ⟨rfl, rfl, Nat.le_of_ble_eq_true rfl, Nat.le_of_ble_eq_true rfl⟩ hl.1 (Nat.le_of_ble_eq_true rfl) dX9_told_28 ⟨Nat.zero_le _, Nat.zero_le _⟩ (fun H locs hw => ?_)
    have hw : PW D A s.heap [pX9 cy o0 q0 σ0] H locs := hw
    obtain ⟨v_4, e_v_4, hf⟩ := ob hf
    have hJ_v_4 : ∀ (H : Heap) (locs : List Loc), PW D A s.heap [pX9 cy o0 q0 σ0] H locs → W p l e rmX9_told s m args below meth c H locs 0 0 Q (F0 m 47 ls [.int v_4]) := by
      intro H locs hw
      cases hf
      exact w_iret S hr hlk hA hQ hw dX9_told_47
    replace hf := e_v_4
    clear e_v_4
    refine lv_if_eq (tgt := 42) S.1 S.2.1 dX9_told_31 (by decide) (fun c_5 => ?_) (fun c_5 => ?_)
    · replace hf := (if_pos c_5).symm.trans hf
      refine lv_aload_n S.1 S.2.1 dX9_told_42 rfl (lv_at hl 0 rfl) ?_
      refine lv_iload_n S.1 S.2.1 dX9_told_43 rfl (lv_at hl 1 rfl) ?_
      obtain ⟨u_6, e_u_6, hf⟩ := ob hf
      refine k_X9_toldOfAll S (S.2.2.2.2.wd wd1178 rfl) hw e_u_6 [0] rfl (by decide) rfl ⟨rfl, rfl, Nat.le_of_ble_eq_true rfl, Nat.le_of_ble_eq_true rfl⟩ hl.1 (Nat.le_of_ble_eq_true rfl) dX9_told_44 ⟨Nat.zero_le _, Nat.zero_le _⟩ (fun H locs hw => ?_)
      have hw : PW D A s.heap [pX9 cy o0 q0 σ0] H locs := hw
      cases hf
      exact hJ_v_4 _ _ hw
    · replace hf := (if_neg c_5).symm.trans hf
      refine lv_aload_n S.1 S.2.1 dX9_told_34 rfl (lv_at hl 0 rfl) ?_
      refine lv_iload_n S.1 S.2.1 dX9_told_35 rfl (lv_at hl 1 rfl) ?_
      obtain ⟨u_7, e_u_7, hf⟩ := ob hf
      refine k_X9_toldOfOther S (S.2.2.2.2.wd wd1174 rfl) hw e_u_7 [0] rfl (by decide) rfl ⟨rfl, rfl, Nat.le_of_ble_eq_true rfl, Nat.le_of_ble_eq_true rfl⟩ hl.1 (Nat.le_of_ble_eq_true rfl) dX9_told_36 ⟨Nat.zero_le _, Nat.zero_le _⟩ (fun H locs hw => ?_)
      have hw : PW D A s.heap [pX9 cy o0 q0 σ0] H locs := hw
      refine lv_goto (tgt := 47) S.1 S.2.1 dX9_told_39 (by decide) ?_
      cases hf
      exact hJ_v_4 _ _ hw
  · replace hf := (if_neg c_2).symm.trans hf
    refine lv_aload_n S.1 S.2.1 dX9_told_14 rfl (lv_at hl 0 rfl) ?_
    refine lv_iload_n S.1 S.2.1 dX9_told_15 rfl (lv_at hl 1 rfl) ?_
    obtain ⟨u_8, e_u_8, hf⟩ := ob hf
    refine k_X9_toldOfPerson S (S.2.2.2.2.wd wd1168 rfl) hw e_u_8 [0] rfl (by decide) rfl ⟨rfl, rfl, Nat.le_of_ble_eq_true rfl, Nat.le_of_ble_eq_true rfl⟩ hl.1 (Nat.le_of_ble_eq_true rfl) dX9_told_16 ⟨Nat.zero_le _, Nat.zero_le _⟩ (fun H locs hw => ?_)
    have hw : PW D A s.heap [pX9 cy o0 q0 σ0] H locs := hw
    cases hf
    exact w_iret S hr hlk hA hQ hw dX9_told_19
section
variable {p : Program} {l : Launch} {e : Env} {R : Room} {s : State} {m : MethodId} {args : Array Value} {below : List Frame} {meth : Method} {c : Code} {H : Heap} {locs : List Loc} {cells slots : Nat} {Q : State → Prop} {cc : ByteArray} {pc nL : Nat} {ls : Array Slot} {rest : List Value} {D : va_G} {cy : Nat → ClassId} {A : Nat → Prop} {H0 : Heap} {own : String} {Ps : List va_W}
set_option maxRecDepth 100000 in
theorem k_X9_told {o0 : Nat} {q0 : Nat → Nat} {x1 : Int32} {σ0 : pStt} {u : Int32} {index : Nat} (S : CX p m c cc nL s args own D cy) (hl : (Cond.methodLink own index yX9_told).before args s = true) (hw : PW D A H0 Ps H locs) (hf : f_X9_told x1 σ0 = some u) (js : List Nat) (hC : js.map (fun j => Ps[j]?) = [some (pX9 cy o0 q0 σ0)]) (hnd : js.Nodup) (hlen : js.length = 1) (hR : RMok rmX9_told R 2) (hsize : ls.size = nL) (hrest : (rest.map fun v => v.category).sum ≤ 8) (hdg : decode cc pc = .ok (.invokevirtual index, 3)) (hcs : cells ≤ R.cells ∧ slots ≤ R.slots)
    (kk : ∀ (H1 : Heap) (locs1 : List Loc), PW D A H0 (setAll Ps js [pX9 cy o0 q0 σ0]) H1 locs1 → W p l e R s m args below meth c H1 locs1 cells slots Q (F0 m (pc + 3) ls (.int u :: rest))) : W p l e R s m args below meth c H locs cells slots Q (F0 m pc ls (.int x1 :: .ref o0 :: rest)) :=
  w_callV (n := 1) (ov := (some (.int u))) (As := [.int x1]) (Cs := [pX9 cy o0 q0 σ0]) (Cs' := [pX9 cy o0 q0 σ0]) S hw (c_X9_told l D cy o0 q0 x1 σ0 u hf) (MF.of S.2.2.2.2 wd1166 wd79 (by decide)) (S.2.2.2.2.wd wd1164 rfl) (S.2.2.2.2.wd wd1165 rfl) hl hR js hC hnd hlen rfl rfl rfl rfl hsize rfl hrest hdg hcs kk
end
