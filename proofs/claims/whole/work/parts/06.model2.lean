abbrev rmX9_whoIsThere : Room := { frames := 0, cells := 0, slots := 0, locals := 0 }
def fl_X9_whoIsThere_4  (σ0 : pStt) : Nat → Int32 → Int32 → Option (Int32)
  | 0, _, _ => none
  | n + 1, y1, y2 => if 6 ≤ y2 then some y1 else (ld (σ0.2 2) 6 y2).bind (fun x_2 => (if x_2 < 0 then some 0 else some (((1 : Int32) <<< (y2 &&& 31))) : Option Int32).bind (fun v_3 => fl_X9_whoIsThere_4 σ0 n ((y1 ||| v_3)) ((y2 + 1))))
def f_X9_whoIsThere (σ0 : pStt) : Option (Int32) := (fl_X9_whoIsThere_4 σ0 2000 0 0).bind (fun u_5 => some u_5)
section
variable {p : Program} {l : Launch} {e : Env} {s : State} {m : MethodId} {args : Array Value} {below : List Frame} {meth : Method} {c : Code} {Q : State → Prop} {D : va_G} {cy : Nat → ClassId} {A : Nat → Prop} {H0 : Heap}
set_option maxHeartbeats 4000000 in
set_option maxRecDepth 100000 in
theorem lp_X9_whoIsThere_4 (S : CX p m c cX9_whoIsThere 3 s args RX9 D cy) {o0 : Nat} {q0 : Nat → Nat} {σ0 : pStt}  : ∀ (n : Nat) (y1 : Int32) (y2 : Int32) (H : Heap) (locs : List Loc) (ls : Array Slot) (u : Int32), PW D A H0 [pX9 cy o0 q0 σ0] H locs → lv_has ls 3 [(0, .ref o0), (1, .int y1), (2, .int y2)] → fl_X9_whoIsThere_4 σ0 n y1 y2 = some u → (∀ (H : Heap) (locs : List Loc) (ls : Array Slot), PW D A H0 [pX9 cy o0 q0 σ0] H locs → lv_has ls 3 [(1, .int u)] → W p l e rmX9_whoIsThere s m args below meth c H locs 0 0 Q (F0 m 35 ls [])) → W p l e rmX9_whoIsThere s m args below meth c H locs 0 0 Q (F0 m 4 ls []) := by
  intro n
  induction n with
  | zero =>
    intro y1 y2 H locs ls u hw hl hf K0
    rw [fl_X9_whoIsThere_4] at hf
    cases hf
  | succ n ih =>
    intro y1 y2 H locs ls u hw hl hf K0
    rw [fl_X9_whoIsThere_4] at hf
    refine lv_iload_n S.1 S.2.1 dX9_whoIsThere_4 rfl (lv_at hl 2 rfl) ?_
    refine lv_bipush (v := 6) S.1 S.2.1 dX9_whoIsThere_5 (by decide) ?_
    refine lv_icmp_ge (tgt := 35) S.1 S.2.1 dX9_whoIsThere_7 (by decide) (fun c_1 => ?_) (fun c_1 => ?_)
    · replace hf := (if_pos c_1).symm.trans hf
      cases hf
      exact K0 _ _ _ hw (lv_sub hl [1] rfl)
    · replace hf := (if_neg c_1).symm.trans hf
      refine lv_iload_n S.1 S.2.1 dX9_whoIsThere_10 rfl (lv_at hl 1 rfl) ?_
      refine lv_aload_n S.1 S.2.1 dX9_whoIsThere_11 rfl (lv_at hl 0 rfl) ?_
      refine gf_X9_16 S hw 0 rfl dX9_whoIsThere_12 ?_
      refine lv_iload_n S.1 S.2.1 dX9_whoIsThere_15 rfl (lv_at hl 2 rfl) ?_
      obtain ⟨x_2, e_x_2, hf⟩ := ob hf
      refine al_X9_2 S hw 0 rfl e_x_2 dX9_whoIsThere_16 ?_
      obtain ⟨v_3, e_v_3, hf⟩ := ob hf
      have hJ_v_3 : ∀ (H : Heap) (locs : List Loc), PW D A H0 [pX9 cy o0 q0 σ0] H locs → W p l e rmX9_whoIsThere s m args below meth c H locs 0 0 Q (F0 m 27 ls [.int v_3, .int y1]) := by
        intro H locs hw
        refine lv_ior S.1 S.2.1 dX9_whoIsThere_27 ?_
        refine lv_istore_n (lv' := [(1, .int ((y1 ||| v_3))), (0, .ref o0), (2, .int y2)]) S.1 S.2.1 dX9_whoIsThere_28 rfl hl (by decide) rfl (fun ls hl => ?_)
        refine lv_iinc (v := (y2 + 1)) (lv' := [(2, .int ((y2 + 1))), (1, .int ((y1 ||| v_3))), (0, .ref o0)]) S.1 S.2.1 dX9_whoIsThere_29 hl (k := 2) rfl rfl (by decide) rfl (fun ls hl => ?_)
        refine lv_goto (tgt := 4) S.1 S.2.1 dX9_whoIsThere_32 (by decide) ?_
        exact ih _ _ _ _ _ _ hw (lv_sub hl [2, 1, 0] rfl) hf K0
      replace hf := e_v_3
      clear e_v_3
      refine lv_if_lt (tgt := 26) S.1 S.2.1 dX9_whoIsThere_17 (by decide) (fun c_4 => ?_) (fun c_4 => ?_)
      · replace hf := (if_pos c_4).symm.trans hf
        refine lv_iconst (v := 0) S.1 S.2.1 dX9_whoIsThere_26 (by decide) ?_
        cases hf
        exact hJ_v_3 _ _ hw
      · replace hf := (if_neg c_4).symm.trans hf
        refine lv_iconst (v := 1) S.1 S.2.1 dX9_whoIsThere_20 (by decide) ?_
        refine lv_iload_n S.1 S.2.1 dX9_whoIsThere_21 rfl (lv_at hl 2 rfl) ?_
        refine lv_ishl S.1 S.2.1 dX9_whoIsThere_22 ?_
        refine lv_goto (tgt := 27) S.1 S.2.1 dX9_whoIsThere_23 (by decide) ?_
        cases hf
        exact hJ_v_3 _ _ hw
end
set_option maxHeartbeats 4000000 in
set_option maxRecDepth 100000 in
theorem c_X9_whoIsThere (l : Launch) (D : va_G) (cy : Nat → ClassId) (o0 : Nat) (q0 : Nat → Nat) (σ0 : pStt) (u : Int32) (hf : f_X9_whoIsThere σ0 = some u) : CT l yX9_whoIsThere cX9_whoIsThere 3 (some .int) rmX9_whoIsThere D cy [.ref o0] [pX9 cy o0 q0 σ0] (some (.int u)) [pX9 cy o0 q0 σ0] := by
  refine CT.of (by decide) (Nat.le_of_ble_eq_true rfl) (fun p e s m args below meth c ls A Q hA hQ S hr hlk hl hw => ?_)
  have hl : lv_has ls 3 [(0, .ref o0)] := hl
  rw [f_X9_whoIsThere] at hf
  refine lv_iconst (v := 0) S.1 S.2.1 dX9_whoIsThere_0 (by decide) ?_
  refine lv_istore_n (lv' := [(1, .int 0), (0, .ref o0)]) S.1 S.2.1 dX9_whoIsThere_1 rfl hl (by decide) rfl (fun ls hl => ?_)
  refine lv_iconst (v := 0) S.1 S.2.1 dX9_whoIsThere_2 (by decide) ?_
  refine lv_istore_n (lv' := [(2, .int 0), (1, .int 0), (0, .ref o0)]) S.1 S.2.1 dX9_whoIsThere_3 rfl hl (by decide) rfl (fun ls hl => ?_)
  obtain ⟨u_5, e_u_5, hf⟩ := ob hf
  refine lp_X9_whoIsThere_4 S 2000 _ _ _ _ _ _ hw (lv_sub hl [2, 1, 0] rfl) e_u_5 ?_
  · intro H locs ls hw hl
    refine lv_iload_n S.1 S.2.1 dX9_whoIsThere_35 rfl (lv_at hl 0 rfl) ?_
    cases hf
    exact w_iret S hr hlk hA hQ hw dX9_whoIsThere_36
section
variable {p : Program} {l : Launch} {e : Env} {R : Room} {s : State} {m : MethodId} {args : Array Value} {below : List Frame} {meth : Method} {c : Code} {H : Heap} {locs : List Loc} {cells slots : Nat} {Q : State → Prop} {cc : ByteArray} {pc nL : Nat} {ls : Array Slot} {rest : List Value} {D : va_G} {cy : Nat → ClassId} {A : Nat → Prop} {H0 : Heap} {own : String} {Ps : List va_W}
set_option maxRecDepth 100000 in
theorem k_X9_whoIsThere {o0 : Nat} {q0 : Nat → Nat}  {σ0 : pStt} {u : Int32} {index : Nat} (S : CX p m c cc nL s args own D cy) (hl : (Cond.methodLink own index yX9_whoIsThere).before args s = true) (hw : PW D A H0 Ps H locs) (hf : f_X9_whoIsThere σ0 = some u) (js : List Nat) (hC : js.map (fun j => Ps[j]?) = [some (pX9 cy o0 q0 σ0)]) (hnd : js.Nodup) (hlen : js.length = 1) (hR : RMok rmX9_whoIsThere R 3) (hsize : ls.size = nL) (hrest : (rest.map fun v => v.category).sum ≤ 8) (hdg : decode cc pc = .ok (.invokevirtual index, 3)) (hcs : cells ≤ R.cells ∧ slots ≤ R.slots)
    (kk : ∀ (H1 : Heap) (locs1 : List Loc), PW D A H0 (setAll Ps js [pX9 cy o0 q0 σ0]) H1 locs1 → W p l e R s m args below meth c H1 locs1 cells slots Q (F0 m (pc + 3) ls (.int u :: rest))) : W p l e R s m args below meth c H locs cells slots Q (F0 m pc ls (.ref o0 :: rest)) :=
  w_callV (n := 0) (ov := (some (.int u))) (As := []) (Cs := [pX9 cy o0 q0 σ0]) (Cs' := [pX9 cy o0 q0 σ0]) S hw (c_X9_whoIsThere l D cy o0 q0 σ0 u hf) (MF.of S.2.2.2.2 wd1015 wd79 (by decide)) (S.2.2.2.2.wd wd1014 rfl) (S.2.2.2.2.wd wd51 rfl) hl hR js hC hnd hlen rfl rfl rfl rfl hsize rfl hrest hdg hcs kk
end
abbrev rmX9_whoSits : Room := { frames := 0, cells := 0, slots := 0, locals := 0 }
def fl_X9_whoSits_4  (σ0 : pStt) : Nat → Int32 → Int32 → Option (Int32)
  | 0, _, _ => none
  | n + 1, y1, y2 => if 6 ≤ y2 then some y1 else (ld (σ0.2 4) 6 y2).bind (fun x_2 => fl_X9_whoSits_4 σ0 n ((y1 ||| (x_2 <<< (y2 &&& 31)))) ((y2 + 1)))
def f_X9_whoSits (σ0 : pStt) : Option (Int32) := (fl_X9_whoSits_4 σ0 2000 0 0).bind (fun u_3 => some u_3)
section
variable {p : Program} {l : Launch} {e : Env} {s : State} {m : MethodId} {args : Array Value} {below : List Frame} {meth : Method} {c : Code} {Q : State → Prop} {D : va_G} {cy : Nat → ClassId} {A : Nat → Prop} {H0 : Heap}
set_option maxHeartbeats 4000000 in
set_option maxRecDepth 100000 in
theorem lp_X9_whoSits_4 (S : CX p m c cX9_whoSits 3 s args RX9 D cy) {o0 : Nat} {q0 : Nat → Nat} {σ0 : pStt}  : ∀ (n : Nat) (y1 : Int32) (y2 : Int32) (H : Heap) (locs : List Loc) (ls : Array Slot) (u : Int32), PW D A H0 [pX9 cy o0 q0 σ0] H locs → lv_has ls 3 [(0, .ref o0), (1, .int y1), (2, .int y2)] → fl_X9_whoSits_4 σ0 n y1 y2 = some u → (∀ (H : Heap) (locs : List Loc) (ls : Array Slot), PW D A H0 [pX9 cy o0 q0 σ0] H locs → lv_has ls 3 [(1, .int u)] → W p l e rmX9_whoSits s m args below meth c H locs 0 0 Q (F0 m 27 ls [])) → W p l e rmX9_whoSits s m args below meth c H locs 0 0 Q (F0 m 4 ls []) := by
  intro n
  induction n with
  | zero =>
    intro y1 y2 H locs ls u hw hl hf K0
    rw [fl_X9_whoSits_4] at hf
    cases hf
  | succ n ih =>
    intro y1 y2 H locs ls u hw hl hf K0
    rw [fl_X9_whoSits_4] at hf
    refine lv_iload_n S.1 S.2.1 dX9_whoSits_4 rfl (lv_at hl 2 rfl) ?_
    refine lv_bipush (v := 6) S.1 S.2.1 dX9_whoSits_5 (by decide) ?_
    refine lv_icmp_ge (tgt := 27) S.1 S.2.1 dX9_whoSits_7 (by decide) (fun c_1 => ?_) (fun c_1 => ?_)
    · replace hf := (if_pos c_1).symm.trans hf
      cases hf
      exact K0 _ _ _ hw (lv_sub hl [1] rfl)
    · replace hf := (if_neg c_1).symm.trans hf
      refine lv_iload_n S.1 S.2.1 dX9_whoSits_10 rfl (lv_at hl 1 rfl) ?_
      refine lv_aload_n S.1 S.2.1 dX9_whoSits_11 rfl (lv_at hl 0 rfl) ?_
      refine gf_X9_22 S hw 0 rfl dX9_whoSits_12 ?_
      refine lv_iload_n S.1 S.2.1 dX9_whoSits_15 rfl (lv_at hl 2 rfl) ?_
      obtain ⟨x_2, e_x_2, hf⟩ := ob hf
      refine al_X9_4 S hw 0 rfl e_x_2 dX9_whoSits_16 ?_
      refine lv_iload_n S.1 S.2.1 dX9_whoSits_17 rfl (lv_at hl 2 rfl) ?_
      refine lv_ishl S.1 S.2.1 dX9_whoSits_18 ?_
      refine lv_ior S.1 S.2.1 dX9_whoSits_19 ?_
      refine lv_istore_n (lv' := [(1, .int ((y1 ||| (x_2 <<< (y2 &&& 31))))), (0, .ref o0), (2, .int y2)]) S.1 S.2.1 dX9_whoSits_20 rfl hl (by decide) rfl (fun ls hl => ?_)
      refine lv_iinc (v := (y2 + 1)) (lv' := [(2, .int ((y2 + 1))), (1, .int ((y1 ||| (x_2 <<< (y2 &&& 31))))), (0, .ref o0)]) S.1 S.2.1 dX9_whoSits_21 hl (k := 2) rfl rfl (by decide) rfl (fun ls hl => ?_)
      refine lv_goto (tgt := 4) S.1 S.2.1 dX9_whoSits_24 (by decide) ?_
      exact ih _ _ _ _ _ _ hw (lv_sub hl [2, 1, 0] rfl) hf K0
end
set_option maxHeartbeats 4000000 in
set_option maxRecDepth 100000 in
theorem c_X9_whoSits (l : Launch) (D : va_G) (cy : Nat → ClassId) (o0 : Nat) (q0 : Nat → Nat) (σ0 : pStt) (u : Int32) (hf : f_X9_whoSits σ0 = some u) : CT l yX9_whoSits cX9_whoSits 3 (some .int) rmX9_whoSits D cy [.ref o0] [pX9 cy o0 q0 σ0] (some (.int u)) [pX9 cy o0 q0 σ0] := by
  refine CT.of (by decide) (Nat.le_of_ble_eq_true rfl) (fun p e s m args below meth c ls A Q hA hQ S hr hlk hl hw => ?_)
  have hl : lv_has ls 3 [(0, .ref o0)] := hl
  rw [f_X9_whoSits] at hf
  refine lv_iconst (v := 0) S.1 S.2.1 dX9_whoSits_0 (by decide) ?_
  refine lv_istore_n (lv' := [(1, .int 0), (0, .ref o0)]) S.1 S.2.1 dX9_whoSits_1 rfl hl (by decide) rfl (fun ls hl => ?_)
  refine lv_iconst (v := 0) S.1 S.2.1 dX9_whoSits_2 (by decide) ?_
  refine lv_istore_n (lv' := [(2, .int 0), (1, .int 0), (0, .ref o0)]) S.1 S.2.1 dX9_whoSits_3 rfl hl (by decide) rfl (fun ls hl => ?_)
  obtain ⟨u_3, e_u_3, hf⟩ := ob hf
  refine lp_X9_whoSits_4 S 2000 _ _ _ _ _ _ hw (lv_sub hl [2, 1, 0] rfl) e_u_3 ?_
  · intro H locs ls hw hl
    refine lv_iload_n S.1 S.2.1 dX9_whoSits_27 rfl (lv_at hl 0 rfl) ?_
    cases hf
    exact w_iret S hr hlk hA hQ hw dX9_whoSits_28
section
variable {p : Program} {l : Launch} {e : Env} {R : Room} {s : State} {m : MethodId} {args : Array Value} {below : List Frame} {meth : Method} {c : Code} {H : Heap} {locs : List Loc} {cells slots : Nat} {Q : State → Prop} {cc : ByteArray} {pc nL : Nat} {ls : Array Slot} {rest : List Value} {D : va_G} {cy : Nat → ClassId} {A : Nat → Prop} {H0 : Heap} {own : String} {Ps : List va_W}
set_option maxRecDepth 100000 in
theorem k_X9_whoSits {o0 : Nat} {q0 : Nat → Nat}  {σ0 : pStt} {u : Int32} {index : Nat} (S : CX p m c cc nL s args own D cy) (hl : (Cond.methodLink own index yX9_whoSits).before args s = true) (hw : PW D A H0 Ps H locs) (hf : f_X9_whoSits σ0 = some u) (js : List Nat) (hC : js.map (fun j => Ps[j]?) = [some (pX9 cy o0 q0 σ0)]) (hnd : js.Nodup) (hlen : js.length = 1) (hR : RMok rmX9_whoSits R 3) (hsize : ls.size = nL) (hrest : (rest.map fun v => v.category).sum ≤ 8) (hdg : decode cc pc = .ok (.invokevirtual index, 3)) (hcs : cells ≤ R.cells ∧ slots ≤ R.slots)
    (kk : ∀ (H1 : Heap) (locs1 : List Loc), PW D A H0 (setAll Ps js [pX9 cy o0 q0 σ0]) H1 locs1 → W p l e R s m args below meth c H1 locs1 cells slots Q (F0 m (pc + 3) ls (.int u :: rest))) : W p l e R s m args below meth c H locs cells slots Q (F0 m pc ls (.ref o0 :: rest)) :=
  w_callV (n := 0) (ov := (some (.int u))) (As := []) (Cs := [pX9 cy o0 q0 σ0]) (Cs' := [pX9 cy o0 q0 σ0]) S hw (c_X9_whoSits l D cy o0 q0 σ0 u hf) (MF.of S.2.2.2.2 wd1019 wd79 (by decide)) (S.2.2.2.2.wd wd1018 rfl) (S.2.2.2.2.wd wd52 rfl) hl hR js hC hnd hlen rfl rfl rfl rfl hsize rfl hrest hdg hcs kk
end
abbrev rmX9_ofAll : Room := { frames := 2, cells := 0, slots := 0, locals := 44 }
def f_X9_ofAll (x1 : Int32) (σ0 : pStt) : Option (Int32) := if x1 = 0 then (f_X9_waysAll σ0).bind (fun u_2 => some u_2) else if x1 = 1 then (f_X9_whoIsThere σ0).bind (fun u_4 => some u_4) else if x1 = 2 then (f_X9_whoSits σ0).bind (fun u_6 => some u_6) else if x1 = 3 then some ((σ0.1 0)) else some ((σ0.1 1))
set_option maxHeartbeats 4000000 in
set_option maxRecDepth 100000 in
theorem c_X9_ofAll (l : Launch) (D : va_G) (cy : Nat → ClassId) (o0 : Nat) (q0 : Nat → Nat) (x1 : Int32) (σ0 : pStt) (u : Int32) (hf : f_X9_ofAll x1 σ0 = some u) : CT l yX9_ofAll cX9_ofAll 2 (some .int) rmX9_ofAll D cy [.ref o0, .int x1] [pX9 cy o0 q0 σ0] (some (.int u)) [pX9 cy o0 q0 σ0] := by
  refine CT.of (by decide) (Nat.le_of_ble_eq_true rfl) (fun p e s m args below meth c ls A Q hA hQ S hr hlk hl hw => ?_)
  have hl : lv_has ls 2 [(0, .ref o0), (1, .int x1)] := hl
  rw [f_X9_ofAll] at hf
  refine lv_iload_n S.1 S.2.1 dX9_ofAll_0 rfl (lv_at hl 1 rfl) ?_
  by_cases c_1 : x1 = 0
  · replace hf := (if_pos c_1).symm.trans hf
    refine lv_tableIn (off := 31) (tgt := 32) S.1 S.2.1 dX9_ofAll_1 (by rw [c_1]; decide) (by rw [c_1]; decide) (by rw [c_1]; rfl) (by decide) ?_
    refine lv_aload_n S.1 S.2.1 dX9_ofAll_32 rfl (lv_at hl 0 rfl) ?_
    obtain ⟨u_2, e_u_2, hf⟩ := ob hf
    refine k_X9_waysAll S (S.2.2.2.2.wd wd825 rfl) hw e_u_2 [0] rfl (by decide) rfl ⟨rfl, rfl, Nat.le_of_ble_eq_true rfl, Nat.le_of_ble_eq_true rfl⟩ hl.1 (Nat.le_of_ble_eq_true rfl) dX9_ofAll_33 ⟨Nat.zero_le _, Nat.zero_le _⟩ (fun H locs hw => ?_)
    have hw : PW D A s.heap [pX9 cy o0 q0 σ0] H locs := hw
    cases hf
    exact w_iret S hr hlk hA hQ hw dX9_ofAll_36
  · replace hf := (if_neg c_1).symm.trans hf
    by_cases c_3 : x1 = 1
    · replace hf := (if_pos c_3).symm.trans hf
      refine lv_tableIn (off := 36) (tgt := 37) S.1 S.2.1 dX9_ofAll_1 (by rw [c_3]; decide) (by rw [c_3]; decide) (by rw [c_3]; rfl) (by decide) ?_
      refine lv_aload_n S.1 S.2.1 dX9_ofAll_37 rfl (lv_at hl 0 rfl) ?_
      obtain ⟨u_4, e_u_4, hf⟩ := ob hf
      refine k_X9_whoIsThere S (S.2.2.2.2.wd wd1012 rfl) hw e_u_4 [0] rfl (by decide) rfl ⟨rfl, rfl, Nat.le_of_ble_eq_true rfl, Nat.le_of_ble_eq_true rfl⟩ hl.1 (Nat.le_of_ble_eq_true rfl) dX9_ofAll_38 ⟨Nat.zero_le _, Nat.zero_le _⟩ (fun H locs hw => ?_)
      have hw : PW D A s.heap [pX9 cy o0 q0 σ0] H locs := hw
      cases hf
      exact w_iret S hr hlk hA hQ hw dX9_ofAll_41
    · replace hf := (if_neg c_3).symm.trans hf
      by_cases c_5 : x1 = 2
      · replace hf := (if_pos c_5).symm.trans hf
        refine lv_tableIn (off := 41) (tgt := 42) S.1 S.2.1 dX9_ofAll_1 (by rw [c_5]; decide) (by rw [c_5]; decide) (by rw [c_5]; rfl) (by decide) ?_
        refine lv_aload_n S.1 S.2.1 dX9_ofAll_42 rfl (lv_at hl 0 rfl) ?_
        obtain ⟨u_6, e_u_6, hf⟩ := ob hf
        refine k_X9_whoSits S (S.2.2.2.2.wd wd1016 rfl) hw e_u_6 [0] rfl (by decide) rfl ⟨rfl, rfl, Nat.le_of_ble_eq_true rfl, Nat.le_of_ble_eq_true rfl⟩ hl.1 (Nat.le_of_ble_eq_true rfl) dX9_ofAll_43 ⟨Nat.zero_le _, Nat.zero_le _⟩ (fun H locs hw => ?_)
        have hw : PW D A s.heap [pX9 cy o0 q0 σ0] H locs := hw
        cases hf
        exact w_iret S hr hlk hA hQ hw dX9_ofAll_46
      · replace hf := (if_neg c_5).symm.trans hf
        by_cases c_7 : x1 = 3
        · replace hf := (if_pos c_7).symm.trans hf
          refine lv_tableIn (off := 46) (tgt := 47) S.1 S.2.1 dX9_ofAll_1 (by rw [c_7]; decide) (by rw [c_7]; decide) (by rw [c_7]; rfl) (by decide) ?_
          refine lv_aload_n S.1 S.2.1 dX9_ofAll_47 rfl (lv_at hl 0 rfl) ?_
          refine gf_X9_74 S hw 0 rfl dX9_ofAll_48 ?_
          cases hf
          exact w_iret S hr hlk hA hQ hw dX9_ofAll_51
        · replace hf := (if_neg c_7).symm.trans hf
          have t_c_1 := ne_toInt (k := 0) c_1 (by decide)
          have t_c_3 := ne_toInt (k := 1) c_3 (by decide)
          have t_c_5 := ne_toInt (k := 2) c_5 (by decide)
          have t_c_7 := ne_toInt (k := 3) c_7 (by decide)
          refine lv_tableOut (tgt := 52) S.1 S.2.1 dX9_ofAll_1 (by omega) (by decide) ?_
          refine lv_aload_n S.1 S.2.1 dX9_ofAll_52 rfl (lv_at hl 0 rfl) ?_
          refine gf_X9_174 S hw 0 rfl dX9_ofAll_53 ?_
          cases hf
          exact w_iret S hr hlk hA hQ hw dX9_ofAll_56
section
variable {p : Program} {l : Launch} {e : Env} {R : Room} {s : State} {m : MethodId} {args : Array Value} {below : List Frame} {meth : Method} {c : Code} {H : Heap} {locs : List Loc} {cells slots : Nat} {Q : State → Prop} {cc : ByteArray} {pc nL : Nat} {ls : Array Slot} {rest : List Value} {D : va_G} {cy : Nat → ClassId} {A : Nat → Prop} {H0 : Heap} {own : String} {Ps : List va_W}
set_option maxRecDepth 100000 in
theorem k_X9_ofAll {o0 : Nat} {q0 : Nat → Nat} {x1 : Int32} {σ0 : pStt} {u : Int32} {index : Nat} (S : CX p m c cc nL s args own D cy) (hl : (Cond.methodLink own index yX9_ofAll).before args s = true) (hw : PW D A H0 Ps H locs) (hf : f_X9_ofAll x1 σ0 = some u) (js : List Nat) (hC : js.map (fun j => Ps[j]?) = [some (pX9 cy o0 q0 σ0)]) (hnd : js.Nodup) (hlen : js.length = 1) (hR : RMok rmX9_ofAll R 2) (hsize : ls.size = nL) (hrest : (rest.map fun v => v.category).sum ≤ 8) (hdg : decode cc pc = .ok (.invokevirtual index, 3)) (hcs : cells ≤ R.cells ∧ slots ≤ R.slots)
    (kk : ∀ (H1 : Heap) (locs1 : List Loc), PW D A H0 (setAll Ps js [pX9 cy o0 q0 σ0]) H1 locs1 → W p l e R s m args below meth c H1 locs1 cells slots Q (F0 m (pc + 3) ls (.int u :: rest))) : W p l e R s m args below meth c H locs cells slots Q (F0 m pc ls (.int x1 :: .ref o0 :: rest)) :=
  w_callV (n := 1) (ov := (some (.int u))) (As := [.int x1]) (Cs := [pX9 cy o0 q0 σ0]) (Cs' := [pX9 cy o0 q0 σ0]) S hw (c_X9_ofAll l D cy o0 q0 x1 σ0 u hf) (MF.of S.2.2.2.2 wd1011 wd79 (by decide)) (S.2.2.2.2.wd wd1010 rfl) (S.2.2.2.2.wd wd50 rfl) hl hR js hC hnd hlen rfl rfl rfl rfl hsize rfl hrest hdg hcs kk
end
abbrev rmX9_there : Room := { frames := 8, cells := 0, slots := 0, locals := 173 }
def f_X9_there (x1 : Int32) (σ0 : pStt) : Option (Int32 × pStt) := (f_X9_in ((x1 : Int32).toInt64) 0 4).bind (fun u_1 => if u_1 = 0 then some ((-2), σ0) else (f_X9_refusal σ0).bind (fun u_3 => (if u_3.1 = (-6) then (f_X9_ofAll x1 u_3.2).bind (fun u_7 => some u_7) else some u_3.1 : Option Int32).bind (fun v_4 => (f_X9_back v_4 u_3.2).bind (fun u_5 => some (u_5.1, u_5.2)))))
set_option maxHeartbeats 4000000 in
set_option maxRecDepth 100000 in
theorem c_X9_there (l : Launch) (D : va_G) (cy : Nat → ClassId) (o0 : Nat) (q0 : Nat → Nat) (x1 : Int32) (σ0 : pStt) (u : Int32 × pStt) (hf : f_X9_there x1 σ0 = some u) : CT l yX9_there cX9_there 3 (some .int) rmX9_there D cy [.ref o0, .int x1] [pX9 cy o0 q0 σ0] (some (.int u.1)) [pX9 cy o0 q0 u.2] := by
  refine CT.of (by decide) (Nat.le_of_ble_eq_true rfl) (fun p e s m args below meth c ls A Q hA hQ S hr hlk hl hw => ?_)
  have hl : lv_has ls 3 [(0, .ref o0), (1, .int x1)] := hl
  rw [f_X9_there] at hf
  refine lv_iload_n S.1 S.2.1 dX9_there_0 rfl (lv_at hl 1 rfl) ?_
  refine lv_i2l (v := (x1 : Int32).toInt64) S.1 S.2.1 dX9_there_1 rfl ?_
  refine lv_lconst (v := 0) S.1 S.2.1 dX9_there_2 (by decide) ?_
  refine lv_ldc2 (v := 4) S.1 S.2.1 S.2.2.2.1 (S.2.2.2.2.wd wd1007 rfl) dX9_there_3 ?_
  obtain ⟨u_1, e_u_1, hf⟩ := ob hf
  refine k_X9_in S (S.2.2.2.2.wd wd818 rfl) hw e_u_1 [] rfl (by decide) rfl ⟨rfl, rfl, Nat.le_of_ble_eq_true rfl, Nat.le_of_ble_eq_true rfl⟩ hl.1 (Nat.le_of_ble_eq_true rfl) dX9_there_6 ⟨Nat.zero_le _, Nat.zero_le _⟩ (fun H locs hw => ?_)
  have hw : PW D A s.heap [pX9 cy o0 q0 σ0] H locs := hw
  refine lv_if_ne (tgt := 15) S.1 S.2.1 dX9_there_9 (by decide) (fun c_2 => ?_) (fun c_2 => ?_)
  · replace hf := (if_neg c_2).symm.trans hf
    refine lv_aload_n S.1 S.2.1 dX9_there_15 rfl (lv_at hl 0 rfl) ?_
    obtain ⟨u_3, e_u_3, hf⟩ := ob hf
    refine k_X9_refusal S (S.2.2.2.2.wd wd914 rfl) hw e_u_3 [0] rfl (by decide) rfl ⟨rfl, rfl, Nat.le_of_ble_eq_true rfl, Nat.le_of_ble_eq_true rfl⟩ hl.1 (Nat.le_of_ble_eq_true rfl) dX9_there_16 ⟨Nat.zero_le _, Nat.zero_le _⟩ (fun H locs hw => ?_)
    have hw : PW D A s.heap [pX9 cy o0 q0 u_3.2] H locs := hw
    refine lv_istore_n (lv' := [(2, .int u_3.1), (0, .ref o0), (1, .int x1)]) S.1 S.2.1 dX9_there_19 rfl hl (by decide) rfl (fun ls hl => ?_)
    refine lv_aload_n S.1 S.2.1 dX9_there_20 rfl (lv_at hl 1 rfl) ?_
    refine lv_iload_n S.1 S.2.1 dX9_there_21 rfl (lv_at hl 0 rfl) ?_
    refine lv_bipush (v := (-6)) S.1 S.2.1 dX9_there_22 (by decide) ?_
    obtain ⟨v_4, e_v_4, hf⟩ := ob hf
    have hJ_v_4 : ∀ (H : Heap) (locs : List Loc), PW D A s.heap [pX9 cy o0 q0 u_3.2] H locs → W p l e rmX9_there s m args below meth c H locs 0 0 Q (F0 m 36 ls [.int v_4, .ref o0]) := by
      intro H locs hw
      obtain ⟨u_5, e_u_5, hf⟩ := ob hf
      refine k_X9_back S (S.2.2.2.2.wd wd982 rfl) hw e_u_5 [0] rfl (by decide) rfl ⟨rfl, rfl, Nat.le_of_ble_eq_true rfl, Nat.le_of_ble_eq_true rfl⟩ hl.1 (Nat.le_of_ble_eq_true rfl) dX9_there_36 ⟨Nat.zero_le _, Nat.zero_le _⟩ (fun H locs hw => ?_)
      have hw : PW D A s.heap [pX9 cy o0 q0 u_5.2] H locs := hw
      cases hf
      exact w_iret S hr hlk hA hQ hw dX9_there_39
    replace hf := e_v_4
    clear e_v_4
    refine lv_icmp_eq (tgt := 31) S.1 S.2.1 dX9_there_24 (by decide) (fun c_6 => ?_) (fun c_6 => ?_)
    · replace hf := (if_pos c_6).symm.trans hf
      refine lv_aload_n S.1 S.2.1 dX9_there_31 rfl (lv_at hl 1 rfl) ?_
      refine lv_iload_n S.1 S.2.1 dX9_there_32 rfl (lv_at hl 2 rfl) ?_
      obtain ⟨u_7, e_u_7, hf⟩ := ob hf
      refine k_X9_ofAll S (S.2.2.2.2.wd wd1008 rfl) hw e_u_7 [0] rfl (by decide) rfl ⟨rfl, rfl, Nat.le_of_ble_eq_true rfl, Nat.le_of_ble_eq_true rfl⟩ hl.1 (Nat.le_of_ble_eq_true rfl) dX9_there_33 ⟨Nat.zero_le _, Nat.zero_le _⟩ (fun H locs hw => ?_)
      have hw : PW D A s.heap [pX9 cy o0 q0 u_3.2] H locs := hw
      cases hf
      exact hJ_v_4 _ _ hw
    · replace hf := (if_neg c_6).symm.trans hf
      refine lv_iload_n S.1 S.2.1 dX9_there_27 rfl (lv_at hl 0 rfl) ?_
      refine lv_goto (tgt := 36) S.1 S.2.1 dX9_there_28 (by decide) ?_
      cases hf
      exact hJ_v_4 _ _ hw
  · replace hf := (if_pos c_2).symm.trans hf
    refine lv_bipush (v := (-2)) S.1 S.2.1 dX9_there_12 (by decide) ?_
    cases hf
    exact w_iret S hr hlk hA hQ hw dX9_there_14
section
variable {p : Program} {l : Launch} {e : Env} {R : Room} {s : State} {m : MethodId} {args : Array Value} {below : List Frame} {meth : Method} {c : Code} {H : Heap} {locs : List Loc} {cells slots : Nat} {Q : State → Prop} {cc : ByteArray} {pc nL : Nat} {ls : Array Slot} {rest : List Value} {D : va_G} {cy : Nat → ClassId} {A : Nat → Prop} {H0 : Heap} {own : String} {Ps : List va_W}
set_option maxRecDepth 100000 in
theorem k_X9_there {o0 : Nat} {q0 : Nat → Nat} {x1 : Int32} {σ0 : pStt} {u : Int32 × pStt} {index : Nat} (S : CX p m c cc nL s args own D cy) (hl : (Cond.methodLink own index yX9_there).before args s = true) (hw : PW D A H0 Ps H locs) (hf : f_X9_there x1 σ0 = some u) (js : List Nat) (hC : js.map (fun j => Ps[j]?) = [some (pX9 cy o0 q0 σ0)]) (hnd : js.Nodup) (hlen : js.length = 1) (hR : RMok rmX9_there R 3) (hsize : ls.size = nL) (hrest : (rest.map fun v => v.category).sum ≤ 8) (hdg : decode cc pc = .ok (.invokevirtual index, 3)) (hcs : cells ≤ R.cells ∧ slots ≤ R.slots)
    (kk : ∀ (H1 : Heap) (locs1 : List Loc), PW D A H0 (setAll Ps js [pX9 cy o0 q0 u.2]) H1 locs1 → W p l e R s m args below meth c H1 locs1 cells slots Q (F0 m (pc + 3) ls (.int u.1 :: rest))) : W p l e R s m args below meth c H locs cells slots Q (F0 m pc ls (.int x1 :: .ref o0 :: rest)) :=
  w_callV (n := 1) (ov := (some (.int u.1))) (As := [.int x1]) (Cs := [pX9 cy o0 q0 σ0]) (Cs' := [pX9 cy o0 q0 u.2]) S hw (c_X9_there l D cy o0 q0 x1 σ0 u hf) (MF.of S.2.2.2.2 wd1006 wd79 (by decide)) (S.2.2.2.2.wd wd1004 rfl) (S.2.2.2.2.wd wd1005 rfl) hl hR js hC hnd hlen rfl rfl rfl rfl hsize rfl hrest hdg hcs kk
end
abbrev rmX9_first : Room := { frames := 8, cells := 0, slots := 0, locals := 173 }
def f_X9_first (x1 : Int32) (σ0 : pStt) : Option (Int32 × pStt) := (f_X9_in ((x1 : Int32).toInt64) 0 1).bind (fun u_1 => if u_1 = 0 then some ((-2), σ0) else (f_X9_refusal σ0).bind (fun u_3 => (f_X9_back u_3.1 u_3.2).bind (fun u_4 => (if u_4.1 = (-6) then if x1 = 0 then some ((u_4.2.1 12)) else some ((u_4.2.1 13)) else some u_4.1 : Option Int32).bind (fun v_5 => some (v_5, u_4.2)))))
set_option maxHeartbeats 4000000 in
set_option maxRecDepth 100000 in
theorem c_X9_first (l : Launch) (D : va_G) (cy : Nat → ClassId) (o0 : Nat) (q0 : Nat → Nat) (x1 : Int32) (σ0 : pStt) (u : Int32 × pStt) (hf : f_X9_first x1 σ0 = some u) : CT l yX9_first cX9_first 3 (some .int) rmX9_first D cy [.ref o0, .int x1] [pX9 cy o0 q0 σ0] (some (.int u.1)) [pX9 cy o0 q0 u.2] := by
  refine CT.of (by decide) (Nat.le_of_ble_eq_true rfl) (fun p e s m args below meth c ls A Q hA hQ S hr hlk hl hw => ?_)
  have hl : lv_has ls 3 [(0, .ref o0), (1, .int x1)] := hl
  rw [f_X9_first] at hf
  refine lv_iload_n S.1 S.2.1 dX9_first_0 rfl (lv_at hl 1 rfl) ?_
  refine lv_i2l (v := (x1 : Int32).toInt64) S.1 S.2.1 dX9_first_1 rfl ?_
  refine lv_lconst (v := 0) S.1 S.2.1 dX9_first_2 (by decide) ?_
  refine lv_lconst (v := 1) S.1 S.2.1 dX9_first_3 (by decide) ?_
  obtain ⟨u_1, e_u_1, hf⟩ := ob hf
  refine k_X9_in S (S.2.2.2.2.wd wd818 rfl) hw e_u_1 [] rfl (by decide) rfl ⟨rfl, rfl, Nat.le_of_ble_eq_true rfl, Nat.le_of_ble_eq_true rfl⟩ hl.1 (Nat.le_of_ble_eq_true rfl) dX9_first_4 ⟨Nat.zero_le _, Nat.zero_le _⟩ (fun H locs hw => ?_)
  have hw : PW D A s.heap [pX9 cy o0 q0 σ0] H locs := hw
  refine lv_if_ne (tgt := 13) S.1 S.2.1 dX9_first_7 (by decide) (fun c_2 => ?_) (fun c_2 => ?_)
  · replace hf := (if_neg c_2).symm.trans hf
    refine lv_aload_n S.1 S.2.1 dX9_first_13 rfl (lv_at hl 0 rfl) ?_
    refine lv_aload_n S.1 S.2.1 dX9_first_14 rfl (lv_at hl 0 rfl) ?_
    obtain ⟨u_3, e_u_3, hf⟩ := ob hf
    refine k_X9_refusal S (S.2.2.2.2.wd wd914 rfl) hw e_u_3 [0] rfl (by decide) rfl ⟨rfl, rfl, Nat.le_of_ble_eq_true rfl, Nat.le_of_ble_eq_true rfl⟩ hl.1 (Nat.le_of_ble_eq_true rfl) dX9_first_15 ⟨Nat.zero_le _, Nat.zero_le _⟩ (fun H locs hw => ?_)
    have hw : PW D A s.heap [pX9 cy o0 q0 u_3.2] H locs := hw
    obtain ⟨u_4, e_u_4, hf⟩ := ob hf
    refine k_X9_back S (S.2.2.2.2.wd wd982 rfl) hw e_u_4 [0] rfl (by decide) rfl ⟨rfl, rfl, Nat.le_of_ble_eq_true rfl, Nat.le_of_ble_eq_true rfl⟩ hl.1 (Nat.le_of_ble_eq_true rfl) dX9_first_18 ⟨Nat.zero_le _, Nat.zero_le _⟩ (fun H locs hw => ?_)
    have hw : PW D A s.heap [pX9 cy o0 q0 u_4.2] H locs := hw
    refine lv_istore_n (lv' := [(2, .int u_4.1), (0, .ref o0), (1, .int x1)]) S.1 S.2.1 dX9_first_21 rfl hl (by decide) rfl (fun ls hl => ?_)
    refine lv_iload_n S.1 S.2.1 dX9_first_22 rfl (lv_at hl 0 rfl) ?_
    refine lv_bipush (v := (-6)) S.1 S.2.1 dX9_first_23 (by decide) ?_
    obtain ⟨v_5, e_v_5, hf⟩ := ob hf
    have hJ_v_5 : ∀ (H : Heap) (locs : List Loc), PW D A s.heap [pX9 cy o0 q0 u_4.2] H locs → W p l e rmX9_first s m args below meth c H locs 0 0 Q (F0 m 47 ls [.int v_5]) := by
      intro H locs hw
      cases hf
      exact w_iret S hr hlk hA hQ hw dX9_first_47
    replace hf := e_v_5
    clear e_v_5
    refine lv_icmp_eq (tgt := 32) S.1 S.2.1 dX9_first_25 (by decide) (fun c_6 => ?_) (fun c_6 => ?_)
    · replace hf := (if_pos c_6).symm.trans hf
      refine lv_iload_n S.1 S.2.1 dX9_first_32 rfl (lv_at hl 2 rfl) ?_
      refine lv_if_ne (tgt := 43) S.1 S.2.1 dX9_first_33 (by decide) (fun c_7 => ?_) (fun c_7 => ?_)
      · replace hf := (if_neg c_7).symm.trans hf
        refine lv_aload_n S.1 S.2.1 dX9_first_43 rfl (lv_at hl 1 rfl) ?_
        refine gf_X9_227 S hw 0 rfl dX9_first_44 ?_
        cases hf
        exact hJ_v_5 _ _ hw
      · replace hf := (if_pos c_7).symm.trans hf
        refine lv_aload_n S.1 S.2.1 dX9_first_36 rfl (lv_at hl 1 rfl) ?_
        refine gf_X9_224 S hw 0 rfl dX9_first_37 ?_
        refine lv_goto (tgt := 47) S.1 S.2.1 dX9_first_40 (by decide) ?_
        cases hf
        exact hJ_v_5 _ _ hw
    · replace hf := (if_neg c_6).symm.trans hf
      refine lv_iload_n S.1 S.2.1 dX9_first_28 rfl (lv_at hl 0 rfl) ?_
      refine lv_goto (tgt := 47) S.1 S.2.1 dX9_first_29 (by decide) ?_
      cases hf
      exact hJ_v_5 _ _ hw
  · replace hf := (if_pos c_2).symm.trans hf
    refine lv_bipush (v := (-2)) S.1 S.2.1 dX9_first_10 (by decide) ?_
    cases hf
    exact w_iret S hr hlk hA hQ hw dX9_first_12
section
variable {p : Program} {l : Launch} {e : Env} {R : Room} {s : State} {m : MethodId} {args : Array Value} {below : List Frame} {meth : Method} {c : Code} {H : Heap} {locs : List Loc} {cells slots : Nat} {Q : State → Prop} {cc : ByteArray} {pc nL : Nat} {ls : Array Slot} {rest : List Value} {D : va_G} {cy : Nat → ClassId} {A : Nat → Prop} {H0 : Heap} {own : String} {Ps : List va_W}
set_option maxRecDepth 100000 in
theorem k_X9_first {o0 : Nat} {q0 : Nat → Nat} {x1 : Int32} {σ0 : pStt} {u : Int32 × pStt} {index : Nat} (S : CX p m c cc nL s args own D cy) (hl : (Cond.methodLink own index yX9_first).before args s = true) (hw : PW D A H0 Ps H locs) (hf : f_X9_first x1 σ0 = some u) (js : List Nat) (hC : js.map (fun j => Ps[j]?) = [some (pX9 cy o0 q0 σ0)]) (hnd : js.Nodup) (hlen : js.length = 1) (hR : RMok rmX9_first R 3) (hsize : ls.size = nL) (hrest : (rest.map fun v => v.category).sum ≤ 8) (hdg : decode cc pc = .ok (.invokevirtual index, 3)) (hcs : cells ≤ R.cells ∧ slots ≤ R.slots)
    (kk : ∀ (H1 : Heap) (locs1 : List Loc), PW D A H0 (setAll Ps js [pX9 cy o0 q0 u.2]) H1 locs1 → W p l e R s m args below meth c H1 locs1 cells slots Q (F0 m (pc + 3) ls (.int u.1 :: rest))) : W p l e R s m args below meth c H locs cells slots Q (F0 m pc ls (.int x1 :: .ref o0 :: rest)) :=
  w_callV (n := 1) (ov := (some (.int u.1))) (As := [.int x1]) (Cs := [pX9 cy o0 q0 σ0]) (Cs' := [pX9 cy o0 q0 u.2]) S hw (c_X9_first l D cy o0 q0 x1 σ0 u hf) (MF.of S.2.2.2.2 wd1023 wd79 (by decide)) (S.2.2.2.2.wd wd1021 rfl) (S.2.2.2.2.wd wd1022 rfl) hl hR js hC hnd hlen rfl rfl rfl rfl hsize rfl hrest hdg hcs kk
end
abbrev rmX9_done : Room := { frames := 8, cells := 0, slots := 0, locals := 173 }
def f_X9_done (σ0 : pStt) : Option (Int32 × pStt) := (f_X9_refusal σ0).bind (fun u_1 => if u_1.1 = (-6) then (some (sI u_1.2 4 0)).bind (fun σ_3 => some ((σ_3.1 5), σ_3)) else (f_X9_back u_1.1 u_1.2).bind (fun u_4 => some (u_4.1, u_4.2)))
set_option maxHeartbeats 4000000 in
set_option maxRecDepth 100000 in
theorem c_X9_done (l : Launch) (D : va_G) (cy : Nat → ClassId) (o0 : Nat) (q0 : Nat → Nat) (σ0 : pStt) (u : Int32 × pStt) (hf : f_X9_done σ0 = some u) : CT l yX9_done cX9_done 2 (some .int) rmX9_done D cy [.ref o0] [pX9 cy o0 q0 σ0] (some (.int u.1)) [pX9 cy o0 q0 u.2] := by
  refine CT.of (by decide) (Nat.le_of_ble_eq_true rfl) (fun p e s m args below meth c ls A Q hA hQ S hr hlk hl hw => ?_)
  have hl : lv_has ls 2 [(0, .ref o0)] := hl
  rw [f_X9_done] at hf
  refine lv_aload_n S.1 S.2.1 dX9_done_0 rfl (lv_at hl 0 rfl) ?_
  obtain ⟨u_1, e_u_1, hf⟩ := ob hf
  refine k_X9_refusal S (S.2.2.2.2.wd wd914 rfl) hw e_u_1 [0] rfl (by decide) rfl ⟨rfl, rfl, Nat.le_of_ble_eq_true rfl, Nat.le_of_ble_eq_true rfl⟩ hl.1 (Nat.le_of_ble_eq_true rfl) dX9_done_1 ⟨Nat.zero_le _, Nat.zero_le _⟩ (fun H locs hw => ?_)
  have hw : PW D A s.heap [pX9 cy o0 q0 u_1.2] H locs := hw
  refine lv_istore_n (lv' := [(1, .int u_1.1), (0, .ref o0)]) S.1 S.2.1 dX9_done_4 rfl hl (by decide) rfl (fun ls hl => ?_)
  refine lv_iload_n S.1 S.2.1 dX9_done_5 rfl (lv_at hl 0 rfl) ?_
  refine lv_bipush (v := (-6)) S.1 S.2.1 dX9_done_6 (by decide) ?_
  refine lv_icmp_eq (tgt := 17) S.1 S.2.1 dX9_done_8 (by decide) (fun c_2 => ?_) (fun c_2 => ?_)
  · replace hf := (if_pos c_2).symm.trans hf
    refine lv_aload_n S.1 S.2.1 dX9_done_17 rfl (lv_at hl 1 rfl) ?_
    refine lv_iconst (v := 0) S.1 S.2.1 dX9_done_18 (by decide) ?_
    obtain ⟨σ_3, e_σ_3, hf⟩ := ob hf
    refine pf_X9_126 S hw 0 rfl e_σ_3 dX9_done_19 (fun H locs hw => ?_)
    have hw : PW D A s.heap [pX9 cy o0 q0 σ_3] H locs := hw
    refine lv_aload_n S.1 S.2.1 dX9_done_22 rfl (lv_at hl 1 rfl) ?_
    refine gf_X9_129 S hw 0 rfl dX9_done_23 ?_
    cases hf
    exact w_iret S hr hlk hA hQ hw dX9_done_26
  · replace hf := (if_neg c_2).symm.trans hf
    refine lv_aload_n S.1 S.2.1 dX9_done_11 rfl (lv_at hl 1 rfl) ?_
    refine lv_iload_n S.1 S.2.1 dX9_done_12 rfl (lv_at hl 0 rfl) ?_
    obtain ⟨u_4, e_u_4, hf⟩ := ob hf
    refine k_X9_back S (S.2.2.2.2.wd wd982 rfl) hw e_u_4 [0] rfl (by decide) rfl ⟨rfl, rfl, Nat.le_of_ble_eq_true rfl, Nat.le_of_ble_eq_true rfl⟩ hl.1 (Nat.le_of_ble_eq_true rfl) dX9_done_13 ⟨Nat.zero_le _, Nat.zero_le _⟩ (fun H locs hw => ?_)
    have hw : PW D A s.heap [pX9 cy o0 q0 u_4.2] H locs := hw
    cases hf
    exact w_iret S hr hlk hA hQ hw dX9_done_16
section
variable {p : Program} {l : Launch} {e : Env} {R : Room} {s : State} {m : MethodId} {args : Array Value} {below : List Frame} {meth : Method} {c : Code} {H : Heap} {locs : List Loc} {cells slots : Nat} {Q : State → Prop} {cc : ByteArray} {pc nL : Nat} {ls : Array Slot} {rest : List Value} {D : va_G} {cy : Nat → ClassId} {A : Nat → Prop} {H0 : Heap} {own : String} {Ps : List va_W}
set_option maxRecDepth 100000 in
theorem k_X9_done {o0 : Nat} {q0 : Nat → Nat}  {σ0 : pStt} {u : Int32 × pStt} {index : Nat} (S : CX p m c cc nL s args own D cy) (hl : (Cond.methodLink own index yX9_done).before args s = true) (hw : PW D A H0 Ps H locs) (hf : f_X9_done σ0 = some u) (js : List Nat) (hC : js.map (fun j => Ps[j]?) = [some (pX9 cy o0 q0 σ0)]) (hnd : js.Nodup) (hlen : js.length = 1) (hR : RMok rmX9_done R 2) (hsize : ls.size = nL) (hrest : (rest.map fun v => v.category).sum ≤ 8) (hdg : decode cc pc = .ok (.invokevirtual index, 3)) (hcs : cells ≤ R.cells ∧ slots ≤ R.slots)
    (kk : ∀ (H1 : Heap) (locs1 : List Loc), PW D A H0 (setAll Ps js [pX9 cy o0 q0 u.2]) H1 locs1 → W p l e R s m args below meth c H1 locs1 cells slots Q (F0 m (pc + 3) ls (.int u.1 :: rest))) : W p l e R s m args below meth c H locs cells slots Q (F0 m pc ls (.ref o0 :: rest)) :=
  w_callV (n := 0) (ov := (some (.int u.1))) (As := []) (Cs := [pX9 cy o0 q0 σ0]) (Cs' := [pX9 cy o0 q0 u.2]) S hw (c_X9_done l D cy o0 q0 σ0 u hf) (MF.of S.2.2.2.2 wd1027 wd79 (by decide)) (S.2.2.2.2.wd wd1025 rfl) (S.2.2.2.2.wd wd1026 rfl) hl hR js hC hnd hlen rfl rfl rfl rfl hsize rfl hrest hdg hcs kk
end
abbrev rmX9_besideAll : Room := { frames := 1, cells := 0, slots := 0, locals := 21 }
def fl_X9_besideAll_4 (y1 : Int32) (σ0 : pStt) : Nat → Int32 → Int32 → Option (Int32)
  | 0, _, _ => none
  | n + 1, y2, y3 => if 8 ≤ y3 then some y2 else (f_X9_has y1 y3).bind (fun u_2 => (if u_2 = 0 then some 0 else (ld (σ0.2 0) 8 y3).bind (fun x_5 => some x_5) : Option Int32).bind (fun v_3 => fl_X9_besideAll_4 y1 σ0 n ((y2 ||| v_3)) ((y3 + 1))))
def f_X9_besideAll (x1 : Int32) (σ0 : pStt) : Option (Int32) := (fl_X9_besideAll_4 x1 σ0 2000 0 0).bind (fun u_6 => some u_6)
section
variable {p : Program} {l : Launch} {e : Env} {s : State} {m : MethodId} {args : Array Value} {below : List Frame} {meth : Method} {c : Code} {Q : State → Prop} {D : va_G} {cy : Nat → ClassId} {A : Nat → Prop} {H0 : Heap}
set_option maxHeartbeats 4000000 in
set_option maxRecDepth 100000 in
theorem lp_X9_besideAll_4 (S : CX p m c cX9_besideAll 4 s args RX9 D cy) {o0 : Nat} {q0 : Nat → Nat} {σ0 : pStt} {y1 : Int32} : ∀ (n : Nat) (y2 : Int32) (y3 : Int32) (H : Heap) (locs : List Loc) (ls : Array Slot) (u : Int32), PW D A H0 [pX9 cy o0 q0 σ0] H locs → lv_has ls 4 [(0, .ref o0), (1, .int y1), (2, .int y2), (3, .int y3)] → fl_X9_besideAll_4 y1 σ0 n y2 y3 = some u → (∀ (H : Heap) (locs : List Loc) (ls : Array Slot), PW D A H0 [pX9 cy o0 q0 σ0] H locs → lv_has ls 4 [(2, .int u)] → W p l e rmX9_besideAll s m args below meth c H locs 0 0 Q (F0 m 37 ls [])) → W p l e rmX9_besideAll s m args below meth c H locs 0 0 Q (F0 m 4 ls []) := by
  intro n
  induction n with
  | zero =>
    intro y2 y3 H locs ls u hw hl hf K0
    rw [fl_X9_besideAll_4] at hf
    cases hf
  | succ n ih =>
    intro y2 y3 H locs ls u hw hl hf K0
    rw [fl_X9_besideAll_4] at hf
    refine lv_iload_n S.1 S.2.1 dX9_besideAll_4 rfl (lv_at hl 3 rfl) ?_
    refine lv_bipush (v := 8) S.1 S.2.1 dX9_besideAll_5 (by decide) ?_
    refine lv_icmp_ge (tgt := 37) S.1 S.2.1 dX9_besideAll_7 (by decide) (fun c_1 => ?_) (fun c_1 => ?_)
    · replace hf := (if_pos c_1).symm.trans hf
      cases hf
      exact K0 _ _ _ hw (lv_sub hl [2] rfl)
    · replace hf := (if_neg c_1).symm.trans hf
      refine lv_iload_n S.1 S.2.1 dX9_besideAll_10 rfl (lv_at hl 2 rfl) ?_
      refine lv_iload_n S.1 S.2.1 dX9_besideAll_11 rfl (lv_at hl 1 rfl) ?_
      refine lv_iload_n S.1 S.2.1 dX9_besideAll_12 rfl (lv_at hl 3 rfl) ?_
      obtain ⟨u_2, e_u_2, hf⟩ := ob hf
      refine k_X9_has S (S.2.2.2.2.wd wd943 rfl) hw e_u_2 [] rfl (by decide) rfl ⟨rfl, rfl, Nat.le_of_ble_eq_true rfl, Nat.le_of_ble_eq_true rfl⟩ hl.1 (Nat.le_of_ble_eq_true rfl) dX9_besideAll_13 ⟨Nat.zero_le _, Nat.zero_le _⟩ (fun H locs hw => ?_)
      have hw : PW D A H0 [pX9 cy o0 q0 σ0] H locs := hw
      obtain ⟨v_3, e_v_3, hf⟩ := ob hf
      have hJ_v_3 : ∀ (H : Heap) (locs : List Loc), PW D A H0 [pX9 cy o0 q0 σ0] H locs → W p l e rmX9_besideAll s m args below meth c H locs 0 0 Q (F0 m 29 ls [.int v_3, .int y2]) := by
        intro H locs hw
        refine lv_ior S.1 S.2.1 dX9_besideAll_29 ?_
        refine lv_istore_n (lv' := [(2, .int ((y2 ||| v_3))), (0, .ref o0), (1, .int y1), (3, .int y3)]) S.1 S.2.1 dX9_besideAll_30 rfl hl (by decide) rfl (fun ls hl => ?_)
        refine lv_iinc (v := (y3 + 1)) (lv' := [(3, .int ((y3 + 1))), (2, .int ((y2 ||| v_3))), (0, .ref o0), (1, .int y1)]) S.1 S.2.1 dX9_besideAll_31 hl (k := 3) rfl rfl (by decide) rfl (fun ls hl => ?_)
        refine lv_goto (tgt := 4) S.1 S.2.1 dX9_besideAll_34 (by decide) ?_
        exact ih _ _ _ _ _ _ hw (lv_sub hl [2, 3, 1, 0] rfl) hf K0
      replace hf := e_v_3
      clear e_v_3
      refine lv_if_eq (tgt := 28) S.1 S.2.1 dX9_besideAll_16 (by decide) (fun c_4 => ?_) (fun c_4 => ?_)
      · replace hf := (if_pos c_4).symm.trans hf
        refine lv_iconst (v := 0) S.1 S.2.1 dX9_besideAll_28 (by decide) ?_
        cases hf
        exact hJ_v_3 _ _ hw
      · replace hf := (if_neg c_4).symm.trans hf
        refine lv_aload_n S.1 S.2.1 dX9_besideAll_19 rfl (lv_at hl 0 rfl) ?_
        refine gf_X9_7 S hw 0 rfl dX9_besideAll_20 ?_
        refine lv_iload_n S.1 S.2.1 dX9_besideAll_23 rfl (lv_at hl 3 rfl) ?_
        obtain ⟨x_5, e_x_5, hf⟩ := ob hf
        refine al_X9_0 S hw 0 rfl e_x_5 dX9_besideAll_24 ?_
        refine lv_goto (tgt := 29) S.1 S.2.1 dX9_besideAll_25 (by decide) ?_
        cases hf
        exact hJ_v_3 _ _ hw
end
set_option maxHeartbeats 4000000 in
set_option maxRecDepth 100000 in
theorem c_X9_besideAll (l : Launch) (D : va_G) (cy : Nat → ClassId) (o0 : Nat) (q0 : Nat → Nat) (x1 : Int32) (σ0 : pStt) (u : Int32) (hf : f_X9_besideAll x1 σ0 = some u) : CT l yX9_besideAll cX9_besideAll 4 (some .int) rmX9_besideAll D cy [.ref o0, .int x1] [pX9 cy o0 q0 σ0] (some (.int u)) [pX9 cy o0 q0 σ0] := by
  refine CT.of (by decide) (Nat.le_of_ble_eq_true rfl) (fun p e s m args below meth c ls A Q hA hQ S hr hlk hl hw => ?_)
  have hl : lv_has ls 4 [(0, .ref o0), (1, .int x1)] := hl
  rw [f_X9_besideAll] at hf
  refine lv_iconst (v := 0) S.1 S.2.1 dX9_besideAll_0 (by decide) ?_
  refine lv_istore_n (lv' := [(2, .int 0), (0, .ref o0), (1, .int x1)]) S.1 S.2.1 dX9_besideAll_1 rfl hl (by decide) rfl (fun ls hl => ?_)
  refine lv_iconst (v := 0) S.1 S.2.1 dX9_besideAll_2 (by decide) ?_
  refine lv_istore_n (lv' := [(3, .int 0), (2, .int 0), (0, .ref o0), (1, .int x1)]) S.1 S.2.1 dX9_besideAll_3 rfl hl (by decide) rfl (fun ls hl => ?_)
  obtain ⟨u_6, e_u_6, hf⟩ := ob hf
  refine lp_X9_besideAll_4 S 2000 _ _ _ _ _ _ hw (lv_sub hl [2, 3, 1, 0] rfl) e_u_6 ?_
  · intro H locs ls hw hl
    refine lv_iload_n S.1 S.2.1 dX9_besideAll_37 rfl (lv_at hl 0 rfl) ?_
    cases hf
    exact w_iret S hr hlk hA hQ hw dX9_besideAll_38
section
variable {p : Program} {l : Launch} {e : Env} {R : Room} {s : State} {m : MethodId} {args : Array Value} {below : List Frame} {meth : Method} {c : Code} {H : Heap} {locs : List Loc} {cells slots : Nat} {Q : State → Prop} {cc : ByteArray} {pc nL : Nat} {ls : Array Slot} {rest : List Value} {D : va_G} {cy : Nat → ClassId} {A : Nat → Prop} {H0 : Heap} {own : String} {Ps : List va_W}
set_option maxRecDepth 100000 in
theorem k_X9_besideAll {o0 : Nat} {q0 : Nat → Nat} {x1 : Int32} {σ0 : pStt} {u : Int32} {index : Nat} (S : CX p m c cc nL s args own D cy) (hl : (Cond.methodLink own index yX9_besideAll).before args s = true) (hw : PW D A H0 Ps H locs) (hf : f_X9_besideAll x1 σ0 = some u) (js : List Nat) (hC : js.map (fun j => Ps[j]?) = [some (pX9 cy o0 q0 σ0)]) (hnd : js.Nodup) (hlen : js.length = 1) (hR : RMok rmX9_besideAll R 4) (hsize : ls.size = nL) (hrest : (rest.map fun v => v.category).sum ≤ 8) (hdg : decode cc pc = .ok (.invokevirtual index, 3)) (hcs : cells ≤ R.cells ∧ slots ≤ R.slots)
    (kk : ∀ (H1 : Heap) (locs1 : List Loc), PW D A H0 (setAll Ps js [pX9 cy o0 q0 σ0]) H1 locs1 → W p l e R s m args below meth c H1 locs1 cells slots Q (F0 m (pc + 3) ls (.int u :: rest))) : W p l e R s m args below meth c H locs cells slots Q (F0 m pc ls (.int x1 :: .ref o0 :: rest)) :=
  w_callV (n := 1) (ov := (some (.int u))) (As := [.int x1]) (Cs := [pX9 cy o0 q0 σ0]) (Cs' := [pX9 cy o0 q0 σ0]) S hw (c_X9_besideAll l D cy o0 q0 x1 σ0 u hf) (MF.of S.2.2.2.2 wd1035 wd79 (by decide)) (S.2.2.2.2.wd wd1034 rfl) (S.2.2.2.2.wd wd53 rfl) hl hR js hC hnd hlen rfl rfl rfl rfl hsize rfl hrest hdg hcs kk
end
abbrev rmX9_join : Room := { frames := 2, cells := 0, slots := 0, locals := 45 }
def fl_X9_join_23 (y2 : Int32) (σ0 : pStt) : Nat → Int32 → Int32 → Option ((Int32) ⊕ (Unit))
  | 0, _, _ => none
  | n + 1, y3, y4 => if 8 ≤ y4 then some (.inr (())) else (f_X9_has y3 y2).bind (fun u_6 => if u_6 = 0 then (f_X9_besideAll y3 σ0).bind (fun u_8 => fl_X9_join_23 y2 σ0 n ((y3 ||| u_8)) ((y4 + 1))) else some (.inl y4))
def f_X9_join (x1 : Int32) (x2 : Int32) (σ0 : pStt) : Option (Int32) := (f_X9_isCorner x1).bind (fun u_1 => if u_1 = 0 then some ((-1)) else (f_X9_isCorner x2).bind (fun u_3 => if u_3 = 0 then some ((-1)) else (fl_X9_join_23 x2 σ0 2000 (((1 : Int32) <<< (x1 &&& 31))) 0).bind (fun u_9 => sm (fun a_10 => some a_10) (fun a_11 => some ((-6))) u_9)))
section
variable {p : Program} {l : Launch} {e : Env} {s : State} {m : MethodId} {args : Array Value} {below : List Frame} {meth : Method} {c : Code} {Q : State → Prop} {D : va_G} {cy : Nat → ClassId} {A : Nat → Prop} {H0 : Heap}
set_option maxHeartbeats 4000000 in
set_option maxRecDepth 100000 in
theorem lp_X9_join_23 (S : CX p m c cX9_join 5 s args RX9 D cy) {o0 : Nat} {q0 : Nat → Nat} {σ0 : pStt} {y2 : Int32} : ∀ (n : Nat) (y3 : Int32) (y4 : Int32) (H : Heap) (locs : List Loc) (ls : Array Slot) (u : (Int32) ⊕ (Unit)), PW D A H0 [pX9 cy o0 q0 σ0] H locs → lv_has ls 5 [(0, .ref o0), (2, .int y2), (3, .int y3), (4, .int y4)] → fl_X9_join_23 y2 σ0 n y3 y4 = some u → (∀ a, u = .inl a → ∀ (H : Heap) (locs : List Loc) (ls : Array Slot), PW D A H0 [pX9 cy o0 q0 σ0] H locs → lv_has ls 5 [(4, .int a)] → W p l e rmX9_join s m args below meth c H locs 0 0 Q (F0 m 38 ls [])) → (∀ a, u = .inr a → ∀ (H : Heap) (locs : List Loc) (ls : Array Slot), PW D A H0 [pX9 cy o0 q0 σ0] H locs → lv_has ls 5 [] → W p l e rmX9_join s m args below meth c H locs 0 0 Q (F0 m 55 ls [])) → W p l e rmX9_join s m args below meth c H locs 0 0 Q (F0 m 23 ls []) := by
  intro n
  induction n with
  | zero =>
    intro y3 y4 H locs ls u hw hl hf K0 K1
    rw [fl_X9_join_23] at hf
    cases hf
  | succ n ih =>
    intro y3 y4 H locs ls u hw hl hf K0 K1
    rw [fl_X9_join_23] at hf
    refine lv_iload S.1 S.2.1 dX9_join_23 (lv_at hl 3 rfl) ?_
    refine lv_bipush (v := 8) S.1 S.2.1 dX9_join_25 (by decide) ?_
    refine lv_icmp_ge (tgt := 55) S.1 S.2.1 dX9_join_27 (by decide) (fun c_5 => ?_) (fun c_5 => ?_)
    · replace hf := (if_pos c_5).symm.trans hf
      cases hf
      exact K1 _ rfl _ _ _ hw (lv_sub hl [] rfl)
    · replace hf := (if_neg c_5).symm.trans hf
      refine lv_iload_n S.1 S.2.1 dX9_join_30 rfl (lv_at hl 2 rfl) ?_
      refine lv_iload_n S.1 S.2.1 dX9_join_31 rfl (lv_at hl 1 rfl) ?_
      obtain ⟨u_6, e_u_6, hf⟩ := ob hf
      refine k_X9_has S (S.2.2.2.2.wd wd943 rfl) hw e_u_6 [] rfl (by decide) rfl ⟨rfl, rfl, Nat.le_of_ble_eq_true rfl, Nat.le_of_ble_eq_true rfl⟩ hl.1 (Nat.le_of_ble_eq_true rfl) dX9_join_32 ⟨Nat.zero_le _, Nat.zero_le _⟩ (fun H locs hw => ?_)
      have hw : PW D A H0 [pX9 cy o0 q0 σ0] H locs := hw
      refine lv_if_eq (tgt := 41) S.1 S.2.1 dX9_join_35 (by decide) (fun c_7 => ?_) (fun c_7 => ?_)
      · replace hf := (if_pos c_7).symm.trans hf
        refine lv_iload_n S.1 S.2.1 dX9_join_41 rfl (lv_at hl 2 rfl) ?_
        refine lv_aload_n S.1 S.2.1 dX9_join_42 rfl (lv_at hl 0 rfl) ?_
        refine lv_iload_n S.1 S.2.1 dX9_join_43 rfl (lv_at hl 2 rfl) ?_
        obtain ⟨u_8, e_u_8, hf⟩ := ob hf
        refine k_X9_besideAll S (S.2.2.2.2.wd wd1032 rfl) hw e_u_8 [0] rfl (by decide) rfl ⟨rfl, rfl, Nat.le_of_ble_eq_true rfl, Nat.le_of_ble_eq_true rfl⟩ hl.1 (Nat.le_of_ble_eq_true rfl) dX9_join_44 ⟨Nat.zero_le _, Nat.zero_le _⟩ (fun H locs hw => ?_)
        have hw : PW D A H0 [pX9 cy o0 q0 σ0] H locs := hw
        refine lv_ior S.1 S.2.1 dX9_join_47 ?_
        refine lv_istore_n (lv' := [(3, .int ((y3 ||| u_8))), (0, .ref o0), (2, .int y2), (4, .int y4)]) S.1 S.2.1 dX9_join_48 rfl hl (by decide) rfl (fun ls hl => ?_)
        refine lv_iinc (v := (y4 + 1)) (lv' := [(4, .int ((y4 + 1))), (3, .int ((y3 ||| u_8))), (0, .ref o0), (2, .int y2)]) S.1 S.2.1 dX9_join_49 hl (k := 3) rfl rfl (by decide) rfl (fun ls hl => ?_)
        refine lv_goto (tgt := 23) S.1 S.2.1 dX9_join_52 (by decide) ?_
        exact ih _ _ _ _ _ _ hw (lv_sub hl [2, 3, 1, 0] rfl) hf K0 K1
      · replace hf := (if_neg c_7).symm.trans hf
        cases hf
        exact K0 _ rfl _ _ _ hw (lv_sub hl [3] rfl)
end
set_option maxHeartbeats 4000000 in
set_option maxRecDepth 100000 in
theorem c_X9_join (l : Launch) (D : va_G) (cy : Nat → ClassId) (o0 : Nat) (q0 : Nat → Nat) (x1 : Int32) (x2 : Int32) (σ0 : pStt) (u : Int32) (hf : f_X9_join x1 x2 σ0 = some u) : CT l yX9_join cX9_join 5 (some .int) rmX9_join D cy [.ref o0, .int x1, .int x2] [pX9 cy o0 q0 σ0] (some (.int u)) [pX9 cy o0 q0 σ0] := by
  refine CT.of (by decide) (Nat.le_of_ble_eq_true rfl) (fun p e s m args below meth c ls A Q hA hQ S hr hlk hl hw => ?_)
  have hl : lv_has ls 5 [(0, .ref o0), (1, .int x1), (2, .int x2)] := hl
  rw [f_X9_join] at hf
  refine lv_iload_n S.1 S.2.1 dX9_join_0 rfl (lv_at hl 1 rfl) ?_
  obtain ⟨u_1, e_u_1, hf⟩ := ob hf
  refine k_X9_isCorner S (S.2.2.2.2.wd wd814 rfl) hw e_u_1 [] rfl (by decide) rfl ⟨rfl, rfl, Nat.le_of_ble_eq_true rfl, Nat.le_of_ble_eq_true rfl⟩ hl.1 (Nat.le_of_ble_eq_true rfl) dX9_join_1 ⟨Nat.zero_le _, Nat.zero_le _⟩ (fun H locs hw => ?_)
  have hw : PW D A s.heap [pX9 cy o0 q0 σ0] H locs := hw
  refine lv_if_eq (tgt := 14) S.1 S.2.1 dX9_join_4 (by decide) (fun c_2 => ?_) (fun c_2 => ?_)
  · replace hf := (if_pos c_2).symm.trans hf
    refine lv_iconst (v := (-1)) S.1 S.2.1 dX9_join_14 (by decide) ?_
    cases hf
    exact w_iret S hr hlk hA hQ hw dX9_join_15
  · replace hf := (if_neg c_2).symm.trans hf
    refine lv_iload_n S.1 S.2.1 dX9_join_7 rfl (lv_at hl 2 rfl) ?_
    obtain ⟨u_3, e_u_3, hf⟩ := ob hf
    refine k_X9_isCorner S (S.2.2.2.2.wd wd814 rfl) hw e_u_3 [] rfl (by decide) rfl ⟨rfl, rfl, Nat.le_of_ble_eq_true rfl, Nat.le_of_ble_eq_true rfl⟩ hl.1 (Nat.le_of_ble_eq_true rfl) dX9_join_8 ⟨Nat.zero_le _, Nat.zero_le _⟩ (fun H locs hw => ?_)
    have hw : PW D A s.heap [pX9 cy o0 q0 σ0] H locs := hw
    refine lv_if_ne (tgt := 16) S.1 S.2.1 dX9_join_11 (by decide) (fun c_4 => ?_) (fun c_4 => ?_)
    · replace hf := (if_neg c_4).symm.trans hf
      refine lv_iconst (v := 1) S.1 S.2.1 dX9_join_16 (by decide) ?_
      refine lv_iload_n S.1 S.2.1 dX9_join_17 rfl (lv_at hl 1 rfl) ?_
      refine lv_ishl S.1 S.2.1 dX9_join_18 ?_
      refine lv_istore_n (lv' := [(3, .int (((1 : Int32) <<< (x1 &&& 31)))), (0, .ref o0), (1, .int x1), (2, .int x2)]) S.1 S.2.1 dX9_join_19 rfl hl (by decide) rfl (fun ls hl => ?_)
      refine lv_iconst (v := 0) S.1 S.2.1 dX9_join_20 (by decide) ?_
      refine lv_istore (lv' := [(4, .int 0), (3, .int (((1 : Int32) <<< (x1 &&& 31)))), (0, .ref o0), (1, .int x1), (2, .int x2)]) S.1 S.2.1 dX9_join_21 hl (by decide) rfl (fun ls hl => ?_)
      obtain ⟨u_9, e_u_9, hf⟩ := ob hf
      refine lp_X9_join_23 S 2000 _ _ _ _ _ _ hw (lv_sub hl [2, 4, 1, 0] rfl) e_u_9 ?_ ?_
      · intro a_10 h_a_10 H locs ls hw hl
        subst h_a_10
        replace hf := (sm_l _ _ _).symm.trans hf
        refine lv_iload S.1 S.2.1 dX9_join_38 (lv_at hl 0 rfl) ?_
        cases hf
        exact w_iret S hr hlk hA hQ hw dX9_join_40
      · intro a_11 h_a_11 H locs ls hw hl
        subst h_a_11
        replace hf := (sm_r _ _ _).symm.trans hf
        refine lv_bipush (v := (-6)) S.1 S.2.1 dX9_join_55 (by decide) ?_
        cases hf
        exact w_iret S hr hlk hA hQ hw dX9_join_57
    · replace hf := (if_pos c_4).symm.trans hf
      refine lv_iconst (v := (-1)) S.1 S.2.1 dX9_join_14 (by decide) ?_
      cases hf
      exact w_iret S hr hlk hA hQ hw dX9_join_15
section
variable {p : Program} {l : Launch} {e : Env} {R : Room} {s : State} {m : MethodId} {args : Array Value} {below : List Frame} {meth : Method} {c : Code} {H : Heap} {locs : List Loc} {cells slots : Nat} {Q : State → Prop} {cc : ByteArray} {pc nL : Nat} {ls : Array Slot} {rest : List Value} {D : va_G} {cy : Nat → ClassId} {A : Nat → Prop} {H0 : Heap} {own : String} {Ps : List va_W}
set_option maxRecDepth 100000 in
theorem k_X9_join {o0 : Nat} {q0 : Nat → Nat} {x1 : Int32} {x2 : Int32} {σ0 : pStt} {u : Int32} {index : Nat} (S : CX p m c cc nL s args own D cy) (hl : (Cond.methodLink own index yX9_join).before args s = true) (hw : PW D A H0 Ps H locs) (hf : f_X9_join x1 x2 σ0 = some u) (js : List Nat) (hC : js.map (fun j => Ps[j]?) = [some (pX9 cy o0 q0 σ0)]) (hnd : js.Nodup) (hlen : js.length = 1) (hR : RMok rmX9_join R 5) (hsize : ls.size = nL) (hrest : (rest.map fun v => v.category).sum ≤ 8) (hdg : decode cc pc = .ok (.invokevirtual index, 3)) (hcs : cells ≤ R.cells ∧ slots ≤ R.slots)
    (kk : ∀ (H1 : Heap) (locs1 : List Loc), PW D A H0 (setAll Ps js [pX9 cy o0 q0 σ0]) H1 locs1 → W p l e R s m args below meth c H1 locs1 cells slots Q (F0 m (pc + 3) ls (.int u :: rest))) : W p l e R s m args below meth c H locs cells slots Q (F0 m pc ls (.int x2 :: .int x1 :: .ref o0 :: rest)) :=
  w_callV (n := 2) (ov := (some (.int u))) (As := [.int x1, .int x2]) (Cs := [pX9 cy o0 q0 σ0]) (Cs' := [pX9 cy o0 q0 σ0]) S hw (c_X9_join l D cy o0 q0 x1 x2 σ0 u hf) (MF.of S.2.2.2.2 wd1031 wd79 (by decide)) (S.2.2.2.2.wd wd1029 rfl) (S.2.2.2.2.wd wd1030 rfl) hl hR js hC hnd hlen rfl rfl rfl rfl hsize rfl hrest hdg hcs kk
end
abbrev rmX9_waysOut : Room := { frames := 1, cells := 0, slots := 0, locals := 22 }
def fl_X9_waysOut_4 (y1 : Int32) (σ0 : pStt) : Nat → Int32 → Int32 → Option (Int32)
  | 0, _, _ => none
  | n + 1, y2, y3 => if 8 ≤ y3 then some y2 else (f_X9_has y1 y3).bind (fun u_2 => (if u_2 = 0 then some 0 else (ld (σ0.2 0) 8 y3).bind (fun x_5 => (f_X9_ones ((x_5 &&& (y1 ^^^ (-1 : Int32))))).bind (fun u_6 => some u_6)) : Option Int32).bind (fun v_3 => fl_X9_waysOut_4 y1 σ0 n ((y2 + v_3)) ((y3 + 1))))
def f_X9_waysOut (x1 : Int32) (σ0 : pStt) : Option (Int32) := (fl_X9_waysOut_4 x1 σ0 2000 0 0).bind (fun u_7 => some u_7)
section
variable {p : Program} {l : Launch} {e : Env} {s : State} {m : MethodId} {args : Array Value} {below : List Frame} {meth : Method} {c : Code} {Q : State → Prop} {D : va_G} {cy : Nat → ClassId} {A : Nat → Prop} {H0 : Heap}
set_option maxHeartbeats 4000000 in
set_option maxRecDepth 100000 in
theorem lp_X9_waysOut_4 (S : CX p m c cX9_waysOut 4 s args RX9 D cy) {o0 : Nat} {q0 : Nat → Nat} {σ0 : pStt} {y1 : Int32} : ∀ (n : Nat) (y2 : Int32) (y3 : Int32) (H : Heap) (locs : List Loc) (ls : Array Slot) (u : Int32), PW D A H0 [pX9 cy o0 q0 σ0] H locs → lv_has ls 4 [(0, .ref o0), (1, .int y1), (2, .int y2), (3, .int y3)] → fl_X9_waysOut_4 y1 σ0 n y2 y3 = some u → (∀ (H : Heap) (locs : List Loc) (ls : Array Slot), PW D A H0 [pX9 cy o0 q0 σ0] H locs → lv_has ls 4 [(2, .int u)] → W p l e rmX9_waysOut s m args below meth c H locs 0 0 Q (F0 m 44 ls [])) → W p l e rmX9_waysOut s m args below meth c H locs 0 0 Q (F0 m 4 ls []) := by
  intro n
  induction n with
  | zero =>
    intro y2 y3 H locs ls u hw hl hf K0
    rw [fl_X9_waysOut_4] at hf
    cases hf
  | succ n ih =>
    intro y2 y3 H locs ls u hw hl hf K0
    rw [fl_X9_waysOut_4] at hf
    refine lv_iload_n S.1 S.2.1 dX9_waysOut_4 rfl (lv_at hl 3 rfl) ?_
    refine lv_bipush (v := 8) S.1 S.2.1 dX9_waysOut_5 (by decide) ?_
    refine lv_icmp_ge (tgt := 44) S.1 S.2.1 dX9_waysOut_7 (by decide) (fun c_1 => ?_) (fun c_1 => ?_)
    · replace hf := (if_pos c_1).symm.trans hf
      cases hf
      exact K0 _ _ _ hw (lv_sub hl [2] rfl)
    · replace hf := (if_neg c_1).symm.trans hf
      refine lv_iload_n S.1 S.2.1 dX9_waysOut_10 rfl (lv_at hl 2 rfl) ?_
      refine lv_iload_n S.1 S.2.1 dX9_waysOut_11 rfl (lv_at hl 1 rfl) ?_
      refine lv_iload_n S.1 S.2.1 dX9_waysOut_12 rfl (lv_at hl 3 rfl) ?_
      obtain ⟨u_2, e_u_2, hf⟩ := ob hf
      refine k_X9_has S (S.2.2.2.2.wd wd943 rfl) hw e_u_2 [] rfl (by decide) rfl ⟨rfl, rfl, Nat.le_of_ble_eq_true rfl, Nat.le_of_ble_eq_true rfl⟩ hl.1 (Nat.le_of_ble_eq_true rfl) dX9_waysOut_13 ⟨Nat.zero_le _, Nat.zero_le _⟩ (fun H locs hw => ?_)
      have hw : PW D A H0 [pX9 cy o0 q0 σ0] H locs := hw
      obtain ⟨v_3, e_v_3, hf⟩ := ob hf
      have hJ_v_3 : ∀ (H : Heap) (locs : List Loc), PW D A H0 [pX9 cy o0 q0 σ0] H locs → W p l e rmX9_waysOut s m args below meth c H locs 0 0 Q (F0 m 36 ls [.int v_3, .int y2]) := by
        intro H locs hw
        refine lv_iadd S.1 S.2.1 dX9_waysOut_36 ?_
        refine lv_istore_n (lv' := [(2, .int ((y2 + v_3))), (0, .ref o0), (1, .int y1), (3, .int y3)]) S.1 S.2.1 dX9_waysOut_37 rfl hl (by decide) rfl (fun ls hl => ?_)
        refine lv_iinc (v := (y3 + 1)) (lv' := [(3, .int ((y3 + 1))), (2, .int ((y2 + v_3))), (0, .ref o0), (1, .int y1)]) S.1 S.2.1 dX9_waysOut_38 hl (k := 3) rfl rfl (by decide) rfl (fun ls hl => ?_)
        refine lv_goto (tgt := 4) S.1 S.2.1 dX9_waysOut_41 (by decide) ?_
        exact ih _ _ _ _ _ _ hw (lv_sub hl [2, 3, 1, 0] rfl) hf K0
      replace hf := e_v_3
      clear e_v_3
      refine lv_if_eq (tgt := 35) S.1 S.2.1 dX9_waysOut_16 (by decide) (fun c_4 => ?_) (fun c_4 => ?_)
      · replace hf := (if_pos c_4).symm.trans hf
        refine lv_iconst (v := 0) S.1 S.2.1 dX9_waysOut_35 (by decide) ?_
        cases hf
        exact hJ_v_3 _ _ hw
      · replace hf := (if_neg c_4).symm.trans hf
        refine lv_aload_n S.1 S.2.1 dX9_waysOut_19 rfl (lv_at hl 0 rfl) ?_
        refine gf_X9_7 S hw 0 rfl dX9_waysOut_20 ?_
        refine lv_iload_n S.1 S.2.1 dX9_waysOut_23 rfl (lv_at hl 3 rfl) ?_
        obtain ⟨x_5, e_x_5, hf⟩ := ob hf
        refine al_X9_0 S hw 0 rfl e_x_5 dX9_waysOut_24 ?_
        refine lv_iload_n S.1 S.2.1 dX9_waysOut_25 rfl (lv_at hl 1 rfl) ?_
        refine lv_iconst (v := (-1)) S.1 S.2.1 dX9_waysOut_26 (by decide) ?_
        refine lv_ixor S.1 S.2.1 dX9_waysOut_27 ?_
        refine lv_iand S.1 S.2.1 dX9_waysOut_28 ?_
        obtain ⟨u_6, e_u_6, hf⟩ := ob hf
        refine k_X9_ones S (S.2.2.2.2.wd wd829 rfl) hw e_u_6 [] rfl (by decide) rfl ⟨rfl, rfl, Nat.le_of_ble_eq_true rfl, Nat.le_of_ble_eq_true rfl⟩ hl.1 (Nat.le_of_ble_eq_true rfl) dX9_waysOut_29 ⟨Nat.zero_le _, Nat.zero_le _⟩ (fun H locs hw => ?_)
        have hw : PW D A H0 [pX9 cy o0 q0 σ0] H locs := hw
        refine lv_goto (tgt := 36) S.1 S.2.1 dX9_waysOut_32 (by decide) ?_
        cases hf
        exact hJ_v_3 _ _ hw
end
set_option maxHeartbeats 4000000 in
set_option maxRecDepth 100000 in
theorem c_X9_waysOut (l : Launch) (D : va_G) (cy : Nat → ClassId) (o0 : Nat) (q0 : Nat → Nat) (x1 : Int32) (σ0 : pStt) (u : Int32) (hf : f_X9_waysOut x1 σ0 = some u) : CT l yX9_waysOut cX9_waysOut 4 (some .int) rmX9_waysOut D cy [.ref o0, .int x1] [pX9 cy o0 q0 σ0] (some (.int u)) [pX9 cy o0 q0 σ0] := by
  refine CT.of (by decide) (Nat.le_of_ble_eq_true rfl) (fun p e s m args below meth c ls A Q hA hQ S hr hlk hl hw => ?_)
  have hl : lv_has ls 4 [(0, .ref o0), (1, .int x1)] := hl
  rw [f_X9_waysOut] at hf
  refine lv_iconst (v := 0) S.1 S.2.1 dX9_waysOut_0 (by decide) ?_
  refine lv_istore_n (lv' := [(2, .int 0), (0, .ref o0), (1, .int x1)]) S.1 S.2.1 dX9_waysOut_1 rfl hl (by decide) rfl (fun ls hl => ?_)
  refine lv_iconst (v := 0) S.1 S.2.1 dX9_waysOut_2 (by decide) ?_
  refine lv_istore_n (lv' := [(3, .int 0), (2, .int 0), (0, .ref o0), (1, .int x1)]) S.1 S.2.1 dX9_waysOut_3 rfl hl (by decide) rfl (fun ls hl => ?_)
  obtain ⟨u_7, e_u_7, hf⟩ := ob hf
  refine lp_X9_waysOut_4 S 2000 _ _ _ _ _ _ hw (lv_sub hl [2, 3, 1, 0] rfl) e_u_7 ?_
  · intro H locs ls hw hl
    refine lv_iload_n S.1 S.2.1 dX9_waysOut_44 rfl (lv_at hl 0 rfl) ?_
    cases hf
    exact w_iret S hr hlk hA hQ hw dX9_waysOut_45
section
variable {p : Program} {l : Launch} {e : Env} {R : Room} {s : State} {m : MethodId} {args : Array Value} {below : List Frame} {meth : Method} {c : Code} {H : Heap} {locs : List Loc} {cells slots : Nat} {Q : State → Prop} {cc : ByteArray} {pc nL : Nat} {ls : Array Slot} {rest : List Value} {D : va_G} {cy : Nat → ClassId} {A : Nat → Prop} {H0 : Heap} {own : String} {Ps : List va_W}
set_option maxRecDepth 100000 in
theorem k_X9_waysOut {o0 : Nat} {q0 : Nat → Nat} {x1 : Int32} {σ0 : pStt} {u : Int32} {index : Nat} (S : CX p m c cc nL s args own D cy) (hl : (Cond.methodLink own index yX9_waysOut).before args s = true) (hw : PW D A H0 Ps H locs) (hf : f_X9_waysOut x1 σ0 = some u) (js : List Nat) (hC : js.map (fun j => Ps[j]?) = [some (pX9 cy o0 q0 σ0)]) (hnd : js.Nodup) (hlen : js.length = 1) (hR : RMok rmX9_waysOut R 4) (hsize : ls.size = nL) (hrest : (rest.map fun v => v.category).sum ≤ 8) (hdg : decode cc pc = .ok (.invokevirtual index, 3)) (hcs : cells ≤ R.cells ∧ slots ≤ R.slots)
    (kk : ∀ (H1 : Heap) (locs1 : List Loc), PW D A H0 (setAll Ps js [pX9 cy o0 q0 σ0]) H1 locs1 → W p l e R s m args below meth c H1 locs1 cells slots Q (F0 m (pc + 3) ls (.int u :: rest))) : W p l e R s m args below meth c H locs cells slots Q (F0 m pc ls (.int x1 :: .ref o0 :: rest)) :=
  w_callV (n := 1) (ov := (some (.int u))) (As := [.int x1]) (Cs := [pX9 cy o0 q0 σ0]) (Cs' := [pX9 cy o0 q0 σ0]) S hw (c_X9_waysOut l D cy o0 q0 x1 σ0 u hf) (MF.of S.2.2.2.2 wd1043 wd79 (by decide)) (S.2.2.2.2.wd wd1042 rfl) (S.2.2.2.2.wd wd54 rfl) hl hR js hC hnd hlen rfl rfl rfl rfl hsize rfl hrest hdg hcs kk
end
abbrev rmX9_cut : Room := { frames := 2, cells := 0, slots := 0, locals := 45 }
def fl_X9_cut_41 (y1 : Int32) (y2 : Int32) (y3 : Int32) (σ0 : pStt) : Nat → Int32 → Int32 → Option (Int32)
  | 0, _, _ => none
  | n + 1, y4, y5 => if 256 ≤ y5 then some y4 else (f_X9_has y5 y1).bind (fun u_9 => (if u_9 = 0 then some 0 else (f_X9_has y5 y2).bind (fun u_18 => if u_18 = 0 then some 1 else some 0) : Option Int32).bind (fun v_10 => (if v_10 = 0 then some y4 else if y4 < 0 then some y5 else (f_X9_waysOut y5 σ0).bind (fun u_14 => (f_X9_waysOut y4 σ0).bind (fun u_15 => if u_15 ≤ u_14 then some y4 else some y5)) : Option Int32).bind (fun v_11 => fl_X9_cut_41 y1 y2 y3 σ0 n v_11 ((y5 + 1)))))
def f_X9_cut (x1 : Int32) (x2 : Int32) (x3 : Int32) (σ0 : pStt) : Option (Int32) := (f_X9_isCorner x1).bind (fun u_1 => if u_1 = 0 then some ((-1)) else (f_X9_isCorner x2).bind (fun u_3 => if u_3 = 0 then some ((-1)) else if x1 = x2 then some ((-2)) else (f_X9_in ((x3 : Int32).toInt64) 0 1).bind (fun u_6 => if u_6 = 0 then some ((-2)) else (fl_X9_cut_41 x1 x2 x3 σ0 2000 ((-6)) 0).bind (fun u_20 => (if x3 = 0 then (f_X9_waysOut u_20 σ0).bind (fun u_23 => some u_23) else some u_20 : Option Int32).bind (fun v_21 => some v_21)))))
section
variable {p : Program} {l : Launch} {e : Env} {s : State} {m : MethodId} {args : Array Value} {below : List Frame} {meth : Method} {c : Code} {Q : State → Prop} {D : va_G} {cy : Nat → ClassId} {A : Nat → Prop} {H0 : Heap}
set_option maxHeartbeats 4000000 in
set_option maxRecDepth 100000 in
theorem lp_X9_cut_41 (S : CX p m c cX9_cut 7 s args RX9 D cy) {o0 : Nat} {q0 : Nat → Nat} {σ0 : pStt} {y1 : Int32} {y2 : Int32} {y3 : Int32} : ∀ (n : Nat) (y4 : Int32) (y5 : Int32) (H : Heap) (locs : List Loc) (ls : Array Slot) (u : Int32), PW D A H0 [pX9 cy o0 q0 σ0] H locs → lv_has ls 7 [(0, .ref o0), (1, .int y1), (2, .int y2), (3, .int y3), (4, .int y4), (5, .int y5)] → fl_X9_cut_41 y1 y2 y3 σ0 n y4 y5 = some u → (∀ (H : Heap) (locs : List Loc) (ls : Array Slot), PW D A H0 [pX9 cy o0 q0 σ0] H locs → lv_has ls 7 [(0, .ref o0), (3, .int y3), (4, .int u)] → W p l e rmX9_cut s m args below meth c H locs 0 0 Q (F0 m 114 ls [])) → W p l e rmX9_cut s m args below meth c H locs 0 0 Q (F0 m 41 ls []) := by
  intro n
  induction n with
  | zero =>
    intro y4 y5 H locs ls u hw hl hf K0
    rw [fl_X9_cut_41] at hf
    cases hf
  | succ n ih =>
    intro y4 y5 H locs ls u hw hl hf K0
    rw [fl_X9_cut_41] at hf
    refine lv_iload S.1 S.2.1 dX9_cut_41 (lv_at hl 5 rfl) ?_
    refine lv_sipush (v := 256) S.1 S.2.1 dX9_cut_43 (by decide) ?_
    refine lv_icmp_ge (tgt := 114) S.1 S.2.1 dX9_cut_46 (by decide) (fun c_8 => ?_) (fun c_8 => ?_)
    · replace hf := (if_pos c_8).symm.trans hf
      cases hf
      exact K0 _ _ _ hw (lv_sub hl [0, 3, 4] rfl)
    · replace hf := (if_neg c_8).symm.trans hf
      refine lv_iload S.1 S.2.1 dX9_cut_49 (lv_at hl 5 rfl) ?_
      refine lv_iload_n S.1 S.2.1 dX9_cut_51 rfl (lv_at hl 1 rfl) ?_
      obtain ⟨u_9, e_u_9, hf⟩ := ob hf
      refine k_X9_has S (S.2.2.2.2.wd wd943 rfl) hw e_u_9 [] rfl (by decide) rfl ⟨rfl, rfl, Nat.le_of_ble_eq_true rfl, Nat.le_of_ble_eq_true rfl⟩ hl.1 (Nat.le_of_ble_eq_true rfl) dX9_cut_52 ⟨Nat.zero_le _, Nat.zero_le _⟩ (fun H locs hw => ?_)
      have hw : PW D A H0 [pX9 cy o0 q0 σ0] H locs := hw
      obtain ⟨v_10, e_v_10, hf⟩ := ob hf
      have hJ_v_10 : ∀ (H : Heap) (locs : List Loc), PW D A H0 [pX9 cy o0 q0 σ0] H locs → W p l e rmX9_cut s m args below meth c H locs 0 0 Q (F0 m 72 ls [.int v_10]) := by
        intro H locs hw
        refine lv_istore (lv' := [(6, .int v_10), (0, .ref o0), (1, .int y1), (2, .int y2), (3, .int y3), (4, .int y4), (5, .int y5)]) S.1 S.2.1 dX9_cut_72 hl (by decide) rfl (fun ls hl => ?_)
        refine lv_iload S.1 S.2.1 dX9_cut_74 (lv_at hl 0 rfl) ?_
        obtain ⟨v_11, e_v_11, hf⟩ := ob hf
        have hJ_v_11 : ∀ (H : Heap) (locs : List Loc), PW D A H0 [pX9 cy o0 q0 σ0] H locs → W p l e rmX9_cut s m args below meth c H locs 0 0 Q (F0 m 106 ls [.int v_11]) := by
          intro H locs hw
          refine lv_istore (lv' := [(4, .int v_11), (6, .int v_10), (0, .ref o0), (1, .int y1), (2, .int y2), (3, .int y3), (5, .int y5)]) S.1 S.2.1 dX9_cut_106 hl (by decide) rfl (fun ls hl => ?_)
          refine lv_iinc (v := (y5 + 1)) (lv' := [(5, .int ((y5 + 1))), (4, .int v_11), (6, .int v_10), (0, .ref o0), (1, .int y1), (2, .int y2), (3, .int y3)]) S.1 S.2.1 dX9_cut_108 hl (k := 6) rfl rfl (by decide) rfl (fun ls hl => ?_)
          refine lv_goto (tgt := 41) S.1 S.2.1 dX9_cut_111 (by decide) ?_
          exact ih _ _ _ _ _ _ hw (lv_sub hl [3, 4, 5, 6, 1, 0] rfl) hf K0
        replace hf := e_v_11
        clear e_v_11
        refine lv_if_eq (tgt := 104) S.1 S.2.1 dX9_cut_76 (by decide) (fun c_12 => ?_) (fun c_12 => ?_)
        · replace hf := (if_pos c_12).symm.trans hf
          refine lv_iload S.1 S.2.1 dX9_cut_104 (lv_at hl 5 rfl) ?_
          cases hf
          exact hJ_v_11 _ _ hw
        · replace hf := (if_neg c_12).symm.trans hf
          refine lv_iload S.1 S.2.1 dX9_cut_79 (lv_at hl 5 rfl) ?_
          refine lv_if_lt (tgt := 99) S.1 S.2.1 dX9_cut_81 (by decide) (fun c_13 => ?_) (fun c_13 => ?_)
          · replace hf := (if_pos c_13).symm.trans hf
            refine lv_iload S.1 S.2.1 dX9_cut_99 (lv_at hl 6 rfl) ?_
            refine lv_goto (tgt := 106) S.1 S.2.1 dX9_cut_101 (by decide) ?_
            cases hf
            exact hJ_v_11 _ _ hw
          · replace hf := (if_neg c_13).symm.trans hf
            refine lv_aload_n S.1 S.2.1 dX9_cut_84 rfl (lv_at hl 1 rfl) ?_
            refine lv_iload S.1 S.2.1 dX9_cut_85 (lv_at hl 6 rfl) ?_
            obtain ⟨u_14, e_u_14, hf⟩ := ob hf
            refine k_X9_waysOut S (S.2.2.2.2.wd wd1040 rfl) hw e_u_14 [0] rfl (by decide) rfl ⟨rfl, rfl, Nat.le_of_ble_eq_true rfl, Nat.le_of_ble_eq_true rfl⟩ hl.1 (Nat.le_of_ble_eq_true rfl) dX9_cut_87 ⟨Nat.zero_le _, Nat.zero_le _⟩ (fun H locs hw => ?_)
            have hw : PW D A H0 [pX9 cy o0 q0 σ0] H locs := hw
            refine lv_aload_n S.1 S.2.1 dX9_cut_90 rfl (lv_at hl 1 rfl) ?_
            refine lv_iload S.1 S.2.1 dX9_cut_91 (lv_at hl 5 rfl) ?_
            obtain ⟨u_15, e_u_15, hf⟩ := ob hf
            refine k_X9_waysOut S (S.2.2.2.2.wd wd1040 rfl) hw e_u_15 [0] rfl (by decide) rfl ⟨rfl, rfl, Nat.le_of_ble_eq_true rfl, Nat.le_of_ble_eq_true rfl⟩ hl.1 (Nat.le_of_ble_eq_true rfl) dX9_cut_93 ⟨Nat.zero_le _, Nat.zero_le _⟩ (fun H locs hw => ?_)
            have hw : PW D A H0 [pX9 cy o0 q0 σ0] H locs := hw
            refine lv_icmp_ge (tgt := 104) S.1 S.2.1 dX9_cut_96 (by decide) (fun c_16 => ?_) (fun c_16 => ?_)
            · replace hf := (if_pos c_16).symm.trans hf
              refine lv_iload S.1 S.2.1 dX9_cut_104 (lv_at hl 5 rfl) ?_
              cases hf
              exact hJ_v_11 _ _ hw
            · replace hf := (if_neg c_16).symm.trans hf
              refine lv_iload S.1 S.2.1 dX9_cut_99 (lv_at hl 6 rfl) ?_
              refine lv_goto (tgt := 106) S.1 S.2.1 dX9_cut_101 (by decide) ?_
              cases hf
              exact hJ_v_11 _ _ hw
      replace hf := e_v_10
      clear e_v_10
      refine lv_if_eq (tgt := 71) S.1 S.2.1 dX9_cut_55 (by decide) (fun c_17 => ?_) (fun c_17 => ?_)
      · replace hf := (if_pos c_17).symm.trans hf
        refine lv_iconst (v := 0) S.1 S.2.1 dX9_cut_71 (by decide) ?_
        cases hf
        exact hJ_v_10 _ _ hw
      · replace hf := (if_neg c_17).symm.trans hf
        refine lv_iload S.1 S.2.1 dX9_cut_58 (lv_at hl 5 rfl) ?_
        refine lv_iload_n S.1 S.2.1 dX9_cut_60 rfl (lv_at hl 2 rfl) ?_
        obtain ⟨u_18, e_u_18, hf⟩ := ob hf
        refine k_X9_has S (S.2.2.2.2.wd wd943 rfl) hw e_u_18 [] rfl (by decide) rfl ⟨rfl, rfl, Nat.le_of_ble_eq_true rfl, Nat.le_of_ble_eq_true rfl⟩ hl.1 (Nat.le_of_ble_eq_true rfl) dX9_cut_61 ⟨Nat.zero_le _, Nat.zero_le _⟩ (fun H locs hw => ?_)
        have hw : PW D A H0 [pX9 cy o0 q0 σ0] H locs := hw
        refine lv_if_ne (tgt := 71) S.1 S.2.1 dX9_cut_64 (by decide) (fun c_19 => ?_) (fun c_19 => ?_)
        · replace hf := (if_neg c_19).symm.trans hf
          refine lv_iconst (v := 0) S.1 S.2.1 dX9_cut_71 (by decide) ?_
          cases hf
          exact hJ_v_10 _ _ hw
        · replace hf := (if_pos c_19).symm.trans hf
          refine lv_iconst (v := 1) S.1 S.2.1 dX9_cut_67 (by decide) ?_
          refine lv_goto (tgt := 72) S.1 S.2.1 dX9_cut_68 (by decide) ?_
          cases hf
          exact hJ_v_10 _ _ hw
end
set_option maxHeartbeats 4000000 in
set_option maxRecDepth 100000 in
theorem c_X9_cut (l : Launch) (D : va_G) (cy : Nat → ClassId) (o0 : Nat) (q0 : Nat → Nat) (x1 : Int32) (x2 : Int32) (x3 : Int32) (σ0 : pStt) (u : Int32) (hf : f_X9_cut x1 x2 x3 σ0 = some u) : CT l yX9_cut cX9_cut 7 (some .int) rmX9_cut D cy [.ref o0, .int x1, .int x2, .int x3] [pX9 cy o0 q0 σ0] (some (.int u)) [pX9 cy o0 q0 σ0] := by
  refine CT.of (by decide) (Nat.le_of_ble_eq_true rfl) (fun p e s m args below meth c ls A Q hA hQ S hr hlk hl hw => ?_)
  have hl : lv_has ls 7 [(0, .ref o0), (1, .int x1), (2, .int x2), (3, .int x3)] := hl
  rw [f_X9_cut] at hf
  refine lv_iload_n S.1 S.2.1 dX9_cut_0 rfl (lv_at hl 1 rfl) ?_
  obtain ⟨u_1, e_u_1, hf⟩ := ob hf
  refine k_X9_isCorner S (S.2.2.2.2.wd wd814 rfl) hw e_u_1 [] rfl (by decide) rfl ⟨rfl, rfl, Nat.le_of_ble_eq_true rfl, Nat.le_of_ble_eq_true rfl⟩ hl.1 (Nat.le_of_ble_eq_true rfl) dX9_cut_1 ⟨Nat.zero_le _, Nat.zero_le _⟩ (fun H locs hw => ?_)
  have hw : PW D A s.heap [pX9 cy o0 q0 σ0] H locs := hw
  refine lv_if_eq (tgt := 14) S.1 S.2.1 dX9_cut_4 (by decide) (fun c_2 => ?_) (fun c_2 => ?_)
  · replace hf := (if_pos c_2).symm.trans hf
    refine lv_iconst (v := (-1)) S.1 S.2.1 dX9_cut_14 (by decide) ?_
    cases hf
    exact w_iret S hr hlk hA hQ hw dX9_cut_15
  · replace hf := (if_neg c_2).symm.trans hf
    refine lv_iload_n S.1 S.2.1 dX9_cut_7 rfl (lv_at hl 2 rfl) ?_
    obtain ⟨u_3, e_u_3, hf⟩ := ob hf
    refine k_X9_isCorner S (S.2.2.2.2.wd wd814 rfl) hw e_u_3 [] rfl (by decide) rfl ⟨rfl, rfl, Nat.le_of_ble_eq_true rfl, Nat.le_of_ble_eq_true rfl⟩ hl.1 (Nat.le_of_ble_eq_true rfl) dX9_cut_8 ⟨Nat.zero_le _, Nat.zero_le _⟩ (fun H locs hw => ?_)
    have hw : PW D A s.heap [pX9 cy o0 q0 σ0] H locs := hw
    refine lv_if_ne (tgt := 16) S.1 S.2.1 dX9_cut_11 (by decide) (fun c_4 => ?_) (fun c_4 => ?_)
    · replace hf := (if_neg c_4).symm.trans hf
      refine lv_iload_n S.1 S.2.1 dX9_cut_16 rfl (lv_at hl 1 rfl) ?_
      refine lv_iload_n S.1 S.2.1 dX9_cut_17 rfl (lv_at hl 2 rfl) ?_
      refine lv_icmp_eq (tgt := 31) S.1 S.2.1 dX9_cut_18 (by decide) (fun c_5 => ?_) (fun c_5 => ?_)
      · replace hf := (if_pos c_5).symm.trans hf
        refine lv_bipush (v := (-2)) S.1 S.2.1 dX9_cut_31 (by decide) ?_
        cases hf
        exact w_iret S hr hlk hA hQ hw dX9_cut_33
      · replace hf := (if_neg c_5).symm.trans hf
        refine lv_iload_n S.1 S.2.1 dX9_cut_21 rfl (lv_at hl 3 rfl) ?_
        refine lv_i2l (v := (x3 : Int32).toInt64) S.1 S.2.1 dX9_cut_22 rfl ?_
        refine lv_lconst (v := 0) S.1 S.2.1 dX9_cut_23 (by decide) ?_
        refine lv_lconst (v := 1) S.1 S.2.1 dX9_cut_24 (by decide) ?_
        obtain ⟨u_6, e_u_6, hf⟩ := ob hf
        refine k_X9_in S (S.2.2.2.2.wd wd818 rfl) hw e_u_6 [] rfl (by decide) rfl ⟨rfl, rfl, Nat.le_of_ble_eq_true rfl, Nat.le_of_ble_eq_true rfl⟩ hl.1 (Nat.le_of_ble_eq_true rfl) dX9_cut_25 ⟨Nat.zero_le _, Nat.zero_le _⟩ (fun H locs hw => ?_)
        have hw : PW D A s.heap [pX9 cy o0 q0 σ0] H locs := hw
        refine lv_if_ne (tgt := 34) S.1 S.2.1 dX9_cut_28 (by decide) (fun c_7 => ?_) (fun c_7 => ?_)
        · replace hf := (if_neg c_7).symm.trans hf
          refine lv_bipush (v := (-6)) S.1 S.2.1 dX9_cut_34 (by decide) ?_
          refine lv_istore (lv' := [(4, .int ((-6))), (0, .ref o0), (1, .int x1), (2, .int x2), (3, .int x3)]) S.1 S.2.1 dX9_cut_36 hl (by decide) rfl (fun ls hl => ?_)
          refine lv_iconst (v := 0) S.1 S.2.1 dX9_cut_38 (by decide) ?_
          refine lv_istore (lv' := [(5, .int 0), (4, .int ((-6))), (0, .ref o0), (1, .int x1), (2, .int x2), (3, .int x3)]) S.1 S.2.1 dX9_cut_39 hl (by decide) rfl (fun ls hl => ?_)
          obtain ⟨u_20, e_u_20, hf⟩ := ob hf
          refine lp_X9_cut_41 S 2000 _ _ _ _ _ _ hw (lv_sub hl [2, 3, 4, 5, 1, 0] rfl) e_u_20 ?_
          · intro H locs ls hw hl
            refine lv_iload_n S.1 S.2.1 dX9_cut_114 rfl (lv_at hl 1 rfl) ?_
            obtain ⟨v_21, e_v_21, hf⟩ := ob hf
            have hJ_v_21 : ∀ (H : Heap) (locs : List Loc), PW D A s.heap [pX9 cy o0 q0 σ0] H locs → W p l e rmX9_cut s m args below meth c H locs 0 0 Q (F0 m 129 ls [.int v_21]) := by
              intro H locs hw
              cases hf
              exact w_iret S hr hlk hA hQ hw dX9_cut_129
            replace hf := e_v_21
            clear e_v_21
            refine lv_if_ne (tgt := 127) S.1 S.2.1 dX9_cut_115 (by decide) (fun c_22 => ?_) (fun c_22 => ?_)
            · replace hf := (if_neg c_22).symm.trans hf
              refine lv_iload S.1 S.2.1 dX9_cut_127 (lv_at hl 2 rfl) ?_
              cases hf
              exact hJ_v_21 _ _ hw
            · replace hf := (if_pos c_22).symm.trans hf
              refine lv_aload_n S.1 S.2.1 dX9_cut_118 rfl (lv_at hl 0 rfl) ?_
              refine lv_iload S.1 S.2.1 dX9_cut_119 (lv_at hl 2 rfl) ?_
              obtain ⟨u_23, e_u_23, hf⟩ := ob hf
              refine k_X9_waysOut S (S.2.2.2.2.wd wd1040 rfl) hw e_u_23 [0] rfl (by decide) rfl ⟨rfl, rfl, Nat.le_of_ble_eq_true rfl, Nat.le_of_ble_eq_true rfl⟩ hl.1 (Nat.le_of_ble_eq_true rfl) dX9_cut_121 ⟨Nat.zero_le _, Nat.zero_le _⟩ (fun H locs hw => ?_)
              have hw : PW D A s.heap [pX9 cy o0 q0 σ0] H locs := hw
              refine lv_goto (tgt := 129) S.1 S.2.1 dX9_cut_124 (by decide) ?_
              cases hf
              exact hJ_v_21 _ _ hw
        · replace hf := (if_pos c_7).symm.trans hf
          refine lv_bipush (v := (-2)) S.1 S.2.1 dX9_cut_31 (by decide) ?_
          cases hf
          exact w_iret S hr hlk hA hQ hw dX9_cut_33
    · replace hf := (if_pos c_4).symm.trans hf
      refine lv_iconst (v := (-1)) S.1 S.2.1 dX9_cut_14 (by decide) ?_
      cases hf
      exact w_iret S hr hlk hA hQ hw dX9_cut_15
section
variable {p : Program} {l : Launch} {e : Env} {R : Room} {s : State} {m : MethodId} {args : Array Value} {below : List Frame} {meth : Method} {c : Code} {H : Heap} {locs : List Loc} {cells slots : Nat} {Q : State → Prop} {cc : ByteArray} {pc nL : Nat} {ls : Array Slot} {rest : List Value} {D : va_G} {cy : Nat → ClassId} {A : Nat → Prop} {H0 : Heap} {own : String} {Ps : List va_W}
set_option maxRecDepth 100000 in
theorem k_X9_cut {o0 : Nat} {q0 : Nat → Nat} {x1 : Int32} {x2 : Int32} {x3 : Int32} {σ0 : pStt} {u : Int32} {index : Nat} (S : CX p m c cc nL s args own D cy) (hl : (Cond.methodLink own index yX9_cut).before args s = true) (hw : PW D A H0 Ps H locs) (hf : f_X9_cut x1 x2 x3 σ0 = some u) (js : List Nat) (hC : js.map (fun j => Ps[j]?) = [some (pX9 cy o0 q0 σ0)]) (hnd : js.Nodup) (hlen : js.length = 1) (hR : RMok rmX9_cut R 7) (hsize : ls.size = nL) (hrest : (rest.map fun v => v.category).sum ≤ 8) (hdg : decode cc pc = .ok (.invokevirtual index, 3)) (hcs : cells ≤ R.cells ∧ slots ≤ R.slots)
    (kk : ∀ (H1 : Heap) (locs1 : List Loc), PW D A H0 (setAll Ps js [pX9 cy o0 q0 σ0]) H1 locs1 → W p l e R s m args below meth c H1 locs1 cells slots Q (F0 m (pc + 3) ls (.int u :: rest))) : W p l e R s m args below meth c H locs cells slots Q (F0 m pc ls (.int x3 :: .int x2 :: .int x1 :: .ref o0 :: rest)) :=
  w_callV (n := 3) (ov := (some (.int u))) (As := [.int x1, .int x2, .int x3]) (Cs := [pX9 cy o0 q0 σ0]) (Cs' := [pX9 cy o0 q0 σ0]) S hw (c_X9_cut l D cy o0 q0 x1 x2 x3 σ0 u hf) (MF.of S.2.2.2.2 wd1039 wd79 (by decide)) (S.2.2.2.2.wd wd1037 rfl) (S.2.2.2.2.wd wd1038 rfl) hl hR js hC hnd hlen rfl rfl rfl rfl hsize rfl hrest hdg hcs kk
end
abbrev rmX9_rule : Room := { frames := 1, cells := 0, slots := 0, locals := 25 }
def f_X9_rule (x1 : Int32) (x2 : Int32) (x3 : Int32) (σ0 : pStt) : Option (Int32 × pStt) := (f_X9_in ((x1 : Int32).toInt64) 0 9).bind (fun u_1 => if u_1 = 0 then some ((-2), σ0) else (f_X9_in ((x2 : Int32).toInt64) 0 9).bind (fun u_3 => if u_3 = 0 then some ((-2), σ0) else (f_X9_in ((x3 : Int32).toInt64) 0 9).bind (fun u_5 => if u_5 = 0 then some ((-2), σ0) else if (σ0.1 2) = 12 then some ((-4), σ0) else (stA σ0 5 12 ((σ0.1 2)) x1).bind (fun σ_8 => (stA σ_8 6 12 ((σ_8.1 2)) x2).bind (fun σ_9 => (stA σ_9 7 12 ((σ_9.1 2)) x3).bind (fun σ_10 => (some (sI σ_10 2 (((σ_10.1 2) + (1 : Int32))))).bind (fun σ_11 => some ((σ_11.1 2), σ_11))))))))
set_option maxHeartbeats 4000000 in
set_option maxRecDepth 100000 in
theorem c_X9_rule (l : Launch) (D : va_G) (cy : Nat → ClassId) (o0 : Nat) (q0 : Nat → Nat) (x1 : Int32) (x2 : Int32) (x3 : Int32) (σ0 : pStt) (u : Int32 × pStt) (hf : f_X9_rule x1 x2 x3 σ0 = some u) : CT l yX9_rule cX9_rule 4 (some .int) rmX9_rule D cy [.ref o0, .int x1, .int x2, .int x3] [pX9 cy o0 q0 σ0] (some (.int u.1)) [pX9 cy o0 q0 u.2] := by
  refine CT.of (by decide) (Nat.le_of_ble_eq_true rfl) (fun p e s m args below meth c ls A Q hA hQ S hr hlk hl hw => ?_)
  have hl : lv_has ls 4 [(0, .ref o0), (1, .int x1), (2, .int x2), (3, .int x3)] := hl
  rw [f_X9_rule] at hf
  refine lv_iload_n S.1 S.2.1 dX9_rule_0 rfl (lv_at hl 1 rfl) ?_
  refine lv_i2l (v := (x1 : Int32).toInt64) S.1 S.2.1 dX9_rule_1 rfl ?_
  refine lv_lconst (v := 0) S.1 S.2.1 dX9_rule_2 (by decide) ?_
  refine lv_ldc2 (v := 9) S.1 S.2.1 S.2.2.2.1 (S.2.2.2.2.wd wd852 rfl) dX9_rule_3 ?_
  obtain ⟨u_1, e_u_1, hf⟩ := ob hf
  refine k_X9_in S (S.2.2.2.2.wd wd818 rfl) hw e_u_1 [] rfl (by decide) rfl ⟨rfl, rfl, Nat.le_of_ble_eq_true rfl, Nat.le_of_ble_eq_true rfl⟩ hl.1 (Nat.le_of_ble_eq_true rfl) dX9_rule_6 ⟨Nat.zero_le _, Nat.zero_le _⟩ (fun H locs hw => ?_)
  have hw : PW D A s.heap [pX9 cy o0 q0 σ0] H locs := hw
  refine lv_if_eq (tgt := 36) S.1 S.2.1 dX9_rule_9 (by decide) (fun c_2 => ?_) (fun c_2 => ?_)
  · replace hf := (if_pos c_2).symm.trans hf
    refine lv_bipush (v := (-2)) S.1 S.2.1 dX9_rule_36 (by decide) ?_
    cases hf
    exact w_iret S hr hlk hA hQ hw dX9_rule_38
  · replace hf := (if_neg c_2).symm.trans hf
    refine lv_iload_n S.1 S.2.1 dX9_rule_12 rfl (lv_at hl 2 rfl) ?_
    refine lv_i2l (v := (x2 : Int32).toInt64) S.1 S.2.1 dX9_rule_13 rfl ?_
    refine lv_lconst (v := 0) S.1 S.2.1 dX9_rule_14 (by decide) ?_
    refine lv_ldc2 (v := 9) S.1 S.2.1 S.2.2.2.1 (S.2.2.2.2.wd wd852 rfl) dX9_rule_15 ?_
    obtain ⟨u_3, e_u_3, hf⟩ := ob hf
    refine k_X9_in S (S.2.2.2.2.wd wd818 rfl) hw e_u_3 [] rfl (by decide) rfl ⟨rfl, rfl, Nat.le_of_ble_eq_true rfl, Nat.le_of_ble_eq_true rfl⟩ hl.1 (Nat.le_of_ble_eq_true rfl) dX9_rule_18 ⟨Nat.zero_le _, Nat.zero_le _⟩ (fun H locs hw => ?_)
    have hw : PW D A s.heap [pX9 cy o0 q0 σ0] H locs := hw
    refine lv_if_eq (tgt := 36) S.1 S.2.1 dX9_rule_21 (by decide) (fun c_4 => ?_) (fun c_4 => ?_)
    · replace hf := (if_pos c_4).symm.trans hf
      refine lv_bipush (v := (-2)) S.1 S.2.1 dX9_rule_36 (by decide) ?_
      cases hf
      exact w_iret S hr hlk hA hQ hw dX9_rule_38
    · replace hf := (if_neg c_4).symm.trans hf
      refine lv_iload_n S.1 S.2.1 dX9_rule_24 rfl (lv_at hl 3 rfl) ?_
      refine lv_i2l (v := (x3 : Int32).toInt64) S.1 S.2.1 dX9_rule_25 rfl ?_
      refine lv_lconst (v := 0) S.1 S.2.1 dX9_rule_26 (by decide) ?_
      refine lv_ldc2 (v := 9) S.1 S.2.1 S.2.2.2.1 (S.2.2.2.2.wd wd852 rfl) dX9_rule_27 ?_
      obtain ⟨u_5, e_u_5, hf⟩ := ob hf
      refine k_X9_in S (S.2.2.2.2.wd wd818 rfl) hw e_u_5 [] rfl (by decide) rfl ⟨rfl, rfl, Nat.le_of_ble_eq_true rfl, Nat.le_of_ble_eq_true rfl⟩ hl.1 (Nat.le_of_ble_eq_true rfl) dX9_rule_30 ⟨Nat.zero_le _, Nat.zero_le _⟩ (fun H locs hw => ?_)
      have hw : PW D A s.heap [pX9 cy o0 q0 σ0] H locs := hw
      refine lv_if_ne (tgt := 39) S.1 S.2.1 dX9_rule_33 (by decide) (fun c_6 => ?_) (fun c_6 => ?_)
      · replace hf := (if_neg c_6).symm.trans hf
        refine lv_aload_n S.1 S.2.1 dX9_rule_39 rfl (lv_at hl 0 rfl) ?_
        refine gf_X9_281 S hw 0 rfl dX9_rule_40 ?_
        refine lv_bipush (v := 12) S.1 S.2.1 dX9_rule_43 (by decide) ?_
        refine lv_icmp_ne (tgt := 51) S.1 S.2.1 dX9_rule_45 (by decide) (fun c_7 => ?_) (fun c_7 => ?_)
        · replace hf := (if_neg c_7).symm.trans hf
          refine lv_aload_n S.1 S.2.1 dX9_rule_51 rfl (lv_at hl 0 rfl) ?_
          refine gf_X9_25 S hw 0 rfl dX9_rule_52 ?_
          refine lv_aload_n S.1 S.2.1 dX9_rule_55 rfl (lv_at hl 0 rfl) ?_
          refine gf_X9_281 S hw 0 rfl dX9_rule_56 ?_
          refine lv_iload_n S.1 S.2.1 dX9_rule_59 rfl (lv_at hl 1 rfl) ?_
          obtain ⟨σ_8, e_σ_8, hf⟩ := ob hf
          refine as_X9_5 S hw 0 rfl e_σ_8 dX9_rule_60 (fun H locs hw => ?_)
          have hw : PW D A s.heap [pX9 cy o0 q0 σ_8] H locs := hw
          refine lv_aload_n S.1 S.2.1 dX9_rule_61 rfl (lv_at hl 0 rfl) ?_
          refine gf_X9_28 S hw 0 rfl dX9_rule_62 ?_
          refine lv_aload_n S.1 S.2.1 dX9_rule_65 rfl (lv_at hl 0 rfl) ?_
          refine gf_X9_281 S hw 0 rfl dX9_rule_66 ?_
          refine lv_iload_n S.1 S.2.1 dX9_rule_69 rfl (lv_at hl 2 rfl) ?_
          obtain ⟨σ_9, e_σ_9, hf⟩ := ob hf
          refine as_X9_6 S hw 0 rfl e_σ_9 dX9_rule_70 (fun H locs hw => ?_)
          have hw : PW D A s.heap [pX9 cy o0 q0 σ_9] H locs := hw
          refine lv_aload_n S.1 S.2.1 dX9_rule_71 rfl (lv_at hl 0 rfl) ?_
          refine gf_X9_31 S hw 0 rfl dX9_rule_72 ?_
          refine lv_aload_n S.1 S.2.1 dX9_rule_75 rfl (lv_at hl 0 rfl) ?_
          refine gf_X9_281 S hw 0 rfl dX9_rule_76 ?_
          refine lv_iload_n S.1 S.2.1 dX9_rule_79 rfl (lv_at hl 3 rfl) ?_
          obtain ⟨σ_10, e_σ_10, hf⟩ := ob hf
          refine as_X9_7 S hw 0 rfl e_σ_10 dX9_rule_80 (fun H locs hw => ?_)
          have hw : PW D A s.heap [pX9 cy o0 q0 σ_10] H locs := hw
          refine lv_aload_n S.1 S.2.1 dX9_rule_81 rfl (lv_at hl 0 rfl) ?_
          refine lv_dup S.1 S.2.1 dX9_rule_82 rfl ?_
          refine gf_X9_281 S hw 0 rfl dX9_rule_83 ?_
          refine lv_iconst (v := 1) S.1 S.2.1 dX9_rule_86 (by decide) ?_
          refine lv_iadd S.1 S.2.1 dX9_rule_87 ?_
          obtain ⟨σ_11, e_σ_11, hf⟩ := ob hf
          refine pf_X9_281 S hw 0 rfl e_σ_11 dX9_rule_88 (fun H locs hw => ?_)
          have hw : PW D A s.heap [pX9 cy o0 q0 σ_11] H locs := hw
          refine lv_aload_n S.1 S.2.1 dX9_rule_91 rfl (lv_at hl 0 rfl) ?_
          refine gf_X9_281 S hw 0 rfl dX9_rule_92 ?_
          cases hf
          exact w_iret S hr hlk hA hQ hw dX9_rule_95
        · replace hf := (if_pos c_7).symm.trans hf
          refine lv_bipush (v := (-4)) S.1 S.2.1 dX9_rule_48 (by decide) ?_
          cases hf
          exact w_iret S hr hlk hA hQ hw dX9_rule_50
      · replace hf := (if_pos c_6).symm.trans hf
        refine lv_bipush (v := (-2)) S.1 S.2.1 dX9_rule_36 (by decide) ?_
        cases hf
        exact w_iret S hr hlk hA hQ hw dX9_rule_38
section
variable {p : Program} {l : Launch} {e : Env} {R : Room} {s : State} {m : MethodId} {args : Array Value} {below : List Frame} {meth : Method} {c : Code} {H : Heap} {locs : List Loc} {cells slots : Nat} {Q : State → Prop} {cc : ByteArray} {pc nL : Nat} {ls : Array Slot} {rest : List Value} {D : va_G} {cy : Nat → ClassId} {A : Nat → Prop} {H0 : Heap} {own : String} {Ps : List va_W}
set_option maxRecDepth 100000 in
theorem k_X9_rule {o0 : Nat} {q0 : Nat → Nat} {x1 : Int32} {x2 : Int32} {x3 : Int32} {σ0 : pStt} {u : Int32 × pStt} {index : Nat} (S : CX p m c cc nL s args own D cy) (hl : (Cond.methodLink own index yX9_rule).before args s = true) (hw : PW D A H0 Ps H locs) (hf : f_X9_rule x1 x2 x3 σ0 = some u) (js : List Nat) (hC : js.map (fun j => Ps[j]?) = [some (pX9 cy o0 q0 σ0)]) (hnd : js.Nodup) (hlen : js.length = 1) (hR : RMok rmX9_rule R 4) (hsize : ls.size = nL) (hrest : (rest.map fun v => v.category).sum ≤ 8) (hdg : decode cc pc = .ok (.invokevirtual index, 3)) (hcs : cells ≤ R.cells ∧ slots ≤ R.slots)
    (kk : ∀ (H1 : Heap) (locs1 : List Loc), PW D A H0 (setAll Ps js [pX9 cy o0 q0 u.2]) H1 locs1 → W p l e R s m args below meth c H1 locs1 cells slots Q (F0 m (pc + 3) ls (.int u.1 :: rest))) : W p l e R s m args below meth c H locs cells slots Q (F0 m pc ls (.int x3 :: .int x2 :: .int x1 :: .ref o0 :: rest)) :=
  w_callV (n := 3) (ov := (some (.int u.1))) (As := [.int x1, .int x2, .int x3]) (Cs := [pX9 cy o0 q0 σ0]) (Cs' := [pX9 cy o0 q0 u.2]) S hw (c_X9_rule l D cy o0 q0 x1 x2 x3 σ0 u hf) (MF.of S.2.2.2.2 wd1047 wd79 (by decide)) (S.2.2.2.2.wd wd1045 rfl) (S.2.2.2.2.wd wd1046 rfl) hl hR js hC hnd hlen rfl rfl rfl rfl hsize rfl hrest hdg hcs kk
end
abbrev rmX9_unrule : Room := { frames := 0, cells := 0, slots := 0, locals := 0 }
def f_X9_unrule (σ0 : pStt) : Option (Int32 × pStt) := (some (sI σ0 2 0)).bind (fun σ_1 => some ((σ0.1 2), σ_1))
set_option maxHeartbeats 4000000 in
set_option maxRecDepth 100000 in
theorem c_X9_unrule (l : Launch) (D : va_G) (cy : Nat → ClassId) (o0 : Nat) (q0 : Nat → Nat) (σ0 : pStt) (u : Int32 × pStt) (hf : f_X9_unrule σ0 = some u) : CT l yX9_unrule cX9_unrule 2 (some .int) rmX9_unrule D cy [.ref o0] [pX9 cy o0 q0 σ0] (some (.int u.1)) [pX9 cy o0 q0 u.2] := by
  refine CT.of (by decide) (Nat.le_of_ble_eq_true rfl) (fun p e s m args below meth c ls A Q hA hQ S hr hlk hl hw => ?_)
  have hl : lv_has ls 2 [(0, .ref o0)] := hl
  rw [f_X9_unrule] at hf
  refine lv_aload_n S.1 S.2.1 dX9_unrule_0 rfl (lv_at hl 0 rfl) ?_
  refine gf_X9_281 S hw 0 rfl dX9_unrule_1 ?_
  refine lv_istore_n (lv' := [(1, .int ((σ0.1 2))), (0, .ref o0)]) S.1 S.2.1 dX9_unrule_4 rfl hl (by decide) rfl (fun ls hl => ?_)
  refine lv_aload_n S.1 S.2.1 dX9_unrule_5 rfl (lv_at hl 1 rfl) ?_
  refine lv_iconst (v := 0) S.1 S.2.1 dX9_unrule_6 (by decide) ?_
  obtain ⟨σ_1, e_σ_1, hf⟩ := ob hf
  refine pf_X9_281 S hw 0 rfl e_σ_1 dX9_unrule_7 (fun H locs hw => ?_)
  have hw : PW D A s.heap [pX9 cy o0 q0 σ_1] H locs := hw
  refine lv_iload_n S.1 S.2.1 dX9_unrule_10 rfl (lv_at hl 0 rfl) ?_
  cases hf
  exact w_iret S hr hlk hA hQ hw dX9_unrule_11
section
variable {p : Program} {l : Launch} {e : Env} {R : Room} {s : State} {m : MethodId} {args : Array Value} {below : List Frame} {meth : Method} {c : Code} {H : Heap} {locs : List Loc} {cells slots : Nat} {Q : State → Prop} {cc : ByteArray} {pc nL : Nat} {ls : Array Slot} {rest : List Value} {D : va_G} {cy : Nat → ClassId} {A : Nat → Prop} {H0 : Heap} {own : String} {Ps : List va_W}
set_option maxRecDepth 100000 in
theorem k_X9_unrule {o0 : Nat} {q0 : Nat → Nat}  {σ0 : pStt} {u : Int32 × pStt} {index : Nat} (S : CX p m c cc nL s args own D cy) (hl : (Cond.methodLink own index yX9_unrule).before args s = true) (hw : PW D A H0 Ps H locs) (hf : f_X9_unrule σ0 = some u) (js : List Nat) (hC : js.map (fun j => Ps[j]?) = [some (pX9 cy o0 q0 σ0)]) (hnd : js.Nodup) (hlen : js.length = 1) (hR : RMok rmX9_unrule R 2) (hsize : ls.size = nL) (hrest : (rest.map fun v => v.category).sum ≤ 8) (hdg : decode cc pc = .ok (.invokevirtual index, 3)) (hcs : cells ≤ R.cells ∧ slots ≤ R.slots)
    (kk : ∀ (H1 : Heap) (locs1 : List Loc), PW D A H0 (setAll Ps js [pX9 cy o0 q0 u.2]) H1 locs1 → W p l e R s m args below meth c H1 locs1 cells slots Q (F0 m (pc + 3) ls (.int u.1 :: rest))) : W p l e R s m args below meth c H locs cells slots Q (F0 m pc ls (.ref o0 :: rest)) :=
  w_callV (n := 0) (ov := (some (.int u.1))) (As := []) (Cs := [pX9 cy o0 q0 σ0]) (Cs' := [pX9 cy o0 q0 u.2]) S hw (c_X9_unrule l D cy o0 q0 σ0 u hf) (MF.of S.2.2.2.2 wd1051 wd79 (by decide)) (S.2.2.2.2.wd wd1049 rfl) (S.2.2.2.2.wd wd1050 rfl) hl hR js hC hnd hlen rfl rfl rfl rfl hsize rfl hrest hdg hcs kk
end
abbrev rmX9_onceMore : Room := { frames := 1, cells := 0, slots := 0, locals := 21 }
def fl_X9_onceMore_4  (σ0 : pStt) : Nat → Int32 → Int32 → Option (Int32)
  | 0, _, _ => none
  | n + 1, y2, y3 => if (σ0.1 2) ≤ y3 then some y2 else (ld (σ0.2 5) 12 y3).bind (fun x_2 => (f_X9_has y2 x_2).bind (fun u_3 => (if u_3 = 0 then some 0 else (ld (σ0.2 6) 12 y3).bind (fun x_6 => (f_X9_has y2 x_6).bind (fun u_7 => if u_7 = 0 then some 0 else (ld (σ0.2 7) 12 y3).bind (fun x_9 => some (((1 : Int32) <<< (x_9 &&& 31)))))) : Option Int32).bind (fun v_4 => fl_X9_onceMore_4 σ0 n ((y2 ||| v_4)) ((y3 + 1)))))
def f_X9_onceMore (x1 : Int32) (σ0 : pStt) : Option (Int32) := (fl_X9_onceMore_4 σ0 2000 x1 0).bind (fun u_10 => some u_10)
section
variable {p : Program} {l : Launch} {e : Env} {s : State} {m : MethodId} {args : Array Value} {below : List Frame} {meth : Method} {c : Code} {Q : State → Prop} {D : va_G} {cy : Nat → ClassId} {A : Nat → Prop} {H0 : Heap}
set_option maxHeartbeats 4000000 in
set_option maxRecDepth 100000 in
theorem lp_X9_onceMore_4 (S : CX p m c cX9_onceMore 4 s args RX9 D cy) {o0 : Nat} {q0 : Nat → Nat} {σ0 : pStt}  : ∀ (n : Nat) (y2 : Int32) (y3 : Int32) (H : Heap) (locs : List Loc) (ls : Array Slot) (u : Int32), PW D A H0 [pX9 cy o0 q0 σ0] H locs → lv_has ls 4 [(0, .ref o0), (2, .int y2), (3, .int y3)] → fl_X9_onceMore_4 σ0 n y2 y3 = some u → (∀ (H : Heap) (locs : List Loc) (ls : Array Slot), PW D A H0 [pX9 cy o0 q0 σ0] H locs → lv_has ls 4 [(2, .int u)] → W p l e rmX9_onceMore s m args below meth c H locs 0 0 Q (F0 m 59 ls [])) → W p l e rmX9_onceMore s m args below meth c H locs 0 0 Q (F0 m 4 ls []) := by
  intro n
  induction n with
  | zero =>
    intro y2 y3 H locs ls u hw hl hf K0
    rw [fl_X9_onceMore_4] at hf
    cases hf
  | succ n ih =>
    intro y2 y3 H locs ls u hw hl hf K0
    rw [fl_X9_onceMore_4] at hf
    refine lv_iload_n S.1 S.2.1 dX9_onceMore_4 rfl (lv_at hl 2 rfl) ?_
    refine lv_aload_n S.1 S.2.1 dX9_onceMore_5 rfl (lv_at hl 0 rfl) ?_
    refine gf_X9_281 S hw 0 rfl dX9_onceMore_6 ?_
    refine lv_icmp_ge (tgt := 59) S.1 S.2.1 dX9_onceMore_9 (by decide) (fun c_1 => ?_) (fun c_1 => ?_)
    · replace hf := (if_pos c_1).symm.trans hf
      cases hf
      exact K0 _ _ _ hw (lv_sub hl [1] rfl)
    · replace hf := (if_neg c_1).symm.trans hf
      refine lv_iload_n S.1 S.2.1 dX9_onceMore_12 rfl (lv_at hl 1 rfl) ?_
      refine lv_iload_n S.1 S.2.1 dX9_onceMore_13 rfl (lv_at hl 1 rfl) ?_
      refine lv_aload_n S.1 S.2.1 dX9_onceMore_14 rfl (lv_at hl 0 rfl) ?_
      refine gf_X9_25 S hw 0 rfl dX9_onceMore_15 ?_
      refine lv_iload_n S.1 S.2.1 dX9_onceMore_18 rfl (lv_at hl 2 rfl) ?_
      obtain ⟨x_2, e_x_2, hf⟩ := ob hf
      refine al_X9_5 S hw 0 rfl e_x_2 dX9_onceMore_19 ?_
      obtain ⟨u_3, e_u_3, hf⟩ := ob hf
      refine k_X9_has S (S.2.2.2.2.wd wd943 rfl) hw e_u_3 [] rfl (by decide) rfl ⟨rfl, rfl, Nat.le_of_ble_eq_true rfl, Nat.le_of_ble_eq_true rfl⟩ hl.1 (Nat.le_of_ble_eq_true rfl) dX9_onceMore_20 ⟨Nat.zero_le _, Nat.zero_le _⟩ (fun H locs hw => ?_)
      have hw : PW D A H0 [pX9 cy o0 q0 σ0] H locs := hw
      obtain ⟨v_4, e_v_4, hf⟩ := ob hf
      have hJ_v_4 : ∀ (H : Heap) (locs : List Loc), PW D A H0 [pX9 cy o0 q0 σ0] H locs → W p l e rmX9_onceMore s m args below meth c H locs 0 0 Q (F0 m 51 ls [.int v_4, .int y2]) := by
        intro H locs hw
        refine lv_ior S.1 S.2.1 dX9_onceMore_51 ?_
        refine lv_istore_n (lv' := [(2, .int ((y2 ||| v_4))), (0, .ref o0), (3, .int y3)]) S.1 S.2.1 dX9_onceMore_52 rfl hl (by decide) rfl (fun ls hl => ?_)
        refine lv_iinc (v := (y3 + 1)) (lv' := [(3, .int ((y3 + 1))), (2, .int ((y2 ||| v_4))), (0, .ref o0)]) S.1 S.2.1 dX9_onceMore_53 hl (k := 2) rfl rfl (by decide) rfl (fun ls hl => ?_)
        refine lv_goto (tgt := 4) S.1 S.2.1 dX9_onceMore_56 (by decide) ?_
        exact ih _ _ _ _ _ _ hw (lv_sub hl [2, 1, 0] rfl) hf K0
      replace hf := e_v_4
      clear e_v_4
      refine lv_if_eq (tgt := 50) S.1 S.2.1 dX9_onceMore_23 (by decide) (fun c_5 => ?_) (fun c_5 => ?_)
      · replace hf := (if_pos c_5).symm.trans hf
        refine lv_iconst (v := 0) S.1 S.2.1 dX9_onceMore_50 (by decide) ?_
        cases hf
        exact hJ_v_4 _ _ hw
      · replace hf := (if_neg c_5).symm.trans hf
        refine lv_iload_n S.1 S.2.1 dX9_onceMore_26 rfl (lv_at hl 1 rfl) ?_
        refine lv_aload_n S.1 S.2.1 dX9_onceMore_27 rfl (lv_at hl 0 rfl) ?_
        refine gf_X9_28 S hw 0 rfl dX9_onceMore_28 ?_
        refine lv_iload_n S.1 S.2.1 dX9_onceMore_31 rfl (lv_at hl 2 rfl) ?_
        obtain ⟨x_6, e_x_6, hf⟩ := ob hf
        refine al_X9_6 S hw 0 rfl e_x_6 dX9_onceMore_32 ?_
        obtain ⟨u_7, e_u_7, hf⟩ := ob hf
        refine k_X9_has S (S.2.2.2.2.wd wd943 rfl) hw e_u_7 [] rfl (by decide) rfl ⟨rfl, rfl, Nat.le_of_ble_eq_true rfl, Nat.le_of_ble_eq_true rfl⟩ hl.1 (Nat.le_of_ble_eq_true rfl) dX9_onceMore_33 ⟨Nat.zero_le _, Nat.zero_le _⟩ (fun H locs hw => ?_)
        have hw : PW D A H0 [pX9 cy o0 q0 σ0] H locs := hw
        refine lv_if_eq (tgt := 50) S.1 S.2.1 dX9_onceMore_36 (by decide) (fun c_8 => ?_) (fun c_8 => ?_)
        · replace hf := (if_pos c_8).symm.trans hf
          refine lv_iconst (v := 0) S.1 S.2.1 dX9_onceMore_50 (by decide) ?_
          cases hf
          exact hJ_v_4 _ _ hw
        · replace hf := (if_neg c_8).symm.trans hf
          refine lv_iconst (v := 1) S.1 S.2.1 dX9_onceMore_39 (by decide) ?_
          refine lv_aload_n S.1 S.2.1 dX9_onceMore_40 rfl (lv_at hl 0 rfl) ?_
          refine gf_X9_31 S hw 0 rfl dX9_onceMore_41 ?_
          refine lv_iload_n S.1 S.2.1 dX9_onceMore_44 rfl (lv_at hl 2 rfl) ?_
          obtain ⟨x_9, e_x_9, hf⟩ := ob hf
          refine al_X9_7 S hw 0 rfl e_x_9 dX9_onceMore_45 ?_
          refine lv_ishl S.1 S.2.1 dX9_onceMore_46 ?_
          refine lv_goto (tgt := 51) S.1 S.2.1 dX9_onceMore_47 (by decide) ?_
          cases hf
          exact hJ_v_4 _ _ hw
end
set_option maxHeartbeats 4000000 in
set_option maxRecDepth 100000 in
theorem c_X9_onceMore (l : Launch) (D : va_G) (cy : Nat → ClassId) (o0 : Nat) (q0 : Nat → Nat) (x1 : Int32) (σ0 : pStt) (u : Int32) (hf : f_X9_onceMore x1 σ0 = some u) : CT l yX9_onceMore cX9_onceMore 4 (some .int) rmX9_onceMore D cy [.ref o0, .int x1] [pX9 cy o0 q0 σ0] (some (.int u)) [pX9 cy o0 q0 σ0] := by
  refine CT.of (by decide) (Nat.le_of_ble_eq_true rfl) (fun p e s m args below meth c ls A Q hA hQ S hr hlk hl hw => ?_)
  have hl : lv_has ls 4 [(0, .ref o0), (1, .int x1)] := hl
  rw [f_X9_onceMore] at hf
  refine lv_iload_n S.1 S.2.1 dX9_onceMore_0 rfl (lv_at hl 1 rfl) ?_
  refine lv_istore_n (lv' := [(2, .int x1), (0, .ref o0), (1, .int x1)]) S.1 S.2.1 dX9_onceMore_1 rfl hl (by decide) rfl (fun ls hl => ?_)
  refine lv_iconst (v := 0) S.1 S.2.1 dX9_onceMore_2 (by decide) ?_
  refine lv_istore_n (lv' := [(3, .int 0), (2, .int x1), (0, .ref o0), (1, .int x1)]) S.1 S.2.1 dX9_onceMore_3 rfl hl (by decide) rfl (fun ls hl => ?_)
  obtain ⟨u_10, e_u_10, hf⟩ := ob hf
  refine lp_X9_onceMore_4 S 2000 _ _ _ _ _ _ hw (lv_sub hl [2, 1, 0] rfl) e_u_10 ?_
  · intro H locs ls hw hl
    refine lv_iload_n S.1 S.2.1 dX9_onceMore_59 rfl (lv_at hl 0 rfl) ?_
    cases hf
    exact w_iret S hr hlk hA hQ hw dX9_onceMore_60
section
variable {p : Program} {l : Launch} {e : Env} {R : Room} {s : State} {m : MethodId} {args : Array Value} {below : List Frame} {meth : Method} {c : Code} {H : Heap} {locs : List Loc} {cells slots : Nat} {Q : State → Prop} {cc : ByteArray} {pc nL : Nat} {ls : Array Slot} {rest : List Value} {D : va_G} {cy : Nat → ClassId} {A : Nat → Prop} {H0 : Heap} {own : String} {Ps : List va_W}
set_option maxRecDepth 100000 in
theorem k_X9_onceMore {o0 : Nat} {q0 : Nat → Nat} {x1 : Int32} {σ0 : pStt} {u : Int32} {index : Nat} (S : CX p m c cc nL s args own D cy) (hl : (Cond.methodLink own index yX9_onceMore).before args s = true) (hw : PW D A H0 Ps H locs) (hf : f_X9_onceMore x1 σ0 = some u) (js : List Nat) (hC : js.map (fun j => Ps[j]?) = [some (pX9 cy o0 q0 σ0)]) (hnd : js.Nodup) (hlen : js.length = 1) (hR : RMok rmX9_onceMore R 4) (hsize : ls.size = nL) (hrest : (rest.map fun v => v.category).sum ≤ 8) (hdg : decode cc pc = .ok (.invokevirtual index, 3)) (hcs : cells ≤ R.cells ∧ slots ≤ R.slots)
    (kk : ∀ (H1 : Heap) (locs1 : List Loc), PW D A H0 (setAll Ps js [pX9 cy o0 q0 σ0]) H1 locs1 → W p l e R s m args below meth c H1 locs1 cells slots Q (F0 m (pc + 3) ls (.int u :: rest))) : W p l e R s m args below meth c H locs cells slots Q (F0 m pc ls (.int x1 :: .ref o0 :: rest)) :=
  w_callV (n := 1) (ov := (some (.int u))) (As := [.int x1]) (Cs := [pX9 cy o0 q0 σ0]) (Cs' := [pX9 cy o0 q0 σ0]) S hw (c_X9_onceMore l D cy o0 q0 x1 σ0 u hf) (MF.of S.2.2.2.2 wd1064 wd79 (by decide)) (S.2.2.2.2.wd wd1063 rfl) (S.2.2.2.2.wd wd56 rfl) hl hR js hC hnd hlen rfl rfl rfl rfl hsize rfl hrest hdg hcs kk
end
abbrev rmX9_closedOf : Room := { frames := 2, cells := 0, slots := 0, locals := 44 }
def fl_X9_closedOf_4  (σ0 : pStt) : Nat → Int32 → Int32 → Option (Int32)
  | 0, _, _ => none
  | n + 1, y2, y3 => if 10 ≤ y3 then some y2 else (f_X9_onceMore y2 σ0).bind (fun u_2 => fl_X9_closedOf_4 σ0 n u_2 ((y3 + 1)))
def f_X9_closedOf (x1 : Int32) (σ0 : pStt) : Option (Int32) := (fl_X9_closedOf_4 σ0 2000 x1 0).bind (fun u_3 => some u_3)
section
variable {p : Program} {l : Launch} {e : Env} {s : State} {m : MethodId} {args : Array Value} {below : List Frame} {meth : Method} {c : Code} {Q : State → Prop} {D : va_G} {cy : Nat → ClassId} {A : Nat → Prop} {H0 : Heap}
set_option maxHeartbeats 4000000 in
set_option maxRecDepth 100000 in
theorem lp_X9_closedOf_4 (S : CX p m c cX9_closedOf 4 s args RX9 D cy) {o0 : Nat} {q0 : Nat → Nat} {σ0 : pStt}  : ∀ (n : Nat) (y2 : Int32) (y3 : Int32) (H : Heap) (locs : List Loc) (ls : Array Slot) (u : Int32), PW D A H0 [pX9 cy o0 q0 σ0] H locs → lv_has ls 4 [(0, .ref o0), (2, .int y2), (3, .int y3)] → fl_X9_closedOf_4 σ0 n y2 y3 = some u → (∀ (H : Heap) (locs : List Loc) (ls : Array Slot), PW D A H0 [pX9 cy o0 q0 σ0] H locs → lv_has ls 4 [(2, .int u)] → W p l e rmX9_closedOf s m args below meth c H locs 0 0 Q (F0 m 22 ls [])) → W p l e rmX9_closedOf s m args below meth c H locs 0 0 Q (F0 m 4 ls []) := by
  intro n
  induction n with
  | zero =>
    intro y2 y3 H locs ls u hw hl hf K0
    rw [fl_X9_closedOf_4] at hf
    cases hf
  | succ n ih =>
    intro y2 y3 H locs ls u hw hl hf K0
    rw [fl_X9_closedOf_4] at hf
    refine lv_iload_n S.1 S.2.1 dX9_closedOf_4 rfl (lv_at hl 2 rfl) ?_
    refine lv_bipush (v := 10) S.1 S.2.1 dX9_closedOf_5 (by decide) ?_
    refine lv_icmp_ge (tgt := 22) S.1 S.2.1 dX9_closedOf_7 (by decide) (fun c_1 => ?_) (fun c_1 => ?_)
    · replace hf := (if_pos c_1).symm.trans hf
      cases hf
      exact K0 _ _ _ hw (lv_sub hl [1] rfl)
    · replace hf := (if_neg c_1).symm.trans hf
      refine lv_aload_n S.1 S.2.1 dX9_closedOf_10 rfl (lv_at hl 0 rfl) ?_
      refine lv_iload_n S.1 S.2.1 dX9_closedOf_11 rfl (lv_at hl 1 rfl) ?_
      obtain ⟨u_2, e_u_2, hf⟩ := ob hf
      refine k_X9_onceMore S (S.2.2.2.2.wd wd1061 rfl) hw e_u_2 [0] rfl (by decide) rfl ⟨rfl, rfl, Nat.le_of_ble_eq_true rfl, Nat.le_of_ble_eq_true rfl⟩ hl.1 (Nat.le_of_ble_eq_true rfl) dX9_closedOf_12 ⟨Nat.zero_le _, Nat.zero_le _⟩ (fun H locs hw => ?_)
      have hw : PW D A H0 [pX9 cy o0 q0 σ0] H locs := hw
      refine lv_istore_n (lv' := [(2, .int u_2), (0, .ref o0), (3, .int y3)]) S.1 S.2.1 dX9_closedOf_15 rfl hl (by decide) rfl (fun ls hl => ?_)
      refine lv_iinc (v := (y3 + 1)) (lv' := [(3, .int ((y3 + 1))), (2, .int u_2), (0, .ref o0)]) S.1 S.2.1 dX9_closedOf_16 hl (k := 2) rfl rfl (by decide) rfl (fun ls hl => ?_)
      refine lv_goto (tgt := 4) S.1 S.2.1 dX9_closedOf_19 (by decide) ?_
      exact ih _ _ _ _ _ _ hw (lv_sub hl [2, 1, 0] rfl) hf K0
end
set_option maxHeartbeats 4000000 in
set_option maxRecDepth 100000 in
theorem c_X9_closedOf (l : Launch) (D : va_G) (cy : Nat → ClassId) (o0 : Nat) (q0 : Nat → Nat) (x1 : Int32) (σ0 : pStt) (u : Int32) (hf : f_X9_closedOf x1 σ0 = some u) : CT l yX9_closedOf cX9_closedOf 4 (some .int) rmX9_closedOf D cy [.ref o0, .int x1] [pX9 cy o0 q0 σ0] (some (.int u)) [pX9 cy o0 q0 σ0] := by
  refine CT.of (by decide) (Nat.le_of_ble_eq_true rfl) (fun p e s m args below meth c ls A Q hA hQ S hr hlk hl hw => ?_)
  have hl : lv_has ls 4 [(0, .ref o0), (1, .int x1)] := hl
  rw [f_X9_closedOf] at hf
  refine lv_iload_n S.1 S.2.1 dX9_closedOf_0 rfl (lv_at hl 1 rfl) ?_
  refine lv_istore_n (lv' := [(2, .int x1), (0, .ref o0), (1, .int x1)]) S.1 S.2.1 dX9_closedOf_1 rfl hl (by decide) rfl (fun ls hl => ?_)
  refine lv_iconst (v := 0) S.1 S.2.1 dX9_closedOf_2 (by decide) ?_
  refine lv_istore_n (lv' := [(3, .int 0), (2, .int x1), (0, .ref o0), (1, .int x1)]) S.1 S.2.1 dX9_closedOf_3 rfl hl (by decide) rfl (fun ls hl => ?_)
  obtain ⟨u_3, e_u_3, hf⟩ := ob hf
  refine lp_X9_closedOf_4 S 2000 _ _ _ _ _ _ hw (lv_sub hl [2, 1, 0] rfl) e_u_3 ?_
  · intro H locs ls hw hl
    refine lv_iload_n S.1 S.2.1 dX9_closedOf_22 rfl (lv_at hl 0 rfl) ?_
    cases hf
    exact w_iret S hr hlk hA hQ hw dX9_closedOf_23
section
variable {p : Program} {l : Launch} {e : Env} {R : Room} {s : State} {m : MethodId} {args : Array Value} {below : List Frame} {meth : Method} {c : Code} {H : Heap} {locs : List Loc} {cells slots : Nat} {Q : State → Prop} {cc : ByteArray} {pc nL : Nat} {ls : Array Slot} {rest : List Value} {D : va_G} {cy : Nat → ClassId} {A : Nat → Prop} {H0 : Heap} {own : String} {Ps : List va_W}
set_option maxRecDepth 100000 in
theorem k_X9_closedOf {o0 : Nat} {q0 : Nat → Nat} {x1 : Int32} {σ0 : pStt} {u : Int32} {index : Nat} (S : CX p m c cc nL s args own D cy) (hl : (Cond.methodLink own index yX9_closedOf).before args s = true) (hw : PW D A H0 Ps H locs) (hf : f_X9_closedOf x1 σ0 = some u) (js : List Nat) (hC : js.map (fun j => Ps[j]?) = [some (pX9 cy o0 q0 σ0)]) (hnd : js.Nodup) (hlen : js.length = 1) (hR : RMok rmX9_closedOf R 4) (hsize : ls.size = nL) (hrest : (rest.map fun v => v.category).sum ≤ 8) (hdg : decode cc pc = .ok (.invokevirtual index, 3)) (hcs : cells ≤ R.cells ∧ slots ≤ R.slots)
    (kk : ∀ (H1 : Heap) (locs1 : List Loc), PW D A H0 (setAll Ps js [pX9 cy o0 q0 σ0]) H1 locs1 → W p l e R s m args below meth c H1 locs1 cells slots Q (F0 m (pc + 3) ls (.int u :: rest))) : W p l e R s m args below meth c H locs cells slots Q (F0 m pc ls (.int x1 :: .ref o0 :: rest)) :=
  w_callV (n := 1) (ov := (some (.int u))) (As := [.int x1]) (Cs := [pX9 cy o0 q0 σ0]) (Cs' := [pX9 cy o0 q0 σ0]) S hw (c_X9_closedOf l D cy o0 q0 x1 σ0 u hf) (MF.of S.2.2.2.2 wd1060 wd79 (by decide)) (S.2.2.2.2.wd wd1059 rfl) (S.2.2.2.2.wd wd55 rfl) hl hR js hC hnd hlen rfl rfl rfl rfl hsize rfl hrest hdg hcs kk
end
abbrev rmX9_close : Room := { frames := 3, cells := 0, slots := 0, locals := 67 }
def f_X9_close (x1 : Int32) (σ0 : pStt) : Option (Int32) := (f_X9_in ((x1 : Int32).toInt64) 0 1023).bind (fun u_1 => (if u_1 = 0 then some ((-2)) else (f_X9_closedOf x1 σ0).bind (fun u_4 => some u_4) : Option Int32).bind (fun v_2 => some v_2))
set_option maxHeartbeats 4000000 in
set_option maxRecDepth 100000 in
theorem c_X9_close (l : Launch) (D : va_G) (cy : Nat → ClassId) (o0 : Nat) (q0 : Nat → Nat) (x1 : Int32) (σ0 : pStt) (u : Int32) (hf : f_X9_close x1 σ0 = some u) : CT l yX9_close cX9_close 2 (some .int) rmX9_close D cy [.ref o0, .int x1] [pX9 cy o0 q0 σ0] (some (.int u)) [pX9 cy o0 q0 σ0] := by
  refine CT.of (by decide) (Nat.le_of_ble_eq_true rfl) (fun p e s m args below meth c ls A Q hA hQ S hr hlk hl hw => ?_)
  have hl : lv_has ls 2 [(0, .ref o0), (1, .int x1)] := hl
  rw [f_X9_close] at hf
  refine lv_iload_n S.1 S.2.1 dX9_close_0 rfl (lv_at hl 1 rfl) ?_
  refine lv_i2l (v := (x1 : Int32).toInt64) S.1 S.2.1 dX9_close_1 rfl ?_
  refine lv_lconst (v := 0) S.1 S.2.1 dX9_close_2 (by decide) ?_
  refine lv_ldc2 (v := 1023) S.1 S.2.1 S.2.2.2.1 (S.2.2.2.2.wd wd1056 rfl) dX9_close_3 ?_
  obtain ⟨u_1, e_u_1, hf⟩ := ob hf
  refine k_X9_in S (S.2.2.2.2.wd wd818 rfl) hw e_u_1 [] rfl (by decide) rfl ⟨rfl, rfl, Nat.le_of_ble_eq_true rfl, Nat.le_of_ble_eq_true rfl⟩ hl.1 (Nat.le_of_ble_eq_true rfl) dX9_close_6 ⟨Nat.zero_le _, Nat.zero_le _⟩ (fun H locs hw => ?_)
  have hw : PW D A s.heap [pX9 cy o0 q0 σ0] H locs := hw
  obtain ⟨v_2, e_v_2, hf⟩ := ob hf
  have hJ_v_2 : ∀ (H : Heap) (locs : List Loc), PW D A s.heap [pX9 cy o0 q0 σ0] H locs → W p l e rmX9_close s m args below meth c H locs 0 0 Q (F0 m 22 ls [.int v_2]) := by
    intro H locs hw
    cases hf
    exact w_iret S hr hlk hA hQ hw dX9_close_22
  replace hf := e_v_2
  clear e_v_2
  refine lv_if_eq (tgt := 20) S.1 S.2.1 dX9_close_9 (by decide) (fun c_3 => ?_) (fun c_3 => ?_)
  · replace hf := (if_pos c_3).symm.trans hf
    refine lv_bipush (v := (-2)) S.1 S.2.1 dX9_close_20 (by decide) ?_
    cases hf
    exact hJ_v_2 _ _ hw
  · replace hf := (if_neg c_3).symm.trans hf
    refine lv_aload_n S.1 S.2.1 dX9_close_12 rfl (lv_at hl 0 rfl) ?_
    refine lv_iload_n S.1 S.2.1 dX9_close_13 rfl (lv_at hl 1 rfl) ?_
    obtain ⟨u_4, e_u_4, hf⟩ := ob hf
    refine k_X9_closedOf S (S.2.2.2.2.wd wd1057 rfl) hw e_u_4 [0] rfl (by decide) rfl ⟨rfl, rfl, Nat.le_of_ble_eq_true rfl, Nat.le_of_ble_eq_true rfl⟩ hl.1 (Nat.le_of_ble_eq_true rfl) dX9_close_14 ⟨Nat.zero_le _, Nat.zero_le _⟩ (fun H locs hw => ?_)
    have hw : PW D A s.heap [pX9 cy o0 q0 σ0] H locs := hw
    refine lv_goto (tgt := 22) S.1 S.2.1 dX9_close_17 (by decide) ?_
    cases hf
    exact hJ_v_2 _ _ hw
section
variable {p : Program} {l : Launch} {e : Env} {R : Room} {s : State} {m : MethodId} {args : Array Value} {below : List Frame} {meth : Method} {c : Code} {H : Heap} {locs : List Loc} {cells slots : Nat} {Q : State → Prop} {cc : ByteArray} {pc nL : Nat} {ls : Array Slot} {rest : List Value} {D : va_G} {cy : Nat → ClassId} {A : Nat → Prop} {H0 : Heap} {own : String} {Ps : List va_W}
set_option maxRecDepth 100000 in
theorem k_X9_close {o0 : Nat} {q0 : Nat → Nat} {x1 : Int32} {σ0 : pStt} {u : Int32} {index : Nat} (S : CX p m c cc nL s args own D cy) (hl : (Cond.methodLink own index yX9_close).before args s = true) (hw : PW D A H0 Ps H locs) (hf : f_X9_close x1 σ0 = some u) (js : List Nat) (hC : js.map (fun j => Ps[j]?) = [some (pX9 cy o0 q0 σ0)]) (hnd : js.Nodup) (hlen : js.length = 1) (hR : RMok rmX9_close R 2) (hsize : ls.size = nL) (hrest : (rest.map fun v => v.category).sum ≤ 8) (hdg : decode cc pc = .ok (.invokevirtual index, 3)) (hcs : cells ≤ R.cells ∧ slots ≤ R.slots)
    (kk : ∀ (H1 : Heap) (locs1 : List Loc), PW D A H0 (setAll Ps js [pX9 cy o0 q0 σ0]) H1 locs1 → W p l e R s m args below meth c H1 locs1 cells slots Q (F0 m (pc + 3) ls (.int u :: rest))) : W p l e R s m args below meth c H locs cells slots Q (F0 m pc ls (.int x1 :: .ref o0 :: rest)) :=
  w_callV (n := 1) (ov := (some (.int u))) (As := [.int x1]) (Cs := [pX9 cy o0 q0 σ0]) (Cs' := [pX9 cy o0 q0 σ0]) S hw (c_X9_close l D cy o0 q0 x1 σ0 u hf) (MF.of S.2.2.2.2 wd1055 wd79 (by decide)) (S.2.2.2.2.wd wd1053 rfl) (S.2.2.2.2.wd wd1054 rfl) hl hR js hC hnd hlen rfl rfl rfl rfl hsize rfl hrest hdg hcs kk
end
abbrev rmX9_least : Room := { frames := 3, cells := 0, slots := 0, locals := 67 }
def fl_X9_least_31 (y1 : Int32) (y2 : Int32) (σ0 : pStt) : Nat → Int32 → Int32 → Option (Int32)
  | 0, _, _ => none
  | n + 1, y3, y4 => if 1024 ≤ y4 then some y3 else (if y3 < 0 then some 1 else (f_X9_ones y4).bind (fun u_15 => (f_X9_ones y3).bind (fun u_16 => if u_16 ≤ u_15 then some 0 else some 1)) : Option Int32).bind (fun v_6 => (if v_6 = 0 then some y3 else (f_X9_has y4 y1).bind (fun u_9 => if u_9 = 0 then (f_X9_closedOf y4 σ0).bind (fun u_11 => (f_X9_has u_11 y1).bind (fun u_12 => if u_12 = 0 then some y3 else some y4)) else some y3) : Option Int32).bind (fun v_7 => fl_X9_least_31 y1 y2 σ0 n v_7 ((y4 + 1))))
def f_X9_least (x1 : Int32) (x2 : Int32) (σ0 : pStt) : Option (Int32) := (f_X9_in ((x1 : Int32).toInt64) 0 9).bind (fun u_1 => if u_1 = 0 then some ((-2)) else (f_X9_in ((x2 : Int32).toInt64) 0 1).bind (fun u_3 => if u_3 = 0 then some ((-2)) else (fl_X9_least_31 x1 x2 σ0 2000 ((-6)) 0).bind (fun u_18 => (if u_18 < 0 then some u_18 else if x2 = 1 then some u_18 else (f_X9_ones u_18).bind (fun u_22 => some u_22) : Option Int32).bind (fun v_19 => some v_19))))
section
variable {p : Program} {l : Launch} {e : Env} {s : State} {m : MethodId} {args : Array Value} {below : List Frame} {meth : Method} {c : Code} {Q : State → Prop} {D : va_G} {cy : Nat → ClassId} {A : Nat → Prop} {H0 : Heap}
set_option maxHeartbeats 4000000 in
set_option maxRecDepth 100000 in
theorem lp_X9_least_31 (S : CX p m c cX9_least 6 s args RX9 D cy) {o0 : Nat} {q0 : Nat → Nat} {σ0 : pStt} {y1 : Int32} {y2 : Int32} : ∀ (n : Nat) (y3 : Int32) (y4 : Int32) (H : Heap) (locs : List Loc) (ls : Array Slot) (u : Int32), PW D A H0 [pX9 cy o0 q0 σ0] H locs → lv_has ls 6 [(0, .ref o0), (1, .int y1), (2, .int y2), (3, .int y3), (4, .int y4)] → fl_X9_least_31 y1 y2 σ0 n y3 y4 = some u → (∀ (H : Heap) (locs : List Loc) (ls : Array Slot), PW D A H0 [pX9 cy o0 q0 σ0] H locs → lv_has ls 6 [(2, .int y2), (3, .int u)] → W p l e rmX9_least s m args below meth c H locs 0 0 Q (F0 m 102 ls [])) → W p l e rmX9_least s m args below meth c H locs 0 0 Q (F0 m 31 ls []) := by
  intro n
  induction n with
  | zero =>
    intro y3 y4 H locs ls u hw hl hf K0
    rw [fl_X9_least_31] at hf
    cases hf
  | succ n ih =>
    intro y3 y4 H locs ls u hw hl hf K0
    rw [fl_X9_least_31] at hf
    refine lv_iload S.1 S.2.1 dX9_least_31 (lv_at hl 4 rfl) ?_
    refine lv_sipush (v := 1024) S.1 S.2.1 dX9_least_33 (by decide) ?_
    refine lv_icmp_ge (tgt := 102) S.1 S.2.1 dX9_least_36 (by decide) (fun c_5 => ?_) (fun c_5 => ?_)
    · replace hf := (if_pos c_5).symm.trans hf
      cases hf
      exact K0 _ _ _ hw (lv_sub hl [2, 3] rfl)
    · replace hf := (if_neg c_5).symm.trans hf
      refine lv_iload_n S.1 S.2.1 dX9_least_39 rfl (lv_at hl 3 rfl) ?_
      obtain ⟨v_6, e_v_6, hf⟩ := ob hf
      have hJ_v_6 : ∀ (H : Heap) (locs : List Loc), PW D A H0 [pX9 cy o0 q0 σ0] H locs → W p l e rmX9_least s m args below meth c H locs 0 0 Q (F0 m 60 ls [.int v_6]) := by
        intro H locs hw
        refine lv_istore (lv' := [(5, .int v_6), (0, .ref o0), (1, .int y1), (2, .int y2), (3, .int y3), (4, .int y4)]) S.1 S.2.1 dX9_least_60 hl (by decide) rfl (fun ls hl => ?_)
        refine lv_iload S.1 S.2.1 dX9_least_62 (lv_at hl 0 rfl) ?_
        obtain ⟨v_7, e_v_7, hf⟩ := ob hf
        have hJ_v_7 : ∀ (H : Heap) (locs : List Loc), PW D A H0 [pX9 cy o0 q0 σ0] H locs → W p l e rmX9_least s m args below meth c H locs 0 0 Q (F0 m 95 ls [.int v_7]) := by
          intro H locs hw
          refine lv_istore_n (lv' := [(3, .int v_7), (5, .int v_6), (0, .ref o0), (1, .int y1), (2, .int y2), (4, .int y4)]) S.1 S.2.1 dX9_least_95 rfl hl (by decide) rfl (fun ls hl => ?_)
          refine lv_iinc (v := (y4 + 1)) (lv' := [(4, .int ((y4 + 1))), (3, .int v_7), (5, .int v_6), (0, .ref o0), (1, .int y1), (2, .int y2)]) S.1 S.2.1 dX9_least_96 hl (k := 5) rfl rfl (by decide) rfl (fun ls hl => ?_)
          refine lv_goto (tgt := 31) S.1 S.2.1 dX9_least_99 (by decide) ?_
          exact ih _ _ _ _ _ _ hw (lv_sub hl [3, 4, 5, 1, 0] rfl) hf K0
        replace hf := e_v_7
        clear e_v_7
        refine lv_if_eq (tgt := 94) S.1 S.2.1 dX9_least_64 (by decide) (fun c_8 => ?_) (fun c_8 => ?_)
        · replace hf := (if_pos c_8).symm.trans hf
          refine lv_iload_n S.1 S.2.1 dX9_least_94 rfl (lv_at hl 4 rfl) ?_
          cases hf
          exact hJ_v_7 _ _ hw
        · replace hf := (if_neg c_8).symm.trans hf
          refine lv_iload S.1 S.2.1 dX9_least_67 (lv_at hl 5 rfl) ?_
          refine lv_iload_n S.1 S.2.1 dX9_least_69 rfl (lv_at hl 2 rfl) ?_
          obtain ⟨u_9, e_u_9, hf⟩ := ob hf
          refine k_X9_has S (S.2.2.2.2.wd wd943 rfl) hw e_u_9 [] rfl (by decide) rfl ⟨rfl, rfl, Nat.le_of_ble_eq_true rfl, Nat.le_of_ble_eq_true rfl⟩ hl.1 (Nat.le_of_ble_eq_true rfl) dX9_least_70 ⟨Nat.zero_le _, Nat.zero_le _⟩ (fun H locs hw => ?_)
          have hw : PW D A H0 [pX9 cy o0 q0 σ0] H locs := hw
          refine lv_if_ne (tgt := 94) S.1 S.2.1 dX9_least_73 (by decide) (fun c_10 => ?_) (fun c_10 => ?_)
          · replace hf := (if_neg c_10).symm.trans hf
            refine lv_iload_n S.1 S.2.1 dX9_least_94 rfl (lv_at hl 4 rfl) ?_
            cases hf
            exact hJ_v_7 _ _ hw
          · replace hf := (if_pos c_10).symm.trans hf
            refine lv_aload_n S.1 S.2.1 dX9_least_76 rfl (lv_at hl 1 rfl) ?_
            refine lv_iload S.1 S.2.1 dX9_least_77 (lv_at hl 5 rfl) ?_
            obtain ⟨u_11, e_u_11, hf⟩ := ob hf
            refine k_X9_closedOf S (S.2.2.2.2.wd wd1057 rfl) hw e_u_11 [0] rfl (by decide) rfl ⟨rfl, rfl, Nat.le_of_ble_eq_true rfl, Nat.le_of_ble_eq_true rfl⟩ hl.1 (Nat.le_of_ble_eq_true rfl) dX9_least_79 ⟨Nat.zero_le _, Nat.zero_le _⟩ (fun H locs hw => ?_)
            have hw : PW D A H0 [pX9 cy o0 q0 σ0] H locs := hw
            refine lv_iload_n S.1 S.2.1 dX9_least_82 rfl (lv_at hl 2 rfl) ?_
            obtain ⟨u_12, e_u_12, hf⟩ := ob hf
            refine k_X9_has S (S.2.2.2.2.wd wd943 rfl) hw e_u_12 [] rfl (by decide) rfl ⟨rfl, rfl, Nat.le_of_ble_eq_true rfl, Nat.le_of_ble_eq_true rfl⟩ hl.1 (Nat.le_of_ble_eq_true rfl) dX9_least_83 ⟨Nat.zero_le _, Nat.zero_le _⟩ (fun H locs hw => ?_)
            have hw : PW D A H0 [pX9 cy o0 q0 σ0] H locs := hw
            refine lv_if_eq (tgt := 94) S.1 S.2.1 dX9_least_86 (by decide) (fun c_13 => ?_) (fun c_13 => ?_)
            · replace hf := (if_pos c_13).symm.trans hf
              refine lv_iload_n S.1 S.2.1 dX9_least_94 rfl (lv_at hl 4 rfl) ?_
              cases hf
              exact hJ_v_7 _ _ hw
            · replace hf := (if_neg c_13).symm.trans hf
              refine lv_iload S.1 S.2.1 dX9_least_89 (lv_at hl 5 rfl) ?_
              refine lv_goto (tgt := 95) S.1 S.2.1 dX9_least_91 (by decide) ?_
              cases hf
              exact hJ_v_7 _ _ hw
      replace hf := e_v_6
      clear e_v_6
      refine lv_if_lt (tgt := 55) S.1 S.2.1 dX9_least_40 (by decide) (fun c_14 => ?_) (fun c_14 => ?_)
      · replace hf := (if_pos c_14).symm.trans hf
        refine lv_iconst (v := 1) S.1 S.2.1 dX9_least_55 (by decide) ?_
        refine lv_goto (tgt := 60) S.1 S.2.1 dX9_least_56 (by decide) ?_
        cases hf
        exact hJ_v_6 _ _ hw
      · replace hf := (if_neg c_14).symm.trans hf
        refine lv_iload S.1 S.2.1 dX9_least_43 (lv_at hl 4 rfl) ?_
        obtain ⟨u_15, e_u_15, hf⟩ := ob hf
        refine k_X9_ones S (S.2.2.2.2.wd wd829 rfl) hw e_u_15 [] rfl (by decide) rfl ⟨rfl, rfl, Nat.le_of_ble_eq_true rfl, Nat.le_of_ble_eq_true rfl⟩ hl.1 (Nat.le_of_ble_eq_true rfl) dX9_least_45 ⟨Nat.zero_le _, Nat.zero_le _⟩ (fun H locs hw => ?_)
        have hw : PW D A H0 [pX9 cy o0 q0 σ0] H locs := hw
        refine lv_iload_n S.1 S.2.1 dX9_least_48 rfl (lv_at hl 3 rfl) ?_
        obtain ⟨u_16, e_u_16, hf⟩ := ob hf
        refine k_X9_ones S (S.2.2.2.2.wd wd829 rfl) hw e_u_16 [] rfl (by decide) rfl ⟨rfl, rfl, Nat.le_of_ble_eq_true rfl, Nat.le_of_ble_eq_true rfl⟩ hl.1 (Nat.le_of_ble_eq_true rfl) dX9_least_49 ⟨Nat.zero_le _, Nat.zero_le _⟩ (fun H locs hw => ?_)
        have hw : PW D A H0 [pX9 cy o0 q0 σ0] H locs := hw
        refine lv_icmp_ge (tgt := 59) S.1 S.2.1 dX9_least_52 (by decide) (fun c_17 => ?_) (fun c_17 => ?_)
        · replace hf := (if_pos c_17).symm.trans hf
          refine lv_iconst (v := 0) S.1 S.2.1 dX9_least_59 (by decide) ?_
          cases hf
          exact hJ_v_6 _ _ hw
        · replace hf := (if_neg c_17).symm.trans hf
          refine lv_iconst (v := 1) S.1 S.2.1 dX9_least_55 (by decide) ?_
          refine lv_goto (tgt := 60) S.1 S.2.1 dX9_least_56 (by decide) ?_
          cases hf
          exact hJ_v_6 _ _ hw
end
set_option maxHeartbeats 4000000 in
set_option maxRecDepth 100000 in
theorem c_X9_least (l : Launch) (D : va_G) (cy : Nat → ClassId) (o0 : Nat) (q0 : Nat → Nat) (x1 : Int32) (x2 : Int32) (σ0 : pStt) (u : Int32) (hf : f_X9_least x1 x2 σ0 = some u) : CT l yX9_least cX9_least 6 (some .int) rmX9_least D cy [.ref o0, .int x1, .int x2] [pX9 cy o0 q0 σ0] (some (.int u)) [pX9 cy o0 q0 σ0] := by
  refine CT.of (by decide) (Nat.le_of_ble_eq_true rfl) (fun p e s m args below meth c ls A Q hA hQ S hr hlk hl hw => ?_)
  have hl : lv_has ls 6 [(0, .ref o0), (1, .int x1), (2, .int x2)] := hl
  rw [f_X9_least] at hf
  refine lv_iload_n S.1 S.2.1 dX9_least_0 rfl (lv_at hl 1 rfl) ?_
  refine lv_i2l (v := (x1 : Int32).toInt64) S.1 S.2.1 dX9_least_1 rfl ?_
  refine lv_lconst (v := 0) S.1 S.2.1 dX9_least_2 (by decide) ?_
  refine lv_ldc2 (v := 9) S.1 S.2.1 S.2.2.2.1 (S.2.2.2.2.wd wd852 rfl) dX9_least_3 ?_
  obtain ⟨u_1, e_u_1, hf⟩ := ob hf
  refine k_X9_in S (S.2.2.2.2.wd wd818 rfl) hw e_u_1 [] rfl (by decide) rfl ⟨rfl, rfl, Nat.le_of_ble_eq_true rfl, Nat.le_of_ble_eq_true rfl⟩ hl.1 (Nat.le_of_ble_eq_true rfl) dX9_least_6 ⟨Nat.zero_le _, Nat.zero_le _⟩ (fun H locs hw => ?_)
  have hw : PW D A s.heap [pX9 cy o0 q0 σ0] H locs := hw
  refine lv_if_eq (tgt := 22) S.1 S.2.1 dX9_least_9 (by decide) (fun c_2 => ?_) (fun c_2 => ?_)
  · replace hf := (if_pos c_2).symm.trans hf
    refine lv_bipush (v := (-2)) S.1 S.2.1 dX9_least_22 (by decide) ?_
    cases hf
    exact w_iret S hr hlk hA hQ hw dX9_least_24
  · replace hf := (if_neg c_2).symm.trans hf
    refine lv_iload_n S.1 S.2.1 dX9_least_12 rfl (lv_at hl 2 rfl) ?_
    refine lv_i2l (v := (x2 : Int32).toInt64) S.1 S.2.1 dX9_least_13 rfl ?_
    refine lv_lconst (v := 0) S.1 S.2.1 dX9_least_14 (by decide) ?_
    refine lv_lconst (v := 1) S.1 S.2.1 dX9_least_15 (by decide) ?_
    obtain ⟨u_3, e_u_3, hf⟩ := ob hf
    refine k_X9_in S (S.2.2.2.2.wd wd818 rfl) hw e_u_3 [] rfl (by decide) rfl ⟨rfl, rfl, Nat.le_of_ble_eq_true rfl, Nat.le_of_ble_eq_true rfl⟩ hl.1 (Nat.le_of_ble_eq_true rfl) dX9_least_16 ⟨Nat.zero_le _, Nat.zero_le _⟩ (fun H locs hw => ?_)
    have hw : PW D A s.heap [pX9 cy o0 q0 σ0] H locs := hw
    refine lv_if_ne (tgt := 25) S.1 S.2.1 dX9_least_19 (by decide) (fun c_4 => ?_) (fun c_4 => ?_)
    · replace hf := (if_neg c_4).symm.trans hf
      refine lv_bipush (v := (-6)) S.1 S.2.1 dX9_least_25 (by decide) ?_
      refine lv_istore_n (lv' := [(3, .int ((-6))), (0, .ref o0), (1, .int x1), (2, .int x2)]) S.1 S.2.1 dX9_least_27 rfl hl (by decide) rfl (fun ls hl => ?_)
      refine lv_iconst (v := 0) S.1 S.2.1 dX9_least_28 (by decide) ?_
      refine lv_istore (lv' := [(4, .int 0), (3, .int ((-6))), (0, .ref o0), (1, .int x1), (2, .int x2)]) S.1 S.2.1 dX9_least_29 hl (by decide) rfl (fun ls hl => ?_)
      obtain ⟨u_18, e_u_18, hf⟩ := ob hf
      refine lp_X9_least_31 S 2000 _ _ _ _ _ _ hw (lv_sub hl [2, 3, 4, 1, 0] rfl) e_u_18 ?_
      · intro H locs ls hw hl
        refine lv_iload_n S.1 S.2.1 dX9_least_102 rfl (lv_at hl 1 rfl) ?_
        obtain ⟨v_19, e_v_19, hf⟩ := ob hf
        have hJ_v_19 : ∀ (H : Heap) (locs : List Loc), PW D A s.heap [pX9 cy o0 q0 σ0] H locs → W p l e rmX9_least s m args below meth c H locs 0 0 Q (F0 m 119 ls [.int v_19]) := by
          intro H locs hw
          cases hf
          exact w_iret S hr hlk hA hQ hw dX9_least_119
        replace hf := e_v_19
        clear e_v_19
        refine lv_if_lt (tgt := 111) S.1 S.2.1 dX9_least_103 (by decide) (fun c_20 => ?_) (fun c_20 => ?_)
        · replace hf := (if_pos c_20).symm.trans hf
          refine lv_iload_n S.1 S.2.1 dX9_least_111 rfl (lv_at hl 1 rfl) ?_
          refine lv_goto (tgt := 119) S.1 S.2.1 dX9_least_112 (by decide) ?_
          cases hf
          exact hJ_v_19 _ _ hw
        · replace hf := (if_neg c_20).symm.trans hf
          refine lv_iload_n S.1 S.2.1 dX9_least_106 rfl (lv_at hl 0 rfl) ?_
          refine lv_iconst (v := 1) S.1 S.2.1 dX9_least_107 (by decide) ?_
          refine lv_icmp_ne (tgt := 115) S.1 S.2.1 dX9_least_108 (by decide) (fun c_21 => ?_) (fun c_21 => ?_)
          · replace hf := (if_neg c_21).symm.trans hf
            refine lv_iload_n S.1 S.2.1 dX9_least_115 rfl (lv_at hl 1 rfl) ?_
            obtain ⟨u_22, e_u_22, hf⟩ := ob hf
            refine k_X9_ones S (S.2.2.2.2.wd wd829 rfl) hw e_u_22 [] rfl (by decide) rfl ⟨rfl, rfl, Nat.le_of_ble_eq_true rfl, Nat.le_of_ble_eq_true rfl⟩ hl.1 (Nat.le_of_ble_eq_true rfl) dX9_least_116 ⟨Nat.zero_le _, Nat.zero_le _⟩ (fun H locs hw => ?_)
            have hw : PW D A s.heap [pX9 cy o0 q0 σ0] H locs := hw
            cases hf
            exact hJ_v_19 _ _ hw
          · replace hf := (if_pos c_21).symm.trans hf
            refine lv_iload_n S.1 S.2.1 dX9_least_111 rfl (lv_at hl 1 rfl) ?_
            refine lv_goto (tgt := 119) S.1 S.2.1 dX9_least_112 (by decide) ?_
            cases hf
            exact hJ_v_19 _ _ hw
    · replace hf := (if_pos c_4).symm.trans hf
      refine lv_bipush (v := (-2)) S.1 S.2.1 dX9_least_22 (by decide) ?_
      cases hf
      exact w_iret S hr hlk hA hQ hw dX9_least_24
section
variable {p : Program} {l : Launch} {e : Env} {R : Room} {s : State} {m : MethodId} {args : Array Value} {below : List Frame} {meth : Method} {c : Code} {H : Heap} {locs : List Loc} {cells slots : Nat} {Q : State → Prop} {cc : ByteArray} {pc nL : Nat} {ls : Array Slot} {rest : List Value} {D : va_G} {cy : Nat → ClassId} {A : Nat → Prop} {H0 : Heap} {own : String} {Ps : List va_W}
set_option maxRecDepth 100000 in
theorem k_X9_least {o0 : Nat} {q0 : Nat → Nat} {x1 : Int32} {x2 : Int32} {σ0 : pStt} {u : Int32} {index : Nat} (S : CX p m c cc nL s args own D cy) (hl : (Cond.methodLink own index yX9_least).before args s = true) (hw : PW D A H0 Ps H locs) (hf : f_X9_least x1 x2 σ0 = some u) (js : List Nat) (hC : js.map (fun j => Ps[j]?) = [some (pX9 cy o0 q0 σ0)]) (hnd : js.Nodup) (hlen : js.length = 1) (hR : RMok rmX9_least R 6) (hsize : ls.size = nL) (hrest : (rest.map fun v => v.category).sum ≤ 8) (hdg : decode cc pc = .ok (.invokevirtual index, 3)) (hcs : cells ≤ R.cells ∧ slots ≤ R.slots)
    (kk : ∀ (H1 : Heap) (locs1 : List Loc), PW D A H0 (setAll Ps js [pX9 cy o0 q0 σ0]) H1 locs1 → W p l e R s m args below meth c H1 locs1 cells slots Q (F0 m (pc + 3) ls (.int u :: rest))) : W p l e R s m args below meth c H locs cells slots Q (F0 m pc ls (.int x2 :: .int x1 :: .ref o0 :: rest)) :=
  w_callV (n := 2) (ov := (some (.int u))) (As := [.int x1, .int x2]) (Cs := [pX9 cy o0 q0 σ0]) (Cs' := [pX9 cy o0 q0 σ0]) S hw (c_X9_least l D cy o0 q0 x1 x2 σ0 u hf) (MF.of S.2.2.2.2 wd1068 wd79 (by decide)) (S.2.2.2.2.wd wd1066 rfl) (S.2.2.2.2.wd wd1067 rfl) hl hR js hC hnd hlen rfl rfl rfl rfl hsize rfl hrest hdg hcs kk
end
abbrev rmX9_isQuestion : Room := { frames := 1, cells := 0, slots := 0, locals := 25 }
def f_X9_isQuestion (x1 : Int32) (x2 : Int32) (x3 : Int32) : Option (Int32) := (f_X9_in ((x1 : Int32).toInt64) 0 4).bind (fun u_1 => (if u_1 = 0 then some 0 else (f_X9_in ((x2 : Int32).toInt64) 0 2).bind (fun u_5 => if u_5 = 0 then some 0 else (if x2 = 2 then some 5 else some 4 : Option Int64).bind (fun v_7 => (f_X9_in ((x3 : Int32).toInt64) 0 v_7).bind (fun u_8 => if u_8 = 0 then some 0 else some 1))) : Option Int32).bind (fun v_2 => (asB v_2).bind (fun b_3 => some b_3)))
set_option maxHeartbeats 4000000 in
set_option maxRecDepth 100000 in
theorem c_X9_isQuestion (l : Launch) (D : va_G) (cy : Nat → ClassId)  (x1 : Int32) (x2 : Int32) (x3 : Int32) (u : Int32) (hf : f_X9_isQuestion x1 x2 x3 = some u) : CT l yX9_isQuestion cX9_isQuestion 3 (some .boolean) rmX9_isQuestion D cy [.int x1, .int x2, .int x3] [] (some (.int u)) [] := by
  refine CT.of (by decide) (Nat.le_of_ble_eq_true rfl) (fun p e s m args below meth c ls A Q hA hQ S hr hlk hl hw => ?_)
  have hl : lv_has ls 3 [(0, .int x1), (1, .int x2), (2, .int x3)] := hl
  rw [f_X9_isQuestion] at hf
  refine lv_iload_n S.1 S.2.1 dX9_isQuestion_0 rfl (lv_at hl 0 rfl) ?_
  refine lv_i2l (v := (x1 : Int32).toInt64) S.1 S.2.1 dX9_isQuestion_1 rfl ?_
  refine lv_lconst (v := 0) S.1 S.2.1 dX9_isQuestion_2 (by decide) ?_
  refine lv_ldc2 (v := 4) S.1 S.2.1 S.2.2.2.1 (S.2.2.2.2.wd wd1007 rfl) dX9_isQuestion_3 ?_
  obtain ⟨u_1, e_u_1, hf⟩ := ob hf
  refine k_X9_in S (S.2.2.2.2.wd wd818 rfl) hw e_u_1 [] rfl (by decide) rfl ⟨rfl, rfl, Nat.le_of_ble_eq_true rfl, Nat.le_of_ble_eq_true rfl⟩ hl.1 (Nat.le_of_ble_eq_true rfl) dX9_isQuestion_6 ⟨Nat.zero_le _, Nat.zero_le _⟩ (fun H locs hw => ?_)
  have hw : PW D A s.heap [] H locs := hw
  obtain ⟨v_2, e_v_2, hf⟩ := ob hf
  have hJ_v_2 : ∀ (H : Heap) (locs : List Loc), PW D A s.heap [] H locs → W p l e rmX9_isQuestion s m args below meth c H locs 0 0 Q (F0 m 52 ls [.int v_2]) := by
    intro H locs hw
    obtain ⟨b_3, e_b_3, hf⟩ := ob hf
    obtain ⟨-, -, h_b_3⟩ := asB_inv e_b_3
    subst h_b_3
    cases hf
    exact w_zret S hr (asB_inv e_b_3).1 hlk hA hQ hw dX9_isQuestion_52
  replace hf := e_v_2
  clear e_v_2
  refine lv_if_eq (tgt := 51) S.1 S.2.1 dX9_isQuestion_9 (by decide) (fun c_4 => ?_) (fun c_4 => ?_)
  · replace hf := (if_pos c_4).symm.trans hf
    refine lv_iconst (v := 0) S.1 S.2.1 dX9_isQuestion_51 (by decide) ?_
    cases hf
    exact hJ_v_2 _ _ hw
  · replace hf := (if_neg c_4).symm.trans hf
    refine lv_iload_n S.1 S.2.1 dX9_isQuestion_12 rfl (lv_at hl 1 rfl) ?_
    refine lv_i2l (v := (x2 : Int32).toInt64) S.1 S.2.1 dX9_isQuestion_13 rfl ?_
    refine lv_lconst (v := 0) S.1 S.2.1 dX9_isQuestion_14 (by decide) ?_
    refine lv_ldc2 (v := 2) S.1 S.2.1 S.2.2.2.1 (S.2.2.2.2.wd wd913 rfl) dX9_isQuestion_15 ?_
    obtain ⟨u_5, e_u_5, hf⟩ := ob hf
    refine k_X9_in S (S.2.2.2.2.wd wd818 rfl) hw e_u_5 [] rfl (by decide) rfl ⟨rfl, rfl, Nat.le_of_ble_eq_true rfl, Nat.le_of_ble_eq_true rfl⟩ hl.1 (Nat.le_of_ble_eq_true rfl) dX9_isQuestion_18 ⟨Nat.zero_le _, Nat.zero_le _⟩ (fun H locs hw => ?_)
    have hw : PW D A s.heap [] H locs := hw
    refine lv_if_eq (tgt := 51) S.1 S.2.1 dX9_isQuestion_21 (by decide) (fun c_6 => ?_) (fun c_6 => ?_)
    · replace hf := (if_pos c_6).symm.trans hf
      refine lv_iconst (v := 0) S.1 S.2.1 dX9_isQuestion_51 (by decide) ?_
      cases hf
      exact hJ_v_2 _ _ hw
    · replace hf := (if_neg c_6).symm.trans hf
      refine lv_iload_n S.1 S.2.1 dX9_isQuestion_24 rfl (lv_at hl 2 rfl) ?_
      refine lv_i2l (v := (x3 : Int32).toInt64) S.1 S.2.1 dX9_isQuestion_25 rfl ?_
      refine lv_lconst (v := 0) S.1 S.2.1 dX9_isQuestion_26 (by decide) ?_
      refine lv_iload_n S.1 S.2.1 dX9_isQuestion_27 rfl (lv_at hl 1 rfl) ?_
      refine lv_iconst (v := 2) S.1 S.2.1 dX9_isQuestion_28 (by decide) ?_
      obtain ⟨v_7, e_v_7, hf⟩ := ob hf
      have hJ_v_7 : ∀ (H : Heap) (locs : List Loc), PW D A s.heap [] H locs → W p l e rmX9_isQuestion s m args below meth c H locs 0 0 Q (F0 m 41 ls [.long v_7, .long 0, .long ((x3 : Int32).toInt64)]) := by
        intro H locs hw
        obtain ⟨u_8, e_u_8, hf⟩ := ob hf
        refine k_X9_in S (S.2.2.2.2.wd wd818 rfl) hw e_u_8 [] rfl (by decide) rfl ⟨rfl, rfl, Nat.le_of_ble_eq_true rfl, Nat.le_of_ble_eq_true rfl⟩ hl.1 (Nat.le_of_ble_eq_true rfl) dX9_isQuestion_41 ⟨Nat.zero_le _, Nat.zero_le _⟩ (fun H locs hw => ?_)
        have hw : PW D A s.heap [] H locs := hw
        refine lv_if_eq (tgt := 51) S.1 S.2.1 dX9_isQuestion_44 (by decide) (fun c_9 => ?_) (fun c_9 => ?_)
        · replace hf := (if_pos c_9).symm.trans hf
          refine lv_iconst (v := 0) S.1 S.2.1 dX9_isQuestion_51 (by decide) ?_
          cases hf
          exact hJ_v_2 _ _ hw
        · replace hf := (if_neg c_9).symm.trans hf
          refine lv_iconst (v := 1) S.1 S.2.1 dX9_isQuestion_47 (by decide) ?_
          refine lv_goto (tgt := 52) S.1 S.2.1 dX9_isQuestion_48 (by decide) ?_
          cases hf
          exact hJ_v_2 _ _ hw
      replace hf := e_v_7
      clear e_v_7
      refine lv_icmp_ne (tgt := 38) S.1 S.2.1 dX9_isQuestion_29 (by decide) (fun c_10 => ?_) (fun c_10 => ?_)
      · replace hf := (if_neg c_10).symm.trans hf
        refine lv_ldc2 (v := 4) S.1 S.2.1 S.2.2.2.1 (S.2.2.2.2.wd wd1007 rfl) dX9_isQuestion_38 ?_
        cases hf
        exact hJ_v_7 _ _ hw
      · replace hf := (if_pos c_10).symm.trans hf
        refine lv_ldc2 (v := 5) S.1 S.2.1 S.2.2.2.1 (S.2.2.2.2.wd wd851 rfl) dX9_isQuestion_32 ?_
        refine lv_goto (tgt := 41) S.1 S.2.1 dX9_isQuestion_35 (by decide) ?_
        cases hf
        exact hJ_v_7 _ _ hw
section
variable {p : Program} {l : Launch} {e : Env} {R : Room} {s : State} {m : MethodId} {args : Array Value} {below : List Frame} {meth : Method} {c : Code} {H : Heap} {locs : List Loc} {cells slots : Nat} {Q : State → Prop} {cc : ByteArray} {pc nL : Nat} {ls : Array Slot} {rest : List Value} {D : va_G} {cy : Nat → ClassId} {A : Nat → Prop} {H0 : Heap} {own : String} {Ps : List va_W}
set_option maxRecDepth 100000 in
theorem k_X9_isQuestion  {x1 : Int32} {x2 : Int32} {x3 : Int32}  {u : Int32} {index : Nat} (S : CX p m c cc nL s args own D cy) (hl : (Cond.methodLink own index yX9_isQuestion).before args s = true) (hw : PW D A H0 Ps H locs) (hf : f_X9_isQuestion x1 x2 x3 = some u) (js : List Nat) (hC : js.map (fun j => Ps[j]?) = []) (hnd : js.Nodup) (hlen : js.length = 0) (hR : RMok rmX9_isQuestion R 3) (hsize : ls.size = nL) (hrest : (rest.map fun v => v.category).sum ≤ 8) (hdg : decode cc pc = .ok (.invokestatic index, 3)) (hcs : cells ≤ R.cells ∧ slots ≤ R.slots)
    (kk : ∀ (H1 : Heap) (locs1 : List Loc), PW D A H0 (setAll Ps js []) H1 locs1 → W p l e R s m args below meth c H1 locs1 cells slots Q (F0 m (pc + 3) ls (.int u :: rest))) : W p l e R s m args below meth c H locs cells slots Q (F0 m pc ls (.int x3 :: .int x2 :: .int x1 :: rest)) :=
  w_callS (n := 3) (ov := (some (.int u))) (As := [.int x1, .int x2, .int x3]) (Cs := []) (Cs' := []) S hw (c_X9_isQuestion l D cy  x1 x2 x3 u hf) (MF.of S.2.2.2.2 wd1075 wd79 (by decide)) (S.2.2.2.2.wd wd1074 rfl) hl hR js hC hnd hlen rfl hsize rfl hrest hdg hcs kk
end
abbrev rmX9_swore : Room := { frames := 2, cells := 0, slots := 0, locals := 47 }
def f_X9_swore (x1 : Int32) (x2 : Int32) (x3 : Int32) (x4 : Int32) (σ0 : pStt) : Option (Int32 × pStt) := (f_X9_isQuestion x1 x2 x3).bind (fun u_1 => if u_1 = 0 then some ((-2), σ0) else if (σ0.1 3) = 8 then some ((-4), σ0) else (stA σ0 8 8 ((σ0.1 3)) x1).bind (fun σ_4 => (stA σ_4 9 8 ((σ_4.1 3)) x2).bind (fun σ_5 => (stA σ_5 10 8 ((σ_5.1 3)) x3).bind (fun σ_6 => (if x4 = 0 then some 0 else some 1 : Option Int32).bind (fun v_7 => (stA σ_6 11 8 ((σ_6.1 3)) v_7).bind (fun σ_8 => (some (sI σ_8 3 (((σ_8.1 3) + (1 : Int32))))).bind (fun σ_9 => some ((σ_9.1 3), σ_9))))))))
set_option maxHeartbeats 4000000 in
set_option maxRecDepth 100000 in
theorem c_X9_swore (l : Launch) (D : va_G) (cy : Nat → ClassId) (o0 : Nat) (q0 : Nat → Nat) (x1 : Int32) (x2 : Int32) (x3 : Int32) (x4 : Int32) (σ0 : pStt) (u : Int32 × pStt) (hf : f_X9_swore x1 x2 x3 x4 σ0 = some u) : CT l yX9_swore cX9_swore 5 (some .int) rmX9_swore D cy [.ref o0, .int x1, .int x2, .int x3, .int x4] [pX9 cy o0 q0 σ0] (some (.int u.1)) [pX9 cy o0 q0 u.2] := by
  refine CT.of (by decide) (Nat.le_of_ble_eq_true rfl) (fun p e s m args below meth c ls A Q hA hQ S hr hlk hl hw => ?_)
  have hl : lv_has ls 5 [(0, .ref o0), (1, .int x1), (2, .int x2), (3, .int x3), (4, .int x4)] := hl
  rw [f_X9_swore] at hf
  refine lv_iload_n S.1 S.2.1 dX9_swore_0 rfl (lv_at hl 1 rfl) ?_
  refine lv_iload_n S.1 S.2.1 dX9_swore_1 rfl (lv_at hl 2 rfl) ?_
  refine lv_iload_n S.1 S.2.1 dX9_swore_2 rfl (lv_at hl 3 rfl) ?_
  obtain ⟨u_1, e_u_1, hf⟩ := ob hf
  refine k_X9_isQuestion S (S.2.2.2.2.wd wd1073 rfl) hw e_u_1 [] rfl (by decide) rfl ⟨rfl, rfl, Nat.le_of_ble_eq_true rfl, Nat.le_of_ble_eq_true rfl⟩ hl.1 (Nat.le_of_ble_eq_true rfl) dX9_swore_3 ⟨Nat.zero_le _, Nat.zero_le _⟩ (fun H locs hw => ?_)
  have hw : PW D A s.heap [pX9 cy o0 q0 σ0] H locs := hw
  refine lv_if_ne (tgt := 12) S.1 S.2.1 dX9_swore_6 (by decide) (fun c_2 => ?_) (fun c_2 => ?_)
  · replace hf := (if_neg c_2).symm.trans hf
    refine lv_aload_n S.1 S.2.1 dX9_swore_12 rfl (lv_at hl 0 rfl) ?_
    refine gf_X9_296 S hw 0 rfl dX9_swore_13 ?_
    refine lv_bipush (v := 8) S.1 S.2.1 dX9_swore_16 (by decide) ?_
    refine lv_icmp_ne (tgt := 24) S.1 S.2.1 dX9_swore_18 (by decide) (fun c_3 => ?_) (fun c_3 => ?_)
    · replace hf := (if_neg c_3).symm.trans hf
      refine lv_aload_n S.1 S.2.1 dX9_swore_24 rfl (lv_at hl 0 rfl) ?_
      refine gf_X9_34 S hw 0 rfl dX9_swore_25 ?_
      refine lv_aload_n S.1 S.2.1 dX9_swore_28 rfl (lv_at hl 0 rfl) ?_
      refine gf_X9_296 S hw 0 rfl dX9_swore_29 ?_
      refine lv_iload_n S.1 S.2.1 dX9_swore_32 rfl (lv_at hl 1 rfl) ?_
      obtain ⟨σ_4, e_σ_4, hf⟩ := ob hf
      refine as_X9_8 S hw 0 rfl e_σ_4 dX9_swore_33 (fun H locs hw => ?_)
      have hw : PW D A s.heap [pX9 cy o0 q0 σ_4] H locs := hw
      refine lv_aload_n S.1 S.2.1 dX9_swore_34 rfl (lv_at hl 0 rfl) ?_
      refine gf_X9_37 S hw 0 rfl dX9_swore_35 ?_
      refine lv_aload_n S.1 S.2.1 dX9_swore_38 rfl (lv_at hl 0 rfl) ?_
      refine gf_X9_296 S hw 0 rfl dX9_swore_39 ?_
      refine lv_iload_n S.1 S.2.1 dX9_swore_42 rfl (lv_at hl 2 rfl) ?_
      obtain ⟨σ_5, e_σ_5, hf⟩ := ob hf
      refine as_X9_9 S hw 0 rfl e_σ_5 dX9_swore_43 (fun H locs hw => ?_)
      have hw : PW D A s.heap [pX9 cy o0 q0 σ_5] H locs := hw
      refine lv_aload_n S.1 S.2.1 dX9_swore_44 rfl (lv_at hl 0 rfl) ?_
      refine gf_X9_40 S hw 0 rfl dX9_swore_45 ?_
      refine lv_aload_n S.1 S.2.1 dX9_swore_48 rfl (lv_at hl 0 rfl) ?_
      refine gf_X9_296 S hw 0 rfl dX9_swore_49 ?_
      refine lv_iload_n S.1 S.2.1 dX9_swore_52 rfl (lv_at hl 3 rfl) ?_
      obtain ⟨σ_6, e_σ_6, hf⟩ := ob hf
      refine as_X9_10 S hw 0 rfl e_σ_6 dX9_swore_53 (fun H locs hw => ?_)
      have hw : PW D A s.heap [pX9 cy o0 q0 σ_6] H locs := hw
      refine lv_aload_n S.1 S.2.1 dX9_swore_54 rfl (lv_at hl 0 rfl) ?_
      refine gf_X9_43 S hw 0 rfl dX9_swore_55 ?_
      refine lv_aload_n S.1 S.2.1 dX9_swore_58 rfl (lv_at hl 0 rfl) ?_
      refine gf_X9_296 S hw 0 rfl dX9_swore_59 ?_
      refine lv_iload S.1 S.2.1 dX9_swore_62 (lv_at hl 4 rfl) ?_
      obtain ⟨v_7, e_v_7, hf⟩ := ob hf
      have hJ_v_7 : ∀ (H : Heap) (locs : List Loc), PW D A s.heap [pX9 cy o0 q0 σ_6] H locs → W p l e rmX9_swore s m args below meth c H locs 0 0 Q (F0 m 72 ls [.int v_7, .int ((σ_6.1 3)), .ref ((q0 11))]) := by
        intro H locs hw
        obtain ⟨σ_8, e_σ_8, hf⟩ := ob hf
        refine as_X9_11 S hw 0 rfl e_σ_8 dX9_swore_72 (fun H locs hw => ?_)
        have hw : PW D A s.heap [pX9 cy o0 q0 σ_8] H locs := hw
        refine lv_aload_n S.1 S.2.1 dX9_swore_73 rfl (lv_at hl 0 rfl) ?_
        refine lv_dup S.1 S.2.1 dX9_swore_74 rfl ?_
        refine gf_X9_296 S hw 0 rfl dX9_swore_75 ?_
        refine lv_iconst (v := 1) S.1 S.2.1 dX9_swore_78 (by decide) ?_
        refine lv_iadd S.1 S.2.1 dX9_swore_79 ?_
        obtain ⟨σ_9, e_σ_9, hf⟩ := ob hf
        refine pf_X9_296 S hw 0 rfl e_σ_9 dX9_swore_80 (fun H locs hw => ?_)
        have hw : PW D A s.heap [pX9 cy o0 q0 σ_9] H locs := hw
        refine lv_aload_n S.1 S.2.1 dX9_swore_83 rfl (lv_at hl 0 rfl) ?_
        refine gf_X9_296 S hw 0 rfl dX9_swore_84 ?_
        cases hf
        exact w_iret S hr hlk hA hQ hw dX9_swore_87
      replace hf := e_v_7
      clear e_v_7
      refine lv_if_eq (tgt := 71) S.1 S.2.1 dX9_swore_64 (by decide) (fun c_10 => ?_) (fun c_10 => ?_)
      · replace hf := (if_pos c_10).symm.trans hf
        refine lv_iconst (v := 0) S.1 S.2.1 dX9_swore_71 (by decide) ?_
        cases hf
        exact hJ_v_7 _ _ hw
      · replace hf := (if_neg c_10).symm.trans hf
        refine lv_iconst (v := 1) S.1 S.2.1 dX9_swore_67 (by decide) ?_
        refine lv_goto (tgt := 72) S.1 S.2.1 dX9_swore_68 (by decide) ?_
        cases hf
        exact hJ_v_7 _ _ hw
    · replace hf := (if_pos c_3).symm.trans hf
      refine lv_bipush (v := (-4)) S.1 S.2.1 dX9_swore_21 (by decide) ?_
      cases hf
      exact w_iret S hr hlk hA hQ hw dX9_swore_23
  · replace hf := (if_pos c_2).symm.trans hf
    refine lv_bipush (v := (-2)) S.1 S.2.1 dX9_swore_9 (by decide) ?_
    cases hf
    exact w_iret S hr hlk hA hQ hw dX9_swore_11
section
variable {p : Program} {l : Launch} {e : Env} {R : Room} {s : State} {m : MethodId} {args : Array Value} {below : List Frame} {meth : Method} {c : Code} {H : Heap} {locs : List Loc} {cells slots : Nat} {Q : State → Prop} {cc : ByteArray} {pc nL : Nat} {ls : Array Slot} {rest : List Value} {D : va_G} {cy : Nat → ClassId} {A : Nat → Prop} {H0 : Heap} {own : String} {Ps : List va_W}
set_option maxRecDepth 100000 in
theorem k_X9_swore {o0 : Nat} {q0 : Nat → Nat} {x1 : Int32} {x2 : Int32} {x3 : Int32} {x4 : Int32} {σ0 : pStt} {u : Int32 × pStt} {index : Nat} (S : CX p m c cc nL s args own D cy) (hl : (Cond.methodLink own index yX9_swore).before args s = true) (hw : PW D A H0 Ps H locs) (hf : f_X9_swore x1 x2 x3 x4 σ0 = some u) (js : List Nat) (hC : js.map (fun j => Ps[j]?) = [some (pX9 cy o0 q0 σ0)]) (hnd : js.Nodup) (hlen : js.length = 1) (hR : RMok rmX9_swore R 5) (hsize : ls.size = nL) (hrest : (rest.map fun v => v.category).sum ≤ 8) (hdg : decode cc pc = .ok (.invokevirtual index, 3)) (hcs : cells ≤ R.cells ∧ slots ≤ R.slots)
    (kk : ∀ (H1 : Heap) (locs1 : List Loc), PW D A H0 (setAll Ps js [pX9 cy o0 q0 u.2]) H1 locs1 → W p l e R s m args below meth c H1 locs1 cells slots Q (F0 m (pc + 3) ls (.int u.1 :: rest))) : W p l e R s m args below meth c H locs cells slots Q (F0 m pc ls (.int x4 :: .int x3 :: .int x2 :: .int x1 :: .ref o0 :: rest)) :=
  w_callV (n := 4) (ov := (some (.int u.1))) (As := [.int x1, .int x2, .int x3, .int x4]) (Cs := [pX9 cy o0 q0 σ0]) (Cs' := [pX9 cy o0 q0 u.2]) S hw (c_X9_swore l D cy o0 q0 x1 x2 x3 x4 σ0 u hf) (MF.of S.2.2.2.2 wd1072 wd79 (by decide)) (S.2.2.2.2.wd wd1070 rfl) (S.2.2.2.2.wd wd1071 rfl) hl hR js hC hnd hlen rfl rfl rfl rfl hsize rfl hrest hdg hcs kk
end
abbrev rmX9_forget : Room := { frames := 0, cells := 0, slots := 0, locals := 0 }
def f_X9_forget (σ0 : pStt) : Option (Int32 × pStt) := (some (sI σ0 3 0)).bind (fun σ_1 => some ((σ0.1 3), σ_1))
set_option maxHeartbeats 4000000 in
set_option maxRecDepth 100000 in
theorem c_X9_forget (l : Launch) (D : va_G) (cy : Nat → ClassId) (o0 : Nat) (q0 : Nat → Nat) (σ0 : pStt) (u : Int32 × pStt) (hf : f_X9_forget σ0 = some u) : CT l yX9_forget cX9_forget 2 (some .int) rmX9_forget D cy [.ref o0] [pX9 cy o0 q0 σ0] (some (.int u.1)) [pX9 cy o0 q0 u.2] := by
  refine CT.of (by decide) (Nat.le_of_ble_eq_true rfl) (fun p e s m args below meth c ls A Q hA hQ S hr hlk hl hw => ?_)
  have hl : lv_has ls 2 [(0, .ref o0)] := hl
  rw [f_X9_forget] at hf
  refine lv_aload_n S.1 S.2.1 dX9_forget_0 rfl (lv_at hl 0 rfl) ?_
  refine gf_X9_296 S hw 0 rfl dX9_forget_1 ?_
  refine lv_istore_n (lv' := [(1, .int ((σ0.1 3))), (0, .ref o0)]) S.1 S.2.1 dX9_forget_4 rfl hl (by decide) rfl (fun ls hl => ?_)
  refine lv_aload_n S.1 S.2.1 dX9_forget_5 rfl (lv_at hl 1 rfl) ?_
  refine lv_iconst (v := 0) S.1 S.2.1 dX9_forget_6 (by decide) ?_
  obtain ⟨σ_1, e_σ_1, hf⟩ := ob hf
  refine pf_X9_296 S hw 0 rfl e_σ_1 dX9_forget_7 (fun H locs hw => ?_)
  have hw : PW D A s.heap [pX9 cy o0 q0 σ_1] H locs := hw
  refine lv_iload_n S.1 S.2.1 dX9_forget_10 rfl (lv_at hl 0 rfl) ?_
  cases hf
  exact w_iret S hr hlk hA hQ hw dX9_forget_11
section
variable {p : Program} {l : Launch} {e : Env} {R : Room} {s : State} {m : MethodId} {args : Array Value} {below : List Frame} {meth : Method} {c : Code} {H : Heap} {locs : List Loc} {cells slots : Nat} {Q : State → Prop} {cc : ByteArray} {pc nL : Nat} {ls : Array Slot} {rest : List Value} {D : va_G} {cy : Nat → ClassId} {A : Nat → Prop} {H0 : Heap} {own : String} {Ps : List va_W}
set_option maxRecDepth 100000 in
theorem k_X9_forget {o0 : Nat} {q0 : Nat → Nat}  {σ0 : pStt} {u : Int32 × pStt} {index : Nat} (S : CX p m c cc nL s args own D cy) (hl : (Cond.methodLink own index yX9_forget).before args s = true) (hw : PW D A H0 Ps H locs) (hf : f_X9_forget σ0 = some u) (js : List Nat) (hC : js.map (fun j => Ps[j]?) = [some (pX9 cy o0 q0 σ0)]) (hnd : js.Nodup) (hlen : js.length = 1) (hR : RMok rmX9_forget R 2) (hsize : ls.size = nL) (hrest : (rest.map fun v => v.category).sum ≤ 8) (hdg : decode cc pc = .ok (.invokevirtual index, 3)) (hcs : cells ≤ R.cells ∧ slots ≤ R.slots)
    (kk : ∀ (H1 : Heap) (locs1 : List Loc), PW D A H0 (setAll Ps js [pX9 cy o0 q0 u.2]) H1 locs1 → W p l e R s m args below meth c H1 locs1 cells slots Q (F0 m (pc + 3) ls (.int u.1 :: rest))) : W p l e R s m args below meth c H locs cells slots Q (F0 m pc ls (.ref o0 :: rest)) :=
  w_callV (n := 0) (ov := (some (.int u.1))) (As := []) (Cs := [pX9 cy o0 q0 σ0]) (Cs' := [pX9 cy o0 q0 u.2]) S hw (c_X9_forget l D cy o0 q0 σ0 u hf) (MF.of S.2.2.2.2 wd1079 wd79 (by decide)) (S.2.2.2.2.wd wd1077 rfl) (S.2.2.2.2.wd wd1078 rfl) hl hR js hC hnd hlen rfl rfl rfl rfl hsize rfl hrest hdg hcs kk
end
abbrev rmX9_says : Room := { frames := 1, cells := 0, slots := 0, locals := 22 }
def f_X9_says (x1 : Int32) (x2 : Int32) (x3 : Int32) (x4 : Int32) : Option (Int32) := (if x3 = 2 then (f_X9_ones x1).bind (fun u_10 => if u_10 = x4 then some 1 else some 0) else (f_X9_has x1 x4).bind (fun u_6 => (if x3 = 1 then some 1 else some 0 : Option Int32).bind (fun v_7 => if u_6 = v_7 then some 1 else some 0)) : Option Int32).bind (fun v_1 => (f_X9_has x1 x2).bind (fun u_2 => (if v_1 = u_2 then some 0 else some 1 : Option Int32).bind (fun v_3 => some v_3)))
set_option maxHeartbeats 4000000 in
set_option maxRecDepth 100000 in
theorem c_X9_says (l : Launch) (D : va_G) (cy : Nat → ClassId)  (x1 : Int32) (x2 : Int32) (x3 : Int32) (x4 : Int32) (u : Int32) (hf : f_X9_says x1 x2 x3 x4 = some u) : CT l yX9_says cX9_says 5 (some .int) rmX9_says D cy [.int x1, .int x2, .int x3, .int x4] [] (some (.int u)) [] := by
  refine CT.of (by decide) (Nat.le_of_ble_eq_true rfl) (fun p e s m args below meth c ls A Q hA hQ S hr hlk hl hw => ?_)
  have hl : lv_has ls 5 [(0, .int x1), (1, .int x2), (2, .int x3), (3, .int x4)] := hl
  rw [f_X9_says] at hf
  refine lv_iload_n S.1 S.2.1 dX9_says_0 rfl (lv_at hl 2 rfl) ?_
  refine lv_iconst (v := 2) S.1 S.2.1 dX9_says_1 (by decide) ?_
  obtain ⟨v_1, e_v_1, hf⟩ := ob hf
  have hJ_v_1 : ∀ (H : Heap) (locs : List Loc), PW D A s.heap [] H locs → W p l e rmX9_says s m args below meth c H locs 0 0 Q (F0 m 44 ls [.int v_1]) := by
    intro H locs hw
    refine lv_istore (lv' := [(4, .int v_1), (0, .int x1), (1, .int x2), (2, .int x3), (3, .int x4)]) S.1 S.2.1 dX9_says_44 hl (by decide) rfl (fun ls hl => ?_)
    refine lv_iload S.1 S.2.1 dX9_says_46 (lv_at hl 0 rfl) ?_
    refine lv_iload_n S.1 S.2.1 dX9_says_48 rfl (lv_at hl 1 rfl) ?_
    refine lv_iload_n S.1 S.2.1 dX9_says_49 rfl (lv_at hl 2 rfl) ?_
    obtain ⟨u_2, e_u_2, hf⟩ := ob hf
    refine k_X9_has S (S.2.2.2.2.wd wd943 rfl) hw e_u_2 [] rfl (by decide) rfl ⟨rfl, rfl, Nat.le_of_ble_eq_true rfl, Nat.le_of_ble_eq_true rfl⟩ hl.1 (Nat.le_of_ble_eq_true rfl) dX9_says_50 ⟨Nat.zero_le _, Nat.zero_le _⟩ (fun H locs hw => ?_)
    have hw : PW D A s.heap [] H locs := hw
    obtain ⟨v_3, e_v_3, hf⟩ := ob hf
    have hJ_v_3 : ∀ (H : Heap) (locs : List Loc), PW D A s.heap [] H locs → W p l e rmX9_says s m args below meth c H locs 0 0 Q (F0 m 61 ls [.int v_3]) := by
      intro H locs hw
      cases hf
      exact w_iret S hr hlk hA hQ hw dX9_says_61
    replace hf := e_v_3
    clear e_v_3
    refine lv_icmp_eq (tgt := 60) S.1 S.2.1 dX9_says_53 (by decide) (fun c_4 => ?_) (fun c_4 => ?_)
    · replace hf := (if_pos c_4).symm.trans hf
      refine lv_iconst (v := 0) S.1 S.2.1 dX9_says_60 (by decide) ?_
      cases hf
      exact hJ_v_3 _ _ hw
    · replace hf := (if_neg c_4).symm.trans hf
      refine lv_iconst (v := 1) S.1 S.2.1 dX9_says_56 (by decide) ?_
      refine lv_goto (tgt := 61) S.1 S.2.1 dX9_says_57 (by decide) ?_
      cases hf
      exact hJ_v_3 _ _ hw
  replace hf := e_v_1
  clear e_v_1
  refine lv_icmp_ne (tgt := 21) S.1 S.2.1 dX9_says_2 (by decide) (fun c_5 => ?_) (fun c_5 => ?_)
  · replace hf := (if_neg c_5).symm.trans hf
    refine lv_iload_n S.1 S.2.1 dX9_says_21 rfl (lv_at hl 0 rfl) ?_
    refine lv_iload_n S.1 S.2.1 dX9_says_22 rfl (lv_at hl 3 rfl) ?_
    obtain ⟨u_6, e_u_6, hf⟩ := ob hf
    refine k_X9_has S (S.2.2.2.2.wd wd943 rfl) hw e_u_6 [] rfl (by decide) rfl ⟨rfl, rfl, Nat.le_of_ble_eq_true rfl, Nat.le_of_ble_eq_true rfl⟩ hl.1 (Nat.le_of_ble_eq_true rfl) dX9_says_23 ⟨Nat.zero_le _, Nat.zero_le _⟩ (fun H locs hw => ?_)
    have hw : PW D A s.heap [] H locs := hw
    refine lv_iload_n S.1 S.2.1 dX9_says_26 rfl (lv_at hl 2 rfl) ?_
    refine lv_iconst (v := 1) S.1 S.2.1 dX9_says_27 (by decide) ?_
    obtain ⟨v_7, e_v_7, hf⟩ := ob hf
    have hJ_v_7 : ∀ (H : Heap) (locs : List Loc), PW D A s.heap [] H locs → W p l e rmX9_says s m args below meth c H locs 0 0 Q (F0 m 36 ls [.int v_7, .int u_6]) := by
      intro H locs hw
      refine lv_icmp_ne (tgt := 43) S.1 S.2.1 dX9_says_36 (by decide) (fun c_8 => ?_) (fun c_8 => ?_)
      · replace hf := (if_neg c_8).symm.trans hf
        refine lv_iconst (v := 0) S.1 S.2.1 dX9_says_43 (by decide) ?_
        cases hf
        exact hJ_v_1 _ _ hw
      · replace hf := (if_pos c_8).symm.trans hf
        refine lv_iconst (v := 1) S.1 S.2.1 dX9_says_39 (by decide) ?_
        refine lv_goto (tgt := 44) S.1 S.2.1 dX9_says_40 (by decide) ?_
        cases hf
        exact hJ_v_1 _ _ hw
    replace hf := e_v_7
    clear e_v_7
    refine lv_icmp_ne (tgt := 35) S.1 S.2.1 dX9_says_28 (by decide) (fun c_9 => ?_) (fun c_9 => ?_)
    · replace hf := (if_neg c_9).symm.trans hf
      refine lv_iconst (v := 0) S.1 S.2.1 dX9_says_35 (by decide) ?_
      cases hf
      exact hJ_v_7 _ _ hw
    · replace hf := (if_pos c_9).symm.trans hf
      refine lv_iconst (v := 1) S.1 S.2.1 dX9_says_31 (by decide) ?_
      refine lv_goto (tgt := 36) S.1 S.2.1 dX9_says_32 (by decide) ?_
      cases hf
      exact hJ_v_7 _ _ hw
  · replace hf := (if_pos c_5).symm.trans hf
    refine lv_iload_n S.1 S.2.1 dX9_says_5 rfl (lv_at hl 0 rfl) ?_
    obtain ⟨u_10, e_u_10, hf⟩ := ob hf
    refine k_X9_ones S (S.2.2.2.2.wd wd829 rfl) hw e_u_10 [] rfl (by decide) rfl ⟨rfl, rfl, Nat.le_of_ble_eq_true rfl, Nat.le_of_ble_eq_true rfl⟩ hl.1 (Nat.le_of_ble_eq_true rfl) dX9_says_6 ⟨Nat.zero_le _, Nat.zero_le _⟩ (fun H locs hw => ?_)
    have hw : PW D A s.heap [] H locs := hw
    refine lv_iload_n S.1 S.2.1 dX9_says_9 rfl (lv_at hl 3 rfl) ?_
    refine lv_icmp_ne (tgt := 17) S.1 S.2.1 dX9_says_10 (by decide) (fun c_11 => ?_) (fun c_11 => ?_)
    · replace hf := (if_neg c_11).symm.trans hf
      refine lv_iconst (v := 0) S.1 S.2.1 dX9_says_17 (by decide) ?_
      refine lv_goto (tgt := 44) S.1 S.2.1 dX9_says_18 (by decide) ?_
      cases hf
      exact hJ_v_1 _ _ hw
    · replace hf := (if_pos c_11).symm.trans hf
      refine lv_iconst (v := 1) S.1 S.2.1 dX9_says_13 (by decide) ?_
      refine lv_goto (tgt := 44) S.1 S.2.1 dX9_says_14 (by decide) ?_
      cases hf
      exact hJ_v_1 _ _ hw
section
variable {p : Program} {l : Launch} {e : Env} {R : Room} {s : State} {m : MethodId} {args : Array Value} {below : List Frame} {meth : Method} {c : Code} {H : Heap} {locs : List Loc} {cells slots : Nat} {Q : State → Prop} {cc : ByteArray} {pc nL : Nat} {ls : Array Slot} {rest : List Value} {D : va_G} {cy : Nat → ClassId} {A : Nat → Prop} {H0 : Heap} {own : String} {Ps : List va_W}
set_option maxRecDepth 100000 in
theorem k_X9_says  {x1 : Int32} {x2 : Int32} {x3 : Int32} {x4 : Int32}  {u : Int32} {index : Nat} (S : CX p m c cc nL s args own D cy) (hl : (Cond.methodLink own index yX9_says).before args s = true) (hw : PW D A H0 Ps H locs) (hf : f_X9_says x1 x2 x3 x4 = some u) (js : List Nat) (hC : js.map (fun j => Ps[j]?) = []) (hnd : js.Nodup) (hlen : js.length = 0) (hR : RMok rmX9_says R 5) (hsize : ls.size = nL) (hrest : (rest.map fun v => v.category).sum ≤ 8) (hdg : decode cc pc = .ok (.invokestatic index, 3)) (hcs : cells ≤ R.cells ∧ slots ≤ R.slots)
    (kk : ∀ (H1 : Heap) (locs1 : List Loc), PW D A H0 (setAll Ps js []) H1 locs1 → W p l e R s m args below meth c H1 locs1 cells slots Q (F0 m (pc + 3) ls (.int u :: rest))) : W p l e R s m args below meth c H locs cells slots Q (F0 m pc ls (.int x4 :: .int x3 :: .int x2 :: .int x1 :: rest)) :=
  w_callS (n := 4) (ov := (some (.int u))) (As := [.int x1, .int x2, .int x3, .int x4]) (Cs := []) (Cs' := []) S hw (c_X9_says l D cy  x1 x2 x3 x4 u hf) (MF.of S.2.2.2.2 wd1090 wd79 (by decide)) (S.2.2.2.2.wd wd1089 rfl) hl hR js hC hnd hlen rfl hsize rfl hrest hdg hcs kk
end
abbrev rmX9_isFit : Room := { frames := 2, cells := 0, slots := 0, locals := 46 }
def fl_X9_isFit_4 (y1 : Int32) (σ0 : pStt) : Nat → Int32 → Int32 → Option (Int32)
  | 0, _, _ => none
  | n + 1, y2, y3 => if (σ0.1 3) ≤ y3 then some y2 else (if y2 = 0 then some 0 else (ld (σ0.2 8) 8 y3).bind (fun x_4 => (ld (σ0.2 9) 8 y3).bind (fun x_5 => (ld (σ0.2 10) 8 y3).bind (fun x_6 => (f_X9_says y1 x_4 x_5 x_6).bind (fun u_7 => (ld (σ0.2 11) 8 y3).bind (fun x_8 => if u_7 = x_8 then some 1 else some 0))))) : Option Int32).bind (fun v_2 => fl_X9_isFit_4 y1 σ0 n v_2 ((y3 + 1)))
def f_X9_isFit (x1 : Int32) (σ0 : pStt) : Option (Int32) := (fl_X9_isFit_4 x1 σ0 2000 1 0).bind (fun u_10 => (asB u_10).bind (fun b_11 => some b_11))
section
variable {p : Program} {l : Launch} {e : Env} {s : State} {m : MethodId} {args : Array Value} {below : List Frame} {meth : Method} {c : Code} {Q : State → Prop} {D : va_G} {cy : Nat → ClassId} {A : Nat → Prop} {H0 : Heap}
set_option maxHeartbeats 4000000 in
set_option maxRecDepth 100000 in
theorem lp_X9_isFit_4 (S : CX p m c cX9_isFit 4 s args RX9 D cy) {o0 : Nat} {q0 : Nat → Nat} {σ0 : pStt} {y1 : Int32} : ∀ (n : Nat) (y2 : Int32) (y3 : Int32) (H : Heap) (locs : List Loc) (ls : Array Slot) (u : Int32), PW D A H0 [pX9 cy o0 q0 σ0] H locs → lv_has ls 4 [(0, .ref o0), (1, .int y1), (2, .int y2), (3, .int y3)] → fl_X9_isFit_4 y1 σ0 n y2 y3 = some u → (∀ (H : Heap) (locs : List Loc) (ls : Array Slot), PW D A H0 [pX9 cy o0 q0 σ0] H locs → lv_has ls 4 [(2, .int u)] → W p l e rmX9_isFit s m args below meth c H locs 0 0 Q (F0 m 59 ls [])) → W p l e rmX9_isFit s m args below meth c H locs 0 0 Q (F0 m 4 ls []) := by
  intro n
  induction n with
  | zero =>
    intro y2 y3 H locs ls u hw hl hf K0
    rw [fl_X9_isFit_4] at hf
    cases hf
  | succ n ih =>
    intro y2 y3 H locs ls u hw hl hf K0
    rw [fl_X9_isFit_4] at hf
    refine lv_iload_n S.1 S.2.1 dX9_isFit_4 rfl (lv_at hl 3 rfl) ?_
    refine lv_aload_n S.1 S.2.1 dX9_isFit_5 rfl (lv_at hl 0 rfl) ?_
    refine gf_X9_296 S hw 0 rfl dX9_isFit_6 ?_
    refine lv_icmp_ge (tgt := 59) S.1 S.2.1 dX9_isFit_9 (by decide) (fun c_1 => ?_) (fun c_1 => ?_)
    · replace hf := (if_pos c_1).symm.trans hf
      cases hf
      exact K0 _ _ _ hw (lv_sub hl [2] rfl)
    · replace hf := (if_neg c_1).symm.trans hf
      refine lv_iload_n S.1 S.2.1 dX9_isFit_12 rfl (lv_at hl 2 rfl) ?_
      obtain ⟨v_2, e_v_2, hf⟩ := ob hf
      have hJ_v_2 : ∀ (H : Heap) (locs : List Loc), PW D A H0 [pX9 cy o0 q0 σ0] H locs → W p l e rmX9_isFit s m args below meth c H locs 0 0 Q (F0 m 52 ls [.int v_2]) := by
        intro H locs hw
        refine lv_istore_n (lv' := [(2, .int v_2), (0, .ref o0), (1, .int y1), (3, .int y3)]) S.1 S.2.1 dX9_isFit_52 rfl hl (by decide) rfl (fun ls hl => ?_)
        refine lv_iinc (v := (y3 + 1)) (lv' := [(3, .int ((y3 + 1))), (2, .int v_2), (0, .ref o0), (1, .int y1)]) S.1 S.2.1 dX9_isFit_53 hl (k := 3) rfl rfl (by decide) rfl (fun ls hl => ?_)
        refine lv_goto (tgt := 4) S.1 S.2.1 dX9_isFit_56 (by decide) ?_
        exact ih _ _ _ _ _ _ hw (lv_sub hl [2, 3, 1, 0] rfl) hf K0
      replace hf := e_v_2
      clear e_v_2
      refine lv_if_eq (tgt := 51) S.1 S.2.1 dX9_isFit_13 (by decide) (fun c_3 => ?_) (fun c_3 => ?_)
      · replace hf := (if_pos c_3).symm.trans hf
        refine lv_iconst (v := 0) S.1 S.2.1 dX9_isFit_51 (by decide) ?_
        cases hf
        exact hJ_v_2 _ _ hw
      · replace hf := (if_neg c_3).symm.trans hf
        refine lv_iload_n S.1 S.2.1 dX9_isFit_16 rfl (lv_at hl 1 rfl) ?_
        refine lv_aload_n S.1 S.2.1 dX9_isFit_17 rfl (lv_at hl 0 rfl) ?_
        refine gf_X9_34 S hw 0 rfl dX9_isFit_18 ?_
        refine lv_iload_n S.1 S.2.1 dX9_isFit_21 rfl (lv_at hl 3 rfl) ?_
        obtain ⟨x_4, e_x_4, hf⟩ := ob hf
        refine al_X9_8 S hw 0 rfl e_x_4 dX9_isFit_22 ?_
        refine lv_aload_n S.1 S.2.1 dX9_isFit_23 rfl (lv_at hl 0 rfl) ?_
        refine gf_X9_37 S hw 0 rfl dX9_isFit_24 ?_
        refine lv_iload_n S.1 S.2.1 dX9_isFit_27 rfl (lv_at hl 3 rfl) ?_
        obtain ⟨x_5, e_x_5, hf⟩ := ob hf
        refine al_X9_9 S hw 0 rfl e_x_5 dX9_isFit_28 ?_
        refine lv_aload_n S.1 S.2.1 dX9_isFit_29 rfl (lv_at hl 0 rfl) ?_
        refine gf_X9_40 S hw 0 rfl dX9_isFit_30 ?_
        refine lv_iload_n S.1 S.2.1 dX9_isFit_33 rfl (lv_at hl 3 rfl) ?_
        obtain ⟨x_6, e_x_6, hf⟩ := ob hf
        refine al_X9_10 S hw 0 rfl e_x_6 dX9_isFit_34 ?_
        obtain ⟨u_7, e_u_7, hf⟩ := ob hf
        refine k_X9_says S (S.2.2.2.2.wd wd1088 rfl) hw e_u_7 [] rfl (by decide) rfl ⟨rfl, rfl, Nat.le_of_ble_eq_true rfl, Nat.le_of_ble_eq_true rfl⟩ hl.1 (Nat.le_of_ble_eq_true rfl) dX9_isFit_35 ⟨Nat.zero_le _, Nat.zero_le _⟩ (fun H locs hw => ?_)
        have hw : PW D A H0 [pX9 cy o0 q0 σ0] H locs := hw
        refine lv_aload_n S.1 S.2.1 dX9_isFit_38 rfl (lv_at hl 0 rfl) ?_
        refine gf_X9_43 S hw 0 rfl dX9_isFit_39 ?_
        refine lv_iload_n S.1 S.2.1 dX9_isFit_42 rfl (lv_at hl 3 rfl) ?_
        obtain ⟨x_8, e_x_8, hf⟩ := ob hf
        refine al_X9_11 S hw 0 rfl e_x_8 dX9_isFit_43 ?_
        refine lv_icmp_ne (tgt := 51) S.1 S.2.1 dX9_isFit_44 (by decide) (fun c_9 => ?_) (fun c_9 => ?_)
        · replace hf := (if_neg c_9).symm.trans hf
          refine lv_iconst (v := 0) S.1 S.2.1 dX9_isFit_51 (by decide) ?_
          cases hf
          exact hJ_v_2 _ _ hw
        · replace hf := (if_pos c_9).symm.trans hf
          refine lv_iconst (v := 1) S.1 S.2.1 dX9_isFit_47 (by decide) ?_
          refine lv_goto (tgt := 52) S.1 S.2.1 dX9_isFit_48 (by decide) ?_
          cases hf
          exact hJ_v_2 _ _ hw
end
set_option maxHeartbeats 4000000 in
set_option maxRecDepth 100000 in
theorem c_X9_isFit (l : Launch) (D : va_G) (cy : Nat → ClassId) (o0 : Nat) (q0 : Nat → Nat) (x1 : Int32) (σ0 : pStt) (u : Int32) (hf : f_X9_isFit x1 σ0 = some u) : CT l yX9_isFit cX9_isFit 4 (some .boolean) rmX9_isFit D cy [.ref o0, .int x1] [pX9 cy o0 q0 σ0] (some (.int u)) [pX9 cy o0 q0 σ0] := by
  refine CT.of (by decide) (Nat.le_of_ble_eq_true rfl) (fun p e s m args below meth c ls A Q hA hQ S hr hlk hl hw => ?_)
  have hl : lv_has ls 4 [(0, .ref o0), (1, .int x1)] := hl
  rw [f_X9_isFit] at hf
  refine lv_iconst (v := 1) S.1 S.2.1 dX9_isFit_0 (by decide) ?_
  refine lv_istore_n (lv' := [(2, .int 1), (0, .ref o0), (1, .int x1)]) S.1 S.2.1 dX9_isFit_1 rfl hl (by decide) rfl (fun ls hl => ?_)
  refine lv_iconst (v := 0) S.1 S.2.1 dX9_isFit_2 (by decide) ?_
  refine lv_istore_n (lv' := [(3, .int 0), (2, .int 1), (0, .ref o0), (1, .int x1)]) S.1 S.2.1 dX9_isFit_3 rfl hl (by decide) rfl (fun ls hl => ?_)
  obtain ⟨u_10, e_u_10, hf⟩ := ob hf
  refine lp_X9_isFit_4 S 2000 _ _ _ _ _ _ hw (lv_sub hl [2, 3, 1, 0] rfl) e_u_10 ?_
  · intro H locs ls hw hl
    refine lv_iload_n S.1 S.2.1 dX9_isFit_59 rfl (lv_at hl 0 rfl) ?_
    obtain ⟨b_11, e_b_11, hf⟩ := ob hf
    obtain ⟨-, -, h_b_11⟩ := asB_inv e_b_11
    subst h_b_11
    cases hf
    exact w_zret S hr (asB_inv e_b_11).1 hlk hA hQ hw dX9_isFit_60
section
variable {p : Program} {l : Launch} {e : Env} {R : Room} {s : State} {m : MethodId} {args : Array Value} {below : List Frame} {meth : Method} {c : Code} {H : Heap} {locs : List Loc} {cells slots : Nat} {Q : State → Prop} {cc : ByteArray} {pc nL : Nat} {ls : Array Slot} {rest : List Value} {D : va_G} {cy : Nat → ClassId} {A : Nat → Prop} {H0 : Heap} {own : String} {Ps : List va_W}
set_option maxRecDepth 100000 in
theorem k_X9_isFit {o0 : Nat} {q0 : Nat → Nat} {x1 : Int32} {σ0 : pStt} {u : Int32} {index : Nat} (S : CX p m c cc nL s args own D cy) (hl : (Cond.methodLink own index yX9_isFit).before args s = true) (hw : PW D A H0 Ps H locs) (hf : f_X9_isFit x1 σ0 = some u) (js : List Nat) (hC : js.map (fun j => Ps[j]?) = [some (pX9 cy o0 q0 σ0)]) (hnd : js.Nodup) (hlen : js.length = 1) (hR : RMok rmX9_isFit R 4) (hsize : ls.size = nL) (hrest : (rest.map fun v => v.category).sum ≤ 8) (hdg : decode cc pc = .ok (.invokevirtual index, 3)) (hcs : cells ≤ R.cells ∧ slots ≤ R.slots)
    (kk : ∀ (H1 : Heap) (locs1 : List Loc), PW D A H0 (setAll Ps js [pX9 cy o0 q0 σ0]) H1 locs1 → W p l e R s m args below meth c H1 locs1 cells slots Q (F0 m (pc + 3) ls (.int u :: rest))) : W p l e R s m args below meth c H locs cells slots Q (F0 m pc ls (.int x1 :: .ref o0 :: rest)) :=
  w_callV (n := 1) (ov := (some (.int u))) (As := [.int x1]) (Cs := [pX9 cy o0 q0 σ0]) (Cs' := [pX9 cy o0 q0 σ0]) S hw (c_X9_isFit l D cy o0 q0 x1 σ0 u hf) (MF.of S.2.2.2.2 wd1087 wd79 (by decide)) (S.2.2.2.2.wd wd1086 rfl) (S.2.2.2.2.wd wd57 rfl) hl hR js hC hnd hlen rfl rfl rfl rfl hsize rfl hrest hdg hcs kk
end
abbrev rmX9_liars : Room := { frames := 3, cells := 0, slots := 0, locals := 69 }
def fl_X9_liars_4 (y1 : Int32) (σ0 : pStt) : Nat → Int32 → Int32 → Option ((Int32) ⊕ (Int32))
  | 0, _, _ => none
  | n + 1, y2, y3 => if 32 ≤ y3 then some (.inr y2) else (f_X9_isFit y3 σ0).bind (fun u_2 => if u_2 = 0 then fl_X9_liars_4 y1 σ0 n y2 ((y3 + 1)) else if y2 = y1 then some (.inl y3) else fl_X9_liars_4 y1 σ0 n ((y2 + 1)) ((y3 + 1)))
def f_X9_liars (x1 : Int32) (σ0 : pStt) : Option (Int32) := (fl_X9_liars_4 x1 σ0 2000 0 0).bind (fun u_5 => sm (fun a_6 => some a_6) (fun a_7 => (if x1 = (-1) then some a_7 else some ((-6)) : Option Int32).bind (fun v_8 => some v_8)) u_5)
section
variable {p : Program} {l : Launch} {e : Env} {s : State} {m : MethodId} {args : Array Value} {below : List Frame} {meth : Method} {c : Code} {Q : State → Prop} {D : va_G} {cy : Nat → ClassId} {A : Nat → Prop} {H0 : Heap}
set_option maxHeartbeats 4000000 in
set_option maxRecDepth 100000 in
theorem lp_X9_liars_4 (S : CX p m c cX9_liars 4 s args RX9 D cy) {o0 : Nat} {q0 : Nat → Nat} {σ0 : pStt} {y1 : Int32} : ∀ (n : Nat) (y2 : Int32) (y3 : Int32) (H : Heap) (locs : List Loc) (ls : Array Slot) (u : (Int32) ⊕ (Int32)), PW D A H0 [pX9 cy o0 q0 σ0] H locs → lv_has ls 4 [(0, .ref o0), (1, .int y1), (2, .int y2), (3, .int y3)] → fl_X9_liars_4 y1 σ0 n y2 y3 = some u → (∀ a, u = .inl a → ∀ (H : Heap) (locs : List Loc) (ls : Array Slot), PW D A H0 [pX9 cy o0 q0 σ0] H locs → lv_has ls 4 [(3, .int a)] → W p l e rmX9_liars s m args below meth c H locs 0 0 Q (F0 m 23 ls [])) → (∀ a, u = .inr a → ∀ (H : Heap) (locs : List Loc) (ls : Array Slot), PW D A H0 [pX9 cy o0 q0 σ0] H locs → lv_has ls 4 [(1, .int y1), (2, .int a)] → W p l e rmX9_liars s m args below meth c H locs 0 0 Q (F0 m 34 ls [])) → W p l e rmX9_liars s m args below meth c H locs 0 0 Q (F0 m 4 ls []) := by
  intro n
  induction n with
  | zero =>
    intro y2 y3 H locs ls u hw hl hf K0 K1
    rw [fl_X9_liars_4] at hf
    cases hf
  | succ n ih =>
    intro y2 y3 H locs ls u hw hl hf K0 K1
    rw [fl_X9_liars_4] at hf
    refine lv_iload_n S.1 S.2.1 dX9_liars_4 rfl (lv_at hl 3 rfl) ?_
    refine lv_bipush (v := 32) S.1 S.2.1 dX9_liars_5 (by decide) ?_
    refine lv_icmp_ge (tgt := 34) S.1 S.2.1 dX9_liars_7 (by decide) (fun c_1 => ?_) (fun c_1 => ?_)
    · replace hf := (if_pos c_1).symm.trans hf
      cases hf
      exact K1 _ rfl _ _ _ hw (lv_sub hl [1, 2] rfl)
    · replace hf := (if_neg c_1).symm.trans hf
      refine lv_aload_n S.1 S.2.1 dX9_liars_10 rfl (lv_at hl 0 rfl) ?_
      refine lv_iload_n S.1 S.2.1 dX9_liars_11 rfl (lv_at hl 3 rfl) ?_
      obtain ⟨u_2, e_u_2, hf⟩ := ob hf
      refine k_X9_isFit S (S.2.2.2.2.wd wd1084 rfl) hw e_u_2 [0] rfl (by decide) rfl ⟨rfl, rfl, Nat.le_of_ble_eq_true rfl, Nat.le_of_ble_eq_true rfl⟩ hl.1 (Nat.le_of_ble_eq_true rfl) dX9_liars_12 ⟨Nat.zero_le _, Nat.zero_le _⟩ (fun H locs hw => ?_)
      have hw : PW D A H0 [pX9 cy o0 q0 σ0] H locs := hw
      refine lv_if_eq (tgt := 28) S.1 S.2.1 dX9_liars_15 (by decide) (fun c_3 => ?_) (fun c_3 => ?_)
      · replace hf := (if_pos c_3).symm.trans hf
        refine lv_iinc (v := (y3 + 1)) (lv' := [(3, .int ((y3 + 1))), (0, .ref o0), (1, .int y1), (2, .int y2)]) S.1 S.2.1 dX9_liars_28 hl (k := 3) rfl rfl (by decide) rfl (fun ls hl => ?_)
        refine lv_goto (tgt := 4) S.1 S.2.1 dX9_liars_31 (by decide) ?_
        exact ih _ _ _ _ _ _ hw (lv_sub hl [1, 2, 3, 0] rfl) hf K0 K1
      · replace hf := (if_neg c_3).symm.trans hf
        refine lv_iload_n S.1 S.2.1 dX9_liars_18 rfl (lv_at hl 2 rfl) ?_
        refine lv_iload_n S.1 S.2.1 dX9_liars_19 rfl (lv_at hl 1 rfl) ?_
        refine lv_icmp_ne (tgt := 25) S.1 S.2.1 dX9_liars_20 (by decide) (fun c_4 => ?_) (fun c_4 => ?_)
        · replace hf := (if_neg c_4).symm.trans hf
          refine lv_iinc (v := (y2 + 1)) (lv' := [(2, .int ((y2 + 1))), (0, .ref o0), (1, .int y1), (3, .int y3)]) S.1 S.2.1 dX9_liars_25 hl (k := 2) rfl rfl (by decide) rfl (fun ls hl => ?_)
          refine lv_iinc (v := (y3 + 1)) (lv' := [(3, .int ((y3 + 1))), (2, .int ((y2 + 1))), (0, .ref o0), (1, .int y1)]) S.1 S.2.1 dX9_liars_28 hl (k := 3) rfl rfl (by decide) rfl (fun ls hl => ?_)
          refine lv_goto (tgt := 4) S.1 S.2.1 dX9_liars_31 (by decide) ?_
          exact ih _ _ _ _ _ _ hw (lv_sub hl [2, 3, 1, 0] rfl) hf K0 K1
        · replace hf := (if_pos c_4).symm.trans hf
          cases hf
          exact K0 _ rfl _ _ _ hw (lv_sub hl [3] rfl)
end
set_option maxHeartbeats 4000000 in
set_option maxRecDepth 100000 in
theorem c_X9_liars (l : Launch) (D : va_G) (cy : Nat → ClassId) (o0 : Nat) (q0 : Nat → Nat) (x1 : Int32) (σ0 : pStt) (u : Int32) (hf : f_X9_liars x1 σ0 = some u) : CT l yX9_liars cX9_liars 4 (some .int) rmX9_liars D cy [.ref o0, .int x1] [pX9 cy o0 q0 σ0] (some (.int u)) [pX9 cy o0 q0 σ0] := by
  refine CT.of (by decide) (Nat.le_of_ble_eq_true rfl) (fun p e s m args below meth c ls A Q hA hQ S hr hlk hl hw => ?_)
  have hl : lv_has ls 4 [(0, .ref o0), (1, .int x1)] := hl
  rw [f_X9_liars] at hf
  refine lv_iconst (v := 0) S.1 S.2.1 dX9_liars_0 (by decide) ?_
  refine lv_istore_n (lv' := [(2, .int 0), (0, .ref o0), (1, .int x1)]) S.1 S.2.1 dX9_liars_1 rfl hl (by decide) rfl (fun ls hl => ?_)
  refine lv_iconst (v := 0) S.1 S.2.1 dX9_liars_2 (by decide) ?_
  refine lv_istore_n (lv' := [(3, .int 0), (2, .int 0), (0, .ref o0), (1, .int x1)]) S.1 S.2.1 dX9_liars_3 rfl hl (by decide) rfl (fun ls hl => ?_)
  obtain ⟨u_5, e_u_5, hf⟩ := ob hf
  refine lp_X9_liars_4 S 2000 _ _ _ _ _ _ hw (lv_sub hl [2, 3, 1, 0] rfl) e_u_5 ?_ ?_
  · intro a_6 h_a_6 H locs ls hw hl
    subst h_a_6
    replace hf := (sm_l _ _ _).symm.trans hf
    refine lv_iload_n S.1 S.2.1 dX9_liars_23 rfl (lv_at hl 0 rfl) ?_
    cases hf
    exact w_iret S hr hlk hA hQ hw dX9_liars_24
  · intro a_7 h_a_7 H locs ls hw hl
    subst h_a_7
    replace hf := (sm_r _ _ _).symm.trans hf
    refine lv_iload_n S.1 S.2.1 dX9_liars_34 rfl (lv_at hl 0 rfl) ?_
    refine lv_iconst (v := (-1)) S.1 S.2.1 dX9_liars_35 (by decide) ?_
    obtain ⟨v_8, e_v_8, hf⟩ := ob hf
    have hJ_v_8 : ∀ (H : Heap) (locs : List Loc), PW D A s.heap [pX9 cy o0 q0 σ0] H locs → W p l e rmX9_liars s m args below meth c H locs 0 0 Q (F0 m 45 ls [.int v_8]) := by
      intro H locs hw
      cases hf
      exact w_iret S hr hlk hA hQ hw dX9_liars_45
    replace hf := e_v_8
    clear e_v_8
    refine lv_icmp_ne (tgt := 43) S.1 S.2.1 dX9_liars_36 (by decide) (fun c_9 => ?_) (fun c_9 => ?_)
    · replace hf := (if_neg c_9).symm.trans hf
      refine lv_bipush (v := (-6)) S.1 S.2.1 dX9_liars_43 (by decide) ?_
      cases hf
      exact hJ_v_8 _ _ hw
    · replace hf := (if_pos c_9).symm.trans hf
      refine lv_iload_n S.1 S.2.1 dX9_liars_39 rfl (lv_at hl 1 rfl) ?_
      refine lv_goto (tgt := 45) S.1 S.2.1 dX9_liars_40 (by decide) ?_
      cases hf
      exact hJ_v_8 _ _ hw
section
variable {p : Program} {l : Launch} {e : Env} {R : Room} {s : State} {m : MethodId} {args : Array Value} {below : List Frame} {meth : Method} {c : Code} {H : Heap} {locs : List Loc} {cells slots : Nat} {Q : State → Prop} {cc : ByteArray} {pc nL : Nat} {ls : Array Slot} {rest : List Value} {D : va_G} {cy : Nat → ClassId} {A : Nat → Prop} {H0 : Heap} {own : String} {Ps : List va_W}
set_option maxRecDepth 100000 in
theorem k_X9_liars {o0 : Nat} {q0 : Nat → Nat} {x1 : Int32} {σ0 : pStt} {u : Int32} {index : Nat} (S : CX p m c cc nL s args own D cy) (hl : (Cond.methodLink own index yX9_liars).before args s = true) (hw : PW D A H0 Ps H locs) (hf : f_X9_liars x1 σ0 = some u) (js : List Nat) (hC : js.map (fun j => Ps[j]?) = [some (pX9 cy o0 q0 σ0)]) (hnd : js.Nodup) (hlen : js.length = 1) (hR : RMok rmX9_liars R 4) (hsize : ls.size = nL) (hrest : (rest.map fun v => v.category).sum ≤ 8) (hdg : decode cc pc = .ok (.invokevirtual index, 3)) (hcs : cells ≤ R.cells ∧ slots ≤ R.slots)
    (kk : ∀ (H1 : Heap) (locs1 : List Loc), PW D A H0 (setAll Ps js [pX9 cy o0 q0 σ0]) H1 locs1 → W p l e R s m args below meth c H1 locs1 cells slots Q (F0 m (pc + 3) ls (.int u :: rest))) : W p l e R s m args below meth c H locs cells slots Q (F0 m pc ls (.int x1 :: .ref o0 :: rest)) :=
  w_callV (n := 1) (ov := (some (.int u))) (As := [.int x1]) (Cs := [pX9 cy o0 q0 σ0]) (Cs' := [pX9 cy o0 q0 σ0]) S hw (c_X9_liars l D cy o0 q0 x1 σ0 u hf) (MF.of S.2.2.2.2 wd1083 wd79 (by decide)) (S.2.2.2.2.wd wd1081 rfl) (S.2.2.2.2.wd wd1082 rfl) hl hR js hC hnd hlen rfl rfl rfl rfl hsize rfl hrest hdg hcs kk
end
abbrev rmX9_mostLeft : Room := { frames := 3, cells := 0, slots := 0, locals := 69 }
def fl_X9_mostLeft_9 (y1 : Int32) (y2 : Int32) (y3 : Int32) (σ0 : pStt) : Nat → Int32 → Int32 → Int32 → Option (Int32 × Int32)
  | 0, _, _, _ => none
  | n + 1, y4, y5, y6 => if 32 ≤ y6 then some (y4, y5) else (f_X9_isFit y6 σ0).bind (fun u_2 => (if u_2 = 0 then some 0 else some 1 : Option Int32).bind (fun v_3 => (f_X9_says y6 y1 y2 y3).bind (fun u_4 => fl_X9_mostLeft_9 y1 y2 y3 σ0 n ((y4 + (v_3 * u_4))) ((y5 + v_3)) ((y6 + 1)))))
def f_X9_mostLeft (x1 : Int32) (x2 : Int32) (x3 : Int32) (σ0 : pStt) : Option (Int32) := (fl_X9_mostLeft_9 x1 x2 x3 σ0 2000 0 0 0).bind (fun u_6 => (if u_6.1 ≤ (u_6.2 - u_6.1) then some ((u_6.2 - u_6.1)) else some u_6.1 : Option Int32).bind (fun v_7 => some v_7))
section
variable {p : Program} {l : Launch} {e : Env} {s : State} {m : MethodId} {args : Array Value} {below : List Frame} {meth : Method} {c : Code} {Q : State → Prop} {D : va_G} {cy : Nat → ClassId} {A : Nat → Prop} {H0 : Heap}
set_option maxHeartbeats 4000000 in
set_option maxRecDepth 100000 in
theorem lp_X9_mostLeft_9 (S : CX p m c cX9_mostLeft 8 s args RX9 D cy) {o0 : Nat} {q0 : Nat → Nat} {σ0 : pStt} {y1 : Int32} {y2 : Int32} {y3 : Int32} : ∀ (n : Nat) (y4 : Int32) (y5 : Int32) (y6 : Int32) (H : Heap) (locs : List Loc) (ls : Array Slot) (u : Int32 × Int32), PW D A H0 [pX9 cy o0 q0 σ0] H locs → lv_has ls 8 [(0, .ref o0), (1, .int y1), (2, .int y2), (3, .int y3), (4, .int y4), (5, .int y5), (6, .int y6)] → fl_X9_mostLeft_9 y1 y2 y3 σ0 n y4 y5 y6 = some u → (∀ (H : Heap) (locs : List Loc) (ls : Array Slot), PW D A H0 [pX9 cy o0 q0 σ0] H locs → lv_has ls 8 [(4, .int u.1), (5, .int u.2)] → W p l e rmX9_mostLeft s m args below meth c H locs 0 0 Q (F0 m 61 ls [])) → W p l e rmX9_mostLeft s m args below meth c H locs 0 0 Q (F0 m 9 ls []) := by
  intro n
  induction n with
  | zero =>
    intro y4 y5 y6 H locs ls u hw hl hf K0
    rw [fl_X9_mostLeft_9] at hf
    cases hf
  | succ n ih =>
    intro y4 y5 y6 H locs ls u hw hl hf K0
    rw [fl_X9_mostLeft_9] at hf
    refine lv_iload S.1 S.2.1 dX9_mostLeft_9 (lv_at hl 6 rfl) ?_
    refine lv_bipush (v := 32) S.1 S.2.1 dX9_mostLeft_11 (by decide) ?_
    refine lv_icmp_ge (tgt := 61) S.1 S.2.1 dX9_mostLeft_13 (by decide) (fun c_1 => ?_) (fun c_1 => ?_)
    · replace hf := (if_pos c_1).symm.trans hf
      cases hf
      exact K0 _ _ _ hw (lv_sub hl [4, 5] rfl)
    · replace hf := (if_neg c_1).symm.trans hf
      refine lv_aload_n S.1 S.2.1 dX9_mostLeft_16 rfl (lv_at hl 0 rfl) ?_
      refine lv_iload S.1 S.2.1 dX9_mostLeft_17 (lv_at hl 6 rfl) ?_
      obtain ⟨u_2, e_u_2, hf⟩ := ob hf
      refine k_X9_isFit S (S.2.2.2.2.wd wd1084 rfl) hw e_u_2 [0] rfl (by decide) rfl ⟨rfl, rfl, Nat.le_of_ble_eq_true rfl, Nat.le_of_ble_eq_true rfl⟩ hl.1 (Nat.le_of_ble_eq_true rfl) dX9_mostLeft_19 ⟨Nat.zero_le _, Nat.zero_le _⟩ (fun H locs hw => ?_)
      have hw : PW D A H0 [pX9 cy o0 q0 σ0] H locs := hw
      obtain ⟨v_3, e_v_3, hf⟩ := ob hf
      have hJ_v_3 : ∀ (H : Heap) (locs : List Loc), PW D A H0 [pX9 cy o0 q0 σ0] H locs → W p l e rmX9_mostLeft s m args below meth c H locs 0 0 Q (F0 m 30 ls [.int v_3]) := by
        intro H locs hw
        refine lv_istore (lv' := [(7, .int v_3), (0, .ref o0), (1, .int y1), (2, .int y2), (3, .int y3), (4, .int y4), (5, .int y5), (6, .int y6)]) S.1 S.2.1 dX9_mostLeft_30 hl (by decide) rfl (fun ls hl => ?_)
        refine lv_iload S.1 S.2.1 dX9_mostLeft_32 (lv_at hl 6 rfl) ?_
        refine lv_iload S.1 S.2.1 dX9_mostLeft_34 (lv_at hl 0 rfl) ?_
        refine lv_iadd S.1 S.2.1 dX9_mostLeft_36 ?_
        refine lv_istore (lv' := [(5, .int ((y5 + v_3))), (7, .int v_3), (0, .ref o0), (1, .int y1), (2, .int y2), (3, .int y3), (4, .int y4), (6, .int y6)]) S.1 S.2.1 dX9_mostLeft_37 hl (by decide) rfl (fun ls hl => ?_)
        refine lv_iload S.1 S.2.1 dX9_mostLeft_39 (lv_at hl 6 rfl) ?_
        refine lv_iload S.1 S.2.1 dX9_mostLeft_41 (lv_at hl 1 rfl) ?_
        refine lv_iload S.1 S.2.1 dX9_mostLeft_43 (lv_at hl 7 rfl) ?_
        refine lv_iload_n S.1 S.2.1 dX9_mostLeft_45 rfl (lv_at hl 3 rfl) ?_
        refine lv_iload_n S.1 S.2.1 dX9_mostLeft_46 rfl (lv_at hl 4 rfl) ?_
        refine lv_iload_n S.1 S.2.1 dX9_mostLeft_47 rfl (lv_at hl 5 rfl) ?_
        obtain ⟨u_4, e_u_4, hf⟩ := ob hf
        refine k_X9_says S (S.2.2.2.2.wd wd1088 rfl) hw e_u_4 [] rfl (by decide) rfl ⟨rfl, rfl, Nat.le_of_ble_eq_true rfl, Nat.le_of_ble_eq_true rfl⟩ hl.1 (Nat.le_of_ble_eq_true rfl) dX9_mostLeft_48 ⟨Nat.zero_le _, Nat.zero_le _⟩ (fun H locs hw => ?_)
        have hw : PW D A H0 [pX9 cy o0 q0 σ0] H locs := hw
        refine lv_imul S.1 S.2.1 dX9_mostLeft_51 ?_
        refine lv_iadd S.1 S.2.1 dX9_mostLeft_52 ?_
        refine lv_istore (lv' := [(4, .int ((y4 + (v_3 * u_4)))), (5, .int ((y5 + v_3))), (7, .int v_3), (0, .ref o0), (1, .int y1), (2, .int y2), (3, .int y3), (6, .int y6)]) S.1 S.2.1 dX9_mostLeft_53 hl (by decide) rfl (fun ls hl => ?_)
        refine lv_iinc (v := (y6 + 1)) (lv' := [(6, .int ((y6 + 1))), (4, .int ((y4 + (v_3 * u_4)))), (5, .int ((y5 + v_3))), (7, .int v_3), (0, .ref o0), (1, .int y1), (2, .int y2), (3, .int y3)]) S.1 S.2.1 dX9_mostLeft_55 hl (k := 7) rfl rfl (by decide) rfl (fun ls hl => ?_)
        refine lv_goto (tgt := 9) S.1 S.2.1 dX9_mostLeft_58 (by decide) ?_
        exact ih _ _ _ _ _ _ _ hw (lv_sub hl [4, 5, 6, 7, 1, 2, 0] rfl) hf K0
      replace hf := e_v_3
      clear e_v_3
      refine lv_if_eq (tgt := 29) S.1 S.2.1 dX9_mostLeft_22 (by decide) (fun c_5 => ?_) (fun c_5 => ?_)
      · replace hf := (if_pos c_5).symm.trans hf
        refine lv_iconst (v := 0) S.1 S.2.1 dX9_mostLeft_29 (by decide) ?_
        cases hf
        exact hJ_v_3 _ _ hw
      · replace hf := (if_neg c_5).symm.trans hf
        refine lv_iconst (v := 1) S.1 S.2.1 dX9_mostLeft_25 (by decide) ?_
        refine lv_goto (tgt := 30) S.1 S.2.1 dX9_mostLeft_26 (by decide) ?_
        cases hf
        exact hJ_v_3 _ _ hw
end
set_option maxHeartbeats 4000000 in
set_option maxRecDepth 100000 in
theorem c_X9_mostLeft (l : Launch) (D : va_G) (cy : Nat → ClassId) (o0 : Nat) (q0 : Nat → Nat) (x1 : Int32) (x2 : Int32) (x3 : Int32) (σ0 : pStt) (u : Int32) (hf : f_X9_mostLeft x1 x2 x3 σ0 = some u) : CT l yX9_mostLeft cX9_mostLeft 8 (some .int) rmX9_mostLeft D cy [.ref o0, .int x1, .int x2, .int x3] [pX9 cy o0 q0 σ0] (some (.int u)) [pX9 cy o0 q0 σ0] := by
  refine CT.of (by decide) (Nat.le_of_ble_eq_true rfl) (fun p e s m args below meth c ls A Q hA hQ S hr hlk hl hw => ?_)
  have hl : lv_has ls 8 [(0, .ref o0), (1, .int x1), (2, .int x2), (3, .int x3)] := hl
  rw [f_X9_mostLeft] at hf
  refine lv_iconst (v := 0) S.1 S.2.1 dX9_mostLeft_0 (by decide) ?_
  refine lv_istore (lv' := [(4, .int 0), (0, .ref o0), (1, .int x1), (2, .int x2), (3, .int x3)]) S.1 S.2.1 dX9_mostLeft_1 hl (by decide) rfl (fun ls hl => ?_)
  refine lv_iconst (v := 0) S.1 S.2.1 dX9_mostLeft_3 (by decide) ?_
  refine lv_istore (lv' := [(5, .int 0), (4, .int 0), (0, .ref o0), (1, .int x1), (2, .int x2), (3, .int x3)]) S.1 S.2.1 dX9_mostLeft_4 hl (by decide) rfl (fun ls hl => ?_)
  refine lv_iconst (v := 0) S.1 S.2.1 dX9_mostLeft_6 (by decide) ?_
  refine lv_istore (lv' := [(6, .int 0), (5, .int 0), (4, .int 0), (0, .ref o0), (1, .int x1), (2, .int x2), (3, .int x3)]) S.1 S.2.1 dX9_mostLeft_7 hl (by decide) rfl (fun ls hl => ?_)
  obtain ⟨u_6, e_u_6, hf⟩ := ob hf
  refine lp_X9_mostLeft_9 S 2000 _ _ _ _ _ _ _ hw (lv_sub hl [3, 4, 5, 6, 2, 1, 0] rfl) e_u_6 ?_
  · intro H locs ls hw hl
    refine lv_iload S.1 S.2.1 dX9_mostLeft_61 (lv_at hl 0 rfl) ?_
    refine lv_iload S.1 S.2.1 dX9_mostLeft_63 (lv_at hl 1 rfl) ?_
    refine lv_iload S.1 S.2.1 dX9_mostLeft_65 (lv_at hl 0 rfl) ?_
    refine lv_isub S.1 S.2.1 dX9_mostLeft_67 ?_
    obtain ⟨v_7, e_v_7, hf⟩ := ob hf
    have hJ_v_7 : ∀ (H : Heap) (locs : List Loc), PW D A s.heap [pX9 cy o0 q0 σ0] H locs → W p l e rmX9_mostLeft s m args below meth c H locs 0 0 Q (F0 m 81 ls [.int v_7]) := by
      intro H locs hw
      cases hf
      exact w_iret S hr hlk hA hQ hw dX9_mostLeft_81
    replace hf := e_v_7
    clear e_v_7
    refine lv_icmp_le (tgt := 76) S.1 S.2.1 dX9_mostLeft_68 (by decide) (fun c_8 => ?_) (fun c_8 => ?_)
    · replace hf := (if_pos c_8).symm.trans hf
      refine lv_iload S.1 S.2.1 dX9_mostLeft_76 (lv_at hl 1 rfl) ?_
      refine lv_iload S.1 S.2.1 dX9_mostLeft_78 (lv_at hl 0 rfl) ?_
      refine lv_isub S.1 S.2.1 dX9_mostLeft_80 ?_
      cases hf
      exact hJ_v_7 _ _ hw
    · replace hf := (if_neg c_8).symm.trans hf
      refine lv_iload S.1 S.2.1 dX9_mostLeft_71 (lv_at hl 0 rfl) ?_
      refine lv_goto (tgt := 81) S.1 S.2.1 dX9_mostLeft_73 (by decide) ?_
      cases hf
      exact hJ_v_7 _ _ hw
section
variable {p : Program} {l : Launch} {e : Env} {R : Room} {s : State} {m : MethodId} {args : Array Value} {below : List Frame} {meth : Method} {c : Code} {H : Heap} {locs : List Loc} {cells slots : Nat} {Q : State → Prop} {cc : ByteArray} {pc nL : Nat} {ls : Array Slot} {rest : List Value} {D : va_G} {cy : Nat → ClassId} {A : Nat → Prop} {H0 : Heap} {own : String} {Ps : List va_W}
set_option maxRecDepth 100000 in
theorem k_X9_mostLeft {o0 : Nat} {q0 : Nat → Nat} {x1 : Int32} {x2 : Int32} {x3 : Int32} {σ0 : pStt} {u : Int32} {index : Nat} (S : CX p m c cc nL s args own D cy) (hl : (Cond.methodLink own index yX9_mostLeft).before args s = true) (hw : PW D A H0 Ps H locs) (hf : f_X9_mostLeft x1 x2 x3 σ0 = some u) (js : List Nat) (hC : js.map (fun j => Ps[j]?) = [some (pX9 cy o0 q0 σ0)]) (hnd : js.Nodup) (hlen : js.length = 1) (hR : RMok rmX9_mostLeft R 8) (hsize : ls.size = nL) (hrest : (rest.map fun v => v.category).sum ≤ 8) (hdg : decode cc pc = .ok (.invokevirtual index, 3)) (hcs : cells ≤ R.cells ∧ slots ≤ R.slots)
    (kk : ∀ (H1 : Heap) (locs1 : List Loc), PW D A H0 (setAll Ps js [pX9 cy o0 q0 σ0]) H1 locs1 → W p l e R s m args below meth c H1 locs1 cells slots Q (F0 m (pc + 3) ls (.int u :: rest))) : W p l e R s m args below meth c H locs cells slots Q (F0 m pc ls (.int x3 :: .int x2 :: .int x1 :: .ref o0 :: rest)) :=
  w_callV (n := 3) (ov := (some (.int u))) (As := [.int x1, .int x2, .int x3]) (Cs := [pX9 cy o0 q0 σ0]) (Cs' := [pX9 cy o0 q0 σ0]) S hw (c_X9_mostLeft l D cy o0 q0 x1 x2 x3 σ0 u hf) (MF.of S.2.2.2.2 wd1098 wd79 (by decide)) (S.2.2.2.2.wd wd1097 rfl) (S.2.2.2.2.wd wd58 rfl) hl hR js hC hnd hlen rfl rfl rfl rfl hsize rfl hrest hdg hcs kk
end
abbrev rmX9_ask : Room := { frames := 4, cells := 0, slots := 0, locals := 96 }
def fl_X9_ask_26 (y1 : Int32) (σ0 : pStt) : Nat → Int32 → Int32 → Int32 → Option (Int32 × Int32)
  | 0, _, _, _ => none
  | n + 1, y2, y3, y4 => if 430 ≤ y4 then some (y2, y3) else (f_X9_isQuestion ((y4 / 100)) (((y4 / 10) - (y4 / 10) / 10 * 10)) ((y4 - y4 / 10 * 10))).bind (fun u_5 => (if u_5 = 0 then some y3 else (f_X9_mostLeft ((y4 / 100)) (((y4 / 10) - (y4 / 10) / 10 * 10)) ((y4 - y4 / 10 * 10)) σ0).bind (fun u_12 => some u_12) : Option Int32).bind (fun v_6 => (if y3 ≤ v_6 then some y2 else some y4 : Option Int32).bind (fun v_7 => (if y3 ≤ v_6 then some y3 else some v_6 : Option Int32).bind (fun v_8 => fl_X9_ask_26 y1 σ0 n v_7 v_8 ((y4 + 1))))))
def f_X9_ask (x1 : Int32) (σ0 : pStt) : Option (Int32) := (f_X9_in ((x1 : Int32).toInt64) 0 1).bind (fun u_1 => if u_1 = 0 then some ((-2)) else (f_X9_mostLeft 0 0 0 σ0).bind (fun u_3 => (fl_X9_ask_26 x1 σ0 2000 0 u_3 1).bind (fun u_13 => (if u_13.2 = 0 then some ((-6)) else if x1 = 0 then some u_13.1 else some u_13.2 : Option Int32).bind (fun v_14 => some v_14))))
section
variable {p : Program} {l : Launch} {e : Env} {s : State} {m : MethodId} {args : Array Value} {below : List Frame} {meth : Method} {c : Code} {Q : State → Prop} {D : va_G} {cy : Nat → ClassId} {A : Nat → Prop} {H0 : Heap}
set_option maxHeartbeats 4000000 in
set_option maxRecDepth 100000 in
theorem lp_X9_ask_26 (S : CX p m c cX9_ask 7 s args RX9 D cy) {o0 : Nat} {q0 : Nat → Nat} {σ0 : pStt} {y1 : Int32} : ∀ (n : Nat) (y2 : Int32) (y3 : Int32) (y4 : Int32) (H : Heap) (locs : List Loc) (ls : Array Slot) (u : Int32 × Int32), PW D A H0 [pX9 cy o0 q0 σ0] H locs → lv_has ls 7 [(0, .ref o0), (1, .int y1), (2, .int y2), (3, .int y3), (4, .int y4)] → fl_X9_ask_26 y1 σ0 n y2 y3 y4 = some u → (∀ (H : Heap) (locs : List Loc) (ls : Array Slot), PW D A H0 [pX9 cy o0 q0 σ0] H locs → lv_has ls 7 [(1, .int y1), (2, .int u.1), (3, .int u.2)] → W p l e rmX9_ask s m args below meth c H locs 0 0 Q (F0 m 122 ls [])) → W p l e rmX9_ask s m args below meth c H locs 0 0 Q (F0 m 26 ls []) := by
  intro n
  induction n with
  | zero =>
    intro y2 y3 y4 H locs ls u hw hl hf K0
    rw [fl_X9_ask_26] at hf
    cases hf
  | succ n ih =>
    intro y2 y3 y4 H locs ls u hw hl hf K0
    rw [fl_X9_ask_26] at hf
    refine lv_iload S.1 S.2.1 dX9_ask_26 (lv_at hl 4 rfl) ?_
    refine lv_sipush (v := 430) S.1 S.2.1 dX9_ask_28 (by decide) ?_
    refine lv_icmp_ge (tgt := 122) S.1 S.2.1 dX9_ask_31 (by decide) (fun c_4 => ?_) (fun c_4 => ?_)
    · replace hf := (if_pos c_4).symm.trans hf
      cases hf
      exact K0 _ _ _ hw (lv_sub hl [1, 2, 3] rfl)
    · replace hf := (if_neg c_4).symm.trans hf
      refine lv_iload S.1 S.2.1 dX9_ask_34 (lv_at hl 4 rfl) ?_
      refine lv_bipush (v := 100) S.1 S.2.1 dX9_ask_36 (by decide) ?_
      refine lv_idiv S.1 S.2.1 dX9_ask_38 (by decide) ?_
      refine lv_iload S.1 S.2.1 dX9_ask_39 (lv_at hl 4 rfl) ?_
      refine lv_bipush (v := 10) S.1 S.2.1 dX9_ask_41 (by decide) ?_
      refine lv_idiv S.1 S.2.1 dX9_ask_43 (by decide) ?_
      refine lv_bipush (v := 10) S.1 S.2.1 dX9_ask_44 (by decide) ?_
      refine lv_irem S.1 S.2.1 dX9_ask_46 (by decide) ?_
      refine lv_iload S.1 S.2.1 dX9_ask_47 (lv_at hl 4 rfl) ?_
      refine lv_bipush (v := 10) S.1 S.2.1 dX9_ask_49 (by decide) ?_
      refine lv_irem S.1 S.2.1 dX9_ask_51 (by decide) ?_
      obtain ⟨u_5, e_u_5, hf⟩ := ob hf
      refine k_X9_isQuestion S (S.2.2.2.2.wd wd1073 rfl) hw e_u_5 [] rfl (by decide) rfl ⟨rfl, rfl, Nat.le_of_ble_eq_true rfl, Nat.le_of_ble_eq_true rfl⟩ hl.1 (Nat.le_of_ble_eq_true rfl) dX9_ask_52 ⟨Nat.zero_le _, Nat.zero_le _⟩ (fun H locs hw => ?_)
      have hw : PW D A H0 [pX9 cy o0 q0 σ0] H locs := hw
      refine lv_istore (lv' := [(5, .int u_5), (0, .ref o0), (1, .int y1), (2, .int y2), (3, .int y3), (4, .int y4)]) S.1 S.2.1 dX9_ask_55 hl (by decide) rfl (fun ls hl => ?_)
      refine lv_iload S.1 S.2.1 dX9_ask_57 (lv_at hl 0 rfl) ?_
      obtain ⟨v_6, e_v_6, hf⟩ := ob hf
      have hJ_v_6 : ∀ (H : Heap) (locs : List Loc), PW D A H0 [pX9 cy o0 q0 σ0] H locs → W p l e rmX9_ask s m args below meth c H locs 0 0 Q (F0 m 88 ls [.int v_6]) := by
        intro H locs hw
        refine lv_istore (lv' := [(6, .int v_6), (5, .int u_5), (0, .ref o0), (1, .int y1), (2, .int y2), (3, .int y3), (4, .int y4)]) S.1 S.2.1 dX9_ask_88 hl (by decide) rfl (fun ls hl => ?_)
        refine lv_iload S.1 S.2.1 dX9_ask_90 (lv_at hl 0 rfl) ?_
        refine lv_iload_n S.1 S.2.1 dX9_ask_92 rfl (lv_at hl 5 rfl) ?_
        obtain ⟨v_7, e_v_7, hf⟩ := ob hf
        have hJ_v_7 : ∀ (H : Heap) (locs : List Loc), PW D A H0 [pX9 cy o0 q0 σ0] H locs → W p l e rmX9_ask s m args below meth c H locs 0 0 Q (F0 m 102 ls [.int v_7]) := by
          intro H locs hw
          refine lv_istore_n (lv' := [(2, .int v_7), (6, .int v_6), (5, .int u_5), (0, .ref o0), (1, .int y1), (3, .int y3), (4, .int y4)]) S.1 S.2.1 dX9_ask_102 rfl hl (by decide) rfl (fun ls hl => ?_)
          refine lv_iload S.1 S.2.1 dX9_ask_103 (lv_at hl 1 rfl) ?_
          refine lv_iload_n S.1 S.2.1 dX9_ask_105 rfl (lv_at hl 5 rfl) ?_
          obtain ⟨v_8, e_v_8, hf⟩ := ob hf
          have hJ_v_8 : ∀ (H : Heap) (locs : List Loc), PW D A H0 [pX9 cy o0 q0 σ0] H locs → W p l e rmX9_ask s m args below meth c H locs 0 0 Q (F0 m 115 ls [.int v_8]) := by
            intro H locs hw
            refine lv_istore_n (lv' := [(3, .int v_8), (2, .int v_7), (6, .int v_6), (5, .int u_5), (0, .ref o0), (1, .int y1), (4, .int y4)]) S.1 S.2.1 dX9_ask_115 rfl hl (by decide) rfl (fun ls hl => ?_)
            refine lv_iinc (v := (y4 + 1)) (lv' := [(4, .int ((y4 + 1))), (3, .int v_8), (2, .int v_7), (6, .int v_6), (5, .int u_5), (0, .ref o0), (1, .int y1)]) S.1 S.2.1 dX9_ask_116 hl (k := 6) rfl rfl (by decide) rfl (fun ls hl => ?_)
            refine lv_goto (tgt := 26) S.1 S.2.1 dX9_ask_119 (by decide) ?_
            exact ih _ _ _ _ _ _ _ hw (lv_sub hl [5, 6, 2, 1, 0] rfl) hf K0
          replace hf := e_v_8
          clear e_v_8
          refine lv_icmp_ge (tgt := 114) S.1 S.2.1 dX9_ask_106 (by decide) (fun c_9 => ?_) (fun c_9 => ?_)
          · replace hf := (if_pos c_9).symm.trans hf
            refine lv_iload_n S.1 S.2.1 dX9_ask_114 rfl (lv_at hl 5 rfl) ?_
            cases hf
            exact hJ_v_8 _ _ hw
          · replace hf := (if_neg c_9).symm.trans hf
            refine lv_iload S.1 S.2.1 dX9_ask_109 (lv_at hl 1 rfl) ?_
            refine lv_goto (tgt := 115) S.1 S.2.1 dX9_ask_111 (by decide) ?_
            cases hf
            exact hJ_v_8 _ _ hw
        replace hf := e_v_7
        clear e_v_7
        refine lv_icmp_ge (tgt := 101) S.1 S.2.1 dX9_ask_93 (by decide) (fun c_10 => ?_) (fun c_10 => ?_)
        · replace hf := (if_pos c_10).symm.trans hf
          refine lv_iload_n S.1 S.2.1 dX9_ask_101 rfl (lv_at hl 4 rfl) ?_
          cases hf
          exact hJ_v_7 _ _ hw
        · replace hf := (if_neg c_10).symm.trans hf
          refine lv_iload S.1 S.2.1 dX9_ask_96 (lv_at hl 6 rfl) ?_
          refine lv_goto (tgt := 102) S.1 S.2.1 dX9_ask_98 (by decide) ?_
          cases hf
          exact hJ_v_7 _ _ hw
      replace hf := e_v_6
      clear e_v_6
      refine lv_if_eq (tgt := 87) S.1 S.2.1 dX9_ask_59 (by decide) (fun c_11 => ?_) (fun c_11 => ?_)
      · replace hf := (if_pos c_11).symm.trans hf
        refine lv_iload_n S.1 S.2.1 dX9_ask_87 rfl (lv_at hl 4 rfl) ?_
        cases hf
        exact hJ_v_6 _ _ hw
      · replace hf := (if_neg c_11).symm.trans hf
        refine lv_aload_n S.1 S.2.1 dX9_ask_62 rfl (lv_at hl 1 rfl) ?_
        refine lv_iload S.1 S.2.1 dX9_ask_63 (lv_at hl 5 rfl) ?_
        refine lv_bipush (v := 100) S.1 S.2.1 dX9_ask_65 (by decide) ?_
        refine lv_idiv S.1 S.2.1 dX9_ask_67 (by decide) ?_
        refine lv_iload S.1 S.2.1 dX9_ask_68 (lv_at hl 5 rfl) ?_
        refine lv_bipush (v := 10) S.1 S.2.1 dX9_ask_70 (by decide) ?_
        refine lv_idiv S.1 S.2.1 dX9_ask_72 (by decide) ?_
        refine lv_bipush (v := 10) S.1 S.2.1 dX9_ask_73 (by decide) ?_
        refine lv_irem S.1 S.2.1 dX9_ask_75 (by decide) ?_
        refine lv_iload S.1 S.2.1 dX9_ask_76 (lv_at hl 5 rfl) ?_
        refine lv_bipush (v := 10) S.1 S.2.1 dX9_ask_78 (by decide) ?_
        refine lv_irem S.1 S.2.1 dX9_ask_80 (by decide) ?_
        obtain ⟨u_12, e_u_12, hf⟩ := ob hf
        refine k_X9_mostLeft S (S.2.2.2.2.wd wd1095 rfl) hw e_u_12 [0] rfl (by decide) rfl ⟨rfl, rfl, Nat.le_of_ble_eq_true rfl, Nat.le_of_ble_eq_true rfl⟩ hl.1 (Nat.le_of_ble_eq_true rfl) dX9_ask_81 ⟨Nat.zero_le _, Nat.zero_le _⟩ (fun H locs hw => ?_)
        have hw : PW D A H0 [pX9 cy o0 q0 σ0] H locs := hw
        refine lv_goto (tgt := 88) S.1 S.2.1 dX9_ask_84 (by decide) ?_
        cases hf
        exact hJ_v_6 _ _ hw
end
set_option maxHeartbeats 4000000 in
set_option maxRecDepth 100000 in
theorem c_X9_ask (l : Launch) (D : va_G) (cy : Nat → ClassId) (o0 : Nat) (q0 : Nat → Nat) (x1 : Int32) (σ0 : pStt) (u : Int32) (hf : f_X9_ask x1 σ0 = some u) : CT l yX9_ask cX9_ask 7 (some .int) rmX9_ask D cy [.ref o0, .int x1] [pX9 cy o0 q0 σ0] (some (.int u)) [pX9 cy o0 q0 σ0] := by
  refine CT.of (by decide) (Nat.le_of_ble_eq_true rfl) (fun p e s m args below meth c ls A Q hA hQ S hr hlk hl hw => ?_)
  have hl : lv_has ls 7 [(0, .ref o0), (1, .int x1)] := hl
  rw [f_X9_ask] at hf
  refine lv_iload_n S.1 S.2.1 dX9_ask_0 rfl (lv_at hl 1 rfl) ?_
  refine lv_i2l (v := (x1 : Int32).toInt64) S.1 S.2.1 dX9_ask_1 rfl ?_
  refine lv_lconst (v := 0) S.1 S.2.1 dX9_ask_2 (by decide) ?_
  refine lv_lconst (v := 1) S.1 S.2.1 dX9_ask_3 (by decide) ?_
  obtain ⟨u_1, e_u_1, hf⟩ := ob hf
  refine k_X9_in S (S.2.2.2.2.wd wd818 rfl) hw e_u_1 [] rfl (by decide) rfl ⟨rfl, rfl, Nat.le_of_ble_eq_true rfl, Nat.le_of_ble_eq_true rfl⟩ hl.1 (Nat.le_of_ble_eq_true rfl) dX9_ask_4 ⟨Nat.zero_le _, Nat.zero_le _⟩ (fun H locs hw => ?_)
  have hw : PW D A s.heap [pX9 cy o0 q0 σ0] H locs := hw
  refine lv_if_ne (tgt := 13) S.1 S.2.1 dX9_ask_7 (by decide) (fun c_2 => ?_) (fun c_2 => ?_)
  · replace hf := (if_neg c_2).symm.trans hf
    refine lv_iconst (v := 0) S.1 S.2.1 dX9_ask_13 (by decide) ?_
    refine lv_istore_n (lv' := [(2, .int 0), (0, .ref o0), (1, .int x1)]) S.1 S.2.1 dX9_ask_14 rfl hl (by decide) rfl (fun ls hl => ?_)
    refine lv_aload_n S.1 S.2.1 dX9_ask_15 rfl (lv_at hl 1 rfl) ?_
    refine lv_iconst (v := 0) S.1 S.2.1 dX9_ask_16 (by decide) ?_
    refine lv_iconst (v := 0) S.1 S.2.1 dX9_ask_17 (by decide) ?_
    refine lv_iconst (v := 0) S.1 S.2.1 dX9_ask_18 (by decide) ?_
    obtain ⟨u_3, e_u_3, hf⟩ := ob hf
    refine k_X9_mostLeft S (S.2.2.2.2.wd wd1095 rfl) hw e_u_3 [0] rfl (by decide) rfl ⟨rfl, rfl, Nat.le_of_ble_eq_true rfl, Nat.le_of_ble_eq_true rfl⟩ hl.1 (Nat.le_of_ble_eq_true rfl) dX9_ask_19 ⟨Nat.zero_le _, Nat.zero_le _⟩ (fun H locs hw => ?_)
    have hw : PW D A s.heap [pX9 cy o0 q0 σ0] H locs := hw
    refine lv_istore_n (lv' := [(3, .int u_3), (2, .int 0), (0, .ref o0), (1, .int x1)]) S.1 S.2.1 dX9_ask_22 rfl hl (by decide) rfl (fun ls hl => ?_)
    refine lv_iconst (v := 1) S.1 S.2.1 dX9_ask_23 (by decide) ?_
    refine lv_istore (lv' := [(4, .int 1), (3, .int u_3), (2, .int 0), (0, .ref o0), (1, .int x1)]) S.1 S.2.1 dX9_ask_24 hl (by decide) rfl (fun ls hl => ?_)
    obtain ⟨u_13, e_u_13, hf⟩ := ob hf
    refine lp_X9_ask_26 S 2000 _ _ _ _ _ _ _ hw (lv_sub hl [3, 4, 2, 1, 0] rfl) e_u_13 ?_
    · intro H locs ls hw hl
      refine lv_iload_n S.1 S.2.1 dX9_ask_122 rfl (lv_at hl 2 rfl) ?_
      obtain ⟨v_14, e_v_14, hf⟩ := ob hf
      have hJ_v_14 : ∀ (H : Heap) (locs : List Loc), PW D A s.heap [pX9 cy o0 q0 σ0] H locs → W p l e rmX9_ask s m args below meth c H locs 0 0 Q (F0 m 140 ls [.int v_14]) := by
        intro H locs hw
        cases hf
        exact w_iret S hr hlk hA hQ hw dX9_ask_140
      replace hf := e_v_14
      clear e_v_14
      refine lv_if_ne (tgt := 131) S.1 S.2.1 dX9_ask_123 (by decide) (fun c_15 => ?_) (fun c_15 => ?_)
      · replace hf := (if_neg c_15).symm.trans hf
        refine lv_iload_n S.1 S.2.1 dX9_ask_131 rfl (lv_at hl 0 rfl) ?_
        refine lv_if_ne (tgt := 139) S.1 S.2.1 dX9_ask_132 (by decide) (fun c_16 => ?_) (fun c_16 => ?_)
        · replace hf := (if_neg c_16).symm.trans hf
          refine lv_iload_n S.1 S.2.1 dX9_ask_139 rfl (lv_at hl 2 rfl) ?_
          cases hf
          exact hJ_v_14 _ _ hw
        · replace hf := (if_pos c_16).symm.trans hf
          refine lv_iload_n S.1 S.2.1 dX9_ask_135 rfl (lv_at hl 1 rfl) ?_
          refine lv_goto (tgt := 140) S.1 S.2.1 dX9_ask_136 (by decide) ?_
          cases hf
          exact hJ_v_14 _ _ hw
      · replace hf := (if_pos c_15).symm.trans hf
        refine lv_bipush (v := (-6)) S.1 S.2.1 dX9_ask_126 (by decide) ?_
        refine lv_goto (tgt := 140) S.1 S.2.1 dX9_ask_128 (by decide) ?_
        cases hf
        exact hJ_v_14 _ _ hw
  · replace hf := (if_pos c_2).symm.trans hf
    refine lv_bipush (v := (-2)) S.1 S.2.1 dX9_ask_10 (by decide) ?_
    cases hf
    exact w_iret S hr hlk hA hQ hw dX9_ask_12
section
variable {p : Program} {l : Launch} {e : Env} {R : Room} {s : State} {m : MethodId} {args : Array Value} {below : List Frame} {meth : Method} {c : Code} {H : Heap} {locs : List Loc} {cells slots : Nat} {Q : State → Prop} {cc : ByteArray} {pc nL : Nat} {ls : Array Slot} {rest : List Value} {D : va_G} {cy : Nat → ClassId} {A : Nat → Prop} {H0 : Heap} {own : String} {Ps : List va_W}
set_option maxRecDepth 100000 in
theorem k_X9_ask {o0 : Nat} {q0 : Nat → Nat} {x1 : Int32} {σ0 : pStt} {u : Int32} {index : Nat} (S : CX p m c cc nL s args own D cy) (hl : (Cond.methodLink own index yX9_ask).before args s = true) (hw : PW D A H0 Ps H locs) (hf : f_X9_ask x1 σ0 = some u) (js : List Nat) (hC : js.map (fun j => Ps[j]?) = [some (pX9 cy o0 q0 σ0)]) (hnd : js.Nodup) (hlen : js.length = 1) (hR : RMok rmX9_ask R 7) (hsize : ls.size = nL) (hrest : (rest.map fun v => v.category).sum ≤ 8) (hdg : decode cc pc = .ok (.invokevirtual index, 3)) (hcs : cells ≤ R.cells ∧ slots ≤ R.slots)
    (kk : ∀ (H1 : Heap) (locs1 : List Loc), PW D A H0 (setAll Ps js [pX9 cy o0 q0 σ0]) H1 locs1 → W p l e R s m args below meth c H1 locs1 cells slots Q (F0 m (pc + 3) ls (.int u :: rest))) : W p l e R s m args below meth c H locs cells slots Q (F0 m pc ls (.int x1 :: .ref o0 :: rest)) :=
  w_callV (n := 1) (ov := (some (.int u))) (As := [.int x1]) (Cs := [pX9 cy o0 q0 σ0]) (Cs' := [pX9 cy o0 q0 σ0]) S hw (c_X9_ask l D cy o0 q0 x1 σ0 u hf) (MF.of S.2.2.2.2 wd1094 wd79 (by decide)) (S.2.2.2.2.wd wd1092 rfl) (S.2.2.2.2.wd wd1093 rfl) hl hR js hC hnd hlen rfl rfl rfl rfl hsize rfl hrest hdg hcs kk
end
abbrev rmX9_leastGo : Room := { frames := 1, cells := 0, slots := 0, locals := 21 }
def fl_X9_leastGo_7 (y1 : Int32) (y2 : Int32) (σ0 : pStt) : Nat → Int32 → Int32 → Option (Int32)
  | 0, _, _ => none
  | n + 1, y3, y4 => if y4 < 0 then some y3 else (ld (σ0.2 0) 8 y2).bind (fun x_2 => (f_X9_has x_2 y4).bind (fun u_3 => (if u_3 = 0 then some 0 else (f_X9_has y1 y4).bind (fun u_10 => if u_10 = 0 then some 1 else some 0) : Option Int32).bind (fun v_4 => (if v_4 = 0 then some y3 else (ld (σ0.2 17) 2048 ((((8 : Int32) * (y1 ||| ((1 : Int32) <<< (y4 &&& 31)))) + y4))).bind (fun x_7 => if x_7 = 0 then some y4 else some y3) : Option Int32).bind (fun v_5 => fl_X9_leastGo_7 y1 y2 σ0 n v_5 ((y4 + (-1)))))))
def f_X9_leastGo (x1 : Int32) (x2 : Int32) (σ0 : pStt) : Option (Int32) := (fl_X9_leastGo_7 x1 x2 σ0 2000 ((-6)) 7).bind (fun u_12 => some u_12)
section
variable {p : Program} {l : Launch} {e : Env} {s : State} {m : MethodId} {args : Array Value} {below : List Frame} {meth : Method} {c : Code} {Q : State → Prop} {D : va_G} {cy : Nat → ClassId} {A : Nat → Prop} {H0 : Heap}
set_option maxHeartbeats 4000000 in
set_option maxRecDepth 100000 in
theorem lp_X9_leastGo_7 (S : CX p m c cX9_leastGo 6 s args RX9 D cy) {o0 : Nat} {q0 : Nat → Nat} {σ0 : pStt} {y1 : Int32} {y2 : Int32} : ∀ (n : Nat) (y3 : Int32) (y4 : Int32) (H : Heap) (locs : List Loc) (ls : Array Slot) (u : Int32), PW D A H0 [pX9 cy o0 q0 σ0] H locs → lv_has ls 6 [(0, .ref o0), (1, .int y1), (2, .int y2), (3, .int y3), (4, .int y4)] → fl_X9_leastGo_7 y1 y2 σ0 n y3 y4 = some u → (∀ (H : Heap) (locs : List Loc) (ls : Array Slot), PW D A H0 [pX9 cy o0 q0 σ0] H locs → lv_has ls 6 [(3, .int u)] → W p l e rmX9_leastGo s m args below meth c H locs 0 0 Q (F0 m 80 ls [])) → W p l e rmX9_leastGo s m args below meth c H locs 0 0 Q (F0 m 7 ls []) := by
  intro n
  induction n with
  | zero =>
    intro y3 y4 H locs ls u hw hl hf K0
    rw [fl_X9_leastGo_7] at hf
    cases hf
  | succ n ih =>
    intro y3 y4 H locs ls u hw hl hf K0
    rw [fl_X9_leastGo_7] at hf
    refine lv_iload S.1 S.2.1 dX9_leastGo_7 (lv_at hl 4 rfl) ?_
    refine lv_if_lt (tgt := 80) S.1 S.2.1 dX9_leastGo_9 (by decide) (fun c_1 => ?_) (fun c_1 => ?_)
    · replace hf := (if_pos c_1).symm.trans hf
      cases hf
      exact K0 _ _ _ hw (lv_sub hl [3] rfl)
    · replace hf := (if_neg c_1).symm.trans hf
      refine lv_aload_n S.1 S.2.1 dX9_leastGo_12 rfl (lv_at hl 0 rfl) ?_
      refine gf_X9_7 S hw 0 rfl dX9_leastGo_13 ?_
      refine lv_iload_n S.1 S.2.1 dX9_leastGo_16 rfl (lv_at hl 2 rfl) ?_
      obtain ⟨x_2, e_x_2, hf⟩ := ob hf
      refine al_X9_0 S hw 0 rfl e_x_2 dX9_leastGo_17 ?_
      refine lv_iload S.1 S.2.1 dX9_leastGo_18 (lv_at hl 4 rfl) ?_
      obtain ⟨u_3, e_u_3, hf⟩ := ob hf
      refine k_X9_has S (S.2.2.2.2.wd wd943 rfl) hw e_u_3 [] rfl (by decide) rfl ⟨rfl, rfl, Nat.le_of_ble_eq_true rfl, Nat.le_of_ble_eq_true rfl⟩ hl.1 (Nat.le_of_ble_eq_true rfl) dX9_leastGo_20 ⟨Nat.zero_le _, Nat.zero_le _⟩ (fun H locs hw => ?_)
      have hw : PW D A H0 [pX9 cy o0 q0 σ0] H locs := hw
      obtain ⟨v_4, e_v_4, hf⟩ := ob hf
      have hJ_v_4 : ∀ (H : Heap) (locs : List Loc), PW D A H0 [pX9 cy o0 q0 σ0] H locs → W p l e rmX9_leastGo s m args below meth c H locs 0 0 Q (F0 m 40 ls [.int v_4]) := by
        intro H locs hw
        refine lv_istore (lv' := [(5, .int v_4), (0, .ref o0), (1, .int y1), (2, .int y2), (3, .int y3), (4, .int y4)]) S.1 S.2.1 dX9_leastGo_40 hl (by decide) rfl (fun ls hl => ?_)
        refine lv_iload S.1 S.2.1 dX9_leastGo_42 (lv_at hl 0 rfl) ?_
        obtain ⟨v_5, e_v_5, hf⟩ := ob hf
        have hJ_v_5 : ∀ (H : Heap) (locs : List Loc), PW D A H0 [pX9 cy o0 q0 σ0] H locs → W p l e rmX9_leastGo s m args below meth c H locs 0 0 Q (F0 m 73 ls [.int v_5]) := by
          intro H locs hw
          refine lv_istore_n (lv' := [(3, .int v_5), (5, .int v_4), (0, .ref o0), (1, .int y1), (2, .int y2), (4, .int y4)]) S.1 S.2.1 dX9_leastGo_73 rfl hl (by decide) rfl (fun ls hl => ?_)
          refine lv_iinc (v := (y4 + (-1))) (lv' := [(4, .int ((y4 + (-1)))), (3, .int v_5), (5, .int v_4), (0, .ref o0), (1, .int y1), (2, .int y2)]) S.1 S.2.1 dX9_leastGo_74 hl (k := 5) rfl rfl (by decide) rfl (fun ls hl => ?_)
          refine lv_goto (tgt := 7) S.1 S.2.1 dX9_leastGo_77 (by decide) ?_
          exact ih _ _ _ _ _ _ hw (lv_sub hl [3, 4, 5, 1, 0] rfl) hf K0
        replace hf := e_v_5
        clear e_v_5
        refine lv_if_eq (tgt := 72) S.1 S.2.1 dX9_leastGo_44 (by decide) (fun c_6 => ?_) (fun c_6 => ?_)
        · replace hf := (if_pos c_6).symm.trans hf
          refine lv_iload_n S.1 S.2.1 dX9_leastGo_72 rfl (lv_at hl 4 rfl) ?_
          cases hf
          exact hJ_v_5 _ _ hw
        · replace hf := (if_neg c_6).symm.trans hf
          refine lv_aload_n S.1 S.2.1 dX9_leastGo_47 rfl (lv_at hl 1 rfl) ?_
          refine gf_X9_61 S hw 0 rfl dX9_leastGo_48 ?_
          refine lv_bipush (v := 8) S.1 S.2.1 dX9_leastGo_51 (by decide) ?_
          refine lv_iload_n S.1 S.2.1 dX9_leastGo_53 rfl (lv_at hl 2 rfl) ?_
          refine lv_iconst (v := 1) S.1 S.2.1 dX9_leastGo_54 (by decide) ?_
          refine lv_iload S.1 S.2.1 dX9_leastGo_55 (lv_at hl 5 rfl) ?_
          refine lv_ishl S.1 S.2.1 dX9_leastGo_57 ?_
          refine lv_ior S.1 S.2.1 dX9_leastGo_58 ?_
          refine lv_imul S.1 S.2.1 dX9_leastGo_59 ?_
          refine lv_iload S.1 S.2.1 dX9_leastGo_60 (lv_at hl 5 rfl) ?_
          refine lv_iadd S.1 S.2.1 dX9_leastGo_62 ?_
          obtain ⟨x_7, e_x_7, hf⟩ := ob hf
          refine al_X9_17 S hw 0 rfl e_x_7 dX9_leastGo_63 ?_
          refine lv_if_ne (tgt := 72) S.1 S.2.1 dX9_leastGo_64 (by decide) (fun c_8 => ?_) (fun c_8 => ?_)
          · replace hf := (if_neg c_8).symm.trans hf
            refine lv_iload_n S.1 S.2.1 dX9_leastGo_72 rfl (lv_at hl 4 rfl) ?_
            cases hf
            exact hJ_v_5 _ _ hw
          · replace hf := (if_pos c_8).symm.trans hf
            refine lv_iload S.1 S.2.1 dX9_leastGo_67 (lv_at hl 5 rfl) ?_
            refine lv_goto (tgt := 73) S.1 S.2.1 dX9_leastGo_69 (by decide) ?_
            cases hf
            exact hJ_v_5 _ _ hw
      replace hf := e_v_4
      clear e_v_4
      refine lv_if_eq (tgt := 39) S.1 S.2.1 dX9_leastGo_23 (by decide) (fun c_9 => ?_) (fun c_9 => ?_)
      · replace hf := (if_pos c_9).symm.trans hf
        refine lv_iconst (v := 0) S.1 S.2.1 dX9_leastGo_39 (by decide) ?_
        cases hf
        exact hJ_v_4 _ _ hw
      · replace hf := (if_neg c_9).symm.trans hf
        refine lv_iload_n S.1 S.2.1 dX9_leastGo_26 rfl (lv_at hl 1 rfl) ?_
        refine lv_iload S.1 S.2.1 dX9_leastGo_27 (lv_at hl 4 rfl) ?_
        obtain ⟨u_10, e_u_10, hf⟩ := ob hf
        refine k_X9_has S (S.2.2.2.2.wd wd943 rfl) hw e_u_10 [] rfl (by decide) rfl ⟨rfl, rfl, Nat.le_of_ble_eq_true rfl, Nat.le_of_ble_eq_true rfl⟩ hl.1 (Nat.le_of_ble_eq_true rfl) dX9_leastGo_29 ⟨Nat.zero_le _, Nat.zero_le _⟩ (fun H locs hw => ?_)
        have hw : PW D A H0 [pX9 cy o0 q0 σ0] H locs := hw
        refine lv_if_ne (tgt := 39) S.1 S.2.1 dX9_leastGo_32 (by decide) (fun c_11 => ?_) (fun c_11 => ?_)
        · replace hf := (if_neg c_11).symm.trans hf
          refine lv_iconst (v := 0) S.1 S.2.1 dX9_leastGo_39 (by decide) ?_
          cases hf
          exact hJ_v_4 _ _ hw
        · replace hf := (if_pos c_11).symm.trans hf
          refine lv_iconst (v := 1) S.1 S.2.1 dX9_leastGo_35 (by decide) ?_
          refine lv_goto (tgt := 40) S.1 S.2.1 dX9_leastGo_36 (by decide) ?_
          cases hf
          exact hJ_v_4 _ _ hw
end
set_option maxHeartbeats 4000000 in
set_option maxRecDepth 100000 in
theorem c_X9_leastGo (l : Launch) (D : va_G) (cy : Nat → ClassId) (o0 : Nat) (q0 : Nat → Nat) (x1 : Int32) (x2 : Int32) (σ0 : pStt) (u : Int32) (hf : f_X9_leastGo x1 x2 σ0 = some u) : CT l yX9_leastGo cX9_leastGo 6 (some .int) rmX9_leastGo D cy [.ref o0, .int x1, .int x2] [pX9 cy o0 q0 σ0] (some (.int u)) [pX9 cy o0 q0 σ0] := by
  refine CT.of (by decide) (Nat.le_of_ble_eq_true rfl) (fun p e s m args below meth c ls A Q hA hQ S hr hlk hl hw => ?_)
  have hl : lv_has ls 6 [(0, .ref o0), (1, .int x1), (2, .int x2)] := hl
  rw [f_X9_leastGo] at hf
  refine lv_bipush (v := (-6)) S.1 S.2.1 dX9_leastGo_0 (by decide) ?_
  refine lv_istore_n (lv' := [(3, .int ((-6))), (0, .ref o0), (1, .int x1), (2, .int x2)]) S.1 S.2.1 dX9_leastGo_2 rfl hl (by decide) rfl (fun ls hl => ?_)
  refine lv_bipush (v := 7) S.1 S.2.1 dX9_leastGo_3 (by decide) ?_
  refine lv_istore (lv' := [(4, .int 7), (3, .int ((-6))), (0, .ref o0), (1, .int x1), (2, .int x2)]) S.1 S.2.1 dX9_leastGo_5 hl (by decide) rfl (fun ls hl => ?_)
  obtain ⟨u_12, e_u_12, hf⟩ := ob hf
  refine lp_X9_leastGo_7 S 2000 _ _ _ _ _ _ hw (lv_sub hl [2, 3, 4, 1, 0] rfl) e_u_12 ?_
  · intro H locs ls hw hl
    refine lv_iload_n S.1 S.2.1 dX9_leastGo_80 rfl (lv_at hl 0 rfl) ?_
    cases hf
    exact w_iret S hr hlk hA hQ hw dX9_leastGo_81
section
variable {p : Program} {l : Launch} {e : Env} {R : Room} {s : State} {m : MethodId} {args : Array Value} {below : List Frame} {meth : Method} {c : Code} {H : Heap} {locs : List Loc} {cells slots : Nat} {Q : State → Prop} {cc : ByteArray} {pc nL : Nat} {ls : Array Slot} {rest : List Value} {D : va_G} {cy : Nat → ClassId} {A : Nat → Prop} {H0 : Heap} {own : String} {Ps : List va_W}
set_option maxRecDepth 100000 in
theorem k_X9_leastGo {o0 : Nat} {q0 : Nat → Nat} {x1 : Int32} {x2 : Int32} {σ0 : pStt} {u : Int32} {index : Nat} (S : CX p m c cc nL s args own D cy) (hl : (Cond.methodLink own index yX9_leastGo).before args s = true) (hw : PW D A H0 Ps H locs) (hf : f_X9_leastGo x1 x2 σ0 = some u) (js : List Nat) (hC : js.map (fun j => Ps[j]?) = [some (pX9 cy o0 q0 σ0)]) (hnd : js.Nodup) (hlen : js.length = 1) (hR : RMok rmX9_leastGo R 6) (hsize : ls.size = nL) (hrest : (rest.map fun v => v.category).sum ≤ 8) (hdg : decode cc pc = .ok (.invokevirtual index, 3)) (hcs : cells ≤ R.cells ∧ slots ≤ R.slots)
    (kk : ∀ (H1 : Heap) (locs1 : List Loc), PW D A H0 (setAll Ps js [pX9 cy o0 q0 σ0]) H1 locs1 → W p l e R s m args below meth c H1 locs1 cells slots Q (F0 m (pc + 3) ls (.int u :: rest))) : W p l e R s m args below meth c H locs cells slots Q (F0 m pc ls (.int x2 :: .int x1 :: .ref o0 :: rest)) :=
  w_callV (n := 2) (ov := (some (.int u))) (As := [.int x1, .int x2]) (Cs := [pX9 cy o0 q0 σ0]) (Cs' := [pX9 cy o0 q0 σ0]) S hw (c_X9_leastGo l D cy o0 q0 x1 x2 σ0 u hf) (MF.of S.2.2.2.2 wd1106 wd79 (by decide)) (S.2.2.2.2.wd wd1105 rfl) (S.2.2.2.2.wd wd59 rfl) hl hR js hC hnd hlen rfl rfl rfl rfl hsize rfl hrest hdg hcs kk
end
