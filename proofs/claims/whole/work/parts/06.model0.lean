abbrev rmX9_in : Room := { frames := 0, cells := 0, slots := 0, locals := 0 }
def f_X9_in (x1 : Int64) (x2 : Int64) (x3 : Int64) : Option (Int32) := (if (lg_cmp x1 x2) < 0 then some 0 else if 0 < (lg_cmp x1 x3) then some 0 else some 1 : Option Int32).bind (fun v_1 => (asB v_1).bind (fun b_2 => some b_2))
set_option maxHeartbeats 4000000 in
set_option maxRecDepth 100000 in
theorem c_X9_in (l : Launch) (D : va_G) (cy : Nat → ClassId)  (x1 : Int64) (x2 : Int64) (x3 : Int64) (u : Int32) (hf : f_X9_in x1 x2 x3 = some u) : CT l yX9_in cX9_in 6 (some .boolean) rmX9_in D cy [.long x1, .long x2, .long x3] [] (some (.int u)) [] := by
  refine CT.of (by decide) (Nat.le_of_ble_eq_true rfl) (fun p e s m args below meth c ls A Q hA hQ S hr hlk hl hw => ?_)
  have hl : lv_has ls 6 [(0, .long x1), (2, .long x2), (4, .long x3)] := hl
  rw [f_X9_in] at hf
  refine lv_lload_n S.1 S.2.1 dX9_in_0 rfl (lv_at hl 0 rfl) ?_
  refine lv_lload_n S.1 S.2.1 dX9_in_1 rfl (lv_at hl 1 rfl) ?_
  refine W.lcmp S.1 S.2.1 dX9_in_2 ?_
  obtain ⟨v_1, e_v_1, hf⟩ := ob hf
  have hJ_v_1 : ∀ (H : Heap) (locs : List Loc), PW D A s.heap [] H locs → W p l e rmX9_in s m args below meth c H locs 0 0 Q (F0 m 18 ls [.int v_1]) := by
    intro H locs hw
    obtain ⟨b_2, e_b_2, hf⟩ := ob hf
    obtain ⟨-, -, h_b_2⟩ := asB_inv e_b_2
    subst h_b_2
    cases hf
    exact w_zret S hr (asB_inv e_b_2).1 hlk hA hQ hw dX9_in_18
  replace hf := e_v_1
  clear e_v_1
  refine lv_if_lt (tgt := 17) S.1 S.2.1 dX9_in_3 (by decide) (fun c_3 => ?_) (fun c_3 => ?_)
  · replace hf := (if_pos c_3).symm.trans hf
    refine lv_iconst (v := 0) S.1 S.2.1 dX9_in_17 (by decide) ?_
    cases hf
    exact hJ_v_1 _ _ hw
  · replace hf := (if_neg c_3).symm.trans hf
    refine lv_lload_n S.1 S.2.1 dX9_in_6 rfl (lv_at hl 0 rfl) ?_
    refine lv_lload S.1 S.2.1 dX9_in_7 (lv_at hl 2 rfl) ?_
    refine W.lcmp S.1 S.2.1 dX9_in_9 ?_
    refine lv_if_gt (tgt := 17) S.1 S.2.1 dX9_in_10 (by decide) (fun c_4 => ?_) (fun c_4 => ?_)
    · replace hf := (if_pos c_4).symm.trans hf
      refine lv_iconst (v := 0) S.1 S.2.1 dX9_in_17 (by decide) ?_
      cases hf
      exact hJ_v_1 _ _ hw
    · replace hf := (if_neg c_4).symm.trans hf
      refine lv_iconst (v := 1) S.1 S.2.1 dX9_in_13 (by decide) ?_
      refine lv_goto (tgt := 18) S.1 S.2.1 dX9_in_14 (by decide) ?_
      cases hf
      exact hJ_v_1 _ _ hw
section
variable {p : Program} {l : Launch} {e : Env} {R : Room} {s : State} {m : MethodId} {args : Array Value} {below : List Frame} {meth : Method} {c : Code} {H : Heap} {locs : List Loc} {cells slots : Nat} {Q : State → Prop} {cc : ByteArray} {pc nL : Nat} {ls : Array Slot} {rest : List Value} {D : va_G} {cy : Nat → ClassId} {A : Nat → Prop} {H0 : Heap} {own : String} {Ps : List va_W}
set_option maxRecDepth 100000 in
theorem k_X9_in  {x1 : Int64} {x2 : Int64} {x3 : Int64}  {u : Int32} {index : Nat} (S : CX p m c cc nL s args own D cy) (hl : (Cond.methodLink own index yX9_in).before args s = true) (hw : PW D A H0 Ps H locs) (hf : f_X9_in x1 x2 x3 = some u) (js : List Nat) (hC : js.map (fun j => Ps[j]?) = []) (hnd : js.Nodup) (hlen : js.length = 0) (hR : RMok rmX9_in R 6) (hsize : ls.size = nL) (hrest : (rest.map fun v => v.category).sum ≤ 8) (hdg : decode cc pc = .ok (.invokestatic index, 3)) (hcs : cells ≤ R.cells ∧ slots ≤ R.slots)
    (kk : ∀ (H1 : Heap) (locs1 : List Loc), PW D A H0 (setAll Ps js []) H1 locs1 → W p l e R s m args below meth c H1 locs1 cells slots Q (F0 m (pc + 3) ls (.int u :: rest))) : W p l e R s m args below meth c H locs cells slots Q (F0 m pc ls (.long x3 :: .long x2 :: .long x1 :: rest)) :=
  w_callS (n := 3) (ov := (some (.int u))) (As := [.long x1, .long x2, .long x3]) (Cs := []) (Cs' := []) S hw (c_X9_in l D cy  x1 x2 x3 u hf) (MF.of S.2.2.2.2 wd820 wd79 (by decide)) (S.2.2.2.2.wd wd819 rfl) hl hR js hC hnd hlen rfl hsize rfl hrest hdg hcs kk
end
abbrev rmX9_isCorner : Room := { frames := 1, cells := 0, slots := 0, locals := 25 }
def f_X9_isCorner (x1 : Int32) : Option (Int32) := (f_X9_in ((x1 : Int32).toInt64) 0 7).bind (fun u_1 => (asB u_1).bind (fun b_2 => some b_2))
set_option maxHeartbeats 4000000 in
set_option maxRecDepth 100000 in
theorem c_X9_isCorner (l : Launch) (D : va_G) (cy : Nat → ClassId)  (x1 : Int32) (u : Int32) (hf : f_X9_isCorner x1 = some u) : CT l yX9_isCorner cX9_isCorner 1 (some .boolean) rmX9_isCorner D cy [.int x1] [] (some (.int u)) [] := by
  refine CT.of (by decide) (Nat.le_of_ble_eq_true rfl) (fun p e s m args below meth c ls A Q hA hQ S hr hlk hl hw => ?_)
  have hl : lv_has ls 1 [(0, .int x1)] := hl
  rw [f_X9_isCorner] at hf
  refine lv_iload_n S.1 S.2.1 dX9_isCorner_0 rfl (lv_at hl 0 rfl) ?_
  refine lv_i2l (v := (x1 : Int32).toInt64) S.1 S.2.1 dX9_isCorner_1 rfl ?_
  refine lv_lconst (v := 0) S.1 S.2.1 dX9_isCorner_2 (by decide) ?_
  refine lv_ldc2 (v := 7) S.1 S.2.1 S.2.2.2.1 (S.2.2.2.2.wd wd817 rfl) dX9_isCorner_3 ?_
  obtain ⟨u_1, e_u_1, hf⟩ := ob hf
  refine k_X9_in S (S.2.2.2.2.wd wd818 rfl) hw e_u_1 [] rfl (by decide) rfl ⟨rfl, rfl, Nat.le_of_ble_eq_true rfl, Nat.le_of_ble_eq_true rfl⟩ hl.1 (Nat.le_of_ble_eq_true rfl) dX9_isCorner_6 ⟨Nat.zero_le _, Nat.zero_le _⟩ (fun H locs hw => ?_)
  have hw : PW D A s.heap [] H locs := hw
  obtain ⟨b_2, e_b_2, hf⟩ := ob hf
  obtain ⟨-, -, h_b_2⟩ := asB_inv e_b_2
  subst h_b_2
  cases hf
  exact w_zret S hr (asB_inv e_b_2).1 hlk hA hQ hw dX9_isCorner_9
section
variable {p : Program} {l : Launch} {e : Env} {R : Room} {s : State} {m : MethodId} {args : Array Value} {below : List Frame} {meth : Method} {c : Code} {H : Heap} {locs : List Loc} {cells slots : Nat} {Q : State → Prop} {cc : ByteArray} {pc nL : Nat} {ls : Array Slot} {rest : List Value} {D : va_G} {cy : Nat → ClassId} {A : Nat → Prop} {H0 : Heap} {own : String} {Ps : List va_W}
set_option maxRecDepth 100000 in
theorem k_X9_isCorner  {x1 : Int32}  {u : Int32} {index : Nat} (S : CX p m c cc nL s args own D cy) (hl : (Cond.methodLink own index yX9_isCorner).before args s = true) (hw : PW D A H0 Ps H locs) (hf : f_X9_isCorner x1 = some u) (js : List Nat) (hC : js.map (fun j => Ps[j]?) = []) (hnd : js.Nodup) (hlen : js.length = 0) (hR : RMok rmX9_isCorner R 1) (hsize : ls.size = nL) (hrest : (rest.map fun v => v.category).sum ≤ 8) (hdg : decode cc pc = .ok (.invokestatic index, 3)) (hcs : cells ≤ R.cells ∧ slots ≤ R.slots)
    (kk : ∀ (H1 : Heap) (locs1 : List Loc), PW D A H0 (setAll Ps js []) H1 locs1 → W p l e R s m args below meth c H1 locs1 cells slots Q (F0 m (pc + 3) ls (.int u :: rest))) : W p l e R s m args below meth c H locs cells slots Q (F0 m pc ls (.int x1 :: rest)) :=
  w_callS (n := 1) (ov := (some (.int u))) (As := [.int x1]) (Cs := []) (Cs' := []) S hw (c_X9_isCorner l D cy  x1 u hf) (MF.of S.2.2.2.2 wd816 wd79 (by decide)) (S.2.2.2.2.wd wd815 rfl) hl hR js hC hnd hlen rfl hsize rfl hrest hdg hcs kk
end
abbrev rmX9_isThing : Room := { frames := 1, cells := 0, slots := 0, locals := 25 }
def f_X9_isThing (x1 : Int32) : Option (Int32) := (f_X9_in ((x1 : Int32).toInt64) 0 7).bind (fun u_1 => (asB u_1).bind (fun b_2 => some b_2))
set_option maxHeartbeats 4000000 in
set_option maxRecDepth 100000 in
theorem c_X9_isThing (l : Launch) (D : va_G) (cy : Nat → ClassId)  (x1 : Int32) (u : Int32) (hf : f_X9_isThing x1 = some u) : CT l yX9_isThing cX9_isThing 1 (some .boolean) rmX9_isThing D cy [.int x1] [] (some (.int u)) [] := by
  refine CT.of (by decide) (Nat.le_of_ble_eq_true rfl) (fun p e s m args below meth c ls A Q hA hQ S hr hlk hl hw => ?_)
  have hl : lv_has ls 1 [(0, .int x1)] := hl
  rw [f_X9_isThing] at hf
  refine lv_iload_n S.1 S.2.1 dX9_isThing_0 rfl (lv_at hl 0 rfl) ?_
  refine lv_i2l (v := (x1 : Int32).toInt64) S.1 S.2.1 dX9_isThing_1 rfl ?_
  refine lv_lconst (v := 0) S.1 S.2.1 dX9_isThing_2 (by decide) ?_
  refine lv_ldc2 (v := 7) S.1 S.2.1 S.2.2.2.1 (S.2.2.2.2.wd wd817 rfl) dX9_isThing_3 ?_
  obtain ⟨u_1, e_u_1, hf⟩ := ob hf
  refine k_X9_in S (S.2.2.2.2.wd wd818 rfl) hw e_u_1 [] rfl (by decide) rfl ⟨rfl, rfl, Nat.le_of_ble_eq_true rfl, Nat.le_of_ble_eq_true rfl⟩ hl.1 (Nat.le_of_ble_eq_true rfl) dX9_isThing_6 ⟨Nat.zero_le _, Nat.zero_le _⟩ (fun H locs hw => ?_)
  have hw : PW D A s.heap [] H locs := hw
  obtain ⟨b_2, e_b_2, hf⟩ := ob hf
  obtain ⟨-, -, h_b_2⟩ := asB_inv e_b_2
  subst h_b_2
  cases hf
  exact w_zret S hr (asB_inv e_b_2).1 hlk hA hQ hw dX9_isThing_9
section
variable {p : Program} {l : Launch} {e : Env} {R : Room} {s : State} {m : MethodId} {args : Array Value} {below : List Frame} {meth : Method} {c : Code} {H : Heap} {locs : List Loc} {cells slots : Nat} {Q : State → Prop} {cc : ByteArray} {pc nL : Nat} {ls : Array Slot} {rest : List Value} {D : va_G} {cy : Nat → ClassId} {A : Nat → Prop} {H0 : Heap} {own : String} {Ps : List va_W}
set_option maxRecDepth 100000 in
theorem k_X9_isThing  {x1 : Int32}  {u : Int32} {index : Nat} (S : CX p m c cc nL s args own D cy) (hl : (Cond.methodLink own index yX9_isThing).before args s = true) (hw : PW D A H0 Ps H locs) (hf : f_X9_isThing x1 = some u) (js : List Nat) (hC : js.map (fun j => Ps[j]?) = []) (hnd : js.Nodup) (hlen : js.length = 0) (hR : RMok rmX9_isThing R 1) (hsize : ls.size = nL) (hrest : (rest.map fun v => v.category).sum ≤ 8) (hdg : decode cc pc = .ok (.invokestatic index, 3)) (hcs : cells ≤ R.cells ∧ slots ≤ R.slots)
    (kk : ∀ (H1 : Heap) (locs1 : List Loc), PW D A H0 (setAll Ps js []) H1 locs1 → W p l e R s m args below meth c H1 locs1 cells slots Q (F0 m (pc + 3) ls (.int u :: rest))) : W p l e R s m args below meth c H locs cells slots Q (F0 m pc ls (.int x1 :: rest)) :=
  w_callS (n := 1) (ov := (some (.int u))) (As := [.int x1]) (Cs := []) (Cs' := []) S hw (c_X9_isThing l D cy  x1 u hf) (MF.of S.2.2.2.2 wd838 wd79 (by decide)) (S.2.2.2.2.wd wd837 rfl) hl hR js hC hnd hlen rfl hsize rfl hrest hdg hcs kk
end
abbrev rmX9_isPerson : Room := { frames := 1, cells := 0, slots := 0, locals := 25 }
def f_X9_isPerson (x1 : Int32) : Option (Int32) := (f_X9_in ((x1 : Int32).toInt64) 0 5).bind (fun u_1 => (asB u_1).bind (fun b_2 => some b_2))
set_option maxHeartbeats 4000000 in
set_option maxRecDepth 100000 in
theorem c_X9_isPerson (l : Launch) (D : va_G) (cy : Nat → ClassId)  (x1 : Int32) (u : Int32) (hf : f_X9_isPerson x1 = some u) : CT l yX9_isPerson cX9_isPerson 1 (some .boolean) rmX9_isPerson D cy [.int x1] [] (some (.int u)) [] := by
  refine CT.of (by decide) (Nat.le_of_ble_eq_true rfl) (fun p e s m args below meth c ls A Q hA hQ S hr hlk hl hw => ?_)
  have hl : lv_has ls 1 [(0, .int x1)] := hl
  rw [f_X9_isPerson] at hf
  refine lv_iload_n S.1 S.2.1 dX9_isPerson_0 rfl (lv_at hl 0 rfl) ?_
  refine lv_i2l (v := (x1 : Int32).toInt64) S.1 S.2.1 dX9_isPerson_1 rfl ?_
  refine lv_lconst (v := 0) S.1 S.2.1 dX9_isPerson_2 (by decide) ?_
  refine lv_ldc2 (v := 5) S.1 S.2.1 S.2.2.2.1 (S.2.2.2.2.wd wd851 rfl) dX9_isPerson_3 ?_
  obtain ⟨u_1, e_u_1, hf⟩ := ob hf
  refine k_X9_in S (S.2.2.2.2.wd wd818 rfl) hw e_u_1 [] rfl (by decide) rfl ⟨rfl, rfl, Nat.le_of_ble_eq_true rfl, Nat.le_of_ble_eq_true rfl⟩ hl.1 (Nat.le_of_ble_eq_true rfl) dX9_isPerson_6 ⟨Nat.zero_le _, Nat.zero_le _⟩ (fun H locs hw => ?_)
  have hw : PW D A s.heap [] H locs := hw
  obtain ⟨b_2, e_b_2, hf⟩ := ob hf
  obtain ⟨-, -, h_b_2⟩ := asB_inv e_b_2
  subst h_b_2
  cases hf
  exact w_zret S hr (asB_inv e_b_2).1 hlk hA hQ hw dX9_isPerson_9
section
variable {p : Program} {l : Launch} {e : Env} {R : Room} {s : State} {m : MethodId} {args : Array Value} {below : List Frame} {meth : Method} {c : Code} {H : Heap} {locs : List Loc} {cells slots : Nat} {Q : State → Prop} {cc : ByteArray} {pc nL : Nat} {ls : Array Slot} {rest : List Value} {D : va_G} {cy : Nat → ClassId} {A : Nat → Prop} {H0 : Heap} {own : String} {Ps : List va_W}
set_option maxRecDepth 100000 in
theorem k_X9_isPerson  {x1 : Int32}  {u : Int32} {index : Nat} (S : CX p m c cc nL s args own D cy) (hl : (Cond.methodLink own index yX9_isPerson).before args s = true) (hw : PW D A H0 Ps H locs) (hf : f_X9_isPerson x1 = some u) (js : List Nat) (hC : js.map (fun j => Ps[j]?) = []) (hnd : js.Nodup) (hlen : js.length = 0) (hR : RMok rmX9_isPerson R 1) (hsize : ls.size = nL) (hrest : (rest.map fun v => v.category).sum ≤ 8) (hdg : decode cc pc = .ok (.invokestatic index, 3)) (hcs : cells ≤ R.cells ∧ slots ≤ R.slots)
    (kk : ∀ (H1 : Heap) (locs1 : List Loc), PW D A H0 (setAll Ps js []) H1 locs1 → W p l e R s m args below meth c H1 locs1 cells slots Q (F0 m (pc + 3) ls (.int u :: rest))) : W p l e R s m args below meth c H locs cells slots Q (F0 m pc ls (.int x1 :: rest)) :=
  w_callS (n := 1) (ov := (some (.int u))) (As := [.int x1]) (Cs := []) (Cs' := []) S hw (c_X9_isPerson l D cy  x1 u hf) (MF.of S.2.2.2.2 wd850 wd79 (by decide)) (S.2.2.2.2.wd wd849 rfl) hl hR js hC hnd hlen rfl hsize rfl hrest hdg hcs kk
end
abbrev rmX9_ones : Room := { frames := 0, cells := 0, slots := 0, locals := 0 }
def fl_X9_ones_4   : Nat → Int32 → Int32 → Option (Int32)
  | 0, _, _ => none
  | n + 1, y1, y2 => if y2 = 0 then some y1 else fl_X9_ones_4 n ((y1 + 1)) ((y2 &&& (y2 - (1 : Int32))))
def f_X9_ones (x1 : Int32) : Option (Int32) := (fl_X9_ones_4 2000 0 x1).bind (fun u_2 => some u_2)
section
variable {p : Program} {l : Launch} {e : Env} {s : State} {m : MethodId} {args : Array Value} {below : List Frame} {meth : Method} {c : Code} {Q : State → Prop} {D : va_G} {cy : Nat → ClassId} {A : Nat → Prop} {H0 : Heap}
set_option maxHeartbeats 4000000 in
set_option maxRecDepth 100000 in
theorem lp_X9_ones_4 (S : CX p m c cX9_ones 3 s args RX9 D cy)    : ∀ (n : Nat) (y1 : Int32) (y2 : Int32) (H : Heap) (locs : List Loc) (ls : Array Slot) (u : Int32), PW D A H0 [] H locs → lv_has ls 3 [(1, .int y1), (2, .int y2)] → fl_X9_ones_4 n y1 y2 = some u → (∀ (H : Heap) (locs : List Loc) (ls : Array Slot), PW D A H0 [] H locs → lv_has ls 3 [(1, .int u)] → W p l e rmX9_ones s m args below meth c H locs 0 0 Q (F0 m 20 ls [])) → W p l e rmX9_ones s m args below meth c H locs 0 0 Q (F0 m 4 ls []) := by
  intro n
  induction n with
  | zero =>
    intro y1 y2 H locs ls u hw hl hf K0
    rw [fl_X9_ones_4] at hf
    cases hf
  | succ n ih =>
    intro y1 y2 H locs ls u hw hl hf K0
    rw [fl_X9_ones_4] at hf
    refine lv_iload_n S.1 S.2.1 dX9_ones_4 rfl (lv_at hl 1 rfl) ?_
    refine lv_if_eq (tgt := 20) S.1 S.2.1 dX9_ones_5 (by decide) (fun c_1 => ?_) (fun c_1 => ?_)
    · replace hf := (if_pos c_1).symm.trans hf
      cases hf
      exact K0 _ _ _ hw (lv_sub hl [0] rfl)
    · replace hf := (if_neg c_1).symm.trans hf
      refine lv_iinc (v := (y1 + 1)) (lv' := [(1, .int ((y1 + 1))), (2, .int y2)]) S.1 S.2.1 dX9_ones_8 hl (k := 0) rfl rfl (by decide) rfl (fun ls hl => ?_)
      refine lv_iload_n S.1 S.2.1 dX9_ones_11 rfl (lv_at hl 1 rfl) ?_
      refine lv_iload_n S.1 S.2.1 dX9_ones_12 rfl (lv_at hl 1 rfl) ?_
      refine lv_iconst (v := 1) S.1 S.2.1 dX9_ones_13 (by decide) ?_
      refine lv_isub S.1 S.2.1 dX9_ones_14 ?_
      refine lv_iand S.1 S.2.1 dX9_ones_15 ?_
      refine lv_istore_n (lv' := [(2, .int ((y2 &&& (y2 - (1 : Int32))))), (1, .int ((y1 + 1)))]) S.1 S.2.1 dX9_ones_16 rfl hl (by decide) rfl (fun ls hl => ?_)
      refine lv_goto (tgt := 4) S.1 S.2.1 dX9_ones_17 (by decide) ?_
      exact ih _ _ _ _ _ _ hw (lv_sub hl [1, 0] rfl) hf K0
end
set_option maxHeartbeats 4000000 in
set_option maxRecDepth 100000 in
theorem c_X9_ones (l : Launch) (D : va_G) (cy : Nat → ClassId)  (x1 : Int32) (u : Int32) (hf : f_X9_ones x1 = some u) : CT l yX9_ones cX9_ones 3 (some .int) rmX9_ones D cy [.int x1] [] (some (.int u)) [] := by
  refine CT.of (by decide) (Nat.le_of_ble_eq_true rfl) (fun p e s m args below meth c ls A Q hA hQ S hr hlk hl hw => ?_)
  have hl : lv_has ls 3 [(0, .int x1)] := hl
  rw [f_X9_ones] at hf
  refine lv_iconst (v := 0) S.1 S.2.1 dX9_ones_0 (by decide) ?_
  refine lv_istore_n (lv' := [(1, .int 0), (0, .int x1)]) S.1 S.2.1 dX9_ones_1 rfl hl (by decide) rfl (fun ls hl => ?_)
  refine lv_iload_n S.1 S.2.1 dX9_ones_2 rfl (lv_at hl 1 rfl) ?_
  refine lv_istore_n (lv' := [(2, .int x1), (1, .int 0), (0, .int x1)]) S.1 S.2.1 dX9_ones_3 rfl hl (by decide) rfl (fun ls hl => ?_)
  obtain ⟨u_2, e_u_2, hf⟩ := ob hf
  refine lp_X9_ones_4 S 2000 _ _ _ _ _ _ hw (lv_sub hl [1, 0] rfl) e_u_2 ?_
  · intro H locs ls hw hl
    refine lv_iload_n S.1 S.2.1 dX9_ones_20 rfl (lv_at hl 0 rfl) ?_
    cases hf
    exact w_iret S hr hlk hA hQ hw dX9_ones_21
section
variable {p : Program} {l : Launch} {e : Env} {R : Room} {s : State} {m : MethodId} {args : Array Value} {below : List Frame} {meth : Method} {c : Code} {H : Heap} {locs : List Loc} {cells slots : Nat} {Q : State → Prop} {cc : ByteArray} {pc nL : Nat} {ls : Array Slot} {rest : List Value} {D : va_G} {cy : Nat → ClassId} {A : Nat → Prop} {H0 : Heap} {own : String} {Ps : List va_W}
set_option maxRecDepth 100000 in
theorem k_X9_ones  {x1 : Int32}  {u : Int32} {index : Nat} (S : CX p m c cc nL s args own D cy) (hl : (Cond.methodLink own index yX9_ones).before args s = true) (hw : PW D A H0 Ps H locs) (hf : f_X9_ones x1 = some u) (js : List Nat) (hC : js.map (fun j => Ps[j]?) = []) (hnd : js.Nodup) (hlen : js.length = 0) (hR : RMok rmX9_ones R 3) (hsize : ls.size = nL) (hrest : (rest.map fun v => v.category).sum ≤ 8) (hdg : decode cc pc = .ok (.invokestatic index, 3)) (hcs : cells ≤ R.cells ∧ slots ≤ R.slots)
    (kk : ∀ (H1 : Heap) (locs1 : List Loc), PW D A H0 (setAll Ps js []) H1 locs1 → W p l e R s m args below meth c H1 locs1 cells slots Q (F0 m (pc + 3) ls (.int u :: rest))) : W p l e R s m args below meth c H locs cells slots Q (F0 m pc ls (.int x1 :: rest)) :=
  w_callS (n := 1) (ov := (some (.int u))) (As := [.int x1]) (Cs := []) (Cs' := []) S hw (c_X9_ones l D cy  x1 u hf) (MF.of S.2.2.2.2 wd831 wd79 (by decide)) (S.2.2.2.2.wd wd830 rfl) hl hR js hC hnd hlen rfl hsize rfl hrest hdg hcs kk
end
abbrev rmX9_has : Room := { frames := 0, cells := 0, slots := 0, locals := 0 }
def f_X9_has (x1 : Int32) (x2 : Int32) : Option (Int32) := (if ((x1 >>> (x2 &&& 31)) &&& (1 : Int32)) = 1 then some 1 else some 0 : Option Int32).bind (fun v_1 => (asB v_1).bind (fun b_2 => some b_2))
set_option maxHeartbeats 4000000 in
set_option maxRecDepth 100000 in
theorem c_X9_has (l : Launch) (D : va_G) (cy : Nat → ClassId)  (x1 : Int32) (x2 : Int32) (u : Int32) (hf : f_X9_has x1 x2 = some u) : CT l yX9_has cX9_has 2 (some .boolean) rmX9_has D cy [.int x1, .int x2] [] (some (.int u)) [] := by
  refine CT.of (by decide) (Nat.le_of_ble_eq_true rfl) (fun p e s m args below meth c ls A Q hA hQ S hr hlk hl hw => ?_)
  have hl : lv_has ls 2 [(0, .int x1), (1, .int x2)] := hl
  rw [f_X9_has] at hf
  refine lv_iload_n S.1 S.2.1 dX9_has_0 rfl (lv_at hl 0 rfl) ?_
  refine lv_iload_n S.1 S.2.1 dX9_has_1 rfl (lv_at hl 1 rfl) ?_
  refine lv_ishr S.1 S.2.1 dX9_has_2 ?_
  refine lv_iconst (v := 1) S.1 S.2.1 dX9_has_3 (by decide) ?_
  refine lv_iand S.1 S.2.1 dX9_has_4 ?_
  refine lv_iconst (v := 1) S.1 S.2.1 dX9_has_5 (by decide) ?_
  obtain ⟨v_1, e_v_1, hf⟩ := ob hf
  have hJ_v_1 : ∀ (H : Heap) (locs : List Loc), PW D A s.heap [] H locs → W p l e rmX9_has s m args below meth c H locs 0 0 Q (F0 m 14 ls [.int v_1]) := by
    intro H locs hw
    obtain ⟨b_2, e_b_2, hf⟩ := ob hf
    obtain ⟨-, -, h_b_2⟩ := asB_inv e_b_2
    subst h_b_2
    cases hf
    exact w_zret S hr (asB_inv e_b_2).1 hlk hA hQ hw dX9_has_14
  replace hf := e_v_1
  clear e_v_1
  refine lv_icmp_ne (tgt := 13) S.1 S.2.1 dX9_has_6 (by decide) (fun c_3 => ?_) (fun c_3 => ?_)
  · replace hf := (if_neg c_3).symm.trans hf
    refine lv_iconst (v := 0) S.1 S.2.1 dX9_has_13 (by decide) ?_
    cases hf
    exact hJ_v_1 _ _ hw
  · replace hf := (if_pos c_3).symm.trans hf
    refine lv_iconst (v := 1) S.1 S.2.1 dX9_has_9 (by decide) ?_
    refine lv_goto (tgt := 14) S.1 S.2.1 dX9_has_10 (by decide) ?_
    cases hf
    exact hJ_v_1 _ _ hw
section
variable {p : Program} {l : Launch} {e : Env} {R : Room} {s : State} {m : MethodId} {args : Array Value} {below : List Frame} {meth : Method} {c : Code} {H : Heap} {locs : List Loc} {cells slots : Nat} {Q : State → Prop} {cc : ByteArray} {pc nL : Nat} {ls : Array Slot} {rest : List Value} {D : va_G} {cy : Nat → ClassId} {A : Nat → Prop} {H0 : Heap} {own : String} {Ps : List va_W}
set_option maxRecDepth 100000 in
theorem k_X9_has  {x1 : Int32} {x2 : Int32}  {u : Int32} {index : Nat} (S : CX p m c cc nL s args own D cy) (hl : (Cond.methodLink own index yX9_has).before args s = true) (hw : PW D A H0 Ps H locs) (hf : f_X9_has x1 x2 = some u) (js : List Nat) (hC : js.map (fun j => Ps[j]?) = []) (hnd : js.Nodup) (hlen : js.length = 0) (hR : RMok rmX9_has R 2) (hsize : ls.size = nL) (hrest : (rest.map fun v => v.category).sum ≤ 8) (hdg : decode cc pc = .ok (.invokestatic index, 3)) (hcs : cells ≤ R.cells ∧ slots ≤ R.slots)
    (kk : ∀ (H1 : Heap) (locs1 : List Loc), PW D A H0 (setAll Ps js []) H1 locs1 → W p l e R s m args below meth c H1 locs1 cells slots Q (F0 m (pc + 3) ls (.int u :: rest))) : W p l e R s m args below meth c H locs cells slots Q (F0 m pc ls (.int x2 :: .int x1 :: rest)) :=
  w_callS (n := 2) (ov := (some (.int u))) (As := [.int x1, .int x2]) (Cs := []) (Cs' := []) S hw (c_X9_has l D cy  x1 x2 u hf) (MF.of S.2.2.2.2 wd945 wd79 (by decide)) (S.2.2.2.2.wd wd944 rfl) hl hR js hC hnd hlen rfl hsize rfl hrest hdg hcs kk
end
abbrev rmX9_waysAll : Room := { frames := 1, cells := 0, slots := 0, locals := 22 }
def fl_X9_waysAll_4  (σ0 : pStt) : Nat → Int32 → Int32 → Option (Int32)
  | 0, _, _ => none
  | n + 1, y1, y2 => if 8 ≤ y2 then some y1 else (ld (σ0.2 0) 8 y2).bind (fun x_2 => (f_X9_ones x_2).bind (fun u_3 => fl_X9_waysAll_4 σ0 n ((y1 + u_3)) ((y2 + 1))))
def f_X9_waysAll (σ0 : pStt) : Option (Int32) := (fl_X9_waysAll_4 σ0 2000 0 0).bind (fun u_4 => some ((u_4 / 2)))
section
variable {p : Program} {l : Launch} {e : Env} {s : State} {m : MethodId} {args : Array Value} {below : List Frame} {meth : Method} {c : Code} {Q : State → Prop} {D : va_G} {cy : Nat → ClassId} {A : Nat → Prop} {H0 : Heap}
set_option maxHeartbeats 4000000 in
set_option maxRecDepth 100000 in
theorem lp_X9_waysAll_4 (S : CX p m c cX9_waysAll 3 s args RX9 D cy) {o0 : Nat} {q0 : Nat → Nat} {σ0 : pStt}  : ∀ (n : Nat) (y1 : Int32) (y2 : Int32) (H : Heap) (locs : List Loc) (ls : Array Slot) (u : Int32), PW D A H0 [pX9 cy o0 q0 σ0] H locs → lv_has ls 3 [(0, .ref o0), (1, .int y1), (2, .int y2)] → fl_X9_waysAll_4 σ0 n y1 y2 = some u → (∀ (H : Heap) (locs : List Loc) (ls : Array Slot), PW D A H0 [pX9 cy o0 q0 σ0] H locs → lv_has ls 3 [(1, .int u)] → W p l e rmX9_waysAll s m args below meth c H locs 0 0 Q (F0 m 28 ls [])) → W p l e rmX9_waysAll s m args below meth c H locs 0 0 Q (F0 m 4 ls []) := by
  intro n
  induction n with
  | zero =>
    intro y1 y2 H locs ls u hw hl hf K0
    rw [fl_X9_waysAll_4] at hf
    cases hf
  | succ n ih =>
    intro y1 y2 H locs ls u hw hl hf K0
    rw [fl_X9_waysAll_4] at hf
    refine lv_iload_n S.1 S.2.1 dX9_waysAll_4 rfl (lv_at hl 2 rfl) ?_
    refine lv_bipush (v := 8) S.1 S.2.1 dX9_waysAll_5 (by decide) ?_
    refine lv_icmp_ge (tgt := 28) S.1 S.2.1 dX9_waysAll_7 (by decide) (fun c_1 => ?_) (fun c_1 => ?_)
    · replace hf := (if_pos c_1).symm.trans hf
      cases hf
      exact K0 _ _ _ hw (lv_sub hl [1] rfl)
    · replace hf := (if_neg c_1).symm.trans hf
      refine lv_iload_n S.1 S.2.1 dX9_waysAll_10 rfl (lv_at hl 1 rfl) ?_
      refine lv_aload_n S.1 S.2.1 dX9_waysAll_11 rfl (lv_at hl 0 rfl) ?_
      refine gf_X9_7 S hw 0 rfl dX9_waysAll_12 ?_
      refine lv_iload_n S.1 S.2.1 dX9_waysAll_15 rfl (lv_at hl 2 rfl) ?_
      obtain ⟨x_2, e_x_2, hf⟩ := ob hf
      refine al_X9_0 S hw 0 rfl e_x_2 dX9_waysAll_16 ?_
      obtain ⟨u_3, e_u_3, hf⟩ := ob hf
      refine k_X9_ones S (S.2.2.2.2.wd wd829 rfl) hw e_u_3 [] rfl (by decide) rfl ⟨rfl, rfl, Nat.le_of_ble_eq_true rfl, Nat.le_of_ble_eq_true rfl⟩ hl.1 (Nat.le_of_ble_eq_true rfl) dX9_waysAll_17 ⟨Nat.zero_le _, Nat.zero_le _⟩ (fun H locs hw => ?_)
      have hw : PW D A H0 [pX9 cy o0 q0 σ0] H locs := hw
      refine lv_iadd S.1 S.2.1 dX9_waysAll_20 ?_
      refine lv_istore_n (lv' := [(1, .int ((y1 + u_3))), (0, .ref o0), (2, .int y2)]) S.1 S.2.1 dX9_waysAll_21 rfl hl (by decide) rfl (fun ls hl => ?_)
      refine lv_iinc (v := (y2 + 1)) (lv' := [(2, .int ((y2 + 1))), (1, .int ((y1 + u_3))), (0, .ref o0)]) S.1 S.2.1 dX9_waysAll_22 hl (k := 2) rfl rfl (by decide) rfl (fun ls hl => ?_)
      refine lv_goto (tgt := 4) S.1 S.2.1 dX9_waysAll_25 (by decide) ?_
      exact ih _ _ _ _ _ _ hw (lv_sub hl [2, 1, 0] rfl) hf K0
end
set_option maxHeartbeats 4000000 in
set_option maxRecDepth 100000 in
theorem c_X9_waysAll (l : Launch) (D : va_G) (cy : Nat → ClassId) (o0 : Nat) (q0 : Nat → Nat) (σ0 : pStt) (u : Int32) (hf : f_X9_waysAll σ0 = some u) : CT l yX9_waysAll cX9_waysAll 3 (some .int) rmX9_waysAll D cy [.ref o0] [pX9 cy o0 q0 σ0] (some (.int u)) [pX9 cy o0 q0 σ0] := by
  refine CT.of (by decide) (Nat.le_of_ble_eq_true rfl) (fun p e s m args below meth c ls A Q hA hQ S hr hlk hl hw => ?_)
  have hl : lv_has ls 3 [(0, .ref o0)] := hl
  rw [f_X9_waysAll] at hf
  refine lv_iconst (v := 0) S.1 S.2.1 dX9_waysAll_0 (by decide) ?_
  refine lv_istore_n (lv' := [(1, .int 0), (0, .ref o0)]) S.1 S.2.1 dX9_waysAll_1 rfl hl (by decide) rfl (fun ls hl => ?_)
  refine lv_iconst (v := 0) S.1 S.2.1 dX9_waysAll_2 (by decide) ?_
  refine lv_istore_n (lv' := [(2, .int 0), (1, .int 0), (0, .ref o0)]) S.1 S.2.1 dX9_waysAll_3 rfl hl (by decide) rfl (fun ls hl => ?_)
  obtain ⟨u_4, e_u_4, hf⟩ := ob hf
  refine lp_X9_waysAll_4 S 2000 _ _ _ _ _ _ hw (lv_sub hl [2, 1, 0] rfl) e_u_4 ?_
  · intro H locs ls hw hl
    refine lv_iload_n S.1 S.2.1 dX9_waysAll_28 rfl (lv_at hl 0 rfl) ?_
    refine lv_iconst (v := 2) S.1 S.2.1 dX9_waysAll_29 (by decide) ?_
    refine lv_idiv S.1 S.2.1 dX9_waysAll_30 (by decide) ?_
    cases hf
    exact w_iret S hr hlk hA hQ hw dX9_waysAll_31
section
variable {p : Program} {l : Launch} {e : Env} {R : Room} {s : State} {m : MethodId} {args : Array Value} {below : List Frame} {meth : Method} {c : Code} {H : Heap} {locs : List Loc} {cells slots : Nat} {Q : State → Prop} {cc : ByteArray} {pc nL : Nat} {ls : Array Slot} {rest : List Value} {D : va_G} {cy : Nat → ClassId} {A : Nat → Prop} {H0 : Heap} {own : String} {Ps : List va_W}
set_option maxRecDepth 100000 in
theorem k_X9_waysAll {o0 : Nat} {q0 : Nat → Nat}  {σ0 : pStt} {u : Int32} {index : Nat} (S : CX p m c cc nL s args own D cy) (hl : (Cond.methodLink own index yX9_waysAll).before args s = true) (hw : PW D A H0 Ps H locs) (hf : f_X9_waysAll σ0 = some u) (js : List Nat) (hC : js.map (fun j => Ps[j]?) = [some (pX9 cy o0 q0 σ0)]) (hnd : js.Nodup) (hlen : js.length = 1) (hR : RMok rmX9_waysAll R 3) (hsize : ls.size = nL) (hrest : (rest.map fun v => v.category).sum ≤ 8) (hdg : decode cc pc = .ok (.invokevirtual index, 3)) (hcs : cells ≤ R.cells ∧ slots ≤ R.slots)
    (kk : ∀ (H1 : Heap) (locs1 : List Loc), PW D A H0 (setAll Ps js [pX9 cy o0 q0 σ0]) H1 locs1 → W p l e R s m args below meth c H1 locs1 cells slots Q (F0 m (pc + 3) ls (.int u :: rest))) : W p l e R s m args below meth c H locs cells slots Q (F0 m pc ls (.ref o0 :: rest)) :=
  w_callV (n := 0) (ov := (some (.int u))) (As := []) (Cs := [pX9 cy o0 q0 σ0]) (Cs' := [pX9 cy o0 q0 σ0]) S hw (c_X9_waysAll l D cy o0 q0 σ0 u hf) (MF.of S.2.2.2.2 wd828 wd79 (by decide)) (S.2.2.2.2.wd wd827 rfl) (S.2.2.2.2.wd wd21 rfl) hl hR js hC hnd hlen rfl rfl rfl rfl hsize rfl hrest hdg hcs kk
end
abbrev rmX9_layWay : Room := { frames := 0, cells := 0, slots := 0, locals := 0 }
def f_X9_layWay (x1 : Int32) (x2 : Int32) (x3 : Int32) (σ0 : pStt) : Option (pStt) := (if x3 = 0 then (ld (σ0.2 0) 8 x1).bind (fun x_9 => some ((x_9 &&& (((1 : Int32) <<< (x2 &&& 31)) ^^^ (-1 : Int32))))) else (ld (σ0.2 0) 8 x1).bind (fun x_10 => some ((x_10 ||| ((1 : Int32) <<< (x2 &&& 31))))) : Option Int32).bind (fun v_1 => (stA σ0 0 8 x1 v_1).bind (fun σ_2 => (if x3 = 0 then (ld (σ_2.2 0) 8 x2).bind (fun x_6 => some ((x_6 &&& (((1 : Int32) <<< (x1 &&& 31)) ^^^ (-1 : Int32))))) else (ld (σ_2.2 0) 8 x2).bind (fun x_7 => some ((x_7 ||| ((1 : Int32) <<< (x1 &&& 31))))) : Option Int32).bind (fun v_3 => (stA σ_2 0 8 x2 v_3).bind (fun σ_4 => some σ_4))))
set_option maxHeartbeats 4000000 in
set_option maxRecDepth 100000 in
theorem c_X9_layWay (l : Launch) (D : va_G) (cy : Nat → ClassId) (o0 : Nat) (q0 : Nat → Nat) (x1 : Int32) (x2 : Int32) (x3 : Int32) (σ0 : pStt) (u : pStt) (hf : f_X9_layWay x1 x2 x3 σ0 = some u) : CT l yX9_layWay cX9_layWay 4 none rmX9_layWay D cy [.ref o0, .int x1, .int x2, .int x3] [pX9 cy o0 q0 σ0] none [pX9 cy o0 q0 u] := by
  refine CT.of (by decide) (Nat.le_of_ble_eq_true rfl) (fun p e s m args below meth c ls A Q hA hQ S hr hlk hl hw => ?_)
  have hl : lv_has ls 4 [(0, .ref o0), (1, .int x1), (2, .int x2), (3, .int x3)] := hl
  rw [f_X9_layWay] at hf
  refine lv_aload_n S.1 S.2.1 dX9_layWay_0 rfl (lv_at hl 0 rfl) ?_
  refine gf_X9_7 S hw 0 rfl dX9_layWay_1 ?_
  refine lv_iload_n S.1 S.2.1 dX9_layWay_4 rfl (lv_at hl 1 rfl) ?_
  refine lv_iload_n S.1 S.2.1 dX9_layWay_5 rfl (lv_at hl 3 rfl) ?_
  obtain ⟨v_1, e_v_1, hf⟩ := ob hf
  have hJ_v_1 : ∀ (H : Heap) (locs : List Loc), PW D A s.heap [pX9 cy o0 q0 σ0] H locs → W p l e rmX9_layWay s m args below meth c H locs 0 0 Q (F0 m 34 ls [.int v_1, .int x1, .ref ((q0 0))]) := by
    intro H locs hw
    obtain ⟨σ_2, e_σ_2, hf⟩ := ob hf
    refine as_X9_0 S hw 0 rfl e_σ_2 dX9_layWay_34 (fun H locs hw => ?_)
    have hw : PW D A s.heap [pX9 cy o0 q0 σ_2] H locs := hw
    refine lv_aload_n S.1 S.2.1 dX9_layWay_35 rfl (lv_at hl 0 rfl) ?_
    refine gf_X9_7 S hw 0 rfl dX9_layWay_36 ?_
    refine lv_iload_n S.1 S.2.1 dX9_layWay_39 rfl (lv_at hl 2 rfl) ?_
    refine lv_iload_n S.1 S.2.1 dX9_layWay_40 rfl (lv_at hl 3 rfl) ?_
    obtain ⟨v_3, e_v_3, hf⟩ := ob hf
    have hJ_v_3 : ∀ (H : Heap) (locs : List Loc), PW D A s.heap [pX9 cy o0 q0 σ_2] H locs → W p l e rmX9_layWay s m args below meth c H locs 0 0 Q (F0 m 69 ls [.int v_3, .int x2, .ref ((q0 0))]) := by
      intro H locs hw
      obtain ⟨σ_4, e_σ_4, hf⟩ := ob hf
      refine as_X9_0 S hw 0 rfl e_σ_4 dX9_layWay_69 (fun H locs hw => ?_)
      have hw : PW D A s.heap [pX9 cy o0 q0 σ_4] H locs := hw
      cases hf
      exact w_vret S hr hlk hA hQ hw dX9_layWay_70
    replace hf := e_v_3
    clear e_v_3
    refine lv_if_eq (tgt := 57) S.1 S.2.1 dX9_layWay_41 (by decide) (fun c_5 => ?_) (fun c_5 => ?_)
    · replace hf := (if_pos c_5).symm.trans hf
      refine lv_aload_n S.1 S.2.1 dX9_layWay_57 rfl (lv_at hl 0 rfl) ?_
      refine gf_X9_7 S hw 0 rfl dX9_layWay_58 ?_
      refine lv_iload_n S.1 S.2.1 dX9_layWay_61 rfl (lv_at hl 2 rfl) ?_
      obtain ⟨x_6, e_x_6, hf⟩ := ob hf
      refine al_X9_0 S hw 0 rfl e_x_6 dX9_layWay_62 ?_
      refine lv_iconst (v := 1) S.1 S.2.1 dX9_layWay_63 (by decide) ?_
      refine lv_iload_n S.1 S.2.1 dX9_layWay_64 rfl (lv_at hl 1 rfl) ?_
      refine lv_ishl S.1 S.2.1 dX9_layWay_65 ?_
      refine lv_iconst (v := (-1)) S.1 S.2.1 dX9_layWay_66 (by decide) ?_
      refine lv_ixor S.1 S.2.1 dX9_layWay_67 ?_
      refine lv_iand S.1 S.2.1 dX9_layWay_68 ?_
      cases hf
      exact hJ_v_3 _ _ hw
    · replace hf := (if_neg c_5).symm.trans hf
      refine lv_aload_n S.1 S.2.1 dX9_layWay_44 rfl (lv_at hl 0 rfl) ?_
      refine gf_X9_7 S hw 0 rfl dX9_layWay_45 ?_
      refine lv_iload_n S.1 S.2.1 dX9_layWay_48 rfl (lv_at hl 2 rfl) ?_
      obtain ⟨x_7, e_x_7, hf⟩ := ob hf
      refine al_X9_0 S hw 0 rfl e_x_7 dX9_layWay_49 ?_
      refine lv_iconst (v := 1) S.1 S.2.1 dX9_layWay_50 (by decide) ?_
      refine lv_iload_n S.1 S.2.1 dX9_layWay_51 rfl (lv_at hl 1 rfl) ?_
      refine lv_ishl S.1 S.2.1 dX9_layWay_52 ?_
      refine lv_ior S.1 S.2.1 dX9_layWay_53 ?_
      refine lv_goto (tgt := 69) S.1 S.2.1 dX9_layWay_54 (by decide) ?_
      cases hf
      exact hJ_v_3 _ _ hw
  replace hf := e_v_1
  clear e_v_1
  refine lv_if_eq (tgt := 22) S.1 S.2.1 dX9_layWay_6 (by decide) (fun c_8 => ?_) (fun c_8 => ?_)
  · replace hf := (if_pos c_8).symm.trans hf
    refine lv_aload_n S.1 S.2.1 dX9_layWay_22 rfl (lv_at hl 0 rfl) ?_
    refine gf_X9_7 S hw 0 rfl dX9_layWay_23 ?_
    refine lv_iload_n S.1 S.2.1 dX9_layWay_26 rfl (lv_at hl 1 rfl) ?_
    obtain ⟨x_9, e_x_9, hf⟩ := ob hf
    refine al_X9_0 S hw 0 rfl e_x_9 dX9_layWay_27 ?_
    refine lv_iconst (v := 1) S.1 S.2.1 dX9_layWay_28 (by decide) ?_
    refine lv_iload_n S.1 S.2.1 dX9_layWay_29 rfl (lv_at hl 2 rfl) ?_
    refine lv_ishl S.1 S.2.1 dX9_layWay_30 ?_
    refine lv_iconst (v := (-1)) S.1 S.2.1 dX9_layWay_31 (by decide) ?_
    refine lv_ixor S.1 S.2.1 dX9_layWay_32 ?_
    refine lv_iand S.1 S.2.1 dX9_layWay_33 ?_
    cases hf
    exact hJ_v_1 _ _ hw
  · replace hf := (if_neg c_8).symm.trans hf
    refine lv_aload_n S.1 S.2.1 dX9_layWay_9 rfl (lv_at hl 0 rfl) ?_
    refine gf_X9_7 S hw 0 rfl dX9_layWay_10 ?_
    refine lv_iload_n S.1 S.2.1 dX9_layWay_13 rfl (lv_at hl 1 rfl) ?_
    obtain ⟨x_10, e_x_10, hf⟩ := ob hf
    refine al_X9_0 S hw 0 rfl e_x_10 dX9_layWay_14 ?_
    refine lv_iconst (v := 1) S.1 S.2.1 dX9_layWay_15 (by decide) ?_
    refine lv_iload_n S.1 S.2.1 dX9_layWay_16 rfl (lv_at hl 2 rfl) ?_
    refine lv_ishl S.1 S.2.1 dX9_layWay_17 ?_
    refine lv_ior S.1 S.2.1 dX9_layWay_18 ?_
    refine lv_goto (tgt := 34) S.1 S.2.1 dX9_layWay_19 (by decide) ?_
    cases hf
    exact hJ_v_1 _ _ hw
section
variable {p : Program} {l : Launch} {e : Env} {R : Room} {s : State} {m : MethodId} {args : Array Value} {below : List Frame} {meth : Method} {c : Code} {H : Heap} {locs : List Loc} {cells slots : Nat} {Q : State → Prop} {cc : ByteArray} {pc nL : Nat} {ls : Array Slot} {rest : List Value} {D : va_G} {cy : Nat → ClassId} {A : Nat → Prop} {H0 : Heap} {own : String} {Ps : List va_W}
set_option maxRecDepth 100000 in
theorem k_X9_layWay {o0 : Nat} {q0 : Nat → Nat} {x1 : Int32} {x2 : Int32} {x3 : Int32} {σ0 : pStt} {u : pStt} {index : Nat} (S : CX p m c cc nL s args own D cy) (hl : (Cond.methodLink own index yX9_layWay).before args s = true) (hw : PW D A H0 Ps H locs) (hf : f_X9_layWay x1 x2 x3 σ0 = some u) (js : List Nat) (hC : js.map (fun j => Ps[j]?) = [some (pX9 cy o0 q0 σ0)]) (hnd : js.Nodup) (hlen : js.length = 1) (hR : RMok rmX9_layWay R 4) (hsize : ls.size = nL) (hrest : (rest.map fun v => v.category).sum ≤ 8) (hdg : decode cc pc = .ok (.invokevirtual index, 3)) (hcs : cells ≤ R.cells ∧ slots ≤ R.slots)
    (kk : ∀ (H1 : Heap) (locs1 : List Loc), PW D A H0 (setAll Ps js [pX9 cy o0 q0 u]) H1 locs1 → W p l e R s m args below meth c H1 locs1 cells slots Q (F0 m (pc + 3) ls (rest))) : W p l e R s m args below meth c H locs cells slots Q (F0 m pc ls (.int x3 :: .int x2 :: .int x1 :: .ref o0 :: rest)) :=
  w_callV (n := 3) (ov := none) (As := [.int x1, .int x2, .int x3]) (Cs := [pX9 cy o0 q0 σ0]) (Cs' := [pX9 cy o0 q0 u]) S hw (c_X9_layWay l D cy o0 q0 x1 x2 x3 σ0 u hf) (MF.of S.2.2.2.2 wd824 wd79 (by decide)) (S.2.2.2.2.wd wd823 rfl) (S.2.2.2.2.wd wd20 rfl) hl hR js hC hnd hlen rfl rfl rfl rfl hsize rfl hrest hdg hcs kk
end
abbrev rmX9_way : Room := { frames := 2, cells := 0, slots := 0, locals := 45 }
def f_X9_way (x1 : Int32) (x2 : Int32) (x3 : Int32) (σ0 : pStt) : Option (Int32 × pStt) := (f_X9_isCorner x1).bind (fun u_1 => if u_1 = 0 then some ((-1), σ0) else (f_X9_isCorner x2).bind (fun u_3 => if u_3 = 0 then some ((-1), σ0) else if x1 = x2 then some ((-2), σ0) else (f_X9_layWay x1 x2 x3 σ0).bind (fun u_6 => (f_X9_waysAll u_6).bind (fun u_7 => some (u_7, u_6)))))
set_option maxHeartbeats 4000000 in
set_option maxRecDepth 100000 in
theorem c_X9_way (l : Launch) (D : va_G) (cy : Nat → ClassId) (o0 : Nat) (q0 : Nat → Nat) (x1 : Int32) (x2 : Int32) (x3 : Int32) (σ0 : pStt) (u : Int32 × pStt) (hf : f_X9_way x1 x2 x3 σ0 = some u) : CT l yX9_way cX9_way 4 (some .int) rmX9_way D cy [.ref o0, .int x1, .int x2, .int x3] [pX9 cy o0 q0 σ0] (some (.int u.1)) [pX9 cy o0 q0 u.2] := by
  refine CT.of (by decide) (Nat.le_of_ble_eq_true rfl) (fun p e s m args below meth c ls A Q hA hQ S hr hlk hl hw => ?_)
  have hl : lv_has ls 4 [(0, .ref o0), (1, .int x1), (2, .int x2), (3, .int x3)] := hl
  rw [f_X9_way] at hf
  refine lv_iload_n S.1 S.2.1 dX9_way_0 rfl (lv_at hl 1 rfl) ?_
  obtain ⟨u_1, e_u_1, hf⟩ := ob hf
  refine k_X9_isCorner S (S.2.2.2.2.wd wd814 rfl) hw e_u_1 [] rfl (by decide) rfl ⟨rfl, rfl, Nat.le_of_ble_eq_true rfl, Nat.le_of_ble_eq_true rfl⟩ hl.1 (Nat.le_of_ble_eq_true rfl) dX9_way_1 ⟨Nat.zero_le _, Nat.zero_le _⟩ (fun H locs hw => ?_)
  have hw : PW D A s.heap [pX9 cy o0 q0 σ0] H locs := hw
  refine lv_if_eq (tgt := 14) S.1 S.2.1 dX9_way_4 (by decide) (fun c_2 => ?_) (fun c_2 => ?_)
  · replace hf := (if_pos c_2).symm.trans hf
    refine lv_iconst (v := (-1)) S.1 S.2.1 dX9_way_14 (by decide) ?_
    cases hf
    exact w_iret S hr hlk hA hQ hw dX9_way_15
  · replace hf := (if_neg c_2).symm.trans hf
    refine lv_iload_n S.1 S.2.1 dX9_way_7 rfl (lv_at hl 2 rfl) ?_
    obtain ⟨u_3, e_u_3, hf⟩ := ob hf
    refine k_X9_isCorner S (S.2.2.2.2.wd wd814 rfl) hw e_u_3 [] rfl (by decide) rfl ⟨rfl, rfl, Nat.le_of_ble_eq_true rfl, Nat.le_of_ble_eq_true rfl⟩ hl.1 (Nat.le_of_ble_eq_true rfl) dX9_way_8 ⟨Nat.zero_le _, Nat.zero_le _⟩ (fun H locs hw => ?_)
    have hw : PW D A s.heap [pX9 cy o0 q0 σ0] H locs := hw
    refine lv_if_ne (tgt := 16) S.1 S.2.1 dX9_way_11 (by decide) (fun c_4 => ?_) (fun c_4 => ?_)
    · replace hf := (if_neg c_4).symm.trans hf
      refine lv_iload_n S.1 S.2.1 dX9_way_16 rfl (lv_at hl 1 rfl) ?_
      refine lv_iload_n S.1 S.2.1 dX9_way_17 rfl (lv_at hl 2 rfl) ?_
      refine lv_icmp_ne (tgt := 24) S.1 S.2.1 dX9_way_18 (by decide) (fun c_5 => ?_) (fun c_5 => ?_)
      · replace hf := (if_neg c_5).symm.trans hf
        refine lv_aload_n S.1 S.2.1 dX9_way_24 rfl (lv_at hl 0 rfl) ?_
        refine lv_iload_n S.1 S.2.1 dX9_way_25 rfl (lv_at hl 1 rfl) ?_
        refine lv_iload_n S.1 S.2.1 dX9_way_26 rfl (lv_at hl 2 rfl) ?_
        refine lv_iload_n S.1 S.2.1 dX9_way_27 rfl (lv_at hl 3 rfl) ?_
        obtain ⟨u_6, e_u_6, hf⟩ := ob hf
        refine k_X9_layWay S (S.2.2.2.2.wd wd821 rfl) hw e_u_6 [0] rfl (by decide) rfl ⟨rfl, rfl, Nat.le_of_ble_eq_true rfl, Nat.le_of_ble_eq_true rfl⟩ hl.1 (Nat.le_of_ble_eq_true rfl) dX9_way_28 ⟨Nat.zero_le _, Nat.zero_le _⟩ (fun H locs hw => ?_)
        have hw : PW D A s.heap [pX9 cy o0 q0 u_6] H locs := hw
        refine lv_aload_n S.1 S.2.1 dX9_way_31 rfl (lv_at hl 0 rfl) ?_
        obtain ⟨u_7, e_u_7, hf⟩ := ob hf
        refine k_X9_waysAll S (S.2.2.2.2.wd wd825 rfl) hw e_u_7 [0] rfl (by decide) rfl ⟨rfl, rfl, Nat.le_of_ble_eq_true rfl, Nat.le_of_ble_eq_true rfl⟩ hl.1 (Nat.le_of_ble_eq_true rfl) dX9_way_32 ⟨Nat.zero_le _, Nat.zero_le _⟩ (fun H locs hw => ?_)
        have hw : PW D A s.heap [pX9 cy o0 q0 u_6] H locs := hw
        cases hf
        exact w_iret S hr hlk hA hQ hw dX9_way_35
      · replace hf := (if_pos c_5).symm.trans hf
        refine lv_bipush (v := (-2)) S.1 S.2.1 dX9_way_21 (by decide) ?_
        cases hf
        exact w_iret S hr hlk hA hQ hw dX9_way_23
    · replace hf := (if_pos c_4).symm.trans hf
      refine lv_iconst (v := (-1)) S.1 S.2.1 dX9_way_14 (by decide) ?_
      cases hf
      exact w_iret S hr hlk hA hQ hw dX9_way_15
section
variable {p : Program} {l : Launch} {e : Env} {R : Room} {s : State} {m : MethodId} {args : Array Value} {below : List Frame} {meth : Method} {c : Code} {H : Heap} {locs : List Loc} {cells slots : Nat} {Q : State → Prop} {cc : ByteArray} {pc nL : Nat} {ls : Array Slot} {rest : List Value} {D : va_G} {cy : Nat → ClassId} {A : Nat → Prop} {H0 : Heap} {own : String} {Ps : List va_W}
set_option maxRecDepth 100000 in
theorem k_X9_way {o0 : Nat} {q0 : Nat → Nat} {x1 : Int32} {x2 : Int32} {x3 : Int32} {σ0 : pStt} {u : Int32 × pStt} {index : Nat} (S : CX p m c cc nL s args own D cy) (hl : (Cond.methodLink own index yX9_way).before args s = true) (hw : PW D A H0 Ps H locs) (hf : f_X9_way x1 x2 x3 σ0 = some u) (js : List Nat) (hC : js.map (fun j => Ps[j]?) = [some (pX9 cy o0 q0 σ0)]) (hnd : js.Nodup) (hlen : js.length = 1) (hR : RMok rmX9_way R 4) (hsize : ls.size = nL) (hrest : (rest.map fun v => v.category).sum ≤ 8) (hdg : decode cc pc = .ok (.invokevirtual index, 3)) (hcs : cells ≤ R.cells ∧ slots ≤ R.slots)
    (kk : ∀ (H1 : Heap) (locs1 : List Loc), PW D A H0 (setAll Ps js [pX9 cy o0 q0 u.2]) H1 locs1 → W p l e R s m args below meth c H1 locs1 cells slots Q (F0 m (pc + 3) ls (.int u.1 :: rest))) : W p l e R s m args below meth c H locs cells slots Q (F0 m pc ls (.int x3 :: .int x2 :: .int x1 :: .ref o0 :: rest)) :=
  w_callV (n := 3) (ov := (some (.int u.1))) (As := [.int x1, .int x2, .int x3]) (Cs := [pX9 cy o0 q0 σ0]) (Cs' := [pX9 cy o0 q0 u.2]) S hw (c_X9_way l D cy o0 q0 x1 x2 x3 σ0 u hf) (MF.of S.2.2.2.2 wd813 wd79 (by decide)) (S.2.2.2.2.wd wd811 rfl) (S.2.2.2.2.wd wd812 rfl) hl hR js hC hnd hlen rfl rfl rfl rfl hsize rfl hrest hdg hcs kk
end
abbrev rmX9_cornerOf : Room := { frames := 1, cells := 0, slots := 0, locals := 25 }
def f_X9_cornerOf (x1 : Int32) (σ0 : pStt) : Option (Int32) := (ld (σ0.2 1) 8 x1).bind (fun x_1 => (f_X9_in ((x_1 : Int32).toInt64) 0 7).bind (fun u_2 => (if u_2 = 0 then some ((-6)) else (ld (σ0.2 1) 8 x1).bind (fun x_5 => some x_5) : Option Int32).bind (fun v_3 => some v_3)))
set_option maxHeartbeats 4000000 in
set_option maxRecDepth 100000 in
theorem c_X9_cornerOf (l : Launch) (D : va_G) (cy : Nat → ClassId) (o0 : Nat) (q0 : Nat → Nat) (x1 : Int32) (σ0 : pStt) (u : Int32) (hf : f_X9_cornerOf x1 σ0 = some u) : CT l yX9_cornerOf cX9_cornerOf 2 (some .int) rmX9_cornerOf D cy [.ref o0, .int x1] [pX9 cy o0 q0 σ0] (some (.int u)) [pX9 cy o0 q0 σ0] := by
  refine CT.of (by decide) (Nat.le_of_ble_eq_true rfl) (fun p e s m args below meth c ls A Q hA hQ S hr hlk hl hw => ?_)
  have hl : lv_has ls 2 [(0, .ref o0), (1, .int x1)] := hl
  rw [f_X9_cornerOf] at hf
  refine lv_aload_n S.1 S.2.1 dX9_cornerOf_0 rfl (lv_at hl 0 rfl) ?_
  refine gf_X9_13 S hw 0 rfl dX9_cornerOf_1 ?_
  refine lv_iload_n S.1 S.2.1 dX9_cornerOf_4 rfl (lv_at hl 1 rfl) ?_
  obtain ⟨x_1, e_x_1, hf⟩ := ob hf
  refine al_X9_1 S hw 0 rfl e_x_1 dX9_cornerOf_5 ?_
  refine lv_i2l (v := (x_1 : Int32).toInt64) S.1 S.2.1 dX9_cornerOf_6 rfl ?_
  refine lv_lconst (v := 0) S.1 S.2.1 dX9_cornerOf_7 (by decide) ?_
  refine lv_ldc2 (v := 7) S.1 S.2.1 S.2.2.2.1 (S.2.2.2.2.wd wd817 rfl) dX9_cornerOf_8 ?_
  obtain ⟨u_2, e_u_2, hf⟩ := ob hf
  refine k_X9_in S (S.2.2.2.2.wd wd818 rfl) hw e_u_2 [] rfl (by decide) rfl ⟨rfl, rfl, Nat.le_of_ble_eq_true rfl, Nat.le_of_ble_eq_true rfl⟩ hl.1 (Nat.le_of_ble_eq_true rfl) dX9_cornerOf_11 ⟨Nat.zero_le _, Nat.zero_le _⟩ (fun H locs hw => ?_)
  have hw : PW D A s.heap [pX9 cy o0 q0 σ0] H locs := hw
  obtain ⟨v_3, e_v_3, hf⟩ := ob hf
  have hJ_v_3 : ∀ (H : Heap) (locs : List Loc), PW D A s.heap [pX9 cy o0 q0 σ0] H locs → W p l e rmX9_cornerOf s m args below meth c H locs 0 0 Q (F0 m 28 ls [.int v_3]) := by
    intro H locs hw
    cases hf
    exact w_iret S hr hlk hA hQ hw dX9_cornerOf_28
  replace hf := e_v_3
  clear e_v_3
  refine lv_if_eq (tgt := 26) S.1 S.2.1 dX9_cornerOf_14 (by decide) (fun c_4 => ?_) (fun c_4 => ?_)
  · replace hf := (if_pos c_4).symm.trans hf
    refine lv_bipush (v := (-6)) S.1 S.2.1 dX9_cornerOf_26 (by decide) ?_
    cases hf
    exact hJ_v_3 _ _ hw
  · replace hf := (if_neg c_4).symm.trans hf
    refine lv_aload_n S.1 S.2.1 dX9_cornerOf_17 rfl (lv_at hl 0 rfl) ?_
    refine gf_X9_13 S hw 0 rfl dX9_cornerOf_18 ?_
    refine lv_iload_n S.1 S.2.1 dX9_cornerOf_21 rfl (lv_at hl 1 rfl) ?_
    obtain ⟨x_5, e_x_5, hf⟩ := ob hf
    refine al_X9_1 S hw 0 rfl e_x_5 dX9_cornerOf_22 ?_
    refine lv_goto (tgt := 28) S.1 S.2.1 dX9_cornerOf_23 (by decide) ?_
    cases hf
    exact hJ_v_3 _ _ hw
section
variable {p : Program} {l : Launch} {e : Env} {R : Room} {s : State} {m : MethodId} {args : Array Value} {below : List Frame} {meth : Method} {c : Code} {H : Heap} {locs : List Loc} {cells slots : Nat} {Q : State → Prop} {cc : ByteArray} {pc nL : Nat} {ls : Array Slot} {rest : List Value} {D : va_G} {cy : Nat → ClassId} {A : Nat → Prop} {H0 : Heap} {own : String} {Ps : List va_W}
set_option maxRecDepth 100000 in
theorem k_X9_cornerOf {o0 : Nat} {q0 : Nat → Nat} {x1 : Int32} {σ0 : pStt} {u : Int32} {index : Nat} (S : CX p m c cc nL s args own D cy) (hl : (Cond.methodLink own index yX9_cornerOf).before args s = true) (hw : PW D A H0 Ps H locs) (hf : f_X9_cornerOf x1 σ0 = some u) (js : List Nat) (hC : js.map (fun j => Ps[j]?) = [some (pX9 cy o0 q0 σ0)]) (hnd : js.Nodup) (hlen : js.length = 1) (hR : RMok rmX9_cornerOf R 2) (hsize : ls.size = nL) (hrest : (rest.map fun v => v.category).sum ≤ 8) (hdg : decode cc pc = .ok (.invokevirtual index, 3)) (hcs : cells ≤ R.cells ∧ slots ≤ R.slots)
    (kk : ∀ (H1 : Heap) (locs1 : List Loc), PW D A H0 (setAll Ps js [pX9 cy o0 q0 σ0]) H1 locs1 → W p l e R s m args below meth c H1 locs1 cells slots Q (F0 m (pc + 3) ls (.int u :: rest))) : W p l e R s m args below meth c H locs cells slots Q (F0 m pc ls (.int x1 :: .ref o0 :: rest)) :=
  w_callV (n := 1) (ov := (some (.int u))) (As := [.int x1]) (Cs := [pX9 cy o0 q0 σ0]) (Cs' := [pX9 cy o0 q0 σ0]) S hw (c_X9_cornerOf l D cy o0 q0 x1 σ0 u hf) (MF.of S.2.2.2.2 wd843 wd79 (by decide)) (S.2.2.2.2.wd wd842 rfl) (S.2.2.2.2.wd wd22 rfl) hl hR js hC hnd hlen rfl rfl rfl rfl hsize rfl hrest hdg hcs kk
end
abbrev rmX9_carrierOf : Room := { frames := 0, cells := 0, slots := 0, locals := 0 }
def f_X9_carrierOf (x1 : Int32) (σ0 : pStt) : Option (Int32) := (ld (σ0.2 1) 8 x1).bind (fun x_1 => (if x_1 < 10 then some ((-6)) else (ld (σ0.2 1) 8 x1).bind (fun x_4 => some ((x_4 - (10 : Int32)))) : Option Int32).bind (fun v_2 => some v_2))
set_option maxHeartbeats 4000000 in
set_option maxRecDepth 100000 in
theorem c_X9_carrierOf (l : Launch) (D : va_G) (cy : Nat → ClassId) (o0 : Nat) (q0 : Nat → Nat) (x1 : Int32) (σ0 : pStt) (u : Int32) (hf : f_X9_carrierOf x1 σ0 = some u) : CT l yX9_carrierOf cX9_carrierOf 2 (some .int) rmX9_carrierOf D cy [.ref o0, .int x1] [pX9 cy o0 q0 σ0] (some (.int u)) [pX9 cy o0 q0 σ0] := by
  refine CT.of (by decide) (Nat.le_of_ble_eq_true rfl) (fun p e s m args below meth c ls A Q hA hQ S hr hlk hl hw => ?_)
  have hl : lv_has ls 2 [(0, .ref o0), (1, .int x1)] := hl
  rw [f_X9_carrierOf] at hf
  refine lv_aload_n S.1 S.2.1 dX9_carrierOf_0 rfl (lv_at hl 0 rfl) ?_
  refine gf_X9_13 S hw 0 rfl dX9_carrierOf_1 ?_
  refine lv_iload_n S.1 S.2.1 dX9_carrierOf_4 rfl (lv_at hl 1 rfl) ?_
  obtain ⟨x_1, e_x_1, hf⟩ := ob hf
  refine al_X9_1 S hw 0 rfl e_x_1 dX9_carrierOf_5 ?_
  refine lv_bipush (v := 10) S.1 S.2.1 dX9_carrierOf_6 (by decide) ?_
  obtain ⟨v_2, e_v_2, hf⟩ := ob hf
  have hJ_v_2 : ∀ (H : Heap) (locs : List Loc), PW D A s.heap [pX9 cy o0 q0 σ0] H locs → W p l e rmX9_carrierOf s m args below meth c H locs 0 0 Q (F0 m 25 ls [.int v_2]) := by
    intro H locs hw
    cases hf
    exact w_iret S hr hlk hA hQ hw dX9_carrierOf_25
  replace hf := e_v_2
  clear e_v_2
  refine lv_icmp_lt (tgt := 23) S.1 S.2.1 dX9_carrierOf_8 (by decide) (fun c_3 => ?_) (fun c_3 => ?_)
  · replace hf := (if_pos c_3).symm.trans hf
    refine lv_bipush (v := (-6)) S.1 S.2.1 dX9_carrierOf_23 (by decide) ?_
    cases hf
    exact hJ_v_2 _ _ hw
  · replace hf := (if_neg c_3).symm.trans hf
    refine lv_aload_n S.1 S.2.1 dX9_carrierOf_11 rfl (lv_at hl 0 rfl) ?_
    refine gf_X9_13 S hw 0 rfl dX9_carrierOf_12 ?_
    refine lv_iload_n S.1 S.2.1 dX9_carrierOf_15 rfl (lv_at hl 1 rfl) ?_
    obtain ⟨x_4, e_x_4, hf⟩ := ob hf
    refine al_X9_1 S hw 0 rfl e_x_4 dX9_carrierOf_16 ?_
    refine lv_bipush (v := 10) S.1 S.2.1 dX9_carrierOf_17 (by decide) ?_
    refine lv_isub S.1 S.2.1 dX9_carrierOf_19 ?_
    refine lv_goto (tgt := 25) S.1 S.2.1 dX9_carrierOf_20 (by decide) ?_
    cases hf
    exact hJ_v_2 _ _ hw
section
variable {p : Program} {l : Launch} {e : Env} {R : Room} {s : State} {m : MethodId} {args : Array Value} {below : List Frame} {meth : Method} {c : Code} {H : Heap} {locs : List Loc} {cells slots : Nat} {Q : State → Prop} {cc : ByteArray} {pc nL : Nat} {ls : Array Slot} {rest : List Value} {D : va_G} {cy : Nat → ClassId} {A : Nat → Prop} {H0 : Heap} {own : String} {Ps : List va_W}
set_option maxRecDepth 100000 in
theorem k_X9_carrierOf {o0 : Nat} {q0 : Nat → Nat} {x1 : Int32} {σ0 : pStt} {u : Int32} {index : Nat} (S : CX p m c cc nL s args own D cy) (hl : (Cond.methodLink own index yX9_carrierOf).before args s = true) (hw : PW D A H0 Ps H locs) (hf : f_X9_carrierOf x1 σ0 = some u) (js : List Nat) (hC : js.map (fun j => Ps[j]?) = [some (pX9 cy o0 q0 σ0)]) (hnd : js.Nodup) (hlen : js.length = 1) (hR : RMok rmX9_carrierOf R 2) (hsize : ls.size = nL) (hrest : (rest.map fun v => v.category).sum ≤ 8) (hdg : decode cc pc = .ok (.invokevirtual index, 3)) (hcs : cells ≤ R.cells ∧ slots ≤ R.slots)
    (kk : ∀ (H1 : Heap) (locs1 : List Loc), PW D A H0 (setAll Ps js [pX9 cy o0 q0 σ0]) H1 locs1 → W p l e R s m args below meth c H1 locs1 cells slots Q (F0 m (pc + 3) ls (.int u :: rest))) : W p l e R s m args below meth c H locs cells slots Q (F0 m pc ls (.int x1 :: .ref o0 :: rest)) :=
  w_callV (n := 1) (ov := (some (.int u))) (As := [.int x1]) (Cs := [pX9 cy o0 q0 σ0]) (Cs' := [pX9 cy o0 q0 σ0]) S hw (c_X9_carrierOf l D cy o0 q0 x1 σ0 u hf) (MF.of S.2.2.2.2 wd860 wd79 (by decide)) (S.2.2.2.2.wd wd859 rfl) (S.2.2.2.2.wd wd24 rfl) hl hR js hC hnd hlen rfl rfl rfl rfl hsize rfl hrest hdg hcs kk
end
abbrev rmX9_thing : Room := { frames := 2, cells := 0, slots := 0, locals := 46 }
def f_X9_thing (x1 : Int32) (x2 : Int32) (σ0 : pStt) : Option (Int32 × pStt) := (f_X9_isThing x1).bind (fun u_1 => if u_1 = 0 then some ((-1), σ0) else (f_X9_in ((x2 : Int32).toInt64) ((-1)) 7).bind (fun u_3 => if u_3 = 0 then some ((-1), σ0) else (f_X9_cornerOf x1 σ0).bind (fun u_5 => (if 0 ≤ x2 then some x2 else some ((-6)) : Option Int32).bind (fun v_6 => (stA σ0 1 8 x1 v_6).bind (fun σ_7 => some (u_5, σ_7))))))
set_option maxHeartbeats 4000000 in
set_option maxRecDepth 100000 in
theorem c_X9_thing (l : Launch) (D : va_G) (cy : Nat → ClassId) (o0 : Nat) (q0 : Nat → Nat) (x1 : Int32) (x2 : Int32) (σ0 : pStt) (u : Int32 × pStt) (hf : f_X9_thing x1 x2 σ0 = some u) : CT l yX9_thing cX9_thing 4 (some .int) rmX9_thing D cy [.ref o0, .int x1, .int x2] [pX9 cy o0 q0 σ0] (some (.int u.1)) [pX9 cy o0 q0 u.2] := by
  refine CT.of (by decide) (Nat.le_of_ble_eq_true rfl) (fun p e s m args below meth c ls A Q hA hQ S hr hlk hl hw => ?_)
  have hl : lv_has ls 4 [(0, .ref o0), (1, .int x1), (2, .int x2)] := hl
  rw [f_X9_thing] at hf
  refine lv_iload_n S.1 S.2.1 dX9_thing_0 rfl (lv_at hl 1 rfl) ?_
  obtain ⟨u_1, e_u_1, hf⟩ := ob hf
  refine k_X9_isThing S (S.2.2.2.2.wd wd836 rfl) hw e_u_1 [] rfl (by decide) rfl ⟨rfl, rfl, Nat.le_of_ble_eq_true rfl, Nat.le_of_ble_eq_true rfl⟩ hl.1 (Nat.le_of_ble_eq_true rfl) dX9_thing_1 ⟨Nat.zero_le _, Nat.zero_le _⟩ (fun H locs hw => ?_)
  have hw : PW D A s.heap [pX9 cy o0 q0 σ0] H locs := hw
  refine lv_if_eq (tgt := 21) S.1 S.2.1 dX9_thing_4 (by decide) (fun c_2 => ?_) (fun c_2 => ?_)
  · replace hf := (if_pos c_2).symm.trans hf
    refine lv_iconst (v := (-1)) S.1 S.2.1 dX9_thing_21 (by decide) ?_
    cases hf
    exact w_iret S hr hlk hA hQ hw dX9_thing_22
  · replace hf := (if_neg c_2).symm.trans hf
    refine lv_iload_n S.1 S.2.1 dX9_thing_7 rfl (lv_at hl 2 rfl) ?_
    refine lv_i2l (v := (x2 : Int32).toInt64) S.1 S.2.1 dX9_thing_8 rfl ?_
    refine lv_ldc2 (v := (-1)) S.1 S.2.1 S.2.2.2.1 (S.2.2.2.2.wd wd839 rfl) dX9_thing_9 ?_
    refine lv_ldc2 (v := 7) S.1 S.2.1 S.2.2.2.1 (S.2.2.2.2.wd wd817 rfl) dX9_thing_12 ?_
    obtain ⟨u_3, e_u_3, hf⟩ := ob hf
    refine k_X9_in S (S.2.2.2.2.wd wd818 rfl) hw e_u_3 [] rfl (by decide) rfl ⟨rfl, rfl, Nat.le_of_ble_eq_true rfl, Nat.le_of_ble_eq_true rfl⟩ hl.1 (Nat.le_of_ble_eq_true rfl) dX9_thing_15 ⟨Nat.zero_le _, Nat.zero_le _⟩ (fun H locs hw => ?_)
    have hw : PW D A s.heap [pX9 cy o0 q0 σ0] H locs := hw
    refine lv_if_ne (tgt := 23) S.1 S.2.1 dX9_thing_18 (by decide) (fun c_4 => ?_) (fun c_4 => ?_)
    · replace hf := (if_neg c_4).symm.trans hf
      refine lv_aload_n S.1 S.2.1 dX9_thing_23 rfl (lv_at hl 0 rfl) ?_
      refine lv_iload_n S.1 S.2.1 dX9_thing_24 rfl (lv_at hl 1 rfl) ?_
      obtain ⟨u_5, e_u_5, hf⟩ := ob hf
      refine k_X9_cornerOf S (S.2.2.2.2.wd wd840 rfl) hw e_u_5 [0] rfl (by decide) rfl ⟨rfl, rfl, Nat.le_of_ble_eq_true rfl, Nat.le_of_ble_eq_true rfl⟩ hl.1 (Nat.le_of_ble_eq_true rfl) dX9_thing_25 ⟨Nat.zero_le _, Nat.zero_le _⟩ (fun H locs hw => ?_)
      have hw : PW D A s.heap [pX9 cy o0 q0 σ0] H locs := hw
      refine lv_istore_n (lv' := [(3, .int u_5), (0, .ref o0), (1, .int x1), (2, .int x2)]) S.1 S.2.1 dX9_thing_28 rfl hl (by decide) rfl (fun ls hl => ?_)
      refine lv_aload_n S.1 S.2.1 dX9_thing_29 rfl (lv_at hl 1 rfl) ?_
      refine gf_X9_13 S hw 0 rfl dX9_thing_30 ?_
      refine lv_iload_n S.1 S.2.1 dX9_thing_33 rfl (lv_at hl 2 rfl) ?_
      refine lv_iload_n S.1 S.2.1 dX9_thing_34 rfl (lv_at hl 3 rfl) ?_
      obtain ⟨v_6, e_v_6, hf⟩ := ob hf
      have hJ_v_6 : ∀ (H : Heap) (locs : List Loc), PW D A s.heap [pX9 cy o0 q0 σ0] H locs → W p l e rmX9_thing s m args below meth c H locs 0 0 Q (F0 m 44 ls [.int v_6, .int x1, .ref ((q0 1))]) := by
        intro H locs hw
        obtain ⟨σ_7, e_σ_7, hf⟩ := ob hf
        refine as_X9_1 S hw 0 rfl e_σ_7 dX9_thing_44 (fun H locs hw => ?_)
        have hw : PW D A s.heap [pX9 cy o0 q0 σ_7] H locs := hw
        refine lv_iload_n S.1 S.2.1 dX9_thing_45 rfl (lv_at hl 0 rfl) ?_
        cases hf
        exact w_iret S hr hlk hA hQ hw dX9_thing_46
      replace hf := e_v_6
      clear e_v_6
      refine lv_if_ge (tgt := 43) S.1 S.2.1 dX9_thing_35 (by decide) (fun c_8 => ?_) (fun c_8 => ?_)
      · replace hf := (if_pos c_8).symm.trans hf
        refine lv_iload_n S.1 S.2.1 dX9_thing_43 rfl (lv_at hl 3 rfl) ?_
        cases hf
        exact hJ_v_6 _ _ hw
      · replace hf := (if_neg c_8).symm.trans hf
        refine lv_bipush (v := (-6)) S.1 S.2.1 dX9_thing_38 (by decide) ?_
        refine lv_goto (tgt := 44) S.1 S.2.1 dX9_thing_40 (by decide) ?_
        cases hf
        exact hJ_v_6 _ _ hw
    · replace hf := (if_pos c_4).symm.trans hf
      refine lv_iconst (v := (-1)) S.1 S.2.1 dX9_thing_21 (by decide) ?_
      cases hf
      exact w_iret S hr hlk hA hQ hw dX9_thing_22
section
variable {p : Program} {l : Launch} {e : Env} {R : Room} {s : State} {m : MethodId} {args : Array Value} {below : List Frame} {meth : Method} {c : Code} {H : Heap} {locs : List Loc} {cells slots : Nat} {Q : State → Prop} {cc : ByteArray} {pc nL : Nat} {ls : Array Slot} {rest : List Value} {D : va_G} {cy : Nat → ClassId} {A : Nat → Prop} {H0 : Heap} {own : String} {Ps : List va_W}
set_option maxRecDepth 100000 in
theorem k_X9_thing {o0 : Nat} {q0 : Nat → Nat} {x1 : Int32} {x2 : Int32} {σ0 : pStt} {u : Int32 × pStt} {index : Nat} (S : CX p m c cc nL s args own D cy) (hl : (Cond.methodLink own index yX9_thing).before args s = true) (hw : PW D A H0 Ps H locs) (hf : f_X9_thing x1 x2 σ0 = some u) (js : List Nat) (hC : js.map (fun j => Ps[j]?) = [some (pX9 cy o0 q0 σ0)]) (hnd : js.Nodup) (hlen : js.length = 1) (hR : RMok rmX9_thing R 4) (hsize : ls.size = nL) (hrest : (rest.map fun v => v.category).sum ≤ 8) (hdg : decode cc pc = .ok (.invokevirtual index, 3)) (hcs : cells ≤ R.cells ∧ slots ≤ R.slots)
    (kk : ∀ (H1 : Heap) (locs1 : List Loc), PW D A H0 (setAll Ps js [pX9 cy o0 q0 u.2]) H1 locs1 → W p l e R s m args below meth c H1 locs1 cells slots Q (F0 m (pc + 3) ls (.int u.1 :: rest))) : W p l e R s m args below meth c H locs cells slots Q (F0 m pc ls (.int x2 :: .int x1 :: .ref o0 :: rest)) :=
  w_callV (n := 2) (ov := (some (.int u.1))) (As := [.int x1, .int x2]) (Cs := [pX9 cy o0 q0 σ0]) (Cs' := [pX9 cy o0 q0 u.2]) S hw (c_X9_thing l D cy o0 q0 x1 x2 σ0 u hf) (MF.of S.2.2.2.2 wd835 wd79 (by decide)) (S.2.2.2.2.wd wd833 rfl) (S.2.2.2.2.wd wd834 rfl) hl hR js hC hnd hlen rfl rfl rfl rfl hsize rfl hrest hdg hcs kk
end
abbrev rmX9_drop : Room := { frames := 1, cells := 0, slots := 0, locals := 21 }
def fl_X9_drop_2 (y1 : Int32)  : Nat → Int32 → pStt → Option (pStt)
  | 0, _, _ => none
  | n + 1, y2, σ0 => if 8 ≤ y2 then some σ0 else (f_X9_carrierOf y2 σ0).bind (fun u_2 => (if u_2 = y1 then some ((-6)) else (ld (σ0.2 1) 8 y2).bind (fun x_6 => some x_6) : Option Int32).bind (fun v_3 => (stA σ0 1 8 y2 v_3).bind (fun σ_4 => fl_X9_drop_2 y1 n ((y2 + 1)) σ_4)))
def f_X9_drop (x1 : Int32) (σ0 : pStt) : Option (pStt) := (fl_X9_drop_2 x1 2000 0 σ0).bind (fun u_7 => some u_7)
section
variable {p : Program} {l : Launch} {e : Env} {s : State} {m : MethodId} {args : Array Value} {below : List Frame} {meth : Method} {c : Code} {Q : State → Prop} {D : va_G} {cy : Nat → ClassId} {A : Nat → Prop} {H0 : Heap}
set_option maxHeartbeats 4000000 in
set_option maxRecDepth 100000 in
theorem lp_X9_drop_2 (S : CX p m c cX9_drop 3 s args RX9 D cy) {o0 : Nat} {q0 : Nat → Nat}  {y1 : Int32} : ∀ (n : Nat) (y2 : Int32) (σ0 : pStt) (H : Heap) (locs : List Loc) (ls : Array Slot) (u : pStt), PW D A H0 [pX9 cy o0 q0 σ0] H locs → lv_has ls 3 [(0, .ref o0), (1, .int y1), (2, .int y2)] → fl_X9_drop_2 y1 n y2 σ0 = some u → (∀ (H : Heap) (locs : List Loc) (ls : Array Slot), PW D A H0 [pX9 cy o0 q0 u] H locs → lv_has ls 3 [] → W p l e rmX9_drop s m args below meth c H locs 0 0 Q (F0 m 40 ls [])) → W p l e rmX9_drop s m args below meth c H locs 0 0 Q (F0 m 2 ls []) := by
  intro n
  induction n with
  | zero =>
    intro y2 σ0 H locs ls u hw hl hf K0
    rw [fl_X9_drop_2] at hf
    cases hf
  | succ n ih =>
    intro y2 σ0 H locs ls u hw hl hf K0
    rw [fl_X9_drop_2] at hf
    refine lv_iload_n S.1 S.2.1 dX9_drop_2 rfl (lv_at hl 2 rfl) ?_
    refine lv_bipush (v := 8) S.1 S.2.1 dX9_drop_3 (by decide) ?_
    refine lv_icmp_ge (tgt := 40) S.1 S.2.1 dX9_drop_5 (by decide) (fun c_1 => ?_) (fun c_1 => ?_)
    · replace hf := (if_pos c_1).symm.trans hf
      cases hf
      exact K0 _ _ _ hw (lv_sub hl [] rfl)
    · replace hf := (if_neg c_1).symm.trans hf
      refine lv_aload_n S.1 S.2.1 dX9_drop_8 rfl (lv_at hl 0 rfl) ?_
      refine gf_X9_13 S hw 0 rfl dX9_drop_9 ?_
      refine lv_iload_n S.1 S.2.1 dX9_drop_12 rfl (lv_at hl 2 rfl) ?_
      refine lv_aload_n S.1 S.2.1 dX9_drop_13 rfl (lv_at hl 0 rfl) ?_
      refine lv_iload_n S.1 S.2.1 dX9_drop_14 rfl (lv_at hl 2 rfl) ?_
      obtain ⟨u_2, e_u_2, hf⟩ := ob hf
      refine k_X9_carrierOf S (S.2.2.2.2.wd wd857 rfl) hw e_u_2 [0] rfl (by decide) rfl ⟨rfl, rfl, Nat.le_of_ble_eq_true rfl, Nat.le_of_ble_eq_true rfl⟩ hl.1 (Nat.le_of_ble_eq_true rfl) dX9_drop_15 ⟨Nat.zero_le _, Nat.zero_le _⟩ (fun H locs hw => ?_)
      have hw : PW D A H0 [pX9 cy o0 q0 σ0] H locs := hw
      refine lv_iload_n S.1 S.2.1 dX9_drop_18 rfl (lv_at hl 1 rfl) ?_
      obtain ⟨v_3, e_v_3, hf⟩ := ob hf
      have hJ_v_3 : ∀ (H : Heap) (locs : List Loc), PW D A H0 [pX9 cy o0 q0 σ0] H locs → W p l e rmX9_drop s m args below meth c H locs 0 0 Q (F0 m 33 ls [.int v_3, .int y2, .ref ((q0 1))]) := by
        intro H locs hw
        obtain ⟨σ_4, e_σ_4, hf⟩ := ob hf
        refine as_X9_1 S hw 0 rfl e_σ_4 dX9_drop_33 (fun H locs hw => ?_)
        have hw : PW D A H0 [pX9 cy o0 q0 σ_4] H locs := hw
        refine lv_iinc (v := (y2 + 1)) (lv' := [(2, .int ((y2 + 1))), (0, .ref o0), (1, .int y1)]) S.1 S.2.1 dX9_drop_34 hl (k := 2) rfl rfl (by decide) rfl (fun ls hl => ?_)
        refine lv_goto (tgt := 2) S.1 S.2.1 dX9_drop_37 (by decide) ?_
        exact ih _ _ _ _ _ _ hw (lv_sub hl [1, 2, 0] rfl) hf K0
      replace hf := e_v_3
      clear e_v_3
      refine lv_icmp_ne (tgt := 27) S.1 S.2.1 dX9_drop_19 (by decide) (fun c_5 => ?_) (fun c_5 => ?_)
      · replace hf := (if_neg c_5).symm.trans hf
        refine lv_aload_n S.1 S.2.1 dX9_drop_27 rfl (lv_at hl 0 rfl) ?_
        refine gf_X9_13 S hw 0 rfl dX9_drop_28 ?_
        refine lv_iload_n S.1 S.2.1 dX9_drop_31 rfl (lv_at hl 2 rfl) ?_
        obtain ⟨x_6, e_x_6, hf⟩ := ob hf
        refine al_X9_1 S hw 0 rfl e_x_6 dX9_drop_32 ?_
        cases hf
        exact hJ_v_3 _ _ hw
      · replace hf := (if_pos c_5).symm.trans hf
        refine lv_bipush (v := (-6)) S.1 S.2.1 dX9_drop_22 (by decide) ?_
        refine lv_goto (tgt := 33) S.1 S.2.1 dX9_drop_24 (by decide) ?_
        cases hf
        exact hJ_v_3 _ _ hw
end
set_option maxHeartbeats 4000000 in
set_option maxRecDepth 100000 in
theorem c_X9_drop (l : Launch) (D : va_G) (cy : Nat → ClassId) (o0 : Nat) (q0 : Nat → Nat) (x1 : Int32) (σ0 : pStt) (u : pStt) (hf : f_X9_drop x1 σ0 = some u) : CT l yX9_drop cX9_drop 3 none rmX9_drop D cy [.ref o0, .int x1] [pX9 cy o0 q0 σ0] none [pX9 cy o0 q0 u] := by
  refine CT.of (by decide) (Nat.le_of_ble_eq_true rfl) (fun p e s m args below meth c ls A Q hA hQ S hr hlk hl hw => ?_)
  have hl : lv_has ls 3 [(0, .ref o0), (1, .int x1)] := hl
  rw [f_X9_drop] at hf
  refine lv_iconst (v := 0) S.1 S.2.1 dX9_drop_0 (by decide) ?_
  refine lv_istore_n (lv' := [(2, .int 0), (0, .ref o0), (1, .int x1)]) S.1 S.2.1 dX9_drop_1 rfl hl (by decide) rfl (fun ls hl => ?_)
  obtain ⟨u_7, e_u_7, hf⟩ := ob hf
  refine lp_X9_drop_2 S 2000 _ _ _ _ _ _ hw (lv_sub hl [1, 2, 0] rfl) e_u_7 ?_
  · intro H locs ls hw hl
    cases hf
    exact w_vret S hr hlk hA hQ hw dX9_drop_40
section
variable {p : Program} {l : Launch} {e : Env} {R : Room} {s : State} {m : MethodId} {args : Array Value} {below : List Frame} {meth : Method} {c : Code} {H : Heap} {locs : List Loc} {cells slots : Nat} {Q : State → Prop} {cc : ByteArray} {pc nL : Nat} {ls : Array Slot} {rest : List Value} {D : va_G} {cy : Nat → ClassId} {A : Nat → Prop} {H0 : Heap} {own : String} {Ps : List va_W}
set_option maxRecDepth 100000 in
theorem k_X9_drop {o0 : Nat} {q0 : Nat → Nat} {x1 : Int32} {σ0 : pStt} {u : pStt} {index : Nat} (S : CX p m c cc nL s args own D cy) (hl : (Cond.methodLink own index yX9_drop).before args s = true) (hw : PW D A H0 Ps H locs) (hf : f_X9_drop x1 σ0 = some u) (js : List Nat) (hC : js.map (fun j => Ps[j]?) = [some (pX9 cy o0 q0 σ0)]) (hnd : js.Nodup) (hlen : js.length = 1) (hR : RMok rmX9_drop R 3) (hsize : ls.size = nL) (hrest : (rest.map fun v => v.category).sum ≤ 8) (hdg : decode cc pc = .ok (.invokevirtual index, 3)) (hcs : cells ≤ R.cells ∧ slots ≤ R.slots)
    (kk : ∀ (H1 : Heap) (locs1 : List Loc), PW D A H0 (setAll Ps js [pX9 cy o0 q0 u]) H1 locs1 → W p l e R s m args below meth c H1 locs1 cells slots Q (F0 m (pc + 3) ls (rest))) : W p l e R s m args below meth c H locs cells slots Q (F0 m pc ls (.int x1 :: .ref o0 :: rest)) :=
  w_callV (n := 1) (ov := none) (As := [.int x1]) (Cs := [pX9 cy o0 q0 σ0]) (Cs' := [pX9 cy o0 q0 u]) S hw (c_X9_drop l D cy o0 q0 x1 σ0 u hf) (MF.of S.2.2.2.2 wd856 wd79 (by decide)) (S.2.2.2.2.wd wd855 rfl) (S.2.2.2.2.wd wd23 rfl) hl hR js hC hnd hlen rfl rfl rfl rfl hsize rfl hrest hdg hcs kk
end
abbrev rmX9_person : Room := { frames := 2, cells := 0, slots := 0, locals := 45 }
def f_X9_person (x1 : Int32) (x2 : Int32) (x3 : Int32) (σ0 : pStt) : Option (Int32 × pStt) := (f_X9_isPerson x1).bind (fun u_1 => if u_1 = 0 then some ((-1), σ0) else (f_X9_in ((x2 : Int32).toInt64) ((-1)) 7).bind (fun u_3 => if u_3 = 0 then some ((-1), σ0) else (if 0 ≤ x2 then some 9 else some 0 : Option Int64).bind (fun v_5 => (f_X9_in ((x3 : Int32).toInt64) 0 v_5).bind (fun u_6 => if u_6 = 0 then some ((-2), σ0) else (ld (σ0.2 2) 6 x1).bind (fun x_8 => (f_X9_drop x1 σ0).bind (fun u_9 => (if 0 ≤ x2 then some x2 else some ((-6)) : Option Int32).bind (fun v_10 => (stA u_9 2 6 x1 v_10).bind (fun σ_11 => (stA σ_11 3 6 x1 x3).bind (fun σ_12 => (stA σ_12 4 6 x1 0).bind (fun σ_13 => some (x_8, σ_13)))))))))))
set_option maxHeartbeats 4000000 in
set_option maxRecDepth 100000 in
theorem c_X9_person (l : Launch) (D : va_G) (cy : Nat → ClassId) (o0 : Nat) (q0 : Nat → Nat) (x1 : Int32) (x2 : Int32) (x3 : Int32) (σ0 : pStt) (u : Int32 × pStt) (hf : f_X9_person x1 x2 x3 σ0 = some u) : CT l yX9_person cX9_person 5 (some .int) rmX9_person D cy [.ref o0, .int x1, .int x2, .int x3] [pX9 cy o0 q0 σ0] (some (.int u.1)) [pX9 cy o0 q0 u.2] := by
  refine CT.of (by decide) (Nat.le_of_ble_eq_true rfl) (fun p e s m args below meth c ls A Q hA hQ S hr hlk hl hw => ?_)
  have hl : lv_has ls 5 [(0, .ref o0), (1, .int x1), (2, .int x2), (3, .int x3)] := hl
  rw [f_X9_person] at hf
  refine lv_iload_n S.1 S.2.1 dX9_person_0 rfl (lv_at hl 1 rfl) ?_
  obtain ⟨u_1, e_u_1, hf⟩ := ob hf
  refine k_X9_isPerson S (S.2.2.2.2.wd wd848 rfl) hw e_u_1 [] rfl (by decide) rfl ⟨rfl, rfl, Nat.le_of_ble_eq_true rfl, Nat.le_of_ble_eq_true rfl⟩ hl.1 (Nat.le_of_ble_eq_true rfl) dX9_person_1 ⟨Nat.zero_le _, Nat.zero_le _⟩ (fun H locs hw => ?_)
  have hw : PW D A s.heap [pX9 cy o0 q0 σ0] H locs := hw
  refine lv_if_eq (tgt := 21) S.1 S.2.1 dX9_person_4 (by decide) (fun c_2 => ?_) (fun c_2 => ?_)
  · replace hf := (if_pos c_2).symm.trans hf
    refine lv_iconst (v := (-1)) S.1 S.2.1 dX9_person_21 (by decide) ?_
    cases hf
    exact w_iret S hr hlk hA hQ hw dX9_person_22
  · replace hf := (if_neg c_2).symm.trans hf
    refine lv_iload_n S.1 S.2.1 dX9_person_7 rfl (lv_at hl 2 rfl) ?_
    refine lv_i2l (v := (x2 : Int32).toInt64) S.1 S.2.1 dX9_person_8 rfl ?_
    refine lv_ldc2 (v := (-1)) S.1 S.2.1 S.2.2.2.1 (S.2.2.2.2.wd wd839 rfl) dX9_person_9 ?_
    refine lv_ldc2 (v := 7) S.1 S.2.1 S.2.2.2.1 (S.2.2.2.2.wd wd817 rfl) dX9_person_12 ?_
    obtain ⟨u_3, e_u_3, hf⟩ := ob hf
    refine k_X9_in S (S.2.2.2.2.wd wd818 rfl) hw e_u_3 [] rfl (by decide) rfl ⟨rfl, rfl, Nat.le_of_ble_eq_true rfl, Nat.le_of_ble_eq_true rfl⟩ hl.1 (Nat.le_of_ble_eq_true rfl) dX9_person_15 ⟨Nat.zero_le _, Nat.zero_le _⟩ (fun H locs hw => ?_)
    have hw : PW D A s.heap [pX9 cy o0 q0 σ0] H locs := hw
    refine lv_if_ne (tgt := 23) S.1 S.2.1 dX9_person_18 (by decide) (fun c_4 => ?_) (fun c_4 => ?_)
    · replace hf := (if_neg c_4).symm.trans hf
      refine lv_iload_n S.1 S.2.1 dX9_person_23 rfl (lv_at hl 3 rfl) ?_
      refine lv_i2l (v := (x3 : Int32).toInt64) S.1 S.2.1 dX9_person_24 rfl ?_
      refine lv_lconst (v := 0) S.1 S.2.1 dX9_person_25 (by decide) ?_
      refine lv_iload_n S.1 S.2.1 dX9_person_26 rfl (lv_at hl 2 rfl) ?_
      obtain ⟨v_5, e_v_5, hf⟩ := ob hf
      have hJ_v_5 : ∀ (H : Heap) (locs : List Loc), PW D A s.heap [pX9 cy o0 q0 σ0] H locs → W p l e rmX9_person s m args below meth c H locs 0 0 Q (F0 m 37 ls [.long v_5, .long 0, .long ((x3 : Int32).toInt64)]) := by
        intro H locs hw
        obtain ⟨u_6, e_u_6, hf⟩ := ob hf
        refine k_X9_in S (S.2.2.2.2.wd wd818 rfl) hw e_u_6 [] rfl (by decide) rfl ⟨rfl, rfl, Nat.le_of_ble_eq_true rfl, Nat.le_of_ble_eq_true rfl⟩ hl.1 (Nat.le_of_ble_eq_true rfl) dX9_person_37 ⟨Nat.zero_le _, Nat.zero_le _⟩ (fun H locs hw => ?_)
        have hw : PW D A s.heap [pX9 cy o0 q0 σ0] H locs := hw
        refine lv_if_ne (tgt := 46) S.1 S.2.1 dX9_person_40 (by decide) (fun c_7 => ?_) (fun c_7 => ?_)
        · replace hf := (if_neg c_7).symm.trans hf
          refine lv_aload_n S.1 S.2.1 dX9_person_46 rfl (lv_at hl 0 rfl) ?_
          refine gf_X9_16 S hw 0 rfl dX9_person_47 ?_
          refine lv_iload_n S.1 S.2.1 dX9_person_50 rfl (lv_at hl 1 rfl) ?_
          obtain ⟨x_8, e_x_8, hf⟩ := ob hf
          refine al_X9_2 S hw 0 rfl e_x_8 dX9_person_51 ?_
          refine lv_istore (lv' := [(4, .int x_8), (0, .ref o0), (1, .int x1), (2, .int x2), (3, .int x3)]) S.1 S.2.1 dX9_person_52 hl (by decide) rfl (fun ls hl => ?_)
          refine lv_aload_n S.1 S.2.1 dX9_person_54 rfl (lv_at hl 1 rfl) ?_
          refine lv_iload_n S.1 S.2.1 dX9_person_55 rfl (lv_at hl 2 rfl) ?_
          obtain ⟨u_9, e_u_9, hf⟩ := ob hf
          refine k_X9_drop S (S.2.2.2.2.wd wd853 rfl) hw e_u_9 [0] rfl (by decide) rfl ⟨rfl, rfl, Nat.le_of_ble_eq_true rfl, Nat.le_of_ble_eq_true rfl⟩ hl.1 (Nat.le_of_ble_eq_true rfl) dX9_person_56 ⟨Nat.zero_le _, Nat.zero_le _⟩ (fun H locs hw => ?_)
          have hw : PW D A s.heap [pX9 cy o0 q0 u_9] H locs := hw
          refine lv_aload_n S.1 S.2.1 dX9_person_59 rfl (lv_at hl 1 rfl) ?_
          refine gf_X9_16 S hw 0 rfl dX9_person_60 ?_
          refine lv_iload_n S.1 S.2.1 dX9_person_63 rfl (lv_at hl 2 rfl) ?_
          refine lv_iload_n S.1 S.2.1 dX9_person_64 rfl (lv_at hl 3 rfl) ?_
          obtain ⟨v_10, e_v_10, hf⟩ := ob hf
          have hJ_v_10 : ∀ (H : Heap) (locs : List Loc), PW D A s.heap [pX9 cy o0 q0 u_9] H locs → W p l e rmX9_person s m args below meth c H locs 0 0 Q (F0 m 74 ls [.int v_10, .int x1, .ref ((q0 2))]) := by
            intro H locs hw
            obtain ⟨σ_11, e_σ_11, hf⟩ := ob hf
            refine as_X9_2 S hw 0 rfl e_σ_11 dX9_person_74 (fun H locs hw => ?_)
            have hw : PW D A s.heap [pX9 cy o0 q0 σ_11] H locs := hw
            refine lv_aload_n S.1 S.2.1 dX9_person_75 rfl (lv_at hl 1 rfl) ?_
            refine gf_X9_19 S hw 0 rfl dX9_person_76 ?_
            refine lv_iload_n S.1 S.2.1 dX9_person_79 rfl (lv_at hl 2 rfl) ?_
            refine lv_iload_n S.1 S.2.1 dX9_person_80 rfl (lv_at hl 4 rfl) ?_
            obtain ⟨σ_12, e_σ_12, hf⟩ := ob hf
            refine as_X9_3 S hw 0 rfl e_σ_12 dX9_person_81 (fun H locs hw => ?_)
            have hw : PW D A s.heap [pX9 cy o0 q0 σ_12] H locs := hw
            refine lv_aload_n S.1 S.2.1 dX9_person_82 rfl (lv_at hl 1 rfl) ?_
            refine gf_X9_22 S hw 0 rfl dX9_person_83 ?_
            refine lv_iload_n S.1 S.2.1 dX9_person_86 rfl (lv_at hl 2 rfl) ?_
            refine lv_iconst (v := 0) S.1 S.2.1 dX9_person_87 (by decide) ?_
            obtain ⟨σ_13, e_σ_13, hf⟩ := ob hf
            refine as_X9_4 S hw 0 rfl e_σ_13 dX9_person_88 (fun H locs hw => ?_)
            have hw : PW D A s.heap [pX9 cy o0 q0 σ_13] H locs := hw
            refine lv_iload S.1 S.2.1 dX9_person_89 (lv_at hl 0 rfl) ?_
            cases hf
            exact w_iret S hr hlk hA hQ hw dX9_person_91
          replace hf := e_v_10
          clear e_v_10
          refine lv_if_ge (tgt := 73) S.1 S.2.1 dX9_person_65 (by decide) (fun c_14 => ?_) (fun c_14 => ?_)
          · replace hf := (if_pos c_14).symm.trans hf
            refine lv_iload_n S.1 S.2.1 dX9_person_73 rfl (lv_at hl 3 rfl) ?_
            cases hf
            exact hJ_v_10 _ _ hw
          · replace hf := (if_neg c_14).symm.trans hf
            refine lv_bipush (v := (-6)) S.1 S.2.1 dX9_person_68 (by decide) ?_
            refine lv_goto (tgt := 74) S.1 S.2.1 dX9_person_70 (by decide) ?_
            cases hf
            exact hJ_v_10 _ _ hw
        · replace hf := (if_pos c_7).symm.trans hf
          refine lv_bipush (v := (-2)) S.1 S.2.1 dX9_person_43 (by decide) ?_
          cases hf
          exact w_iret S hr hlk hA hQ hw dX9_person_45
      replace hf := e_v_5
      clear e_v_5
      refine lv_if_ge (tgt := 34) S.1 S.2.1 dX9_person_27 (by decide) (fun c_15 => ?_) (fun c_15 => ?_)
      · replace hf := (if_pos c_15).symm.trans hf
        refine lv_ldc2 (v := 9) S.1 S.2.1 S.2.2.2.1 (S.2.2.2.2.wd wd852 rfl) dX9_person_34 ?_
        cases hf
        exact hJ_v_5 _ _ hw
      · replace hf := (if_neg c_15).symm.trans hf
        refine lv_lconst (v := 0) S.1 S.2.1 dX9_person_30 (by decide) ?_
        refine lv_goto (tgt := 37) S.1 S.2.1 dX9_person_31 (by decide) ?_
        cases hf
        exact hJ_v_5 _ _ hw
    · replace hf := (if_pos c_4).symm.trans hf
      refine lv_iconst (v := (-1)) S.1 S.2.1 dX9_person_21 (by decide) ?_
      cases hf
      exact w_iret S hr hlk hA hQ hw dX9_person_22
section
variable {p : Program} {l : Launch} {e : Env} {R : Room} {s : State} {m : MethodId} {args : Array Value} {below : List Frame} {meth : Method} {c : Code} {H : Heap} {locs : List Loc} {cells slots : Nat} {Q : State → Prop} {cc : ByteArray} {pc nL : Nat} {ls : Array Slot} {rest : List Value} {D : va_G} {cy : Nat → ClassId} {A : Nat → Prop} {H0 : Heap} {own : String} {Ps : List va_W}
set_option maxRecDepth 100000 in
theorem k_X9_person {o0 : Nat} {q0 : Nat → Nat} {x1 : Int32} {x2 : Int32} {x3 : Int32} {σ0 : pStt} {u : Int32 × pStt} {index : Nat} (S : CX p m c cc nL s args own D cy) (hl : (Cond.methodLink own index yX9_person).before args s = true) (hw : PW D A H0 Ps H locs) (hf : f_X9_person x1 x2 x3 σ0 = some u) (js : List Nat) (hC : js.map (fun j => Ps[j]?) = [some (pX9 cy o0 q0 σ0)]) (hnd : js.Nodup) (hlen : js.length = 1) (hR : RMok rmX9_person R 5) (hsize : ls.size = nL) (hrest : (rest.map fun v => v.category).sum ≤ 8) (hdg : decode cc pc = .ok (.invokevirtual index, 3)) (hcs : cells ≤ R.cells ∧ slots ≤ R.slots)
    (kk : ∀ (H1 : Heap) (locs1 : List Loc), PW D A H0 (setAll Ps js [pX9 cy o0 q0 u.2]) H1 locs1 → W p l e R s m args below meth c H1 locs1 cells slots Q (F0 m (pc + 3) ls (.int u.1 :: rest))) : W p l e R s m args below meth c H locs cells slots Q (F0 m pc ls (.int x3 :: .int x2 :: .int x1 :: .ref o0 :: rest)) :=
  w_callV (n := 3) (ov := (some (.int u.1))) (As := [.int x1, .int x2, .int x3]) (Cs := [pX9 cy o0 q0 σ0]) (Cs' := [pX9 cy o0 q0 u.2]) S hw (c_X9_person l D cy o0 q0 x1 x2 x3 σ0 u hf) (MF.of S.2.2.2.2 wd847 wd79 (by decide)) (S.2.2.2.2.wd wd845 rfl) (S.2.2.2.2.wd wd846 rfl) hl hR js hC hnd hlen rfl rfl rfl rfl hsize rfl hrest hdg hcs kk
end
abbrev rmX9_pole : Room := { frames := 0, cells := 0, slots := 0, locals := 0 }
def f_X9_pole (x1 : Int32) (σ0 : pStt) : Option (Int32 × pStt) := (if x1 = 0 then some 0 else some 1 : Option Int32).bind (fun v_1 => (some (sI σ0 0 v_1)).bind (fun σ_2 => some ((σ0.1 0), σ_2)))
set_option maxHeartbeats 4000000 in
set_option maxRecDepth 100000 in
theorem c_X9_pole (l : Launch) (D : va_G) (cy : Nat → ClassId) (o0 : Nat) (q0 : Nat → Nat) (x1 : Int32) (σ0 : pStt) (u : Int32 × pStt) (hf : f_X9_pole x1 σ0 = some u) : CT l yX9_pole cX9_pole 3 (some .int) rmX9_pole D cy [.ref o0, .int x1] [pX9 cy o0 q0 σ0] (some (.int u.1)) [pX9 cy o0 q0 u.2] := by
  refine CT.of (by decide) (Nat.le_of_ble_eq_true rfl) (fun p e s m args below meth c ls A Q hA hQ S hr hlk hl hw => ?_)
  have hl : lv_has ls 3 [(0, .ref o0), (1, .int x1)] := hl
  rw [f_X9_pole] at hf
  refine lv_aload_n S.1 S.2.1 dX9_pole_0 rfl (lv_at hl 0 rfl) ?_
  refine gf_X9_74 S hw 0 rfl dX9_pole_1 ?_
  refine lv_istore_n (lv' := [(2, .int ((σ0.1 0))), (0, .ref o0), (1, .int x1)]) S.1 S.2.1 dX9_pole_4 rfl hl (by decide) rfl (fun ls hl => ?_)
  refine lv_aload_n S.1 S.2.1 dX9_pole_5 rfl (lv_at hl 1 rfl) ?_
  refine lv_iload_n S.1 S.2.1 dX9_pole_6 rfl (lv_at hl 2 rfl) ?_
  obtain ⟨v_1, e_v_1, hf⟩ := ob hf
  have hJ_v_1 : ∀ (H : Heap) (locs : List Loc), PW D A s.heap [pX9 cy o0 q0 σ0] H locs → W p l e rmX9_pole s m args below meth c H locs 0 0 Q (F0 m 15 ls [.int v_1, .ref o0]) := by
    intro H locs hw
    obtain ⟨σ_2, e_σ_2, hf⟩ := ob hf
    refine pf_X9_74 S hw 0 rfl e_σ_2 dX9_pole_15 (fun H locs hw => ?_)
    have hw : PW D A s.heap [pX9 cy o0 q0 σ_2] H locs := hw
    refine lv_iload_n S.1 S.2.1 dX9_pole_18 rfl (lv_at hl 0 rfl) ?_
    cases hf
    exact w_iret S hr hlk hA hQ hw dX9_pole_19
  replace hf := e_v_1
  clear e_v_1
  refine lv_if_eq (tgt := 14) S.1 S.2.1 dX9_pole_7 (by decide) (fun c_3 => ?_) (fun c_3 => ?_)
  · replace hf := (if_pos c_3).symm.trans hf
    refine lv_iconst (v := 0) S.1 S.2.1 dX9_pole_14 (by decide) ?_
    cases hf
    exact hJ_v_1 _ _ hw
  · replace hf := (if_neg c_3).symm.trans hf
    refine lv_iconst (v := 1) S.1 S.2.1 dX9_pole_10 (by decide) ?_
    refine lv_goto (tgt := 15) S.1 S.2.1 dX9_pole_11 (by decide) ?_
    cases hf
    exact hJ_v_1 _ _ hw
section
variable {p : Program} {l : Launch} {e : Env} {R : Room} {s : State} {m : MethodId} {args : Array Value} {below : List Frame} {meth : Method} {c : Code} {H : Heap} {locs : List Loc} {cells slots : Nat} {Q : State → Prop} {cc : ByteArray} {pc nL : Nat} {ls : Array Slot} {rest : List Value} {D : va_G} {cy : Nat → ClassId} {A : Nat → Prop} {H0 : Heap} {own : String} {Ps : List va_W}
set_option maxRecDepth 100000 in
theorem k_X9_pole {o0 : Nat} {q0 : Nat → Nat} {x1 : Int32} {σ0 : pStt} {u : Int32 × pStt} {index : Nat} (S : CX p m c cc nL s args own D cy) (hl : (Cond.methodLink own index yX9_pole).before args s = true) (hw : PW D A H0 Ps H locs) (hf : f_X9_pole x1 σ0 = some u) (js : List Nat) (hC : js.map (fun j => Ps[j]?) = [some (pX9 cy o0 q0 σ0)]) (hnd : js.Nodup) (hlen : js.length = 1) (hR : RMok rmX9_pole R 3) (hsize : ls.size = nL) (hrest : (rest.map fun v => v.category).sum ≤ 8) (hdg : decode cc pc = .ok (.invokevirtual index, 3)) (hcs : cells ≤ R.cells ∧ slots ≤ R.slots)
    (kk : ∀ (H1 : Heap) (locs1 : List Loc), PW D A H0 (setAll Ps js [pX9 cy o0 q0 u.2]) H1 locs1 → W p l e R s m args below meth c H1 locs1 cells slots Q (F0 m (pc + 3) ls (.int u.1 :: rest))) : W p l e R s m args below meth c H locs cells slots Q (F0 m pc ls (.int x1 :: .ref o0 :: rest)) :=
  w_callV (n := 1) (ov := (some (.int u.1))) (As := [.int x1]) (Cs := [pX9 cy o0 q0 σ0]) (Cs' := [pX9 cy o0 q0 u.2]) S hw (c_X9_pole l D cy o0 q0 x1 σ0 u hf) (MF.of S.2.2.2.2 wd864 wd79 (by decide)) (S.2.2.2.2.wd wd862 rfl) (S.2.2.2.2.wd wd863 rfl) hl hR js hC hnd hlen rfl rfl rfl rfl hsize rfl hrest hdg hcs kk
end
abbrev rmX9_say : Room := { frames := 1, cells := 0, slots := 0, locals := 25 }
def f_X9_say (x1 : Int32) (σ0 : pStt) : Option (Int32 × pStt) := (f_X9_in ((x1 : Int32).toInt64) 33 126).bind (fun u_1 => if u_1 = 0 then some ((-2), σ0) else if (σ0.1 4) = 60 then some ((-4), σ0) else (stA σ0 12 60 ((σ0.1 4)) x1).bind (fun σ_4 => (some (sI σ_4 4 (((σ_4.1 4) + (1 : Int32))))).bind (fun σ_5 => some ((σ_5.1 4), σ_5))))
set_option maxHeartbeats 4000000 in
set_option maxRecDepth 100000 in
theorem c_X9_say (l : Launch) (D : va_G) (cy : Nat → ClassId) (o0 : Nat) (q0 : Nat → Nat) (x1 : Int32) (σ0 : pStt) (u : Int32 × pStt) (hf : f_X9_say x1 σ0 = some u) : CT l yX9_say cX9_say 2 (some .int) rmX9_say D cy [.ref o0, .int x1] [pX9 cy o0 q0 σ0] (some (.int u.1)) [pX9 cy o0 q0 u.2] := by
  refine CT.of (by decide) (Nat.le_of_ble_eq_true rfl) (fun p e s m args below meth c ls A Q hA hQ S hr hlk hl hw => ?_)
  have hl : lv_has ls 2 [(0, .ref o0), (1, .int x1)] := hl
  rw [f_X9_say] at hf
  refine lv_iload_n S.1 S.2.1 dX9_say_0 rfl (lv_at hl 1 rfl) ?_
  refine lv_i2l (v := (x1 : Int32).toInt64) S.1 S.2.1 dX9_say_1 rfl ?_
  refine lv_ldc2 (v := 33) S.1 S.2.1 S.2.2.2.1 (S.2.2.2.2.wd wd869 rfl) dX9_say_2 ?_
  refine lv_ldc2 (v := 126) S.1 S.2.1 S.2.2.2.1 (S.2.2.2.2.wd wd870 rfl) dX9_say_5 ?_
  obtain ⟨u_1, e_u_1, hf⟩ := ob hf
  refine k_X9_in S (S.2.2.2.2.wd wd818 rfl) hw e_u_1 [] rfl (by decide) rfl ⟨rfl, rfl, Nat.le_of_ble_eq_true rfl, Nat.le_of_ble_eq_true rfl⟩ hl.1 (Nat.le_of_ble_eq_true rfl) dX9_say_8 ⟨Nat.zero_le _, Nat.zero_le _⟩ (fun H locs hw => ?_)
  have hw : PW D A s.heap [pX9 cy o0 q0 σ0] H locs := hw
  refine lv_if_ne (tgt := 17) S.1 S.2.1 dX9_say_11 (by decide) (fun c_2 => ?_) (fun c_2 => ?_)
  · replace hf := (if_neg c_2).symm.trans hf
    refine lv_aload_n S.1 S.2.1 dX9_say_17 rfl (lv_at hl 0 rfl) ?_
    refine gf_X9_126 S hw 0 rfl dX9_say_18 ?_
    refine lv_bipush (v := 60) S.1 S.2.1 dX9_say_21 (by decide) ?_
    refine lv_icmp_ne (tgt := 29) S.1 S.2.1 dX9_say_23 (by decide) (fun c_3 => ?_) (fun c_3 => ?_)
    · replace hf := (if_neg c_3).symm.trans hf
      refine lv_aload_n S.1 S.2.1 dX9_say_29 rfl (lv_at hl 0 rfl) ?_
      refine gf_X9_46 S hw 0 rfl dX9_say_30 ?_
      refine lv_aload_n S.1 S.2.1 dX9_say_33 rfl (lv_at hl 0 rfl) ?_
      refine gf_X9_126 S hw 0 rfl dX9_say_34 ?_
      refine lv_iload_n S.1 S.2.1 dX9_say_37 rfl (lv_at hl 1 rfl) ?_
      obtain ⟨σ_4, e_σ_4, hf⟩ := ob hf
      refine as_X9_12 S hw 0 rfl e_σ_4 dX9_say_38 (fun H locs hw => ?_)
      have hw : PW D A s.heap [pX9 cy o0 q0 σ_4] H locs := hw
      refine lv_aload_n S.1 S.2.1 dX9_say_39 rfl (lv_at hl 0 rfl) ?_
      refine lv_dup S.1 S.2.1 dX9_say_40 rfl ?_
      refine gf_X9_126 S hw 0 rfl dX9_say_41 ?_
      refine lv_iconst (v := 1) S.1 S.2.1 dX9_say_44 (by decide) ?_
      refine lv_iadd S.1 S.2.1 dX9_say_45 ?_
      obtain ⟨σ_5, e_σ_5, hf⟩ := ob hf
      refine pf_X9_126 S hw 0 rfl e_σ_5 dX9_say_46 (fun H locs hw => ?_)
      have hw : PW D A s.heap [pX9 cy o0 q0 σ_5] H locs := hw
      refine lv_aload_n S.1 S.2.1 dX9_say_49 rfl (lv_at hl 0 rfl) ?_
      refine gf_X9_126 S hw 0 rfl dX9_say_50 ?_
      cases hf
      exact w_iret S hr hlk hA hQ hw dX9_say_53
    · replace hf := (if_pos c_3).symm.trans hf
      refine lv_bipush (v := (-4)) S.1 S.2.1 dX9_say_26 (by decide) ?_
      cases hf
      exact w_iret S hr hlk hA hQ hw dX9_say_28
  · replace hf := (if_pos c_2).symm.trans hf
    refine lv_bipush (v := (-2)) S.1 S.2.1 dX9_say_14 (by decide) ?_
    cases hf
    exact w_iret S hr hlk hA hQ hw dX9_say_16
section
variable {p : Program} {l : Launch} {e : Env} {R : Room} {s : State} {m : MethodId} {args : Array Value} {below : List Frame} {meth : Method} {c : Code} {H : Heap} {locs : List Loc} {cells slots : Nat} {Q : State → Prop} {cc : ByteArray} {pc nL : Nat} {ls : Array Slot} {rest : List Value} {D : va_G} {cy : Nat → ClassId} {A : Nat → Prop} {H0 : Heap} {own : String} {Ps : List va_W}
set_option maxRecDepth 100000 in
theorem k_X9_say {o0 : Nat} {q0 : Nat → Nat} {x1 : Int32} {σ0 : pStt} {u : Int32 × pStt} {index : Nat} (S : CX p m c cc nL s args own D cy) (hl : (Cond.methodLink own index yX9_say).before args s = true) (hw : PW D A H0 Ps H locs) (hf : f_X9_say x1 σ0 = some u) (js : List Nat) (hC : js.map (fun j => Ps[j]?) = [some (pX9 cy o0 q0 σ0)]) (hnd : js.Nodup) (hlen : js.length = 1) (hR : RMok rmX9_say R 2) (hsize : ls.size = nL) (hrest : (rest.map fun v => v.category).sum ≤ 8) (hdg : decode cc pc = .ok (.invokevirtual index, 3)) (hcs : cells ≤ R.cells ∧ slots ≤ R.slots)
    (kk : ∀ (H1 : Heap) (locs1 : List Loc), PW D A H0 (setAll Ps js [pX9 cy o0 q0 u.2]) H1 locs1 → W p l e R s m args below meth c H1 locs1 cells slots Q (F0 m (pc + 3) ls (.int u.1 :: rest))) : W p l e R s m args below meth c H locs cells slots Q (F0 m pc ls (.int x1 :: .ref o0 :: rest)) :=
  w_callV (n := 1) (ov := (some (.int u.1))) (As := [.int x1]) (Cs := [pX9 cy o0 q0 σ0]) (Cs' := [pX9 cy o0 q0 u.2]) S hw (c_X9_say l D cy o0 q0 x1 σ0 u hf) (MF.of S.2.2.2.2 wd868 wd79 (by decide)) (S.2.2.2.2.wd wd866 rfl) (S.2.2.2.2.wd wd867 rfl) hl hR js hC hnd hlen rfl rfl rfl rfl hsize rfl hrest hdg hcs kk
end
abbrev rmX9_wipe : Room := { frames := 0, cells := 0, slots := 0, locals := 0 }
def f_X9_wipe (σ0 : pStt) : Option (Int32 × pStt) := (some (sI σ0 4 0)).bind (fun σ_1 => some ((σ0.1 4), σ_1))
set_option maxHeartbeats 4000000 in
set_option maxRecDepth 100000 in
theorem c_X9_wipe (l : Launch) (D : va_G) (cy : Nat → ClassId) (o0 : Nat) (q0 : Nat → Nat) (σ0 : pStt) (u : Int32 × pStt) (hf : f_X9_wipe σ0 = some u) : CT l yX9_wipe cX9_wipe 2 (some .int) rmX9_wipe D cy [.ref o0] [pX9 cy o0 q0 σ0] (some (.int u.1)) [pX9 cy o0 q0 u.2] := by
  refine CT.of (by decide) (Nat.le_of_ble_eq_true rfl) (fun p e s m args below meth c ls A Q hA hQ S hr hlk hl hw => ?_)
  have hl : lv_has ls 2 [(0, .ref o0)] := hl
  rw [f_X9_wipe] at hf
  refine lv_aload_n S.1 S.2.1 dX9_wipe_0 rfl (lv_at hl 0 rfl) ?_
  refine gf_X9_126 S hw 0 rfl dX9_wipe_1 ?_
  refine lv_istore_n (lv' := [(1, .int ((σ0.1 4))), (0, .ref o0)]) S.1 S.2.1 dX9_wipe_4 rfl hl (by decide) rfl (fun ls hl => ?_)
  refine lv_aload_n S.1 S.2.1 dX9_wipe_5 rfl (lv_at hl 1 rfl) ?_
  refine lv_iconst (v := 0) S.1 S.2.1 dX9_wipe_6 (by decide) ?_
  obtain ⟨σ_1, e_σ_1, hf⟩ := ob hf
  refine pf_X9_126 S hw 0 rfl e_σ_1 dX9_wipe_7 (fun H locs hw => ?_)
  have hw : PW D A s.heap [pX9 cy o0 q0 σ_1] H locs := hw
  refine lv_iload_n S.1 S.2.1 dX9_wipe_10 rfl (lv_at hl 0 rfl) ?_
  cases hf
  exact w_iret S hr hlk hA hQ hw dX9_wipe_11
section
variable {p : Program} {l : Launch} {e : Env} {R : Room} {s : State} {m : MethodId} {args : Array Value} {below : List Frame} {meth : Method} {c : Code} {H : Heap} {locs : List Loc} {cells slots : Nat} {Q : State → Prop} {cc : ByteArray} {pc nL : Nat} {ls : Array Slot} {rest : List Value} {D : va_G} {cy : Nat → ClassId} {A : Nat → Prop} {H0 : Heap} {own : String} {Ps : List va_W}
set_option maxRecDepth 100000 in
theorem k_X9_wipe {o0 : Nat} {q0 : Nat → Nat}  {σ0 : pStt} {u : Int32 × pStt} {index : Nat} (S : CX p m c cc nL s args own D cy) (hl : (Cond.methodLink own index yX9_wipe).before args s = true) (hw : PW D A H0 Ps H locs) (hf : f_X9_wipe σ0 = some u) (js : List Nat) (hC : js.map (fun j => Ps[j]?) = [some (pX9 cy o0 q0 σ0)]) (hnd : js.Nodup) (hlen : js.length = 1) (hR : RMok rmX9_wipe R 2) (hsize : ls.size = nL) (hrest : (rest.map fun v => v.category).sum ≤ 8) (hdg : decode cc pc = .ok (.invokevirtual index, 3)) (hcs : cells ≤ R.cells ∧ slots ≤ R.slots)
    (kk : ∀ (H1 : Heap) (locs1 : List Loc), PW D A H0 (setAll Ps js [pX9 cy o0 q0 u.2]) H1 locs1 → W p l e R s m args below meth c H1 locs1 cells slots Q (F0 m (pc + 3) ls (.int u.1 :: rest))) : W p l e R s m args below meth c H locs cells slots Q (F0 m pc ls (.ref o0 :: rest)) :=
  w_callV (n := 0) (ov := (some (.int u.1))) (As := []) (Cs := [pX9 cy o0 q0 σ0]) (Cs' := [pX9 cy o0 q0 u.2]) S hw (c_X9_wipe l D cy o0 q0 σ0 u hf) (MF.of S.2.2.2.2 wd874 wd79 (by decide)) (S.2.2.2.2.wd wd872 rfl) (S.2.2.2.2.wd wd873 rfl) hl hR js hC hnd hlen rfl rfl rfl rfl hsize rfl hrest hdg hcs kk
end
abbrev rmX9_ends : Room := { frames := 0, cells := 0, slots := 0, locals := 0 }
def f_X9_ends (x1 : Int32) (x2 : Int32) (σ0 : pStt) : Option (Int32 × pStt) := (stA σ0 13 60 ((σ0.1 5)) x1).bind (fun σ_1 => (stA σ_1 15 60 ((σ_1.1 5)) x2).bind (fun σ_2 => (some (sI σ_2 5 (((σ_2.1 5) + (1 : Int32))))).bind (fun σ_3 => some (0, σ_3))))
set_option maxHeartbeats 4000000 in
set_option maxRecDepth 100000 in
theorem c_X9_ends (l : Launch) (D : va_G) (cy : Nat → ClassId) (o0 : Nat) (q0 : Nat → Nat) (x1 : Int32) (x2 : Int32) (σ0 : pStt) (u : Int32 × pStt) (hf : f_X9_ends x1 x2 σ0 = some u) : CT l yX9_ends cX9_ends 3 (some .int) rmX9_ends D cy [.ref o0, .int x1, .int x2] [pX9 cy o0 q0 σ0] (some (.int u.1)) [pX9 cy o0 q0 u.2] := by
  refine CT.of (by decide) (Nat.le_of_ble_eq_true rfl) (fun p e s m args below meth c ls A Q hA hQ S hr hlk hl hw => ?_)
  have hl : lv_has ls 3 [(0, .ref o0), (1, .int x1), (2, .int x2)] := hl
  rw [f_X9_ends] at hf
  refine lv_aload_n S.1 S.2.1 dX9_ends_0 rfl (lv_at hl 0 rfl) ?_
  refine gf_X9_49 S hw 0 rfl dX9_ends_1 ?_
  refine lv_aload_n S.1 S.2.1 dX9_ends_4 rfl (lv_at hl 0 rfl) ?_
  refine gf_X9_129 S hw 0 rfl dX9_ends_5 ?_
  refine lv_iload_n S.1 S.2.1 dX9_ends_8 rfl (lv_at hl 1 rfl) ?_
  obtain ⟨σ_1, e_σ_1, hf⟩ := ob hf
  refine as_X9_13 S hw 0 rfl e_σ_1 dX9_ends_9 (fun H locs hw => ?_)
  have hw : PW D A s.heap [pX9 cy o0 q0 σ_1] H locs := hw
  refine lv_aload_n S.1 S.2.1 dX9_ends_10 rfl (lv_at hl 0 rfl) ?_
  refine gf_X9_55 S hw 0 rfl dX9_ends_11 ?_
  refine lv_aload_n S.1 S.2.1 dX9_ends_14 rfl (lv_at hl 0 rfl) ?_
  refine gf_X9_129 S hw 0 rfl dX9_ends_15 ?_
  refine lv_iload_n S.1 S.2.1 dX9_ends_18 rfl (lv_at hl 2 rfl) ?_
  obtain ⟨σ_2, e_σ_2, hf⟩ := ob hf
  refine as_X9_15 S hw 0 rfl e_σ_2 dX9_ends_19 (fun H locs hw => ?_)
  have hw : PW D A s.heap [pX9 cy o0 q0 σ_2] H locs := hw
  refine lv_aload_n S.1 S.2.1 dX9_ends_20 rfl (lv_at hl 0 rfl) ?_
  refine lv_dup S.1 S.2.1 dX9_ends_21 rfl ?_
  refine gf_X9_129 S hw 0 rfl dX9_ends_22 ?_
  refine lv_iconst (v := 1) S.1 S.2.1 dX9_ends_25 (by decide) ?_
  refine lv_iadd S.1 S.2.1 dX9_ends_26 ?_
  obtain ⟨σ_3, e_σ_3, hf⟩ := ob hf
  refine pf_X9_129 S hw 0 rfl e_σ_3 dX9_ends_27 (fun H locs hw => ?_)
  have hw : PW D A s.heap [pX9 cy o0 q0 σ_3] H locs := hw
  refine lv_iconst (v := 0) S.1 S.2.1 dX9_ends_30 (by decide) ?_
  cases hf
  exact w_iret S hr hlk hA hQ hw dX9_ends_31
section
variable {p : Program} {l : Launch} {e : Env} {R : Room} {s : State} {m : MethodId} {args : Array Value} {below : List Frame} {meth : Method} {c : Code} {H : Heap} {locs : List Loc} {cells slots : Nat} {Q : State → Prop} {cc : ByteArray} {pc nL : Nat} {ls : Array Slot} {rest : List Value} {D : va_G} {cy : Nat → ClassId} {A : Nat → Prop} {H0 : Heap} {own : String} {Ps : List va_W}
set_option maxRecDepth 100000 in
theorem k_X9_ends {o0 : Nat} {q0 : Nat → Nat} {x1 : Int32} {x2 : Int32} {σ0 : pStt} {u : Int32 × pStt} {index : Nat} (S : CX p m c cc nL s args own D cy) (hl : (Cond.methodLink own index yX9_ends).before args s = true) (hw : PW D A H0 Ps H locs) (hf : f_X9_ends x1 x2 σ0 = some u) (js : List Nat) (hC : js.map (fun j => Ps[j]?) = [some (pX9 cy o0 q0 σ0)]) (hnd : js.Nodup) (hlen : js.length = 1) (hR : RMok rmX9_ends R 3) (hsize : ls.size = nL) (hrest : (rest.map fun v => v.category).sum ≤ 8) (hdg : decode cc pc = .ok (.invokevirtual index, 3)) (hcs : cells ≤ R.cells ∧ slots ≤ R.slots)
    (kk : ∀ (H1 : Heap) (locs1 : List Loc), PW D A H0 (setAll Ps js [pX9 cy o0 q0 u.2]) H1 locs1 → W p l e R s m args below meth c H1 locs1 cells slots Q (F0 m (pc + 3) ls (.int u.1 :: rest))) : W p l e R s m args below meth c H locs cells slots Q (F0 m pc ls (.int x2 :: .int x1 :: .ref o0 :: rest)) :=
  w_callV (n := 2) (ov := (some (.int u.1))) (As := [.int x1, .int x2]) (Cs := [pX9 cy o0 q0 σ0]) (Cs' := [pX9 cy o0 q0 u.2]) S hw (c_X9_ends l D cy o0 q0 x1 x2 σ0 u hf) (MF.of S.2.2.2.2 wd900 wd79 (by decide)) (S.2.2.2.2.wd wd899 rfl) (S.2.2.2.2.wd wd28 rfl) hl hR js hC hnd hlen rfl rfl rfl rfl hsize rfl hrest hdg hcs kk
end
abbrev rmX9_opens : Room := { frames := 0, cells := 0, slots := 0, locals := 0 }
def f_X9_opens (x1 : Int32) (x2 : Int32) (σ0 : pStt) : Option (Int32 × pStt) := (stA σ0 13 60 ((σ0.1 5)) x1).bind (fun σ_1 => some (x2, σ_1))
set_option maxHeartbeats 4000000 in
set_option maxRecDepth 100000 in
theorem c_X9_opens (l : Launch) (D : va_G) (cy : Nat → ClassId) (o0 : Nat) (q0 : Nat → Nat) (x1 : Int32) (x2 : Int32) (σ0 : pStt) (u : Int32 × pStt) (hf : f_X9_opens x1 x2 σ0 = some u) : CT l yX9_opens cX9_opens 3 (some .int) rmX9_opens D cy [.ref o0, .int x1, .int x2] [pX9 cy o0 q0 σ0] (some (.int u.1)) [pX9 cy o0 q0 u.2] := by
  refine CT.of (by decide) (Nat.le_of_ble_eq_true rfl) (fun p e s m args below meth c ls A Q hA hQ S hr hlk hl hw => ?_)
  have hl : lv_has ls 3 [(0, .ref o0), (1, .int x1), (2, .int x2)] := hl
  rw [f_X9_opens] at hf
  refine lv_aload_n S.1 S.2.1 dX9_opens_0 rfl (lv_at hl 0 rfl) ?_
  refine gf_X9_49 S hw 0 rfl dX9_opens_1 ?_
  refine lv_aload_n S.1 S.2.1 dX9_opens_4 rfl (lv_at hl 0 rfl) ?_
  refine gf_X9_129 S hw 0 rfl dX9_opens_5 ?_
  refine lv_iload_n S.1 S.2.1 dX9_opens_8 rfl (lv_at hl 1 rfl) ?_
  obtain ⟨σ_1, e_σ_1, hf⟩ := ob hf
  refine as_X9_13 S hw 0 rfl e_σ_1 dX9_opens_9 (fun H locs hw => ?_)
  have hw : PW D A s.heap [pX9 cy o0 q0 σ_1] H locs := hw
  refine lv_iload_n S.1 S.2.1 dX9_opens_10 rfl (lv_at hl 2 rfl) ?_
  cases hf
  exact w_iret S hr hlk hA hQ hw dX9_opens_11
section
variable {p : Program} {l : Launch} {e : Env} {R : Room} {s : State} {m : MethodId} {args : Array Value} {below : List Frame} {meth : Method} {c : Code} {H : Heap} {locs : List Loc} {cells slots : Nat} {Q : State → Prop} {cc : ByteArray} {pc nL : Nat} {ls : Array Slot} {rest : List Value} {D : va_G} {cy : Nat → ClassId} {A : Nat → Prop} {H0 : Heap} {own : String} {Ps : List va_W}
set_option maxRecDepth 100000 in
theorem k_X9_opens {o0 : Nat} {q0 : Nat → Nat} {x1 : Int32} {x2 : Int32} {σ0 : pStt} {u : Int32 × pStt} {index : Nat} (S : CX p m c cc nL s args own D cy) (hl : (Cond.methodLink own index yX9_opens).before args s = true) (hw : PW D A H0 Ps H locs) (hf : f_X9_opens x1 x2 σ0 = some u) (js : List Nat) (hC : js.map (fun j => Ps[j]?) = [some (pX9 cy o0 q0 σ0)]) (hnd : js.Nodup) (hlen : js.length = 1) (hR : RMok rmX9_opens R 3) (hsize : ls.size = nL) (hrest : (rest.map fun v => v.category).sum ≤ 8) (hdg : decode cc pc = .ok (.invokevirtual index, 3)) (hcs : cells ≤ R.cells ∧ slots ≤ R.slots)
    (kk : ∀ (H1 : Heap) (locs1 : List Loc), PW D A H0 (setAll Ps js [pX9 cy o0 q0 u.2]) H1 locs1 → W p l e R s m args below meth c H1 locs1 cells slots Q (F0 m (pc + 3) ls (.int u.1 :: rest))) : W p l e R s m args below meth c H locs cells slots Q (F0 m pc ls (.int x2 :: .int x1 :: .ref o0 :: rest)) :=
  w_callV (n := 2) (ov := (some (.int u.1))) (As := [.int x1, .int x2]) (Cs := [pX9 cy o0 q0 σ0]) (Cs' := [pX9 cy o0 q0 u.2]) S hw (c_X9_opens l D cy o0 q0 x1 x2 σ0 u hf) (MF.of S.2.2.2.2 wd896 wd79 (by decide)) (S.2.2.2.2.wd wd895 rfl) (S.2.2.2.2.wd wd27 rfl) hl hR js hC hnd hlen rfl rfl rfl rfl hsize rfl hrest hdg hcs kk
end
abbrev rmX9_begin : Room := { frames := 1, cells := 0, slots := 0, locals := 25 }
def f_X9_begin (x1 : Int32) (σ0 : pStt) : Option (Int32 × pStt) := (f_X9_in ((x1 : Int32).toInt64) 65 70).bind (fun u_1 => (if u_1 = 0 then some 0 else some ((x1 - (65 : Int32))) : Option Int32).bind (fun v_2 => (stA σ0 14 60 ((σ0.1 5)) v_2).bind (fun σ_3 => if x1 = 46 then (f_X9_ends 9 0 σ_3).bind (fun u_5 => some (u_5.1, u_5.2)) else if x1 = 112 then (f_X9_ends 3 0 σ_3).bind (fun u_7 => some (u_7.1, u_7.2)) else if x1 = 116 then (f_X9_opens 2 3 σ_3).bind (fun u_9 => some (u_9.1, u_9.2)) else if x1 = 119 then (f_X9_opens 0 1 σ_3).bind (fun u_11 => some (u_11.1, u_11.2)) else if x1 = 120 then (f_X9_opens 1 1 σ_3).bind (fun u_13 => some (u_13.1, u_13.2)) else (f_X9_in ((x1 : Int32).toInt64) 65 70).bind (fun u_14 => (if u_14 = 0 then some ((-6)) else some 5 : Option Int32).bind (fun v_15 => some (v_15, σ_3))))))
set_option maxHeartbeats 4000000 in
set_option maxRecDepth 100000 in
theorem c_X9_begin (l : Launch) (D : va_G) (cy : Nat → ClassId) (o0 : Nat) (q0 : Nat → Nat) (x1 : Int32) (σ0 : pStt) (u : Int32 × pStt) (hf : f_X9_begin x1 σ0 = some u) : CT l yX9_begin cX9_begin 2 (some .int) rmX9_begin D cy [.ref o0, .int x1] [pX9 cy o0 q0 σ0] (some (.int u.1)) [pX9 cy o0 q0 u.2] := by
  refine CT.of (by decide) (Nat.le_of_ble_eq_true rfl) (fun p e s m args below meth c ls A Q hA hQ S hr hlk hl hw => ?_)
  have hl : lv_has ls 2 [(0, .ref o0), (1, .int x1)] := hl
  rw [f_X9_begin] at hf
  refine lv_aload_n S.1 S.2.1 dX9_begin_0 rfl (lv_at hl 0 rfl) ?_
  refine gf_X9_52 S hw 0 rfl dX9_begin_1 ?_
  refine lv_aload_n S.1 S.2.1 dX9_begin_4 rfl (lv_at hl 0 rfl) ?_
  refine gf_X9_129 S hw 0 rfl dX9_begin_5 ?_
  refine lv_iload_n S.1 S.2.1 dX9_begin_8 rfl (lv_at hl 1 rfl) ?_
  refine lv_i2l (v := (x1 : Int32).toInt64) S.1 S.2.1 dX9_begin_9 rfl ?_
  refine lv_ldc2 (v := 65) S.1 S.2.1 S.2.2.2.1 (S.2.2.2.2.wd wd891 rfl) dX9_begin_10 ?_
  refine lv_ldc2 (v := 70) S.1 S.2.1 S.2.2.2.1 (S.2.2.2.2.wd wd892 rfl) dX9_begin_13 ?_
  obtain ⟨u_1, e_u_1, hf⟩ := ob hf
  refine k_X9_in S (S.2.2.2.2.wd wd818 rfl) hw e_u_1 [] rfl (by decide) rfl ⟨rfl, rfl, Nat.le_of_ble_eq_true rfl, Nat.le_of_ble_eq_true rfl⟩ hl.1 (Nat.le_of_ble_eq_true rfl) dX9_begin_16 ⟨Nat.zero_le _, Nat.zero_le _⟩ (fun H locs hw => ?_)
  have hw : PW D A s.heap [pX9 cy o0 q0 σ0] H locs := hw
  obtain ⟨v_2, e_v_2, hf⟩ := ob hf
  have hJ_v_2 : ∀ (H : Heap) (locs : List Loc), PW D A s.heap [pX9 cy o0 q0 σ0] H locs → W p l e rmX9_begin s m args below meth c H locs 0 0 Q (F0 m 30 ls [.int v_2, .int ((σ0.1 5)), .ref ((q0 14))]) := by
    intro H locs hw
    obtain ⟨σ_3, e_σ_3, hf⟩ := ob hf
    refine as_X9_14 S hw 0 rfl e_σ_3 dX9_begin_30 (fun H locs hw => ?_)
    have hw : PW D A s.heap [pX9 cy o0 q0 σ_3] H locs := hw
    refine lv_iload_n S.1 S.2.1 dX9_begin_31 rfl (lv_at hl 1 rfl) ?_
    by_cases c_4 : x1 = 46
    · replace hf := (if_pos c_4).symm.trans hf
      refine lv_lookup (off := 80) (tgt := 112) S.1 S.2.1 dX9_begin_32 (by decide) (by rw [c_4]; rfl) (by decide) ?_
      refine lv_aload_n S.1 S.2.1 dX9_begin_112 rfl (lv_at hl 0 rfl) ?_
      refine lv_bipush (v := 9) S.1 S.2.1 dX9_begin_113 (by decide) ?_
      refine lv_iconst (v := 0) S.1 S.2.1 dX9_begin_115 (by decide) ?_
      obtain ⟨u_5, e_u_5, hf⟩ := ob hf
      refine k_X9_ends S (S.2.2.2.2.wd wd897 rfl) hw e_u_5 [0] rfl (by decide) rfl ⟨rfl, rfl, Nat.le_of_ble_eq_true rfl, Nat.le_of_ble_eq_true rfl⟩ hl.1 (Nat.le_of_ble_eq_true rfl) dX9_begin_116 ⟨Nat.zero_le _, Nat.zero_le _⟩ (fun H locs hw => ?_)
      have hw : PW D A s.heap [pX9 cy o0 q0 u_5.2] H locs := hw
      cases hf
      exact w_iret S hr hlk hA hQ hw dX9_begin_119
    · replace hf := (if_neg c_4).symm.trans hf
      by_cases c_6 : x1 = 112
      · replace hf := (if_pos c_6).symm.trans hf
        refine lv_lookup (off := 73) (tgt := 105) S.1 S.2.1 dX9_begin_32 (by decide) (by rw [c_6]; rfl) (by decide) ?_
        refine lv_aload_n S.1 S.2.1 dX9_begin_105 rfl (lv_at hl 0 rfl) ?_
        refine lv_iconst (v := 3) S.1 S.2.1 dX9_begin_106 (by decide) ?_
        refine lv_iconst (v := 0) S.1 S.2.1 dX9_begin_107 (by decide) ?_
        obtain ⟨u_7, e_u_7, hf⟩ := ob hf
        refine k_X9_ends S (S.2.2.2.2.wd wd897 rfl) hw e_u_7 [0] rfl (by decide) rfl ⟨rfl, rfl, Nat.le_of_ble_eq_true rfl, Nat.le_of_ble_eq_true rfl⟩ hl.1 (Nat.le_of_ble_eq_true rfl) dX9_begin_108 ⟨Nat.zero_le _, Nat.zero_le _⟩ (fun H locs hw => ?_)
        have hw : PW D A s.heap [pX9 cy o0 q0 u_7.2] H locs := hw
        cases hf
        exact w_iret S hr hlk hA hQ hw dX9_begin_111
      · replace hf := (if_neg c_6).symm.trans hf
        by_cases c_8 : x1 = 116
        · replace hf := (if_pos c_8).symm.trans hf
          refine lv_lookup (off := 66) (tgt := 98) S.1 S.2.1 dX9_begin_32 (by decide) (by rw [c_8]; rfl) (by decide) ?_
          refine lv_aload_n S.1 S.2.1 dX9_begin_98 rfl (lv_at hl 0 rfl) ?_
          refine lv_iconst (v := 2) S.1 S.2.1 dX9_begin_99 (by decide) ?_
          refine lv_iconst (v := 3) S.1 S.2.1 dX9_begin_100 (by decide) ?_
          obtain ⟨u_9, e_u_9, hf⟩ := ob hf
          refine k_X9_opens S (S.2.2.2.2.wd wd893 rfl) hw e_u_9 [0] rfl (by decide) rfl ⟨rfl, rfl, Nat.le_of_ble_eq_true rfl, Nat.le_of_ble_eq_true rfl⟩ hl.1 (Nat.le_of_ble_eq_true rfl) dX9_begin_101 ⟨Nat.zero_le _, Nat.zero_le _⟩ (fun H locs hw => ?_)
          have hw : PW D A s.heap [pX9 cy o0 q0 u_9.2] H locs := hw
          cases hf
          exact w_iret S hr hlk hA hQ hw dX9_begin_104
        · replace hf := (if_neg c_8).symm.trans hf
          by_cases c_10 : x1 = 119
          · replace hf := (if_pos c_10).symm.trans hf
            refine lv_lookup (off := 52) (tgt := 84) S.1 S.2.1 dX9_begin_32 (by decide) (by rw [c_10]; rfl) (by decide) ?_
            refine lv_aload_n S.1 S.2.1 dX9_begin_84 rfl (lv_at hl 0 rfl) ?_
            refine lv_iconst (v := 0) S.1 S.2.1 dX9_begin_85 (by decide) ?_
            refine lv_iconst (v := 1) S.1 S.2.1 dX9_begin_86 (by decide) ?_
            obtain ⟨u_11, e_u_11, hf⟩ := ob hf
            refine k_X9_opens S (S.2.2.2.2.wd wd893 rfl) hw e_u_11 [0] rfl (by decide) rfl ⟨rfl, rfl, Nat.le_of_ble_eq_true rfl, Nat.le_of_ble_eq_true rfl⟩ hl.1 (Nat.le_of_ble_eq_true rfl) dX9_begin_87 ⟨Nat.zero_le _, Nat.zero_le _⟩ (fun H locs hw => ?_)
            have hw : PW D A s.heap [pX9 cy o0 q0 u_11.2] H locs := hw
            cases hf
            exact w_iret S hr hlk hA hQ hw dX9_begin_90
          · replace hf := (if_neg c_10).symm.trans hf
            by_cases c_12 : x1 = 120
            · replace hf := (if_pos c_12).symm.trans hf
              refine lv_lookup (off := 59) (tgt := 91) S.1 S.2.1 dX9_begin_32 (by decide) (by rw [c_12]; rfl) (by decide) ?_
              refine lv_aload_n S.1 S.2.1 dX9_begin_91 rfl (lv_at hl 0 rfl) ?_
              refine lv_iconst (v := 1) S.1 S.2.1 dX9_begin_92 (by decide) ?_
              refine lv_iconst (v := 1) S.1 S.2.1 dX9_begin_93 (by decide) ?_
              obtain ⟨u_13, e_u_13, hf⟩ := ob hf
              refine k_X9_opens S (S.2.2.2.2.wd wd893 rfl) hw e_u_13 [0] rfl (by decide) rfl ⟨rfl, rfl, Nat.le_of_ble_eq_true rfl, Nat.le_of_ble_eq_true rfl⟩ hl.1 (Nat.le_of_ble_eq_true rfl) dX9_begin_94 ⟨Nat.zero_le _, Nat.zero_le _⟩ (fun H locs hw => ?_)
              have hw : PW D A s.heap [pX9 cy o0 q0 u_13.2] H locs := hw
              cases hf
              exact w_iret S hr hlk hA hQ hw dX9_begin_97
            · replace hf := (if_neg c_12).symm.trans hf
              have t_c_4 := ne_toInt (k := 46) c_4 (by decide)
              have t_c_6 := ne_toInt (k := 112) c_6 (by decide)
              have t_c_8 := ne_toInt (k := 116) c_8 (by decide)
              have t_c_10 := ne_toInt (k := 119) c_10 (by decide)
              have t_c_12 := ne_toInt (k := 120) c_12 (by decide)
              refine lv_lookup (off := 88) (tgt := 120) S.1 S.2.1 dX9_begin_32 (by decide) (by simp [Op.lookupswitch.offset, Ne.symm t_c_4, Ne.symm t_c_6, Ne.symm t_c_8, Ne.symm t_c_10, Ne.symm t_c_12]) (by decide) ?_
              refine lv_iload_n S.1 S.2.1 dX9_begin_120 rfl (lv_at hl 1 rfl) ?_
              refine lv_i2l (v := (x1 : Int32).toInt64) S.1 S.2.1 dX9_begin_121 rfl ?_
              refine lv_ldc2 (v := 65) S.1 S.2.1 S.2.2.2.1 (S.2.2.2.2.wd wd891 rfl) dX9_begin_122 ?_
              refine lv_ldc2 (v := 70) S.1 S.2.1 S.2.2.2.1 (S.2.2.2.2.wd wd892 rfl) dX9_begin_125 ?_
              obtain ⟨u_14, e_u_14, hf⟩ := ob hf
              refine k_X9_in S (S.2.2.2.2.wd wd818 rfl) hw e_u_14 [] rfl (by decide) rfl ⟨rfl, rfl, Nat.le_of_ble_eq_true rfl, Nat.le_of_ble_eq_true rfl⟩ hl.1 (Nat.le_of_ble_eq_true rfl) dX9_begin_128 ⟨Nat.zero_le _, Nat.zero_le _⟩ (fun H locs hw => ?_)
              have hw : PW D A s.heap [pX9 cy o0 q0 σ_3] H locs := hw
              obtain ⟨v_15, e_v_15, hf⟩ := ob hf
              have hJ_v_15 : ∀ (H : Heap) (locs : List Loc), PW D A s.heap [pX9 cy o0 q0 σ_3] H locs → W p l e rmX9_begin s m args below meth c H locs 0 0 Q (F0 m 140 ls [.int v_15]) := by
                intro H locs hw
                cases hf
                exact w_iret S hr hlk hA hQ hw dX9_begin_140
              replace hf := e_v_15
              clear e_v_15
              refine lv_if_eq (tgt := 138) S.1 S.2.1 dX9_begin_131 (by decide) (fun c_16 => ?_) (fun c_16 => ?_)
              · replace hf := (if_pos c_16).symm.trans hf
                refine lv_bipush (v := (-6)) S.1 S.2.1 dX9_begin_138 (by decide) ?_
                cases hf
                exact hJ_v_15 _ _ hw
              · replace hf := (if_neg c_16).symm.trans hf
                refine lv_iconst (v := 5) S.1 S.2.1 dX9_begin_134 (by decide) ?_
                refine lv_goto (tgt := 140) S.1 S.2.1 dX9_begin_135 (by decide) ?_
                cases hf
                exact hJ_v_15 _ _ hw
  replace hf := e_v_2
  clear e_v_2
  refine lv_if_eq (tgt := 29) S.1 S.2.1 dX9_begin_19 (by decide) (fun c_17 => ?_) (fun c_17 => ?_)
  · replace hf := (if_pos c_17).symm.trans hf
    refine lv_iconst (v := 0) S.1 S.2.1 dX9_begin_29 (by decide) ?_
    cases hf
    exact hJ_v_2 _ _ hw
  · replace hf := (if_neg c_17).symm.trans hf
    refine lv_iload_n S.1 S.2.1 dX9_begin_22 rfl (lv_at hl 1 rfl) ?_
    refine lv_bipush (v := 65) S.1 S.2.1 dX9_begin_23 (by decide) ?_
    refine lv_isub S.1 S.2.1 dX9_begin_25 ?_
    refine lv_goto (tgt := 30) S.1 S.2.1 dX9_begin_26 (by decide) ?_
    cases hf
    exact hJ_v_2 _ _ hw
section
variable {p : Program} {l : Launch} {e : Env} {R : Room} {s : State} {m : MethodId} {args : Array Value} {below : List Frame} {meth : Method} {c : Code} {H : Heap} {locs : List Loc} {cells slots : Nat} {Q : State → Prop} {cc : ByteArray} {pc nL : Nat} {ls : Array Slot} {rest : List Value} {D : va_G} {cy : Nat → ClassId} {A : Nat → Prop} {H0 : Heap} {own : String} {Ps : List va_W}
set_option maxRecDepth 100000 in
theorem k_X9_begin {o0 : Nat} {q0 : Nat → Nat} {x1 : Int32} {σ0 : pStt} {u : Int32 × pStt} {index : Nat} (S : CX p m c cc nL s args own D cy) (hl : (Cond.methodLink own index yX9_begin).before args s = true) (hw : PW D A H0 Ps H locs) (hf : f_X9_begin x1 σ0 = some u) (js : List Nat) (hC : js.map (fun j => Ps[j]?) = [some (pX9 cy o0 q0 σ0)]) (hnd : js.Nodup) (hlen : js.length = 1) (hR : RMok rmX9_begin R 2) (hsize : ls.size = nL) (hrest : (rest.map fun v => v.category).sum ≤ 8) (hdg : decode cc pc = .ok (.invokevirtual index, 3)) (hcs : cells ≤ R.cells ∧ slots ≤ R.slots)
    (kk : ∀ (H1 : Heap) (locs1 : List Loc), PW D A H0 (setAll Ps js [pX9 cy o0 q0 u.2]) H1 locs1 → W p l e R s m args below meth c H1 locs1 cells slots Q (F0 m (pc + 3) ls (.int u.1 :: rest))) : W p l e R s m args below meth c H locs cells slots Q (F0 m pc ls (.int x1 :: .ref o0 :: rest)) :=
  w_callV (n := 1) (ov := (some (.int u.1))) (As := [.int x1]) (Cs := [pX9 cy o0 q0 σ0]) (Cs' := [pX9 cy o0 q0 u.2]) S hw (c_X9_begin l D cy o0 q0 x1 σ0 u hf) (MF.of S.2.2.2.2 wd890 wd79 (by decide)) (S.2.2.2.2.wd wd889 rfl) (S.2.2.2.2.wd wd26 rfl) hl hR js hC hnd hlen rfl rfl rfl rfl hsize rfl hrest hdg hcs kk
end
abbrev rmX9_deed : Room := { frames := 1, cells := 0, slots := 0, locals := 25 }
def f_X9_deed (x1 : Int32) (σ0 : pStt) : Option (Int32 × pStt) := if x1 = 33 then (f_X9_ends 8 0 σ0).bind (fun u_2 => some (u_2.1, u_2.2)) else if x1 = 36 then some (6, σ0) else if x1 = 40 then (f_X9_ends 4 0 σ0).bind (fun u_5 => some (u_5.1, u_5.2)) else if x1 = 41 then (f_X9_ends 5 0 σ0).bind (fun u_7 => some (u_7.1, u_7.2)) else (f_X9_in ((x1 : Int32).toInt64) 97 104).bind (fun u_8 => if u_8 = 0 then some ((-6), σ0) else (f_X9_ends 6 ((x1 - (97 : Int32))) σ0).bind (fun u_10 => some (u_10.1, u_10.2)))
set_option maxHeartbeats 4000000 in
set_option maxRecDepth 100000 in
theorem c_X9_deed (l : Launch) (D : va_G) (cy : Nat → ClassId) (o0 : Nat) (q0 : Nat → Nat) (x1 : Int32) (σ0 : pStt) (u : Int32 × pStt) (hf : f_X9_deed x1 σ0 = some u) : CT l yX9_deed cX9_deed 2 (some .int) rmX9_deed D cy [.ref o0, .int x1] [pX9 cy o0 q0 σ0] (some (.int u.1)) [pX9 cy o0 q0 u.2] := by
  refine CT.of (by decide) (Nat.le_of_ble_eq_true rfl) (fun p e s m args below meth c ls A Q hA hQ S hr hlk hl hw => ?_)
  have hl : lv_has ls 2 [(0, .ref o0), (1, .int x1)] := hl
  rw [f_X9_deed] at hf
  refine lv_iload_n S.1 S.2.1 dX9_deed_0 rfl (lv_at hl 1 rfl) ?_
  by_cases c_1 : x1 = 33
  · replace hf := (if_pos c_1).symm.trans hf
    refine lv_tableIn (off := 68) (tgt := 69) S.1 S.2.1 dX9_deed_1 (by rw [c_1]; decide) (by rw [c_1]; decide) (by rw [c_1]; rfl) (by decide) ?_
    refine lv_aload_n S.1 S.2.1 dX9_deed_69 rfl (lv_at hl 0 rfl) ?_
    refine lv_bipush (v := 8) S.1 S.2.1 dX9_deed_70 (by decide) ?_
    refine lv_iconst (v := 0) S.1 S.2.1 dX9_deed_72 (by decide) ?_
    obtain ⟨u_2, e_u_2, hf⟩ := ob hf
    refine k_X9_ends S (S.2.2.2.2.wd wd897 rfl) hw e_u_2 [0] rfl (by decide) rfl ⟨rfl, rfl, Nat.le_of_ble_eq_true rfl, Nat.le_of_ble_eq_true rfl⟩ hl.1 (Nat.le_of_ble_eq_true rfl) dX9_deed_73 ⟨Nat.zero_le _, Nat.zero_le _⟩ (fun H locs hw => ?_)
    have hw : PW D A s.heap [pX9 cy o0 q0 u_2.2] H locs := hw
    cases hf
    exact w_iret S hr hlk hA hQ hw dX9_deed_76
  · replace hf := (if_neg c_1).symm.trans hf
    by_cases c_3 : x1 = 36
    · replace hf := (if_pos c_3).symm.trans hf
      refine lv_tableIn (off := 65) (tgt := 66) S.1 S.2.1 dX9_deed_1 (by rw [c_3]; decide) (by rw [c_3]; decide) (by rw [c_3]; rfl) (by decide) ?_
      refine lv_bipush (v := 6) S.1 S.2.1 dX9_deed_66 (by decide) ?_
      cases hf
      exact w_iret S hr hlk hA hQ hw dX9_deed_68
    · replace hf := (if_neg c_3).symm.trans hf
      by_cases c_4 : x1 = 40
      · replace hf := (if_pos c_4).symm.trans hf
        refine lv_tableIn (off := 51) (tgt := 52) S.1 S.2.1 dX9_deed_1 (by rw [c_4]; decide) (by rw [c_4]; decide) (by rw [c_4]; rfl) (by decide) ?_
        refine lv_aload_n S.1 S.2.1 dX9_deed_52 rfl (lv_at hl 0 rfl) ?_
        refine lv_iconst (v := 4) S.1 S.2.1 dX9_deed_53 (by decide) ?_
        refine lv_iconst (v := 0) S.1 S.2.1 dX9_deed_54 (by decide) ?_
        obtain ⟨u_5, e_u_5, hf⟩ := ob hf
        refine k_X9_ends S (S.2.2.2.2.wd wd897 rfl) hw e_u_5 [0] rfl (by decide) rfl ⟨rfl, rfl, Nat.le_of_ble_eq_true rfl, Nat.le_of_ble_eq_true rfl⟩ hl.1 (Nat.le_of_ble_eq_true rfl) dX9_deed_55 ⟨Nat.zero_le _, Nat.zero_le _⟩ (fun H locs hw => ?_)
        have hw : PW D A s.heap [pX9 cy o0 q0 u_5.2] H locs := hw
        cases hf
        exact w_iret S hr hlk hA hQ hw dX9_deed_58
      · replace hf := (if_neg c_4).symm.trans hf
        by_cases c_6 : x1 = 41
        · replace hf := (if_pos c_6).symm.trans hf
          refine lv_tableIn (off := 58) (tgt := 59) S.1 S.2.1 dX9_deed_1 (by rw [c_6]; decide) (by rw [c_6]; decide) (by rw [c_6]; rfl) (by decide) ?_
          refine lv_aload_n S.1 S.2.1 dX9_deed_59 rfl (lv_at hl 0 rfl) ?_
          refine lv_iconst (v := 5) S.1 S.2.1 dX9_deed_60 (by decide) ?_
          refine lv_iconst (v := 0) S.1 S.2.1 dX9_deed_61 (by decide) ?_
          obtain ⟨u_7, e_u_7, hf⟩ := ob hf
          refine k_X9_ends S (S.2.2.2.2.wd wd897 rfl) hw e_u_7 [0] rfl (by decide) rfl ⟨rfl, rfl, Nat.le_of_ble_eq_true rfl, Nat.le_of_ble_eq_true rfl⟩ hl.1 (Nat.le_of_ble_eq_true rfl) dX9_deed_62 ⟨Nat.zero_le _, Nat.zero_le _⟩ (fun H locs hw => ?_)
          have hw : PW D A s.heap [pX9 cy o0 q0 u_7.2] H locs := hw
          cases hf
          exact w_iret S hr hlk hA hQ hw dX9_deed_65
        · replace hf := (if_neg c_6).symm.trans hf
          have t_c_1 := ne_toInt (k := 33) c_1 (by decide)
          have t_c_3 := ne_toInt (k := 36) c_3 (by decide)
          have t_c_4 := ne_toInt (k := 40) c_4 (by decide)
          have t_c_6 := ne_toInt (k := 41) c_6 (by decide)
          refine w_tabD (tgt := 77) S.1 S.2.1 dX9_deed_1 ?_ (by decide) ?_
          · by_cases hh : (x1 : Int32).toInt < 33 ∨ 41 < (x1 : Int32).toInt
            · exact Or.inl hh
            · refine Or.inr ⟨by omega, by omega, ?_⟩
              have h3 : (x1 : Int32).toInt = 34 ∨ (x1 : Int32).toInt = 35 ∨ (x1 : Int32).toInt = 37 ∨ (x1 : Int32).toInt = 38 ∨ (x1 : Int32).toInt = 39 := by omega
              rcases h3 with e3 | e3 | e3 | e3 | e3 <;> (rw [e3]; rfl)
          ·
            refine lv_iload_n S.1 S.2.1 dX9_deed_77 rfl (lv_at hl 1 rfl) ?_
            refine lv_i2l (v := (x1 : Int32).toInt64) S.1 S.2.1 dX9_deed_78 rfl ?_
            refine lv_ldc2 (v := 97) S.1 S.2.1 S.2.2.2.1 (S.2.2.2.2.wd wd883 rfl) dX9_deed_79 ?_
            refine lv_ldc2 (v := 104) S.1 S.2.1 S.2.2.2.1 (S.2.2.2.2.wd wd884 rfl) dX9_deed_82 ?_
            obtain ⟨u_8, e_u_8, hf⟩ := ob hf
            refine k_X9_in S (S.2.2.2.2.wd wd818 rfl) hw e_u_8 [] rfl (by decide) rfl ⟨rfl, rfl, Nat.le_of_ble_eq_true rfl, Nat.le_of_ble_eq_true rfl⟩ hl.1 (Nat.le_of_ble_eq_true rfl) dX9_deed_85 ⟨Nat.zero_le _, Nat.zero_le _⟩ (fun H locs hw => ?_)
            have hw : PW D A s.heap [pX9 cy o0 q0 σ0] H locs := hw
            refine lv_if_eq (tgt := 104) S.1 S.2.1 dX9_deed_88 (by decide) (fun c_9 => ?_) (fun c_9 => ?_)
            · replace hf := (if_pos c_9).symm.trans hf
              refine lv_bipush (v := (-6)) S.1 S.2.1 dX9_deed_104 (by decide) ?_
              cases hf
              exact w_iret S hr hlk hA hQ hw dX9_deed_106
            · replace hf := (if_neg c_9).symm.trans hf
              refine lv_aload_n S.1 S.2.1 dX9_deed_91 rfl (lv_at hl 0 rfl) ?_
              refine lv_bipush (v := 6) S.1 S.2.1 dX9_deed_92 (by decide) ?_
              refine lv_iload_n S.1 S.2.1 dX9_deed_94 rfl (lv_at hl 1 rfl) ?_
              refine lv_bipush (v := 97) S.1 S.2.1 dX9_deed_95 (by decide) ?_
              refine lv_isub S.1 S.2.1 dX9_deed_97 ?_
              obtain ⟨u_10, e_u_10, hf⟩ := ob hf
              refine k_X9_ends S (S.2.2.2.2.wd wd897 rfl) hw e_u_10 [0] rfl (by decide) rfl ⟨rfl, rfl, Nat.le_of_ble_eq_true rfl, Nat.le_of_ble_eq_true rfl⟩ hl.1 (Nat.le_of_ble_eq_true rfl) dX9_deed_98 ⟨Nat.zero_le _, Nat.zero_le _⟩ (fun H locs hw => ?_)
              have hw : PW D A s.heap [pX9 cy o0 q0 u_10.2] H locs := hw
              refine lv_goto (tgt := 106) S.1 S.2.1 dX9_deed_101 (by decide) ?_
              cases hf
              exact w_iret S hr hlk hA hQ hw dX9_deed_106
section
variable {p : Program} {l : Launch} {e : Env} {R : Room} {s : State} {m : MethodId} {args : Array Value} {below : List Frame} {meth : Method} {c : Code} {H : Heap} {locs : List Loc} {cells slots : Nat} {Q : State → Prop} {cc : ByteArray} {pc nL : Nat} {ls : Array Slot} {rest : List Value} {D : va_G} {cy : Nat → ClassId} {A : Nat → Prop} {H0 : Heap} {own : String} {Ps : List va_W}
set_option maxRecDepth 100000 in
theorem k_X9_deed {o0 : Nat} {q0 : Nat → Nat} {x1 : Int32} {σ0 : pStt} {u : Int32 × pStt} {index : Nat} (S : CX p m c cc nL s args own D cy) (hl : (Cond.methodLink own index yX9_deed).before args s = true) (hw : PW D A H0 Ps H locs) (hf : f_X9_deed x1 σ0 = some u) (js : List Nat) (hC : js.map (fun j => Ps[j]?) = [some (pX9 cy o0 q0 σ0)]) (hnd : js.Nodup) (hlen : js.length = 1) (hR : RMok rmX9_deed R 2) (hsize : ls.size = nL) (hrest : (rest.map fun v => v.category).sum ≤ 8) (hdg : decode cc pc = .ok (.invokevirtual index, 3)) (hcs : cells ≤ R.cells ∧ slots ≤ R.slots)
    (kk : ∀ (H1 : Heap) (locs1 : List Loc), PW D A H0 (setAll Ps js [pX9 cy o0 q0 u.2]) H1 locs1 → W p l e R s m args below meth c H1 locs1 cells slots Q (F0 m (pc + 3) ls (.int u.1 :: rest))) : W p l e R s m args below meth c H locs cells slots Q (F0 m pc ls (.int x1 :: .ref o0 :: rest)) :=
  w_callV (n := 1) (ov := (some (.int u.1))) (As := [.int x1]) (Cs := [pX9 cy o0 q0 σ0]) (Cs' := [pX9 cy o0 q0 u.2]) S hw (c_X9_deed l D cy o0 q0 x1 σ0 u hf) (MF.of S.2.2.2.2 wd908 wd79 (by decide)) (S.2.2.2.2.wd wd907 rfl) (S.2.2.2.2.wd wd30 rfl) hl hR js hC hnd hlen rfl rfl rfl rfl hsize rfl hrest hdg hcs kk
end
abbrev rmX9_begun : Room := { frames := 0, cells := 0, slots := 0, locals := 0 }
def f_X9_begun (x1 : Int32) (x2 : Int32) (σ0 : pStt) : Option (Int32 × pStt) := (stA σ0 14 60 ((σ0.1 5)) x1).bind (fun σ_1 => some (x2, σ_1))
set_option maxHeartbeats 4000000 in
set_option maxRecDepth 100000 in
theorem c_X9_begun (l : Launch) (D : va_G) (cy : Nat → ClassId) (o0 : Nat) (q0 : Nat → Nat) (x1 : Int32) (x2 : Int32) (σ0 : pStt) (u : Int32 × pStt) (hf : f_X9_begun x1 x2 σ0 = some u) : CT l yX9_begun cX9_begun 3 (some .int) rmX9_begun D cy [.ref o0, .int x1, .int x2] [pX9 cy o0 q0 σ0] (some (.int u.1)) [pX9 cy o0 q0 u.2] := by
  refine CT.of (by decide) (Nat.le_of_ble_eq_true rfl) (fun p e s m args below meth c ls A Q hA hQ S hr hlk hl hw => ?_)
  have hl : lv_has ls 3 [(0, .ref o0), (1, .int x1), (2, .int x2)] := hl
  rw [f_X9_begun] at hf
  refine lv_aload_n S.1 S.2.1 dX9_begun_0 rfl (lv_at hl 0 rfl) ?_
  refine gf_X9_52 S hw 0 rfl dX9_begun_1 ?_
  refine lv_aload_n S.1 S.2.1 dX9_begun_4 rfl (lv_at hl 0 rfl) ?_
  refine gf_X9_129 S hw 0 rfl dX9_begun_5 ?_
  refine lv_iload_n S.1 S.2.1 dX9_begun_8 rfl (lv_at hl 1 rfl) ?_
  obtain ⟨σ_1, e_σ_1, hf⟩ := ob hf
  refine as_X9_14 S hw 0 rfl e_σ_1 dX9_begun_9 (fun H locs hw => ?_)
  have hw : PW D A s.heap [pX9 cy o0 q0 σ_1] H locs := hw
  refine lv_iload_n S.1 S.2.1 dX9_begun_10 rfl (lv_at hl 2 rfl) ?_
  cases hf
  exact w_iret S hr hlk hA hQ hw dX9_begun_11
section
variable {p : Program} {l : Launch} {e : Env} {R : Room} {s : State} {m : MethodId} {args : Array Value} {below : List Frame} {meth : Method} {c : Code} {H : Heap} {locs : List Loc} {cells slots : Nat} {Q : State → Prop} {cc : ByteArray} {pc nL : Nat} {ls : Array Slot} {rest : List Value} {D : va_G} {cy : Nat → ClassId} {A : Nat → Prop} {H0 : Heap} {own : String} {Ps : List va_W}
set_option maxRecDepth 100000 in
theorem k_X9_begun {o0 : Nat} {q0 : Nat → Nat} {x1 : Int32} {x2 : Int32} {σ0 : pStt} {u : Int32 × pStt} {index : Nat} (S : CX p m c cc nL s args own D cy) (hl : (Cond.methodLink own index yX9_begun).before args s = true) (hw : PW D A H0 Ps H locs) (hf : f_X9_begun x1 x2 σ0 = some u) (js : List Nat) (hC : js.map (fun j => Ps[j]?) = [some (pX9 cy o0 q0 σ0)]) (hnd : js.Nodup) (hlen : js.length = 1) (hR : RMok rmX9_begun R 3) (hsize : ls.size = nL) (hrest : (rest.map fun v => v.category).sum ≤ 8) (hdg : decode cc pc = .ok (.invokevirtual index, 3)) (hcs : cells ≤ R.cells ∧ slots ≤ R.slots)
    (kk : ∀ (H1 : Heap) (locs1 : List Loc), PW D A H0 (setAll Ps js [pX9 cy o0 q0 u.2]) H1 locs1 → W p l e R s m args below meth c H1 locs1 cells slots Q (F0 m (pc + 3) ls (.int u.1 :: rest))) : W p l e R s m args below meth c H locs cells slots Q (F0 m pc ls (.int x2 :: .int x1 :: .ref o0 :: rest)) :=
  w_callV (n := 2) (ov := (some (.int u.1))) (As := [.int x1, .int x2]) (Cs := [pX9 cy o0 q0 σ0]) (Cs' := [pX9 cy o0 q0 u.2]) S hw (c_X9_begun l D cy o0 q0 x1 x2 σ0 u hf) (MF.of S.2.2.2.2 wd904 wd79 (by decide)) (S.2.2.2.2.wd wd903 rfl) (S.2.2.2.2.wd wd29 rfl) hl hR js hC hnd hlen rfl rfl rfl rfl hsize rfl hrest hdg hcs kk
end
abbrev rmX9_readOn : Room := { frames := 2, cells := 0, slots := 0, locals := 46 }
def f_X9_readOn (x1 : Int32) (x2 : Int32) (σ0 : pStt) : Option (Int32 × pStt) := (f_X9_in ((x2 : Int32).toInt64) 97 104).bind (fun u_1 => (f_X9_in ((x2 : Int32).toInt64) 48 55).bind (fun u_2 => if x1 = 0 then (f_X9_begin x2 σ0).bind (fun u_4 => some (u_4.1, u_4.2)) else if x1 = 1 then if u_1 = 0 then some ((-6), σ0) else (f_X9_begun ((x2 - (97 : Int32))) 2 σ0).bind (fun u_7 => some (u_7.1, u_7.2)) else if x1 = 3 then if u_2 = 0 then some ((-6), σ0) else (f_X9_begun ((x2 - (48 : Int32))) 4 σ0).bind (fun u_10 => some (u_10.1, u_10.2)) else if x1 = 5 then (f_X9_deed x2 σ0).bind (fun u_12 => some (u_12.1, u_12.2)) else if x1 = 6 then if u_2 = 0 then some ((-6), σ0) else (f_X9_ends 7 ((x2 - (48 : Int32))) σ0).bind (fun u_15 => some (u_15.1, u_15.2)) else if u_1 = 0 then some ((-6), σ0) else (ld (σ0.2 13) 60 ((σ0.1 5))).bind (fun x_17 => (f_X9_ends x_17 ((x2 - (97 : Int32))) σ0).bind (fun u_18 => some (u_18.1, u_18.2)))))
set_option maxHeartbeats 4000000 in
set_option maxRecDepth 100000 in
theorem c_X9_readOn (l : Launch) (D : va_G) (cy : Nat → ClassId) (o0 : Nat) (q0 : Nat → Nat) (x1 : Int32) (x2 : Int32) (σ0 : pStt) (u : Int32 × pStt) (hf : f_X9_readOn x1 x2 σ0 = some u) : CT l yX9_readOn cX9_readOn 5 (some .int) rmX9_readOn D cy [.ref o0, .int x1, .int x2] [pX9 cy o0 q0 σ0] (some (.int u.1)) [pX9 cy o0 q0 u.2] := by
  refine CT.of (by decide) (Nat.le_of_ble_eq_true rfl) (fun p e s m args below meth c ls A Q hA hQ S hr hlk hl hw => ?_)
  have hl : lv_has ls 5 [(0, .ref o0), (1, .int x1), (2, .int x2)] := hl
  rw [f_X9_readOn] at hf
  refine lv_iload_n S.1 S.2.1 dX9_readOn_0 rfl (lv_at hl 2 rfl) ?_
  refine lv_i2l (v := (x2 : Int32).toInt64) S.1 S.2.1 dX9_readOn_1 rfl ?_
  refine lv_ldc2 (v := 97) S.1 S.2.1 S.2.2.2.1 (S.2.2.2.2.wd wd883 rfl) dX9_readOn_2 ?_
  refine lv_ldc2 (v := 104) S.1 S.2.1 S.2.2.2.1 (S.2.2.2.2.wd wd884 rfl) dX9_readOn_5 ?_
  obtain ⟨u_1, e_u_1, hf⟩ := ob hf
  refine k_X9_in S (S.2.2.2.2.wd wd818 rfl) hw e_u_1 [] rfl (by decide) rfl ⟨rfl, rfl, Nat.le_of_ble_eq_true rfl, Nat.le_of_ble_eq_true rfl⟩ hl.1 (Nat.le_of_ble_eq_true rfl) dX9_readOn_8 ⟨Nat.zero_le _, Nat.zero_le _⟩ (fun H locs hw => ?_)
  have hw : PW D A s.heap [pX9 cy o0 q0 σ0] H locs := hw
  refine lv_istore_n (lv' := [(3, .int u_1), (0, .ref o0), (1, .int x1), (2, .int x2)]) S.1 S.2.1 dX9_readOn_11 rfl hl (by decide) rfl (fun ls hl => ?_)
  refine lv_iload_n S.1 S.2.1 dX9_readOn_12 rfl (lv_at hl 3 rfl) ?_
  refine lv_i2l (v := (x2 : Int32).toInt64) S.1 S.2.1 dX9_readOn_13 rfl ?_
  refine lv_ldc2 (v := 48) S.1 S.2.1 S.2.2.2.1 (S.2.2.2.2.wd wd885 rfl) dX9_readOn_14 ?_
  refine lv_ldc2 (v := 55) S.1 S.2.1 S.2.2.2.1 (S.2.2.2.2.wd wd886 rfl) dX9_readOn_17 ?_
  obtain ⟨u_2, e_u_2, hf⟩ := ob hf
  refine k_X9_in S (S.2.2.2.2.wd wd818 rfl) hw e_u_2 [] rfl (by decide) rfl ⟨rfl, rfl, Nat.le_of_ble_eq_true rfl, Nat.le_of_ble_eq_true rfl⟩ hl.1 (Nat.le_of_ble_eq_true rfl) dX9_readOn_20 ⟨Nat.zero_le _, Nat.zero_le _⟩ (fun H locs hw => ?_)
  have hw : PW D A s.heap [pX9 cy o0 q0 σ0] H locs := hw
  refine lv_istore (lv' := [(4, .int u_2), (3, .int u_1), (0, .ref o0), (1, .int x1), (2, .int x2)]) S.1 S.2.1 dX9_readOn_23 hl (by decide) rfl (fun ls hl => ?_)
  refine lv_iload_n S.1 S.2.1 dX9_readOn_25 rfl (lv_at hl 3 rfl) ?_
  by_cases c_3 : x1 = 0
  · replace hf := (if_pos c_3).symm.trans hf
    refine lv_tableIn (off := 42) (tgt := 68) S.1 S.2.1 dX9_readOn_26 (by rw [c_3]; decide) (by rw [c_3]; decide) (by rw [c_3]; rfl) (by decide) ?_
    refine lv_aload_n S.1 S.2.1 dX9_readOn_68 rfl (lv_at hl 2 rfl) ?_
    refine lv_iload_n S.1 S.2.1 dX9_readOn_69 rfl (lv_at hl 4 rfl) ?_
    obtain ⟨u_4, e_u_4, hf⟩ := ob hf
    refine k_X9_begin S (S.2.2.2.2.wd wd887 rfl) hw e_u_4 [0] rfl (by decide) rfl ⟨rfl, rfl, Nat.le_of_ble_eq_true rfl, Nat.le_of_ble_eq_true rfl⟩ hl.1 (Nat.le_of_ble_eq_true rfl) dX9_readOn_70 ⟨Nat.zero_le _, Nat.zero_le _⟩ (fun H locs hw => ?_)
    have hw : PW D A s.heap [pX9 cy o0 q0 u_4.2] H locs := hw
    cases hf
    exact w_iret S hr hlk hA hQ hw dX9_readOn_73
  · replace hf := (if_neg c_3).symm.trans hf
    by_cases c_5 : x1 = 1
    · replace hf := (if_pos c_5).symm.trans hf
      refine lv_tableIn (off := 48) (tgt := 74) S.1 S.2.1 dX9_readOn_26 (by rw [c_5]; decide) (by rw [c_5]; decide) (by rw [c_5]; rfl) (by decide) ?_
      refine lv_iload_n S.1 S.2.1 dX9_readOn_74 rfl (lv_at hl 1 rfl) ?_
      refine lv_if_eq (tgt := 90) S.1 S.2.1 dX9_readOn_75 (by decide) (fun c_6 => ?_) (fun c_6 => ?_)
      · replace hf := (if_pos c_6).symm.trans hf
        refine lv_bipush (v := (-6)) S.1 S.2.1 dX9_readOn_90 (by decide) ?_
        cases hf
        exact w_iret S hr hlk hA hQ hw dX9_readOn_92
      · replace hf := (if_neg c_6).symm.trans hf
        refine lv_aload_n S.1 S.2.1 dX9_readOn_78 rfl (lv_at hl 2 rfl) ?_
        refine lv_iload_n S.1 S.2.1 dX9_readOn_79 rfl (lv_at hl 4 rfl) ?_
        refine lv_bipush (v := 97) S.1 S.2.1 dX9_readOn_80 (by decide) ?_
        refine lv_isub S.1 S.2.1 dX9_readOn_82 ?_
        refine lv_iconst (v := 2) S.1 S.2.1 dX9_readOn_83 (by decide) ?_
        obtain ⟨u_7, e_u_7, hf⟩ := ob hf
        refine k_X9_begun S (S.2.2.2.2.wd wd901 rfl) hw e_u_7 [0] rfl (by decide) rfl ⟨rfl, rfl, Nat.le_of_ble_eq_true rfl, Nat.le_of_ble_eq_true rfl⟩ hl.1 (Nat.le_of_ble_eq_true rfl) dX9_readOn_84 ⟨Nat.zero_le _, Nat.zero_le _⟩ (fun H locs hw => ?_)
        have hw : PW D A s.heap [pX9 cy o0 q0 u_7.2] H locs := hw
        refine lv_goto (tgt := 92) S.1 S.2.1 dX9_readOn_87 (by decide) ?_
        cases hf
        exact w_iret S hr hlk hA hQ hw dX9_readOn_92
    · replace hf := (if_neg c_5).symm.trans hf
      by_cases c_8 : x1 = 3
      · replace hf := (if_pos c_8).symm.trans hf
        refine lv_tableIn (off := 67) (tgt := 93) S.1 S.2.1 dX9_readOn_26 (by rw [c_8]; decide) (by rw [c_8]; decide) (by rw [c_8]; rfl) (by decide) ?_
        refine lv_iload S.1 S.2.1 dX9_readOn_93 (lv_at hl 0 rfl) ?_
        refine lv_if_eq (tgt := 110) S.1 S.2.1 dX9_readOn_95 (by decide) (fun c_9 => ?_) (fun c_9 => ?_)
        · replace hf := (if_pos c_9).symm.trans hf
          refine lv_bipush (v := (-6)) S.1 S.2.1 dX9_readOn_110 (by decide) ?_
          cases hf
          exact w_iret S hr hlk hA hQ hw dX9_readOn_112
        · replace hf := (if_neg c_9).symm.trans hf
          refine lv_aload_n S.1 S.2.1 dX9_readOn_98 rfl (lv_at hl 2 rfl) ?_
          refine lv_iload_n S.1 S.2.1 dX9_readOn_99 rfl (lv_at hl 4 rfl) ?_
          refine lv_bipush (v := 48) S.1 S.2.1 dX9_readOn_100 (by decide) ?_
          refine lv_isub S.1 S.2.1 dX9_readOn_102 ?_
          refine lv_iconst (v := 4) S.1 S.2.1 dX9_readOn_103 (by decide) ?_
          obtain ⟨u_10, e_u_10, hf⟩ := ob hf
          refine k_X9_begun S (S.2.2.2.2.wd wd901 rfl) hw e_u_10 [0] rfl (by decide) rfl ⟨rfl, rfl, Nat.le_of_ble_eq_true rfl, Nat.le_of_ble_eq_true rfl⟩ hl.1 (Nat.le_of_ble_eq_true rfl) dX9_readOn_104 ⟨Nat.zero_le _, Nat.zero_le _⟩ (fun H locs hw => ?_)
          have hw : PW D A s.heap [pX9 cy o0 q0 u_10.2] H locs := hw
          refine lv_goto (tgt := 112) S.1 S.2.1 dX9_readOn_107 (by decide) ?_
          cases hf
          exact w_iret S hr hlk hA hQ hw dX9_readOn_112
      · replace hf := (if_neg c_8).symm.trans hf
        by_cases c_11 : x1 = 5
        · replace hf := (if_pos c_11).symm.trans hf
          refine lv_tableIn (off := 87) (tgt := 113) S.1 S.2.1 dX9_readOn_26 (by rw [c_11]; decide) (by rw [c_11]; decide) (by rw [c_11]; rfl) (by decide) ?_
          refine lv_aload_n S.1 S.2.1 dX9_readOn_113 rfl (lv_at hl 2 rfl) ?_
          refine lv_iload_n S.1 S.2.1 dX9_readOn_114 rfl (lv_at hl 4 rfl) ?_
          obtain ⟨u_12, e_u_12, hf⟩ := ob hf
          refine k_X9_deed S (S.2.2.2.2.wd wd905 rfl) hw e_u_12 [0] rfl (by decide) rfl ⟨rfl, rfl, Nat.le_of_ble_eq_true rfl, Nat.le_of_ble_eq_true rfl⟩ hl.1 (Nat.le_of_ble_eq_true rfl) dX9_readOn_115 ⟨Nat.zero_le _, Nat.zero_le _⟩ (fun H locs hw => ?_)
          have hw : PW D A s.heap [pX9 cy o0 q0 u_12.2] H locs := hw
          cases hf
          exact w_iret S hr hlk hA hQ hw dX9_readOn_118
        · replace hf := (if_neg c_11).symm.trans hf
          by_cases c_13 : x1 = 6
          · replace hf := (if_pos c_13).symm.trans hf
            refine lv_tableIn (off := 93) (tgt := 119) S.1 S.2.1 dX9_readOn_26 (by rw [c_13]; decide) (by rw [c_13]; decide) (by rw [c_13]; rfl) (by decide) ?_
            refine lv_iload S.1 S.2.1 dX9_readOn_119 (lv_at hl 0 rfl) ?_
            refine lv_if_eq (tgt := 137) S.1 S.2.1 dX9_readOn_121 (by decide) (fun c_14 => ?_) (fun c_14 => ?_)
            · replace hf := (if_pos c_14).symm.trans hf
              refine lv_bipush (v := (-6)) S.1 S.2.1 dX9_readOn_137 (by decide) ?_
              cases hf
              exact w_iret S hr hlk hA hQ hw dX9_readOn_139
            · replace hf := (if_neg c_14).symm.trans hf
              refine lv_aload_n S.1 S.2.1 dX9_readOn_124 rfl (lv_at hl 2 rfl) ?_
              refine lv_bipush (v := 7) S.1 S.2.1 dX9_readOn_125 (by decide) ?_
              refine lv_iload_n S.1 S.2.1 dX9_readOn_127 rfl (lv_at hl 4 rfl) ?_
              refine lv_bipush (v := 48) S.1 S.2.1 dX9_readOn_128 (by decide) ?_
              refine lv_isub S.1 S.2.1 dX9_readOn_130 ?_
              obtain ⟨u_15, e_u_15, hf⟩ := ob hf
              refine k_X9_ends S (S.2.2.2.2.wd wd897 rfl) hw e_u_15 [0] rfl (by decide) rfl ⟨rfl, rfl, Nat.le_of_ble_eq_true rfl, Nat.le_of_ble_eq_true rfl⟩ hl.1 (Nat.le_of_ble_eq_true rfl) dX9_readOn_131 ⟨Nat.zero_le _, Nat.zero_le _⟩ (fun H locs hw => ?_)
              have hw : PW D A s.heap [pX9 cy o0 q0 u_15.2] H locs := hw
              refine lv_goto (tgt := 139) S.1 S.2.1 dX9_readOn_134 (by decide) ?_
              cases hf
              exact w_iret S hr hlk hA hQ hw dX9_readOn_139
          · replace hf := (if_neg c_13).symm.trans hf
            have t_c_3 := ne_toInt (k := 0) c_3 (by decide)
            have t_c_5 := ne_toInt (k := 1) c_5 (by decide)
            have t_c_8 := ne_toInt (k := 3) c_8 (by decide)
            have t_c_11 := ne_toInt (k := 5) c_11 (by decide)
            have t_c_13 := ne_toInt (k := 6) c_13 (by decide)
            refine w_tabD (tgt := 140) S.1 S.2.1 dX9_readOn_26 ?_ (by decide) ?_
            · by_cases hh : (x1 : Int32).toInt < 0 ∨ 6 < (x1 : Int32).toInt
              · exact Or.inl hh
              · refine Or.inr ⟨by omega, by omega, ?_⟩
                have h3 : (x1 : Int32).toInt = 2 ∨ (x1 : Int32).toInt = 4 := by omega
                rcases h3 with e3 | e3 <;> (rw [e3]; rfl)
            ·
              refine lv_iload_n S.1 S.2.1 dX9_readOn_140 rfl (lv_at hl 1 rfl) ?_
              refine lv_if_eq (tgt := 164) S.1 S.2.1 dX9_readOn_141 (by decide) (fun c_16 => ?_) (fun c_16 => ?_)
              · replace hf := (if_pos c_16).symm.trans hf
                refine lv_bipush (v := (-6)) S.1 S.2.1 dX9_readOn_164 (by decide) ?_
                cases hf
                exact w_iret S hr hlk hA hQ hw dX9_readOn_166
              · replace hf := (if_neg c_16).symm.trans hf
                refine lv_aload_n S.1 S.2.1 dX9_readOn_144 rfl (lv_at hl 2 rfl) ?_
                refine lv_aload_n S.1 S.2.1 dX9_readOn_145 rfl (lv_at hl 2 rfl) ?_
                refine gf_X9_49 S hw 0 rfl dX9_readOn_146 ?_
                refine lv_aload_n S.1 S.2.1 dX9_readOn_149 rfl (lv_at hl 2 rfl) ?_
                refine gf_X9_129 S hw 0 rfl dX9_readOn_150 ?_
                obtain ⟨x_17, e_x_17, hf⟩ := ob hf
                refine al_X9_13 S hw 0 rfl e_x_17 dX9_readOn_153 ?_
                refine lv_iload_n S.1 S.2.1 dX9_readOn_154 rfl (lv_at hl 4 rfl) ?_
                refine lv_bipush (v := 97) S.1 S.2.1 dX9_readOn_155 (by decide) ?_
                refine lv_isub S.1 S.2.1 dX9_readOn_157 ?_
                obtain ⟨u_18, e_u_18, hf⟩ := ob hf
                refine k_X9_ends S (S.2.2.2.2.wd wd897 rfl) hw e_u_18 [0] rfl (by decide) rfl ⟨rfl, rfl, Nat.le_of_ble_eq_true rfl, Nat.le_of_ble_eq_true rfl⟩ hl.1 (Nat.le_of_ble_eq_true rfl) dX9_readOn_158 ⟨Nat.zero_le _, Nat.zero_le _⟩ (fun H locs hw => ?_)
                have hw : PW D A s.heap [pX9 cy o0 q0 u_18.2] H locs := hw
                refine lv_goto (tgt := 166) S.1 S.2.1 dX9_readOn_161 (by decide) ?_
                cases hf
                exact w_iret S hr hlk hA hQ hw dX9_readOn_166
section
variable {p : Program} {l : Launch} {e : Env} {R : Room} {s : State} {m : MethodId} {args : Array Value} {below : List Frame} {meth : Method} {c : Code} {H : Heap} {locs : List Loc} {cells slots : Nat} {Q : State → Prop} {cc : ByteArray} {pc nL : Nat} {ls : Array Slot} {rest : List Value} {D : va_G} {cy : Nat → ClassId} {A : Nat → Prop} {H0 : Heap} {own : String} {Ps : List va_W}
set_option maxRecDepth 100000 in
theorem k_X9_readOn {o0 : Nat} {q0 : Nat → Nat} {x1 : Int32} {x2 : Int32} {σ0 : pStt} {u : Int32 × pStt} {index : Nat} (S : CX p m c cc nL s args own D cy) (hl : (Cond.methodLink own index yX9_readOn).before args s = true) (hw : PW D A H0 Ps H locs) (hf : f_X9_readOn x1 x2 σ0 = some u) (js : List Nat) (hC : js.map (fun j => Ps[j]?) = [some (pX9 cy o0 q0 σ0)]) (hnd : js.Nodup) (hlen : js.length = 1) (hR : RMok rmX9_readOn R 5) (hsize : ls.size = nL) (hrest : (rest.map fun v => v.category).sum ≤ 8) (hdg : decode cc pc = .ok (.invokevirtual index, 3)) (hcs : cells ≤ R.cells ∧ slots ≤ R.slots)
    (kk : ∀ (H1 : Heap) (locs1 : List Loc), PW D A H0 (setAll Ps js [pX9 cy o0 q0 u.2]) H1 locs1 → W p l e R s m args below meth c H1 locs1 cells slots Q (F0 m (pc + 3) ls (.int u.1 :: rest))) : W p l e R s m args below meth c H locs cells slots Q (F0 m pc ls (.int x2 :: .int x1 :: .ref o0 :: rest)) :=
  w_callV (n := 2) (ov := (some (.int u.1))) (As := [.int x1, .int x2]) (Cs := [pX9 cy o0 q0 σ0]) (Cs' := [pX9 cy o0 q0 u.2]) S hw (c_X9_readOn l D cy o0 q0 x1 x2 σ0 u hf) (MF.of S.2.2.2.2 wd882 wd79 (by decide)) (S.2.2.2.2.wd wd881 rfl) (S.2.2.2.2.wd wd25 rfl) hl hR js hC hnd hlen rfl rfl rfl rfl hsize rfl hrest hdg hcs kk
end
abbrev rmX9_fault : Room := { frames := 3, cells := 0, slots := 0, locals := 70 }
def fl_X9_fault_9   : Nat → Int32 → Int32 → pStt → Option ((Int32 × pStt) ⊕ (Int32 × pStt))
  | 0, _, _, _ => none
  | n + 1, y1, y2, σ0 => if (σ0.1 4) ≤ y2 then some (.inr ((y1, σ0))) else (ld (σ0.2 12) 60 y2).bind (fun x_3 => (f_X9_readOn y1 x_3 σ0).bind (fun u_4 => if 0 ≤ u_4.1 then fl_X9_fault_9 n u_4.1 ((y2 + 1)) u_4.2 else some (.inl ((y2, u_4.2)))))
def f_X9_fault (σ0 : pStt) : Option (Int32 × pStt) := (some (sI σ0 5 0)).bind (fun σ_1 => (fl_X9_fault_9 2000 0 0 σ_1).bind (fun u_6 => sm (fun a_7 => some (a_7.1, a_7.2)) (fun a_8 => (if a_8.1 = 0 then some ((-6)) else some ((a_8.2.1 4)) : Option Int32).bind (fun v_9 => some (v_9, a_8.2))) u_6))
section
variable {p : Program} {l : Launch} {e : Env} {s : State} {m : MethodId} {args : Array Value} {below : List Frame} {meth : Method} {c : Code} {Q : State → Prop} {D : va_G} {cy : Nat → ClassId} {A : Nat → Prop} {H0 : Heap}
set_option maxHeartbeats 4000000 in
set_option maxRecDepth 100000 in
theorem lp_X9_fault_9 (S : CX p m c cX9_fault 3 s args RX9 D cy) {o0 : Nat} {q0 : Nat → Nat}   : ∀ (n : Nat) (y1 : Int32) (y2 : Int32) (σ0 : pStt) (H : Heap) (locs : List Loc) (ls : Array Slot) (u : (Int32 × pStt) ⊕ (Int32 × pStt)), PW D A H0 [pX9 cy o0 q0 σ0] H locs → lv_has ls 3 [(0, .ref o0), (1, .int y1), (2, .int y2)] → fl_X9_fault_9 n y1 y2 σ0 = some u → (∀ a, u = .inl a → ∀ (H : Heap) (locs : List Loc) (ls : Array Slot), PW D A H0 [pX9 cy o0 q0 a.2] H locs → lv_has ls 3 [(2, .int a.1)] → W p l e rmX9_fault s m args below meth c H locs 0 0 Q (F0 m 33 ls [])) → (∀ a, u = .inr a → ∀ (H : Heap) (locs : List Loc) (ls : Array Slot), PW D A H0 [pX9 cy o0 q0 a.2] H locs → lv_has ls 3 [(0, .ref o0), (1, .int a.1)] → W p l e rmX9_fault s m args below meth c H locs 0 0 Q (F0 m 41 ls [])) → W p l e rmX9_fault s m args below meth c H locs 0 0 Q (F0 m 9 ls []) := by
  intro n
  induction n with
  | zero =>
    intro y1 y2 σ0 H locs ls u hw hl hf K0 K1
    rw [fl_X9_fault_9] at hf
    cases hf
  | succ n ih =>
    intro y1 y2 σ0 H locs ls u hw hl hf K0 K1
    rw [fl_X9_fault_9] at hf
    refine lv_iload_n S.1 S.2.1 dX9_fault_9 rfl (lv_at hl 2 rfl) ?_
    refine lv_aload_n S.1 S.2.1 dX9_fault_10 rfl (lv_at hl 0 rfl) ?_
    refine gf_X9_126 S hw 0 rfl dX9_fault_11 ?_
    refine lv_icmp_ge (tgt := 41) S.1 S.2.1 dX9_fault_14 (by decide) (fun c_2 => ?_) (fun c_2 => ?_)
    · replace hf := (if_pos c_2).symm.trans hf
      cases hf
      exact K1 _ rfl _ _ _ hw (lv_sub hl [0, 1] rfl)
    · replace hf := (if_neg c_2).symm.trans hf
      refine lv_aload_n S.1 S.2.1 dX9_fault_17 rfl (lv_at hl 0 rfl) ?_
      refine lv_iload_n S.1 S.2.1 dX9_fault_18 rfl (lv_at hl 1 rfl) ?_
      refine lv_aload_n S.1 S.2.1 dX9_fault_19 rfl (lv_at hl 0 rfl) ?_
      refine gf_X9_46 S hw 0 rfl dX9_fault_20 ?_
      refine lv_iload_n S.1 S.2.1 dX9_fault_23 rfl (lv_at hl 2 rfl) ?_
      obtain ⟨x_3, e_x_3, hf⟩ := ob hf
      refine al_X9_12 S hw 0 rfl e_x_3 dX9_fault_24 ?_
      obtain ⟨u_4, e_u_4, hf⟩ := ob hf
      refine k_X9_readOn S (S.2.2.2.2.wd wd879 rfl) hw e_u_4 [0] rfl (by decide) rfl ⟨rfl, rfl, Nat.le_of_ble_eq_true rfl, Nat.le_of_ble_eq_true rfl⟩ hl.1 (Nat.le_of_ble_eq_true rfl) dX9_fault_25 ⟨Nat.zero_le _, Nat.zero_le _⟩ (fun H locs hw => ?_)
      have hw : PW D A H0 [pX9 cy o0 q0 u_4.2] H locs := hw
      refine lv_istore_n (lv' := [(1, .int u_4.1), (0, .ref o0), (2, .int y2)]) S.1 S.2.1 dX9_fault_28 rfl hl (by decide) rfl (fun ls hl => ?_)
      refine lv_iload_n S.1 S.2.1 dX9_fault_29 rfl (lv_at hl 0 rfl) ?_
      refine lv_if_ge (tgt := 35) S.1 S.2.1 dX9_fault_30 (by decide) (fun c_5 => ?_) (fun c_5 => ?_)
      · replace hf := (if_pos c_5).symm.trans hf
        refine lv_iinc (v := (y2 + 1)) (lv' := [(2, .int ((y2 + 1))), (1, .int u_4.1), (0, .ref o0)]) S.1 S.2.1 dX9_fault_35 hl (k := 2) rfl rfl (by decide) rfl (fun ls hl => ?_)
        refine lv_goto (tgt := 9) S.1 S.2.1 dX9_fault_38 (by decide) ?_
        exact ih _ _ _ _ _ _ _ hw (lv_sub hl [2, 1, 0] rfl) hf K0 K1
      · replace hf := (if_neg c_5).symm.trans hf
        cases hf
        exact K0 _ rfl _ _ _ hw (lv_sub hl [2] rfl)
end
set_option maxHeartbeats 4000000 in
set_option maxRecDepth 100000 in
theorem c_X9_fault (l : Launch) (D : va_G) (cy : Nat → ClassId) (o0 : Nat) (q0 : Nat → Nat) (σ0 : pStt) (u : Int32 × pStt) (hf : f_X9_fault σ0 = some u) : CT l yX9_fault cX9_fault 3 (some .int) rmX9_fault D cy [.ref o0] [pX9 cy o0 q0 σ0] (some (.int u.1)) [pX9 cy o0 q0 u.2] := by
  refine CT.of (by decide) (Nat.le_of_ble_eq_true rfl) (fun p e s m args below meth c ls A Q hA hQ S hr hlk hl hw => ?_)
  have hl : lv_has ls 3 [(0, .ref o0)] := hl
  rw [f_X9_fault] at hf
  refine lv_aload_n S.1 S.2.1 dX9_fault_0 rfl (lv_at hl 0 rfl) ?_
  refine lv_iconst (v := 0) S.1 S.2.1 dX9_fault_1 (by decide) ?_
  obtain ⟨σ_1, e_σ_1, hf⟩ := ob hf
  refine pf_X9_129 S hw 0 rfl e_σ_1 dX9_fault_2 (fun H locs hw => ?_)
  have hw : PW D A s.heap [pX9 cy o0 q0 σ_1] H locs := hw
  refine lv_iconst (v := 0) S.1 S.2.1 dX9_fault_5 (by decide) ?_
  refine lv_istore_n (lv' := [(1, .int 0), (0, .ref o0)]) S.1 S.2.1 dX9_fault_6 rfl hl (by decide) rfl (fun ls hl => ?_)
  refine lv_iconst (v := 0) S.1 S.2.1 dX9_fault_7 (by decide) ?_
  refine lv_istore_n (lv' := [(2, .int 0), (1, .int 0), (0, .ref o0)]) S.1 S.2.1 dX9_fault_8 rfl hl (by decide) rfl (fun ls hl => ?_)
  obtain ⟨u_6, e_u_6, hf⟩ := ob hf
  refine lp_X9_fault_9 S 2000 _ _ _ _ _ _ _ hw (lv_sub hl [2, 1, 0] rfl) e_u_6 ?_ ?_
  · intro a_7 h_a_7 H locs ls hw hl
    subst h_a_7
    replace hf := (sm_l _ _ _).symm.trans hf
    refine lv_iload_n S.1 S.2.1 dX9_fault_33 rfl (lv_at hl 0 rfl) ?_
    cases hf
    exact w_iret S hr hlk hA hQ hw dX9_fault_34
  · intro a_8 h_a_8 H locs ls hw hl
    subst h_a_8
    replace hf := (sm_r _ _ _).symm.trans hf
    refine lv_iload_n S.1 S.2.1 dX9_fault_41 rfl (lv_at hl 1 rfl) ?_
    obtain ⟨v_9, e_v_9, hf⟩ := ob hf
    have hJ_v_9 : ∀ (H : Heap) (locs : List Loc), PW D A s.heap [pX9 cy o0 q0 a_8.2] H locs → W p l e rmX9_fault s m args below meth c H locs 0 0 Q (F0 m 54 ls [.int v_9]) := by
      intro H locs hw
      cases hf
      exact w_iret S hr hlk hA hQ hw dX9_fault_54
    replace hf := e_v_9
    clear e_v_9
    refine lv_if_ne (tgt := 50) S.1 S.2.1 dX9_fault_42 (by decide) (fun c_10 => ?_) (fun c_10 => ?_)
    · replace hf := (if_neg c_10).symm.trans hf
      refine lv_aload_n S.1 S.2.1 dX9_fault_50 rfl (lv_at hl 0 rfl) ?_
      refine gf_X9_126 S hw 0 rfl dX9_fault_51 ?_
      cases hf
      exact hJ_v_9 _ _ hw
    · replace hf := (if_pos c_10).symm.trans hf
      refine lv_bipush (v := (-6)) S.1 S.2.1 dX9_fault_45 (by decide) ?_
      refine lv_goto (tgt := 54) S.1 S.2.1 dX9_fault_47 (by decide) ?_
      cases hf
      exact hJ_v_9 _ _ hw
section
variable {p : Program} {l : Launch} {e : Env} {R : Room} {s : State} {m : MethodId} {args : Array Value} {below : List Frame} {meth : Method} {c : Code} {H : Heap} {locs : List Loc} {cells slots : Nat} {Q : State → Prop} {cc : ByteArray} {pc nL : Nat} {ls : Array Slot} {rest : List Value} {D : va_G} {cy : Nat → ClassId} {A : Nat → Prop} {H0 : Heap} {own : String} {Ps : List va_W}
set_option maxRecDepth 100000 in
theorem k_X9_fault {o0 : Nat} {q0 : Nat → Nat}  {σ0 : pStt} {u : Int32 × pStt} {index : Nat} (S : CX p m c cc nL s args own D cy) (hl : (Cond.methodLink own index yX9_fault).before args s = true) (hw : PW D A H0 Ps H locs) (hf : f_X9_fault σ0 = some u) (js : List Nat) (hC : js.map (fun j => Ps[j]?) = [some (pX9 cy o0 q0 σ0)]) (hnd : js.Nodup) (hlen : js.length = 1) (hR : RMok rmX9_fault R 3) (hsize : ls.size = nL) (hrest : (rest.map fun v => v.category).sum ≤ 8) (hdg : decode cc pc = .ok (.invokevirtual index, 3)) (hcs : cells ≤ R.cells ∧ slots ≤ R.slots)
    (kk : ∀ (H1 : Heap) (locs1 : List Loc), PW D A H0 (setAll Ps js [pX9 cy o0 q0 u.2]) H1 locs1 → W p l e R s m args below meth c H1 locs1 cells slots Q (F0 m (pc + 3) ls (.int u.1 :: rest))) : W p l e R s m args below meth c H locs cells slots Q (F0 m pc ls (.ref o0 :: rest)) :=
  w_callV (n := 0) (ov := (some (.int u.1))) (As := []) (Cs := [pX9 cy o0 q0 σ0]) (Cs' := [pX9 cy o0 q0 u.2]) S hw (c_X9_fault l D cy o0 q0 σ0 u hf) (MF.of S.2.2.2.2 wd878 wd79 (by decide)) (S.2.2.2.2.wd wd876 rfl) (S.2.2.2.2.wd wd877 rfl) hl hR js hC hnd hlen rfl rfl rfl rfl hsize rfl hrest hdg hcs kk
end
abbrev rmX9_whyNoWay : Room := { frames := 1, cells := 0, slots := 0, locals := 21 }
def f_X9_whyNoWay (x1 : Int32) (x2 : Int32) (x3 : Int32) (σ0 : pStt) : Option (Int32) := (if x1 = x2 then some 1 else (ld (σ0.2 0) 8 x1).bind (fun x_3 => (f_X9_has x_3 x2).bind (fun u_4 => if u_4 = x3 then some 0 else some 2)) : Option Int32).bind (fun v_1 => some v_1)
set_option maxHeartbeats 4000000 in
set_option maxRecDepth 100000 in
theorem c_X9_whyNoWay (l : Launch) (D : va_G) (cy : Nat → ClassId) (o0 : Nat) (q0 : Nat → Nat) (x1 : Int32) (x2 : Int32) (x3 : Int32) (σ0 : pStt) (u : Int32) (hf : f_X9_whyNoWay x1 x2 x3 σ0 = some u) : CT l yX9_whyNoWay cX9_whyNoWay 4 (some .int) rmX9_whyNoWay D cy [.ref o0, .int x1, .int x2, .int x3] [pX9 cy o0 q0 σ0] (some (.int u)) [pX9 cy o0 q0 σ0] := by
  refine CT.of (by decide) (Nat.le_of_ble_eq_true rfl) (fun p e s m args below meth c ls A Q hA hQ S hr hlk hl hw => ?_)
  have hl : lv_has ls 4 [(0, .ref o0), (1, .int x1), (2, .int x2), (3, .int x3)] := hl
  rw [f_X9_whyNoWay] at hf
  refine lv_iload_n S.1 S.2.1 dX9_whyNoWay_0 rfl (lv_at hl 1 rfl) ?_
  refine lv_iload_n S.1 S.2.1 dX9_whyNoWay_1 rfl (lv_at hl 2 rfl) ?_
  obtain ⟨v_1, e_v_1, hf⟩ := ob hf
  have hJ_v_1 : ∀ (H : Heap) (locs : List Loc), PW D A s.heap [pX9 cy o0 q0 σ0] H locs → W p l e rmX9_whyNoWay s m args below meth c H locs 0 0 Q (F0 m 28 ls [.int v_1]) := by
    intro H locs hw
    cases hf
    exact w_iret S hr hlk hA hQ hw dX9_whyNoWay_28
  replace hf := e_v_1
  clear e_v_1
  refine lv_icmp_ne (tgt := 9) S.1 S.2.1 dX9_whyNoWay_2 (by decide) (fun c_2 => ?_) (fun c_2 => ?_)
  · replace hf := (if_neg c_2).symm.trans hf
    refine lv_aload_n S.1 S.2.1 dX9_whyNoWay_9 rfl (lv_at hl 0 rfl) ?_
    refine gf_X9_7 S hw 0 rfl dX9_whyNoWay_10 ?_
    refine lv_iload_n S.1 S.2.1 dX9_whyNoWay_13 rfl (lv_at hl 1 rfl) ?_
    obtain ⟨x_3, e_x_3, hf⟩ := ob hf
    refine al_X9_0 S hw 0 rfl e_x_3 dX9_whyNoWay_14 ?_
    refine lv_iload_n S.1 S.2.1 dX9_whyNoWay_15 rfl (lv_at hl 2 rfl) ?_
    obtain ⟨u_4, e_u_4, hf⟩ := ob hf
    refine k_X9_has S (S.2.2.2.2.wd wd943 rfl) hw e_u_4 [] rfl (by decide) rfl ⟨rfl, rfl, Nat.le_of_ble_eq_true rfl, Nat.le_of_ble_eq_true rfl⟩ hl.1 (Nat.le_of_ble_eq_true rfl) dX9_whyNoWay_16 ⟨Nat.zero_le _, Nat.zero_le _⟩ (fun H locs hw => ?_)
    have hw : PW D A s.heap [pX9 cy o0 q0 σ0] H locs := hw
    refine lv_iload_n S.1 S.2.1 dX9_whyNoWay_19 rfl (lv_at hl 3 rfl) ?_
    refine lv_icmp_ne (tgt := 27) S.1 S.2.1 dX9_whyNoWay_20 (by decide) (fun c_5 => ?_) (fun c_5 => ?_)
    · replace hf := (if_neg c_5).symm.trans hf
      refine lv_iconst (v := 2) S.1 S.2.1 dX9_whyNoWay_27 (by decide) ?_
      cases hf
      exact hJ_v_1 _ _ hw
    · replace hf := (if_pos c_5).symm.trans hf
      refine lv_iconst (v := 0) S.1 S.2.1 dX9_whyNoWay_23 (by decide) ?_
      refine lv_goto (tgt := 28) S.1 S.2.1 dX9_whyNoWay_24 (by decide) ?_
      cases hf
      exact hJ_v_1 _ _ hw
  · replace hf := (if_pos c_2).symm.trans hf
    refine lv_iconst (v := 1) S.1 S.2.1 dX9_whyNoWay_5 (by decide) ?_
    refine lv_goto (tgt := 28) S.1 S.2.1 dX9_whyNoWay_6 (by decide) ?_
    cases hf
    exact hJ_v_1 _ _ hw
section
variable {p : Program} {l : Launch} {e : Env} {R : Room} {s : State} {m : MethodId} {args : Array Value} {below : List Frame} {meth : Method} {c : Code} {H : Heap} {locs : List Loc} {cells slots : Nat} {Q : State → Prop} {cc : ByteArray} {pc nL : Nat} {ls : Array Slot} {rest : List Value} {D : va_G} {cy : Nat → ClassId} {A : Nat → Prop} {H0 : Heap} {own : String} {Ps : List va_W}
set_option maxRecDepth 100000 in
theorem k_X9_whyNoWay {o0 : Nat} {q0 : Nat → Nat} {x1 : Int32} {x2 : Int32} {x3 : Int32} {σ0 : pStt} {u : Int32} {index : Nat} (S : CX p m c cc nL s args own D cy) (hl : (Cond.methodLink own index yX9_whyNoWay).before args s = true) (hw : PW D A H0 Ps H locs) (hf : f_X9_whyNoWay x1 x2 x3 σ0 = some u) (js : List Nat) (hC : js.map (fun j => Ps[j]?) = [some (pX9 cy o0 q0 σ0)]) (hnd : js.Nodup) (hlen : js.length = 1) (hR : RMok rmX9_whyNoWay R 4) (hsize : ls.size = nL) (hrest : (rest.map fun v => v.category).sum ≤ 8) (hdg : decode cc pc = .ok (.invokevirtual index, 3)) (hcs : cells ≤ R.cells ∧ slots ≤ R.slots)
    (kk : ∀ (H1 : Heap) (locs1 : List Loc), PW D A H0 (setAll Ps js [pX9 cy o0 q0 σ0]) H1 locs1 → W p l e R s m args below meth c H1 locs1 cells slots Q (F0 m (pc + 3) ls (.int u :: rest))) : W p l e R s m args below meth c H locs cells slots Q (F0 m pc ls (.int x3 :: .int x2 :: .int x1 :: .ref o0 :: rest)) :=
  w_callV (n := 3) (ov := (some (.int u))) (As := [.int x1, .int x2, .int x3]) (Cs := [pX9 cy o0 q0 σ0]) (Cs' := [pX9 cy o0 q0 σ0]) S hw (c_X9_whyNoWay l D cy o0 q0 x1 x2 x3 σ0 u hf) (MF.of S.2.2.2.2 wd942 wd79 (by decide)) (S.2.2.2.2.wd wd941 rfl) (S.2.2.2.2.wd wd37 rfl) hl hR js hC hnd hlen rfl rfl rfl rfl hsize rfl hrest hdg hcs kk
end
