abbrev rmX1_poleAsNumber : Room := { frames := 0, cells := 0, slots := 0, locals := 0 }
def f_X1_poleAsNumber (σ0 : pStt) : Option (Int32) := (if (σ0.1 1) = 0 then some 0 else some 1 : Option Int32).bind (fun v_1 => some v_1)
set_option maxHeartbeats 4000000 in
set_option maxRecDepth 100000 in
theorem c_X1_poleAsNumber (l : Launch) (D : va_G) (cy : Nat → ClassId) (o0 : Nat) (q0 : Nat → Nat) (σ0 : pStt) (u : Int32) (hf : f_X1_poleAsNumber σ0 = some u) : CT l yX1_poleAsNumber cX1_poleAsNumber 1 (some .int) rmX1_poleAsNumber D cy [.ref o0] [pX1 cy o0 q0 σ0] (some (.int u)) [pX1 cy o0 q0 σ0] := by
  refine CT.of (by decide) (Nat.le_of_ble_eq_true rfl) (fun p e s m args below meth c ls A Q hA hQ S hr hlk hl hw => ?_)
  have hl : lv_has ls 1 [(0, .ref o0)] := hl
  rw [f_X1_poleAsNumber] at hf
  refine lv_aload_n S.1 S.2.1 dX1_poleAsNumber_0 rfl (lv_at hl 0 rfl) ?_
  refine gf_X1_24 S hw 0 rfl dX1_poleAsNumber_1 ?_
  obtain ⟨v_1, e_v_1, hf⟩ := ob hf
  have hJ_v_1 : ∀ (H : Heap) (locs : List Loc), PW D A s.heap [pX1 cy o0 q0 σ0] H locs → W p l e rmX1_poleAsNumber s m args below meth c H locs 0 0 Q (F0 m 12 ls [.int v_1]) := by
    intro H locs hw
    cases hf
    exact w_iret S hr hlk hA hQ hw dX1_poleAsNumber_12
  replace hf := e_v_1
  clear e_v_1
  refine lv_if_eq (tgt := 11) S.1 S.2.1 dX1_poleAsNumber_4 (by decide) (fun c_2 => ?_) (fun c_2 => ?_)
  · replace hf := (if_pos c_2).symm.trans hf
    refine lv_iconst (v := 0) S.1 S.2.1 dX1_poleAsNumber_11 (by decide) ?_
    cases hf
    exact hJ_v_1 _ _ hw
  · replace hf := (if_neg c_2).symm.trans hf
    refine lv_iconst (v := 1) S.1 S.2.1 dX1_poleAsNumber_7 (by decide) ?_
    refine lv_goto (tgt := 12) S.1 S.2.1 dX1_poleAsNumber_8 (by decide) ?_
    cases hf
    exact hJ_v_1 _ _ hw
section
variable {p : Program} {l : Launch} {e : Env} {R : Room} {s : State} {m : MethodId} {args : Array Value} {below : List Frame} {meth : Method} {c : Code} {H : Heap} {locs : List Loc} {cells slots : Nat} {Q : State → Prop} {cc : ByteArray} {pc nL : Nat} {ls : Array Slot} {rest : List Value} {D : va_G} {cy : Nat → ClassId} {A : Nat → Prop} {H0 : Heap} {own : String} {Ps : List va_W}
set_option maxRecDepth 100000 in
theorem k_X1_poleAsNumber {o0 : Nat} {q0 : Nat → Nat}  {σ0 : pStt} {u : Int32} {index : Nat} (S : CX p m c cc nL s args own D cy) (hl : (Cond.methodLink own index yX1_poleAsNumber).before args s = true) (hw : PW D A H0 Ps H locs) (hf : f_X1_poleAsNumber σ0 = some u) (js : List Nat) (hC : js.map (fun j => Ps[j]?) = [some (pX1 cy o0 q0 σ0)]) (hnd : js.Nodup) (hlen : js.length = 1) (hR : RMok rmX1_poleAsNumber R 1) (hsize : ls.size = nL) (hrest : (rest.map fun v => v.category).sum ≤ 8) (hdg : decode cc pc = .ok (.invokevirtual index, 3)) (hcs : cells ≤ R.cells ∧ slots ≤ R.slots)
    (kk : ∀ (H1 : Heap) (locs1 : List Loc), PW D A H0 (setAll Ps js [pX1 cy o0 q0 σ0]) H1 locs1 → W p l e R s m args below meth c H1 locs1 cells slots Q (F0 m (pc + 3) ls (.int u :: rest))) : W p l e R s m args below meth c H locs cells slots Q (F0 m pc ls (.ref o0 :: rest)) :=
  w_callV (n := 0) (ov := (some (.int u))) (As := []) (Cs := [pX1 cy o0 q0 σ0]) (Cs' := [pX1 cy o0 q0 σ0]) S hw (c_X1_poleAsNumber l D cy o0 q0 σ0 u hf) (MF.of S.2.2.2.2 wd338 wd72 (by decide)) (S.2.2.2.2.wd wd336 rfl) (S.2.2.2.2.wd wd337 rfl) hl hR js hC hnd hlen rfl rfl rfl rfl hsize rfl hrest hdg hcs kk
end
abbrev rmX1_whoIsThere : Room := { frames := 0, cells := 0, slots := 0, locals := 0 }
def fl_X1_whoIsThere_4  (σ0 : pStt) : Nat → Int32 → Int32 → Option (Int32)
  | 0, _, _ => none
  | n + 1, y1, y2 => if 6 ≤ y2 then some y1 else (ld (σ0.2 2) 6 y2).bind (fun x_2 => if x_2 = (-1) then fl_X1_whoIsThere_4 σ0 n y1 ((y2 + 1)) else fl_X1_whoIsThere_4 σ0 n ((y1 ||| ((1 : Int32) <<< (y2 &&& 31)))) ((y2 + 1)))
def f_X1_whoIsThere (σ0 : pStt) : Option (Int32) := (fl_X1_whoIsThere_4 σ0 2000 0 0).bind (fun u_4 => some u_4)
section
variable {p : Program} {l : Launch} {e : Env} {s : State} {m : MethodId} {args : Array Value} {below : List Frame} {meth : Method} {c : Code} {Q : State → Prop} {D : va_G} {cy : Nat → ClassId} {A : Nat → Prop} {H0 : Heap}
set_option maxHeartbeats 4000000 in
set_option maxRecDepth 100000 in
theorem lp_X1_whoIsThere_4 (S : CX p m c cX1_whoIsThere 3 s args RX1 D cy) {o0 : Nat} {q0 : Nat → Nat} {σ0 : pStt}  : ∀ (n : Nat) (y1 : Int32) (y2 : Int32) (H : Heap) (locs : List Loc) (ls : Array Slot) (u : Int32), PW D A H0 [pX1 cy o0 q0 σ0] H locs → lv_has ls 3 [(0, .ref o0), (1, .int y1), (2, .int y2)] → fl_X1_whoIsThere_4 σ0 n y1 y2 = some u → (∀ (H : Heap) (locs : List Loc) (ls : Array Slot), PW D A H0 [pX1 cy o0 q0 σ0] H locs → lv_has ls 3 [(1, .int u)] → W p l e rmX1_whoIsThere s m args below meth c H locs 0 0 Q (F0 m 32 ls [])) → W p l e rmX1_whoIsThere s m args below meth c H locs 0 0 Q (F0 m 4 ls []) := by
  intro n
  induction n with
  | zero =>
    intro y1 y2 H locs ls u hw hl hf K0
    rw [fl_X1_whoIsThere_4] at hf
    cases hf
  | succ n ih =>
    intro y1 y2 H locs ls u hw hl hf K0
    rw [fl_X1_whoIsThere_4] at hf
    refine lv_iload_n S.1 S.2.1 dX1_whoIsThere_4 rfl (lv_at hl 2 rfl) ?_
    refine lv_bipush (v := 6) S.1 S.2.1 dX1_whoIsThere_5 (by decide) ?_
    refine lv_icmp_ge (tgt := 32) S.1 S.2.1 dX1_whoIsThere_7 (by decide) (fun c_1 => ?_) (fun c_1 => ?_)
    · replace hf := (if_pos c_1).symm.trans hf
      cases hf
      exact K0 _ _ _ hw (lv_sub hl [1] rfl)
    · replace hf := (if_neg c_1).symm.trans hf
      refine lv_aload_n S.1 S.2.1 dX1_whoIsThere_10 rfl (lv_at hl 0 rfl) ?_
      refine gf_X1_18 S hw 0 rfl dX1_whoIsThere_11 ?_
      refine lv_iload_n S.1 S.2.1 dX1_whoIsThere_14 rfl (lv_at hl 2 rfl) ?_
      obtain ⟨x_2, e_x_2, hf⟩ := ob hf
      refine al_X1_2 S hw 0 rfl e_x_2 dX1_whoIsThere_15 ?_
      refine lv_iconst (v := (-1)) S.1 S.2.1 dX1_whoIsThere_16 (by decide) ?_
      refine lv_icmp_eq (tgt := 26) S.1 S.2.1 dX1_whoIsThere_17 (by decide) (fun c_3 => ?_) (fun c_3 => ?_)
      · replace hf := (if_pos c_3).symm.trans hf
        refine lv_iinc (v := (y2 + 1)) (lv' := [(2, .int ((y2 + 1))), (0, .ref o0), (1, .int y1)]) S.1 S.2.1 dX1_whoIsThere_26 hl (k := 2) rfl rfl (by decide) rfl (fun ls hl => ?_)
        refine lv_goto (tgt := 4) S.1 S.2.1 dX1_whoIsThere_29 (by decide) ?_
        exact ih _ _ _ _ _ _ hw (lv_sub hl [1, 2, 0] rfl) hf K0
      · replace hf := (if_neg c_3).symm.trans hf
        refine lv_iload_n S.1 S.2.1 dX1_whoIsThere_20 rfl (lv_at hl 1 rfl) ?_
        refine lv_iconst (v := 1) S.1 S.2.1 dX1_whoIsThere_21 (by decide) ?_
        refine lv_iload_n S.1 S.2.1 dX1_whoIsThere_22 rfl (lv_at hl 2 rfl) ?_
        refine lv_ishl S.1 S.2.1 dX1_whoIsThere_23 ?_
        refine lv_ior S.1 S.2.1 dX1_whoIsThere_24 ?_
        refine lv_istore_n (lv' := [(1, .int ((y1 ||| ((1 : Int32) <<< (y2 &&& 31))))), (0, .ref o0), (2, .int y2)]) S.1 S.2.1 dX1_whoIsThere_25 rfl hl (by decide) rfl (fun ls hl => ?_)
        refine lv_iinc (v := (y2 + 1)) (lv' := [(2, .int ((y2 + 1))), (1, .int ((y1 ||| ((1 : Int32) <<< (y2 &&& 31))))), (0, .ref o0)]) S.1 S.2.1 dX1_whoIsThere_26 hl (k := 2) rfl rfl (by decide) rfl (fun ls hl => ?_)
        refine lv_goto (tgt := 4) S.1 S.2.1 dX1_whoIsThere_29 (by decide) ?_
        exact ih _ _ _ _ _ _ hw (lv_sub hl [2, 1, 0] rfl) hf K0
end
set_option maxHeartbeats 4000000 in
set_option maxRecDepth 100000 in
theorem c_X1_whoIsThere (l : Launch) (D : va_G) (cy : Nat → ClassId) (o0 : Nat) (q0 : Nat → Nat) (σ0 : pStt) (u : Int32) (hf : f_X1_whoIsThere σ0 = some u) : CT l yX1_whoIsThere cX1_whoIsThere 3 (some .int) rmX1_whoIsThere D cy [.ref o0] [pX1 cy o0 q0 σ0] (some (.int u)) [pX1 cy o0 q0 σ0] := by
  refine CT.of (by decide) (Nat.le_of_ble_eq_true rfl) (fun p e s m args below meth c ls A Q hA hQ S hr hlk hl hw => ?_)
  have hl : lv_has ls 3 [(0, .ref o0)] := hl
  rw [f_X1_whoIsThere] at hf
  refine lv_iconst (v := 0) S.1 S.2.1 dX1_whoIsThere_0 (by decide) ?_
  refine lv_istore_n (lv' := [(1, .int 0), (0, .ref o0)]) S.1 S.2.1 dX1_whoIsThere_1 rfl hl (by decide) rfl (fun ls hl => ?_)
  refine lv_iconst (v := 0) S.1 S.2.1 dX1_whoIsThere_2 (by decide) ?_
  refine lv_istore_n (lv' := [(2, .int 0), (1, .int 0), (0, .ref o0)]) S.1 S.2.1 dX1_whoIsThere_3 rfl hl (by decide) rfl (fun ls hl => ?_)
  obtain ⟨u_4, e_u_4, hf⟩ := ob hf
  refine lp_X1_whoIsThere_4 S 2000 _ _ _ _ _ _ hw (lv_sub hl [2, 1, 0] rfl) e_u_4 ?_
  · intro H locs ls hw hl
    refine lv_iload_n S.1 S.2.1 dX1_whoIsThere_32 rfl (lv_at hl 0 rfl) ?_
    cases hf
    exact w_iret S hr hlk hA hQ hw dX1_whoIsThere_33
section
variable {p : Program} {l : Launch} {e : Env} {R : Room} {s : State} {m : MethodId} {args : Array Value} {below : List Frame} {meth : Method} {c : Code} {H : Heap} {locs : List Loc} {cells slots : Nat} {Q : State → Prop} {cc : ByteArray} {pc nL : Nat} {ls : Array Slot} {rest : List Value} {D : va_G} {cy : Nat → ClassId} {A : Nat → Prop} {H0 : Heap} {own : String} {Ps : List va_W}
set_option maxRecDepth 100000 in
theorem k_X1_whoIsThere {o0 : Nat} {q0 : Nat → Nat}  {σ0 : pStt} {u : Int32} {index : Nat} (S : CX p m c cc nL s args own D cy) (hl : (Cond.methodLink own index yX1_whoIsThere).before args s = true) (hw : PW D A H0 Ps H locs) (hf : f_X1_whoIsThere σ0 = some u) (js : List Nat) (hC : js.map (fun j => Ps[j]?) = [some (pX1 cy o0 q0 σ0)]) (hnd : js.Nodup) (hlen : js.length = 1) (hR : RMok rmX1_whoIsThere R 3) (hsize : ls.size = nL) (hrest : (rest.map fun v => v.category).sum ≤ 8) (hdg : decode cc pc = .ok (.invokevirtual index, 3)) (hcs : cells ≤ R.cells ∧ slots ≤ R.slots)
    (kk : ∀ (H1 : Heap) (locs1 : List Loc), PW D A H0 (setAll Ps js [pX1 cy o0 q0 σ0]) H1 locs1 → W p l e R s m args below meth c H1 locs1 cells slots Q (F0 m (pc + 3) ls (.int u :: rest))) : W p l e R s m args below meth c H locs cells slots Q (F0 m pc ls (.ref o0 :: rest)) :=
  w_callV (n := 0) (ov := (some (.int u))) (As := []) (Cs := [pX1 cy o0 q0 σ0]) (Cs' := [pX1 cy o0 q0 σ0]) S hw (c_X1_whoIsThere l D cy o0 q0 σ0 u hf) (MF.of S.2.2.2.2 wd480 wd72 (by decide)) (S.2.2.2.2.wd wd478 rfl) (S.2.2.2.2.wd wd479 rfl) hl hR js hC hnd hlen rfl rfl rfl rfl hsize rfl hrest hdg hcs kk
end
abbrev rmX1_put : Room := { frames := 0, cells := 0, slots := 0, locals := 0 }
def fl_X1_put_3 (y1 : Int32) (y2 : Int32) (y3 : Int32)  : Nat → Int32 → pStt → Option (pStt)
  | 0, _, _ => none
  | n + 1, y4, σ0 => if 8 ≤ y4 then some σ0 else (ld (σ0.2 1) 8 y4).bind (fun x_2 => if x_2 = ((8 : Int32) + y1) then (stA σ0 1 8 y4 ((-1))).bind (fun σ_4 => fl_X1_put_3 y1 y2 y3 n ((y4 + 1)) σ_4) else fl_X1_put_3 y1 y2 y3 n ((y4 + 1)) σ0)
def f_X1_put (x1 : Int32) (x2 : Int32) (x3 : Int32) (σ0 : pStt) : Option (pStt) := (fl_X1_put_3 x1 x2 x3 2000 0 σ0).bind (fun u_5 => (stA u_5 2 6 x1 x2).bind (fun σ_6 => (stA σ_6 3 6 x1 x3).bind (fun σ_7 => (some (sI σ_7 0 (((σ_7.1 0) &&& (((1 : Int32) <<< (x1 &&& 31)) ^^^ (-1 : Int32)))))).bind (fun σ_8 => some σ_8))))
section
variable {p : Program} {l : Launch} {e : Env} {s : State} {m : MethodId} {args : Array Value} {below : List Frame} {meth : Method} {c : Code} {Q : State → Prop} {D : va_G} {cy : Nat → ClassId} {A : Nat → Prop} {H0 : Heap}
set_option maxHeartbeats 4000000 in
set_option maxRecDepth 100000 in
theorem lp_X1_put_3 (S : CX p m c cX1_put 5 s args RX1 D cy) {o0 : Nat} {q0 : Nat → Nat}  {y1 : Int32} {y2 : Int32} {y3 : Int32} : ∀ (n : Nat) (y4 : Int32) (σ0 : pStt) (H : Heap) (locs : List Loc) (ls : Array Slot) (u : pStt), PW D A H0 [pX1 cy o0 q0 σ0] H locs → lv_has ls 5 [(0, .ref o0), (1, .int y1), (2, .int y2), (3, .int y3), (4, .int y4)] → fl_X1_put_3 y1 y2 y3 n y4 σ0 = some u → (∀ (H : Heap) (locs : List Loc) (ls : Array Slot), PW D A H0 [pX1 cy o0 q0 u] H locs → lv_has ls 5 [(0, .ref o0), (1, .int y1), (2, .int y2), (3, .int y3)] → W p l e rmX1_put s m args below meth c H locs 0 0 Q (F0 m 38 ls [])) → W p l e rmX1_put s m args below meth c H locs 0 0 Q (F0 m 3 ls []) := by
  intro n
  induction n with
  | zero =>
    intro y4 σ0 H locs ls u hw hl hf K0
    rw [fl_X1_put_3] at hf
    cases hf
  | succ n ih =>
    intro y4 σ0 H locs ls u hw hl hf K0
    rw [fl_X1_put_3] at hf
    refine lv_iload S.1 S.2.1 dX1_put_3 (lv_at hl 4 rfl) ?_
    refine lv_bipush (v := 8) S.1 S.2.1 dX1_put_5 (by decide) ?_
    refine lv_icmp_ge (tgt := 38) S.1 S.2.1 dX1_put_7 (by decide) (fun c_1 => ?_) (fun c_1 => ?_)
    · replace hf := (if_pos c_1).symm.trans hf
      cases hf
      exact K0 _ _ _ hw (lv_sub hl [0, 1, 2, 3] rfl)
    · replace hf := (if_neg c_1).symm.trans hf
      refine lv_aload_n S.1 S.2.1 dX1_put_10 rfl (lv_at hl 0 rfl) ?_
      refine gf_X1_15 S hw 0 rfl dX1_put_11 ?_
      refine lv_iload S.1 S.2.1 dX1_put_14 (lv_at hl 4 rfl) ?_
      obtain ⟨x_2, e_x_2, hf⟩ := ob hf
      refine al_X1_1 S hw 0 rfl e_x_2 dX1_put_16 ?_
      refine lv_bipush (v := 8) S.1 S.2.1 dX1_put_17 (by decide) ?_
      refine lv_iload_n S.1 S.2.1 dX1_put_19 rfl (lv_at hl 1 rfl) ?_
      refine lv_iadd S.1 S.2.1 dX1_put_20 ?_
      refine lv_icmp_ne (tgt := 32) S.1 S.2.1 dX1_put_21 (by decide) (fun c_3 => ?_) (fun c_3 => ?_)
      · replace hf := (if_neg c_3).symm.trans hf
        refine lv_iinc (v := (y4 + 1)) (lv' := [(4, .int ((y4 + 1))), (0, .ref o0), (1, .int y1), (2, .int y2), (3, .int y3)]) S.1 S.2.1 dX1_put_32 hl (k := 4) rfl rfl (by decide) rfl (fun ls hl => ?_)
        refine lv_goto (tgt := 3) S.1 S.2.1 dX1_put_35 (by decide) ?_
        exact ih _ _ _ _ _ _ hw (lv_sub hl [1, 2, 3, 4, 0] rfl) hf K0
      · replace hf := (if_pos c_3).symm.trans hf
        refine lv_aload_n S.1 S.2.1 dX1_put_24 rfl (lv_at hl 0 rfl) ?_
        refine gf_X1_15 S hw 0 rfl dX1_put_25 ?_
        refine lv_iload S.1 S.2.1 dX1_put_28 (lv_at hl 4 rfl) ?_
        refine lv_iconst (v := (-1)) S.1 S.2.1 dX1_put_30 (by decide) ?_
        obtain ⟨σ_4, e_σ_4, hf⟩ := ob hf
        refine as_X1_1 S hw 0 rfl e_σ_4 dX1_put_31 (fun H locs hw => ?_)
        have hw : PW D A H0 [pX1 cy o0 q0 σ_4] H locs := hw
        refine lv_iinc (v := (y4 + 1)) (lv' := [(4, .int ((y4 + 1))), (0, .ref o0), (1, .int y1), (2, .int y2), (3, .int y3)]) S.1 S.2.1 dX1_put_32 hl (k := 4) rfl rfl (by decide) rfl (fun ls hl => ?_)
        refine lv_goto (tgt := 3) S.1 S.2.1 dX1_put_35 (by decide) ?_
        exact ih _ _ _ _ _ _ hw (lv_sub hl [1, 2, 3, 4, 0] rfl) hf K0
end
set_option maxHeartbeats 4000000 in
set_option maxRecDepth 100000 in
theorem c_X1_put (l : Launch) (D : va_G) (cy : Nat → ClassId) (o0 : Nat) (q0 : Nat → Nat) (x1 : Int32) (x2 : Int32) (x3 : Int32) (σ0 : pStt) (u : pStt) (hf : f_X1_put x1 x2 x3 σ0 = some u) : CT l yX1_put cX1_put 5 none rmX1_put D cy [.ref o0, .int x1, .int x2, .int x3] [pX1 cy o0 q0 σ0] none [pX1 cy o0 q0 u] := by
  refine CT.of (by decide) (Nat.le_of_ble_eq_true rfl) (fun p e s m args below meth c ls A Q hA hQ S hr hlk hl hw => ?_)
  have hl : lv_has ls 5 [(0, .ref o0), (1, .int x1), (2, .int x2), (3, .int x3)] := hl
  rw [f_X1_put] at hf
  refine lv_iconst (v := 0) S.1 S.2.1 dX1_put_0 (by decide) ?_
  refine lv_istore (lv' := [(4, .int 0), (0, .ref o0), (1, .int x1), (2, .int x2), (3, .int x3)]) S.1 S.2.1 dX1_put_1 hl (by decide) rfl (fun ls hl => ?_)
  obtain ⟨u_5, e_u_5, hf⟩ := ob hf
  refine lp_X1_put_3 S 2000 _ _ _ _ _ _ hw (lv_sub hl [1, 2, 3, 4, 0] rfl) e_u_5 ?_
  · intro H locs ls hw hl
    refine lv_aload_n S.1 S.2.1 dX1_put_38 rfl (lv_at hl 0 rfl) ?_
    refine gf_X1_18 S hw 0 rfl dX1_put_39 ?_
    refine lv_iload_n S.1 S.2.1 dX1_put_42 rfl (lv_at hl 1 rfl) ?_
    refine lv_iload_n S.1 S.2.1 dX1_put_43 rfl (lv_at hl 2 rfl) ?_
    obtain ⟨σ_6, e_σ_6, hf⟩ := ob hf
    refine as_X1_2 S hw 0 rfl e_σ_6 dX1_put_44 (fun H locs hw => ?_)
    have hw : PW D A s.heap [pX1 cy o0 q0 σ_6] H locs := hw
    refine lv_aload_n S.1 S.2.1 dX1_put_45 rfl (lv_at hl 0 rfl) ?_
    refine gf_X1_21 S hw 0 rfl dX1_put_46 ?_
    refine lv_iload_n S.1 S.2.1 dX1_put_49 rfl (lv_at hl 1 rfl) ?_
    refine lv_iload_n S.1 S.2.1 dX1_put_50 rfl (lv_at hl 3 rfl) ?_
    obtain ⟨σ_7, e_σ_7, hf⟩ := ob hf
    refine as_X1_3 S hw 0 rfl e_σ_7 dX1_put_51 (fun H locs hw => ?_)
    have hw : PW D A s.heap [pX1 cy o0 q0 σ_7] H locs := hw
    refine lv_aload_n S.1 S.2.1 dX1_put_52 rfl (lv_at hl 0 rfl) ?_
    refine lv_dup S.1 S.2.1 dX1_put_53 rfl ?_
    refine gf_X1_34 S hw 0 rfl dX1_put_54 ?_
    refine lv_iconst (v := 1) S.1 S.2.1 dX1_put_57 (by decide) ?_
    refine lv_iload_n S.1 S.2.1 dX1_put_58 rfl (lv_at hl 1 rfl) ?_
    refine lv_ishl S.1 S.2.1 dX1_put_59 ?_
    refine lv_iconst (v := (-1)) S.1 S.2.1 dX1_put_60 (by decide) ?_
    refine lv_ixor S.1 S.2.1 dX1_put_61 ?_
    refine lv_iand S.1 S.2.1 dX1_put_62 ?_
    obtain ⟨σ_8, e_σ_8, hf⟩ := ob hf
    refine pf_X1_34 S hw 0 rfl e_σ_8 dX1_put_63 (fun H locs hw => ?_)
    have hw : PW D A s.heap [pX1 cy o0 q0 σ_8] H locs := hw
    cases hf
    exact w_vret S hr hlk hA hQ hw dX1_put_66
section
variable {p : Program} {l : Launch} {e : Env} {R : Room} {s : State} {m : MethodId} {args : Array Value} {below : List Frame} {meth : Method} {c : Code} {H : Heap} {locs : List Loc} {cells slots : Nat} {Q : State → Prop} {cc : ByteArray} {pc nL : Nat} {ls : Array Slot} {rest : List Value} {D : va_G} {cy : Nat → ClassId} {A : Nat → Prop} {H0 : Heap} {own : String} {Ps : List va_W}
set_option maxRecDepth 100000 in
theorem k_X1_put {o0 : Nat} {q0 : Nat → Nat} {x1 : Int32} {x2 : Int32} {x3 : Int32} {σ0 : pStt} {u : pStt} {index : Nat} (S : CX p m c cc nL s args own D cy) (hl : (Cond.methodLink own index yX1_put).before args s = true) (hw : PW D A H0 Ps H locs) (hf : f_X1_put x1 x2 x3 σ0 = some u) (js : List Nat) (hC : js.map (fun j => Ps[j]?) = [some (pX1 cy o0 q0 σ0)]) (hnd : js.Nodup) (hlen : js.length = 1) (hR : RMok rmX1_put R 5) (hsize : ls.size = nL) (hrest : (rest.map fun v => v.category).sum ≤ 8) (hdg : decode cc pc = .ok (.invokevirtual index, 3)) (hcs : cells ≤ R.cells ∧ slots ≤ R.slots)
    (kk : ∀ (H1 : Heap) (locs1 : List Loc), PW D A H0 (setAll Ps js [pX1 cy o0 q0 u]) H1 locs1 → W p l e R s m args below meth c H1 locs1 cells slots Q (F0 m (pc + 3) ls (rest))) : W p l e R s m args below meth c H locs cells slots Q (F0 m pc ls (.int x3 :: .int x2 :: .int x1 :: .ref o0 :: rest)) :=
  w_callV (n := 3) (ov := none) (As := [.int x1, .int x2, .int x3]) (Cs := [pX1 cy o0 q0 σ0]) (Cs' := [pX1 cy o0 q0 u]) S hw (c_X1_put l D cy o0 q0 x1 x2 x3 σ0 u hf) (MF.of S.2.2.2.2 wd330 wd72 (by decide)) (S.2.2.2.2.wd wd328 rfl) (S.2.2.2.2.wd wd329 rfl) hl hR js hC hnd hlen rfl rfl rfl rfl hsize rfl hrest hdg hcs kk
end
abbrev rmX1_whyNoWay : Room := { frames := 1, cells := 0, slots := 0, locals := 21 }
def f_X1_whyNoWay (x1 : Int32) (x2 : Int32) (x3 : Int32) (σ0 : pStt) : Option (Int32) := if x1 = x2 then some 1 else (ld (σ0.2 0) 8 x1).bind (fun x_2 => (f_X8_holds x_2 x2).bind (fun u_3 => (if u_3 = x3 then some 0 else some 2 : Option Int32).bind (fun v_4 => some v_4)))
set_option maxHeartbeats 4000000 in
set_option maxRecDepth 100000 in
theorem c_X1_whyNoWay (l : Launch) (D : va_G) (cy : Nat → ClassId) (o0 : Nat) (q0 : Nat → Nat) (x1 : Int32) (x2 : Int32) (x3 : Int32) (σ0 : pStt) (u : Int32) (hf : f_X1_whyNoWay x1 x2 x3 σ0 = some u) : CT l yX1_whyNoWay cX1_whyNoWay 4 (some .int) rmX1_whyNoWay D cy [.ref o0, .int x1, .int x2, .int x3] [pX1 cy o0 q0 σ0] (some (.int u)) [pX1 cy o0 q0 σ0] := by
  refine CT.of (by decide) (Nat.le_of_ble_eq_true rfl) (fun p e s m args below meth c ls A Q hA hQ S hr hlk hl hw => ?_)
  have hl : lv_has ls 4 [(0, .ref o0), (1, .int x1), (2, .int x2), (3, .int x3)] := hl
  rw [f_X1_whyNoWay] at hf
  refine lv_iload_n S.1 S.2.1 dX1_whyNoWay_0 rfl (lv_at hl 1 rfl) ?_
  refine lv_iload_n S.1 S.2.1 dX1_whyNoWay_1 rfl (lv_at hl 2 rfl) ?_
  refine lv_icmp_ne (tgt := 7) S.1 S.2.1 dX1_whyNoWay_2 (by decide) (fun c_1 => ?_) (fun c_1 => ?_)
  · replace hf := (if_neg c_1).symm.trans hf
    refine lv_aload_n S.1 S.2.1 dX1_whyNoWay_7 rfl (lv_at hl 0 rfl) ?_
    refine gf_X1_9 S hw 0 rfl dX1_whyNoWay_8 ?_
    refine lv_iload_n S.1 S.2.1 dX1_whyNoWay_11 rfl (lv_at hl 1 rfl) ?_
    obtain ⟨x_2, e_x_2, hf⟩ := ob hf
    refine al_X1_0 S hw 0 rfl e_x_2 dX1_whyNoWay_12 ?_
    refine lv_iload_n S.1 S.2.1 dX1_whyNoWay_13 rfl (lv_at hl 2 rfl) ?_
    obtain ⟨u_3, e_u_3, hf⟩ := ob hf
    refine kn_X8_holds S (S.2.2.2.2.wd wd420 rfl) hw e_u_3 [] rfl (by decide) rfl ⟨rfl, rfl, Nat.le_of_ble_eq_true rfl, Nat.le_of_ble_eq_true rfl⟩ hl.1 (Nat.le_of_ble_eq_true rfl) dX1_whyNoWay_14 ⟨Nat.zero_le _, Nat.zero_le _⟩ (fun H locs hw => ?_)
    have hw : PW D A s.heap [pX1 cy o0 q0 σ0] H locs := hw
    refine lv_iload_n S.1 S.2.1 dX1_whyNoWay_17 rfl (lv_at hl 3 rfl) ?_
    obtain ⟨v_4, e_v_4, hf⟩ := ob hf
    have hJ_v_4 : ∀ (H : Heap) (locs : List Loc), PW D A s.heap [pX1 cy o0 q0 σ0] H locs → W p l e rmX1_whyNoWay s m args below meth c H locs 0 0 Q (F0 m 26 ls [.int v_4]) := by
      intro H locs hw
      cases hf
      exact w_iret S hr hlk hA hQ hw dX1_whyNoWay_26
    replace hf := e_v_4
    clear e_v_4
    refine lv_icmp_ne (tgt := 25) S.1 S.2.1 dX1_whyNoWay_18 (by decide) (fun c_5 => ?_) (fun c_5 => ?_)
    · replace hf := (if_neg c_5).symm.trans hf
      refine lv_iconst (v := 2) S.1 S.2.1 dX1_whyNoWay_25 (by decide) ?_
      cases hf
      exact hJ_v_4 _ _ hw
    · replace hf := (if_pos c_5).symm.trans hf
      refine lv_iconst (v := 0) S.1 S.2.1 dX1_whyNoWay_21 (by decide) ?_
      refine lv_goto (tgt := 26) S.1 S.2.1 dX1_whyNoWay_22 (by decide) ?_
      cases hf
      exact hJ_v_4 _ _ hw
  · replace hf := (if_pos c_1).symm.trans hf
    refine lv_iconst (v := 1) S.1 S.2.1 dX1_whyNoWay_5 (by decide) ?_
    cases hf
    exact w_iret S hr hlk hA hQ hw dX1_whyNoWay_6
section
variable {p : Program} {l : Launch} {e : Env} {R : Room} {s : State} {m : MethodId} {args : Array Value} {below : List Frame} {meth : Method} {c : Code} {H : Heap} {locs : List Loc} {cells slots : Nat} {Q : State → Prop} {cc : ByteArray} {pc nL : Nat} {ls : Array Slot} {rest : List Value} {D : va_G} {cy : Nat → ClassId} {A : Nat → Prop} {H0 : Heap} {own : String} {Ps : List va_W}
set_option maxRecDepth 100000 in
theorem k_X1_whyNoWay {o0 : Nat} {q0 : Nat → Nat} {x1 : Int32} {x2 : Int32} {x3 : Int32} {σ0 : pStt} {u : Int32} {index : Nat} (S : CX p m c cc nL s args own D cy) (hl : (Cond.methodLink own index yX1_whyNoWay).before args s = true) (hw : PW D A H0 Ps H locs) (hf : f_X1_whyNoWay x1 x2 x3 σ0 = some u) (js : List Nat) (hC : js.map (fun j => Ps[j]?) = [some (pX1 cy o0 q0 σ0)]) (hnd : js.Nodup) (hlen : js.length = 1) (hR : RMok rmX1_whyNoWay R 4) (hsize : ls.size = nL) (hrest : (rest.map fun v => v.category).sum ≤ 8) (hdg : decode cc pc = .ok (.invokevirtual index, 3)) (hcs : cells ≤ R.cells ∧ slots ≤ R.slots)
    (kk : ∀ (H1 : Heap) (locs1 : List Loc), PW D A H0 (setAll Ps js [pX1 cy o0 q0 σ0]) H1 locs1 → W p l e R s m args below meth c H1 locs1 cells slots Q (F0 m (pc + 3) ls (.int u :: rest))) : W p l e R s m args below meth c H locs cells slots Q (F0 m pc ls (.int x3 :: .int x2 :: .int x1 :: .ref o0 :: rest)) :=
  w_callV (n := 3) (ov := (some (.int u))) (As := [.int x1, .int x2, .int x3]) (Cs := [pX1 cy o0 q0 σ0]) (Cs' := [pX1 cy o0 q0 σ0]) S hw (c_X1_whyNoWay l D cy o0 q0 x1 x2 x3 σ0 u hf) (MF.of S.2.2.2.2 wd419 wd72 (by decide)) (S.2.2.2.2.wd wd418 rfl) (S.2.2.2.2.wd wd6 rfl) hl hR js hC hnd hlen rfl rfl rfl rfl hsize rfl hrest hdg hcs kk
end
abbrev rmX1_whyNotOver : Room := { frames := 0, cells := 0, slots := 0, locals := 0 }
def f_X1_whyNotOver (x1 : Int32) (σ0 : pStt) : Option (Int32) := (ld (σ0.2 2) 6 x1).bind (fun x_1 => if x_1 = (-1) then (if (σ0.1 1) = 0 then some 6 else some 0 : Option Int32).bind (fun v_3 => some v_3) else some 4)
set_option maxHeartbeats 4000000 in
set_option maxRecDepth 100000 in
theorem c_X1_whyNotOver (l : Launch) (D : va_G) (cy : Nat → ClassId) (o0 : Nat) (q0 : Nat → Nat) (x1 : Int32) (σ0 : pStt) (u : Int32) (hf : f_X1_whyNotOver x1 σ0 = some u) : CT l yX1_whyNotOver cX1_whyNotOver 2 (some .int) rmX1_whyNotOver D cy [.ref o0, .int x1] [pX1 cy o0 q0 σ0] (some (.int u)) [pX1 cy o0 q0 σ0] := by
  refine CT.of (by decide) (Nat.le_of_ble_eq_true rfl) (fun p e s m args below meth c ls A Q hA hQ S hr hlk hl hw => ?_)
  have hl : lv_has ls 2 [(0, .ref o0), (1, .int x1)] := hl
  rw [f_X1_whyNotOver] at hf
  refine lv_aload_n S.1 S.2.1 dX1_whyNotOver_0 rfl (lv_at hl 0 rfl) ?_
  refine gf_X1_18 S hw 0 rfl dX1_whyNotOver_1 ?_
  refine lv_iload_n S.1 S.2.1 dX1_whyNotOver_4 rfl (lv_at hl 1 rfl) ?_
  obtain ⟨x_1, e_x_1, hf⟩ := ob hf
  refine al_X1_2 S hw 0 rfl e_x_1 dX1_whyNotOver_5 ?_
  refine lv_iconst (v := (-1)) S.1 S.2.1 dX1_whyNotOver_6 (by decide) ?_
  refine lv_icmp_eq (tgt := 12) S.1 S.2.1 dX1_whyNotOver_7 (by decide) (fun c_2 => ?_) (fun c_2 => ?_)
  · replace hf := (if_pos c_2).symm.trans hf
    refine lv_aload_n S.1 S.2.1 dX1_whyNotOver_12 rfl (lv_at hl 0 rfl) ?_
    refine gf_X1_24 S hw 0 rfl dX1_whyNotOver_13 ?_
    obtain ⟨v_3, e_v_3, hf⟩ := ob hf
    have hJ_v_3 : ∀ (H : Heap) (locs : List Loc), PW D A s.heap [pX1 cy o0 q0 σ0] H locs → W p l e rmX1_whyNotOver s m args below meth c H locs 0 0 Q (F0 m 25 ls [.int v_3]) := by
      intro H locs hw
      cases hf
      exact w_iret S hr hlk hA hQ hw dX1_whyNotOver_25
    replace hf := e_v_3
    clear e_v_3
    refine lv_if_eq (tgt := 23) S.1 S.2.1 dX1_whyNotOver_16 (by decide) (fun c_4 => ?_) (fun c_4 => ?_)
    · replace hf := (if_pos c_4).symm.trans hf
      refine lv_bipush (v := 6) S.1 S.2.1 dX1_whyNotOver_23 (by decide) ?_
      cases hf
      exact hJ_v_3 _ _ hw
    · replace hf := (if_neg c_4).symm.trans hf
      refine lv_iconst (v := 0) S.1 S.2.1 dX1_whyNotOver_19 (by decide) ?_
      refine lv_goto (tgt := 25) S.1 S.2.1 dX1_whyNotOver_20 (by decide) ?_
      cases hf
      exact hJ_v_3 _ _ hw
  · replace hf := (if_neg c_2).symm.trans hf
    refine lv_iconst (v := 4) S.1 S.2.1 dX1_whyNotOver_10 (by decide) ?_
    cases hf
    exact w_iret S hr hlk hA hQ hw dX1_whyNotOver_11
section
variable {p : Program} {l : Launch} {e : Env} {R : Room} {s : State} {m : MethodId} {args : Array Value} {below : List Frame} {meth : Method} {c : Code} {H : Heap} {locs : List Loc} {cells slots : Nat} {Q : State → Prop} {cc : ByteArray} {pc nL : Nat} {ls : Array Slot} {rest : List Value} {D : va_G} {cy : Nat → ClassId} {A : Nat → Prop} {H0 : Heap} {own : String} {Ps : List va_W}
set_option maxRecDepth 100000 in
theorem k_X1_whyNotOver {o0 : Nat} {q0 : Nat → Nat} {x1 : Int32} {σ0 : pStt} {u : Int32} {index : Nat} (S : CX p m c cc nL s args own D cy) (hl : (Cond.methodLink own index yX1_whyNotOver).before args s = true) (hw : PW D A H0 Ps H locs) (hf : f_X1_whyNotOver x1 σ0 = some u) (js : List Nat) (hC : js.map (fun j => Ps[j]?) = [some (pX1 cy o0 q0 σ0)]) (hnd : js.Nodup) (hlen : js.length = 1) (hR : RMok rmX1_whyNotOver R 2) (hsize : ls.size = nL) (hrest : (rest.map fun v => v.category).sum ≤ 8) (hdg : decode cc pc = .ok (.invokevirtual index, 3)) (hcs : cells ≤ R.cells ∧ slots ≤ R.slots)
    (kk : ∀ (H1 : Heap) (locs1 : List Loc), PW D A H0 (setAll Ps js [pX1 cy o0 q0 σ0]) H1 locs1 → W p l e R s m args below meth c H1 locs1 cells slots Q (F0 m (pc + 3) ls (.int u :: rest))) : W p l e R s m args below meth c H locs cells slots Q (F0 m pc ls (.int x1 :: .ref o0 :: rest)) :=
  w_callV (n := 1) (ov := (some (.int u))) (As := [.int x1]) (Cs := [pX1 cy o0 q0 σ0]) (Cs' := [pX1 cy o0 q0 σ0]) S hw (c_X1_whyNotOver l D cy o0 q0 x1 σ0 u hf) (MF.of S.2.2.2.2 wd426 wd72 (by decide)) (S.2.2.2.2.wd wd425 rfl) (S.2.2.2.2.wd wd7 rfl) hl hR js hC hnd hlen rfl rfl rfl rfl hsize rfl hrest hdg hcs kk
end
abbrev rmX1_whyNotThere : Room := { frames := 1, cells := 0, slots := 0, locals := 21 }
def f_X1_whyNotThere (x1 : Int32) (x2 : Int32) (x3 : Int32) (σ0 : pStt) : Option (Int32) := (ld (σ0.2 2) 6 x2).bind (fun x_1 => if x_1 = (-1) then some 4 else (f_X8_holds ((σ0.1 0)) x2).bind (fun u_3 => if u_3 = 0 then if x1 = 6 then if (σ0.1 1) = 0 then some 6 else (if x_1 = 0 then some 0 else some 7 : Option Int32).bind (fun v_7 => some v_7) else if x1 = 7 then (ld (σ0.2 0) 8 x_1).bind (fun x_10 => (f_X8_holds x_10 x3).bind (fun u_11 => (if u_11 = 0 then some 8 else some 0 : Option Int32).bind (fun v_12 => some v_12))) else if x1 = 8 then (ld (σ0.2 1) 8 x3).bind (fun x_15 => (if x_15 = x_1 then some 0 else some 9 : Option Int32).bind (fun v_16 => some v_16)) else some 0 else some 5))
set_option maxHeartbeats 4000000 in
set_option maxRecDepth 100000 in
theorem c_X1_whyNotThere (l : Launch) (D : va_G) (cy : Nat → ClassId) (o0 : Nat) (q0 : Nat → Nat) (x1 : Int32) (x2 : Int32) (x3 : Int32) (σ0 : pStt) (u : Int32) (hf : f_X1_whyNotThere x1 x2 x3 σ0 = some u) : CT l yX1_whyNotThere cX1_whyNotThere 5 (some .int) rmX1_whyNotThere D cy [.ref o0, .int x1, .int x2, .int x3] [pX1 cy o0 q0 σ0] (some (.int u)) [pX1 cy o0 q0 σ0] := by
  refine CT.of (by decide) (Nat.le_of_ble_eq_true rfl) (fun p e s m args below meth c ls A Q hA hQ S hr hlk hl hw => ?_)
  have hl : lv_has ls 5 [(0, .ref o0), (1, .int x1), (2, .int x2), (3, .int x3)] := hl
  rw [f_X1_whyNotThere] at hf
  refine lv_aload_n S.1 S.2.1 dX1_whyNotThere_0 rfl (lv_at hl 0 rfl) ?_
  refine gf_X1_18 S hw 0 rfl dX1_whyNotThere_1 ?_
  refine lv_iload_n S.1 S.2.1 dX1_whyNotThere_4 rfl (lv_at hl 2 rfl) ?_
  obtain ⟨x_1, e_x_1, hf⟩ := ob hf
  refine al_X1_2 S hw 0 rfl e_x_1 dX1_whyNotThere_5 ?_
  refine lv_istore (lv' := [(4, .int x_1), (0, .ref o0), (1, .int x1), (2, .int x2), (3, .int x3)]) S.1 S.2.1 dX1_whyNotThere_6 hl (by decide) rfl (fun ls hl => ?_)
  refine lv_iload S.1 S.2.1 dX1_whyNotThere_8 (lv_at hl 0 rfl) ?_
  refine lv_iconst (v := (-1)) S.1 S.2.1 dX1_whyNotThere_10 (by decide) ?_
  refine lv_icmp_ne (tgt := 16) S.1 S.2.1 dX1_whyNotThere_11 (by decide) (fun c_2 => ?_) (fun c_2 => ?_)
  · replace hf := (if_neg c_2).symm.trans hf
    refine lv_aload_n S.1 S.2.1 dX1_whyNotThere_16 rfl (lv_at hl 1 rfl) ?_
    refine gf_X1_34 S hw 0 rfl dX1_whyNotThere_17 ?_
    refine lv_iload_n S.1 S.2.1 dX1_whyNotThere_20 rfl (lv_at hl 3 rfl) ?_
    obtain ⟨u_3, e_u_3, hf⟩ := ob hf
    refine kn_X8_holds S (S.2.2.2.2.wd wd420 rfl) hw e_u_3 [] rfl (by decide) rfl ⟨rfl, rfl, Nat.le_of_ble_eq_true rfl, Nat.le_of_ble_eq_true rfl⟩ hl.1 (Nat.le_of_ble_eq_true rfl) dX1_whyNotThere_21 ⟨Nat.zero_le _, Nat.zero_le _⟩ (fun H locs hw => ?_)
    have hw : PW D A s.heap [pX1 cy o0 q0 σ0] H locs := hw
    refine lv_if_eq (tgt := 29) S.1 S.2.1 dX1_whyNotThere_24 (by decide) (fun c_4 => ?_) (fun c_4 => ?_)
    · replace hf := (if_pos c_4).symm.trans hf
      refine lv_iload_n S.1 S.2.1 dX1_whyNotThere_29 rfl (lv_at hl 2 rfl) ?_
      by_cases c_5 : x1 = 6
      · replace hf := (if_pos c_5).symm.trans hf
        refine lv_tableIn (off := 26) (tgt := 56) S.1 S.2.1 dX1_whyNotThere_30 (by rw [c_5]; decide) (by rw [c_5]; decide) (by rw [c_5]; rfl) (by decide) ?_
        refine lv_aload_n S.1 S.2.1 dX1_whyNotThere_56 rfl (lv_at hl 1 rfl) ?_
        refine gf_X1_24 S hw 0 rfl dX1_whyNotThere_57 ?_
        refine lv_if_ne (tgt := 66) S.1 S.2.1 dX1_whyNotThere_60 (by decide) (fun c_6 => ?_) (fun c_6 => ?_)
        · replace hf := (if_neg c_6).symm.trans hf
          refine lv_iload S.1 S.2.1 dX1_whyNotThere_66 (lv_at hl 0 rfl) ?_
          obtain ⟨v_7, e_v_7, hf⟩ := ob hf
          have hJ_v_7 : ∀ (H : Heap) (locs : List Loc), PW D A s.heap [pX1 cy o0 q0 σ0] H locs → W p l e rmX1_whyNotThere s m args below meth c H locs 0 0 Q (F0 m 77 ls [.int v_7]) := by
            intro H locs hw
            cases hf
            exact w_iret S hr hlk hA hQ hw dX1_whyNotThere_77
          replace hf := e_v_7
          clear e_v_7
          refine lv_if_ne (tgt := 75) S.1 S.2.1 dX1_whyNotThere_68 (by decide) (fun c_8 => ?_) (fun c_8 => ?_)
          · replace hf := (if_neg c_8).symm.trans hf
            refine lv_bipush (v := 7) S.1 S.2.1 dX1_whyNotThere_75 (by decide) ?_
            cases hf
            exact hJ_v_7 _ _ hw
          · replace hf := (if_pos c_8).symm.trans hf
            refine lv_iconst (v := 0) S.1 S.2.1 dX1_whyNotThere_71 (by decide) ?_
            refine lv_goto (tgt := 77) S.1 S.2.1 dX1_whyNotThere_72 (by decide) ?_
            cases hf
            exact hJ_v_7 _ _ hw
        · replace hf := (if_pos c_6).symm.trans hf
          refine lv_bipush (v := 6) S.1 S.2.1 dX1_whyNotThere_63 (by decide) ?_
          cases hf
          exact w_iret S hr hlk hA hQ hw dX1_whyNotThere_65
      · replace hf := (if_neg c_5).symm.trans hf
        by_cases c_9 : x1 = 7
        · replace hf := (if_pos c_9).symm.trans hf
          refine lv_tableIn (off := 48) (tgt := 78) S.1 S.2.1 dX1_whyNotThere_30 (by rw [c_9]; decide) (by rw [c_9]; decide) (by rw [c_9]; rfl) (by decide) ?_
          refine lv_aload_n S.1 S.2.1 dX1_whyNotThere_78 rfl (lv_at hl 1 rfl) ?_
          refine gf_X1_9 S hw 0 rfl dX1_whyNotThere_79 ?_
          refine lv_iload S.1 S.2.1 dX1_whyNotThere_82 (lv_at hl 0 rfl) ?_
          obtain ⟨x_10, e_x_10, hf⟩ := ob hf
          refine al_X1_0 S hw 0 rfl e_x_10 dX1_whyNotThere_84 ?_
          refine lv_iload_n S.1 S.2.1 dX1_whyNotThere_85 rfl (lv_at hl 4 rfl) ?_
          obtain ⟨u_11, e_u_11, hf⟩ := ob hf
          refine kn_X8_holds S (S.2.2.2.2.wd wd420 rfl) hw e_u_11 [] rfl (by decide) rfl ⟨rfl, rfl, Nat.le_of_ble_eq_true rfl, Nat.le_of_ble_eq_true rfl⟩ hl.1 (Nat.le_of_ble_eq_true rfl) dX1_whyNotThere_86 ⟨Nat.zero_le _, Nat.zero_le _⟩ (fun H locs hw => ?_)
          have hw : PW D A s.heap [pX1 cy o0 q0 σ0] H locs := hw
          obtain ⟨v_12, e_v_12, hf⟩ := ob hf
          have hJ_v_12 : ∀ (H : Heap) (locs : List Loc), PW D A s.heap [pX1 cy o0 q0 σ0] H locs → W p l e rmX1_whyNotThere s m args below meth c H locs 0 0 Q (F0 m 98 ls [.int v_12]) := by
            intro H locs hw
            cases hf
            exact w_iret S hr hlk hA hQ hw dX1_whyNotThere_98
          replace hf := e_v_12
          clear e_v_12
          refine lv_if_eq (tgt := 96) S.1 S.2.1 dX1_whyNotThere_89 (by decide) (fun c_13 => ?_) (fun c_13 => ?_)
          · replace hf := (if_pos c_13).symm.trans hf
            refine lv_bipush (v := 8) S.1 S.2.1 dX1_whyNotThere_96 (by decide) ?_
            cases hf
            exact hJ_v_12 _ _ hw
          · replace hf := (if_neg c_13).symm.trans hf
            refine lv_iconst (v := 0) S.1 S.2.1 dX1_whyNotThere_92 (by decide) ?_
            refine lv_goto (tgt := 98) S.1 S.2.1 dX1_whyNotThere_93 (by decide) ?_
            cases hf
            exact hJ_v_12 _ _ hw
        · replace hf := (if_neg c_9).symm.trans hf
          by_cases c_14 : x1 = 8
          · replace hf := (if_pos c_14).symm.trans hf
            refine lv_tableIn (off := 69) (tgt := 99) S.1 S.2.1 dX1_whyNotThere_30 (by rw [c_14]; decide) (by rw [c_14]; decide) (by rw [c_14]; rfl) (by decide) ?_
            refine lv_aload_n S.1 S.2.1 dX1_whyNotThere_99 rfl (lv_at hl 1 rfl) ?_
            refine gf_X1_15 S hw 0 rfl dX1_whyNotThere_100 ?_
            refine lv_iload_n S.1 S.2.1 dX1_whyNotThere_103 rfl (lv_at hl 4 rfl) ?_
            obtain ⟨x_15, e_x_15, hf⟩ := ob hf
            refine al_X1_1 S hw 0 rfl e_x_15 dX1_whyNotThere_104 ?_
            refine lv_iload S.1 S.2.1 dX1_whyNotThere_105 (lv_at hl 0 rfl) ?_
            obtain ⟨v_16, e_v_16, hf⟩ := ob hf
            have hJ_v_16 : ∀ (H : Heap) (locs : List Loc), PW D A s.heap [pX1 cy o0 q0 σ0] H locs → W p l e rmX1_whyNotThere s m args below meth c H locs 0 0 Q (F0 m 116 ls [.int v_16]) := by
              intro H locs hw
              cases hf
              exact w_iret S hr hlk hA hQ hw dX1_whyNotThere_116
            replace hf := e_v_16
            clear e_v_16
            refine lv_icmp_ne (tgt := 114) S.1 S.2.1 dX1_whyNotThere_107 (by decide) (fun c_17 => ?_) (fun c_17 => ?_)
            · replace hf := (if_neg c_17).symm.trans hf
              refine lv_bipush (v := 9) S.1 S.2.1 dX1_whyNotThere_114 (by decide) ?_
              cases hf
              exact hJ_v_16 _ _ hw
            · replace hf := (if_pos c_17).symm.trans hf
              refine lv_iconst (v := 0) S.1 S.2.1 dX1_whyNotThere_110 (by decide) ?_
              refine lv_goto (tgt := 116) S.1 S.2.1 dX1_whyNotThere_111 (by decide) ?_
              cases hf
              exact hJ_v_16 _ _ hw
          · replace hf := (if_neg c_14).symm.trans hf
            have t_c_5 := ne_toInt (k := 6) c_5 (by decide)
            have t_c_9 := ne_toInt (k := 7) c_9 (by decide)
            have t_c_14 := ne_toInt (k := 8) c_14 (by decide)
            refine lv_tableOut (tgt := 117) S.1 S.2.1 dX1_whyNotThere_30 (by omega) (by decide) ?_
            refine lv_iconst (v := 0) S.1 S.2.1 dX1_whyNotThere_117 (by decide) ?_
            cases hf
            exact w_iret S hr hlk hA hQ hw dX1_whyNotThere_118
    · replace hf := (if_neg c_4).symm.trans hf
      refine lv_iconst (v := 5) S.1 S.2.1 dX1_whyNotThere_27 (by decide) ?_
      cases hf
      exact w_iret S hr hlk hA hQ hw dX1_whyNotThere_28
  · replace hf := (if_pos c_2).symm.trans hf
    refine lv_iconst (v := 4) S.1 S.2.1 dX1_whyNotThere_14 (by decide) ?_
    cases hf
    exact w_iret S hr hlk hA hQ hw dX1_whyNotThere_15
section
variable {p : Program} {l : Launch} {e : Env} {R : Room} {s : State} {m : MethodId} {args : Array Value} {below : List Frame} {meth : Method} {c : Code} {H : Heap} {locs : List Loc} {cells slots : Nat} {Q : State → Prop} {cc : ByteArray} {pc nL : Nat} {ls : Array Slot} {rest : List Value} {D : va_G} {cy : Nat → ClassId} {A : Nat → Prop} {H0 : Heap} {own : String} {Ps : List va_W}
set_option maxRecDepth 100000 in
theorem k_X1_whyNotThere {o0 : Nat} {q0 : Nat → Nat} {x1 : Int32} {x2 : Int32} {x3 : Int32} {σ0 : pStt} {u : Int32} {index : Nat} (S : CX p m c cc nL s args own D cy) (hl : (Cond.methodLink own index yX1_whyNotThere).before args s = true) (hw : PW D A H0 Ps H locs) (hf : f_X1_whyNotThere x1 x2 x3 σ0 = some u) (js : List Nat) (hC : js.map (fun j => Ps[j]?) = [some (pX1 cy o0 q0 σ0)]) (hnd : js.Nodup) (hlen : js.length = 1) (hR : RMok rmX1_whyNotThere R 5) (hsize : ls.size = nL) (hrest : (rest.map fun v => v.category).sum ≤ 8) (hdg : decode cc pc = .ok (.invokevirtual index, 3)) (hcs : cells ≤ R.cells ∧ slots ≤ R.slots)
    (kk : ∀ (H1 : Heap) (locs1 : List Loc), PW D A H0 (setAll Ps js [pX1 cy o0 q0 σ0]) H1 locs1 → W p l e R s m args below meth c H1 locs1 cells slots Q (F0 m (pc + 3) ls (.int u :: rest))) : W p l e R s m args below meth c H locs cells slots Q (F0 m pc ls (.int x3 :: .int x2 :: .int x1 :: .ref o0 :: rest)) :=
  w_callV (n := 3) (ov := (some (.int u))) (As := [.int x1, .int x2, .int x3]) (Cs := [pX1 cy o0 q0 σ0]) (Cs' := [pX1 cy o0 q0 σ0]) S hw (c_X1_whyNotThere l D cy o0 q0 x1 x2 x3 σ0 u hf) (MF.of S.2.2.2.2 wd430 wd72 (by decide)) (S.2.2.2.2.wd wd429 rfl) (S.2.2.2.2.wd wd8 rfl) hl hR js hC hnd hlen rfl rfl rfl rfl hsize rfl hrest hdg hcs kk
end
abbrev rmX1_whyNot : Room := { frames := 2, cells := 0, slots := 0, locals := 45 }
def f_X1_whyNot (x1 : Int32) (x2 : Int32) (x3 : Int32) (σ0 : pStt) : Option (Int32) := if x1 = 0 then (f_X1_whyNoWay x2 x3 0 σ0).bind (fun u_2 => some u_2) else if x1 = 1 then (f_X1_whyNoWay x2 x3 1 σ0).bind (fun u_4 => some u_4) else if x1 = 2 then (ld (σ0.2 1) 8 x2).bind (fun x_6 => (if x_6 = (-1) then some 0 else some 3 : Option Int32).bind (fun v_7 => some v_7)) else if x1 = 3 then some 0 else if x1 = 4 then (if 99 ≤ (σ0.1 2) then some 10 else some 0 : Option Int32).bind (fun v_11 => some v_11) else if x1 = 5 then (f_X1_whyNotOver x2 σ0).bind (fun u_14 => some u_14) else (f_X1_whyNotThere x1 x2 x3 σ0).bind (fun u_15 => some u_15)
set_option maxHeartbeats 4000000 in
set_option maxRecDepth 100000 in
theorem c_X1_whyNot (l : Launch) (D : va_G) (cy : Nat → ClassId) (o0 : Nat) (q0 : Nat → Nat) (x1 : Int32) (x2 : Int32) (x3 : Int32) (σ0 : pStt) (u : Int32) (hf : f_X1_whyNot x1 x2 x3 σ0 = some u) : CT l yX1_whyNot cX1_whyNot 4 (some .int) rmX1_whyNot D cy [.ref o0, .int x1, .int x2, .int x3] [pX1 cy o0 q0 σ0] (some (.int u)) [pX1 cy o0 q0 σ0] := by
  refine CT.of (by decide) (Nat.le_of_ble_eq_true rfl) (fun p e s m args below meth c ls A Q hA hQ S hr hlk hl hw => ?_)
  have hl : lv_has ls 4 [(0, .ref o0), (1, .int x1), (2, .int x2), (3, .int x3)] := hl
  rw [f_X1_whyNot] at hf
  refine lv_iload_n S.1 S.2.1 dX1_whyNot_0 rfl (lv_at hl 1 rfl) ?_
  by_cases c_1 : x1 = 0
  · replace hf := (if_pos c_1).symm.trans hf
    refine lv_tableIn (off := 39) (tgt := 40) S.1 S.2.1 dX1_whyNot_1 (by rw [c_1]; decide) (by rw [c_1]; decide) (by rw [c_1]; rfl) (by decide) ?_
    refine lv_aload_n S.1 S.2.1 dX1_whyNot_40 rfl (lv_at hl 0 rfl) ?_
    refine lv_iload_n S.1 S.2.1 dX1_whyNot_41 rfl (lv_at hl 2 rfl) ?_
    refine lv_iload_n S.1 S.2.1 dX1_whyNot_42 rfl (lv_at hl 3 rfl) ?_
    refine lv_iconst (v := 0) S.1 S.2.1 dX1_whyNot_43 (by decide) ?_
    obtain ⟨u_2, e_u_2, hf⟩ := ob hf
    refine k_X1_whyNoWay S (S.2.2.2.2.wd wd416 rfl) hw e_u_2 [0] rfl (by decide) rfl ⟨rfl, rfl, Nat.le_of_ble_eq_true rfl, Nat.le_of_ble_eq_true rfl⟩ hl.1 (Nat.le_of_ble_eq_true rfl) dX1_whyNot_44 ⟨Nat.zero_le _, Nat.zero_le _⟩ (fun H locs hw => ?_)
    have hw : PW D A s.heap [pX1 cy o0 q0 σ0] H locs := hw
    cases hf
    exact w_iret S hr hlk hA hQ hw dX1_whyNot_47
  · replace hf := (if_neg c_1).symm.trans hf
    by_cases c_3 : x1 = 1
    · replace hf := (if_pos c_3).symm.trans hf
      refine lv_tableIn (off := 47) (tgt := 48) S.1 S.2.1 dX1_whyNot_1 (by rw [c_3]; decide) (by rw [c_3]; decide) (by rw [c_3]; rfl) (by decide) ?_
      refine lv_aload_n S.1 S.2.1 dX1_whyNot_48 rfl (lv_at hl 0 rfl) ?_
      refine lv_iload_n S.1 S.2.1 dX1_whyNot_49 rfl (lv_at hl 2 rfl) ?_
      refine lv_iload_n S.1 S.2.1 dX1_whyNot_50 rfl (lv_at hl 3 rfl) ?_
      refine lv_iconst (v := 1) S.1 S.2.1 dX1_whyNot_51 (by decide) ?_
      obtain ⟨u_4, e_u_4, hf⟩ := ob hf
      refine k_X1_whyNoWay S (S.2.2.2.2.wd wd416 rfl) hw e_u_4 [0] rfl (by decide) rfl ⟨rfl, rfl, Nat.le_of_ble_eq_true rfl, Nat.le_of_ble_eq_true rfl⟩ hl.1 (Nat.le_of_ble_eq_true rfl) dX1_whyNot_52 ⟨Nat.zero_le _, Nat.zero_le _⟩ (fun H locs hw => ?_)
      have hw : PW D A s.heap [pX1 cy o0 q0 σ0] H locs := hw
      cases hf
      exact w_iret S hr hlk hA hQ hw dX1_whyNot_55
    · replace hf := (if_neg c_3).symm.trans hf
      by_cases c_5 : x1 = 2
      · replace hf := (if_pos c_5).symm.trans hf
        refine lv_tableIn (off := 55) (tgt := 56) S.1 S.2.1 dX1_whyNot_1 (by rw [c_5]; decide) (by rw [c_5]; decide) (by rw [c_5]; rfl) (by decide) ?_
        refine lv_aload_n S.1 S.2.1 dX1_whyNot_56 rfl (lv_at hl 0 rfl) ?_
        refine gf_X1_15 S hw 0 rfl dX1_whyNot_57 ?_
        refine lv_iload_n S.1 S.2.1 dX1_whyNot_60 rfl (lv_at hl 2 rfl) ?_
        obtain ⟨x_6, e_x_6, hf⟩ := ob hf
        refine al_X1_1 S hw 0 rfl e_x_6 dX1_whyNot_61 ?_
        refine lv_iconst (v := (-1)) S.1 S.2.1 dX1_whyNot_62 (by decide) ?_
        obtain ⟨v_7, e_v_7, hf⟩ := ob hf
        have hJ_v_7 : ∀ (H : Heap) (locs : List Loc), PW D A s.heap [pX1 cy o0 q0 σ0] H locs → W p l e rmX1_whyNot s m args below meth c H locs 0 0 Q (F0 m 71 ls [.int v_7]) := by
          intro H locs hw
          cases hf
          exact w_iret S hr hlk hA hQ hw dX1_whyNot_71
        replace hf := e_v_7
        clear e_v_7
        refine lv_icmp_ne (tgt := 70) S.1 S.2.1 dX1_whyNot_63 (by decide) (fun c_8 => ?_) (fun c_8 => ?_)
        · replace hf := (if_neg c_8).symm.trans hf
          refine lv_iconst (v := 3) S.1 S.2.1 dX1_whyNot_70 (by decide) ?_
          cases hf
          exact hJ_v_7 _ _ hw
        · replace hf := (if_pos c_8).symm.trans hf
          refine lv_iconst (v := 0) S.1 S.2.1 dX1_whyNot_66 (by decide) ?_
          refine lv_goto (tgt := 71) S.1 S.2.1 dX1_whyNot_67 (by decide) ?_
          cases hf
          exact hJ_v_7 _ _ hw
      · replace hf := (if_neg c_5).symm.trans hf
        by_cases c_9 : x1 = 3
        · replace hf := (if_pos c_9).symm.trans hf
          refine lv_tableIn (off := 71) (tgt := 72) S.1 S.2.1 dX1_whyNot_1 (by rw [c_9]; decide) (by rw [c_9]; decide) (by rw [c_9]; rfl) (by decide) ?_
          refine lv_iconst (v := 0) S.1 S.2.1 dX1_whyNot_72 (by decide) ?_
          cases hf
          exact w_iret S hr hlk hA hQ hw dX1_whyNot_73
        · replace hf := (if_neg c_9).symm.trans hf
          by_cases c_10 : x1 = 4
          · replace hf := (if_pos c_10).symm.trans hf
            refine lv_tableIn (off := 73) (tgt := 74) S.1 S.2.1 dX1_whyNot_1 (by rw [c_10]; decide) (by rw [c_10]; decide) (by rw [c_10]; rfl) (by decide) ?_
            refine lv_aload_n S.1 S.2.1 dX1_whyNot_74 rfl (lv_at hl 0 rfl) ?_
            refine gf_X1_38 S hw 0 rfl dX1_whyNot_75 ?_
            refine lv_bipush (v := 99) S.1 S.2.1 dX1_whyNot_78 (by decide) ?_
            obtain ⟨v_11, e_v_11, hf⟩ := ob hf
            have hJ_v_11 : ∀ (H : Heap) (locs : List Loc), PW D A s.heap [pX1 cy o0 q0 σ0] H locs → W p l e rmX1_whyNot s m args below meth c H locs 0 0 Q (F0 m 89 ls [.int v_11]) := by
              intro H locs hw
              cases hf
              exact w_iret S hr hlk hA hQ hw dX1_whyNot_89
            replace hf := e_v_11
            clear e_v_11
            refine lv_icmp_ge (tgt := 87) S.1 S.2.1 dX1_whyNot_80 (by decide) (fun c_12 => ?_) (fun c_12 => ?_)
            · replace hf := (if_pos c_12).symm.trans hf
              refine lv_bipush (v := 10) S.1 S.2.1 dX1_whyNot_87 (by decide) ?_
              cases hf
              exact hJ_v_11 _ _ hw
            · replace hf := (if_neg c_12).symm.trans hf
              refine lv_iconst (v := 0) S.1 S.2.1 dX1_whyNot_83 (by decide) ?_
              refine lv_goto (tgt := 89) S.1 S.2.1 dX1_whyNot_84 (by decide) ?_
              cases hf
              exact hJ_v_11 _ _ hw
          · replace hf := (if_neg c_10).symm.trans hf
            by_cases c_13 : x1 = 5
            · replace hf := (if_pos c_13).symm.trans hf
              refine lv_tableIn (off := 89) (tgt := 90) S.1 S.2.1 dX1_whyNot_1 (by rw [c_13]; decide) (by rw [c_13]; decide) (by rw [c_13]; rfl) (by decide) ?_
              refine lv_aload_n S.1 S.2.1 dX1_whyNot_90 rfl (lv_at hl 0 rfl) ?_
              refine lv_iload_n S.1 S.2.1 dX1_whyNot_91 rfl (lv_at hl 2 rfl) ?_
              obtain ⟨u_14, e_u_14, hf⟩ := ob hf
              refine k_X1_whyNotOver S (S.2.2.2.2.wd wd423 rfl) hw e_u_14 [0] rfl (by decide) rfl ⟨rfl, rfl, Nat.le_of_ble_eq_true rfl, Nat.le_of_ble_eq_true rfl⟩ hl.1 (Nat.le_of_ble_eq_true rfl) dX1_whyNot_92 ⟨Nat.zero_le _, Nat.zero_le _⟩ (fun H locs hw => ?_)
              have hw : PW D A s.heap [pX1 cy o0 q0 σ0] H locs := hw
              cases hf
              exact w_iret S hr hlk hA hQ hw dX1_whyNot_95
            · replace hf := (if_neg c_13).symm.trans hf
              have t_c_1 := ne_toInt (k := 0) c_1 (by decide)
              have t_c_3 := ne_toInt (k := 1) c_3 (by decide)
              have t_c_5 := ne_toInt (k := 2) c_5 (by decide)
              have t_c_9 := ne_toInt (k := 3) c_9 (by decide)
              have t_c_10 := ne_toInt (k := 4) c_10 (by decide)
              have t_c_13 := ne_toInt (k := 5) c_13 (by decide)
              refine lv_tableOut (tgt := 96) S.1 S.2.1 dX1_whyNot_1 (by omega) (by decide) ?_
              refine lv_aload_n S.1 S.2.1 dX1_whyNot_96 rfl (lv_at hl 0 rfl) ?_
              refine lv_iload_n S.1 S.2.1 dX1_whyNot_97 rfl (lv_at hl 1 rfl) ?_
              refine lv_iload_n S.1 S.2.1 dX1_whyNot_98 rfl (lv_at hl 2 rfl) ?_
              refine lv_iload_n S.1 S.2.1 dX1_whyNot_99 rfl (lv_at hl 3 rfl) ?_
              obtain ⟨u_15, e_u_15, hf⟩ := ob hf
              refine k_X1_whyNotThere S (S.2.2.2.2.wd wd427 rfl) hw e_u_15 [0] rfl (by decide) rfl ⟨rfl, rfl, Nat.le_of_ble_eq_true rfl, Nat.le_of_ble_eq_true rfl⟩ hl.1 (Nat.le_of_ble_eq_true rfl) dX1_whyNot_100 ⟨Nat.zero_le _, Nat.zero_le _⟩ (fun H locs hw => ?_)
              have hw : PW D A s.heap [pX1 cy o0 q0 σ0] H locs := hw
              cases hf
              exact w_iret S hr hlk hA hQ hw dX1_whyNot_103
section
variable {p : Program} {l : Launch} {e : Env} {R : Room} {s : State} {m : MethodId} {args : Array Value} {below : List Frame} {meth : Method} {c : Code} {H : Heap} {locs : List Loc} {cells slots : Nat} {Q : State → Prop} {cc : ByteArray} {pc nL : Nat} {ls : Array Slot} {rest : List Value} {D : va_G} {cy : Nat → ClassId} {A : Nat → Prop} {H0 : Heap} {own : String} {Ps : List va_W}
set_option maxRecDepth 100000 in
theorem k_X1_whyNot {o0 : Nat} {q0 : Nat → Nat} {x1 : Int32} {x2 : Int32} {x3 : Int32} {σ0 : pStt} {u : Int32} {index : Nat} (S : CX p m c cc nL s args own D cy) (hl : (Cond.methodLink own index yX1_whyNot).before args s = true) (hw : PW D A H0 Ps H locs) (hf : f_X1_whyNot x1 x2 x3 σ0 = some u) (js : List Nat) (hC : js.map (fun j => Ps[j]?) = [some (pX1 cy o0 q0 σ0)]) (hnd : js.Nodup) (hlen : js.length = 1) (hR : RMok rmX1_whyNot R 4) (hsize : ls.size = nL) (hrest : (rest.map fun v => v.category).sum ≤ 8) (hdg : decode cc pc = .ok (.invokevirtual index, 3)) (hcs : cells ≤ R.cells ∧ slots ≤ R.slots)
    (kk : ∀ (H1 : Heap) (locs1 : List Loc), PW D A H0 (setAll Ps js [pX1 cy o0 q0 σ0]) H1 locs1 → W p l e R s m args below meth c H1 locs1 cells slots Q (F0 m (pc + 3) ls (.int u :: rest))) : W p l e R s m args below meth c H locs cells slots Q (F0 m pc ls (.int x3 :: .int x2 :: .int x1 :: .ref o0 :: rest)) :=
  w_callV (n := 3) (ov := (some (.int u))) (As := [.int x1, .int x2, .int x3]) (Cs := [pX1 cy o0 q0 σ0]) (Cs' := [pX1 cy o0 q0 σ0]) S hw (c_X1_whyNot l D cy o0 q0 x1 x2 x3 σ0 u hf) (MF.of S.2.2.2.2 wd415 wd72 (by decide)) (S.2.2.2.2.wd wd413 rfl) (S.2.2.2.2.wd wd414 rfl) hl hR js hC hnd hlen rfl rfl rfl rfl hsize rfl hrest hdg hcs kk
end
abbrev rmX1_passHour : Room := { frames := 1, cells := 0, slots := 0, locals := 21 }
def fl_X1_passHour_12   : Nat → Int32 → pStt → Option (pStt)
  | 0, _, _ => none
  | n + 1, y1, σ0 => if 6 ≤ y1 then some σ0 else (ld (σ0.2 2) 6 y1).bind (fun x_3 => if x_3 = (-1) then fl_X1_passHour_12 n ((y1 + 1)) σ0 else (f_X8_holds ((σ0.1 0)) y1).bind (fun u_5 => if u_5 = 0 then (ld (σ0.2 3) 6 y1).bind (fun x_7 => (stA σ0 3 6 y1 ((if (9 : Int32) < (x_7 + (1 : Int32)) then (9 : Int32) else (x_7 + (1 : Int32))))).bind (fun σ_8 => (ld (σ_8.2 3) 6 y1).bind (fun x_9 => if x_9 = 9 then (some (sI σ_8 0 (((σ_8.1 0) ||| ((1 : Int32) <<< (y1 &&& 31)))))).bind (fun σ_11 => fl_X1_passHour_12 n ((y1 + 1)) σ_11) else fl_X1_passHour_12 n ((y1 + 1)) σ_8))) else fl_X1_passHour_12 n ((y1 + 1)) σ0))
def f_X1_passHour (σ0 : pStt) : Option (pStt) := (some (sI σ0 2 (((σ0.1 2) + (1 : Int32))))).bind (fun σ_1 => (fl_X1_passHour_12 2000 0 σ_1).bind (fun u_12 => some u_12))
section
variable {p : Program} {l : Launch} {e : Env} {s : State} {m : MethodId} {args : Array Value} {below : List Frame} {meth : Method} {c : Code} {Q : State → Prop} {D : va_G} {cy : Nat → ClassId} {A : Nat → Prop} {H0 : Heap}
set_option maxHeartbeats 4000000 in
set_option maxRecDepth 100000 in
theorem lp_X1_passHour_12 (S : CX p m c cX1_passHour 2 s args RX1 D cy) {o0 : Nat} {q0 : Nat → Nat}   : ∀ (n : Nat) (y1 : Int32) (σ0 : pStt) (H : Heap) (locs : List Loc) (ls : Array Slot) (u : pStt), PW D A H0 [pX1 cy o0 q0 σ0] H locs → lv_has ls 2 [(0, .ref o0), (1, .int y1)] → fl_X1_passHour_12 n y1 σ0 = some u → (∀ (H : Heap) (locs : List Loc) (ls : Array Slot), PW D A H0 [pX1 cy o0 q0 u] H locs → lv_has ls 2 [] → W p l e rmX1_passHour s m args below meth c H locs 0 0 Q (F0 m 87 ls [])) → W p l e rmX1_passHour s m args below meth c H locs 0 0 Q (F0 m 12 ls []) := by
  intro n
  induction n with
  | zero =>
    intro y1 σ0 H locs ls u hw hl hf K0
    rw [fl_X1_passHour_12] at hf
    cases hf
  | succ n ih =>
    intro y1 σ0 H locs ls u hw hl hf K0
    rw [fl_X1_passHour_12] at hf
    refine lv_iload_n S.1 S.2.1 dX1_passHour_12 rfl (lv_at hl 1 rfl) ?_
    refine lv_bipush (v := 6) S.1 S.2.1 dX1_passHour_13 (by decide) ?_
    refine lv_icmp_ge (tgt := 87) S.1 S.2.1 dX1_passHour_15 (by decide) (fun c_2 => ?_) (fun c_2 => ?_)
    · replace hf := (if_pos c_2).symm.trans hf
      cases hf
      exact K0 _ _ _ hw (lv_sub hl [] rfl)
    · replace hf := (if_neg c_2).symm.trans hf
      refine lv_aload_n S.1 S.2.1 dX1_passHour_18 rfl (lv_at hl 0 rfl) ?_
      refine gf_X1_18 S hw 0 rfl dX1_passHour_19 ?_
      refine lv_iload_n S.1 S.2.1 dX1_passHour_22 rfl (lv_at hl 1 rfl) ?_
      obtain ⟨x_3, e_x_3, hf⟩ := ob hf
      refine al_X1_2 S hw 0 rfl e_x_3 dX1_passHour_23 ?_
      refine lv_iconst (v := (-1)) S.1 S.2.1 dX1_passHour_24 (by decide) ?_
      refine lv_icmp_eq (tgt := 81) S.1 S.2.1 dX1_passHour_25 (by decide) (fun c_4 => ?_) (fun c_4 => ?_)
      · replace hf := (if_pos c_4).symm.trans hf
        refine lv_iinc (v := (y1 + 1)) (lv' := [(1, .int ((y1 + 1))), (0, .ref o0)]) S.1 S.2.1 dX1_passHour_81 hl (k := 1) rfl rfl (by decide) rfl (fun ls hl => ?_)
        refine lv_goto (tgt := 12) S.1 S.2.1 dX1_passHour_84 (by decide) ?_
        exact ih _ _ _ _ _ _ hw (lv_sub hl [1, 0] rfl) hf K0
      · replace hf := (if_neg c_4).symm.trans hf
        refine lv_aload_n S.1 S.2.1 dX1_passHour_28 rfl (lv_at hl 0 rfl) ?_
        refine gf_X1_34 S hw 0 rfl dX1_passHour_29 ?_
        refine lv_iload_n S.1 S.2.1 dX1_passHour_32 rfl (lv_at hl 1 rfl) ?_
        obtain ⟨u_5, e_u_5, hf⟩ := ob hf
        refine kn_X8_holds S (S.2.2.2.2.wd wd420 rfl) hw e_u_5 [] rfl (by decide) rfl ⟨rfl, rfl, Nat.le_of_ble_eq_true rfl, Nat.le_of_ble_eq_true rfl⟩ hl.1 (Nat.le_of_ble_eq_true rfl) dX1_passHour_33 ⟨Nat.zero_le _, Nat.zero_le _⟩ (fun H locs hw => ?_)
        have hw : PW D A H0 [pX1 cy o0 q0 σ0] H locs := hw
        refine lv_if_ne (tgt := 81) S.1 S.2.1 dX1_passHour_36 (by decide) (fun c_6 => ?_) (fun c_6 => ?_)
        · replace hf := (if_neg c_6).symm.trans hf
          refine lv_iinc (v := (y1 + 1)) (lv' := [(1, .int ((y1 + 1))), (0, .ref o0)]) S.1 S.2.1 dX1_passHour_81 hl (k := 1) rfl rfl (by decide) rfl (fun ls hl => ?_)
          refine lv_goto (tgt := 12) S.1 S.2.1 dX1_passHour_84 (by decide) ?_
          exact ih _ _ _ _ _ _ hw (lv_sub hl [1, 0] rfl) hf K0
        · replace hf := (if_pos c_6).symm.trans hf
          refine lv_aload_n S.1 S.2.1 dX1_passHour_39 rfl (lv_at hl 0 rfl) ?_
          refine gf_X1_21 S hw 0 rfl dX1_passHour_40 ?_
          refine lv_iload_n S.1 S.2.1 dX1_passHour_43 rfl (lv_at hl 1 rfl) ?_
          refine lv_aload_n S.1 S.2.1 dX1_passHour_44 rfl (lv_at hl 0 rfl) ?_
          refine gf_X1_21 S hw 0 rfl dX1_passHour_45 ?_
          refine lv_iload_n S.1 S.2.1 dX1_passHour_48 rfl (lv_at hl 1 rfl) ?_
          obtain ⟨x_7, e_x_7, hf⟩ := ob hf
          refine al_X1_3 S hw 0 rfl e_x_7 dX1_passHour_49 ?_
          refine lv_iconst (v := 1) S.1 S.2.1 dX1_passHour_50 (by decide) ?_
          refine lv_iadd S.1 S.2.1 dX1_passHour_51 ?_
          refine lv_bipush (v := 9) S.1 S.2.1 dX1_passHour_52 (by decide) ?_
          refine va_mmin S.1 S.2.1 (S.2.2.1.trans hl.1.symm) S.2.2.2.1 (S.2.2.2.2.wd wd440 rfl) (S.2.2.2.2.wd wd441 rfl) (S.2.2.2.2.wd wd82 rfl) (S.2.2.2.2.wd wd_mmin rfl) (Nat.le_of_ble_eq_true rfl) (Nat.le_of_ble_eq_true rfl) (Nat.zero_le _) (Nat.zero_le _) dX1_passHour_54 ?_
          obtain ⟨σ_8, e_σ_8, hf⟩ := ob hf
          refine as_X1_3 S hw 0 rfl e_σ_8 dX1_passHour_57 (fun H locs hw => ?_)
          have hw : PW D A H0 [pX1 cy o0 q0 σ_8] H locs := hw
          refine lv_aload_n S.1 S.2.1 dX1_passHour_58 rfl (lv_at hl 0 rfl) ?_
          refine gf_X1_21 S hw 0 rfl dX1_passHour_59 ?_
          refine lv_iload_n S.1 S.2.1 dX1_passHour_62 rfl (lv_at hl 1 rfl) ?_
          obtain ⟨x_9, e_x_9, hf⟩ := ob hf
          refine al_X1_3 S hw 0 rfl e_x_9 dX1_passHour_63 ?_
          refine lv_bipush (v := 9) S.1 S.2.1 dX1_passHour_64 (by decide) ?_
          refine lv_icmp_ne (tgt := 81) S.1 S.2.1 dX1_passHour_66 (by decide) (fun c_10 => ?_) (fun c_10 => ?_)
          · replace hf := (if_neg c_10).symm.trans hf
            refine lv_iinc (v := (y1 + 1)) (lv' := [(1, .int ((y1 + 1))), (0, .ref o0)]) S.1 S.2.1 dX1_passHour_81 hl (k := 1) rfl rfl (by decide) rfl (fun ls hl => ?_)
            refine lv_goto (tgt := 12) S.1 S.2.1 dX1_passHour_84 (by decide) ?_
            exact ih _ _ _ _ _ _ hw (lv_sub hl [1, 0] rfl) hf K0
          · replace hf := (if_pos c_10).symm.trans hf
            refine lv_aload_n S.1 S.2.1 dX1_passHour_69 rfl (lv_at hl 0 rfl) ?_
            refine lv_dup S.1 S.2.1 dX1_passHour_70 rfl ?_
            refine gf_X1_34 S hw 0 rfl dX1_passHour_71 ?_
            refine lv_iconst (v := 1) S.1 S.2.1 dX1_passHour_74 (by decide) ?_
            refine lv_iload_n S.1 S.2.1 dX1_passHour_75 rfl (lv_at hl 1 rfl) ?_
            refine lv_ishl S.1 S.2.1 dX1_passHour_76 ?_
            refine lv_ior S.1 S.2.1 dX1_passHour_77 ?_
            obtain ⟨σ_11, e_σ_11, hf⟩ := ob hf
            refine pf_X1_34 S hw 0 rfl e_σ_11 dX1_passHour_78 (fun H locs hw => ?_)
            have hw : PW D A H0 [pX1 cy o0 q0 σ_11] H locs := hw
            refine lv_iinc (v := (y1 + 1)) (lv' := [(1, .int ((y1 + 1))), (0, .ref o0)]) S.1 S.2.1 dX1_passHour_81 hl (k := 1) rfl rfl (by decide) rfl (fun ls hl => ?_)
            refine lv_goto (tgt := 12) S.1 S.2.1 dX1_passHour_84 (by decide) ?_
            exact ih _ _ _ _ _ _ hw (lv_sub hl [1, 0] rfl) hf K0
end
set_option maxHeartbeats 4000000 in
set_option maxRecDepth 100000 in
theorem c_X1_passHour (l : Launch) (D : va_G) (cy : Nat → ClassId) (o0 : Nat) (q0 : Nat → Nat) (σ0 : pStt) (u : pStt) (hf : f_X1_passHour σ0 = some u) : CT l yX1_passHour cX1_passHour 2 none rmX1_passHour D cy [.ref o0] [pX1 cy o0 q0 σ0] none [pX1 cy o0 q0 u] := by
  refine CT.of (by decide) (Nat.le_of_ble_eq_true rfl) (fun p e s m args below meth c ls A Q hA hQ S hr hlk hl hw => ?_)
  have hl : lv_has ls 2 [(0, .ref o0)] := hl
  rw [f_X1_passHour] at hf
  refine lv_aload_n S.1 S.2.1 dX1_passHour_0 rfl (lv_at hl 0 rfl) ?_
  refine lv_dup S.1 S.2.1 dX1_passHour_1 rfl ?_
  refine gf_X1_38 S hw 0 rfl dX1_passHour_2 ?_
  refine lv_iconst (v := 1) S.1 S.2.1 dX1_passHour_5 (by decide) ?_
  refine lv_iadd S.1 S.2.1 dX1_passHour_6 ?_
  obtain ⟨σ_1, e_σ_1, hf⟩ := ob hf
  refine pf_X1_38 S hw 0 rfl e_σ_1 dX1_passHour_7 (fun H locs hw => ?_)
  have hw : PW D A s.heap [pX1 cy o0 q0 σ_1] H locs := hw
  refine lv_iconst (v := 0) S.1 S.2.1 dX1_passHour_10 (by decide) ?_
  refine lv_istore_n (lv' := [(1, .int 0), (0, .ref o0)]) S.1 S.2.1 dX1_passHour_11 rfl hl (by decide) rfl (fun ls hl => ?_)
  obtain ⟨u_12, e_u_12, hf⟩ := ob hf
  refine lp_X1_passHour_12 S 2000 _ _ _ _ _ _ hw (lv_sub hl [1, 0] rfl) e_u_12 ?_
  · intro H locs ls hw hl
    cases hf
    exact w_vret S hr hlk hA hQ hw dX1_passHour_87
section
variable {p : Program} {l : Launch} {e : Env} {R : Room} {s : State} {m : MethodId} {args : Array Value} {below : List Frame} {meth : Method} {c : Code} {H : Heap} {locs : List Loc} {cells slots : Nat} {Q : State → Prop} {cc : ByteArray} {pc nL : Nat} {ls : Array Slot} {rest : List Value} {D : va_G} {cy : Nat → ClassId} {A : Nat → Prop} {H0 : Heap} {own : String} {Ps : List va_W}
set_option maxRecDepth 100000 in
theorem k_X1_passHour {o0 : Nat} {q0 : Nat → Nat}  {σ0 : pStt} {u : pStt} {index : Nat} (S : CX p m c cc nL s args own D cy) (hl : (Cond.methodLink own index yX1_passHour).before args s = true) (hw : PW D A H0 Ps H locs) (hf : f_X1_passHour σ0 = some u) (js : List Nat) (hC : js.map (fun j => Ps[j]?) = [some (pX1 cy o0 q0 σ0)]) (hnd : js.Nodup) (hlen : js.length = 1) (hR : RMok rmX1_passHour R 2) (hsize : ls.size = nL) (hrest : (rest.map fun v => v.category).sum ≤ 8) (hdg : decode cc pc = .ok (.invokevirtual index, 3)) (hcs : cells ≤ R.cells ∧ slots ≤ R.slots)
    (kk : ∀ (H1 : Heap) (locs1 : List Loc), PW D A H0 (setAll Ps js [pX1 cy o0 q0 u]) H1 locs1 → W p l e R s m args below meth c H1 locs1 cells slots Q (F0 m (pc + 3) ls (rest))) : W p l e R s m args below meth c H locs cells slots Q (F0 m pc ls (.ref o0 :: rest)) :=
  w_callV (n := 0) (ov := none) (As := []) (Cs := [pX1 cy o0 q0 σ0]) (Cs' := [pX1 cy o0 q0 u]) S hw (c_X1_passHour l D cy o0 q0 σ0 u hf) (MF.of S.2.2.2.2 wd439 wd72 (by decide)) (S.2.2.2.2.wd wd438 rfl) (S.2.2.2.2.wd wd9 rfl) hl hR js hC hnd hlen rfl rfl rfl rfl hsize rfl hrest hdg hcs kk
end
abbrev rmX1_perform : Room := { frames := 2, cells := 0, slots := 0, locals := 42 }
def f_X1_perform (x1 : Int32) (x2 : Int32) (x3 : Int32) (σ0 : pStt) : Option (pStt) := if x1 = 0 then (if x1 = 0 then some 1 else some 0 : Option Int32).bind (fun v_2 => (f_X1_setWay x2 x3 v_2 σ0).bind (fun u_3 => some u_3)) else if x1 = 1 then (if x1 = 0 then some 1 else some 0 : Option Int32).bind (fun v_6 => (f_X1_setWay x2 x3 v_6 σ0).bind (fun u_7 => some u_7)) else if x1 = 2 then (stA σ0 1 8 x2 x3).bind (fun σ_10 => some σ_10) else if x1 = 3 then (if (σ0.1 1) = 0 then some 1 else some 0 : Option Int32).bind (fun v_12 => (asB v_12).bind (fun b_13 => (some (sI σ0 1 b_13)).bind (fun σ_14 => some σ_14))) else if x1 = 4 then (f_X1_passHour σ0).bind (fun u_17 => some u_17) else if x1 = 5 then (f_X1_put x2 0 0 σ0).bind (fun u_19 => some u_19) else if x1 = 6 then (f_X1_put x2 ((-1)) 0 σ0).bind (fun u_21 => some u_21) else if x1 = 7 then (stA σ0 2 6 x2 x3).bind (fun σ_23 => some σ_23) else if x1 = 8 then (stA σ0 1 8 x3 (((8 : Int32) + x2))).bind (fun σ_25 => some σ_25) else (some (sI σ0 0 (((σ0.1 0) ||| ((1 : Int32) <<< (x2 &&& 31)))))).bind (fun σ_26 => some σ_26)
set_option maxHeartbeats 4000000 in
set_option maxRecDepth 100000 in
theorem c_X1_perform (l : Launch) (D : va_G) (cy : Nat → ClassId) (o0 : Nat) (q0 : Nat → Nat) (x1 : Int32) (x2 : Int32) (x3 : Int32) (σ0 : pStt) (u : pStt) (hf : f_X1_perform x1 x2 x3 σ0 = some u) : CT l yX1_perform cX1_perform 4 none rmX1_perform D cy [.ref o0, .int x1, .int x2, .int x3] [pX1 cy o0 q0 σ0] none [pX1 cy o0 q0 u] := by
  refine CT.of (by decide) (Nat.le_of_ble_eq_true rfl) (fun p e s m args below meth c ls A Q hA hQ S hr hlk hl hw => ?_)
  have hl : lv_has ls 4 [(0, .ref o0), (1, .int x1), (2, .int x2), (3, .int x3)] := hl
  rw [f_X1_perform] at hf
  refine lv_iload_n S.1 S.2.1 dX1_perform_0 rfl (lv_at hl 1 rfl) ?_
  by_cases c_1 : x1 = 0
  · replace hf := (if_pos c_1).symm.trans hf
    refine lv_tableIn (off := 51) (tgt := 52) S.1 S.2.1 dX1_perform_1 (by rw [c_1]; decide) (by rw [c_1]; decide) (by rw [c_1]; rfl) (by decide) ?_
    refine lv_aload_n S.1 S.2.1 dX1_perform_52 rfl (lv_at hl 0 rfl) ?_
    refine lv_iload_n S.1 S.2.1 dX1_perform_53 rfl (lv_at hl 2 rfl) ?_
    refine lv_iload_n S.1 S.2.1 dX1_perform_54 rfl (lv_at hl 3 rfl) ?_
    refine lv_iload_n S.1 S.2.1 dX1_perform_55 rfl (lv_at hl 1 rfl) ?_
    obtain ⟨v_2, e_v_2, hf⟩ := ob hf
    have hJ_v_2 : ∀ (H : Heap) (locs : List Loc), PW D A s.heap [pX1 cy o0 q0 σ0] H locs → W p l e rmX1_perform s m args below meth c H locs 0 0 Q (F0 m 64 ls [.int v_2, .int x3, .int x2, .ref o0]) := by
      intro H locs hw
      obtain ⟨u_3, e_u_3, hf⟩ := ob hf
      refine k_X1_setWay S (S.2.2.2.2.wd wd435 rfl) hw e_u_3 [0] rfl (by decide) rfl ⟨rfl, rfl, Nat.le_of_ble_eq_true rfl, Nat.le_of_ble_eq_true rfl⟩ hl.1 (Nat.le_of_ble_eq_true rfl) dX1_perform_64 ⟨Nat.zero_le _, Nat.zero_le _⟩ (fun H locs hw => ?_)
      have hw : PW D A s.heap [pX1 cy o0 q0 u_3] H locs := hw
      refine lv_goto (tgt := 161) S.1 S.2.1 dX1_perform_67 (by decide) ?_
      cases hf
      exact w_vret S hr hlk hA hQ hw dX1_perform_161
    replace hf := e_v_2
    clear e_v_2
    refine lv_if_ne (tgt := 63) S.1 S.2.1 dX1_perform_56 (by decide) (fun c_4 => ?_) (fun c_4 => ?_)
    · replace hf := (if_neg c_4).symm.trans hf
      refine lv_iconst (v := 0) S.1 S.2.1 dX1_perform_63 (by decide) ?_
      cases hf
      exact hJ_v_2 _ _ hw
    · replace hf := (if_pos c_4).symm.trans hf
      refine lv_iconst (v := 1) S.1 S.2.1 dX1_perform_59 (by decide) ?_
      refine lv_goto (tgt := 64) S.1 S.2.1 dX1_perform_60 (by decide) ?_
      cases hf
      exact hJ_v_2 _ _ hw
  · replace hf := (if_neg c_1).symm.trans hf
    by_cases c_5 : x1 = 1
    · replace hf := (if_pos c_5).symm.trans hf
      refine lv_tableIn (off := 51) (tgt := 52) S.1 S.2.1 dX1_perform_1 (by rw [c_5]; decide) (by rw [c_5]; decide) (by rw [c_5]; rfl) (by decide) ?_
      refine lv_aload_n S.1 S.2.1 dX1_perform_52 rfl (lv_at hl 0 rfl) ?_
      refine lv_iload_n S.1 S.2.1 dX1_perform_53 rfl (lv_at hl 2 rfl) ?_
      refine lv_iload_n S.1 S.2.1 dX1_perform_54 rfl (lv_at hl 3 rfl) ?_
      refine lv_iload_n S.1 S.2.1 dX1_perform_55 rfl (lv_at hl 1 rfl) ?_
      obtain ⟨v_6, e_v_6, hf⟩ := ob hf
      have hJ_v_6 : ∀ (H : Heap) (locs : List Loc), PW D A s.heap [pX1 cy o0 q0 σ0] H locs → W p l e rmX1_perform s m args below meth c H locs 0 0 Q (F0 m 64 ls [.int v_6, .int x3, .int x2, .ref o0]) := by
        intro H locs hw
        obtain ⟨u_7, e_u_7, hf⟩ := ob hf
        refine k_X1_setWay S (S.2.2.2.2.wd wd435 rfl) hw e_u_7 [0] rfl (by decide) rfl ⟨rfl, rfl, Nat.le_of_ble_eq_true rfl, Nat.le_of_ble_eq_true rfl⟩ hl.1 (Nat.le_of_ble_eq_true rfl) dX1_perform_64 ⟨Nat.zero_le _, Nat.zero_le _⟩ (fun H locs hw => ?_)
        have hw : PW D A s.heap [pX1 cy o0 q0 u_7] H locs := hw
        refine lv_goto (tgt := 161) S.1 S.2.1 dX1_perform_67 (by decide) ?_
        cases hf
        exact w_vret S hr hlk hA hQ hw dX1_perform_161
      replace hf := e_v_6
      clear e_v_6
      refine lv_if_ne (tgt := 63) S.1 S.2.1 dX1_perform_56 (by decide) (fun c_8 => ?_) (fun c_8 => ?_)
      · replace hf := (if_neg c_8).symm.trans hf
        refine lv_iconst (v := 0) S.1 S.2.1 dX1_perform_63 (by decide) ?_
        cases hf
        exact hJ_v_6 _ _ hw
      · replace hf := (if_pos c_8).symm.trans hf
        refine lv_iconst (v := 1) S.1 S.2.1 dX1_perform_59 (by decide) ?_
        refine lv_goto (tgt := 64) S.1 S.2.1 dX1_perform_60 (by decide) ?_
        cases hf
        exact hJ_v_6 _ _ hw
    · replace hf := (if_neg c_5).symm.trans hf
      by_cases c_9 : x1 = 2
      · replace hf := (if_pos c_9).symm.trans hf
        refine lv_tableIn (off := 69) (tgt := 70) S.1 S.2.1 dX1_perform_1 (by rw [c_9]; decide) (by rw [c_9]; decide) (by rw [c_9]; rfl) (by decide) ?_
        refine lv_aload_n S.1 S.2.1 dX1_perform_70 rfl (lv_at hl 0 rfl) ?_
        refine gf_X1_15 S hw 0 rfl dX1_perform_71 ?_
        refine lv_iload_n S.1 S.2.1 dX1_perform_74 rfl (lv_at hl 2 rfl) ?_
        refine lv_iload_n S.1 S.2.1 dX1_perform_75 rfl (lv_at hl 3 rfl) ?_
        obtain ⟨σ_10, e_σ_10, hf⟩ := ob hf
        refine as_X1_1 S hw 0 rfl e_σ_10 dX1_perform_76 (fun H locs hw => ?_)
        have hw : PW D A s.heap [pX1 cy o0 q0 σ_10] H locs := hw
        refine lv_goto (tgt := 161) S.1 S.2.1 dX1_perform_77 (by decide) ?_
        cases hf
        exact w_vret S hr hlk hA hQ hw dX1_perform_161
      · replace hf := (if_neg c_9).symm.trans hf
        by_cases c_11 : x1 = 3
        · replace hf := (if_pos c_11).symm.trans hf
          refine lv_tableIn (off := 79) (tgt := 80) S.1 S.2.1 dX1_perform_1 (by rw [c_11]; decide) (by rw [c_11]; decide) (by rw [c_11]; rfl) (by decide) ?_
          refine lv_aload_n S.1 S.2.1 dX1_perform_80 rfl (lv_at hl 0 rfl) ?_
          refine lv_aload_n S.1 S.2.1 dX1_perform_81 rfl (lv_at hl 0 rfl) ?_
          refine gf_X1_24 S hw 0 rfl dX1_perform_82 ?_
          obtain ⟨v_12, e_v_12, hf⟩ := ob hf
          have hJ_v_12 : ∀ (H : Heap) (locs : List Loc), PW D A s.heap [pX1 cy o0 q0 σ0] H locs → W p l e rmX1_perform s m args below meth c H locs 0 0 Q (F0 m 93 ls [.int v_12, .ref o0]) := by
            intro H locs hw
            obtain ⟨b_13, e_b_13, hf⟩ := ob hf
            obtain ⟨σ_14, e_σ_14, hf⟩ := ob hf
            refine pf_X1_24 S hw 0 rfl e_b_13 e_σ_14 dX1_perform_93 (fun H locs hw => ?_)
            have hw : PW D A s.heap [pX1 cy o0 q0 σ_14] H locs := hw
            refine lv_goto (tgt := 161) S.1 S.2.1 dX1_perform_96 (by decide) ?_
            cases hf
            exact w_vret S hr hlk hA hQ hw dX1_perform_161
          replace hf := e_v_12
          clear e_v_12
          refine lv_if_ne (tgt := 92) S.1 S.2.1 dX1_perform_85 (by decide) (fun c_15 => ?_) (fun c_15 => ?_)
          · replace hf := (if_neg c_15).symm.trans hf
            refine lv_iconst (v := 0) S.1 S.2.1 dX1_perform_92 (by decide) ?_
            cases hf
            exact hJ_v_12 _ _ hw
          · replace hf := (if_pos c_15).symm.trans hf
            refine lv_iconst (v := 1) S.1 S.2.1 dX1_perform_88 (by decide) ?_
            refine lv_goto (tgt := 93) S.1 S.2.1 dX1_perform_89 (by decide) ?_
            cases hf
            exact hJ_v_12 _ _ hw
        · replace hf := (if_neg c_11).symm.trans hf
          by_cases c_16 : x1 = 4
          · replace hf := (if_pos c_16).symm.trans hf
            refine lv_tableIn (off := 98) (tgt := 99) S.1 S.2.1 dX1_perform_1 (by rw [c_16]; decide) (by rw [c_16]; decide) (by rw [c_16]; rfl) (by decide) ?_
            refine lv_aload_n S.1 S.2.1 dX1_perform_99 rfl (lv_at hl 0 rfl) ?_
            obtain ⟨u_17, e_u_17, hf⟩ := ob hf
            refine k_X1_passHour S (S.2.2.2.2.wd wd436 rfl) hw e_u_17 [0] rfl (by decide) rfl ⟨rfl, rfl, Nat.le_of_ble_eq_true rfl, Nat.le_of_ble_eq_true rfl⟩ hl.1 (Nat.le_of_ble_eq_true rfl) dX1_perform_100 ⟨Nat.zero_le _, Nat.zero_le _⟩ (fun H locs hw => ?_)
            have hw : PW D A s.heap [pX1 cy o0 q0 u_17] H locs := hw
            refine lv_goto (tgt := 161) S.1 S.2.1 dX1_perform_103 (by decide) ?_
            cases hf
            exact w_vret S hr hlk hA hQ hw dX1_perform_161
          · replace hf := (if_neg c_16).symm.trans hf
            by_cases c_18 : x1 = 5
            · replace hf := (if_pos c_18).symm.trans hf
              refine lv_tableIn (off := 105) (tgt := 106) S.1 S.2.1 dX1_perform_1 (by rw [c_18]; decide) (by rw [c_18]; decide) (by rw [c_18]; rfl) (by decide) ?_
              refine lv_aload_n S.1 S.2.1 dX1_perform_106 rfl (lv_at hl 0 rfl) ?_
              refine lv_iload_n S.1 S.2.1 dX1_perform_107 rfl (lv_at hl 2 rfl) ?_
              refine lv_iconst (v := 0) S.1 S.2.1 dX1_perform_108 (by decide) ?_
              refine lv_iconst (v := 0) S.1 S.2.1 dX1_perform_109 (by decide) ?_
              obtain ⟨u_19, e_u_19, hf⟩ := ob hf
              refine k_X1_put S (S.2.2.2.2.wd wd443 rfl) hw e_u_19 [0] rfl (by decide) rfl ⟨rfl, rfl, Nat.le_of_ble_eq_true rfl, Nat.le_of_ble_eq_true rfl⟩ hl.1 (Nat.le_of_ble_eq_true rfl) dX1_perform_110 ⟨Nat.zero_le _, Nat.zero_le _⟩ (fun H locs hw => ?_)
              have hw : PW D A s.heap [pX1 cy o0 q0 u_19] H locs := hw
              refine lv_goto (tgt := 161) S.1 S.2.1 dX1_perform_113 (by decide) ?_
              cases hf
              exact w_vret S hr hlk hA hQ hw dX1_perform_161
            · replace hf := (if_neg c_18).symm.trans hf
              by_cases c_20 : x1 = 6
              · replace hf := (if_pos c_20).symm.trans hf
                refine lv_tableIn (off := 115) (tgt := 116) S.1 S.2.1 dX1_perform_1 (by rw [c_20]; decide) (by rw [c_20]; decide) (by rw [c_20]; rfl) (by decide) ?_
                refine lv_aload_n S.1 S.2.1 dX1_perform_116 rfl (lv_at hl 0 rfl) ?_
                refine lv_iload_n S.1 S.2.1 dX1_perform_117 rfl (lv_at hl 2 rfl) ?_
                refine lv_iconst (v := (-1)) S.1 S.2.1 dX1_perform_118 (by decide) ?_
                refine lv_iconst (v := 0) S.1 S.2.1 dX1_perform_119 (by decide) ?_
                obtain ⟨u_21, e_u_21, hf⟩ := ob hf
                refine k_X1_put S (S.2.2.2.2.wd wd443 rfl) hw e_u_21 [0] rfl (by decide) rfl ⟨rfl, rfl, Nat.le_of_ble_eq_true rfl, Nat.le_of_ble_eq_true rfl⟩ hl.1 (Nat.le_of_ble_eq_true rfl) dX1_perform_120 ⟨Nat.zero_le _, Nat.zero_le _⟩ (fun H locs hw => ?_)
                have hw : PW D A s.heap [pX1 cy o0 q0 u_21] H locs := hw
                refine lv_goto (tgt := 161) S.1 S.2.1 dX1_perform_123 (by decide) ?_
                cases hf
                exact w_vret S hr hlk hA hQ hw dX1_perform_161
              · replace hf := (if_neg c_20).symm.trans hf
                by_cases c_22 : x1 = 7
                · replace hf := (if_pos c_22).symm.trans hf
                  refine lv_tableIn (off := 125) (tgt := 126) S.1 S.2.1 dX1_perform_1 (by rw [c_22]; decide) (by rw [c_22]; decide) (by rw [c_22]; rfl) (by decide) ?_
                  refine lv_aload_n S.1 S.2.1 dX1_perform_126 rfl (lv_at hl 0 rfl) ?_
                  refine gf_X1_18 S hw 0 rfl dX1_perform_127 ?_
                  refine lv_iload_n S.1 S.2.1 dX1_perform_130 rfl (lv_at hl 2 rfl) ?_
                  refine lv_iload_n S.1 S.2.1 dX1_perform_131 rfl (lv_at hl 3 rfl) ?_
                  obtain ⟨σ_23, e_σ_23, hf⟩ := ob hf
                  refine as_X1_2 S hw 0 rfl e_σ_23 dX1_perform_132 (fun H locs hw => ?_)
                  have hw : PW D A s.heap [pX1 cy o0 q0 σ_23] H locs := hw
                  refine lv_goto (tgt := 161) S.1 S.2.1 dX1_perform_133 (by decide) ?_
                  cases hf
                  exact w_vret S hr hlk hA hQ hw dX1_perform_161
                · replace hf := (if_neg c_22).symm.trans hf
                  by_cases c_24 : x1 = 8
                  · replace hf := (if_pos c_24).symm.trans hf
                    refine lv_tableIn (off := 135) (tgt := 136) S.1 S.2.1 dX1_perform_1 (by rw [c_24]; decide) (by rw [c_24]; decide) (by rw [c_24]; rfl) (by decide) ?_
                    refine lv_aload_n S.1 S.2.1 dX1_perform_136 rfl (lv_at hl 0 rfl) ?_
                    refine gf_X1_15 S hw 0 rfl dX1_perform_137 ?_
                    refine lv_iload_n S.1 S.2.1 dX1_perform_140 rfl (lv_at hl 3 rfl) ?_
                    refine lv_bipush (v := 8) S.1 S.2.1 dX1_perform_141 (by decide) ?_
                    refine lv_iload_n S.1 S.2.1 dX1_perform_143 rfl (lv_at hl 2 rfl) ?_
                    refine lv_iadd S.1 S.2.1 dX1_perform_144 ?_
                    obtain ⟨σ_25, e_σ_25, hf⟩ := ob hf
                    refine as_X1_1 S hw 0 rfl e_σ_25 dX1_perform_145 (fun H locs hw => ?_)
                    have hw : PW D A s.heap [pX1 cy o0 q0 σ_25] H locs := hw
                    refine lv_goto (tgt := 161) S.1 S.2.1 dX1_perform_146 (by decide) ?_
                    cases hf
                    exact w_vret S hr hlk hA hQ hw dX1_perform_161
                  · replace hf := (if_neg c_24).symm.trans hf
                    have t_c_1 := ne_toInt (k := 0) c_1 (by decide)
                    have t_c_5 := ne_toInt (k := 1) c_5 (by decide)
                    have t_c_9 := ne_toInt (k := 2) c_9 (by decide)
                    have t_c_11 := ne_toInt (k := 3) c_11 (by decide)
                    have t_c_16 := ne_toInt (k := 4) c_16 (by decide)
                    have t_c_18 := ne_toInt (k := 5) c_18 (by decide)
                    have t_c_20 := ne_toInt (k := 6) c_20 (by decide)
                    have t_c_22 := ne_toInt (k := 7) c_22 (by decide)
                    have t_c_24 := ne_toInt (k := 8) c_24 (by decide)
                    refine lv_tableOut (tgt := 149) S.1 S.2.1 dX1_perform_1 (by omega) (by decide) ?_
                    refine lv_aload_n S.1 S.2.1 dX1_perform_149 rfl (lv_at hl 0 rfl) ?_
                    refine lv_dup S.1 S.2.1 dX1_perform_150 rfl ?_
                    refine gf_X1_34 S hw 0 rfl dX1_perform_151 ?_
                    refine lv_iconst (v := 1) S.1 S.2.1 dX1_perform_154 (by decide) ?_
                    refine lv_iload_n S.1 S.2.1 dX1_perform_155 rfl (lv_at hl 2 rfl) ?_
                    refine lv_ishl S.1 S.2.1 dX1_perform_156 ?_
                    refine lv_ior S.1 S.2.1 dX1_perform_157 ?_
                    obtain ⟨σ_26, e_σ_26, hf⟩ := ob hf
                    refine pf_X1_34 S hw 0 rfl e_σ_26 dX1_perform_158 (fun H locs hw => ?_)
                    have hw : PW D A s.heap [pX1 cy o0 q0 σ_26] H locs := hw
                    cases hf
                    exact w_vret S hr hlk hA hQ hw dX1_perform_161
section
variable {p : Program} {l : Launch} {e : Env} {R : Room} {s : State} {m : MethodId} {args : Array Value} {below : List Frame} {meth : Method} {c : Code} {H : Heap} {locs : List Loc} {cells slots : Nat} {Q : State → Prop} {cc : ByteArray} {pc nL : Nat} {ls : Array Slot} {rest : List Value} {D : va_G} {cy : Nat → ClassId} {A : Nat → Prop} {H0 : Heap} {own : String} {Ps : List va_W}
set_option maxRecDepth 100000 in
theorem k_X1_perform {o0 : Nat} {q0 : Nat → Nat} {x1 : Int32} {x2 : Int32} {x3 : Int32} {σ0 : pStt} {u : pStt} {index : Nat} (S : CX p m c cc nL s args own D cy) (hl : (Cond.methodLink own index yX1_perform).before args s = true) (hw : PW D A H0 Ps H locs) (hf : f_X1_perform x1 x2 x3 σ0 = some u) (js : List Nat) (hC : js.map (fun j => Ps[j]?) = [some (pX1 cy o0 q0 σ0)]) (hnd : js.Nodup) (hlen : js.length = 1) (hR : RMok rmX1_perform R 4) (hsize : ls.size = nL) (hrest : (rest.map fun v => v.category).sum ≤ 8) (hdg : decode cc pc = .ok (.invokevirtual index, 3)) (hcs : cells ≤ R.cells ∧ slots ≤ R.slots)
    (kk : ∀ (H1 : Heap) (locs1 : List Loc), PW D A H0 (setAll Ps js [pX1 cy o0 q0 u]) H1 locs1 → W p l e R s m args below meth c H1 locs1 cells slots Q (F0 m (pc + 3) ls (rest))) : W p l e R s m args below meth c H locs cells slots Q (F0 m pc ls (.int x3 :: .int x2 :: .int x1 :: .ref o0 :: rest)) :=
  w_callV (n := 3) (ov := none) (As := [.int x1, .int x2, .int x3]) (Cs := [pX1 cy o0 q0 σ0]) (Cs' := [pX1 cy o0 q0 u]) S hw (c_X1_perform l D cy o0 q0 x1 x2 x3 σ0 u hf) (MF.of S.2.2.2.2 wd434 wd72 (by decide)) (S.2.2.2.2.wd wd432 rfl) (S.2.2.2.2.wd wd433 rfl) hl hR js hC hnd hlen rfl rfl rfl rfl hsize rfl hrest hdg hcs kk
end
abbrev rmX1_neighboursOf : Room := { frames := 1, cells := 0, slots := 0, locals := 21 }
def fl_X1_neighboursOf_4 (y1 : Int32) (σ0 : pStt) : Nat → Int32 → Int32 → Option (Int32)
  | 0, _, _ => none
  | n + 1, y2, y3 => if 8 ≤ y3 then some y2 else (f_X8_holds y1 y3).bind (fun u_2 => if u_2 = 0 then fl_X1_neighboursOf_4 y1 σ0 n y2 ((y3 + 1)) else (ld (σ0.2 0) 8 y3).bind (fun x_4 => fl_X1_neighboursOf_4 y1 σ0 n ((y2 ||| x_4)) ((y3 + 1))))
def f_X1_neighboursOf (x1 : Int32) (σ0 : pStt) : Option (Int32) := (fl_X1_neighboursOf_4 x1 σ0 2000 0 0).bind (fun u_5 => some u_5)
section
variable {p : Program} {l : Launch} {e : Env} {s : State} {m : MethodId} {args : Array Value} {below : List Frame} {meth : Method} {c : Code} {Q : State → Prop} {D : va_G} {cy : Nat → ClassId} {A : Nat → Prop} {H0 : Heap}
set_option maxHeartbeats 4000000 in
set_option maxRecDepth 100000 in
theorem lp_X1_neighboursOf_4 (S : CX p m c cX1_neighboursOf 4 s args RX1 D cy) {o0 : Nat} {q0 : Nat → Nat} {σ0 : pStt} {y1 : Int32} : ∀ (n : Nat) (y2 : Int32) (y3 : Int32) (H : Heap) (locs : List Loc) (ls : Array Slot) (u : Int32), PW D A H0 [pX1 cy o0 q0 σ0] H locs → lv_has ls 4 [(0, .ref o0), (1, .int y1), (2, .int y2), (3, .int y3)] → fl_X1_neighboursOf_4 y1 σ0 n y2 y3 = some u → (∀ (H : Heap) (locs : List Loc) (ls : Array Slot), PW D A H0 [pX1 cy o0 q0 σ0] H locs → lv_has ls 4 [(2, .int u)] → W p l e rmX1_neighboursOf s m args below meth c H locs 0 0 Q (F0 m 33 ls [])) → W p l e rmX1_neighboursOf s m args below meth c H locs 0 0 Q (F0 m 4 ls []) := by
  intro n
  induction n with
  | zero =>
    intro y2 y3 H locs ls u hw hl hf K0
    rw [fl_X1_neighboursOf_4] at hf
    cases hf
  | succ n ih =>
    intro y2 y3 H locs ls u hw hl hf K0
    rw [fl_X1_neighboursOf_4] at hf
    refine lv_iload_n S.1 S.2.1 dX1_neighboursOf_4 rfl (lv_at hl 3 rfl) ?_
    refine lv_bipush (v := 8) S.1 S.2.1 dX1_neighboursOf_5 (by decide) ?_
    refine lv_icmp_ge (tgt := 33) S.1 S.2.1 dX1_neighboursOf_7 (by decide) (fun c_1 => ?_) (fun c_1 => ?_)
    · replace hf := (if_pos c_1).symm.trans hf
      cases hf
      exact K0 _ _ _ hw (lv_sub hl [2] rfl)
    · replace hf := (if_neg c_1).symm.trans hf
      refine lv_iload_n S.1 S.2.1 dX1_neighboursOf_10 rfl (lv_at hl 1 rfl) ?_
      refine lv_iload_n S.1 S.2.1 dX1_neighboursOf_11 rfl (lv_at hl 3 rfl) ?_
      obtain ⟨u_2, e_u_2, hf⟩ := ob hf
      refine kn_X8_holds S (S.2.2.2.2.wd wd420 rfl) hw e_u_2 [] rfl (by decide) rfl ⟨rfl, rfl, Nat.le_of_ble_eq_true rfl, Nat.le_of_ble_eq_true rfl⟩ hl.1 (Nat.le_of_ble_eq_true rfl) dX1_neighboursOf_12 ⟨Nat.zero_le _, Nat.zero_le _⟩ (fun H locs hw => ?_)
      have hw : PW D A H0 [pX1 cy o0 q0 σ0] H locs := hw
      refine lv_if_eq (tgt := 27) S.1 S.2.1 dX1_neighboursOf_15 (by decide) (fun c_3 => ?_) (fun c_3 => ?_)
      · replace hf := (if_pos c_3).symm.trans hf
        refine lv_iinc (v := (y3 + 1)) (lv' := [(3, .int ((y3 + 1))), (0, .ref o0), (1, .int y1), (2, .int y2)]) S.1 S.2.1 dX1_neighboursOf_27 hl (k := 3) rfl rfl (by decide) rfl (fun ls hl => ?_)
        refine lv_goto (tgt := 4) S.1 S.2.1 dX1_neighboursOf_30 (by decide) ?_
        exact ih _ _ _ _ _ _ hw (lv_sub hl [1, 2, 3, 0] rfl) hf K0
      · replace hf := (if_neg c_3).symm.trans hf
        refine lv_iload_n S.1 S.2.1 dX1_neighboursOf_18 rfl (lv_at hl 2 rfl) ?_
        refine lv_aload_n S.1 S.2.1 dX1_neighboursOf_19 rfl (lv_at hl 0 rfl) ?_
        refine gf_X1_9 S hw 0 rfl dX1_neighboursOf_20 ?_
        refine lv_iload_n S.1 S.2.1 dX1_neighboursOf_23 rfl (lv_at hl 3 rfl) ?_
        obtain ⟨x_4, e_x_4, hf⟩ := ob hf
        refine al_X1_0 S hw 0 rfl e_x_4 dX1_neighboursOf_24 ?_
        refine lv_ior S.1 S.2.1 dX1_neighboursOf_25 ?_
        refine lv_istore_n (lv' := [(2, .int ((y2 ||| x_4))), (0, .ref o0), (1, .int y1), (3, .int y3)]) S.1 S.2.1 dX1_neighboursOf_26 rfl hl (by decide) rfl (fun ls hl => ?_)
        refine lv_iinc (v := (y3 + 1)) (lv' := [(3, .int ((y3 + 1))), (2, .int ((y2 ||| x_4))), (0, .ref o0), (1, .int y1)]) S.1 S.2.1 dX1_neighboursOf_27 hl (k := 3) rfl rfl (by decide) rfl (fun ls hl => ?_)
        refine lv_goto (tgt := 4) S.1 S.2.1 dX1_neighboursOf_30 (by decide) ?_
        exact ih _ _ _ _ _ _ hw (lv_sub hl [2, 3, 1, 0] rfl) hf K0
end
set_option maxHeartbeats 4000000 in
set_option maxRecDepth 100000 in
theorem c_X1_neighboursOf (l : Launch) (D : va_G) (cy : Nat → ClassId) (o0 : Nat) (q0 : Nat → Nat) (x1 : Int32) (σ0 : pStt) (u : Int32) (hf : f_X1_neighboursOf x1 σ0 = some u) : CT l yX1_neighboursOf cX1_neighboursOf 4 (some .int) rmX1_neighboursOf D cy [.ref o0, .int x1] [pX1 cy o0 q0 σ0] (some (.int u)) [pX1 cy o0 q0 σ0] := by
  refine CT.of (by decide) (Nat.le_of_ble_eq_true rfl) (fun p e s m args below meth c ls A Q hA hQ S hr hlk hl hw => ?_)
  have hl : lv_has ls 4 [(0, .ref o0), (1, .int x1)] := hl
  rw [f_X1_neighboursOf] at hf
  refine lv_iconst (v := 0) S.1 S.2.1 dX1_neighboursOf_0 (by decide) ?_
  refine lv_istore_n (lv' := [(2, .int 0), (0, .ref o0), (1, .int x1)]) S.1 S.2.1 dX1_neighboursOf_1 rfl hl (by decide) rfl (fun ls hl => ?_)
  refine lv_iconst (v := 0) S.1 S.2.1 dX1_neighboursOf_2 (by decide) ?_
  refine lv_istore_n (lv' := [(3, .int 0), (2, .int 0), (0, .ref o0), (1, .int x1)]) S.1 S.2.1 dX1_neighboursOf_3 rfl hl (by decide) rfl (fun ls hl => ?_)
  obtain ⟨u_5, e_u_5, hf⟩ := ob hf
  refine lp_X1_neighboursOf_4 S 2000 _ _ _ _ _ _ hw (lv_sub hl [2, 3, 1, 0] rfl) e_u_5 ?_
  · intro H locs ls hw hl
    refine lv_iload_n S.1 S.2.1 dX1_neighboursOf_33 rfl (lv_at hl 0 rfl) ?_
    cases hf
    exact w_iret S hr hlk hA hQ hw dX1_neighboursOf_34
section
variable {p : Program} {l : Launch} {e : Env} {R : Room} {s : State} {m : MethodId} {args : Array Value} {below : List Frame} {meth : Method} {c : Code} {H : Heap} {locs : List Loc} {cells slots : Nat} {Q : State → Prop} {cc : ByteArray} {pc nL : Nat} {ls : Array Slot} {rest : List Value} {D : va_G} {cy : Nat → ClassId} {A : Nat → Prop} {H0 : Heap} {own : String} {Ps : List va_W}
set_option maxRecDepth 100000 in
theorem k_X1_neighboursOf {o0 : Nat} {q0 : Nat → Nat} {x1 : Int32} {σ0 : pStt} {u : Int32} {index : Nat} (S : CX p m c cc nL s args own D cy) (hl : (Cond.methodLink own index yX1_neighboursOf).before args s = true) (hw : PW D A H0 Ps H locs) (hf : f_X1_neighboursOf x1 σ0 = some u) (js : List Nat) (hC : js.map (fun j => Ps[j]?) = [some (pX1 cy o0 q0 σ0)]) (hnd : js.Nodup) (hlen : js.length = 1) (hR : RMok rmX1_neighboursOf R 4) (hsize : ls.size = nL) (hrest : (rest.map fun v => v.category).sum ≤ 8) (hdg : decode cc pc = .ok (.invokevirtual index, 3)) (hcs : cells ≤ R.cells ∧ slots ≤ R.slots)
    (kk : ∀ (H1 : Heap) (locs1 : List Loc), PW D A H0 (setAll Ps js [pX1 cy o0 q0 σ0]) H1 locs1 → W p l e R s m args below meth c H1 locs1 cells slots Q (F0 m (pc + 3) ls (.int u :: rest))) : W p l e R s m args below meth c H locs cells slots Q (F0 m pc ls (.int x1 :: .ref o0 :: rest)) :=
  w_callV (n := 1) (ov := (some (.int u))) (As := [.int x1]) (Cs := [pX1 cy o0 q0 σ0]) (Cs' := [pX1 cy o0 q0 σ0]) S hw (c_X1_neighboursOf l D cy o0 q0 x1 σ0 u hf) (MF.of S.2.2.2.2 wd501 wd72 (by decide)) (S.2.2.2.2.wd wd500 rfl) (S.2.2.2.2.wd wd11 rfl) hl hR js hC hnd hlen rfl rfl rfl rfl hsize rfl hrest hdg hcs kk
end
abbrev rmX1_fewestWays : Room := { frames := 2, cells := 0, slots := 0, locals := 44 }
def fl_X1_fewestWays_7 (y2 : Int32) (σ0 : pStt) : Nat → Int32 → Int32 → Option ((Int32) ⊕ (Unit))
  | 0, _, _ => none
  | n + 1, y3, y4 => if 8 ≤ y4 then some (.inr (())) else (f_X8_holds y3 y2).bind (fun u_2 => if u_2 = 0 then (f_X1_neighboursOf y3 σ0).bind (fun u_4 => fl_X1_fewestWays_7 y2 σ0 n ((y3 ||| u_4)) ((y4 + 1))) else some (.inl y4))
def f_X1_fewestWays (x1 : Int32) (x2 : Int32) (σ0 : pStt) : Option (Int32) := (fl_X1_fewestWays_7 x2 σ0 2000 (((1 : Int32) <<< (x1 &&& 31))) 0).bind (fun u_5 => sm (fun a_6 => some a_6) (fun a_7 => some ((-6))) u_5)
section
variable {p : Program} {l : Launch} {e : Env} {s : State} {m : MethodId} {args : Array Value} {below : List Frame} {meth : Method} {c : Code} {Q : State → Prop} {D : va_G} {cy : Nat → ClassId} {A : Nat → Prop} {H0 : Heap}
set_option maxHeartbeats 4000000 in
set_option maxRecDepth 100000 in
theorem lp_X1_fewestWays_7 (S : CX p m c cX1_fewestWays 5 s args RX1 D cy) {o0 : Nat} {q0 : Nat → Nat} {σ0 : pStt} {y2 : Int32} : ∀ (n : Nat) (y3 : Int32) (y4 : Int32) (H : Heap) (locs : List Loc) (ls : Array Slot) (u : (Int32) ⊕ (Unit)), PW D A H0 [pX1 cy o0 q0 σ0] H locs → lv_has ls 5 [(0, .ref o0), (2, .int y2), (3, .int y3), (4, .int y4)] → fl_X1_fewestWays_7 y2 σ0 n y3 y4 = some u → (∀ a, u = .inl a → ∀ (H : Heap) (locs : List Loc) (ls : Array Slot), PW D A H0 [pX1 cy o0 q0 σ0] H locs → lv_has ls 5 [(4, .int a)] → W p l e rmX1_fewestWays s m args below meth c H locs 0 0 Q (F0 m 22 ls [])) → (∀ a, u = .inr a → ∀ (H : Heap) (locs : List Loc) (ls : Array Slot), PW D A H0 [pX1 cy o0 q0 σ0] H locs → lv_has ls 5 [] → W p l e rmX1_fewestWays s m args below meth c H locs 0 0 Q (F0 m 39 ls [])) → W p l e rmX1_fewestWays s m args below meth c H locs 0 0 Q (F0 m 7 ls []) := by
  intro n
  induction n with
  | zero =>
    intro y3 y4 H locs ls u hw hl hf K0 K1
    rw [fl_X1_fewestWays_7] at hf
    cases hf
  | succ n ih =>
    intro y3 y4 H locs ls u hw hl hf K0 K1
    rw [fl_X1_fewestWays_7] at hf
    refine lv_iload S.1 S.2.1 dX1_fewestWays_7 (lv_at hl 3 rfl) ?_
    refine lv_bipush (v := 8) S.1 S.2.1 dX1_fewestWays_9 (by decide) ?_
    refine lv_icmp_ge (tgt := 39) S.1 S.2.1 dX1_fewestWays_11 (by decide) (fun c_1 => ?_) (fun c_1 => ?_)
    · replace hf := (if_pos c_1).symm.trans hf
      cases hf
      exact K1 _ rfl _ _ _ hw (lv_sub hl [] rfl)
    · replace hf := (if_neg c_1).symm.trans hf
      refine lv_iload_n S.1 S.2.1 dX1_fewestWays_14 rfl (lv_at hl 2 rfl) ?_
      refine lv_iload_n S.1 S.2.1 dX1_fewestWays_15 rfl (lv_at hl 1 rfl) ?_
      obtain ⟨u_2, e_u_2, hf⟩ := ob hf
      refine kn_X8_holds S (S.2.2.2.2.wd wd420 rfl) hw e_u_2 [] rfl (by decide) rfl ⟨rfl, rfl, Nat.le_of_ble_eq_true rfl, Nat.le_of_ble_eq_true rfl⟩ hl.1 (Nat.le_of_ble_eq_true rfl) dX1_fewestWays_16 ⟨Nat.zero_le _, Nat.zero_le _⟩ (fun H locs hw => ?_)
      have hw : PW D A H0 [pX1 cy o0 q0 σ0] H locs := hw
      refine lv_if_eq (tgt := 25) S.1 S.2.1 dX1_fewestWays_19 (by decide) (fun c_3 => ?_) (fun c_3 => ?_)
      · replace hf := (if_pos c_3).symm.trans hf
        refine lv_iload_n S.1 S.2.1 dX1_fewestWays_25 rfl (lv_at hl 2 rfl) ?_
        refine lv_aload_n S.1 S.2.1 dX1_fewestWays_26 rfl (lv_at hl 0 rfl) ?_
        refine lv_iload_n S.1 S.2.1 dX1_fewestWays_27 rfl (lv_at hl 2 rfl) ?_
        obtain ⟨u_4, e_u_4, hf⟩ := ob hf
        refine k_X1_neighboursOf S (S.2.2.2.2.wd wd498 rfl) hw e_u_4 [0] rfl (by decide) rfl ⟨rfl, rfl, Nat.le_of_ble_eq_true rfl, Nat.le_of_ble_eq_true rfl⟩ hl.1 (Nat.le_of_ble_eq_true rfl) dX1_fewestWays_28 ⟨Nat.zero_le _, Nat.zero_le _⟩ (fun H locs hw => ?_)
        have hw : PW D A H0 [pX1 cy o0 q0 σ0] H locs := hw
        refine lv_ior S.1 S.2.1 dX1_fewestWays_31 ?_
        refine lv_istore_n (lv' := [(3, .int ((y3 ||| u_4))), (0, .ref o0), (2, .int y2), (4, .int y4)]) S.1 S.2.1 dX1_fewestWays_32 rfl hl (by decide) rfl (fun ls hl => ?_)
        refine lv_iinc (v := (y4 + 1)) (lv' := [(4, .int ((y4 + 1))), (3, .int ((y3 ||| u_4))), (0, .ref o0), (2, .int y2)]) S.1 S.2.1 dX1_fewestWays_33 hl (k := 3) rfl rfl (by decide) rfl (fun ls hl => ?_)
        refine lv_goto (tgt := 7) S.1 S.2.1 dX1_fewestWays_36 (by decide) ?_
        exact ih _ _ _ _ _ _ hw (lv_sub hl [2, 3, 1, 0] rfl) hf K0 K1
      · replace hf := (if_neg c_3).symm.trans hf
        cases hf
        exact K0 _ rfl _ _ _ hw (lv_sub hl [3] rfl)
end
set_option maxHeartbeats 4000000 in
set_option maxRecDepth 100000 in
theorem c_X1_fewestWays (l : Launch) (D : va_G) (cy : Nat → ClassId) (o0 : Nat) (q0 : Nat → Nat) (x1 : Int32) (x2 : Int32) (σ0 : pStt) (u : Int32) (hf : f_X1_fewestWays x1 x2 σ0 = some u) : CT l yX1_fewestWays cX1_fewestWays 5 (some .int) rmX1_fewestWays D cy [.ref o0, .int x1, .int x2] [pX1 cy o0 q0 σ0] (some (.int u)) [pX1 cy o0 q0 σ0] := by
  refine CT.of (by decide) (Nat.le_of_ble_eq_true rfl) (fun p e s m args below meth c ls A Q hA hQ S hr hlk hl hw => ?_)
  have hl : lv_has ls 5 [(0, .ref o0), (1, .int x1), (2, .int x2)] := hl
  rw [f_X1_fewestWays] at hf
  refine lv_iconst (v := 1) S.1 S.2.1 dX1_fewestWays_0 (by decide) ?_
  refine lv_iload_n S.1 S.2.1 dX1_fewestWays_1 rfl (lv_at hl 1 rfl) ?_
  refine lv_ishl S.1 S.2.1 dX1_fewestWays_2 ?_
  refine lv_istore_n (lv' := [(3, .int (((1 : Int32) <<< (x1 &&& 31)))), (0, .ref o0), (1, .int x1), (2, .int x2)]) S.1 S.2.1 dX1_fewestWays_3 rfl hl (by decide) rfl (fun ls hl => ?_)
  refine lv_iconst (v := 0) S.1 S.2.1 dX1_fewestWays_4 (by decide) ?_
  refine lv_istore (lv' := [(4, .int 0), (3, .int (((1 : Int32) <<< (x1 &&& 31)))), (0, .ref o0), (1, .int x1), (2, .int x2)]) S.1 S.2.1 dX1_fewestWays_5 hl (by decide) rfl (fun ls hl => ?_)
  obtain ⟨u_5, e_u_5, hf⟩ := ob hf
  refine lp_X1_fewestWays_7 S 2000 _ _ _ _ _ _ hw (lv_sub hl [2, 4, 1, 0] rfl) e_u_5 ?_ ?_
  · intro a_6 h_a_6 H locs ls hw hl
    subst h_a_6
    replace hf := (sm_l _ _ _).symm.trans hf
    refine lv_iload S.1 S.2.1 dX1_fewestWays_22 (lv_at hl 0 rfl) ?_
    cases hf
    exact w_iret S hr hlk hA hQ hw dX1_fewestWays_24
  · intro a_7 h_a_7 H locs ls hw hl
    subst h_a_7
    replace hf := (sm_r _ _ _).symm.trans hf
    refine lv_bipush (v := (-6)) S.1 S.2.1 dX1_fewestWays_39 (by decide) ?_
    cases hf
    exact w_iret S hr hlk hA hQ hw dX1_fewestWays_41
section
variable {p : Program} {l : Launch} {e : Env} {R : Room} {s : State} {m : MethodId} {args : Array Value} {below : List Frame} {meth : Method} {c : Code} {H : Heap} {locs : List Loc} {cells slots : Nat} {Q : State → Prop} {cc : ByteArray} {pc nL : Nat} {ls : Array Slot} {rest : List Value} {D : va_G} {cy : Nat → ClassId} {A : Nat → Prop} {H0 : Heap} {own : String} {Ps : List va_W}
set_option maxRecDepth 100000 in
theorem k_X1_fewestWays {o0 : Nat} {q0 : Nat → Nat} {x1 : Int32} {x2 : Int32} {σ0 : pStt} {u : Int32} {index : Nat} (S : CX p m c cc nL s args own D cy) (hl : (Cond.methodLink own index yX1_fewestWays).before args s = true) (hw : PW D A H0 Ps H locs) (hf : f_X1_fewestWays x1 x2 σ0 = some u) (js : List Nat) (hC : js.map (fun j => Ps[j]?) = [some (pX1 cy o0 q0 σ0)]) (hnd : js.Nodup) (hlen : js.length = 1) (hR : RMok rmX1_fewestWays R 5) (hsize : ls.size = nL) (hrest : (rest.map fun v => v.category).sum ≤ 8) (hdg : decode cc pc = .ok (.invokevirtual index, 3)) (hcs : cells ≤ R.cells ∧ slots ≤ R.slots)
    (kk : ∀ (H1 : Heap) (locs1 : List Loc), PW D A H0 (setAll Ps js [pX1 cy o0 q0 σ0]) H1 locs1 → W p l e R s m args below meth c H1 locs1 cells slots Q (F0 m (pc + 3) ls (.int u :: rest))) : W p l e R s m args below meth c H locs cells slots Q (F0 m pc ls (.int x2 :: .int x1 :: .ref o0 :: rest)) :=
  w_callV (n := 2) (ov := (some (.int u))) (As := [.int x1, .int x2]) (Cs := [pX1 cy o0 q0 σ0]) (Cs' := [pX1 cy o0 q0 σ0]) S hw (c_X1_fewestWays l D cy o0 q0 x1 x2 σ0 u hf) (MF.of S.2.2.2.2 wd497 wd72 (by decide)) (S.2.2.2.2.wd wd495 rfl) (S.2.2.2.2.wd wd496 rfl) hl hR js hC hnd hlen rfl rfl rfl rfl hsize rfl hrest hdg hcs kk
end
abbrev rmX1_waysOutOf : Room := { frames := 1, cells := 0, slots := 0, locals := 21 }
def fl_X1_waysOutOf_4 (y1 : Int32) (σ0 : pStt) : Nat → Int32 → Int32 → Option (Int32)
  | 0, _, _ => none
  | n + 1, y2, y3 => if 8 ≤ y3 then some y2 else (f_X8_holds y1 y3).bind (fun u_2 => if u_2 = 0 then fl_X1_waysOutOf_4 y1 σ0 n y2 ((y3 + 1)) else (ld (σ0.2 0) 8 y3).bind (fun x_4 => (f_J6_bitCount_0f7a4 ((x_4 &&& (y1 ^^^ (-1 : Int32))))).bind (fun u_5 => fl_X1_waysOutOf_4 y1 σ0 n ((y2 + u_5)) ((y3 + 1)))))
def f_X1_waysOutOf (x1 : Int32) (σ0 : pStt) : Option (Int32) := (fl_X1_waysOutOf_4 x1 σ0 2000 0 0).bind (fun u_6 => some u_6)
section
variable {p : Program} {l : Launch} {e : Env} {s : State} {m : MethodId} {args : Array Value} {below : List Frame} {meth : Method} {c : Code} {Q : State → Prop} {D : va_G} {cy : Nat → ClassId} {A : Nat → Prop} {H0 : Heap}
set_option maxHeartbeats 4000000 in
set_option maxRecDepth 100000 in
theorem lp_X1_waysOutOf_4 (S : CX p m c cX1_waysOutOf 4 s args RX1 D cy) {o0 : Nat} {q0 : Nat → Nat} {σ0 : pStt} {y1 : Int32} : ∀ (n : Nat) (y2 : Int32) (y3 : Int32) (H : Heap) (locs : List Loc) (ls : Array Slot) (u : Int32), PW D A H0 [pX1 cy o0 q0 σ0] H locs → lv_has ls 4 [(0, .ref o0), (1, .int y1), (2, .int y2), (3, .int y3)] → fl_X1_waysOutOf_4 y1 σ0 n y2 y3 = some u → (∀ (H : Heap) (locs : List Loc) (ls : Array Slot), PW D A H0 [pX1 cy o0 q0 σ0] H locs → lv_has ls 4 [(2, .int u)] → W p l e rmX1_waysOutOf s m args below meth c H locs 0 0 Q (F0 m 40 ls [])) → W p l e rmX1_waysOutOf s m args below meth c H locs 0 0 Q (F0 m 4 ls []) := by
  intro n
  induction n with
  | zero =>
    intro y2 y3 H locs ls u hw hl hf K0
    rw [fl_X1_waysOutOf_4] at hf
    cases hf
  | succ n ih =>
    intro y2 y3 H locs ls u hw hl hf K0
    rw [fl_X1_waysOutOf_4] at hf
    refine lv_iload_n S.1 S.2.1 dX1_waysOutOf_4 rfl (lv_at hl 3 rfl) ?_
    refine lv_bipush (v := 8) S.1 S.2.1 dX1_waysOutOf_5 (by decide) ?_
    refine lv_icmp_ge (tgt := 40) S.1 S.2.1 dX1_waysOutOf_7 (by decide) (fun c_1 => ?_) (fun c_1 => ?_)
    · replace hf := (if_pos c_1).symm.trans hf
      cases hf
      exact K0 _ _ _ hw (lv_sub hl [2] rfl)
    · replace hf := (if_neg c_1).symm.trans hf
      refine lv_iload_n S.1 S.2.1 dX1_waysOutOf_10 rfl (lv_at hl 1 rfl) ?_
      refine lv_iload_n S.1 S.2.1 dX1_waysOutOf_11 rfl (lv_at hl 3 rfl) ?_
      obtain ⟨u_2, e_u_2, hf⟩ := ob hf
      refine kn_X8_holds S (S.2.2.2.2.wd wd420 rfl) hw e_u_2 [] rfl (by decide) rfl ⟨rfl, rfl, Nat.le_of_ble_eq_true rfl, Nat.le_of_ble_eq_true rfl⟩ hl.1 (Nat.le_of_ble_eq_true rfl) dX1_waysOutOf_12 ⟨Nat.zero_le _, Nat.zero_le _⟩ (fun H locs hw => ?_)
      have hw : PW D A H0 [pX1 cy o0 q0 σ0] H locs := hw
      refine lv_if_eq (tgt := 34) S.1 S.2.1 dX1_waysOutOf_15 (by decide) (fun c_3 => ?_) (fun c_3 => ?_)
      · replace hf := (if_pos c_3).symm.trans hf
        refine lv_iinc (v := (y3 + 1)) (lv' := [(3, .int ((y3 + 1))), (0, .ref o0), (1, .int y1), (2, .int y2)]) S.1 S.2.1 dX1_waysOutOf_34 hl (k := 3) rfl rfl (by decide) rfl (fun ls hl => ?_)
        refine lv_goto (tgt := 4) S.1 S.2.1 dX1_waysOutOf_37 (by decide) ?_
        exact ih _ _ _ _ _ _ hw (lv_sub hl [1, 2, 3, 0] rfl) hf K0
      · replace hf := (if_neg c_3).symm.trans hf
        refine lv_iload_n S.1 S.2.1 dX1_waysOutOf_18 rfl (lv_at hl 2 rfl) ?_
        refine lv_aload_n S.1 S.2.1 dX1_waysOutOf_19 rfl (lv_at hl 0 rfl) ?_
        refine gf_X1_9 S hw 0 rfl dX1_waysOutOf_20 ?_
        refine lv_iload_n S.1 S.2.1 dX1_waysOutOf_23 rfl (lv_at hl 3 rfl) ?_
        obtain ⟨x_4, e_x_4, hf⟩ := ob hf
        refine al_X1_0 S hw 0 rfl e_x_4 dX1_waysOutOf_24 ?_
        refine lv_iload_n S.1 S.2.1 dX1_waysOutOf_25 rfl (lv_at hl 1 rfl) ?_
        refine lv_iconst (v := (-1)) S.1 S.2.1 dX1_waysOutOf_26 (by decide) ?_
        refine lv_ixor S.1 S.2.1 dX1_waysOutOf_27 ?_
        refine lv_iand S.1 S.2.1 dX1_waysOutOf_28 ?_
        obtain ⟨u_5, e_u_5, hf⟩ := ob hf
        refine k_J6_bitCount_0f7a4 S (S.2.2.2.2.wd wd298 rfl) hw e_u_5 [] rfl (by decide) rfl ⟨rfl, rfl, Nat.le_of_ble_eq_true rfl, Nat.le_of_ble_eq_true rfl⟩ hl.1 (Nat.le_of_ble_eq_true rfl) dX1_waysOutOf_29 ⟨Nat.zero_le _, Nat.zero_le _⟩ (fun H locs hw => ?_)
        have hw : PW D A H0 [pX1 cy o0 q0 σ0] H locs := hw
        refine lv_iadd S.1 S.2.1 dX1_waysOutOf_32 ?_
        refine lv_istore_n (lv' := [(2, .int ((y2 + u_5))), (0, .ref o0), (1, .int y1), (3, .int y3)]) S.1 S.2.1 dX1_waysOutOf_33 rfl hl (by decide) rfl (fun ls hl => ?_)
        refine lv_iinc (v := (y3 + 1)) (lv' := [(3, .int ((y3 + 1))), (2, .int ((y2 + u_5))), (0, .ref o0), (1, .int y1)]) S.1 S.2.1 dX1_waysOutOf_34 hl (k := 3) rfl rfl (by decide) rfl (fun ls hl => ?_)
        refine lv_goto (tgt := 4) S.1 S.2.1 dX1_waysOutOf_37 (by decide) ?_
        exact ih _ _ _ _ _ _ hw (lv_sub hl [2, 3, 1, 0] rfl) hf K0
end
set_option maxHeartbeats 4000000 in
set_option maxRecDepth 100000 in
theorem c_X1_waysOutOf (l : Launch) (D : va_G) (cy : Nat → ClassId) (o0 : Nat) (q0 : Nat → Nat) (x1 : Int32) (σ0 : pStt) (u : Int32) (hf : f_X1_waysOutOf x1 σ0 = some u) : CT l yX1_waysOutOf cX1_waysOutOf 4 (some .int) rmX1_waysOutOf D cy [.ref o0, .int x1] [pX1 cy o0 q0 σ0] (some (.int u)) [pX1 cy o0 q0 σ0] := by
  refine CT.of (by decide) (Nat.le_of_ble_eq_true rfl) (fun p e s m args below meth c ls A Q hA hQ S hr hlk hl hw => ?_)
  have hl : lv_has ls 4 [(0, .ref o0), (1, .int x1)] := hl
  rw [f_X1_waysOutOf] at hf
  refine lv_iconst (v := 0) S.1 S.2.1 dX1_waysOutOf_0 (by decide) ?_
  refine lv_istore_n (lv' := [(2, .int 0), (0, .ref o0), (1, .int x1)]) S.1 S.2.1 dX1_waysOutOf_1 rfl hl (by decide) rfl (fun ls hl => ?_)
  refine lv_iconst (v := 0) S.1 S.2.1 dX1_waysOutOf_2 (by decide) ?_
  refine lv_istore_n (lv' := [(3, .int 0), (2, .int 0), (0, .ref o0), (1, .int x1)]) S.1 S.2.1 dX1_waysOutOf_3 rfl hl (by decide) rfl (fun ls hl => ?_)
  obtain ⟨u_6, e_u_6, hf⟩ := ob hf
  refine lp_X1_waysOutOf_4 S 2000 _ _ _ _ _ _ hw (lv_sub hl [2, 3, 1, 0] rfl) e_u_6 ?_
  · intro H locs ls hw hl
    refine lv_iload_n S.1 S.2.1 dX1_waysOutOf_40 rfl (lv_at hl 0 rfl) ?_
    cases hf
    exact w_iret S hr hlk hA hQ hw dX1_waysOutOf_41
section
variable {p : Program} {l : Launch} {e : Env} {R : Room} {s : State} {m : MethodId} {args : Array Value} {below : List Frame} {meth : Method} {c : Code} {H : Heap} {locs : List Loc} {cells slots : Nat} {Q : State → Prop} {cc : ByteArray} {pc nL : Nat} {ls : Array Slot} {rest : List Value} {D : va_G} {cy : Nat → ClassId} {A : Nat → Prop} {H0 : Heap} {own : String} {Ps : List va_W}
set_option maxRecDepth 100000 in
theorem k_X1_waysOutOf {o0 : Nat} {q0 : Nat → Nat} {x1 : Int32} {σ0 : pStt} {u : Int32} {index : Nat} (S : CX p m c cc nL s args own D cy) (hl : (Cond.methodLink own index yX1_waysOutOf).before args s = true) (hw : PW D A H0 Ps H locs) (hf : f_X1_waysOutOf x1 σ0 = some u) (js : List Nat) (hC : js.map (fun j => Ps[j]?) = [some (pX1 cy o0 q0 σ0)]) (hnd : js.Nodup) (hlen : js.length = 1) (hR : RMok rmX1_waysOutOf R 4) (hsize : ls.size = nL) (hrest : (rest.map fun v => v.category).sum ≤ 8) (hdg : decode cc pc = .ok (.invokevirtual index, 3)) (hcs : cells ≤ R.cells ∧ slots ≤ R.slots)
    (kk : ∀ (H1 : Heap) (locs1 : List Loc), PW D A H0 (setAll Ps js [pX1 cy o0 q0 σ0]) H1 locs1 → W p l e R s m args below meth c H1 locs1 cells slots Q (F0 m (pc + 3) ls (.int u :: rest))) : W p l e R s m args below meth c H locs cells slots Q (F0 m pc ls (.int x1 :: .ref o0 :: rest)) :=
  w_callV (n := 1) (ov := (some (.int u))) (As := [.int x1]) (Cs := [pX1 cy o0 q0 σ0]) (Cs' := [pX1 cy o0 q0 σ0]) S hw (c_X1_waysOutOf l D cy o0 q0 x1 σ0 u hf) (MF.of S.2.2.2.2 wd513 wd72 (by decide)) (S.2.2.2.2.wd wd511 rfl) (S.2.2.2.2.wd wd512 rfl) hl hR js hC hnd hlen rfl rfl rfl rfl hsize rfl hrest hdg hcs kk
end
abbrev rmX1_leastCut : Room := { frames := 2, cells := 0, slots := 0, locals := 44 }
def fl_X1_leastCut_14 (y1 : Int32) (y2 : Int32) (σ0 : pStt) : Nat → Int32 → Int32 → Int32 → Option (Int32)
  | 0, _, _, _ => none
  | n + 1, y3, y4, y5 => if 256 ≤ y5 then some y3 else (f_X8_holds y5 y1).bind (fun u_3 => if u_3 = 0 then fl_X1_leastCut_14 y1 y2 σ0 n y3 y4 ((y5 + 1)) else (f_X8_holds y5 y2).bind (fun u_5 => if u_5 = 0 then (f_X1_waysOutOf y5 σ0).bind (fun u_7 => if y4 ≤ u_7 then fl_X1_leastCut_14 y1 y2 σ0 n y3 y4 ((y5 + 1)) else fl_X1_leastCut_14 y1 y2 σ0 n y5 u_7 ((y5 + 1))) else fl_X1_leastCut_14 y1 y2 σ0 n y3 y4 ((y5 + 1))))
def f_X1_leastCut (x1 : Int32) (x2 : Int32) (σ0 : pStt) : Option (Int32) := (f_X1_waysOutOf (((1 : Int32) <<< (x1 &&& 31))) σ0).bind (fun u_1 => (fl_X1_leastCut_14 x1 x2 σ0 2000 (((1 : Int32) <<< (x1 &&& 31))) u_1 (((1 : Int32) <<< (x1 &&& 31)))).bind (fun u_9 => some u_9))
section
variable {p : Program} {l : Launch} {e : Env} {s : State} {m : MethodId} {args : Array Value} {below : List Frame} {meth : Method} {c : Code} {Q : State → Prop} {D : va_G} {cy : Nat → ClassId} {A : Nat → Prop} {H0 : Heap}
set_option maxHeartbeats 4000000 in
set_option maxRecDepth 100000 in
theorem lp_X1_leastCut_14 (S : CX p m c cX1_leastCut 7 s args RX1 D cy) {o0 : Nat} {q0 : Nat → Nat} {σ0 : pStt} {y1 : Int32} {y2 : Int32} : ∀ (n : Nat) (y3 : Int32) (y4 : Int32) (y5 : Int32) (H : Heap) (locs : List Loc) (ls : Array Slot) (u : Int32), PW D A H0 [pX1 cy o0 q0 σ0] H locs → lv_has ls 7 [(0, .ref o0), (1, .int y1), (2, .int y2), (3, .int y3), (4, .int y4), (5, .int y5)] → fl_X1_leastCut_14 y1 y2 σ0 n y3 y4 y5 = some u → (∀ (H : Heap) (locs : List Loc) (ls : Array Slot), PW D A H0 [pX1 cy o0 q0 σ0] H locs → lv_has ls 7 [(3, .int u)] → W p l e rmX1_leastCut s m args below meth c H locs 0 0 Q (F0 m 68 ls [])) → W p l e rmX1_leastCut s m args below meth c H locs 0 0 Q (F0 m 14 ls []) := by
  intro n
  induction n with
  | zero =>
    intro y3 y4 y5 H locs ls u hw hl hf K0
    rw [fl_X1_leastCut_14] at hf
    cases hf
  | succ n ih =>
    intro y3 y4 y5 H locs ls u hw hl hf K0
    rw [fl_X1_leastCut_14] at hf
    refine lv_iload S.1 S.2.1 dX1_leastCut_14 (lv_at hl 5 rfl) ?_
    refine lv_sipush (v := 256) S.1 S.2.1 dX1_leastCut_16 (by decide) ?_
    refine lv_icmp_ge (tgt := 68) S.1 S.2.1 dX1_leastCut_19 (by decide) (fun c_2 => ?_) (fun c_2 => ?_)
    · replace hf := (if_pos c_2).symm.trans hf
      cases hf
      exact K0 _ _ _ hw (lv_sub hl [3] rfl)
    · replace hf := (if_neg c_2).symm.trans hf
      refine lv_iload S.1 S.2.1 dX1_leastCut_22 (lv_at hl 5 rfl) ?_
      refine lv_iload_n S.1 S.2.1 dX1_leastCut_24 rfl (lv_at hl 1 rfl) ?_
      obtain ⟨u_3, e_u_3, hf⟩ := ob hf
      refine kn_X8_holds S (S.2.2.2.2.wd wd420 rfl) hw e_u_3 [] rfl (by decide) rfl ⟨rfl, rfl, Nat.le_of_ble_eq_true rfl, Nat.le_of_ble_eq_true rfl⟩ hl.1 (Nat.le_of_ble_eq_true rfl) dX1_leastCut_25 ⟨Nat.zero_le _, Nat.zero_le _⟩ (fun H locs hw => ?_)
      have hw : PW D A H0 [pX1 cy o0 q0 σ0] H locs := hw
      refine lv_if_eq (tgt := 62) S.1 S.2.1 dX1_leastCut_28 (by decide) (fun c_4 => ?_) (fun c_4 => ?_)
      · replace hf := (if_pos c_4).symm.trans hf
        refine lv_iinc (v := (y5 + 1)) (lv' := [(5, .int ((y5 + 1))), (0, .ref o0), (1, .int y1), (2, .int y2), (3, .int y3), (4, .int y4)]) S.1 S.2.1 dX1_leastCut_62 hl (k := 5) rfl rfl (by decide) rfl (fun ls hl => ?_)
        refine lv_goto (tgt := 14) S.1 S.2.1 dX1_leastCut_65 (by decide) ?_
        exact ih _ _ _ _ _ _ _ hw (lv_sub hl [1, 2, 3, 4, 5, 0] rfl) hf K0
      · replace hf := (if_neg c_4).symm.trans hf
        refine lv_iload S.1 S.2.1 dX1_leastCut_31 (lv_at hl 5 rfl) ?_
        refine lv_iload_n S.1 S.2.1 dX1_leastCut_33 rfl (lv_at hl 2 rfl) ?_
        obtain ⟨u_5, e_u_5, hf⟩ := ob hf
        refine kn_X8_holds S (S.2.2.2.2.wd wd420 rfl) hw e_u_5 [] rfl (by decide) rfl ⟨rfl, rfl, Nat.le_of_ble_eq_true rfl, Nat.le_of_ble_eq_true rfl⟩ hl.1 (Nat.le_of_ble_eq_true rfl) dX1_leastCut_34 ⟨Nat.zero_le _, Nat.zero_le _⟩ (fun H locs hw => ?_)
        have hw : PW D A H0 [pX1 cy o0 q0 σ0] H locs := hw
        refine lv_if_ne (tgt := 62) S.1 S.2.1 dX1_leastCut_37 (by decide) (fun c_6 => ?_) (fun c_6 => ?_)
        · replace hf := (if_neg c_6).symm.trans hf
          refine lv_iinc (v := (y5 + 1)) (lv' := [(5, .int ((y5 + 1))), (0, .ref o0), (1, .int y1), (2, .int y2), (3, .int y3), (4, .int y4)]) S.1 S.2.1 dX1_leastCut_62 hl (k := 5) rfl rfl (by decide) rfl (fun ls hl => ?_)
          refine lv_goto (tgt := 14) S.1 S.2.1 dX1_leastCut_65 (by decide) ?_
          exact ih _ _ _ _ _ _ _ hw (lv_sub hl [1, 2, 3, 4, 5, 0] rfl) hf K0
        · replace hf := (if_pos c_6).symm.trans hf
          refine lv_aload_n S.1 S.2.1 dX1_leastCut_40 rfl (lv_at hl 0 rfl) ?_
          refine lv_iload S.1 S.2.1 dX1_leastCut_41 (lv_at hl 5 rfl) ?_
          obtain ⟨u_7, e_u_7, hf⟩ := ob hf
          refine k_X1_waysOutOf S (S.2.2.2.2.wd wd510 rfl) hw e_u_7 [0] rfl (by decide) rfl ⟨rfl, rfl, Nat.le_of_ble_eq_true rfl, Nat.le_of_ble_eq_true rfl⟩ hl.1 (Nat.le_of_ble_eq_true rfl) dX1_leastCut_43 ⟨Nat.zero_le _, Nat.zero_le _⟩ (fun H locs hw => ?_)
          have hw : PW D A H0 [pX1 cy o0 q0 σ0] H locs := hw
          refine lv_istore (lv' := [(6, .int u_7), (0, .ref o0), (1, .int y1), (2, .int y2), (3, .int y3), (4, .int y4), (5, .int y5)]) S.1 S.2.1 dX1_leastCut_46 hl (by decide) rfl (fun ls hl => ?_)
          refine lv_iload S.1 S.2.1 dX1_leastCut_48 (lv_at hl 0 rfl) ?_
          refine lv_iload S.1 S.2.1 dX1_leastCut_50 (lv_at hl 5 rfl) ?_
          refine lv_icmp_ge (tgt := 62) S.1 S.2.1 dX1_leastCut_52 (by decide) (fun c_8 => ?_) (fun c_8 => ?_)
          · replace hf := (if_pos c_8).symm.trans hf
            refine lv_iinc (v := (y5 + 1)) (lv' := [(5, .int ((y5 + 1))), (6, .int u_7), (0, .ref o0), (1, .int y1), (2, .int y2), (3, .int y3), (4, .int y4)]) S.1 S.2.1 dX1_leastCut_62 hl (k := 6) rfl rfl (by decide) rfl (fun ls hl => ?_)
            refine lv_goto (tgt := 14) S.1 S.2.1 dX1_leastCut_65 (by decide) ?_
            exact ih _ _ _ _ _ _ _ hw (lv_sub hl [2, 3, 4, 5, 6, 0] rfl) hf K0
          · replace hf := (if_neg c_8).symm.trans hf
            refine lv_iload S.1 S.2.1 dX1_leastCut_55 (lv_at hl 0 rfl) ?_
            refine lv_istore (lv' := [(4, .int u_7), (6, .int u_7), (0, .ref o0), (1, .int y1), (2, .int y2), (3, .int y3), (5, .int y5)]) S.1 S.2.1 dX1_leastCut_57 hl (by decide) rfl (fun ls hl => ?_)
            refine lv_iload S.1 S.2.1 dX1_leastCut_59 (lv_at hl 6 rfl) ?_
            refine lv_istore_n (lv' := [(3, .int y5), (4, .int u_7), (6, .int u_7), (0, .ref o0), (1, .int y1), (2, .int y2), (5, .int y5)]) S.1 S.2.1 dX1_leastCut_61 rfl hl (by decide) rfl (fun ls hl => ?_)
            refine lv_iinc (v := (y5 + 1)) (lv' := [(5, .int ((y5 + 1))), (3, .int y5), (4, .int u_7), (6, .int u_7), (0, .ref o0), (1, .int y1), (2, .int y2)]) S.1 S.2.1 dX1_leastCut_62 hl (k := 6) rfl rfl (by decide) rfl (fun ls hl => ?_)
            refine lv_goto (tgt := 14) S.1 S.2.1 dX1_leastCut_65 (by decide) ?_
            exact ih _ _ _ _ _ _ _ hw (lv_sub hl [4, 5, 6, 1, 2, 0] rfl) hf K0
end
set_option maxHeartbeats 4000000 in
set_option maxRecDepth 100000 in
theorem c_X1_leastCut (l : Launch) (D : va_G) (cy : Nat → ClassId) (o0 : Nat) (q0 : Nat → Nat) (x1 : Int32) (x2 : Int32) (σ0 : pStt) (u : Int32) (hf : f_X1_leastCut x1 x2 σ0 = some u) : CT l yX1_leastCut cX1_leastCut 7 (some .int) rmX1_leastCut D cy [.ref o0, .int x1, .int x2] [pX1 cy o0 q0 σ0] (some (.int u)) [pX1 cy o0 q0 σ0] := by
  refine CT.of (by decide) (Nat.le_of_ble_eq_true rfl) (fun p e s m args below meth c ls A Q hA hQ S hr hlk hl hw => ?_)
  have hl : lv_has ls 7 [(0, .ref o0), (1, .int x1), (2, .int x2)] := hl
  rw [f_X1_leastCut] at hf
  refine lv_iconst (v := 1) S.1 S.2.1 dX1_leastCut_0 (by decide) ?_
  refine lv_iload_n S.1 S.2.1 dX1_leastCut_1 rfl (lv_at hl 1 rfl) ?_
  refine lv_ishl S.1 S.2.1 dX1_leastCut_2 ?_
  refine lv_istore_n (lv' := [(3, .int (((1 : Int32) <<< (x1 &&& 31)))), (0, .ref o0), (1, .int x1), (2, .int x2)]) S.1 S.2.1 dX1_leastCut_3 rfl hl (by decide) rfl (fun ls hl => ?_)
  refine lv_aload_n S.1 S.2.1 dX1_leastCut_4 rfl (lv_at hl 1 rfl) ?_
  refine lv_iload_n S.1 S.2.1 dX1_leastCut_5 rfl (lv_at hl 0 rfl) ?_
  obtain ⟨u_1, e_u_1, hf⟩ := ob hf
  refine k_X1_waysOutOf S (S.2.2.2.2.wd wd510 rfl) hw e_u_1 [0] rfl (by decide) rfl ⟨rfl, rfl, Nat.le_of_ble_eq_true rfl, Nat.le_of_ble_eq_true rfl⟩ hl.1 (Nat.le_of_ble_eq_true rfl) dX1_leastCut_6 ⟨Nat.zero_le _, Nat.zero_le _⟩ (fun H locs hw => ?_)
  have hw : PW D A s.heap [pX1 cy o0 q0 σ0] H locs := hw
  refine lv_istore (lv' := [(4, .int u_1), (3, .int (((1 : Int32) <<< (x1 &&& 31)))), (0, .ref o0), (1, .int x1), (2, .int x2)]) S.1 S.2.1 dX1_leastCut_9 hl (by decide) rfl (fun ls hl => ?_)
  refine lv_iload_n S.1 S.2.1 dX1_leastCut_11 rfl (lv_at hl 1 rfl) ?_
  refine lv_istore (lv' := [(5, .int (((1 : Int32) <<< (x1 &&& 31)))), (4, .int u_1), (3, .int (((1 : Int32) <<< (x1 &&& 31)))), (0, .ref o0), (1, .int x1), (2, .int x2)]) S.1 S.2.1 dX1_leastCut_12 hl (by decide) rfl (fun ls hl => ?_)
  obtain ⟨u_9, e_u_9, hf⟩ := ob hf
  refine lp_X1_leastCut_14 S 2000 _ _ _ _ _ _ _ hw (lv_sub hl [3, 4, 5, 2, 1, 0] rfl) e_u_9 ?_
  · intro H locs ls hw hl
    refine lv_iload_n S.1 S.2.1 dX1_leastCut_68 rfl (lv_at hl 0 rfl) ?_
    cases hf
    exact w_iret S hr hlk hA hQ hw dX1_leastCut_69
section
variable {p : Program} {l : Launch} {e : Env} {R : Room} {s : State} {m : MethodId} {args : Array Value} {below : List Frame} {meth : Method} {c : Code} {H : Heap} {locs : List Loc} {cells slots : Nat} {Q : State → Prop} {cc : ByteArray} {pc nL : Nat} {ls : Array Slot} {rest : List Value} {D : va_G} {cy : Nat → ClassId} {A : Nat → Prop} {H0 : Heap} {own : String} {Ps : List va_W}
set_option maxRecDepth 100000 in
theorem k_X1_leastCut {o0 : Nat} {q0 : Nat → Nat} {x1 : Int32} {x2 : Int32} {σ0 : pStt} {u : Int32} {index : Nat} (S : CX p m c cc nL s args own D cy) (hl : (Cond.methodLink own index yX1_leastCut).before args s = true) (hw : PW D A H0 Ps H locs) (hf : f_X1_leastCut x1 x2 σ0 = some u) (js : List Nat) (hC : js.map (fun j => Ps[j]?) = [some (pX1 cy o0 q0 σ0)]) (hnd : js.Nodup) (hlen : js.length = 1) (hR : RMok rmX1_leastCut R 7) (hsize : ls.size = nL) (hrest : (rest.map fun v => v.category).sum ≤ 8) (hdg : decode cc pc = .ok (.invokevirtual index, 3)) (hcs : cells ≤ R.cells ∧ slots ≤ R.slots)
    (kk : ∀ (H1 : Heap) (locs1 : List Loc), PW D A H0 (setAll Ps js [pX1 cy o0 q0 σ0]) H1 locs1 → W p l e R s m args below meth c H1 locs1 cells slots Q (F0 m (pc + 3) ls (.int u :: rest))) : W p l e R s m args below meth c H locs cells slots Q (F0 m pc ls (.int x2 :: .int x1 :: .ref o0 :: rest)) :=
  w_callV (n := 2) (ov := (some (.int u))) (As := [.int x1, .int x2]) (Cs := [pX1 cy o0 q0 σ0]) (Cs' := [pX1 cy o0 q0 σ0]) S hw (c_X1_leastCut l D cy o0 q0 x1 x2 σ0 u hf) (MF.of S.2.2.2.2 wd509 wd72 (by decide)) (S.2.2.2.2.wd wd507 rfl) (S.2.2.2.2.wd wd508 rfl) hl hR js hC hnd hlen rfl rfl rfl rfl hsize rfl hrest hdg hcs kk
end
abbrev rmX3_add : Room := { frames := 0, cells := 0, slots := 0, locals := 0 }
def f_X3_add (x1 : Int32) (σ0 : pStt) : Option (Int32 × pStt) := if (σ0.1 0) < 60 then (stA σ0 0 60 ((σ0.1 0)) x1).bind (fun σ_2 => (some (sI σ_2 0 (((σ_2.1 0) + (1 : Int32))))).bind (fun σ_3 => some (1, σ_3))) else some (0, σ0)
set_option maxHeartbeats 4000000 in
set_option maxRecDepth 100000 in
theorem c_X3_add (l : Launch) (D : va_G) (cy : Nat → ClassId) (o0 : Nat) (q0 : Nat → Nat) (x1 : Int32) (σ0 : pStt) (u : Int32 × pStt) (hf : f_X3_add x1 σ0 = some u) : CT l yX3_add cX3_add 2 (some .boolean) rmX3_add D cy [.ref o0, .int x1] [pX3 cy o0 q0 σ0] (some (.int u.1)) [pX3 cy o0 q0 u.2] := by
  refine CT.of (by decide) (Nat.le_of_ble_eq_true rfl) (fun p e s m args below meth c ls A Q hA hQ S hr hlk hl hw => ?_)
  have hl : lv_has ls 2 [(0, .ref o0), (1, .int x1)] := hl
  rw [f_X3_add] at hf
  refine lv_aload_n S.1 S.2.1 dX3_add_0 rfl (lv_at hl 0 rfl) ?_
  refine gf_X3_15 S hw 0 rfl dX3_add_1 ?_
  refine lv_bipush (v := 60) S.1 S.2.1 dX3_add_4 (by decide) ?_
  refine lv_icmp_lt (tgt := 11) S.1 S.2.1 dX3_add_6 (by decide) (fun c_1 => ?_) (fun c_1 => ?_)
  · replace hf := (if_pos c_1).symm.trans hf
    refine lv_aload_n S.1 S.2.1 dX3_add_11 rfl (lv_at hl 0 rfl) ?_
    refine gf_X3_9 S hw 0 rfl dX3_add_12 ?_
    refine lv_aload_n S.1 S.2.1 dX3_add_15 rfl (lv_at hl 0 rfl) ?_
    refine gf_X3_15 S hw 0 rfl dX3_add_16 ?_
    refine lv_iload_n S.1 S.2.1 dX3_add_19 rfl (lv_at hl 1 rfl) ?_
    obtain ⟨σ_2, e_σ_2, hf⟩ := ob hf
    refine as_X3_0 S hw 0 rfl e_σ_2 dX3_add_20 (fun H locs hw => ?_)
    have hw : PW D A s.heap [pX3 cy o0 q0 σ_2] H locs := hw
    refine lv_aload_n S.1 S.2.1 dX3_add_21 rfl (lv_at hl 0 rfl) ?_
    refine lv_dup S.1 S.2.1 dX3_add_22 rfl ?_
    refine gf_X3_15 S hw 0 rfl dX3_add_23 ?_
    refine lv_iconst (v := 1) S.1 S.2.1 dX3_add_26 (by decide) ?_
    refine lv_iadd S.1 S.2.1 dX3_add_27 ?_
    obtain ⟨σ_3, e_σ_3, hf⟩ := ob hf
    refine pf_X3_15 S hw 0 rfl e_σ_3 dX3_add_28 (fun H locs hw => ?_)
    have hw : PW D A s.heap [pX3 cy o0 q0 σ_3] H locs := hw
    refine lv_iconst (v := 1) S.1 S.2.1 dX3_add_31 (by decide) ?_
    cases hf
    exact w_zret S hr rfl hlk hA hQ hw dX3_add_32
  · replace hf := (if_neg c_1).symm.trans hf
    refine lv_iconst (v := 0) S.1 S.2.1 dX3_add_9 (by decide) ?_
    cases hf
    exact w_zret S hr rfl hlk hA hQ hw dX3_add_10
section
variable {p : Program} {l : Launch} {e : Env} {R : Room} {s : State} {m : MethodId} {args : Array Value} {below : List Frame} {meth : Method} {c : Code} {H : Heap} {locs : List Loc} {cells slots : Nat} {Q : State → Prop} {cc : ByteArray} {pc nL : Nat} {ls : Array Slot} {rest : List Value} {D : va_G} {cy : Nat → ClassId} {A : Nat → Prop} {H0 : Heap} {own : String} {Ps : List va_W}
set_option maxRecDepth 100000 in
theorem k_X3_add {o0 : Nat} {q0 : Nat → Nat} {x1 : Int32} {σ0 : pStt} {u : Int32 × pStt} {index : Nat} (S : CX p m c cc nL s args own D cy) (hl : (Cond.methodLink own index yX3_add).before args s = true) (hw : PW D A H0 Ps H locs) (hf : f_X3_add x1 σ0 = some u) (js : List Nat) (hC : js.map (fun j => Ps[j]?) = [some (pX3 cy o0 q0 σ0)]) (hnd : js.Nodup) (hlen : js.length = 1) (hR : RMok rmX3_add R 2) (hsize : ls.size = nL) (hrest : (rest.map fun v => v.category).sum ≤ 8) (hdg : decode cc pc = .ok (.invokevirtual index, 3)) (hcs : cells ≤ R.cells ∧ slots ≤ R.slots)
    (kk : ∀ (H1 : Heap) (locs1 : List Loc), PW D A H0 (setAll Ps js [pX3 cy o0 q0 u.2]) H1 locs1 → W p l e R s m args below meth c H1 locs1 cells slots Q (F0 m (pc + 3) ls (.int u.1 :: rest))) : W p l e R s m args below meth c H locs cells slots Q (F0 m pc ls (.int x1 :: .ref o0 :: rest)) :=
  w_callV (n := 1) (ov := (some (.int u.1))) (As := [.int x1]) (Cs := [pX3 cy o0 q0 σ0]) (Cs' := [pX3 cy o0 q0 u.2]) S hw (c_X3_add l D cy o0 q0 x1 σ0 u hf) (MF.of S.2.2.2.2 wd346 wd75 (by decide)) (S.2.2.2.2.wd wd344 rfl) (S.2.2.2.2.wd wd345 rfl) hl hR js hC hnd hlen rfl rfl rfl rfl hsize rfl hrest hdg hcs kk
end
abbrev rmX3_rewind : Room := { frames := 0, cells := 0, slots := 0, locals := 0 }
def f_X3_rewind (σ0 : pStt) : Option (pStt) := (some (sI σ0 1 0)).bind (fun σ_1 => some σ_1)
set_option maxHeartbeats 4000000 in
set_option maxRecDepth 100000 in
theorem c_X3_rewind (l : Launch) (D : va_G) (cy : Nat → ClassId) (o0 : Nat) (q0 : Nat → Nat) (σ0 : pStt) (u : pStt) (hf : f_X3_rewind σ0 = some u) : CT l yX3_rewind cX3_rewind 1 none rmX3_rewind D cy [.ref o0] [pX3 cy o0 q0 σ0] none [pX3 cy o0 q0 u] := by
  refine CT.of (by decide) (Nat.le_of_ble_eq_true rfl) (fun p e s m args below meth c ls A Q hA hQ S hr hlk hl hw => ?_)
  have hl : lv_has ls 1 [(0, .ref o0)] := hl
  rw [f_X3_rewind] at hf
  refine lv_aload_n S.1 S.2.1 dX3_rewind_0 rfl (lv_at hl 0 rfl) ?_
  refine lv_iconst (v := 0) S.1 S.2.1 dX3_rewind_1 (by decide) ?_
  obtain ⟨σ_1, e_σ_1, hf⟩ := ob hf
  refine pf_X3_19 S hw 0 rfl e_σ_1 dX3_rewind_2 (fun H locs hw => ?_)
  have hw : PW D A s.heap [pX3 cy o0 q0 σ_1] H locs := hw
  cases hf
  exact w_vret S hr hlk hA hQ hw dX3_rewind_5
section
variable {p : Program} {l : Launch} {e : Env} {R : Room} {s : State} {m : MethodId} {args : Array Value} {below : List Frame} {meth : Method} {c : Code} {H : Heap} {locs : List Loc} {cells slots : Nat} {Q : State → Prop} {cc : ByteArray} {pc nL : Nat} {ls : Array Slot} {rest : List Value} {D : va_G} {cy : Nat → ClassId} {A : Nat → Prop} {H0 : Heap} {own : String} {Ps : List va_W}
set_option maxRecDepth 100000 in
theorem k_X3_rewind {o0 : Nat} {q0 : Nat → Nat}  {σ0 : pStt} {u : pStt} {index : Nat} (S : CX p m c cc nL s args own D cy) (hl : (Cond.methodLink own index yX3_rewind).before args s = true) (hw : PW D A H0 Ps H locs) (hf : f_X3_rewind σ0 = some u) (js : List Nat) (hC : js.map (fun j => Ps[j]?) = [some (pX3 cy o0 q0 σ0)]) (hnd : js.Nodup) (hlen : js.length = 1) (hR : RMok rmX3_rewind R 1) (hsize : ls.size = nL) (hrest : (rest.map fun v => v.category).sum ≤ 8) (hdg : decode cc pc = .ok (.invokevirtual index, 3)) (hcs : cells ≤ R.cells ∧ slots ≤ R.slots)
    (kk : ∀ (H1 : Heap) (locs1 : List Loc), PW D A H0 (setAll Ps js [pX3 cy o0 q0 u]) H1 locs1 → W p l e R s m args below meth c H1 locs1 cells slots Q (F0 m (pc + 3) ls (rest))) : W p l e R s m args below meth c H locs cells slots Q (F0 m pc ls (.ref o0 :: rest)) :=
  w_callV (n := 0) (ov := none) (As := []) (Cs := [pX3 cy o0 q0 σ0]) (Cs' := [pX3 cy o0 q0 u]) S hw (c_X3_rewind l D cy o0 q0 σ0 u hf) (MF.of S.2.2.2.2 wd362 wd75 (by decide)) (S.2.2.2.2.wd wd360 rfl) (S.2.2.2.2.wd wd361 rfl) hl hR js hC hnd hlen rfl rfl rfl rfl hsize rfl hrest hdg hcs kk
end
abbrev rmX3_readLone : Room := { frames := 0, cells := 0, slots := 0, locals := 0 }
def f_X3_readLone (x1 : Int32) (σ0 : pStt) : Option (Int32 × pStt) := (some (sI σ0 2 x1)).bind (fun σ_1 => (some (sI σ_1 1 (((σ_1.1 1) + (1 : Int32))))).bind (fun σ_2 => some (1, σ_2)))
set_option maxHeartbeats 4000000 in
set_option maxRecDepth 100000 in
theorem c_X3_readLone (l : Launch) (D : va_G) (cy : Nat → ClassId) (o0 : Nat) (q0 : Nat → Nat) (x1 : Int32) (σ0 : pStt) (u : Int32 × pStt) (hf : f_X3_readLone x1 σ0 = some u) : CT l yX3_readLone cX3_readLone 2 (some .boolean) rmX3_readLone D cy [.ref o0, .int x1] [pX3 cy o0 q0 σ0] (some (.int u.1)) [pX3 cy o0 q0 u.2] := by
  refine CT.of (by decide) (Nat.le_of_ble_eq_true rfl) (fun p e s m args below meth c ls A Q hA hQ S hr hlk hl hw => ?_)
  have hl : lv_has ls 2 [(0, .ref o0), (1, .int x1)] := hl
  rw [f_X3_readLone] at hf
  refine lv_aload_n S.1 S.2.1 dX3_readLone_0 rfl (lv_at hl 0 rfl) ?_
  refine lv_iload_n S.1 S.2.1 dX3_readLone_1 rfl (lv_at hl 1 rfl) ?_
  obtain ⟨σ_1, e_σ_1, hf⟩ := ob hf
  refine pf_X3_54 S hw 0 rfl e_σ_1 dX3_readLone_2 (fun H locs hw => ?_)
  have hw : PW D A s.heap [pX3 cy o0 q0 σ_1] H locs := hw
  refine lv_aload_n S.1 S.2.1 dX3_readLone_5 rfl (lv_at hl 0 rfl) ?_
  refine lv_dup S.1 S.2.1 dX3_readLone_6 rfl ?_
  refine gf_X3_19 S hw 0 rfl dX3_readLone_7 ?_
  refine lv_iconst (v := 1) S.1 S.2.1 dX3_readLone_10 (by decide) ?_
  refine lv_iadd S.1 S.2.1 dX3_readLone_11 ?_
  obtain ⟨σ_2, e_σ_2, hf⟩ := ob hf
  refine pf_X3_19 S hw 0 rfl e_σ_2 dX3_readLone_12 (fun H locs hw => ?_)
  have hw : PW D A s.heap [pX3 cy o0 q0 σ_2] H locs := hw
  refine lv_iconst (v := 1) S.1 S.2.1 dX3_readLone_15 (by decide) ?_
  cases hf
  exact w_zret S hr rfl hlk hA hQ hw dX3_readLone_16
section
variable {p : Program} {l : Launch} {e : Env} {R : Room} {s : State} {m : MethodId} {args : Array Value} {below : List Frame} {meth : Method} {c : Code} {H : Heap} {locs : List Loc} {cells slots : Nat} {Q : State → Prop} {cc : ByteArray} {pc nL : Nat} {ls : Array Slot} {rest : List Value} {D : va_G} {cy : Nat → ClassId} {A : Nat → Prop} {H0 : Heap} {own : String} {Ps : List va_W}
set_option maxRecDepth 100000 in
theorem k_X3_readLone {o0 : Nat} {q0 : Nat → Nat} {x1 : Int32} {σ0 : pStt} {u : Int32 × pStt} {index : Nat} (S : CX p m c cc nL s args own D cy) (hl : (Cond.methodLink own index yX3_readLone).before args s = true) (hw : PW D A H0 Ps H locs) (hf : f_X3_readLone x1 σ0 = some u) (js : List Nat) (hC : js.map (fun j => Ps[j]?) = [some (pX3 cy o0 q0 σ0)]) (hnd : js.Nodup) (hlen : js.length = 1) (hR : RMok rmX3_readLone R 2) (hsize : ls.size = nL) (hrest : (rest.map fun v => v.category).sum ≤ 8) (hdg : decode cc pc = .ok (.invokevirtual index, 3)) (hcs : cells ≤ R.cells ∧ slots ≤ R.slots)
    (kk : ∀ (H1 : Heap) (locs1 : List Loc), PW D A H0 (setAll Ps js [pX3 cy o0 q0 u.2]) H1 locs1 → W p l e R s m args below meth c H1 locs1 cells slots Q (F0 m (pc + 3) ls (.int u.1 :: rest))) : W p l e R s m args below meth c H locs cells slots Q (F0 m pc ls (.int x1 :: .ref o0 :: rest)) :=
  w_callV (n := 1) (ov := (some (.int u.1))) (As := [.int x1]) (Cs := [pX3 cy o0 q0 σ0]) (Cs' := [pX3 cy o0 q0 u.2]) S hw (c_X3_readLone l D cy o0 q0 x1 σ0 u hf) (MF.of S.2.2.2.2 wd382 wd75 (by decide)) (S.2.2.2.2.wd wd381 rfl) (S.2.2.2.2.wd wd3 rfl) hl hR js hC hnd hlen rfl rfl rfl rfl hsize rfl hrest hdg hcs kk
end
abbrev rmX3_signHere : Room := { frames := 0, cells := 0, slots := 0, locals := 0 }
def f_X3_signHere (σ0 : pStt) : Option (Int32) := (if (σ0.1 1) < 0 then some 0 else if (σ0.1 0) ≤ (σ0.1 1) then some 0 else (ld (σ0.2 0) 60 ((σ0.1 1))).bind (fun x_4 => some x_4) : Option Int32).bind (fun v_1 => some v_1)
set_option maxHeartbeats 4000000 in
set_option maxRecDepth 100000 in
theorem c_X3_signHere (l : Launch) (D : va_G) (cy : Nat → ClassId) (o0 : Nat) (q0 : Nat → Nat) (σ0 : pStt) (u : Int32) (hf : f_X3_signHere σ0 = some u) : CT l yX3_signHere cX3_signHere 1 (some .int) rmX3_signHere D cy [.ref o0] [pX3 cy o0 q0 σ0] (some (.int u)) [pX3 cy o0 q0 σ0] := by
  refine CT.of (by decide) (Nat.le_of_ble_eq_true rfl) (fun p e s m args below meth c ls A Q hA hQ S hr hlk hl hw => ?_)
  have hl : lv_has ls 1 [(0, .ref o0)] := hl
  rw [f_X3_signHere] at hf
  refine lv_aload_n S.1 S.2.1 dX3_signHere_0 rfl (lv_at hl 0 rfl) ?_
  refine gf_X3_19 S hw 0 rfl dX3_signHere_1 ?_
  obtain ⟨v_1, e_v_1, hf⟩ := ob hf
  have hJ_v_1 : ∀ (H : Heap) (locs : List Loc), PW D A s.heap [pX3 cy o0 q0 σ0] H locs → W p l e rmX3_signHere s m args below meth c H locs 0 0 Q (F0 m 31 ls [.int v_1]) := by
    intro H locs hw
    cases hf
    exact w_iret S hr hlk hA hQ hw dX3_signHere_31
  replace hf := e_v_1
  clear e_v_1
  refine lv_if_lt (tgt := 30) S.1 S.2.1 dX3_signHere_4 (by decide) (fun c_2 => ?_) (fun c_2 => ?_)
  · replace hf := (if_pos c_2).symm.trans hf
    refine lv_iconst (v := 0) S.1 S.2.1 dX3_signHere_30 (by decide) ?_
    cases hf
    exact hJ_v_1 _ _ hw
  · replace hf := (if_neg c_2).symm.trans hf
    refine lv_aload_n S.1 S.2.1 dX3_signHere_7 rfl (lv_at hl 0 rfl) ?_
    refine gf_X3_19 S hw 0 rfl dX3_signHere_8 ?_
    refine lv_aload_n S.1 S.2.1 dX3_signHere_11 rfl (lv_at hl 0 rfl) ?_
    refine gf_X3_15 S hw 0 rfl dX3_signHere_12 ?_
    refine lv_icmp_ge (tgt := 30) S.1 S.2.1 dX3_signHere_15 (by decide) (fun c_3 => ?_) (fun c_3 => ?_)
    · replace hf := (if_pos c_3).symm.trans hf
      refine lv_iconst (v := 0) S.1 S.2.1 dX3_signHere_30 (by decide) ?_
      cases hf
      exact hJ_v_1 _ _ hw
    · replace hf := (if_neg c_3).symm.trans hf
      refine lv_aload_n S.1 S.2.1 dX3_signHere_18 rfl (lv_at hl 0 rfl) ?_
      refine gf_X3_9 S hw 0 rfl dX3_signHere_19 ?_
      refine lv_aload_n S.1 S.2.1 dX3_signHere_22 rfl (lv_at hl 0 rfl) ?_
      refine gf_X3_19 S hw 0 rfl dX3_signHere_23 ?_
      obtain ⟨x_4, e_x_4, hf⟩ := ob hf
      refine al_X3_0 S hw 0 rfl e_x_4 dX3_signHere_26 ?_
      refine lv_goto (tgt := 31) S.1 S.2.1 dX3_signHere_27 (by decide) ?_
      cases hf
      exact hJ_v_1 _ _ hw
section
variable {p : Program} {l : Launch} {e : Env} {R : Room} {s : State} {m : MethodId} {args : Array Value} {below : List Frame} {meth : Method} {c : Code} {H : Heap} {locs : List Loc} {cells slots : Nat} {Q : State → Prop} {cc : ByteArray} {pc nL : Nat} {ls : Array Slot} {rest : List Value} {D : va_G} {cy : Nat → ClassId} {A : Nat → Prop} {H0 : Heap} {own : String} {Ps : List va_W}
set_option maxRecDepth 100000 in
theorem k_X3_signHere {o0 : Nat} {q0 : Nat → Nat}  {σ0 : pStt} {u : Int32} {index : Nat} (S : CX p m c cc nL s args own D cy) (hl : (Cond.methodLink own index yX3_signHere).before args s = true) (hw : PW D A H0 Ps H locs) (hf : f_X3_signHere σ0 = some u) (js : List Nat) (hC : js.map (fun j => Ps[j]?) = [some (pX3 cy o0 q0 σ0)]) (hnd : js.Nodup) (hlen : js.length = 1) (hR : RMok rmX3_signHere R 1) (hsize : ls.size = nL) (hrest : (rest.map fun v => v.category).sum ≤ 8) (hdg : decode cc pc = .ok (.invokevirtual index, 3)) (hcs : cells ≤ R.cells ∧ slots ≤ R.slots)
    (kk : ∀ (H1 : Heap) (locs1 : List Loc), PW D A H0 (setAll Ps js [pX3 cy o0 q0 σ0]) H1 locs1 → W p l e R s m args below meth c H1 locs1 cells slots Q (F0 m (pc + 3) ls (.int u :: rest))) : W p l e R s m args below meth c H locs cells slots Q (F0 m pc ls (.ref o0 :: rest)) :=
  w_callV (n := 0) (ov := (some (.int u))) (As := []) (Cs := [pX3 cy o0 q0 σ0]) (Cs' := [pX3 cy o0 q0 σ0]) S hw (c_X3_signHere l D cy o0 q0 σ0 u hf) (MF.of S.2.2.2.2 wd374 wd75 (by decide)) (S.2.2.2.2.wd wd373 rfl) (S.2.2.2.2.wd wd1 rfl) hl hR js hC hnd hlen rfl rfl rfl rfl hsize rfl hrest hdg hcs kk
end
abbrev rmX3_take : Room := { frames := 1, cells := 0, slots := 0, locals := 20 }
def f_X3_take (x1 : Int32) (x2 : Int32) (σ0 : pStt) : Option (Int32 × pStt) := (f_X3_signHere σ0).bind (fun u_1 => if (u_1 - x1) < 0 then some ((-6), σ0) else if (u_1 - x1) < x2 then (some (sI σ0 1 (((σ0.1 1) + (1 : Int32))))).bind (fun σ_4 => some ((u_1 - x1), σ_4)) else some ((-6), σ0))
set_option maxHeartbeats 4000000 in
set_option maxRecDepth 100000 in
theorem c_X3_take (l : Launch) (D : va_G) (cy : Nat → ClassId) (o0 : Nat) (q0 : Nat → Nat) (x1 : Int32) (x2 : Int32) (σ0 : pStt) (u : Int32 × pStt) (hf : f_X3_take x1 x2 σ0 = some u) : CT l yX3_take cX3_take 4 (some .int) rmX3_take D cy [.ref o0, .int x1, .int x2] [pX3 cy o0 q0 σ0] (some (.int u.1)) [pX3 cy o0 q0 u.2] := by
  refine CT.of (by decide) (Nat.le_of_ble_eq_true rfl) (fun p e s m args below meth c ls A Q hA hQ S hr hlk hl hw => ?_)
  have hl : lv_has ls 4 [(0, .ref o0), (1, .int x1), (2, .int x2)] := hl
  rw [f_X3_take] at hf
  refine lv_aload_n S.1 S.2.1 dX3_take_0 rfl (lv_at hl 0 rfl) ?_
  obtain ⟨u_1, e_u_1, hf⟩ := ob hf
  refine k_X3_signHere S (S.2.2.2.2.wd wd371 rfl) hw e_u_1 [0] rfl (by decide) rfl ⟨rfl, rfl, Nat.le_of_ble_eq_true rfl, Nat.le_of_ble_eq_true rfl⟩ hl.1 (Nat.le_of_ble_eq_true rfl) dX3_take_1 ⟨Nat.zero_le _, Nat.zero_le _⟩ (fun H locs hw => ?_)
  have hw : PW D A s.heap [pX3 cy o0 q0 σ0] H locs := hw
  refine lv_iload_n S.1 S.2.1 dX3_take_4 rfl (lv_at hl 1 rfl) ?_
  refine lv_isub S.1 S.2.1 dX3_take_5 ?_
  refine lv_istore_n (lv' := [(3, .int ((u_1 - x1))), (0, .ref o0), (1, .int x1), (2, .int x2)]) S.1 S.2.1 dX3_take_6 rfl hl (by decide) rfl (fun ls hl => ?_)
  refine lv_iload_n S.1 S.2.1 dX3_take_7 rfl (lv_at hl 0 rfl) ?_
  refine lv_if_lt (tgt := 16) S.1 S.2.1 dX3_take_8 (by decide) (fun c_2 => ?_) (fun c_2 => ?_)
  · replace hf := (if_pos c_2).symm.trans hf
    refine lv_bipush (v := (-6)) S.1 S.2.1 dX3_take_16 (by decide) ?_
    cases hf
    exact w_iret S hr hlk hA hQ hw dX3_take_18
  · replace hf := (if_neg c_2).symm.trans hf
    refine lv_iload_n S.1 S.2.1 dX3_take_11 rfl (lv_at hl 0 rfl) ?_
    refine lv_iload_n S.1 S.2.1 dX3_take_12 rfl (lv_at hl 3 rfl) ?_
    refine lv_icmp_lt (tgt := 19) S.1 S.2.1 dX3_take_13 (by decide) (fun c_3 => ?_) (fun c_3 => ?_)
    · replace hf := (if_pos c_3).symm.trans hf
      refine lv_aload_n S.1 S.2.1 dX3_take_19 rfl (lv_at hl 1 rfl) ?_
      refine lv_dup S.1 S.2.1 dX3_take_20 rfl ?_
      refine gf_X3_19 S hw 0 rfl dX3_take_21 ?_
      refine lv_iconst (v := 1) S.1 S.2.1 dX3_take_24 (by decide) ?_
      refine lv_iadd S.1 S.2.1 dX3_take_25 ?_
      obtain ⟨σ_4, e_σ_4, hf⟩ := ob hf
      refine pf_X3_19 S hw 0 rfl e_σ_4 dX3_take_26 (fun H locs hw => ?_)
      have hw : PW D A s.heap [pX3 cy o0 q0 σ_4] H locs := hw
      refine lv_iload_n S.1 S.2.1 dX3_take_29 rfl (lv_at hl 0 rfl) ?_
      cases hf
      exact w_iret S hr hlk hA hQ hw dX3_take_30
    · replace hf := (if_neg c_3).symm.trans hf
      refine lv_bipush (v := (-6)) S.1 S.2.1 dX3_take_16 (by decide) ?_
      cases hf
      exact w_iret S hr hlk hA hQ hw dX3_take_18
section
variable {p : Program} {l : Launch} {e : Env} {R : Room} {s : State} {m : MethodId} {args : Array Value} {below : List Frame} {meth : Method} {c : Code} {H : Heap} {locs : List Loc} {cells slots : Nat} {Q : State → Prop} {cc : ByteArray} {pc nL : Nat} {ls : Array Slot} {rest : List Value} {D : va_G} {cy : Nat → ClassId} {A : Nat → Prop} {H0 : Heap} {own : String} {Ps : List va_W}
set_option maxRecDepth 100000 in
theorem k_X3_take {o0 : Nat} {q0 : Nat → Nat} {x1 : Int32} {x2 : Int32} {σ0 : pStt} {u : Int32 × pStt} {index : Nat} (S : CX p m c cc nL s args own D cy) (hl : (Cond.methodLink own index yX3_take).before args s = true) (hw : PW D A H0 Ps H locs) (hf : f_X3_take x1 x2 σ0 = some u) (js : List Nat) (hC : js.map (fun j => Ps[j]?) = [some (pX3 cy o0 q0 σ0)]) (hnd : js.Nodup) (hlen : js.length = 1) (hR : RMok rmX3_take R 4) (hsize : ls.size = nL) (hrest : (rest.map fun v => v.category).sum ≤ 8) (hdg : decode cc pc = .ok (.invokevirtual index, 3)) (hcs : cells ≤ R.cells ∧ slots ≤ R.slots)
    (kk : ∀ (H1 : Heap) (locs1 : List Loc), PW D A H0 (setAll Ps js [pX3 cy o0 q0 u.2]) H1 locs1 → W p l e R s m args below meth c H1 locs1 cells slots Q (F0 m (pc + 3) ls (.int u.1 :: rest))) : W p l e R s m args below meth c H locs cells slots Q (F0 m pc ls (.int x2 :: .int x1 :: .ref o0 :: rest)) :=
  w_callV (n := 2) (ov := (some (.int u.1))) (As := [.int x1, .int x2]) (Cs := [pX3 cy o0 q0 σ0]) (Cs' := [pX3 cy o0 q0 u.2]) S hw (c_X3_take l D cy o0 q0 x1 x2 σ0 u hf) (MF.of S.2.2.2.2 wd370 wd75 (by decide)) (S.2.2.2.2.wd wd369 rfl) (S.2.2.2.2.wd wd0 rfl) hl hR js hC hnd hlen rfl rfl rfl rfl hsize rfl hrest hdg hcs kk
end
abbrev rmX3_readDeed : Room := { frames := 2, cells := 0, slots := 0, locals := 43 }
def f_X3_readDeed (σ0 : pStt) : Option (Int32 × pStt) := (f_X3_take 97 8 σ0).bind (fun u_1 => (some (sI u_1.2 4 u_1.1)).bind (fun σ_2 => if (σ_2.1 4) = (-6) then (f_X3_signHere σ_2).bind (fun u_4 => if u_4 = 33 then (f_X3_readLone 9 σ_2).bind (fun u_6 => (asB u_6.1).bind (fun b_7 => some (b_7, u_6.2))) else if u_4 = 36 then (f_X3_readLone 8 σ_2).bind (fun u_9 => (f_X3_take 48 8 u_9.2).bind (fun u_10 => (some (sI u_10.2 4 u_10.1)).bind (fun σ_11 => (if (σ_11.1 4) = (-6) then some 0 else some 1 : Option Int32).bind (fun v_12 => (asB v_12).bind (fun b_13 => some (b_13, σ_11)))))) else if u_4 = 40 then (f_X3_readLone 5 σ_2).bind (fun u_16 => (asB u_16.1).bind (fun b_17 => some (b_17, u_16.2))) else if u_4 = 41 then (f_X3_readLone 6 σ_2).bind (fun u_19 => (asB u_19.1).bind (fun b_20 => some (b_20, u_19.2))) else some (0, σ_2)) else (some (sI σ_2 2 7)).bind (fun σ_21 => some (1, σ_21))))
set_option maxHeartbeats 4000000 in
set_option maxRecDepth 100000 in
theorem c_X3_readDeed (l : Launch) (D : va_G) (cy : Nat → ClassId) (o0 : Nat) (q0 : Nat → Nat) (σ0 : pStt) (u : Int32 × pStt) (hf : f_X3_readDeed σ0 = some u) : CT l yX3_readDeed cX3_readDeed 1 (some .boolean) rmX3_readDeed D cy [.ref o0] [pX3 cy o0 q0 σ0] (some (.int u.1)) [pX3 cy o0 q0 u.2] := by
  refine CT.of (by decide) (Nat.le_of_ble_eq_true rfl) (fun p e s m args below meth c ls A Q hA hQ S hr hlk hl hw => ?_)
  have hl : lv_has ls 1 [(0, .ref o0)] := hl
  rw [f_X3_readDeed] at hf
  refine lv_aload_n S.1 S.2.1 dX3_readDeed_0 rfl (lv_at hl 0 rfl) ?_
  refine lv_aload_n S.1 S.2.1 dX3_readDeed_1 rfl (lv_at hl 0 rfl) ?_
  refine lv_bipush (v := 97) S.1 S.2.1 dX3_readDeed_2 (by decide) ?_
  refine lv_bipush (v := 8) S.1 S.2.1 dX3_readDeed_4 (by decide) ?_
  obtain ⟨u_1, e_u_1, hf⟩ := ob hf
  refine k_X3_take S (S.2.2.2.2.wd wd367 rfl) hw e_u_1 [0] rfl (by decide) rfl ⟨rfl, rfl, Nat.le_of_ble_eq_true rfl, Nat.le_of_ble_eq_true rfl⟩ hl.1 (Nat.le_of_ble_eq_true rfl) dX3_readDeed_6 ⟨Nat.zero_le _, Nat.zero_le _⟩ (fun H locs hw => ?_)
  have hw : PW D A s.heap [pX3 cy o0 q0 u_1.2] H locs := hw
  obtain ⟨σ_2, e_σ_2, hf⟩ := ob hf
  refine pf_X3_51 S hw 0 rfl e_σ_2 dX3_readDeed_9 (fun H locs hw => ?_)
  have hw : PW D A s.heap [pX3 cy o0 q0 σ_2] H locs := hw
  refine lv_aload_n S.1 S.2.1 dX3_readDeed_12 rfl (lv_at hl 0 rfl) ?_
  refine gf_X3_51 S hw 0 rfl dX3_readDeed_13 ?_
  refine lv_bipush (v := (-6)) S.1 S.2.1 dX3_readDeed_16 (by decide) ?_
  refine lv_icmp_eq (tgt := 29) S.1 S.2.1 dX3_readDeed_18 (by decide) (fun c_3 => ?_) (fun c_3 => ?_)
  · replace hf := (if_pos c_3).symm.trans hf
    refine lv_aload_n S.1 S.2.1 dX3_readDeed_29 rfl (lv_at hl 0 rfl) ?_
    obtain ⟨u_4, e_u_4, hf⟩ := ob hf
    refine k_X3_signHere S (S.2.2.2.2.wd wd371 rfl) hw e_u_4 [0] rfl (by decide) rfl ⟨rfl, rfl, Nat.le_of_ble_eq_true rfl, Nat.le_of_ble_eq_true rfl⟩ hl.1 (Nat.le_of_ble_eq_true rfl) dX3_readDeed_30 ⟨Nat.zero_le _, Nat.zero_le _⟩ (fun H locs hw => ?_)
    have hw : PW D A s.heap [pX3 cy o0 q0 σ_2] H locs := hw
    by_cases c_5 : u_4 = 33
    · replace hf := (if_pos c_5).symm.trans hf
      refine lv_tableIn (off := 64) (tgt := 97) S.1 S.2.1 dX3_readDeed_33 (by rw [c_5]; decide) (by rw [c_5]; decide) (by rw [c_5]; rfl) (by decide) ?_
      refine lv_aload_n S.1 S.2.1 dX3_readDeed_97 rfl (lv_at hl 0 rfl) ?_
      refine lv_bipush (v := 9) S.1 S.2.1 dX3_readDeed_98 (by decide) ?_
      obtain ⟨u_6, e_u_6, hf⟩ := ob hf
      refine k_X3_readLone S (S.2.2.2.2.wd wd379 rfl) hw e_u_6 [0] rfl (by decide) rfl ⟨rfl, rfl, Nat.le_of_ble_eq_true rfl, Nat.le_of_ble_eq_true rfl⟩ hl.1 (Nat.le_of_ble_eq_true rfl) dX3_readDeed_100 ⟨Nat.zero_le _, Nat.zero_le _⟩ (fun H locs hw => ?_)
      have hw : PW D A s.heap [pX3 cy o0 q0 u_6.2] H locs := hw
      obtain ⟨b_7, e_b_7, hf⟩ := ob hf
      obtain ⟨-, -, h_b_7⟩ := asB_inv e_b_7
      subst h_b_7
      cases hf
      exact w_zret S hr (asB_inv e_b_7).1 hlk hA hQ hw dX3_readDeed_103
    · replace hf := (if_neg c_5).symm.trans hf
      by_cases c_8 : u_4 = 36
      · replace hf := (if_pos c_8).symm.trans hf
        refine lv_tableIn (off := 71) (tgt := 104) S.1 S.2.1 dX3_readDeed_33 (by rw [c_8]; decide) (by rw [c_8]; decide) (by rw [c_8]; rfl) (by decide) ?_
        refine lv_aload_n S.1 S.2.1 dX3_readDeed_104 rfl (lv_at hl 0 rfl) ?_
        refine lv_bipush (v := 8) S.1 S.2.1 dX3_readDeed_105 (by decide) ?_
        obtain ⟨u_9, e_u_9, hf⟩ := ob hf
        refine k_X3_readLone S (S.2.2.2.2.wd wd379 rfl) hw e_u_9 [0] rfl (by decide) rfl ⟨rfl, rfl, Nat.le_of_ble_eq_true rfl, Nat.le_of_ble_eq_true rfl⟩ hl.1 (Nat.le_of_ble_eq_true rfl) dX3_readDeed_107 ⟨Nat.zero_le _, Nat.zero_le _⟩ (fun H locs hw => ?_)
        have hw : PW D A s.heap [pX3 cy o0 q0 u_9.2] H locs := hw
        refine lv_pop S.1 S.2.1 dX3_readDeed_110 rfl ?_
        refine lv_aload_n S.1 S.2.1 dX3_readDeed_111 rfl (lv_at hl 0 rfl) ?_
        refine lv_aload_n S.1 S.2.1 dX3_readDeed_112 rfl (lv_at hl 0 rfl) ?_
        refine lv_bipush (v := 48) S.1 S.2.1 dX3_readDeed_113 (by decide) ?_
        refine lv_bipush (v := 8) S.1 S.2.1 dX3_readDeed_115 (by decide) ?_
        obtain ⟨u_10, e_u_10, hf⟩ := ob hf
        refine k_X3_take S (S.2.2.2.2.wd wd367 rfl) hw e_u_10 [0] rfl (by decide) rfl ⟨rfl, rfl, Nat.le_of_ble_eq_true rfl, Nat.le_of_ble_eq_true rfl⟩ hl.1 (Nat.le_of_ble_eq_true rfl) dX3_readDeed_117 ⟨Nat.zero_le _, Nat.zero_le _⟩ (fun H locs hw => ?_)
        have hw : PW D A s.heap [pX3 cy o0 q0 u_10.2] H locs := hw
        obtain ⟨σ_11, e_σ_11, hf⟩ := ob hf
        refine pf_X3_51 S hw 0 rfl e_σ_11 dX3_readDeed_120 (fun H locs hw => ?_)
        have hw : PW D A s.heap [pX3 cy o0 q0 σ_11] H locs := hw
        refine lv_aload_n S.1 S.2.1 dX3_readDeed_123 rfl (lv_at hl 0 rfl) ?_
        refine gf_X3_51 S hw 0 rfl dX3_readDeed_124 ?_
        refine lv_bipush (v := (-6)) S.1 S.2.1 dX3_readDeed_127 (by decide) ?_
        obtain ⟨v_12, e_v_12, hf⟩ := ob hf
        have hJ_v_12 : ∀ (H : Heap) (locs : List Loc), PW D A s.heap [pX3 cy o0 q0 σ_11] H locs → W p l e rmX3_readDeed s m args below meth c H locs 0 0 Q (F0 m 137 ls [.int v_12]) := by
          intro H locs hw
          obtain ⟨b_13, e_b_13, hf⟩ := ob hf
          obtain ⟨-, -, h_b_13⟩ := asB_inv e_b_13
          subst h_b_13
          cases hf
          exact w_zret S hr (asB_inv e_b_13).1 hlk hA hQ hw dX3_readDeed_137
        replace hf := e_v_12
        clear e_v_12
        refine lv_icmp_eq (tgt := 136) S.1 S.2.1 dX3_readDeed_129 (by decide) (fun c_14 => ?_) (fun c_14 => ?_)
        · replace hf := (if_pos c_14).symm.trans hf
          refine lv_iconst (v := 0) S.1 S.2.1 dX3_readDeed_136 (by decide) ?_
          cases hf
          exact hJ_v_12 _ _ hw
        · replace hf := (if_neg c_14).symm.trans hf
          refine lv_iconst (v := 1) S.1 S.2.1 dX3_readDeed_132 (by decide) ?_
          refine lv_goto (tgt := 137) S.1 S.2.1 dX3_readDeed_133 (by decide) ?_
          cases hf
          exact hJ_v_12 _ _ hw
      · replace hf := (if_neg c_8).symm.trans hf
        by_cases c_15 : u_4 = 40
        · replace hf := (if_pos c_15).symm.trans hf
          refine lv_tableIn (off := 51) (tgt := 84) S.1 S.2.1 dX3_readDeed_33 (by rw [c_15]; decide) (by rw [c_15]; decide) (by rw [c_15]; rfl) (by decide) ?_
          refine lv_aload_n S.1 S.2.1 dX3_readDeed_84 rfl (lv_at hl 0 rfl) ?_
          refine lv_iconst (v := 5) S.1 S.2.1 dX3_readDeed_85 (by decide) ?_
          obtain ⟨u_16, e_u_16, hf⟩ := ob hf
          refine k_X3_readLone S (S.2.2.2.2.wd wd379 rfl) hw e_u_16 [0] rfl (by decide) rfl ⟨rfl, rfl, Nat.le_of_ble_eq_true rfl, Nat.le_of_ble_eq_true rfl⟩ hl.1 (Nat.le_of_ble_eq_true rfl) dX3_readDeed_86 ⟨Nat.zero_le _, Nat.zero_le _⟩ (fun H locs hw => ?_)
          have hw : PW D A s.heap [pX3 cy o0 q0 u_16.2] H locs := hw
          obtain ⟨b_17, e_b_17, hf⟩ := ob hf
          obtain ⟨-, -, h_b_17⟩ := asB_inv e_b_17
          subst h_b_17
          cases hf
          exact w_zret S hr (asB_inv e_b_17).1 hlk hA hQ hw dX3_readDeed_89
        · replace hf := (if_neg c_15).symm.trans hf
          by_cases c_18 : u_4 = 41
          · replace hf := (if_pos c_18).symm.trans hf
            refine lv_tableIn (off := 57) (tgt := 90) S.1 S.2.1 dX3_readDeed_33 (by rw [c_18]; decide) (by rw [c_18]; decide) (by rw [c_18]; rfl) (by decide) ?_
            refine lv_aload_n S.1 S.2.1 dX3_readDeed_90 rfl (lv_at hl 0 rfl) ?_
            refine lv_bipush (v := 6) S.1 S.2.1 dX3_readDeed_91 (by decide) ?_
            obtain ⟨u_19, e_u_19, hf⟩ := ob hf
            refine k_X3_readLone S (S.2.2.2.2.wd wd379 rfl) hw e_u_19 [0] rfl (by decide) rfl ⟨rfl, rfl, Nat.le_of_ble_eq_true rfl, Nat.le_of_ble_eq_true rfl⟩ hl.1 (Nat.le_of_ble_eq_true rfl) dX3_readDeed_93 ⟨Nat.zero_le _, Nat.zero_le _⟩ (fun H locs hw => ?_)
            have hw : PW D A s.heap [pX3 cy o0 q0 u_19.2] H locs := hw
            obtain ⟨b_20, e_b_20, hf⟩ := ob hf
            obtain ⟨-, -, h_b_20⟩ := asB_inv e_b_20
            subst h_b_20
            cases hf
            exact w_zret S hr (asB_inv e_b_20).1 hlk hA hQ hw dX3_readDeed_96
          · replace hf := (if_neg c_18).symm.trans hf
            have t_c_5 := ne_toInt (k := 33) c_5 (by decide)
            have t_c_8 := ne_toInt (k := 36) c_8 (by decide)
            have t_c_15 := ne_toInt (k := 40) c_15 (by decide)
            have t_c_18 := ne_toInt (k := 41) c_18 (by decide)
            refine w_tabD (tgt := 138) S.1 S.2.1 dX3_readDeed_33 ?_ (by decide) ?_
            · by_cases hh : (u_4 : Int32).toInt < 33 ∨ 41 < (u_4 : Int32).toInt
              · exact Or.inl hh
              · refine Or.inr ⟨by omega, by omega, ?_⟩
                have h3 : (u_4 : Int32).toInt = 34 ∨ (u_4 : Int32).toInt = 35 ∨ (u_4 : Int32).toInt = 37 ∨ (u_4 : Int32).toInt = 38 ∨ (u_4 : Int32).toInt = 39 := by omega
                rcases h3 with e3 | e3 | e3 | e3 | e3 <;> (rw [e3]; rfl)
            ·
              refine lv_iconst (v := 0) S.1 S.2.1 dX3_readDeed_138 (by decide) ?_
              cases hf
              exact w_zret S hr rfl hlk hA hQ hw dX3_readDeed_139
  · replace hf := (if_neg c_3).symm.trans hf
    refine lv_aload_n S.1 S.2.1 dX3_readDeed_21 rfl (lv_at hl 0 rfl) ?_
    refine lv_bipush (v := 7) S.1 S.2.1 dX3_readDeed_22 (by decide) ?_
    obtain ⟨σ_21, e_σ_21, hf⟩ := ob hf
    refine pf_X3_54 S hw 0 rfl e_σ_21 dX3_readDeed_24 (fun H locs hw => ?_)
    have hw : PW D A s.heap [pX3 cy o0 q0 σ_21] H locs := hw
    refine lv_iconst (v := 1) S.1 S.2.1 dX3_readDeed_27 (by decide) ?_
    cases hf
    exact w_zret S hr rfl hlk hA hQ hw dX3_readDeed_28
section
variable {p : Program} {l : Launch} {e : Env} {R : Room} {s : State} {m : MethodId} {args : Array Value} {below : List Frame} {meth : Method} {c : Code} {H : Heap} {locs : List Loc} {cells slots : Nat} {Q : State → Prop} {cc : ByteArray} {pc nL : Nat} {ls : Array Slot} {rest : List Value} {D : va_G} {cy : Nat → ClassId} {A : Nat → Prop} {H0 : Heap} {own : String} {Ps : List va_W}
set_option maxRecDepth 100000 in
theorem k_X3_readDeed {o0 : Nat} {q0 : Nat → Nat}  {σ0 : pStt} {u : Int32 × pStt} {index : Nat} (S : CX p m c cc nL s args own D cy) (hl : (Cond.methodLink own index yX3_readDeed).before args s = true) (hw : PW D A H0 Ps H locs) (hf : f_X3_readDeed σ0 = some u) (js : List Nat) (hC : js.map (fun j => Ps[j]?) = [some (pX3 cy o0 q0 σ0)]) (hnd : js.Nodup) (hlen : js.length = 1) (hR : RMok rmX3_readDeed R 1) (hsize : ls.size = nL) (hrest : (rest.map fun v => v.category).sum ≤ 8) (hdg : decode cc pc = .ok (.invokevirtual index, 3)) (hcs : cells ≤ R.cells ∧ slots ≤ R.slots)
    (kk : ∀ (H1 : Heap) (locs1 : List Loc), PW D A H0 (setAll Ps js [pX3 cy o0 q0 u.2]) H1 locs1 → W p l e R s m args below meth c H1 locs1 cells slots Q (F0 m (pc + 3) ls (.int u.1 :: rest))) : W p l e R s m args below meth c H locs cells slots Q (F0 m pc ls (.ref o0 :: rest)) :=
  w_callV (n := 0) (ov := (some (.int u.1))) (As := []) (Cs := [pX3 cy o0 q0 σ0]) (Cs' := [pX3 cy o0 q0 u.2]) S hw (c_X3_readDeed l D cy o0 q0 σ0 u hf) (MF.of S.2.2.2.2 wd378 wd75 (by decide)) (S.2.2.2.2.wd wd377 rfl) (S.2.2.2.2.wd wd2 rfl) hl hR js hC hnd hlen rfl rfl rfl rfl hsize rfl hrest hdg hcs kk
end
abbrev rmX3_readPair : Room := { frames := 2, cells := 0, slots := 0, locals := 43 }
def f_X3_readPair (x1 : Int32) (x2 : Int32) (x3 : Int32) (σ0 : pStt) : Option (Int32 × pStt) := (f_X3_readLone x1 σ0).bind (fun u_1 => (f_X3_take x2 x3 u_1.2).bind (fun u_2 => (some (sI u_2.2 3 u_2.1)).bind (fun σ_3 => if (σ_3.1 3) = (-6) then some (0, σ_3) else (f_X3_take 97 8 σ_3).bind (fun u_5 => (some (sI u_5.2 4 u_5.1)).bind (fun σ_6 => (if (σ_6.1 4) = (-6) then some 0 else some 1 : Option Int32).bind (fun v_7 => (asB v_7).bind (fun b_8 => some (b_8, σ_6))))))))
set_option maxHeartbeats 4000000 in
set_option maxRecDepth 100000 in
theorem c_X3_readPair (l : Launch) (D : va_G) (cy : Nat → ClassId) (o0 : Nat) (q0 : Nat → Nat) (x1 : Int32) (x2 : Int32) (x3 : Int32) (σ0 : pStt) (u : Int32 × pStt) (hf : f_X3_readPair x1 x2 x3 σ0 = some u) : CT l yX3_readPair cX3_readPair 4 (some .boolean) rmX3_readPair D cy [.ref o0, .int x1, .int x2, .int x3] [pX3 cy o0 q0 σ0] (some (.int u.1)) [pX3 cy o0 q0 u.2] := by
  refine CT.of (by decide) (Nat.le_of_ble_eq_true rfl) (fun p e s m args below meth c ls A Q hA hQ S hr hlk hl hw => ?_)
  have hl : lv_has ls 4 [(0, .ref o0), (1, .int x1), (2, .int x2), (3, .int x3)] := hl
  rw [f_X3_readPair] at hf
  refine lv_aload_n S.1 S.2.1 dX3_readPair_0 rfl (lv_at hl 0 rfl) ?_
  refine lv_iload_n S.1 S.2.1 dX3_readPair_1 rfl (lv_at hl 1 rfl) ?_
  obtain ⟨u_1, e_u_1, hf⟩ := ob hf
  refine k_X3_readLone S (S.2.2.2.2.wd wd379 rfl) hw e_u_1 [0] rfl (by decide) rfl ⟨rfl, rfl, Nat.le_of_ble_eq_true rfl, Nat.le_of_ble_eq_true rfl⟩ hl.1 (Nat.le_of_ble_eq_true rfl) dX3_readPair_2 ⟨Nat.zero_le _, Nat.zero_le _⟩ (fun H locs hw => ?_)
  have hw : PW D A s.heap [pX3 cy o0 q0 u_1.2] H locs := hw
  refine lv_pop S.1 S.2.1 dX3_readPair_5 rfl ?_
  refine lv_aload_n S.1 S.2.1 dX3_readPair_6 rfl (lv_at hl 0 rfl) ?_
  refine lv_aload_n S.1 S.2.1 dX3_readPair_7 rfl (lv_at hl 0 rfl) ?_
  refine lv_iload_n S.1 S.2.1 dX3_readPair_8 rfl (lv_at hl 2 rfl) ?_
  refine lv_iload_n S.1 S.2.1 dX3_readPair_9 rfl (lv_at hl 3 rfl) ?_
  obtain ⟨u_2, e_u_2, hf⟩ := ob hf
  refine k_X3_take S (S.2.2.2.2.wd wd367 rfl) hw e_u_2 [0] rfl (by decide) rfl ⟨rfl, rfl, Nat.le_of_ble_eq_true rfl, Nat.le_of_ble_eq_true rfl⟩ hl.1 (Nat.le_of_ble_eq_true rfl) dX3_readPair_10 ⟨Nat.zero_le _, Nat.zero_le _⟩ (fun H locs hw => ?_)
  have hw : PW D A s.heap [pX3 cy o0 q0 u_2.2] H locs := hw
  obtain ⟨σ_3, e_σ_3, hf⟩ := ob hf
  refine pf_X3_33 S hw 0 rfl e_σ_3 dX3_readPair_13 (fun H locs hw => ?_)
  have hw : PW D A s.heap [pX3 cy o0 q0 σ_3] H locs := hw
  refine lv_aload_n S.1 S.2.1 dX3_readPair_16 rfl (lv_at hl 0 rfl) ?_
  refine gf_X3_33 S hw 0 rfl dX3_readPair_17 ?_
  refine lv_bipush (v := (-6)) S.1 S.2.1 dX3_readPair_20 (by decide) ?_
  refine lv_icmp_ne (tgt := 27) S.1 S.2.1 dX3_readPair_22 (by decide) (fun c_4 => ?_) (fun c_4 => ?_)
  · replace hf := (if_neg c_4).symm.trans hf
    refine lv_aload_n S.1 S.2.1 dX3_readPair_27 rfl (lv_at hl 0 rfl) ?_
    refine lv_aload_n S.1 S.2.1 dX3_readPair_28 rfl (lv_at hl 0 rfl) ?_
    refine lv_bipush (v := 97) S.1 S.2.1 dX3_readPair_29 (by decide) ?_
    refine lv_bipush (v := 8) S.1 S.2.1 dX3_readPair_31 (by decide) ?_
    obtain ⟨u_5, e_u_5, hf⟩ := ob hf
    refine k_X3_take S (S.2.2.2.2.wd wd367 rfl) hw e_u_5 [0] rfl (by decide) rfl ⟨rfl, rfl, Nat.le_of_ble_eq_true rfl, Nat.le_of_ble_eq_true rfl⟩ hl.1 (Nat.le_of_ble_eq_true rfl) dX3_readPair_33 ⟨Nat.zero_le _, Nat.zero_le _⟩ (fun H locs hw => ?_)
    have hw : PW D A s.heap [pX3 cy o0 q0 u_5.2] H locs := hw
    obtain ⟨σ_6, e_σ_6, hf⟩ := ob hf
    refine pf_X3_51 S hw 0 rfl e_σ_6 dX3_readPair_36 (fun H locs hw => ?_)
    have hw : PW D A s.heap [pX3 cy o0 q0 σ_6] H locs := hw
    refine lv_aload_n S.1 S.2.1 dX3_readPair_39 rfl (lv_at hl 0 rfl) ?_
    refine gf_X3_51 S hw 0 rfl dX3_readPair_40 ?_
    refine lv_bipush (v := (-6)) S.1 S.2.1 dX3_readPair_43 (by decide) ?_
    obtain ⟨v_7, e_v_7, hf⟩ := ob hf
    have hJ_v_7 : ∀ (H : Heap) (locs : List Loc), PW D A s.heap [pX3 cy o0 q0 σ_6] H locs → W p l e rmX3_readPair s m args below meth c H locs 0 0 Q (F0 m 53 ls [.int v_7]) := by
      intro H locs hw
      obtain ⟨b_8, e_b_8, hf⟩ := ob hf
      obtain ⟨-, -, h_b_8⟩ := asB_inv e_b_8
      subst h_b_8
      cases hf
      exact w_zret S hr (asB_inv e_b_8).1 hlk hA hQ hw dX3_readPair_53
    replace hf := e_v_7
    clear e_v_7
    refine lv_icmp_eq (tgt := 52) S.1 S.2.1 dX3_readPair_45 (by decide) (fun c_9 => ?_) (fun c_9 => ?_)
    · replace hf := (if_pos c_9).symm.trans hf
      refine lv_iconst (v := 0) S.1 S.2.1 dX3_readPair_52 (by decide) ?_
      cases hf
      exact hJ_v_7 _ _ hw
    · replace hf := (if_neg c_9).symm.trans hf
      refine lv_iconst (v := 1) S.1 S.2.1 dX3_readPair_48 (by decide) ?_
      refine lv_goto (tgt := 53) S.1 S.2.1 dX3_readPair_49 (by decide) ?_
      cases hf
      exact hJ_v_7 _ _ hw
  · replace hf := (if_pos c_4).symm.trans hf
    refine lv_iconst (v := 0) S.1 S.2.1 dX3_readPair_25 (by decide) ?_
    cases hf
    exact w_zret S hr rfl hlk hA hQ hw dX3_readPair_26
section
variable {p : Program} {l : Launch} {e : Env} {R : Room} {s : State} {m : MethodId} {args : Array Value} {below : List Frame} {meth : Method} {c : Code} {H : Heap} {locs : List Loc} {cells slots : Nat} {Q : State → Prop} {cc : ByteArray} {pc nL : Nat} {ls : Array Slot} {rest : List Value} {D : va_G} {cy : Nat → ClassId} {A : Nat → Prop} {H0 : Heap} {own : String} {Ps : List va_W}
set_option maxRecDepth 100000 in
theorem k_X3_readPair {o0 : Nat} {q0 : Nat → Nat} {x1 : Int32} {x2 : Int32} {x3 : Int32} {σ0 : pStt} {u : Int32 × pStt} {index : Nat} (S : CX p m c cc nL s args own D cy) (hl : (Cond.methodLink own index yX3_readPair).before args s = true) (hw : PW D A H0 Ps H locs) (hf : f_X3_readPair x1 x2 x3 σ0 = some u) (js : List Nat) (hC : js.map (fun j => Ps[j]?) = [some (pX3 cy o0 q0 σ0)]) (hnd : js.Nodup) (hlen : js.length = 1) (hR : RMok rmX3_readPair R 4) (hsize : ls.size = nL) (hrest : (rest.map fun v => v.category).sum ≤ 8) (hdg : decode cc pc = .ok (.invokevirtual index, 3)) (hcs : cells ≤ R.cells ∧ slots ≤ R.slots)
    (kk : ∀ (H1 : Heap) (locs1 : List Loc), PW D A H0 (setAll Ps js [pX3 cy o0 q0 u.2]) H1 locs1 → W p l e R s m args below meth c H1 locs1 cells slots Q (F0 m (pc + 3) ls (.int u.1 :: rest))) : W p l e R s m args below meth c H locs cells slots Q (F0 m pc ls (.int x3 :: .int x2 :: .int x1 :: .ref o0 :: rest)) :=
  w_callV (n := 3) (ov := (some (.int u.1))) (As := [.int x1, .int x2, .int x3]) (Cs := [pX3 cy o0 q0 σ0]) (Cs' := [pX3 cy o0 q0 u.2]) S hw (c_X3_readPair l D cy o0 q0 x1 x2 x3 σ0 u hf) (MF.of S.2.2.2.2 wd386 wd75 (by decide)) (S.2.2.2.2.wd wd385 rfl) (S.2.2.2.2.wd wd4 rfl) hl hR js hC hnd hlen rfl rfl rfl rfl hsize rfl hrest hdg hcs kk
end
abbrev rmX3_readAct : Room := { frames := 3, cells := 0, slots := 0, locals := 66 }
def f_X3_readAct (σ0 : pStt) : Option (Int32 × pStt) := (f_X3_take 65 6 σ0).bind (fun u_1 => (some (sI u_1.2 3 u_1.1)).bind (fun σ_2 => if (σ_2.1 3) = (-6) then (f_X3_signHere σ_2).bind (fun u_4 => if u_4 = 46 then (f_X3_readLone 4 σ_2).bind (fun u_6 => (asB u_6.1).bind (fun b_7 => some (b_7, u_6.2))) else if u_4 = 112 then (f_X3_readLone 3 σ_2).bind (fun u_9 => (asB u_9.1).bind (fun b_10 => some (b_10, u_9.2))) else if u_4 = 116 then (f_X3_readPair 2 48 8 σ_2).bind (fun u_12 => (asB u_12.1).bind (fun b_13 => some (b_13, u_12.2))) else if u_4 = 119 then (f_X3_readPair 0 97 8 σ_2).bind (fun u_15 => (asB u_15.1).bind (fun b_16 => some (b_16, u_15.2))) else if u_4 = 120 then (f_X3_readPair 1 97 8 σ_2).bind (fun u_18 => (asB u_18.1).bind (fun b_19 => some (b_19, u_18.2))) else some (0, σ_2)) else (f_X3_readDeed σ_2).bind (fun u_20 => (asB u_20.1).bind (fun b_21 => some (b_21, u_20.2)))))
set_option maxHeartbeats 4000000 in
set_option maxRecDepth 100000 in
theorem c_X3_readAct (l : Launch) (D : va_G) (cy : Nat → ClassId) (o0 : Nat) (q0 : Nat → Nat) (σ0 : pStt) (u : Int32 × pStt) (hf : f_X3_readAct σ0 = some u) : CT l yX3_readAct cX3_readAct 1 (some .boolean) rmX3_readAct D cy [.ref o0] [pX3 cy o0 q0 σ0] (some (.int u.1)) [pX3 cy o0 q0 u.2] := by
  refine CT.of (by decide) (Nat.le_of_ble_eq_true rfl) (fun p e s m args below meth c ls A Q hA hQ S hr hlk hl hw => ?_)
  have hl : lv_has ls 1 [(0, .ref o0)] := hl
  rw [f_X3_readAct] at hf
  refine lv_aload_n S.1 S.2.1 dX3_readAct_0 rfl (lv_at hl 0 rfl) ?_
  refine lv_aload_n S.1 S.2.1 dX3_readAct_1 rfl (lv_at hl 0 rfl) ?_
  refine lv_bipush (v := 65) S.1 S.2.1 dX3_readAct_2 (by decide) ?_
  refine lv_bipush (v := 6) S.1 S.2.1 dX3_readAct_4 (by decide) ?_
  obtain ⟨u_1, e_u_1, hf⟩ := ob hf
  refine k_X3_take S (S.2.2.2.2.wd wd367 rfl) hw e_u_1 [0] rfl (by decide) rfl ⟨rfl, rfl, Nat.le_of_ble_eq_true rfl, Nat.le_of_ble_eq_true rfl⟩ hl.1 (Nat.le_of_ble_eq_true rfl) dX3_readAct_6 ⟨Nat.zero_le _, Nat.zero_le _⟩ (fun H locs hw => ?_)
  have hw : PW D A s.heap [pX3 cy o0 q0 u_1.2] H locs := hw
  obtain ⟨σ_2, e_σ_2, hf⟩ := ob hf
  refine pf_X3_33 S hw 0 rfl e_σ_2 dX3_readAct_9 (fun H locs hw => ?_)
  have hw : PW D A s.heap [pX3 cy o0 q0 σ_2] H locs := hw
  refine lv_aload_n S.1 S.2.1 dX3_readAct_12 rfl (lv_at hl 0 rfl) ?_
  refine gf_X3_33 S hw 0 rfl dX3_readAct_13 ?_
  refine lv_bipush (v := (-6)) S.1 S.2.1 dX3_readAct_16 (by decide) ?_
  refine lv_icmp_eq (tgt := 26) S.1 S.2.1 dX3_readAct_18 (by decide) (fun c_3 => ?_) (fun c_3 => ?_)
  · replace hf := (if_pos c_3).symm.trans hf
    refine lv_aload_n S.1 S.2.1 dX3_readAct_26 rfl (lv_at hl 0 rfl) ?_
    obtain ⟨u_4, e_u_4, hf⟩ := ob hf
    refine k_X3_signHere S (S.2.2.2.2.wd wd371 rfl) hw e_u_4 [0] rfl (by decide) rfl ⟨rfl, rfl, Nat.le_of_ble_eq_true rfl, Nat.le_of_ble_eq_true rfl⟩ hl.1 (Nat.le_of_ble_eq_true rfl) dX3_readAct_27 ⟨Nat.zero_le _, Nat.zero_le _⟩ (fun H locs hw => ?_)
    have hw : PW D A s.heap [pX3 cy o0 q0 σ_2] H locs := hw
    by_cases c_5 : u_4 = 46
    · replace hf := (if_pos c_5).symm.trans hf
      refine lv_lookup (off := 86) (tgt := 116) S.1 S.2.1 dX3_readAct_30 (by decide) (by rw [c_5]; rfl) (by decide) ?_
      refine lv_aload_n S.1 S.2.1 dX3_readAct_116 rfl (lv_at hl 0 rfl) ?_
      refine lv_iconst (v := 4) S.1 S.2.1 dX3_readAct_117 (by decide) ?_
      obtain ⟨u_6, e_u_6, hf⟩ := ob hf
      refine k_X3_readLone S (S.2.2.2.2.wd wd379 rfl) hw e_u_6 [0] rfl (by decide) rfl ⟨rfl, rfl, Nat.le_of_ble_eq_true rfl, Nat.le_of_ble_eq_true rfl⟩ hl.1 (Nat.le_of_ble_eq_true rfl) dX3_readAct_118 ⟨Nat.zero_le _, Nat.zero_le _⟩ (fun H locs hw => ?_)
      have hw : PW D A s.heap [pX3 cy o0 q0 u_6.2] H locs := hw
      obtain ⟨b_7, e_b_7, hf⟩ := ob hf
      obtain ⟨-, -, h_b_7⟩ := asB_inv e_b_7
      subst h_b_7
      cases hf
      exact w_zret S hr (asB_inv e_b_7).1 hlk hA hQ hw dX3_readAct_121
    · replace hf := (if_neg c_5).symm.trans hf
      by_cases c_8 : u_4 = 112
      · replace hf := (if_pos c_8).symm.trans hf
        refine lv_lookup (off := 80) (tgt := 110) S.1 S.2.1 dX3_readAct_30 (by decide) (by rw [c_8]; rfl) (by decide) ?_
        refine lv_aload_n S.1 S.2.1 dX3_readAct_110 rfl (lv_at hl 0 rfl) ?_
        refine lv_iconst (v := 3) S.1 S.2.1 dX3_readAct_111 (by decide) ?_
        obtain ⟨u_9, e_u_9, hf⟩ := ob hf
        refine k_X3_readLone S (S.2.2.2.2.wd wd379 rfl) hw e_u_9 [0] rfl (by decide) rfl ⟨rfl, rfl, Nat.le_of_ble_eq_true rfl, Nat.le_of_ble_eq_true rfl⟩ hl.1 (Nat.le_of_ble_eq_true rfl) dX3_readAct_112 ⟨Nat.zero_le _, Nat.zero_le _⟩ (fun H locs hw => ?_)
        have hw : PW D A s.heap [pX3 cy o0 q0 u_9.2] H locs := hw
        obtain ⟨b_10, e_b_10, hf⟩ := ob hf
        obtain ⟨-, -, h_b_10⟩ := asB_inv e_b_10
        subst h_b_10
        cases hf
        exact w_zret S hr (asB_inv e_b_10).1 hlk hA hQ hw dX3_readAct_115
      · replace hf := (if_neg c_8).symm.trans hf
        by_cases c_11 : u_4 = 116
        · replace hf := (if_pos c_11).symm.trans hf
          refine lv_lookup (off := 70) (tgt := 100) S.1 S.2.1 dX3_readAct_30 (by decide) (by rw [c_11]; rfl) (by decide) ?_
          refine lv_aload_n S.1 S.2.1 dX3_readAct_100 rfl (lv_at hl 0 rfl) ?_
          refine lv_iconst (v := 2) S.1 S.2.1 dX3_readAct_101 (by decide) ?_
          refine lv_bipush (v := 48) S.1 S.2.1 dX3_readAct_102 (by decide) ?_
          refine lv_bipush (v := 8) S.1 S.2.1 dX3_readAct_104 (by decide) ?_
          obtain ⟨u_12, e_u_12, hf⟩ := ob hf
          refine k_X3_readPair S (S.2.2.2.2.wd wd383 rfl) hw e_u_12 [0] rfl (by decide) rfl ⟨rfl, rfl, Nat.le_of_ble_eq_true rfl, Nat.le_of_ble_eq_true rfl⟩ hl.1 (Nat.le_of_ble_eq_true rfl) dX3_readAct_106 ⟨Nat.zero_le _, Nat.zero_le _⟩ (fun H locs hw => ?_)
          have hw : PW D A s.heap [pX3 cy o0 q0 u_12.2] H locs := hw
          obtain ⟨b_13, e_b_13, hf⟩ := ob hf
          obtain ⟨-, -, h_b_13⟩ := asB_inv e_b_13
          subst h_b_13
          cases hf
          exact w_zret S hr (asB_inv e_b_13).1 hlk hA hQ hw dX3_readAct_109
        · replace hf := (if_neg c_11).symm.trans hf
          by_cases c_14 : u_4 = 119
          · replace hf := (if_pos c_14).symm.trans hf
            refine lv_lookup (off := 50) (tgt := 80) S.1 S.2.1 dX3_readAct_30 (by decide) (by rw [c_14]; rfl) (by decide) ?_
            refine lv_aload_n S.1 S.2.1 dX3_readAct_80 rfl (lv_at hl 0 rfl) ?_
            refine lv_iconst (v := 0) S.1 S.2.1 dX3_readAct_81 (by decide) ?_
            refine lv_bipush (v := 97) S.1 S.2.1 dX3_readAct_82 (by decide) ?_
            refine lv_bipush (v := 8) S.1 S.2.1 dX3_readAct_84 (by decide) ?_
            obtain ⟨u_15, e_u_15, hf⟩ := ob hf
            refine k_X3_readPair S (S.2.2.2.2.wd wd383 rfl) hw e_u_15 [0] rfl (by decide) rfl ⟨rfl, rfl, Nat.le_of_ble_eq_true rfl, Nat.le_of_ble_eq_true rfl⟩ hl.1 (Nat.le_of_ble_eq_true rfl) dX3_readAct_86 ⟨Nat.zero_le _, Nat.zero_le _⟩ (fun H locs hw => ?_)
            have hw : PW D A s.heap [pX3 cy o0 q0 u_15.2] H locs := hw
            obtain ⟨b_16, e_b_16, hf⟩ := ob hf
            obtain ⟨-, -, h_b_16⟩ := asB_inv e_b_16
            subst h_b_16
            cases hf
            exact w_zret S hr (asB_inv e_b_16).1 hlk hA hQ hw dX3_readAct_89
          · replace hf := (if_neg c_14).symm.trans hf
            by_cases c_17 : u_4 = 120
            · replace hf := (if_pos c_17).symm.trans hf
              refine lv_lookup (off := 60) (tgt := 90) S.1 S.2.1 dX3_readAct_30 (by decide) (by rw [c_17]; rfl) (by decide) ?_
              refine lv_aload_n S.1 S.2.1 dX3_readAct_90 rfl (lv_at hl 0 rfl) ?_
              refine lv_iconst (v := 1) S.1 S.2.1 dX3_readAct_91 (by decide) ?_
              refine lv_bipush (v := 97) S.1 S.2.1 dX3_readAct_92 (by decide) ?_
              refine lv_bipush (v := 8) S.1 S.2.1 dX3_readAct_94 (by decide) ?_
              obtain ⟨u_18, e_u_18, hf⟩ := ob hf
              refine k_X3_readPair S (S.2.2.2.2.wd wd383 rfl) hw e_u_18 [0] rfl (by decide) rfl ⟨rfl, rfl, Nat.le_of_ble_eq_true rfl, Nat.le_of_ble_eq_true rfl⟩ hl.1 (Nat.le_of_ble_eq_true rfl) dX3_readAct_96 ⟨Nat.zero_le _, Nat.zero_le _⟩ (fun H locs hw => ?_)
              have hw : PW D A s.heap [pX3 cy o0 q0 u_18.2] H locs := hw
              obtain ⟨b_19, e_b_19, hf⟩ := ob hf
              obtain ⟨-, -, h_b_19⟩ := asB_inv e_b_19
              subst h_b_19
              cases hf
              exact w_zret S hr (asB_inv e_b_19).1 hlk hA hQ hw dX3_readAct_99
            · replace hf := (if_neg c_17).symm.trans hf
              have t_c_5 := ne_toInt (k := 46) c_5 (by decide)
              have t_c_8 := ne_toInt (k := 112) c_8 (by decide)
              have t_c_11 := ne_toInt (k := 116) c_11 (by decide)
              have t_c_14 := ne_toInt (k := 119) c_14 (by decide)
              have t_c_17 := ne_toInt (k := 120) c_17 (by decide)
              refine lv_lookup (off := 92) (tgt := 122) S.1 S.2.1 dX3_readAct_30 (by decide) (by simp [Op.lookupswitch.offset, Ne.symm t_c_5, Ne.symm t_c_8, Ne.symm t_c_11, Ne.symm t_c_14, Ne.symm t_c_17]) (by decide) ?_
              refine lv_iconst (v := 0) S.1 S.2.1 dX3_readAct_122 (by decide) ?_
              cases hf
              exact w_zret S hr rfl hlk hA hQ hw dX3_readAct_123
  · replace hf := (if_neg c_3).symm.trans hf
    refine lv_aload_n S.1 S.2.1 dX3_readAct_21 rfl (lv_at hl 0 rfl) ?_
    obtain ⟨u_20, e_u_20, hf⟩ := ob hf
    refine k_X3_readDeed S (S.2.2.2.2.wd wd375 rfl) hw e_u_20 [0] rfl (by decide) rfl ⟨rfl, rfl, Nat.le_of_ble_eq_true rfl, Nat.le_of_ble_eq_true rfl⟩ hl.1 (Nat.le_of_ble_eq_true rfl) dX3_readAct_22 ⟨Nat.zero_le _, Nat.zero_le _⟩ (fun H locs hw => ?_)
    have hw : PW D A s.heap [pX3 cy o0 q0 u_20.2] H locs := hw
    obtain ⟨b_21, e_b_21, hf⟩ := ob hf
    obtain ⟨-, -, h_b_21⟩ := asB_inv e_b_21
    subst h_b_21
    cases hf
    exact w_zret S hr (asB_inv e_b_21).1 hlk hA hQ hw dX3_readAct_25
section
variable {p : Program} {l : Launch} {e : Env} {R : Room} {s : State} {m : MethodId} {args : Array Value} {below : List Frame} {meth : Method} {c : Code} {H : Heap} {locs : List Loc} {cells slots : Nat} {Q : State → Prop} {cc : ByteArray} {pc nL : Nat} {ls : Array Slot} {rest : List Value} {D : va_G} {cy : Nat → ClassId} {A : Nat → Prop} {H0 : Heap} {own : String} {Ps : List va_W}
set_option maxRecDepth 100000 in
theorem k_X3_readAct {o0 : Nat} {q0 : Nat → Nat}  {σ0 : pStt} {u : Int32 × pStt} {index : Nat} (S : CX p m c cc nL s args own D cy) (hl : (Cond.methodLink own index yX3_readAct).before args s = true) (hw : PW D A H0 Ps H locs) (hf : f_X3_readAct σ0 = some u) (js : List Nat) (hC : js.map (fun j => Ps[j]?) = [some (pX3 cy o0 q0 σ0)]) (hnd : js.Nodup) (hlen : js.length = 1) (hR : RMok rmX3_readAct R 1) (hsize : ls.size = nL) (hrest : (rest.map fun v => v.category).sum ≤ 8) (hdg : decode cc pc = .ok (.invokevirtual index, 3)) (hcs : cells ≤ R.cells ∧ slots ≤ R.slots)
    (kk : ∀ (H1 : Heap) (locs1 : List Loc), PW D A H0 (setAll Ps js [pX3 cy o0 q0 u.2]) H1 locs1 → W p l e R s m args below meth c H1 locs1 cells slots Q (F0 m (pc + 3) ls (.int u.1 :: rest))) : W p l e R s m args below meth c H locs cells slots Q (F0 m pc ls (.ref o0 :: rest)) :=
  w_callV (n := 0) (ov := (some (.int u.1))) (As := []) (Cs := [pX3 cy o0 q0 σ0]) (Cs' := [pX3 cy o0 q0 u.2]) S hw (c_X3_readAct l D cy o0 q0 σ0 u hf) (MF.of S.2.2.2.2 wd366 wd75 (by decide)) (S.2.2.2.2.wd wd364 rfl) (S.2.2.2.2.wd wd365 rfl) hl hR js hC hnd hlen rfl rfl rfl rfl hsize rfl hrest hdg hcs kk
end
abbrev rmX3_findFault : Room := { frames := 4, cells := 0, slots := 0, locals := 86 }
def fl_X3_findFault_6   : Nat → Int32 → pStt → Option ((pStt) ⊕ (pStt))
  | 0, _, _ => none
  | n + 1, y1, σ0 => if 60 ≤ y1 then some (.inr σ0) else if (σ0.1 0) ≤ (σ0.1 1) then some (.inr σ0) else (f_X3_readAct σ0).bind (fun u_4 => if u_4.1 = 0 then some (.inl u_4.2) else fl_X3_findFault_6 n ((y1 + 1)) u_4.2)
def f_X3_findFault (σ0 : pStt) : Option (Int32 × pStt) := (f_X3_rewind σ0).bind (fun u_1 => (fl_X3_findFault_6 2000 0 u_1).bind (fun u_6 => sm (fun a_7 => some ((a_7.1 1), a_7)) (fun a_8 => some ((-6), a_8)) u_6))
section
variable {p : Program} {l : Launch} {e : Env} {s : State} {m : MethodId} {args : Array Value} {below : List Frame} {meth : Method} {c : Code} {Q : State → Prop} {D : va_G} {cy : Nat → ClassId} {A : Nat → Prop} {H0 : Heap}
set_option maxHeartbeats 4000000 in
set_option maxRecDepth 100000 in
theorem lp_X3_findFault_6 (S : CX p m c cX3_findFault 2 s args RX3 D cy) {o0 : Nat} {q0 : Nat → Nat}   : ∀ (n : Nat) (y1 : Int32) (σ0 : pStt) (H : Heap) (locs : List Loc) (ls : Array Slot) (u : (pStt) ⊕ (pStt)), PW D A H0 [pX3 cy o0 q0 σ0] H locs → lv_has ls 2 [(0, .ref o0), (1, .int y1)] → fl_X3_findFault_6 n y1 σ0 = some u → (∀ a, u = .inl a → ∀ (H : Heap) (locs : List Loc) (ls : Array Slot), PW D A H0 [pX3 cy o0 q0 a] H locs → lv_has ls 2 [(0, .ref o0)] → W p l e rmX3_findFault s m args below meth c H locs 0 0 Q (F0 m 30 ls [])) → (∀ a, u = .inr a → ∀ (H : Heap) (locs : List Loc) (ls : Array Slot), PW D A H0 [pX3 cy o0 q0 a] H locs → lv_has ls 2 [] → W p l e rmX3_findFault s m args below meth c H locs 0 0 Q (F0 m 41 ls [])) → W p l e rmX3_findFault s m args below meth c H locs 0 0 Q (F0 m 6 ls []) := by
  intro n
  induction n with
  | zero =>
    intro y1 σ0 H locs ls u hw hl hf K0 K1
    rw [fl_X3_findFault_6] at hf
    cases hf
  | succ n ih =>
    intro y1 σ0 H locs ls u hw hl hf K0 K1
    rw [fl_X3_findFault_6] at hf
    refine lv_iload_n S.1 S.2.1 dX3_findFault_6 rfl (lv_at hl 1 rfl) ?_
    refine lv_bipush (v := 60) S.1 S.2.1 dX3_findFault_7 (by decide) ?_
    refine lv_icmp_ge (tgt := 41) S.1 S.2.1 dX3_findFault_9 (by decide) (fun c_2 => ?_) (fun c_2 => ?_)
    · replace hf := (if_pos c_2).symm.trans hf
      cases hf
      exact K1 _ rfl _ _ _ hw (lv_sub hl [] rfl)
    · replace hf := (if_neg c_2).symm.trans hf
      refine lv_aload_n S.1 S.2.1 dX3_findFault_12 rfl (lv_at hl 0 rfl) ?_
      refine gf_X3_19 S hw 0 rfl dX3_findFault_13 ?_
      refine lv_aload_n S.1 S.2.1 dX3_findFault_16 rfl (lv_at hl 0 rfl) ?_
      refine gf_X3_15 S hw 0 rfl dX3_findFault_17 ?_
      refine lv_icmp_ge (tgt := 41) S.1 S.2.1 dX3_findFault_20 (by decide) (fun c_3 => ?_) (fun c_3 => ?_)
      · replace hf := (if_pos c_3).symm.trans hf
        cases hf
        exact K1 _ rfl _ _ _ hw (lv_sub hl [] rfl)
      · replace hf := (if_neg c_3).symm.trans hf
        refine lv_aload_n S.1 S.2.1 dX3_findFault_23 rfl (lv_at hl 0 rfl) ?_
        obtain ⟨u_4, e_u_4, hf⟩ := ob hf
        refine k_X3_readAct S (S.2.2.2.2.wd wd363 rfl) hw e_u_4 [0] rfl (by decide) rfl ⟨rfl, rfl, Nat.le_of_ble_eq_true rfl, Nat.le_of_ble_eq_true rfl⟩ hl.1 (Nat.le_of_ble_eq_true rfl) dX3_findFault_24 ⟨Nat.zero_le _, Nat.zero_le _⟩ (fun H locs hw => ?_)
        have hw : PW D A H0 [pX3 cy o0 q0 u_4.2] H locs := hw
        refine lv_if_ne (tgt := 35) S.1 S.2.1 dX3_findFault_27 (by decide) (fun c_5 => ?_) (fun c_5 => ?_)
        · replace hf := (if_neg c_5).symm.trans hf
          refine lv_iinc (v := (y1 + 1)) (lv' := [(1, .int ((y1 + 1))), (0, .ref o0)]) S.1 S.2.1 dX3_findFault_35 hl (k := 1) rfl rfl (by decide) rfl (fun ls hl => ?_)
          refine lv_goto (tgt := 6) S.1 S.2.1 dX3_findFault_38 (by decide) ?_
          exact ih _ _ _ _ _ _ hw (lv_sub hl [1, 0] rfl) hf K0 K1
        · replace hf := (if_pos c_5).symm.trans hf
          cases hf
          exact K0 _ rfl _ _ _ hw (lv_sub hl [0] rfl)
end
set_option maxHeartbeats 4000000 in
set_option maxRecDepth 100000 in
theorem c_X3_findFault (l : Launch) (D : va_G) (cy : Nat → ClassId) (o0 : Nat) (q0 : Nat → Nat) (σ0 : pStt) (u : Int32 × pStt) (hf : f_X3_findFault σ0 = some u) : CT l yX3_findFault cX3_findFault 2 (some .int) rmX3_findFault D cy [.ref o0] [pX3 cy o0 q0 σ0] (some (.int u.1)) [pX3 cy o0 q0 u.2] := by
  refine CT.of (by decide) (Nat.le_of_ble_eq_true rfl) (fun p e s m args below meth c ls A Q hA hQ S hr hlk hl hw => ?_)
  have hl : lv_has ls 2 [(0, .ref o0)] := hl
  rw [f_X3_findFault] at hf
  refine lv_aload_n S.1 S.2.1 dX3_findFault_0 rfl (lv_at hl 0 rfl) ?_
  obtain ⟨u_1, e_u_1, hf⟩ := ob hf
  refine k_X3_rewind S (S.2.2.2.2.wd wd359 rfl) hw e_u_1 [0] rfl (by decide) rfl ⟨rfl, rfl, Nat.le_of_ble_eq_true rfl, Nat.le_of_ble_eq_true rfl⟩ hl.1 (Nat.le_of_ble_eq_true rfl) dX3_findFault_1 ⟨Nat.zero_le _, Nat.zero_le _⟩ (fun H locs hw => ?_)
  have hw : PW D A s.heap [pX3 cy o0 q0 u_1] H locs := hw
  refine lv_iconst (v := 0) S.1 S.2.1 dX3_findFault_4 (by decide) ?_
  refine lv_istore_n (lv' := [(1, .int 0), (0, .ref o0)]) S.1 S.2.1 dX3_findFault_5 rfl hl (by decide) rfl (fun ls hl => ?_)
  obtain ⟨u_6, e_u_6, hf⟩ := ob hf
  refine lp_X3_findFault_6 S 2000 _ _ _ _ _ _ hw (lv_sub hl [1, 0] rfl) e_u_6 ?_ ?_
  · intro a_7 h_a_7 H locs ls hw hl
    subst h_a_7
    replace hf := (sm_l _ _ _).symm.trans hf
    refine lv_aload_n S.1 S.2.1 dX3_findFault_30 rfl (lv_at hl 0 rfl) ?_
    refine gf_X3_19 S hw 0 rfl dX3_findFault_31 ?_
    cases hf
    exact w_iret S hr hlk hA hQ hw dX3_findFault_34
  · intro a_8 h_a_8 H locs ls hw hl
    subst h_a_8
    replace hf := (sm_r _ _ _).symm.trans hf
    refine lv_bipush (v := (-6)) S.1 S.2.1 dX3_findFault_41 (by decide) ?_
    cases hf
    exact w_iret S hr hlk hA hQ hw dX3_findFault_43
section
variable {p : Program} {l : Launch} {e : Env} {R : Room} {s : State} {m : MethodId} {args : Array Value} {below : List Frame} {meth : Method} {c : Code} {H : Heap} {locs : List Loc} {cells slots : Nat} {Q : State → Prop} {cc : ByteArray} {pc nL : Nat} {ls : Array Slot} {rest : List Value} {D : va_G} {cy : Nat → ClassId} {A : Nat → Prop} {H0 : Heap} {own : String} {Ps : List va_W}
set_option maxRecDepth 100000 in
theorem k_X3_findFault {o0 : Nat} {q0 : Nat → Nat}  {σ0 : pStt} {u : Int32 × pStt} {index : Nat} (S : CX p m c cc nL s args own D cy) (hl : (Cond.methodLink own index yX3_findFault).before args s = true) (hw : PW D A H0 Ps H locs) (hf : f_X3_findFault σ0 = some u) (js : List Nat) (hC : js.map (fun j => Ps[j]?) = [some (pX3 cy o0 q0 σ0)]) (hnd : js.Nodup) (hlen : js.length = 1) (hR : RMok rmX3_findFault R 2) (hsize : ls.size = nL) (hrest : (rest.map fun v => v.category).sum ≤ 8) (hdg : decode cc pc = .ok (.invokevirtual index, 3)) (hcs : cells ≤ R.cells ∧ slots ≤ R.slots)
    (kk : ∀ (H1 : Heap) (locs1 : List Loc), PW D A H0 (setAll Ps js [pX3 cy o0 q0 u.2]) H1 locs1 → W p l e R s m args below meth c H1 locs1 cells slots Q (F0 m (pc + 3) ls (.int u.1 :: rest))) : W p l e R s m args below meth c H locs cells slots Q (F0 m pc ls (.ref o0 :: rest)) :=
  w_callV (n := 0) (ov := (some (.int u.1))) (As := []) (Cs := [pX3 cy o0 q0 σ0]) (Cs' := [pX3 cy o0 q0 u.2]) S hw (c_X3_findFault l D cy o0 q0 σ0 u hf) (MF.of S.2.2.2.2 wd358 wd75 (by decide)) (S.2.2.2.2.wd wd356 rfl) (S.2.2.2.2.wd wd357 rfl) hl hR js hC hnd hlen rfl rfl rfl rfl hsize rfl hrest hdg hcs kk
end
abbrev rmX4_copyFrom : Room := { frames := 1, cells := 0, slots := 0, locals := 40 }
def f_X4_copyFrom (σ0 : pStt) (σ1 : pStt) : Option (pStt) := (some (sA σ0 0 (va_cpy (σ1.2 0) (σ0.2 0) 0 0 12))).bind (fun σ_1 => (some (sA σ_1 1 (va_cpy (σ1.2 1) (σ_1.2 1) 0 0 12))).bind (fun σ_2 => (some (sI σ_2 0 ((σ1.1 0)))).bind (fun σ_3 => some σ_3)))
set_option maxHeartbeats 4000000 in
set_option maxRecDepth 100000 in
theorem c_X4_copyFrom (l : Launch) (D : va_G) (cy : Nat → ClassId) (o0 : Nat) (q0 : Nat → Nat) (o1 : Nat) (q1 : Nat → Nat) (σ0 : pStt) (σ1 : pStt) (u : pStt) (hf : f_X4_copyFrom σ0 σ1 = some u) : CT l yX4_copyFrom cX4_copyFrom 2 none rmX4_copyFrom D cy [.ref o0, .ref o1] [pX4 cy o0 q0 σ0, pX4 cy o1 q1 σ1] none [pX4 cy o0 q0 u, pX4 cy o1 q1 σ1] := by
  refine CT.of (by decide) (Nat.le_of_ble_eq_true rfl) (fun p e s m args below meth c ls A Q hA hQ S hr hlk hl hw => ?_)
  have hl : lv_has ls 2 [(0, .ref o0), (1, .ref o1)] := hl
  rw [f_X4_copyFrom] at hf
  refine lv_aload_n S.1 S.2.1 dX4_copyFrom_0 rfl (lv_at hl 1 rfl) ?_
  refine gf_X4_9 S hw 1 rfl dX4_copyFrom_1 ?_
  refine lv_iconst (v := 0) S.1 S.2.1 dX4_copyFrom_4 (by decide) ?_
  refine lv_aload_n S.1 S.2.1 dX4_copyFrom_5 rfl (lv_at hl 0 rfl) ?_
  refine gf_X4_9 S hw 0 rfl dX4_copyFrom_6 ?_
  refine lv_iconst (v := 0) S.1 S.2.1 dX4_copyFrom_9 (by decide) ?_
  refine lv_bipush (v := 12) S.1 S.2.1 dX4_copyFrom_10 (by decide) ?_
  obtain ⟨σ_1, e_σ_1, hf⟩ := ob hf
  refine w_copyi S hw hl.1 (S.2.2.2.2.wd wd665 rfl) (S.2.2.2.2.wd wd405 rfl) (S.2.2.2.2.wd wd404 rfl) (S.2.2.2.2.wd wd81 rfl) 1 1 0 1 rfl rfl rfl rfl (by decide) (by decide) (by decide) (by decide) (by decide) (Nat.le_of_ble_eq_true rfl) (Nat.le_of_ble_eq_true rfl) dX4_copyFrom_12 (fun H locs hw => ?_)
  replace hw : PW D A s.heap [pX4 cy o0 q0 σ_1, pX4 cy o1 q1 σ1] H locs := by cases e_σ_1; exact hw
  refine lv_aload_n S.1 S.2.1 dX4_copyFrom_15 rfl (lv_at hl 1 rfl) ?_
  refine gf_X4_15 S hw 1 rfl dX4_copyFrom_16 ?_
  refine lv_iconst (v := 0) S.1 S.2.1 dX4_copyFrom_19 (by decide) ?_
  refine lv_aload_n S.1 S.2.1 dX4_copyFrom_20 rfl (lv_at hl 0 rfl) ?_
  refine gf_X4_15 S hw 0 rfl dX4_copyFrom_21 ?_
  refine lv_iconst (v := 0) S.1 S.2.1 dX4_copyFrom_24 (by decide) ?_
  refine lv_bipush (v := 12) S.1 S.2.1 dX4_copyFrom_25 (by decide) ?_
  obtain ⟨σ_2, e_σ_2, hf⟩ := ob hf
  refine w_copyi S hw hl.1 (S.2.2.2.2.wd wd665 rfl) (S.2.2.2.2.wd wd405 rfl) (S.2.2.2.2.wd wd404 rfl) (S.2.2.2.2.wd wd81 rfl) 1 2 0 2 rfl rfl rfl rfl (by decide) (by decide) (by decide) (by decide) (by decide) (Nat.le_of_ble_eq_true rfl) (Nat.le_of_ble_eq_true rfl) dX4_copyFrom_27 (fun H locs hw => ?_)
  replace hw : PW D A s.heap [pX4 cy o0 q0 σ_2, pX4 cy o1 q1 σ1] H locs := by cases e_σ_2; exact hw
  refine lv_aload_n S.1 S.2.1 dX4_copyFrom_30 rfl (lv_at hl 0 rfl) ?_
  refine lv_aload_n S.1 S.2.1 dX4_copyFrom_31 rfl (lv_at hl 1 rfl) ?_
  refine gf_X4_24 S hw 1 rfl dX4_copyFrom_32 ?_
  obtain ⟨σ_3, e_σ_3, hf⟩ := ob hf
  refine pf_X4_24 S hw 0 rfl e_σ_3 dX4_copyFrom_35 (fun H locs hw => ?_)
  have hw : PW D A s.heap [pX4 cy o0 q0 σ_3, pX4 cy o1 q1 σ1] H locs := hw
  cases hf
  exact w_vret S hr hlk hA hQ hw dX4_copyFrom_38
section
variable {p : Program} {l : Launch} {e : Env} {R : Room} {s : State} {m : MethodId} {args : Array Value} {below : List Frame} {meth : Method} {c : Code} {H : Heap} {locs : List Loc} {cells slots : Nat} {Q : State → Prop} {cc : ByteArray} {pc nL : Nat} {ls : Array Slot} {rest : List Value} {D : va_G} {cy : Nat → ClassId} {A : Nat → Prop} {H0 : Heap} {own : String} {Ps : List va_W}
set_option maxRecDepth 100000 in
theorem k_X4_copyFrom {o0 : Nat} {q0 : Nat → Nat} {o1 : Nat} {q1 : Nat → Nat}  {σ0 : pStt} {σ1 : pStt} {u : pStt} {index : Nat} (S : CX p m c cc nL s args own D cy) (hl : (Cond.methodLink own index yX4_copyFrom).before args s = true) (hw : PW D A H0 Ps H locs) (hf : f_X4_copyFrom σ0 σ1 = some u) (js : List Nat) (hC : js.map (fun j => Ps[j]?) = [some (pX4 cy o0 q0 σ0), some (pX4 cy o1 q1 σ1)]) (hnd : js.Nodup) (hlen : js.length = 2) (hR : RMok rmX4_copyFrom R 2) (hsize : ls.size = nL) (hrest : (rest.map fun v => v.category).sum ≤ 8) (hdg : decode cc pc = .ok (.invokevirtual index, 3)) (hcs : cells ≤ R.cells ∧ slots ≤ R.slots)
    (kk : ∀ (H1 : Heap) (locs1 : List Loc), PW D A H0 (setAll Ps js [pX4 cy o0 q0 u, pX4 cy o1 q1 σ1]) H1 locs1 → W p l e R s m args below meth c H1 locs1 cells slots Q (F0 m (pc + 3) ls (rest))) : W p l e R s m args below meth c H locs cells slots Q (F0 m pc ls (.ref o1 :: .ref o0 :: rest)) :=
  w_callV (n := 1) (ov := none) (As := [.ref o1]) (Cs := [pX4 cy o0 q0 σ0, pX4 cy o1 q1 σ1]) (Cs' := [pX4 cy o0 q0 u, pX4 cy o1 q1 σ1]) S hw (c_X4_copyFrom l D cy o0 q0 o1 q1 σ0 σ1 u hf) (MF.of S.2.2.2.2 wd664 wd73 (by decide)) (S.2.2.2.2.wd wd662 rfl) (S.2.2.2.2.wd wd663 rfl) hl hR js hC hnd hlen rfl rfl rfl rfl hsize rfl hrest hdg hcs kk
end
abbrev rmX4_add : Room := { frames := 0, cells := 0, slots := 0, locals := 0 }
def f_X4_add (x1 : Int32) (x2 : Int32) (x3 : Int32) (σ0 : pStt) : Option (Int32 × pStt) := if (σ0.1 0) < 12 then (stA σ0 0 12 ((σ0.1 0)) ((((1 : Int32) <<< (x1 &&& 31)) ||| ((1 : Int32) <<< (x2 &&& 31))))).bind (fun σ_2 => (stA σ_2 1 12 ((σ_2.1 0)) (((1 : Int32) <<< (x3 &&& 31)))).bind (fun σ_3 => (some (sI σ_3 0 (((σ_3.1 0) + (1 : Int32))))).bind (fun σ_4 => some (1, σ_4)))) else some (0, σ0)
set_option maxHeartbeats 4000000 in
set_option maxRecDepth 100000 in
theorem c_X4_add (l : Launch) (D : va_G) (cy : Nat → ClassId) (o0 : Nat) (q0 : Nat → Nat) (x1 : Int32) (x2 : Int32) (x3 : Int32) (σ0 : pStt) (u : Int32 × pStt) (hf : f_X4_add x1 x2 x3 σ0 = some u) : CT l yX4_add cX4_add 4 (some .boolean) rmX4_add D cy [.ref o0, .int x1, .int x2, .int x3] [pX4 cy o0 q0 σ0] (some (.int u.1)) [pX4 cy o0 q0 u.2] := by
  refine CT.of (by decide) (Nat.le_of_ble_eq_true rfl) (fun p e s m args below meth c ls A Q hA hQ S hr hlk hl hw => ?_)
  have hl : lv_has ls 4 [(0, .ref o0), (1, .int x1), (2, .int x2), (3, .int x3)] := hl
  rw [f_X4_add] at hf
  refine lv_aload_n S.1 S.2.1 dX4_add_0 rfl (lv_at hl 0 rfl) ?_
  refine gf_X4_24 S hw 0 rfl dX4_add_1 ?_
  refine lv_bipush (v := 12) S.1 S.2.1 dX4_add_4 (by decide) ?_
  refine lv_icmp_lt (tgt := 11) S.1 S.2.1 dX4_add_6 (by decide) (fun c_1 => ?_) (fun c_1 => ?_)
  · replace hf := (if_pos c_1).symm.trans hf
    refine lv_aload_n S.1 S.2.1 dX4_add_11 rfl (lv_at hl 0 rfl) ?_
    refine gf_X4_9 S hw 0 rfl dX4_add_12 ?_
    refine lv_aload_n S.1 S.2.1 dX4_add_15 rfl (lv_at hl 0 rfl) ?_
    refine gf_X4_24 S hw 0 rfl dX4_add_16 ?_
    refine lv_iconst (v := 1) S.1 S.2.1 dX4_add_19 (by decide) ?_
    refine lv_iload_n S.1 S.2.1 dX4_add_20 rfl (lv_at hl 1 rfl) ?_
    refine lv_ishl S.1 S.2.1 dX4_add_21 ?_
    refine lv_iconst (v := 1) S.1 S.2.1 dX4_add_22 (by decide) ?_
    refine lv_iload_n S.1 S.2.1 dX4_add_23 rfl (lv_at hl 2 rfl) ?_
    refine lv_ishl S.1 S.2.1 dX4_add_24 ?_
    refine lv_ior S.1 S.2.1 dX4_add_25 ?_
    obtain ⟨σ_2, e_σ_2, hf⟩ := ob hf
    refine as_X4_0 S hw 0 rfl e_σ_2 dX4_add_26 (fun H locs hw => ?_)
    have hw : PW D A s.heap [pX4 cy o0 q0 σ_2] H locs := hw
    refine lv_aload_n S.1 S.2.1 dX4_add_27 rfl (lv_at hl 0 rfl) ?_
    refine gf_X4_15 S hw 0 rfl dX4_add_28 ?_
    refine lv_aload_n S.1 S.2.1 dX4_add_31 rfl (lv_at hl 0 rfl) ?_
    refine gf_X4_24 S hw 0 rfl dX4_add_32 ?_
    refine lv_iconst (v := 1) S.1 S.2.1 dX4_add_35 (by decide) ?_
    refine lv_iload_n S.1 S.2.1 dX4_add_36 rfl (lv_at hl 3 rfl) ?_
    refine lv_ishl S.1 S.2.1 dX4_add_37 ?_
    obtain ⟨σ_3, e_σ_3, hf⟩ := ob hf
    refine as_X4_1 S hw 0 rfl e_σ_3 dX4_add_38 (fun H locs hw => ?_)
    have hw : PW D A s.heap [pX4 cy o0 q0 σ_3] H locs := hw
    refine lv_aload_n S.1 S.2.1 dX4_add_39 rfl (lv_at hl 0 rfl) ?_
    refine lv_dup S.1 S.2.1 dX4_add_40 rfl ?_
    refine gf_X4_24 S hw 0 rfl dX4_add_41 ?_
    refine lv_iconst (v := 1) S.1 S.2.1 dX4_add_44 (by decide) ?_
    refine lv_iadd S.1 S.2.1 dX4_add_45 ?_
    obtain ⟨σ_4, e_σ_4, hf⟩ := ob hf
    refine pf_X4_24 S hw 0 rfl e_σ_4 dX4_add_46 (fun H locs hw => ?_)
    have hw : PW D A s.heap [pX4 cy o0 q0 σ_4] H locs := hw
    refine lv_iconst (v := 1) S.1 S.2.1 dX4_add_49 (by decide) ?_
    cases hf
    exact w_zret S hr rfl hlk hA hQ hw dX4_add_50
  · replace hf := (if_neg c_1).symm.trans hf
    refine lv_iconst (v := 0) S.1 S.2.1 dX4_add_9 (by decide) ?_
    cases hf
    exact w_zret S hr rfl hlk hA hQ hw dX4_add_10
section
variable {p : Program} {l : Launch} {e : Env} {R : Room} {s : State} {m : MethodId} {args : Array Value} {below : List Frame} {meth : Method} {c : Code} {H : Heap} {locs : List Loc} {cells slots : Nat} {Q : State → Prop} {cc : ByteArray} {pc nL : Nat} {ls : Array Slot} {rest : List Value} {D : va_G} {cy : Nat → ClassId} {A : Nat → Prop} {H0 : Heap} {own : String} {Ps : List va_W}
set_option maxRecDepth 100000 in
theorem k_X4_add {o0 : Nat} {q0 : Nat → Nat} {x1 : Int32} {x2 : Int32} {x3 : Int32} {σ0 : pStt} {u : Int32 × pStt} {index : Nat} (S : CX p m c cc nL s args own D cy) (hl : (Cond.methodLink own index yX4_add).before args s = true) (hw : PW D A H0 Ps H locs) (hf : f_X4_add x1 x2 x3 σ0 = some u) (js : List Nat) (hC : js.map (fun j => Ps[j]?) = [some (pX4 cy o0 q0 σ0)]) (hnd : js.Nodup) (hlen : js.length = 1) (hR : RMok rmX4_add R 4) (hsize : ls.size = nL) (hrest : (rest.map fun v => v.category).sum ≤ 8) (hdg : decode cc pc = .ok (.invokevirtual index, 3)) (hcs : cells ≤ R.cells ∧ slots ≤ R.slots)
    (kk : ∀ (H1 : Heap) (locs1 : List Loc), PW D A H0 (setAll Ps js [pX4 cy o0 q0 u.2]) H1 locs1 → W p l e R s m args below meth c H1 locs1 cells slots Q (F0 m (pc + 3) ls (.int u.1 :: rest))) : W p l e R s m args below meth c H locs cells slots Q (F0 m pc ls (.int x3 :: .int x2 :: .int x1 :: .ref o0 :: rest)) :=
  w_callV (n := 3) (ov := (some (.int u.1))) (As := [.int x1, .int x2, .int x3]) (Cs := [pX4 cy o0 q0 σ0]) (Cs' := [pX4 cy o0 q0 u.2]) S hw (c_X4_add l D cy o0 q0 x1 x2 x3 σ0 u hf) (MF.of S.2.2.2.2 wd525 wd73 (by decide)) (S.2.2.2.2.wd wd523 rfl) (S.2.2.2.2.wd wd524 rfl) hl hR js hC hnd hlen rfl rfl rfl rfl hsize rfl hrest hdg hcs kk
end
abbrev rmX4_closure : Room := { frames := 0, cells := 0, slots := 0, locals := 0 }
def fl_X4_closure_16 (y3 : Int32) (y4 : Int32) (σ0 : pStt) : Nat → Int32 → Int32 → Option (Int32)
  | 0, _, _ => none
  | n + 1, y2, y5 => if (σ0.1 0) ≤ y5 then some y2 else (ld (σ0.2 0) 12 y5).bind (fun x_3 => (ld (σ0.2 0) 12 y5).bind (fun x_4 => if (x_3 &&& y2) = x_4 then (ld (σ0.2 1) 12 y5).bind (fun x_6 => fl_X4_closure_16 y3 y4 σ0 n ((y2 ||| x_6)) ((y5 + 1))) else fl_X4_closure_16 y3 y4 σ0 n y2 ((y5 + 1))))
def fl_X4_closure_4  (σ0 : pStt) : Nat → Int32 → Int32 → Option ((Int32) ⊕ (Int32))
  | 0, _, _ => none
  | n + 1, y2, y3 => if 10 ≤ y3 then some (.inr y2) else (fl_X4_closure_16 y3 y2 σ0 2000 y2 0).bind (fun u_7 => if u_7 = y2 then some (.inl u_7) else fl_X4_closure_4 σ0 n u_7 ((y3 + 1)))
def f_X4_closure (x1 : Int32) (σ0 : pStt) : Option (Int32) := (fl_X4_closure_4 σ0 2000 x1 0).bind (fun u_9 => sm (fun a_10 => some a_10) (fun a_11 => some a_11) u_9)
section
variable {p : Program} {l : Launch} {e : Env} {s : State} {m : MethodId} {args : Array Value} {below : List Frame} {meth : Method} {c : Code} {Q : State → Prop} {D : va_G} {cy : Nat → ClassId} {A : Nat → Prop} {H0 : Heap}
set_option maxHeartbeats 4000000 in
set_option maxRecDepth 100000 in
theorem lp_X4_closure_16 (S : CX p m c cX4_closure 6 s args RX4 D cy) {o0 : Nat} {q0 : Nat → Nat} {σ0 : pStt} {y3 : Int32} {y4 : Int32} : ∀ (n : Nat) (y2 : Int32) (y5 : Int32) (H : Heap) (locs : List Loc) (ls : Array Slot) (u : Int32), PW D A H0 [pX4 cy o0 q0 σ0] H locs → lv_has ls 6 [(0, .ref o0), (2, .int y2), (3, .int y3), (4, .int y4), (5, .int y5)] → fl_X4_closure_16 y3 y4 σ0 n y2 y5 = some u → (∀ (H : Heap) (locs : List Loc) (ls : Array Slot), PW D A H0 [pX4 cy o0 q0 σ0] H locs → lv_has ls 6 [(0, .ref o0), (2, .int u), (3, .int y3), (4, .int y4)] → W p l e rmX4_closure s m args below meth c H locs 0 0 Q (F0 m 60 ls [])) → W p l e rmX4_closure s m args below meth c H locs 0 0 Q (F0 m 16 ls []) := by
  intro n
  induction n with
  | zero =>
    intro y2 y5 H locs ls u hw hl hf K0
    rw [fl_X4_closure_16] at hf
    cases hf
  | succ n ih =>
    intro y2 y5 H locs ls u hw hl hf K0
    rw [fl_X4_closure_16] at hf
    refine lv_iload S.1 S.2.1 dX4_closure_16 (lv_at hl 4 rfl) ?_
    refine lv_aload_n S.1 S.2.1 dX4_closure_18 rfl (lv_at hl 0 rfl) ?_
    refine gf_X4_24 S hw 0 rfl dX4_closure_19 ?_
    refine lv_icmp_ge (tgt := 60) S.1 S.2.1 dX4_closure_22 (by decide) (fun c_2 => ?_) (fun c_2 => ?_)
    · replace hf := (if_pos c_2).symm.trans hf
      cases hf
      exact K0 _ _ _ hw (lv_sub hl [0, 1, 2, 3] rfl)
    · replace hf := (if_neg c_2).symm.trans hf
      refine lv_aload_n S.1 S.2.1 dX4_closure_25 rfl (lv_at hl 0 rfl) ?_
      refine gf_X4_9 S hw 0 rfl dX4_closure_26 ?_
      refine lv_iload S.1 S.2.1 dX4_closure_29 (lv_at hl 4 rfl) ?_
      obtain ⟨x_3, e_x_3, hf⟩ := ob hf
      refine al_X4_0 S hw 0 rfl e_x_3 dX4_closure_31 ?_
      refine lv_iload_n S.1 S.2.1 dX4_closure_32 rfl (lv_at hl 1 rfl) ?_
      refine lv_iand S.1 S.2.1 dX4_closure_33 ?_
      refine lv_aload_n S.1 S.2.1 dX4_closure_34 rfl (lv_at hl 0 rfl) ?_
      refine gf_X4_9 S hw 0 rfl dX4_closure_35 ?_
      refine lv_iload S.1 S.2.1 dX4_closure_38 (lv_at hl 4 rfl) ?_
      obtain ⟨x_4, e_x_4, hf⟩ := ob hf
      refine al_X4_0 S hw 0 rfl e_x_4 dX4_closure_40 ?_
      refine lv_icmp_ne (tgt := 54) S.1 S.2.1 dX4_closure_41 (by decide) (fun c_5 => ?_) (fun c_5 => ?_)
      · replace hf := (if_neg c_5).symm.trans hf
        refine lv_iinc (v := (y5 + 1)) (lv' := [(5, .int ((y5 + 1))), (0, .ref o0), (2, .int y2), (3, .int y3), (4, .int y4)]) S.1 S.2.1 dX4_closure_54 hl (k := 4) rfl rfl (by decide) rfl (fun ls hl => ?_)
        refine lv_goto (tgt := 16) S.1 S.2.1 dX4_closure_57 (by decide) ?_
        exact ih _ _ _ _ _ _ hw (lv_sub hl [1, 2, 3, 4, 0] rfl) hf K0
      · replace hf := (if_pos c_5).symm.trans hf
        refine lv_iload_n S.1 S.2.1 dX4_closure_44 rfl (lv_at hl 1 rfl) ?_
        refine lv_aload_n S.1 S.2.1 dX4_closure_45 rfl (lv_at hl 0 rfl) ?_
        refine gf_X4_15 S hw 0 rfl dX4_closure_46 ?_
        refine lv_iload S.1 S.2.1 dX4_closure_49 (lv_at hl 4 rfl) ?_
        obtain ⟨x_6, e_x_6, hf⟩ := ob hf
        refine al_X4_1 S hw 0 rfl e_x_6 dX4_closure_51 ?_
        refine lv_ior S.1 S.2.1 dX4_closure_52 ?_
        refine lv_istore_n (lv' := [(2, .int ((y2 ||| x_6))), (0, .ref o0), (3, .int y3), (4, .int y4), (5, .int y5)]) S.1 S.2.1 dX4_closure_53 rfl hl (by decide) rfl (fun ls hl => ?_)
        refine lv_iinc (v := (y5 + 1)) (lv' := [(5, .int ((y5 + 1))), (2, .int ((y2 ||| x_6))), (0, .ref o0), (3, .int y3), (4, .int y4)]) S.1 S.2.1 dX4_closure_54 hl (k := 4) rfl rfl (by decide) rfl (fun ls hl => ?_)
        refine lv_goto (tgt := 16) S.1 S.2.1 dX4_closure_57 (by decide) ?_
        exact ih _ _ _ _ _ _ hw (lv_sub hl [2, 1, 3, 4, 0] rfl) hf K0
set_option maxHeartbeats 4000000 in
set_option maxRecDepth 100000 in
theorem lp_X4_closure_4 (S : CX p m c cX4_closure 6 s args RX4 D cy) {o0 : Nat} {q0 : Nat → Nat} {σ0 : pStt}  : ∀ (n : Nat) (y2 : Int32) (y3 : Int32) (H : Heap) (locs : List Loc) (ls : Array Slot) (u : (Int32) ⊕ (Int32)), PW D A H0 [pX4 cy o0 q0 σ0] H locs → lv_has ls 6 [(0, .ref o0), (2, .int y2), (3, .int y3)] → fl_X4_closure_4 σ0 n y2 y3 = some u → (∀ a, u = .inl a → ∀ (H : Heap) (locs : List Loc) (ls : Array Slot), PW D A H0 [pX4 cy o0 q0 σ0] H locs → lv_has ls 6 [(2, .int a)] → W p l e rmX4_closure s m args below meth c H locs 0 0 Q (F0 m 66 ls [])) → (∀ a, u = .inr a → ∀ (H : Heap) (locs : List Loc) (ls : Array Slot), PW D A H0 [pX4 cy o0 q0 σ0] H locs → lv_has ls 6 [(2, .int a)] → W p l e rmX4_closure s m args below meth c H locs 0 0 Q (F0 m 75 ls [])) → W p l e rmX4_closure s m args below meth c H locs 0 0 Q (F0 m 4 ls []) := by
  intro n
  induction n with
  | zero =>
    intro y2 y3 H locs ls u hw hl hf K0 K1
    rw [fl_X4_closure_4] at hf
    cases hf
  | succ n ih =>
    intro y2 y3 H locs ls u hw hl hf K0 K1
    rw [fl_X4_closure_4] at hf
    refine lv_iload_n S.1 S.2.1 dX4_closure_4 rfl (lv_at hl 2 rfl) ?_
    refine lv_bipush (v := 10) S.1 S.2.1 dX4_closure_5 (by decide) ?_
    refine lv_icmp_ge (tgt := 75) S.1 S.2.1 dX4_closure_7 (by decide) (fun c_1 => ?_) (fun c_1 => ?_)
    · replace hf := (if_pos c_1).symm.trans hf
      cases hf
      exact K1 _ rfl _ _ _ hw (lv_sub hl [1] rfl)
    · replace hf := (if_neg c_1).symm.trans hf
      refine lv_iload_n S.1 S.2.1 dX4_closure_10 rfl (lv_at hl 1 rfl) ?_
      refine lv_istore (lv' := [(4, .int y2), (0, .ref o0), (2, .int y2), (3, .int y3)]) S.1 S.2.1 dX4_closure_11 hl (by decide) rfl (fun ls hl => ?_)
      refine lv_iconst (v := 0) S.1 S.2.1 dX4_closure_13 (by decide) ?_
      refine lv_istore (lv' := [(5, .int 0), (4, .int y2), (0, .ref o0), (2, .int y2), (3, .int y3)]) S.1 S.2.1 dX4_closure_14 hl (by decide) rfl (fun ls hl => ?_)
      obtain ⟨u_7, e_u_7, hf⟩ := ob hf
      refine lp_X4_closure_16 S 2000 _ _ _ _ _ _ hw (lv_sub hl [2, 3, 4, 1, 0] rfl) e_u_7 ?_
      · intro H locs ls hw hl
        refine lv_iload_n S.1 S.2.1 dX4_closure_60 rfl (lv_at hl 1 rfl) ?_
        refine lv_iload S.1 S.2.1 dX4_closure_61 (lv_at hl 3 rfl) ?_
        refine lv_icmp_ne (tgt := 69) S.1 S.2.1 dX4_closure_63 (by decide) (fun c_8 => ?_) (fun c_8 => ?_)
        · replace hf := (if_neg c_8).symm.trans hf
          refine lv_iinc (v := (y3 + 1)) (lv' := [(3, .int ((y3 + 1))), (0, .ref o0), (2, .int u_7), (4, .int y2)]) S.1 S.2.1 dX4_closure_69 hl (k := 2) rfl rfl (by decide) rfl (fun ls hl => ?_)
          refine lv_goto (tgt := 4) S.1 S.2.1 dX4_closure_72 (by decide) ?_
          exact ih _ _ _ _ _ _ hw (lv_sub hl [1, 2, 0] rfl) hf K0 K1
        · replace hf := (if_pos c_8).symm.trans hf
          cases hf
          exact K0 _ rfl _ _ _ hw (lv_sub hl [1] rfl)
end
set_option maxHeartbeats 4000000 in
set_option maxRecDepth 100000 in
theorem c_X4_closure (l : Launch) (D : va_G) (cy : Nat → ClassId) (o0 : Nat) (q0 : Nat → Nat) (x1 : Int32) (σ0 : pStt) (u : Int32) (hf : f_X4_closure x1 σ0 = some u) : CT l yX4_closure cX4_closure 6 (some .int) rmX4_closure D cy [.ref o0, .int x1] [pX4 cy o0 q0 σ0] (some (.int u)) [pX4 cy o0 q0 σ0] := by
  refine CT.of (by decide) (Nat.le_of_ble_eq_true rfl) (fun p e s m args below meth c ls A Q hA hQ S hr hlk hl hw => ?_)
  have hl : lv_has ls 6 [(0, .ref o0), (1, .int x1)] := hl
  rw [f_X4_closure] at hf
  refine lv_iload_n S.1 S.2.1 dX4_closure_0 rfl (lv_at hl 1 rfl) ?_
  refine lv_istore_n (lv' := [(2, .int x1), (0, .ref o0), (1, .int x1)]) S.1 S.2.1 dX4_closure_1 rfl hl (by decide) rfl (fun ls hl => ?_)
  refine lv_iconst (v := 0) S.1 S.2.1 dX4_closure_2 (by decide) ?_
  refine lv_istore_n (lv' := [(3, .int 0), (2, .int x1), (0, .ref o0), (1, .int x1)]) S.1 S.2.1 dX4_closure_3 rfl hl (by decide) rfl (fun ls hl => ?_)
  obtain ⟨u_9, e_u_9, hf⟩ := ob hf
  refine lp_X4_closure_4 S 2000 _ _ _ _ _ _ hw (lv_sub hl [2, 1, 0] rfl) e_u_9 ?_ ?_
  · intro a_10 h_a_10 H locs ls hw hl
    subst h_a_10
    replace hf := (sm_l _ _ _).symm.trans hf
    refine lv_goto (tgt := 75) S.1 S.2.1 dX4_closure_66 (by decide) ?_
    refine lv_iload_n S.1 S.2.1 dX4_closure_75 rfl (lv_at hl 0 rfl) ?_
    cases hf
    exact w_iret S hr hlk hA hQ hw dX4_closure_76
  · intro a_11 h_a_11 H locs ls hw hl
    subst h_a_11
    replace hf := (sm_r _ _ _).symm.trans hf
    refine lv_iload_n S.1 S.2.1 dX4_closure_75 rfl (lv_at hl 0 rfl) ?_
    cases hf
    exact w_iret S hr hlk hA hQ hw dX4_closure_76
section
variable {p : Program} {l : Launch} {e : Env} {R : Room} {s : State} {m : MethodId} {args : Array Value} {below : List Frame} {meth : Method} {c : Code} {H : Heap} {locs : List Loc} {cells slots : Nat} {Q : State → Prop} {cc : ByteArray} {pc nL : Nat} {ls : Array Slot} {rest : List Value} {D : va_G} {cy : Nat → ClassId} {A : Nat → Prop} {H0 : Heap} {own : String} {Ps : List va_W}
set_option maxRecDepth 100000 in
theorem k_X4_closure {o0 : Nat} {q0 : Nat → Nat} {x1 : Int32} {σ0 : pStt} {u : Int32} {index : Nat} (S : CX p m c cc nL s args own D cy) (hl : (Cond.methodLink own index yX4_closure).before args s = true) (hw : PW D A H0 Ps H locs) (hf : f_X4_closure x1 σ0 = some u) (js : List Nat) (hC : js.map (fun j => Ps[j]?) = [some (pX4 cy o0 q0 σ0)]) (hnd : js.Nodup) (hlen : js.length = 1) (hR : RMok rmX4_closure R 6) (hsize : ls.size = nL) (hrest : (rest.map fun v => v.category).sum ≤ 8) (hdg : decode cc pc = .ok (.invokevirtual index, 3)) (hcs : cells ≤ R.cells ∧ slots ≤ R.slots)
    (kk : ∀ (H1 : Heap) (locs1 : List Loc), PW D A H0 (setAll Ps js [pX4 cy o0 q0 σ0]) H1 locs1 → W p l e R s m args below meth c H1 locs1 cells slots Q (F0 m (pc + 3) ls (.int u :: rest))) : W p l e R s m args below meth c H locs cells slots Q (F0 m pc ls (.int x1 :: .ref o0 :: rest)) :=
  w_callV (n := 1) (ov := (some (.int u))) (As := [.int x1]) (Cs := [pX4 cy o0 q0 σ0]) (Cs' := [pX4 cy o0 q0 σ0]) S hw (c_X4_closure l D cy o0 q0 x1 σ0 u hf) (MF.of S.2.2.2.2 wd537 wd73 (by decide)) (S.2.2.2.2.wd wd535 rfl) (S.2.2.2.2.wd wd536 rfl) hl hR js hC hnd hlen rfl rfl rfl rfl hsize rfl hrest hdg hcs kk
end
