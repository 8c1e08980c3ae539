abbrev rmX4_leastGrounds : Room := { frames := 1, cells := 0, slots := 0, locals := 25 }
def fl_X4_leastGrounds_33 (y1 : Int32) (σ0 : pStt) : Nat → Int32 → Int32 → Int32 → Option (Int32)
  | 0, _, _, _ => none
  | n + 1, y2, y3, y4 => if 1024 ≤ y4 then some y2 else (f_J6_bitCount_0f7a4 y4).bind (fun u_6 => if y3 ≤ u_6 then fl_X4_leastGrounds_33 y1 σ0 n y2 y3 ((y4 + 1)) else (f_X8_holds y4 y1).bind (fun u_8 => if u_8 = 0 then (f_X4_closure y4 σ0).bind (fun u_10 => (f_X8_holds u_10 y1).bind (fun u_11 => if u_11 = 0 then fl_X4_leastGrounds_33 y1 σ0 n y2 y3 ((y4 + 1)) else fl_X4_leastGrounds_33 y1 σ0 n y4 u_6 ((y4 + 1)))) else fl_X4_leastGrounds_33 y1 σ0 n y2 y3 ((y4 + 1))))
def f_X4_leastGrounds (x1 : Int32) (σ0 : pStt) : Option (Int32) := (f_X4_closure (((1023 : Int32) &&& (((1 : Int32) <<< (x1 &&& 31)) ^^^ (-1 : Int32)))) σ0).bind (fun u_1 => (f_X8_holds u_1 x1).bind (fun u_2 => if u_2 = 0 then some ((-6)) else (f_J6_bitCount_0f7a4 (((1023 : Int32) &&& (((1 : Int32) <<< (x1 &&& 31)) ^^^ (-1 : Int32))))).bind (fun u_4 => (fl_X4_leastGrounds_33 x1 σ0 2000 (((1023 : Int32) &&& (((1 : Int32) <<< (x1 &&& 31)) ^^^ (-1 : Int32)))) u_4 0).bind (fun u_13 => some u_13))))
section
variable {p : Program} {l : Launch} {e : Env} {s : State} {m : MethodId} {args : Array Value} {below : List Frame} {meth : Method} {c : Code} {Q : State → Prop} {D : va_G} {cy : Nat → ClassId} {A : Nat → Prop} {H0 : Heap}
set_option maxHeartbeats 4000000 in
set_option maxRecDepth 100000 in
theorem lp_X4_leastGrounds_33 (S : CX p m c cX4_leastGrounds 6 s args RX4 D cy) {o0 : Nat} {q0 : Nat → Nat} {σ0 : pStt} {y1 : Int32} : ∀ (n : Nat) (y2 : Int32) (y3 : Int32) (y4 : Int32) (H : Heap) (locs : List Loc) (ls : Array Slot) (u : Int32), PW D A H0 [pX4 cy o0 q0 σ0] H locs → lv_has ls 6 [(0, .ref o0), (1, .int y1), (2, .int y2), (3, .int y3), (4, .int y4)] → fl_X4_leastGrounds_33 y1 σ0 n y2 y3 y4 = some u → (∀ (H : Heap) (locs : List Loc) (ls : Array Slot), PW D A H0 [pX4 cy o0 q0 σ0] H locs → lv_has ls 6 [(2, .int u)] → W p l e rmX4_leastGrounds s m args below meth c H locs 0 0 Q (F0 m 88 ls [])) → W p l e rmX4_leastGrounds s m args below meth c H locs 0 0 Q (F0 m 33 ls []) := by
  intro n
  induction n with
  | zero =>
    intro y2 y3 y4 H locs ls u hw hl hf K0
    rw [fl_X4_leastGrounds_33] at hf
    cases hf
  | succ n ih =>
    intro y2 y3 y4 H locs ls u hw hl hf K0
    rw [fl_X4_leastGrounds_33] at hf
    refine lv_iload S.1 S.2.1 dX4_leastGrounds_33 (lv_at hl 4 rfl) ?_
    refine lv_sipush (v := 1024) S.1 S.2.1 dX4_leastGrounds_35 (by decide) ?_
    refine lv_icmp_ge (tgt := 88) S.1 S.2.1 dX4_leastGrounds_38 (by decide) (fun c_5 => ?_) (fun c_5 => ?_)
    · replace hf := (if_pos c_5).symm.trans hf
      cases hf
      exact K0 _ _ _ hw (lv_sub hl [2] rfl)
    · replace hf := (if_neg c_5).symm.trans hf
      refine lv_iload S.1 S.2.1 dX4_leastGrounds_41 (lv_at hl 4 rfl) ?_
      obtain ⟨u_6, e_u_6, hf⟩ := ob hf
      refine k_J6_bitCount_0f7a4 S (S.2.2.2.2.wd wd548 rfl) hw e_u_6 [] rfl (by decide) rfl ⟨rfl, rfl, Nat.le_of_ble_eq_true rfl, Nat.le_of_ble_eq_true rfl⟩ hl.1 (Nat.le_of_ble_eq_true rfl) dX4_leastGrounds_43 ⟨Nat.zero_le _, Nat.zero_le _⟩ (fun H locs hw => ?_)
      have hw : PW D A H0 [pX4 cy o0 q0 σ0] H locs := hw
      refine lv_istore (lv' := [(5, .int u_6), (0, .ref o0), (1, .int y1), (2, .int y2), (3, .int y3), (4, .int y4)]) S.1 S.2.1 dX4_leastGrounds_46 hl (by decide) rfl (fun ls hl => ?_)
      refine lv_iload S.1 S.2.1 dX4_leastGrounds_48 (lv_at hl 0 rfl) ?_
      refine lv_iload_n S.1 S.2.1 dX4_leastGrounds_50 rfl (lv_at hl 4 rfl) ?_
      refine lv_icmp_ge (tgt := 82) S.1 S.2.1 dX4_leastGrounds_51 (by decide) (fun c_7 => ?_) (fun c_7 => ?_)
      · replace hf := (if_pos c_7).symm.trans hf
        refine lv_iinc (v := (y4 + 1)) (lv' := [(4, .int ((y4 + 1))), (5, .int u_6), (0, .ref o0), (1, .int y1), (2, .int y2), (3, .int y3)]) S.1 S.2.1 dX4_leastGrounds_82 hl (k := 5) rfl rfl (by decide) rfl (fun ls hl => ?_)
        refine lv_goto (tgt := 33) S.1 S.2.1 dX4_leastGrounds_85 (by decide) ?_
        exact ih _ _ _ _ _ _ _ hw (lv_sub hl [2, 3, 4, 5, 0] rfl) hf K0
      · replace hf := (if_neg c_7).symm.trans hf
        refine lv_iload S.1 S.2.1 dX4_leastGrounds_54 (lv_at hl 5 rfl) ?_
        refine lv_iload_n S.1 S.2.1 dX4_leastGrounds_56 rfl (lv_at hl 2 rfl) ?_
        obtain ⟨u_8, e_u_8, hf⟩ := ob hf
        refine kn_X8_holds S (S.2.2.2.2.wd wd547 rfl) hw e_u_8 [] rfl (by decide) rfl ⟨rfl, rfl, Nat.le_of_ble_eq_true rfl, Nat.le_of_ble_eq_true rfl⟩ hl.1 (Nat.le_of_ble_eq_true rfl) dX4_leastGrounds_57 ⟨Nat.zero_le _, Nat.zero_le _⟩ (fun H locs hw => ?_)
        have hw : PW D A H0 [pX4 cy o0 q0 σ0] H locs := hw
        refine lv_if_ne (tgt := 82) S.1 S.2.1 dX4_leastGrounds_60 (by decide) (fun c_9 => ?_) (fun c_9 => ?_)
        · replace hf := (if_neg c_9).symm.trans hf
          refine lv_iinc (v := (y4 + 1)) (lv' := [(4, .int ((y4 + 1))), (5, .int u_6), (0, .ref o0), (1, .int y1), (2, .int y2), (3, .int y3)]) S.1 S.2.1 dX4_leastGrounds_82 hl (k := 5) rfl rfl (by decide) rfl (fun ls hl => ?_)
          refine lv_goto (tgt := 33) S.1 S.2.1 dX4_leastGrounds_85 (by decide) ?_
          exact ih _ _ _ _ _ _ _ hw (lv_sub hl [2, 3, 4, 5, 0] rfl) hf K0
        · replace hf := (if_pos c_9).symm.trans hf
          refine lv_aload_n S.1 S.2.1 dX4_leastGrounds_63 rfl (lv_at hl 1 rfl) ?_
          refine lv_iload S.1 S.2.1 dX4_leastGrounds_64 (lv_at hl 5 rfl) ?_
          obtain ⟨u_10, e_u_10, hf⟩ := ob hf
          refine k_X4_closure S (S.2.2.2.2.wd wd546 rfl) hw e_u_10 [0] rfl (by decide) rfl ⟨rfl, rfl, Nat.le_of_ble_eq_true rfl, Nat.le_of_ble_eq_true rfl⟩ hl.1 (Nat.le_of_ble_eq_true rfl) dX4_leastGrounds_66 ⟨Nat.zero_le _, Nat.zero_le _⟩ (fun H locs hw => ?_)
          have hw : PW D A H0 [pX4 cy o0 q0 σ0] H locs := hw
          refine lv_iload_n S.1 S.2.1 dX4_leastGrounds_69 rfl (lv_at hl 2 rfl) ?_
          obtain ⟨u_11, e_u_11, hf⟩ := ob hf
          refine kn_X8_holds S (S.2.2.2.2.wd wd547 rfl) hw e_u_11 [] rfl (by decide) rfl ⟨rfl, rfl, Nat.le_of_ble_eq_true rfl, Nat.le_of_ble_eq_true rfl⟩ hl.1 (Nat.le_of_ble_eq_true rfl) dX4_leastGrounds_70 ⟨Nat.zero_le _, Nat.zero_le _⟩ (fun H locs hw => ?_)
          have hw : PW D A H0 [pX4 cy o0 q0 σ0] H locs := hw
          refine lv_if_eq (tgt := 82) S.1 S.2.1 dX4_leastGrounds_73 (by decide) (fun c_12 => ?_) (fun c_12 => ?_)
          · replace hf := (if_pos c_12).symm.trans hf
            refine lv_iinc (v := (y4 + 1)) (lv' := [(4, .int ((y4 + 1))), (5, .int u_6), (0, .ref o0), (1, .int y1), (2, .int y2), (3, .int y3)]) S.1 S.2.1 dX4_leastGrounds_82 hl (k := 5) rfl rfl (by decide) rfl (fun ls hl => ?_)
            refine lv_goto (tgt := 33) S.1 S.2.1 dX4_leastGrounds_85 (by decide) ?_
            exact ih _ _ _ _ _ _ _ hw (lv_sub hl [2, 3, 4, 5, 0] rfl) hf K0
          · replace hf := (if_neg c_12).symm.trans hf
            refine lv_iload S.1 S.2.1 dX4_leastGrounds_76 (lv_at hl 0 rfl) ?_
            refine lv_istore_n (lv' := [(3, .int u_6), (5, .int u_6), (0, .ref o0), (1, .int y1), (2, .int y2), (4, .int y4)]) S.1 S.2.1 dX4_leastGrounds_78 rfl hl (by decide) rfl (fun ls hl => ?_)
            refine lv_iload S.1 S.2.1 dX4_leastGrounds_79 (lv_at hl 5 rfl) ?_
            refine lv_istore_n (lv' := [(2, .int y4), (3, .int u_6), (5, .int u_6), (0, .ref o0), (1, .int y1), (4, .int y4)]) S.1 S.2.1 dX4_leastGrounds_81 rfl hl (by decide) rfl (fun ls hl => ?_)
            refine lv_iinc (v := (y4 + 1)) (lv' := [(4, .int ((y4 + 1))), (2, .int y4), (3, .int u_6), (5, .int u_6), (0, .ref o0), (1, .int y1)]) S.1 S.2.1 dX4_leastGrounds_82 hl (k := 5) rfl rfl (by decide) rfl (fun ls hl => ?_)
            refine lv_goto (tgt := 33) S.1 S.2.1 dX4_leastGrounds_85 (by decide) ?_
            exact ih _ _ _ _ _ _ _ hw (lv_sub hl [4, 5, 1, 2, 0] rfl) hf K0
end
set_option maxHeartbeats 4000000 in
set_option maxRecDepth 100000 in
theorem c_X4_leastGrounds (l : Launch) (D : va_G) (cy : Nat → ClassId) (o0 : Nat) (q0 : Nat → Nat) (x1 : Int32) (σ0 : pStt) (u : Int32) (hf : f_X4_leastGrounds x1 σ0 = some u) : CT l yX4_leastGrounds cX4_leastGrounds 6 (some .int) rmX4_leastGrounds D cy [.ref o0, .int x1] [pX4 cy o0 q0 σ0] (some (.int u)) [pX4 cy o0 q0 σ0] := by
  refine CT.of (by decide) (Nat.le_of_ble_eq_true rfl) (fun p e s m args below meth c ls A Q hA hQ S hr hlk hl hw => ?_)
  have hl : lv_has ls 6 [(0, .ref o0), (1, .int x1)] := hl
  rw [f_X4_leastGrounds] at hf
  refine lv_sipush (v := 1023) S.1 S.2.1 dX4_leastGrounds_0 (by decide) ?_
  refine lv_iconst (v := 1) S.1 S.2.1 dX4_leastGrounds_3 (by decide) ?_
  refine lv_iload_n S.1 S.2.1 dX4_leastGrounds_4 rfl (lv_at hl 1 rfl) ?_
  refine lv_ishl S.1 S.2.1 dX4_leastGrounds_5 ?_
  refine lv_iconst (v := (-1)) S.1 S.2.1 dX4_leastGrounds_6 (by decide) ?_
  refine lv_ixor S.1 S.2.1 dX4_leastGrounds_7 ?_
  refine lv_iand S.1 S.2.1 dX4_leastGrounds_8 ?_
  refine lv_istore_n (lv' := [(2, .int (((1023 : Int32) &&& (((1 : Int32) <<< (x1 &&& 31)) ^^^ (-1 : Int32))))), (0, .ref o0), (1, .int x1)]) S.1 S.2.1 dX4_leastGrounds_9 rfl hl (by decide) rfl (fun ls hl => ?_)
  refine lv_aload_n S.1 S.2.1 dX4_leastGrounds_10 rfl (lv_at hl 1 rfl) ?_
  refine lv_iload_n S.1 S.2.1 dX4_leastGrounds_11 rfl (lv_at hl 0 rfl) ?_
  obtain ⟨u_1, e_u_1, hf⟩ := ob hf
  refine k_X4_closure S (S.2.2.2.2.wd wd546 rfl) hw e_u_1 [0] rfl (by decide) rfl ⟨rfl, rfl, Nat.le_of_ble_eq_true rfl, Nat.le_of_ble_eq_true rfl⟩ hl.1 (Nat.le_of_ble_eq_true rfl) dX4_leastGrounds_12 ⟨Nat.zero_le _, Nat.zero_le _⟩ (fun H locs hw => ?_)
  have hw : PW D A s.heap [pX4 cy o0 q0 σ0] H locs := hw
  refine lv_iload_n S.1 S.2.1 dX4_leastGrounds_15 rfl (lv_at hl 2 rfl) ?_
  obtain ⟨u_2, e_u_2, hf⟩ := ob hf
  refine kn_X8_holds S (S.2.2.2.2.wd wd547 rfl) hw e_u_2 [] rfl (by decide) rfl ⟨rfl, rfl, Nat.le_of_ble_eq_true rfl, Nat.le_of_ble_eq_true rfl⟩ hl.1 (Nat.le_of_ble_eq_true rfl) dX4_leastGrounds_16 ⟨Nat.zero_le _, Nat.zero_le _⟩ (fun H locs hw => ?_)
  have hw : PW D A s.heap [pX4 cy o0 q0 σ0] H locs := hw
  refine lv_if_ne (tgt := 25) S.1 S.2.1 dX4_leastGrounds_19 (by decide) (fun c_3 => ?_) (fun c_3 => ?_)
  · replace hf := (if_neg c_3).symm.trans hf
    refine lv_iload_n S.1 S.2.1 dX4_leastGrounds_25 rfl (lv_at hl 0 rfl) ?_
    obtain ⟨u_4, e_u_4, hf⟩ := ob hf
    refine k_J6_bitCount_0f7a4 S (S.2.2.2.2.wd wd548 rfl) hw e_u_4 [] rfl (by decide) rfl ⟨rfl, rfl, Nat.le_of_ble_eq_true rfl, Nat.le_of_ble_eq_true rfl⟩ hl.1 (Nat.le_of_ble_eq_true rfl) dX4_leastGrounds_26 ⟨Nat.zero_le _, Nat.zero_le _⟩ (fun H locs hw => ?_)
    have hw : PW D A s.heap [pX4 cy o0 q0 σ0] H locs := hw
    refine lv_istore_n (lv' := [(3, .int u_4), (2, .int (((1023 : Int32) &&& (((1 : Int32) <<< (x1 &&& 31)) ^^^ (-1 : Int32))))), (0, .ref o0), (1, .int x1)]) S.1 S.2.1 dX4_leastGrounds_29 rfl hl (by decide) rfl (fun ls hl => ?_)
    refine lv_iconst (v := 0) S.1 S.2.1 dX4_leastGrounds_30 (by decide) ?_
    refine lv_istore (lv' := [(4, .int 0), (3, .int u_4), (2, .int (((1023 : Int32) &&& (((1 : Int32) <<< (x1 &&& 31)) ^^^ (-1 : Int32))))), (0, .ref o0), (1, .int x1)]) S.1 S.2.1 dX4_leastGrounds_31 hl (by decide) rfl (fun ls hl => ?_)
    obtain ⟨u_13, e_u_13, hf⟩ := ob hf
    refine lp_X4_leastGrounds_33 S 2000 _ _ _ _ _ _ _ hw (lv_sub hl [3, 4, 2, 1, 0] rfl) e_u_13 ?_
    · intro H locs ls hw hl
      refine lv_iload_n S.1 S.2.1 dX4_leastGrounds_88 rfl (lv_at hl 0 rfl) ?_
      cases hf
      exact w_iret S hr hlk hA hQ hw dX4_leastGrounds_89
  · replace hf := (if_pos c_3).symm.trans hf
    refine lv_bipush (v := (-6)) S.1 S.2.1 dX4_leastGrounds_22 (by decide) ?_
    cases hf
    exact w_iret S hr hlk hA hQ hw dX4_leastGrounds_24
section
variable {p : Program} {l : Launch} {e : Env} {R : Room} {s : State} {m : MethodId} {args : Array Value} {below : List Frame} {meth : Method} {c : Code} {H : Heap} {locs : List Loc} {cells slots : Nat} {Q : State → Prop} {cc : ByteArray} {pc nL : Nat} {ls : Array Slot} {rest : List Value} {D : va_G} {cy : Nat → ClassId} {A : Nat → Prop} {H0 : Heap} {own : String} {Ps : List va_W}
set_option maxRecDepth 100000 in
theorem k_X4_leastGrounds {o0 : Nat} {q0 : Nat → Nat} {x1 : Int32} {σ0 : pStt} {u : Int32} {index : Nat} (S : CX p m c cc nL s args own D cy) (hl : (Cond.methodLink own index yX4_leastGrounds).before args s = true) (hw : PW D A H0 Ps H locs) (hf : f_X4_leastGrounds x1 σ0 = some u) (js : List Nat) (hC : js.map (fun j => Ps[j]?) = [some (pX4 cy o0 q0 σ0)]) (hnd : js.Nodup) (hlen : js.length = 1) (hR : RMok rmX4_leastGrounds R 6) (hsize : ls.size = nL) (hrest : (rest.map fun v => v.category).sum ≤ 8) (hdg : decode cc pc = .ok (.invokevirtual index, 3)) (hcs : cells ≤ R.cells ∧ slots ≤ R.slots)
    (kk : ∀ (H1 : Heap) (locs1 : List Loc), PW D A H0 (setAll Ps js [pX4 cy o0 q0 σ0]) H1 locs1 → W p l e R s m args below meth c H1 locs1 cells slots Q (F0 m (pc + 3) ls (.int u :: rest))) : W p l e R s m args below meth c H locs cells slots Q (F0 m pc ls (.int x1 :: .ref o0 :: rest)) :=
  w_callV (n := 1) (ov := (some (.int u))) (As := [.int x1]) (Cs := [pX4 cy o0 q0 σ0]) (Cs' := [pX4 cy o0 q0 σ0]) S hw (c_X4_leastGrounds l D cy o0 q0 x1 σ0 u hf) (MF.of S.2.2.2.2 wd545 wd73 (by decide)) (S.2.2.2.2.wd wd543 rfl) (S.2.2.2.2.wd wd544 rfl) hl hR js hC hnd hlen rfl rfl rfl rfl hsize rfl hrest hdg hcs kk
end
abbrev rmX5_copyFrom : Room := { frames := 1, cells := 0, slots := 0, locals := 40 }
def f_X5_copyFrom (σ0 : pStt) (σ1 : pStt) : Option (pStt) := (some (sA σ0 0 (va_cpy (σ1.2 0) (σ0.2 0) 0 0 8))).bind (fun σ_1 => (some (sI σ_1 0 ((σ1.1 0)))).bind (fun σ_2 => some σ_2))
set_option maxHeartbeats 4000000 in
set_option maxRecDepth 100000 in
theorem c_X5_copyFrom (l : Launch) (D : va_G) (cy : Nat → ClassId) (o0 : Nat) (q0 : Nat → Nat) (o1 : Nat) (q1 : Nat → Nat) (σ0 : pStt) (σ1 : pStt) (u : pStt) (hf : f_X5_copyFrom σ0 σ1 = some u) : CT l yX5_copyFrom cX5_copyFrom 2 none rmX5_copyFrom D cy [.ref o0, .ref o1] [pX5 cy o0 q0 σ0, pX5 cy o1 q1 σ1] none [pX5 cy o0 q0 u, pX5 cy o1 q1 σ1] := by
  refine CT.of (by decide) (Nat.le_of_ble_eq_true rfl) (fun p e s m args below meth c ls A Q hA hQ S hr hlk hl hw => ?_)
  have hl : lv_has ls 2 [(0, .ref o0), (1, .ref o1)] := hl
  rw [f_X5_copyFrom] at hf
  refine lv_aload_n S.1 S.2.1 dX5_copyFrom_0 rfl (lv_at hl 1 rfl) ?_
  refine gf_X5_9 S hw 1 rfl dX5_copyFrom_1 ?_
  refine lv_iconst (v := 0) S.1 S.2.1 dX5_copyFrom_4 (by decide) ?_
  refine lv_aload_n S.1 S.2.1 dX5_copyFrom_5 rfl (lv_at hl 0 rfl) ?_
  refine gf_X5_9 S hw 0 rfl dX5_copyFrom_6 ?_
  refine lv_iconst (v := 0) S.1 S.2.1 dX5_copyFrom_9 (by decide) ?_
  refine lv_bipush (v := 8) S.1 S.2.1 dX5_copyFrom_10 (by decide) ?_
  obtain ⟨σ_1, e_σ_1, hf⟩ := ob hf
  refine w_copyi S hw hl.1 (S.2.2.2.2.wd wd670 rfl) (S.2.2.2.2.wd wd405 rfl) (S.2.2.2.2.wd wd404 rfl) (S.2.2.2.2.wd wd81 rfl) 1 1 0 1 rfl rfl rfl rfl (by decide) (by decide) (by decide) (by decide) (by decide) (Nat.le_of_ble_eq_true rfl) (Nat.le_of_ble_eq_true rfl) dX5_copyFrom_12 (fun H locs hw => ?_)
  replace hw : PW D A s.heap [pX5 cy o0 q0 σ_1, pX5 cy o1 q1 σ1] H locs := by cases e_σ_1; exact hw
  refine lv_aload_n S.1 S.2.1 dX5_copyFrom_15 rfl (lv_at hl 0 rfl) ?_
  refine lv_aload_n S.1 S.2.1 dX5_copyFrom_16 rfl (lv_at hl 1 rfl) ?_
  refine gf_X5_21 S hw 1 rfl dX5_copyFrom_17 ?_
  obtain ⟨σ_2, e_σ_2, hf⟩ := ob hf
  refine pf_X5_21 S hw 0 rfl e_σ_2 dX5_copyFrom_20 (fun H locs hw => ?_)
  have hw : PW D A s.heap [pX5 cy o0 q0 σ_2, pX5 cy o1 q1 σ1] H locs := hw
  cases hf
  exact w_vret S hr hlk hA hQ hw dX5_copyFrom_23
section
variable {p : Program} {l : Launch} {e : Env} {R : Room} {s : State} {m : MethodId} {args : Array Value} {below : List Frame} {meth : Method} {c : Code} {H : Heap} {locs : List Loc} {cells slots : Nat} {Q : State → Prop} {cc : ByteArray} {pc nL : Nat} {ls : Array Slot} {rest : List Value} {D : va_G} {cy : Nat → ClassId} {A : Nat → Prop} {H0 : Heap} {own : String} {Ps : List va_W}
set_option maxRecDepth 100000 in
theorem k_X5_copyFrom {o0 : Nat} {q0 : Nat → Nat} {o1 : Nat} {q1 : Nat → Nat}  {σ0 : pStt} {σ1 : pStt} {u : pStt} {index : Nat} (S : CX p m c cc nL s args own D cy) (hl : (Cond.methodLink own index yX5_copyFrom).before args s = true) (hw : PW D A H0 Ps H locs) (hf : f_X5_copyFrom σ0 σ1 = some u) (js : List Nat) (hC : js.map (fun j => Ps[j]?) = [some (pX5 cy o0 q0 σ0), some (pX5 cy o1 q1 σ1)]) (hnd : js.Nodup) (hlen : js.length = 2) (hR : RMok rmX5_copyFrom R 2) (hsize : ls.size = nL) (hrest : (rest.map fun v => v.category).sum ≤ 8) (hdg : decode cc pc = .ok (.invokevirtual index, 3)) (hcs : cells ≤ R.cells ∧ slots ≤ R.slots)
    (kk : ∀ (H1 : Heap) (locs1 : List Loc), PW D A H0 (setAll Ps js [pX5 cy o0 q0 u, pX5 cy o1 q1 σ1]) H1 locs1 → W p l e R s m args below meth c H1 locs1 cells slots Q (F0 m (pc + 3) ls (rest))) : W p l e R s m args below meth c H locs cells slots Q (F0 m pc ls (.ref o1 :: .ref o0 :: rest)) :=
  w_callV (n := 1) (ov := none) (As := [.ref o1]) (Cs := [pX5 cy o0 q0 σ0, pX5 cy o1 q1 σ1]) (Cs' := [pX5 cy o0 q0 u, pX5 cy o1 q1 σ1]) S hw (c_X5_copyFrom l D cy o0 q0 o1 q1 σ0 σ1 u hf) (MF.of S.2.2.2.2 wd669 wd74 (by decide)) (S.2.2.2.2.wd wd667 rfl) (S.2.2.2.2.wd wd668 rfl) hl hR js hC hnd hlen rfl rfl rfl rfl hsize rfl hrest hdg hcs kk
end
abbrev rmX5_add : Room := { frames := 0, cells := 0, slots := 0, locals := 0 }
def f_X5_add (x1 : Int32) (σ0 : pStt) : Option (Int32 × pStt) := if (σ0.1 0) < 8 then (stA σ0 0 8 ((σ0.1 0)) x1).bind (fun σ_2 => (some (sI σ_2 0 (((σ_2.1 0) + (1 : Int32))))).bind (fun σ_3 => some (1, σ_3))) else some (0, σ0)
set_option maxHeartbeats 4000000 in
set_option maxRecDepth 100000 in
theorem c_X5_add (l : Launch) (D : va_G) (cy : Nat → ClassId) (o0 : Nat) (q0 : Nat → Nat) (x1 : Int32) (σ0 : pStt) (u : Int32 × pStt) (hf : f_X5_add x1 σ0 = some u) : CT l yX5_add cX5_add 2 (some .boolean) rmX5_add D cy [.ref o0, .int x1] [pX5 cy o0 q0 σ0] (some (.int u.1)) [pX5 cy o0 q0 u.2] := by
  refine CT.of (by decide) (Nat.le_of_ble_eq_true rfl) (fun p e s m args below meth c ls A Q hA hQ S hr hlk hl hw => ?_)
  have hl : lv_has ls 2 [(0, .ref o0), (1, .int x1)] := hl
  rw [f_X5_add] at hf
  refine lv_aload_n S.1 S.2.1 dX5_add_0 rfl (lv_at hl 0 rfl) ?_
  refine gf_X5_21 S hw 0 rfl dX5_add_1 ?_
  refine lv_bipush (v := 8) S.1 S.2.1 dX5_add_4 (by decide) ?_
  refine lv_icmp_lt (tgt := 11) S.1 S.2.1 dX5_add_6 (by decide) (fun c_1 => ?_) (fun c_1 => ?_)
  · replace hf := (if_pos c_1).symm.trans hf
    refine lv_aload_n S.1 S.2.1 dX5_add_11 rfl (lv_at hl 0 rfl) ?_
    refine gf_X5_9 S hw 0 rfl dX5_add_12 ?_
    refine lv_aload_n S.1 S.2.1 dX5_add_15 rfl (lv_at hl 0 rfl) ?_
    refine gf_X5_21 S hw 0 rfl dX5_add_16 ?_
    refine lv_iload_n S.1 S.2.1 dX5_add_19 rfl (lv_at hl 1 rfl) ?_
    obtain ⟨σ_2, e_σ_2, hf⟩ := ob hf
    refine as_X5_0 S hw 0 rfl e_σ_2 dX5_add_20 (fun H locs hw => ?_)
    have hw : PW D A s.heap [pX5 cy o0 q0 σ_2] H locs := hw
    refine lv_aload_n S.1 S.2.1 dX5_add_21 rfl (lv_at hl 0 rfl) ?_
    refine lv_dup S.1 S.2.1 dX5_add_22 rfl ?_
    refine gf_X5_21 S hw 0 rfl dX5_add_23 ?_
    refine lv_iconst (v := 1) S.1 S.2.1 dX5_add_26 (by decide) ?_
    refine lv_iadd S.1 S.2.1 dX5_add_27 ?_
    obtain ⟨σ_3, e_σ_3, hf⟩ := ob hf
    refine pf_X5_21 S hw 0 rfl e_σ_3 dX5_add_28 (fun H locs hw => ?_)
    have hw : PW D A s.heap [pX5 cy o0 q0 σ_3] H locs := hw
    refine lv_iconst (v := 1) S.1 S.2.1 dX5_add_31 (by decide) ?_
    cases hf
    exact w_zret S hr rfl hlk hA hQ hw dX5_add_32
  · replace hf := (if_neg c_1).symm.trans hf
    refine lv_iconst (v := 0) S.1 S.2.1 dX5_add_9 (by decide) ?_
    cases hf
    exact w_zret S hr rfl hlk hA hQ hw dX5_add_10
section
variable {p : Program} {l : Launch} {e : Env} {R : Room} {s : State} {m : MethodId} {args : Array Value} {below : List Frame} {meth : Method} {c : Code} {H : Heap} {locs : List Loc} {cells slots : Nat} {Q : State → Prop} {cc : ByteArray} {pc nL : Nat} {ls : Array Slot} {rest : List Value} {D : va_G} {cy : Nat → ClassId} {A : Nat → Prop} {H0 : Heap} {own : String} {Ps : List va_W}
set_option maxRecDepth 100000 in
theorem k_X5_add {o0 : Nat} {q0 : Nat → Nat} {x1 : Int32} {σ0 : pStt} {u : Int32 × pStt} {index : Nat} (S : CX p m c cc nL s args own D cy) (hl : (Cond.methodLink own index yX5_add).before args s = true) (hw : PW D A H0 Ps H locs) (hf : f_X5_add x1 σ0 = some u) (js : List Nat) (hC : js.map (fun j => Ps[j]?) = [some (pX5 cy o0 q0 σ0)]) (hnd : js.Nodup) (hlen : js.length = 1) (hR : RMok rmX5_add R 2) (hsize : ls.size = nL) (hrest : (rest.map fun v => v.category).sum ≤ 8) (hdg : decode cc pc = .ok (.invokevirtual index, 3)) (hcs : cells ≤ R.cells ∧ slots ≤ R.slots)
    (kk : ∀ (H1 : Heap) (locs1 : List Loc), PW D A H0 (setAll Ps js [pX5 cy o0 q0 u.2]) H1 locs1 → W p l e R s m args below meth c H1 locs1 cells slots Q (F0 m (pc + 3) ls (.int u.1 :: rest))) : W p l e R s m args below meth c H locs cells slots Q (F0 m pc ls (.int x1 :: .ref o0 :: rest)) :=
  w_callV (n := 1) (ov := (some (.int u.1))) (As := [.int x1]) (Cs := [pX5 cy o0 q0 σ0]) (Cs' := [pX5 cy o0 q0 u.2]) S hw (c_X5_add l D cy o0 q0 x1 σ0 u hf) (MF.of S.2.2.2.2 wd566 wd74 (by decide)) (S.2.2.2.2.wd wd564 rfl) (S.2.2.2.2.wd wd565 rfl) hl hR js hC hnd hlen rfl rfl rfl rfl hsize rfl hrest hdg hcs kk
end
abbrev rmX5_fitting : Room := { frames := 0, cells := 0, slots := 0, locals := 0 }
def fl_X5_fitting_4  (σ0 : pStt) : Nat → Int32 → Int32 → Option (Int32)
  | 0, _, _ => none
  | n + 1, y1, y2 => if (σ0.1 0) ≤ y2 then some y1 else (ld (σ0.2 0) 8 y2).bind (fun x_2 => fl_X5_fitting_4 σ0 n ((y1 &&& x_2)) ((y2 + 1)))
def f_X5_fitting (σ0 : pStt) : Option (Int32) := (fl_X5_fitting_4 σ0 2000 ((-1)) 0).bind (fun u_3 => some u_3)
section
variable {p : Program} {l : Launch} {e : Env} {s : State} {m : MethodId} {args : Array Value} {below : List Frame} {meth : Method} {c : Code} {Q : State → Prop} {D : va_G} {cy : Nat → ClassId} {A : Nat → Prop} {H0 : Heap}
set_option maxHeartbeats 4000000 in
set_option maxRecDepth 100000 in
theorem lp_X5_fitting_4 (S : CX p m c cX5_fitting 3 s args RX5 D cy) {o0 : Nat} {q0 : Nat → Nat} {σ0 : pStt}  : ∀ (n : Nat) (y1 : Int32) (y2 : Int32) (H : Heap) (locs : List Loc) (ls : Array Slot) (u : Int32), PW D A H0 [pX5 cy o0 q0 σ0] H locs → lv_has ls 3 [(0, .ref o0), (1, .int y1), (2, .int y2)] → fl_X5_fitting_4 σ0 n y1 y2 = some u → (∀ (H : Heap) (locs : List Loc) (ls : Array Slot), PW D A H0 [pX5 cy o0 q0 σ0] H locs → lv_has ls 3 [(1, .int u)] → W p l e rmX5_fitting s m args below meth c H locs 0 0 Q (F0 m 27 ls [])) → W p l e rmX5_fitting s m args below meth c H locs 0 0 Q (F0 m 4 ls []) := by
  intro n
  induction n with
  | zero =>
    intro y1 y2 H locs ls u hw hl hf K0
    rw [fl_X5_fitting_4] at hf
    cases hf
  | succ n ih =>
    intro y1 y2 H locs ls u hw hl hf K0
    rw [fl_X5_fitting_4] at hf
    refine lv_iload_n S.1 S.2.1 dX5_fitting_4 rfl (lv_at hl 2 rfl) ?_
    refine lv_aload_n S.1 S.2.1 dX5_fitting_5 rfl (lv_at hl 0 rfl) ?_
    refine gf_X5_21 S hw 0 rfl dX5_fitting_6 ?_
    refine lv_icmp_ge (tgt := 27) S.1 S.2.1 dX5_fitting_9 (by decide) (fun c_1 => ?_) (fun c_1 => ?_)
    · replace hf := (if_pos c_1).symm.trans hf
      cases hf
      exact K0 _ _ _ hw (lv_sub hl [1] rfl)
    · replace hf := (if_neg c_1).symm.trans hf
      refine lv_iload_n S.1 S.2.1 dX5_fitting_12 rfl (lv_at hl 1 rfl) ?_
      refine lv_aload_n S.1 S.2.1 dX5_fitting_13 rfl (lv_at hl 0 rfl) ?_
      refine gf_X5_9 S hw 0 rfl dX5_fitting_14 ?_
      refine lv_iload_n S.1 S.2.1 dX5_fitting_17 rfl (lv_at hl 2 rfl) ?_
      obtain ⟨x_2, e_x_2, hf⟩ := ob hf
      refine al_X5_0 S hw 0 rfl e_x_2 dX5_fitting_18 ?_
      refine lv_iand S.1 S.2.1 dX5_fitting_19 ?_
      refine lv_istore_n (lv' := [(1, .int ((y1 &&& x_2))), (0, .ref o0), (2, .int y2)]) S.1 S.2.1 dX5_fitting_20 rfl hl (by decide) rfl (fun ls hl => ?_)
      refine lv_iinc (v := (y2 + 1)) (lv' := [(2, .int ((y2 + 1))), (1, .int ((y1 &&& x_2))), (0, .ref o0)]) S.1 S.2.1 dX5_fitting_21 hl (k := 2) rfl rfl (by decide) rfl (fun ls hl => ?_)
      refine lv_goto (tgt := 4) S.1 S.2.1 dX5_fitting_24 (by decide) ?_
      exact ih _ _ _ _ _ _ hw (lv_sub hl [2, 1, 0] rfl) hf K0
end
set_option maxHeartbeats 4000000 in
set_option maxRecDepth 100000 in
theorem c_X5_fitting (l : Launch) (D : va_G) (cy : Nat → ClassId) (o0 : Nat) (q0 : Nat → Nat) (σ0 : pStt) (u : Int32) (hf : f_X5_fitting σ0 = some u) : CT l yX5_fitting cX5_fitting 3 (some .int) rmX5_fitting D cy [.ref o0] [pX5 cy o0 q0 σ0] (some (.int u)) [pX5 cy o0 q0 σ0] := by
  refine CT.of (by decide) (Nat.le_of_ble_eq_true rfl) (fun p e s m args below meth c ls A Q hA hQ S hr hlk hl hw => ?_)
  have hl : lv_has ls 3 [(0, .ref o0)] := hl
  rw [f_X5_fitting] at hf
  refine lv_iconst (v := (-1)) S.1 S.2.1 dX5_fitting_0 (by decide) ?_
  refine lv_istore_n (lv' := [(1, .int ((-1))), (0, .ref o0)]) S.1 S.2.1 dX5_fitting_1 rfl hl (by decide) rfl (fun ls hl => ?_)
  refine lv_iconst (v := 0) S.1 S.2.1 dX5_fitting_2 (by decide) ?_
  refine lv_istore_n (lv' := [(2, .int 0), (1, .int ((-1))), (0, .ref o0)]) S.1 S.2.1 dX5_fitting_3 rfl hl (by decide) rfl (fun ls hl => ?_)
  obtain ⟨u_3, e_u_3, hf⟩ := ob hf
  refine lp_X5_fitting_4 S 2000 _ _ _ _ _ _ hw (lv_sub hl [2, 1, 0] rfl) e_u_3 ?_
  · intro H locs ls hw hl
    refine lv_iload_n S.1 S.2.1 dX5_fitting_27 rfl (lv_at hl 0 rfl) ?_
    cases hf
    exact w_iret S hr hlk hA hQ hw dX5_fitting_28
section
variable {p : Program} {l : Launch} {e : Env} {R : Room} {s : State} {m : MethodId} {args : Array Value} {below : List Frame} {meth : Method} {c : Code} {H : Heap} {locs : List Loc} {cells slots : Nat} {Q : State → Prop} {cc : ByteArray} {pc nL : Nat} {ls : Array Slot} {rest : List Value} {D : va_G} {cy : Nat → ClassId} {A : Nat → Prop} {H0 : Heap} {own : String} {Ps : List va_W}
set_option maxRecDepth 100000 in
theorem k_X5_fitting {o0 : Nat} {q0 : Nat → Nat}  {σ0 : pStt} {u : Int32} {index : Nat} (S : CX p m c cc nL s args own D cy) (hl : (Cond.methodLink own index yX5_fitting).before args s = true) (hw : PW D A H0 Ps H locs) (hf : f_X5_fitting σ0 = some u) (js : List Nat) (hC : js.map (fun j => Ps[j]?) = [some (pX5 cy o0 q0 σ0)]) (hnd : js.Nodup) (hlen : js.length = 1) (hR : RMok rmX5_fitting R 3) (hsize : ls.size = nL) (hrest : (rest.map fun v => v.category).sum ≤ 8) (hdg : decode cc pc = .ok (.invokevirtual index, 3)) (hcs : cells ≤ R.cells ∧ slots ≤ R.slots)
    (kk : ∀ (H1 : Heap) (locs1 : List Loc), PW D A H0 (setAll Ps js [pX5 cy o0 q0 σ0]) H1 locs1 → W p l e R s m args below meth c H1 locs1 cells slots Q (F0 m (pc + 3) ls (.int u :: rest))) : W p l e R s m args below meth c H locs cells slots Q (F0 m pc ls (.ref o0 :: rest)) :=
  w_callV (n := 0) (ov := (some (.int u))) (As := []) (Cs := [pX5 cy o0 q0 σ0]) (Cs' := [pX5 cy o0 q0 σ0]) S hw (c_X5_fitting l D cy o0 q0 σ0 u hf) (MF.of S.2.2.2.2 wd578 wd74 (by decide)) (S.2.2.2.2.wd wd576 rfl) (S.2.2.2.2.wd wd577 rfl) hl hR js hC hnd hlen rfl rfl rfl rfl hsize rfl hrest hdg hcs kk
end
abbrev rmX2_winningStep : Room := { frames := 1, cells := 0, slots := 0, locals := 21 }
def fl_X2_winningStep_12 (y3 : Int32) (y4 : Int32) (σ0 : pStt) (σ1 : pStt) : Nat → Int32 → Option ((Int32) ⊕ (Unit))
  | 0, _ => none
  | n + 1, y5 => if 8 ≤ y5 then some (.inr (())) else (f_X8_holds y4 y5).bind (fun u_3 => if u_3 = 0 then fl_X2_winningStep_12 y3 y4 σ0 σ1 n ((y5 + 1)) else (ld (σ0.2 0) 256 ((y3 ||| ((1 : Int32) <<< (y5 &&& 31))))).bind (fun x_5 => (f_X8_holds x_5 y5).bind (fun u_6 => if u_6 = 0 then some (.inl y5) else fl_X2_winningStep_12 y3 y4 σ0 σ1 n ((y5 + 1)))))
def f_X2_winningStep (x2 : Int32) (x3 : Int32) (σ0 : pStt) (σ1 : pStt) : Option (Int32) := (ld (σ1.2 0) 8 x2).bind (fun x_1 => (fl_X2_winningStep_12 x3 ((x_1 &&& (x3 ^^^ (-1 : Int32)))) σ0 σ1 2000 0).bind (fun u_8 => sm (fun a_9 => some a_9) (fun a_10 => some ((-6))) u_8))
section
variable {p : Program} {l : Launch} {e : Env} {s : State} {m : MethodId} {args : Array Value} {below : List Frame} {meth : Method} {c : Code} {Q : State → Prop} {D : va_G} {cy : Nat → ClassId} {A : Nat → Prop} {H0 : Heap}
set_option maxHeartbeats 4000000 in
set_option maxRecDepth 100000 in
theorem lp_X2_winningStep_12 (S : CX p m c cX2_winningStep 6 s args RX2 D cy) {o0 : Nat} {q0 : Nat → Nat} {o1 : Nat} {q1 : Nat → Nat} {σ0 : pStt} {σ1 : pStt} {y3 : Int32} {y4 : Int32} : ∀ (n : Nat) (y5 : Int32) (H : Heap) (locs : List Loc) (ls : Array Slot) (u : (Int32) ⊕ (Unit)), PW D A H0 [pX2 cy o0 q0 σ0, pX1 cy o1 q1 σ1] H locs → lv_has ls 6 [(0, .ref o0), (3, .int y3), (4, .int y4), (5, .int y5)] → fl_X2_winningStep_12 y3 y4 σ0 σ1 n y5 = some u → (∀ a, u = .inl a → ∀ (H : Heap) (locs : List Loc) (ls : Array Slot), PW D A H0 [pX2 cy o0 q0 σ0, pX1 cy o1 q1 σ1] H locs → lv_has ls 6 [(5, .int a)] → W p l e rmX2_winningStep s m args below meth c H locs 0 0 Q (F0 m 48 ls [])) → (∀ a, u = .inr a → ∀ (H : Heap) (locs : List Loc) (ls : Array Slot), PW D A H0 [pX2 cy o0 q0 σ0, pX1 cy o1 q1 σ1] H locs → lv_has ls 6 [] → W p l e rmX2_winningStep s m args below meth c H locs 0 0 Q (F0 m 57 ls [])) → W p l e rmX2_winningStep s m args below meth c H locs 0 0 Q (F0 m 12 ls []) := by
  intro n
  induction n with
  | zero =>
    intro y5 H locs ls u hw hl hf K0 K1
    rw [fl_X2_winningStep_12] at hf
    cases hf
  | succ n ih =>
    intro y5 H locs ls u hw hl hf K0 K1
    rw [fl_X2_winningStep_12] at hf
    refine lv_iload S.1 S.2.1 dX2_winningStep_12 (lv_at hl 3 rfl) ?_
    refine lv_bipush (v := 8) S.1 S.2.1 dX2_winningStep_14 (by decide) ?_
    refine lv_icmp_ge (tgt := 57) S.1 S.2.1 dX2_winningStep_16 (by decide) (fun c_2 => ?_) (fun c_2 => ?_)
    · replace hf := (if_pos c_2).symm.trans hf
      cases hf
      exact K1 _ rfl _ _ _ hw (lv_sub hl [] rfl)
    · replace hf := (if_neg c_2).symm.trans hf
      refine lv_iload S.1 S.2.1 dX2_winningStep_19 (lv_at hl 2 rfl) ?_
      refine lv_iload S.1 S.2.1 dX2_winningStep_21 (lv_at hl 3 rfl) ?_
      obtain ⟨u_3, e_u_3, hf⟩ := ob hf
      refine kn_X8_holds S (S.2.2.2.2.wd wd605 rfl) hw e_u_3 [] rfl (by decide) rfl ⟨rfl, rfl, Nat.le_of_ble_eq_true rfl, Nat.le_of_ble_eq_true rfl⟩ hl.1 (Nat.le_of_ble_eq_true rfl) dX2_winningStep_23 ⟨Nat.zero_le _, Nat.zero_le _⟩ (fun H locs hw => ?_)
      have hw : PW D A H0 [pX2 cy o0 q0 σ0, pX1 cy o1 q1 σ1] H locs := hw
      refine lv_if_eq (tgt := 51) S.1 S.2.1 dX2_winningStep_26 (by decide) (fun c_4 => ?_) (fun c_4 => ?_)
      · replace hf := (if_pos c_4).symm.trans hf
        refine lv_iinc (v := (y5 + 1)) (lv' := [(5, .int ((y5 + 1))), (0, .ref o0), (3, .int y3), (4, .int y4)]) S.1 S.2.1 dX2_winningStep_51 hl (k := 3) rfl rfl (by decide) rfl (fun ls hl => ?_)
        refine lv_goto (tgt := 12) S.1 S.2.1 dX2_winningStep_54 (by decide) ?_
        exact ih _ _ _ _ _ hw (lv_sub hl [1, 2, 3, 0] rfl) hf K0 K1
      · replace hf := (if_neg c_4).symm.trans hf
        refine lv_aload_n S.1 S.2.1 dX2_winningStep_29 rfl (lv_at hl 0 rfl) ?_
        refine gf_X2_9 S hw 0 rfl dX2_winningStep_30 ?_
        refine lv_iload_n S.1 S.2.1 dX2_winningStep_33 rfl (lv_at hl 1 rfl) ?_
        refine lv_iconst (v := 1) S.1 S.2.1 dX2_winningStep_34 (by decide) ?_
        refine lv_iload S.1 S.2.1 dX2_winningStep_35 (lv_at hl 3 rfl) ?_
        refine lv_ishl S.1 S.2.1 dX2_winningStep_37 ?_
        refine lv_ior S.1 S.2.1 dX2_winningStep_38 ?_
        obtain ⟨x_5, e_x_5, hf⟩ := ob hf
        refine al_X2_0 S hw 0 rfl e_x_5 dX2_winningStep_39 ?_
        refine lv_iload S.1 S.2.1 dX2_winningStep_40 (lv_at hl 3 rfl) ?_
        obtain ⟨u_6, e_u_6, hf⟩ := ob hf
        refine kn_X8_holds S (S.2.2.2.2.wd wd605 rfl) hw e_u_6 [] rfl (by decide) rfl ⟨rfl, rfl, Nat.le_of_ble_eq_true rfl, Nat.le_of_ble_eq_true rfl⟩ hl.1 (Nat.le_of_ble_eq_true rfl) dX2_winningStep_42 ⟨Nat.zero_le _, Nat.zero_le _⟩ (fun H locs hw => ?_)
        have hw : PW D A H0 [pX2 cy o0 q0 σ0, pX1 cy o1 q1 σ1] H locs := hw
        refine lv_if_ne (tgt := 51) S.1 S.2.1 dX2_winningStep_45 (by decide) (fun c_7 => ?_) (fun c_7 => ?_)
        · replace hf := (if_neg c_7).symm.trans hf
          refine lv_iinc (v := (y5 + 1)) (lv' := [(5, .int ((y5 + 1))), (0, .ref o0), (3, .int y3), (4, .int y4)]) S.1 S.2.1 dX2_winningStep_51 hl (k := 3) rfl rfl (by decide) rfl (fun ls hl => ?_)
          refine lv_goto (tgt := 12) S.1 S.2.1 dX2_winningStep_54 (by decide) ?_
          exact ih _ _ _ _ _ hw (lv_sub hl [1, 2, 3, 0] rfl) hf K0 K1
        · replace hf := (if_pos c_7).symm.trans hf
          cases hf
          exact K0 _ rfl _ _ _ hw (lv_sub hl [3] rfl)
end
set_option maxHeartbeats 4000000 in
set_option maxRecDepth 100000 in
theorem c_X2_winningStep (l : Launch) (D : va_G) (cy : Nat → ClassId) (o0 : Nat) (q0 : Nat → Nat) (o1 : Nat) (q1 : Nat → Nat) (x2 : Int32) (x3 : Int32) (σ0 : pStt) (σ1 : pStt) (u : Int32) (hf : f_X2_winningStep x2 x3 σ0 σ1 = some u) : CT l yX2_winningStep cX2_winningStep 6 (some .int) rmX2_winningStep D cy [.ref o0, .ref ((q1 0)), .int x2, .int x3] [pX2 cy o0 q0 σ0, pX1 cy o1 q1 σ1] (some (.int u)) [pX2 cy o0 q0 σ0, pX1 cy o1 q1 σ1] := by
  refine CT.of (by decide) (Nat.le_of_ble_eq_true rfl) (fun p e s m args below meth c ls A Q hA hQ S hr hlk hl hw => ?_)
  have hl : lv_has ls 6 [(0, .ref o0), (1, .ref ((q1 0))), (2, .int x2), (3, .int x3)] := hl
  rw [f_X2_winningStep] at hf
  refine lv_aload_n S.1 S.2.1 dX2_winningStep_0 rfl (lv_at hl 1 rfl) ?_
  refine lv_iload_n S.1 S.2.1 dX2_winningStep_1 rfl (lv_at hl 2 rfl) ?_
  obtain ⟨x_1, e_x_1, hf⟩ := ob hf
  refine al_X1_0 S hw 1 rfl e_x_1 dX2_winningStep_2 ?_
  refine lv_iload_n S.1 S.2.1 dX2_winningStep_3 rfl (lv_at hl 3 rfl) ?_
  refine lv_iconst (v := (-1)) S.1 S.2.1 dX2_winningStep_4 (by decide) ?_
  refine lv_ixor S.1 S.2.1 dX2_winningStep_5 ?_
  refine lv_iand S.1 S.2.1 dX2_winningStep_6 ?_
  refine lv_istore (lv' := [(4, .int ((x_1 &&& (x3 ^^^ (-1 : Int32))))), (0, .ref o0), (1, .ref ((q1 0))), (2, .int x2), (3, .int x3)]) S.1 S.2.1 dX2_winningStep_7 hl (by decide) rfl (fun ls hl => ?_)
  refine lv_iconst (v := 0) S.1 S.2.1 dX2_winningStep_9 (by decide) ?_
  refine lv_istore (lv' := [(5, .int 0), (4, .int ((x_1 &&& (x3 ^^^ (-1 : Int32))))), (0, .ref o0), (1, .ref ((q1 0))), (2, .int x2), (3, .int x3)]) S.1 S.2.1 dX2_winningStep_10 hl (by decide) rfl (fun ls hl => ?_)
  obtain ⟨u_8, e_u_8, hf⟩ := ob hf
  refine lp_X2_winningStep_12 S 2000 _ _ _ _ _ hw (lv_sub hl [2, 5, 1, 0] rfl) e_u_8 ?_ ?_
  · intro a_9 h_a_9 H locs ls hw hl
    subst h_a_9
    replace hf := (sm_l _ _ _).symm.trans hf
    refine lv_iload S.1 S.2.1 dX2_winningStep_48 (lv_at hl 0 rfl) ?_
    cases hf
    exact w_iret S hr hlk hA hQ hw dX2_winningStep_50
  · intro a_10 h_a_10 H locs ls hw hl
    subst h_a_10
    replace hf := (sm_r _ _ _).symm.trans hf
    refine lv_bipush (v := (-6)) S.1 S.2.1 dX2_winningStep_57 (by decide) ?_
    cases hf
    exact w_iret S hr hlk hA hQ hw dX2_winningStep_59
section
variable {p : Program} {l : Launch} {e : Env} {R : Room} {s : State} {m : MethodId} {args : Array Value} {below : List Frame} {meth : Method} {c : Code} {H : Heap} {locs : List Loc} {cells slots : Nat} {Q : State → Prop} {cc : ByteArray} {pc nL : Nat} {ls : Array Slot} {rest : List Value} {D : va_G} {cy : Nat → ClassId} {A : Nat → Prop} {H0 : Heap} {own : String} {Ps : List va_W}
set_option maxRecDepth 100000 in
theorem k_X2_winningStep {o0 : Nat} {q0 : Nat → Nat} {o1 : Nat} {q1 : Nat → Nat} {x2 : Int32} {x3 : Int32} {σ0 : pStt} {σ1 : pStt} {u : Int32} {index : Nat} (S : CX p m c cc nL s args own D cy) (hl : (Cond.methodLink own index yX2_winningStep).before args s = true) (hw : PW D A H0 Ps H locs) (hf : f_X2_winningStep x2 x3 σ0 σ1 = some u) (js : List Nat) (hC : js.map (fun j => Ps[j]?) = [some (pX2 cy o0 q0 σ0), some (pX1 cy o1 q1 σ1)]) (hnd : js.Nodup) (hlen : js.length = 2) (hR : RMok rmX2_winningStep R 6) (hsize : ls.size = nL) (hrest : (rest.map fun v => v.category).sum ≤ 8) (hdg : decode cc pc = .ok (.invokevirtual index, 3)) (hcs : cells ≤ R.cells ∧ slots ≤ R.slots)
    (kk : ∀ (H1 : Heap) (locs1 : List Loc), PW D A H0 (setAll Ps js [pX2 cy o0 q0 σ0, pX1 cy o1 q1 σ1]) H1 locs1 → W p l e R s m args below meth c H1 locs1 cells slots Q (F0 m (pc + 3) ls (.int u :: rest))) : W p l e R s m args below meth c H locs cells slots Q (F0 m pc ls (.int x3 :: .int x2 :: .ref ((q1 0)) :: .ref o0 :: rest)) :=
  w_callV (n := 3) (ov := (some (.int u))) (As := [.ref ((q1 0)), .int x2, .int x3]) (Cs := [pX2 cy o0 q0 σ0, pX1 cy o1 q1 σ1]) (Cs' := [pX2 cy o0 q0 σ0, pX1 cy o1 q1 σ1]) S hw (c_X2_winningStep l D cy o0 q0 o1 q1 x2 x3 σ0 σ1 u hf) (MF.of S.2.2.2.2 wd609 wd77 (by decide)) (S.2.2.2.2.wd wd608 rfl) (S.2.2.2.2.wd wd13 rfl) hl hR js hC hnd hlen rfl rfl rfl rfl hsize rfl hrest hdg hcs kk
end
abbrev rmX2_winningFrom : Room := { frames := 2, cells := 0, slots := 0, locals := 46 }
def fl_X2_winningFrom_5 (y2 : Int32) (σ0 : pStt) (σ1 : pStt) : Nat → Int32 → Int32 → Option (Int32)
  | 0, _, _ => none
  | n + 1, y3, y4 => if 8 ≤ y4 then some y3 else (f_X8_holds y2 y4).bind (fun u_2 => if u_2 = 0 then fl_X2_winningFrom_5 y2 σ0 σ1 n y3 ((y4 + 1)) else (f_X2_winningStep y4 y2 σ0 σ1).bind (fun u_4 => if u_4 = (-6) then fl_X2_winningFrom_5 y2 σ0 σ1 n y3 ((y4 + 1)) else fl_X2_winningFrom_5 y2 σ0 σ1 n ((y3 ||| ((1 : Int32) <<< (y4 &&& 31)))) ((y4 + 1))))
def f_X2_winningFrom (x2 : Int32) (σ0 : pStt) (σ1 : pStt) : Option (Int32) := (fl_X2_winningFrom_5 x2 σ0 σ1 2000 0 0).bind (fun u_6 => some u_6)
section
variable {p : Program} {l : Launch} {e : Env} {s : State} {m : MethodId} {args : Array Value} {below : List Frame} {meth : Method} {c : Code} {Q : State → Prop} {D : va_G} {cy : Nat → ClassId} {A : Nat → Prop} {H0 : Heap}
set_option maxHeartbeats 4000000 in
set_option maxRecDepth 100000 in
theorem lp_X2_winningFrom_5 (S : CX p m c cX2_winningFrom 5 s args RX2 D cy) {o0 : Nat} {q0 : Nat → Nat} {o1 : Nat} {q1 : Nat → Nat} {σ0 : pStt} {σ1 : pStt} {y2 : Int32} : ∀ (n : Nat) (y3 : Int32) (y4 : Int32) (H : Heap) (locs : List Loc) (ls : Array Slot) (u : Int32), PW D A H0 [pX2 cy o0 q0 σ0, pX1 cy o1 q1 σ1] H locs → lv_has ls 5 [(0, .ref o0), (1, .ref ((q1 0))), (2, .int y2), (3, .int y3), (4, .int y4)] → fl_X2_winningFrom_5 y2 σ0 σ1 n y3 y4 = some u → (∀ (H : Heap) (locs : List Loc) (ls : Array Slot), PW D A H0 [pX2 cy o0 q0 σ0, pX1 cy o1 q1 σ1] H locs → lv_has ls 5 [(3, .int u)] → W p l e rmX2_winningFrom s m args below meth c H locs 0 0 Q (F0 m 47 ls [])) → W p l e rmX2_winningFrom s m args below meth c H locs 0 0 Q (F0 m 5 ls []) := by
  intro n
  induction n with
  | zero =>
    intro y3 y4 H locs ls u hw hl hf K0
    rw [fl_X2_winningFrom_5] at hf
    cases hf
  | succ n ih =>
    intro y3 y4 H locs ls u hw hl hf K0
    rw [fl_X2_winningFrom_5] at hf
    refine lv_iload S.1 S.2.1 dX2_winningFrom_5 (lv_at hl 4 rfl) ?_
    refine lv_bipush (v := 8) S.1 S.2.1 dX2_winningFrom_7 (by decide) ?_
    refine lv_icmp_ge (tgt := 47) S.1 S.2.1 dX2_winningFrom_9 (by decide) (fun c_1 => ?_) (fun c_1 => ?_)
    · replace hf := (if_pos c_1).symm.trans hf
      cases hf
      exact K0 _ _ _ hw (lv_sub hl [3] rfl)
    · replace hf := (if_neg c_1).symm.trans hf
      refine lv_iload_n S.1 S.2.1 dX2_winningFrom_12 rfl (lv_at hl 2 rfl) ?_
      refine lv_iload S.1 S.2.1 dX2_winningFrom_13 (lv_at hl 4 rfl) ?_
      obtain ⟨u_2, e_u_2, hf⟩ := ob hf
      refine kn_X8_holds S (S.2.2.2.2.wd wd605 rfl) hw e_u_2 [] rfl (by decide) rfl ⟨rfl, rfl, Nat.le_of_ble_eq_true rfl, Nat.le_of_ble_eq_true rfl⟩ hl.1 (Nat.le_of_ble_eq_true rfl) dX2_winningFrom_15 ⟨Nat.zero_le _, Nat.zero_le _⟩ (fun H locs hw => ?_)
      have hw : PW D A H0 [pX2 cy o0 q0 σ0, pX1 cy o1 q1 σ1] H locs := hw
      refine lv_if_eq (tgt := 41) S.1 S.2.1 dX2_winningFrom_18 (by decide) (fun c_3 => ?_) (fun c_3 => ?_)
      · replace hf := (if_pos c_3).symm.trans hf
        refine lv_iinc (v := (y4 + 1)) (lv' := [(4, .int ((y4 + 1))), (0, .ref o0), (1, .ref ((q1 0))), (2, .int y2), (3, .int y3)]) S.1 S.2.1 dX2_winningFrom_41 hl (k := 4) rfl rfl (by decide) rfl (fun ls hl => ?_)
        refine lv_goto (tgt := 5) S.1 S.2.1 dX2_winningFrom_44 (by decide) ?_
        exact ih _ _ _ _ _ _ hw (lv_sub hl [1, 2, 3, 4, 0] rfl) hf K0
      · replace hf := (if_neg c_3).symm.trans hf
        refine lv_aload_n S.1 S.2.1 dX2_winningFrom_21 rfl (lv_at hl 0 rfl) ?_
        refine lv_aload_n S.1 S.2.1 dX2_winningFrom_22 rfl (lv_at hl 1 rfl) ?_
        refine lv_iload S.1 S.2.1 dX2_winningFrom_23 (lv_at hl 4 rfl) ?_
        refine lv_iload_n S.1 S.2.1 dX2_winningFrom_25 rfl (lv_at hl 2 rfl) ?_
        obtain ⟨u_4, e_u_4, hf⟩ := ob hf
        refine k_X2_winningStep S (S.2.2.2.2.wd wd606 rfl) hw e_u_4 [0, 1] rfl (by decide) rfl ⟨rfl, rfl, Nat.le_of_ble_eq_true rfl, Nat.le_of_ble_eq_true rfl⟩ hl.1 (Nat.le_of_ble_eq_true rfl) dX2_winningFrom_26 ⟨Nat.zero_le _, Nat.zero_le _⟩ (fun H locs hw => ?_)
        have hw : PW D A H0 [pX2 cy o0 q0 σ0, pX1 cy o1 q1 σ1] H locs := hw
        refine lv_bipush (v := (-6)) S.1 S.2.1 dX2_winningFrom_29 (by decide) ?_
        refine lv_icmp_eq (tgt := 41) S.1 S.2.1 dX2_winningFrom_31 (by decide) (fun c_5 => ?_) (fun c_5 => ?_)
        · replace hf := (if_pos c_5).symm.trans hf
          refine lv_iinc (v := (y4 + 1)) (lv' := [(4, .int ((y4 + 1))), (0, .ref o0), (1, .ref ((q1 0))), (2, .int y2), (3, .int y3)]) S.1 S.2.1 dX2_winningFrom_41 hl (k := 4) rfl rfl (by decide) rfl (fun ls hl => ?_)
          refine lv_goto (tgt := 5) S.1 S.2.1 dX2_winningFrom_44 (by decide) ?_
          exact ih _ _ _ _ _ _ hw (lv_sub hl [1, 2, 3, 4, 0] rfl) hf K0
        · replace hf := (if_neg c_5).symm.trans hf
          refine lv_iload_n S.1 S.2.1 dX2_winningFrom_34 rfl (lv_at hl 3 rfl) ?_
          refine lv_iconst (v := 1) S.1 S.2.1 dX2_winningFrom_35 (by decide) ?_
          refine lv_iload S.1 S.2.1 dX2_winningFrom_36 (lv_at hl 4 rfl) ?_
          refine lv_ishl S.1 S.2.1 dX2_winningFrom_38 ?_
          refine lv_ior S.1 S.2.1 dX2_winningFrom_39 ?_
          refine lv_istore_n (lv' := [(3, .int ((y3 ||| ((1 : Int32) <<< (y4 &&& 31))))), (0, .ref o0), (1, .ref ((q1 0))), (2, .int y2), (4, .int y4)]) S.1 S.2.1 dX2_winningFrom_40 rfl hl (by decide) rfl (fun ls hl => ?_)
          refine lv_iinc (v := (y4 + 1)) (lv' := [(4, .int ((y4 + 1))), (3, .int ((y3 ||| ((1 : Int32) <<< (y4 &&& 31))))), (0, .ref o0), (1, .ref ((q1 0))), (2, .int y2)]) S.1 S.2.1 dX2_winningFrom_41 hl (k := 4) rfl rfl (by decide) rfl (fun ls hl => ?_)
          refine lv_goto (tgt := 5) S.1 S.2.1 dX2_winningFrom_44 (by decide) ?_
          exact ih _ _ _ _ _ _ hw (lv_sub hl [2, 3, 4, 1, 0] rfl) hf K0
end
set_option maxHeartbeats 4000000 in
set_option maxRecDepth 100000 in
theorem c_X2_winningFrom (l : Launch) (D : va_G) (cy : Nat → ClassId) (o0 : Nat) (q0 : Nat → Nat) (o1 : Nat) (q1 : Nat → Nat) (x2 : Int32) (σ0 : pStt) (σ1 : pStt) (u : Int32) (hf : f_X2_winningFrom x2 σ0 σ1 = some u) : CT l yX2_winningFrom cX2_winningFrom 5 (some .int) rmX2_winningFrom D cy [.ref o0, .ref ((q1 0)), .int x2] [pX2 cy o0 q0 σ0, pX1 cy o1 q1 σ1] (some (.int u)) [pX2 cy o0 q0 σ0, pX1 cy o1 q1 σ1] := by
  refine CT.of (by decide) (Nat.le_of_ble_eq_true rfl) (fun p e s m args below meth c ls A Q hA hQ S hr hlk hl hw => ?_)
  have hl : lv_has ls 5 [(0, .ref o0), (1, .ref ((q1 0))), (2, .int x2)] := hl
  rw [f_X2_winningFrom] at hf
  refine lv_iconst (v := 0) S.1 S.2.1 dX2_winningFrom_0 (by decide) ?_
  refine lv_istore_n (lv' := [(3, .int 0), (0, .ref o0), (1, .ref ((q1 0))), (2, .int x2)]) S.1 S.2.1 dX2_winningFrom_1 rfl hl (by decide) rfl (fun ls hl => ?_)
  refine lv_iconst (v := 0) S.1 S.2.1 dX2_winningFrom_2 (by decide) ?_
  refine lv_istore (lv' := [(4, .int 0), (3, .int 0), (0, .ref o0), (1, .ref ((q1 0))), (2, .int x2)]) S.1 S.2.1 dX2_winningFrom_3 hl (by decide) rfl (fun ls hl => ?_)
  obtain ⟨u_6, e_u_6, hf⟩ := ob hf
  refine lp_X2_winningFrom_5 S 2000 _ _ _ _ _ _ hw (lv_sub hl [2, 3, 4, 1, 0] rfl) e_u_6 ?_
  · intro H locs ls hw hl
    refine lv_iload_n S.1 S.2.1 dX2_winningFrom_47 rfl (lv_at hl 0 rfl) ?_
    cases hf
    exact w_iret S hr hlk hA hQ hw dX2_winningFrom_48
section
variable {p : Program} {l : Launch} {e : Env} {R : Room} {s : State} {m : MethodId} {args : Array Value} {below : List Frame} {meth : Method} {c : Code} {H : Heap} {locs : List Loc} {cells slots : Nat} {Q : State → Prop} {cc : ByteArray} {pc nL : Nat} {ls : Array Slot} {rest : List Value} {D : va_G} {cy : Nat → ClassId} {A : Nat → Prop} {H0 : Heap} {own : String} {Ps : List va_W}
set_option maxRecDepth 100000 in
theorem k_X2_winningFrom {o0 : Nat} {q0 : Nat → Nat} {o1 : Nat} {q1 : Nat → Nat} {x2 : Int32} {σ0 : pStt} {σ1 : pStt} {u : Int32} {index : Nat} (S : CX p m c cc nL s args own D cy) (hl : (Cond.methodLink own index yX2_winningFrom).before args s = true) (hw : PW D A H0 Ps H locs) (hf : f_X2_winningFrom x2 σ0 σ1 = some u) (js : List Nat) (hC : js.map (fun j => Ps[j]?) = [some (pX2 cy o0 q0 σ0), some (pX1 cy o1 q1 σ1)]) (hnd : js.Nodup) (hlen : js.length = 2) (hR : RMok rmX2_winningFrom R 5) (hsize : ls.size = nL) (hrest : (rest.map fun v => v.category).sum ≤ 8) (hdg : decode cc pc = .ok (.invokevirtual index, 3)) (hcs : cells ≤ R.cells ∧ slots ≤ R.slots)
    (kk : ∀ (H1 : Heap) (locs1 : List Loc), PW D A H0 (setAll Ps js [pX2 cy o0 q0 σ0, pX1 cy o1 q1 σ1]) H1 locs1 → W p l e R s m args below meth c H1 locs1 cells slots Q (F0 m (pc + 3) ls (.int u :: rest))) : W p l e R s m args below meth c H locs cells slots Q (F0 m pc ls (.int x2 :: .ref ((q1 0)) :: .ref o0 :: rest)) :=
  w_callV (n := 2) (ov := (some (.int u))) (As := [.ref ((q1 0)), .int x2]) (Cs := [pX2 cy o0 q0 σ0, pX1 cy o1 q1 σ1]) (Cs' := [pX2 cy o0 q0 σ0, pX1 cy o1 q1 σ1]) S hw (c_X2_winningFrom l D cy o0 q0 o1 q1 x2 σ0 σ1 u hf) (MF.of S.2.2.2.2 wd604 wd77 (by decide)) (S.2.2.2.2.wd wd603 rfl) (S.2.2.2.2.wd wd12 rfl) hl hR js hC hnd hlen rfl rfl rfl rfl hsize rfl hrest hdg hcs kk
end
abbrev rmX2_firstStep : Room := { frames := 3, cells := 0, slots := 0, locals := 70 }
def fl_X2_firstStep_8 (y2 : Int32) (σ1 : pStt) : Nat → Int32 → pStt → Option (pStt)
  | 0, _, _ => none
  | n + 1, y3, σ0 => if y3 ≤ 0 then some σ0 else (f_X2_winningFrom y3 σ0 σ1).bind (fun u_2 => (stA σ0 0 256 y3 u_2).bind (fun σ_3 => fl_X2_firstStep_8 y2 σ1 n ((y3 + (-1))) σ_3))
def f_X2_firstStep (x2 : Int32) (σ0 : pStt) (σ1 : pStt) : Option (Int32 × pStt) := (fl_X2_firstStep_8 x2 σ1 2000 (((256 : Int32) - (1 : Int32))) σ0).bind (fun u_4 => (f_X2_winningStep x2 (((1 : Int32) <<< (x2 &&& 31))) u_4 σ1).bind (fun u_5 => some (u_5, u_4)))
section
variable {p : Program} {l : Launch} {e : Env} {s : State} {m : MethodId} {args : Array Value} {below : List Frame} {meth : Method} {c : Code} {Q : State → Prop} {D : va_G} {cy : Nat → ClassId} {A : Nat → Prop} {H0 : Heap}
set_option maxHeartbeats 4000000 in
set_option maxRecDepth 100000 in
theorem lp_X2_firstStep_8 (S : CX p m c cX2_firstStep 4 s args RX2 D cy) {o0 : Nat} {q0 : Nat → Nat} {o1 : Nat} {q1 : Nat → Nat} {σ1 : pStt} {y2 : Int32} : ∀ (n : Nat) (y3 : Int32) (σ0 : pStt) (H : Heap) (locs : List Loc) (ls : Array Slot) (u : pStt), PW D A H0 [pX2 cy o0 q0 σ0, pX1 cy o1 q1 σ1] H locs → lv_has ls 4 [(0, .ref o0), (1, .ref ((q1 0))), (2, .int y2), (3, .int y3)] → fl_X2_firstStep_8 y2 σ1 n y3 σ0 = some u → (∀ (H : Heap) (locs : List Loc) (ls : Array Slot), PW D A H0 [pX2 cy o0 q0 u, pX1 cy o1 q1 σ1] H locs → lv_has ls 4 [(0, .ref o0), (1, .ref ((q1 0))), (2, .int y2)] → W p l e rmX2_firstStep s m args below meth c H locs 0 0 Q (F0 m 30 ls [])) → W p l e rmX2_firstStep s m args below meth c H locs 0 0 Q (F0 m 8 ls []) := by
  intro n
  induction n with
  | zero =>
    intro y3 σ0 H locs ls u hw hl hf K0
    rw [fl_X2_firstStep_8] at hf
    cases hf
  | succ n ih =>
    intro y3 σ0 H locs ls u hw hl hf K0
    rw [fl_X2_firstStep_8] at hf
    refine lv_iload_n S.1 S.2.1 dX2_firstStep_8 rfl (lv_at hl 3 rfl) ?_
    refine lv_if_le (tgt := 30) S.1 S.2.1 dX2_firstStep_9 (by decide) (fun c_1 => ?_) (fun c_1 => ?_)
    · replace hf := (if_pos c_1).symm.trans hf
      cases hf
      exact K0 _ _ _ hw (lv_sub hl [0, 1, 2] rfl)
    · replace hf := (if_neg c_1).symm.trans hf
      refine lv_aload_n S.1 S.2.1 dX2_firstStep_12 rfl (lv_at hl 0 rfl) ?_
      refine gf_X2_9 S hw 0 rfl dX2_firstStep_13 ?_
      refine lv_iload_n S.1 S.2.1 dX2_firstStep_16 rfl (lv_at hl 3 rfl) ?_
      refine lv_aload_n S.1 S.2.1 dX2_firstStep_17 rfl (lv_at hl 0 rfl) ?_
      refine lv_aload_n S.1 S.2.1 dX2_firstStep_18 rfl (lv_at hl 1 rfl) ?_
      refine lv_iload_n S.1 S.2.1 dX2_firstStep_19 rfl (lv_at hl 3 rfl) ?_
      obtain ⟨u_2, e_u_2, hf⟩ := ob hf
      refine k_X2_winningFrom S (S.2.2.2.2.wd wd601 rfl) hw e_u_2 [0, 1] rfl (by decide) rfl ⟨rfl, rfl, Nat.le_of_ble_eq_true rfl, Nat.le_of_ble_eq_true rfl⟩ hl.1 (Nat.le_of_ble_eq_true rfl) dX2_firstStep_20 ⟨Nat.zero_le _, Nat.zero_le _⟩ (fun H locs hw => ?_)
      have hw : PW D A H0 [pX2 cy o0 q0 σ0, pX1 cy o1 q1 σ1] H locs := hw
      obtain ⟨σ_3, e_σ_3, hf⟩ := ob hf
      refine as_X2_0 S hw 0 rfl e_σ_3 dX2_firstStep_23 (fun H locs hw => ?_)
      have hw : PW D A H0 [pX2 cy o0 q0 σ_3, pX1 cy o1 q1 σ1] H locs := hw
      refine lv_iinc (v := (y3 + (-1))) (lv' := [(3, .int ((y3 + (-1)))), (0, .ref o0), (1, .ref ((q1 0))), (2, .int y2)]) S.1 S.2.1 dX2_firstStep_24 hl (k := 3) rfl rfl (by decide) rfl (fun ls hl => ?_)
      refine lv_goto (tgt := 8) S.1 S.2.1 dX2_firstStep_27 (by decide) ?_
      exact ih _ _ _ _ _ _ hw (lv_sub hl [1, 2, 3, 0] rfl) hf K0
end
set_option maxHeartbeats 4000000 in
set_option maxRecDepth 100000 in
theorem c_X2_firstStep (l : Launch) (D : va_G) (cy : Nat → ClassId) (o0 : Nat) (q0 : Nat → Nat) (o1 : Nat) (q1 : Nat → Nat) (x2 : Int32) (σ0 : pStt) (σ1 : pStt) (u : Int32 × pStt) (hf : f_X2_firstStep x2 σ0 σ1 = some u) : CT l yX2_firstStep cX2_firstStep 4 (some .int) rmX2_firstStep D cy [.ref o0, .ref ((q1 0)), .int x2] [pX2 cy o0 q0 σ0, pX1 cy o1 q1 σ1] (some (.int u.1)) [pX2 cy o0 q0 u.2, pX1 cy o1 q1 σ1] := by
  refine CT.of (by decide) (Nat.le_of_ble_eq_true rfl) (fun p e s m args below meth c ls A Q hA hQ S hr hlk hl hw => ?_)
  have hl : lv_has ls 4 [(0, .ref o0), (1, .ref ((q1 0))), (2, .int x2)] := hl
  rw [f_X2_firstStep] at hf
  refine lv_aload_n S.1 S.2.1 dX2_firstStep_0 rfl (lv_at hl 0 rfl) ?_
  refine gf_X2_9 S hw 0 rfl dX2_firstStep_1 ?_
  refine w_alen (v := 256) S hw 0 1 rfl rfl (by decide) dX2_firstStep_4 ?_
  refine lv_iconst (v := 1) S.1 S.2.1 dX2_firstStep_5 (by decide) ?_
  refine lv_isub S.1 S.2.1 dX2_firstStep_6 ?_
  refine lv_istore_n (lv' := [(3, .int (((256 : Int32) - (1 : Int32)))), (0, .ref o0), (1, .ref ((q1 0))), (2, .int x2)]) S.1 S.2.1 dX2_firstStep_7 rfl hl (by decide) rfl (fun ls hl => ?_)
  obtain ⟨u_4, e_u_4, hf⟩ := ob hf
  refine lp_X2_firstStep_8 S 2000 _ _ _ _ _ _ hw (lv_sub hl [1, 2, 3, 0] rfl) e_u_4 ?_
  · intro H locs ls hw hl
    refine lv_aload_n S.1 S.2.1 dX2_firstStep_30 rfl (lv_at hl 0 rfl) ?_
    refine lv_aload_n S.1 S.2.1 dX2_firstStep_31 rfl (lv_at hl 1 rfl) ?_
    refine lv_iload_n S.1 S.2.1 dX2_firstStep_32 rfl (lv_at hl 2 rfl) ?_
    refine lv_iconst (v := 1) S.1 S.2.1 dX2_firstStep_33 (by decide) ?_
    refine lv_iload_n S.1 S.2.1 dX2_firstStep_34 rfl (lv_at hl 2 rfl) ?_
    refine lv_ishl S.1 S.2.1 dX2_firstStep_35 ?_
    obtain ⟨u_5, e_u_5, hf⟩ := ob hf
    refine k_X2_winningStep S (S.2.2.2.2.wd wd606 rfl) hw e_u_5 [0, 1] rfl (by decide) rfl ⟨rfl, rfl, Nat.le_of_ble_eq_true rfl, Nat.le_of_ble_eq_true rfl⟩ hl.1 (Nat.le_of_ble_eq_true rfl) dX2_firstStep_36 ⟨Nat.zero_le _, Nat.zero_le _⟩ (fun H locs hw => ?_)
    have hw : PW D A s.heap [pX2 cy o0 q0 u_4, pX1 cy o1 q1 σ1] H locs := hw
    cases hf
    exact w_iret S hr hlk hA hQ hw dX2_firstStep_39
section
variable {p : Program} {l : Launch} {e : Env} {R : Room} {s : State} {m : MethodId} {args : Array Value} {below : List Frame} {meth : Method} {c : Code} {H : Heap} {locs : List Loc} {cells slots : Nat} {Q : State → Prop} {cc : ByteArray} {pc nL : Nat} {ls : Array Slot} {rest : List Value} {D : va_G} {cy : Nat → ClassId} {A : Nat → Prop} {H0 : Heap} {own : String} {Ps : List va_W}
set_option maxRecDepth 100000 in
theorem k_X2_firstStep {o0 : Nat} {q0 : Nat → Nat} {o1 : Nat} {q1 : Nat → Nat} {x2 : Int32} {σ0 : pStt} {σ1 : pStt} {u : Int32 × pStt} {index : Nat} (S : CX p m c cc nL s args own D cy) (hl : (Cond.methodLink own index yX2_firstStep).before args s = true) (hw : PW D A H0 Ps H locs) (hf : f_X2_firstStep x2 σ0 σ1 = some u) (js : List Nat) (hC : js.map (fun j => Ps[j]?) = [some (pX2 cy o0 q0 σ0), some (pX1 cy o1 q1 σ1)]) (hnd : js.Nodup) (hlen : js.length = 2) (hR : RMok rmX2_firstStep R 4) (hsize : ls.size = nL) (hrest : (rest.map fun v => v.category).sum ≤ 8) (hdg : decode cc pc = .ok (.invokevirtual index, 3)) (hcs : cells ≤ R.cells ∧ slots ≤ R.slots)
    (kk : ∀ (H1 : Heap) (locs1 : List Loc), PW D A H0 (setAll Ps js [pX2 cy o0 q0 u.2, pX1 cy o1 q1 σ1]) H1 locs1 → W p l e R s m args below meth c H1 locs1 cells slots Q (F0 m (pc + 3) ls (.int u.1 :: rest))) : W p l e R s m args below meth c H locs cells slots Q (F0 m pc ls (.int x2 :: .ref ((q1 0)) :: .ref o0 :: rest)) :=
  w_callV (n := 2) (ov := (some (.int u.1))) (As := [.ref ((q1 0)), .int x2]) (Cs := [pX2 cy o0 q0 σ0, pX1 cy o1 q1 σ1]) (Cs' := [pX2 cy o0 q0 u.2, pX1 cy o1 q1 σ1]) S hw (c_X2_firstStep l D cy o0 q0 o1 q1 x2 σ0 σ1 u hf) (MF.of S.2.2.2.2 wd600 wd77 (by decide)) (S.2.2.2.2.wd wd598 rfl) (S.2.2.2.2.wd wd599 rfl) hl hR js hC hnd hlen rfl rfl rfl rfl hsize rfl hrest hdg hcs kk
end
abbrev rmX0_apart : Room := { frames := 1, cells := 0, slots := 0, locals := 25 }
def fl_X0_apart_8 (y1 : Int32) (y2 : Int32) (g0 : (Nat → Int64)) : Nat → Int64 → Int64 → Int32 → Option (Int64)
  | 0, _, _, _ => none
  | n + 1, y3, y5, y7 => if y1 ≤ y7 then some y3 else (ldL g0 6 y7).bind (fun x_2 => (f_X8_power ((((10 : Int32) - y2) : Int32).toInt64) ((y7 * (y1 - y7)))).bind (fun u_3 => (f_X8_pairs ((y1 - y7))).bind (fun u_4 => (f_X8_power 10 u_4).bind (fun u_5 => (nzL ((y7 : Int32).toInt64)).bind (fun z_6 => fl_X0_apart_8 y1 y2 g0 n ((y3 + (((y5 * x_2) * u_3) * u_5))) (((y5 * ((y1 - y7) : Int32).toInt64) / (y7 : Int32).toInt64)) ((y7 + 1)))))))
def f_X0_apart (x1 : Int32) (x2 : Int32) (g0 : (Nat → Int64)) : Option (Int64) := (fl_X0_apart_8 x1 x2 g0 2000 0 1 1).bind (fun u_7 => some u_7)
section
variable {p : Program} {l : Launch} {e : Env} {s : State} {m : MethodId} {args : Array Value} {below : List Frame} {meth : Method} {c : Code} {Q : State → Prop} {D : va_G} {cy : Nat → ClassId} {A : Nat → Prop} {H0 : Heap}
set_option maxHeartbeats 4000000 in
set_option maxRecDepth 100000 in
theorem lp_X0_apart_8 (S : CX p m c cX0_apart 9 s args RX0 D cy) {o0 : Nat} {q0 : Nat → Nat} {g0 : (Nat → Int64)} {y1 : Int32} {y2 : Int32} : ∀ (n : Nat) (y3 : Int64) (y5 : Int64) (y7 : Int32) (H : Heap) (locs : List Loc) (ls : Array Slot) (u : Int64), PW D A H0 [pX0 cy o0 q0 g0] H locs → lv_has ls 9 [(0, .ref o0), (1, .int y1), (2, .int y2), (3, .long y3), (5, .long y5), (7, .int y7)] → fl_X0_apart_8 y1 y2 g0 n y3 y5 y7 = some u → (∀ (H : Heap) (locs : List Loc) (ls : Array Slot), PW D A H0 [pX0 cy o0 q0 g0] H locs → lv_has ls 9 [(3, .long u)] → W p l e rmX0_apart s m args below meth c H locs 0 0 Q (F0 m 77 ls [])) → W p l e rmX0_apart s m args below meth c H locs 0 0 Q (F0 m 8 ls []) := by
  intro n
  induction n with
  | zero =>
    intro y3 y5 y7 H locs ls u hw hl hf K0
    rw [fl_X0_apart_8] at hf
    cases hf
  | succ n ih =>
    intro y3 y5 y7 H locs ls u hw hl hf K0
    rw [fl_X0_apart_8] at hf
    refine lv_iload S.1 S.2.1 dX0_apart_8 (lv_at hl 5 rfl) ?_
    refine lv_iload_n S.1 S.2.1 dX0_apart_10 rfl (lv_at hl 1 rfl) ?_
    refine lv_icmp_ge (tgt := 77) S.1 S.2.1 dX0_apart_11 (by decide) (fun c_1 => ?_) (fun c_1 => ?_)
    · replace hf := (if_pos c_1).symm.trans hf
      cases hf
      exact K0 _ _ _ hw (lv_sub hl [3] rfl)
    · replace hf := (if_neg c_1).symm.trans hf
      refine lv_iload_n S.1 S.2.1 dX0_apart_14 rfl (lv_at hl 1 rfl) ?_
      refine lv_iload S.1 S.2.1 dX0_apart_15 (lv_at hl 5 rfl) ?_
      refine lv_isub S.1 S.2.1 dX0_apart_17 ?_
      refine lv_istore (lv' := [(8, .int ((y1 - y7))), (0, .ref o0), (1, .int y1), (2, .int y2), (3, .long y3), (5, .long y5), (7, .int y7)]) S.1 S.2.1 dX0_apart_18 hl (by decide) rfl (fun ls hl => ?_)
      refine lv_lload_n S.1 S.2.1 dX0_apart_20 rfl (lv_at hl 4 rfl) ?_
      refine lv_lload S.1 S.2.1 dX0_apart_21 (lv_at hl 5 rfl) ?_
      refine lv_aload_n S.1 S.2.1 dX0_apart_23 rfl (lv_at hl 1 rfl) ?_
      refine gf_X0_9 S hw 0 rfl dX0_apart_24 ?_
      refine lv_iload S.1 S.2.1 dX0_apart_27 (lv_at hl 6 rfl) ?_
      obtain ⟨x_2, e_x_2, hf⟩ := ob hf
      refine al_X0_0 S hw 0 rfl e_x_2 dX0_apart_29 ?_
      refine lv_lmul S.1 S.2.1 dX0_apart_30 ?_
      refine lv_bipush (v := 10) S.1 S.2.1 dX0_apart_31 (by decide) ?_
      refine lv_iload_n S.1 S.2.1 dX0_apart_33 rfl (lv_at hl 3 rfl) ?_
      refine lv_isub S.1 S.2.1 dX0_apart_34 ?_
      refine lv_i2l (v := (((10 : Int32) - y2) : Int32).toInt64) S.1 S.2.1 dX0_apart_35 rfl ?_
      refine lv_iload S.1 S.2.1 dX0_apart_36 (lv_at hl 6 rfl) ?_
      refine lv_iload S.1 S.2.1 dX0_apart_38 (lv_at hl 0 rfl) ?_
      refine lv_imul S.1 S.2.1 dX0_apart_40 ?_
      obtain ⟨u_3, e_u_3, hf⟩ := ob hf
      refine kn_X8_power S (S.2.2.2.2.wd wd623 rfl) hw e_u_3 [] rfl (by decide) rfl ⟨rfl, rfl, Nat.le_of_ble_eq_true rfl, Nat.le_of_ble_eq_true rfl⟩ hl.1 (Nat.le_of_ble_eq_true rfl) dX0_apart_41 ⟨Nat.zero_le _, Nat.zero_le _⟩ (fun H locs hw => ?_)
      have hw : PW D A H0 [pX0 cy o0 q0 g0] H locs := hw
      refine lv_lmul S.1 S.2.1 dX0_apart_44 ?_
      refine lv_ldc2 (v := 10) S.1 S.2.1 S.2.2.2.1 (S.2.2.2.2.wd wd619 rfl) dX0_apart_45 ?_
      refine lv_iload S.1 S.2.1 dX0_apart_48 (lv_at hl 0 rfl) ?_
      obtain ⟨u_4, e_u_4, hf⟩ := ob hf
      refine kn_X8_pairs S (S.2.2.2.2.wd wd620 rfl) hw e_u_4 [] rfl (by decide) rfl ⟨rfl, rfl, Nat.le_of_ble_eq_true rfl, Nat.le_of_ble_eq_true rfl⟩ hl.1 (Nat.le_of_ble_eq_true rfl) dX0_apart_50 ⟨Nat.zero_le _, Nat.zero_le _⟩ (fun H locs hw => ?_)
      have hw : PW D A H0 [pX0 cy o0 q0 g0] H locs := hw
      obtain ⟨u_5, e_u_5, hf⟩ := ob hf
      refine kn_X8_power S (S.2.2.2.2.wd wd623 rfl) hw e_u_5 [] rfl (by decide) rfl ⟨rfl, rfl, Nat.le_of_ble_eq_true rfl, Nat.le_of_ble_eq_true rfl⟩ hl.1 (Nat.le_of_ble_eq_true rfl) dX0_apart_53 ⟨Nat.zero_le _, Nat.zero_le _⟩ (fun H locs hw => ?_)
      have hw : PW D A H0 [pX0 cy o0 q0 g0] H locs := hw
      refine lv_lmul S.1 S.2.1 dX0_apart_56 ?_
      refine lv_ladd S.1 S.2.1 dX0_apart_57 ?_
      refine lv_lstore_n (lv' := [(3, .long ((y3 + (((y5 * x_2) * u_3) * u_5)))), (8, .int ((y1 - y7))), (0, .ref o0), (1, .int y1), (2, .int y2), (5, .long y5), (7, .int y7)]) S.1 S.2.1 dX0_apart_58 rfl hl (by decide) rfl (fun ls hl => ?_)
      refine lv_lload S.1 S.2.1 dX0_apart_59 (lv_at hl 5 rfl) ?_
      refine lv_iload S.1 S.2.1 dX0_apart_61 (lv_at hl 1 rfl) ?_
      refine lv_i2l (v := ((y1 - y7) : Int32).toInt64) S.1 S.2.1 dX0_apart_63 rfl ?_
      refine lv_lmul S.1 S.2.1 dX0_apart_64 ?_
      refine lv_iload S.1 S.2.1 dX0_apart_65 (lv_at hl 6 rfl) ?_
      refine lv_i2l (v := (y7 : Int32).toInt64) S.1 S.2.1 dX0_apart_67 rfl ?_
      obtain ⟨z_6, e_z_6, hf⟩ := ob hf
      refine lv_ldiv S.1 S.2.1 dX0_apart_68 (nzL_inv e_z_6) ?_
      refine lv_lstore (lv' := [(5, .long (((y5 * ((y1 - y7) : Int32).toInt64) / (y7 : Int32).toInt64))), (3, .long ((y3 + (((y5 * x_2) * u_3) * u_5)))), (8, .int ((y1 - y7))), (0, .ref o0), (1, .int y1), (2, .int y2), (7, .int y7)]) S.1 S.2.1 dX0_apart_69 hl (by decide) rfl (fun ls hl => ?_)
      refine lv_iinc (v := (y7 + 1)) (lv' := [(7, .int ((y7 + 1))), (5, .long (((y5 * ((y1 - y7) : Int32).toInt64) / (y7 : Int32).toInt64))), (3, .long ((y3 + (((y5 * x_2) * u_3) * u_5)))), (8, .int ((y1 - y7))), (0, .ref o0), (1, .int y1), (2, .int y2)]) S.1 S.2.1 dX0_apart_71 hl (k := 6) rfl rfl (by decide) rfl (fun ls hl => ?_)
      refine lv_goto (tgt := 8) S.1 S.2.1 dX0_apart_74 (by decide) ?_
      exact ih _ _ _ _ _ _ _ hw (lv_sub hl [4, 5, 6, 2, 1, 0] rfl) hf K0
end
set_option maxHeartbeats 4000000 in
set_option maxRecDepth 100000 in
theorem c_X0_apart (l : Launch) (D : va_G) (cy : Nat → ClassId) (o0 : Nat) (q0 : Nat → Nat) (x1 : Int32) (x2 : Int32) (g0 : (Nat → Int64)) (u : Int64) (hf : f_X0_apart x1 x2 g0 = some u) : CT l yX0_apart cX0_apart 9 (some .long) rmX0_apart D cy [.ref o0, .int x1, .int x2] [pX0 cy o0 q0 g0] (some (.long u)) [pX0 cy o0 q0 g0] := by
  refine CT.of (by decide) (Nat.le_of_ble_eq_true rfl) (fun p e s m args below meth c ls A Q hA hQ S hr hlk hl hw => ?_)
  have hl : lv_has ls 9 [(0, .ref o0), (1, .int x1), (2, .int x2)] := hl
  rw [f_X0_apart] at hf
  refine lv_lconst (v := 0) S.1 S.2.1 dX0_apart_0 (by decide) ?_
  refine lv_lstore_n (lv' := [(3, .long 0), (0, .ref o0), (1, .int x1), (2, .int x2)]) S.1 S.2.1 dX0_apart_1 rfl hl (by decide) rfl (fun ls hl => ?_)
  refine lv_lconst (v := 1) S.1 S.2.1 dX0_apart_2 (by decide) ?_
  refine lv_lstore (lv' := [(5, .long 1), (3, .long 0), (0, .ref o0), (1, .int x1), (2, .int x2)]) S.1 S.2.1 dX0_apart_3 hl (by decide) rfl (fun ls hl => ?_)
  refine lv_iconst (v := 1) S.1 S.2.1 dX0_apart_5 (by decide) ?_
  refine lv_istore (lv' := [(7, .int 1), (5, .long 1), (3, .long 0), (0, .ref o0), (1, .int x1), (2, .int x2)]) S.1 S.2.1 dX0_apart_6 hl (by decide) rfl (fun ls hl => ?_)
  obtain ⟨u_7, e_u_7, hf⟩ := ob hf
  refine lp_X0_apart_8 S 2000 _ _ _ _ _ _ _ hw (lv_sub hl [3, 4, 5, 2, 1, 0] rfl) e_u_7 ?_
  · intro H locs ls hw hl
    refine lv_lload_n S.1 S.2.1 dX0_apart_77 rfl (lv_at hl 0 rfl) ?_
    cases hf
    exact w_lret S hr hlk hA hQ hw dX0_apart_78
section
variable {p : Program} {l : Launch} {e : Env} {R : Room} {s : State} {m : MethodId} {args : Array Value} {below : List Frame} {meth : Method} {c : Code} {H : Heap} {locs : List Loc} {cells slots : Nat} {Q : State → Prop} {cc : ByteArray} {pc nL : Nat} {ls : Array Slot} {rest : List Value} {D : va_G} {cy : Nat → ClassId} {A : Nat → Prop} {H0 : Heap} {own : String} {Ps : List va_W}
set_option maxRecDepth 100000 in
theorem k_X0_apart {o0 : Nat} {q0 : Nat → Nat} {x1 : Int32} {x2 : Int32} {g0 : (Nat → Int64)} {u : Int64} {index : Nat} (S : CX p m c cc nL s args own D cy) (hl : (Cond.methodLink own index yX0_apart).before args s = true) (hw : PW D A H0 Ps H locs) (hf : f_X0_apart x1 x2 g0 = some u) (js : List Nat) (hC : js.map (fun j => Ps[j]?) = [some (pX0 cy o0 q0 g0)]) (hnd : js.Nodup) (hlen : js.length = 1) (hR : RMok rmX0_apart R 9) (hsize : ls.size = nL) (hrest : (rest.map fun v => v.category).sum ≤ 8) (hdg : decode cc pc = .ok (.invokevirtual index, 3)) (hcs : cells ≤ R.cells ∧ slots ≤ R.slots)
    (kk : ∀ (H1 : Heap) (locs1 : List Loc), PW D A H0 (setAll Ps js [pX0 cy o0 q0 g0]) H1 locs1 → W p l e R s m args below meth c H1 locs1 cells slots Q (F0 m (pc + 3) ls (.long u :: rest))) : W p l e R s m args below meth c H locs cells slots Q (F0 m pc ls (.int x2 :: .int x1 :: .ref o0 :: rest)) :=
  w_callV (n := 2) (ov := (some (.long u))) (As := [.int x1, .int x2]) (Cs := [pX0 cy o0 q0 g0]) (Cs' := [pX0 cy o0 q0 g0]) S hw (c_X0_apart l D cy o0 q0 x1 x2 g0 u hf) (MF.of S.2.2.2.2 wd629 wd78 (by decide)) (S.2.2.2.2.wd wd628 rfl) (S.2.2.2.2.wd wd14 rfl) hl hR js hC hnd hlen rfl rfl rfl rfl hsize rfl hrest hdg hcs kk
end
abbrev rmX0_hangingTogether : Room := { frames := 2, cells := 0, slots := 0, locals := 53 }
def fl_X0_hangingTogether_2 (y1 : Int32) (y2 : Int32)  : Nat → Int32 → (Nat → Int64) → Option ((Nat → Int64))
  | 0, _, _ => none
  | n + 1, y3, g0 => if y1 < y3 then some g0 else (f_X8_pairs y3).bind (fun u_2 => (f_X8_power 10 u_2).bind (fun u_3 => (f_X0_apart y3 y2 g0).bind (fun u_4 => (stL g0 6 y3 ((u_3 - u_4))).bind (fun g_5 => fl_X0_hangingTogether_2 y1 y2 n ((y3 + 1)) g_5))))
def f_X0_hangingTogether (x1 : Int32) (x2 : Int32) (g0 : (Nat → Int64)) : Option (Int64 × (Nat → Int64)) := (fl_X0_hangingTogether_2 x1 x2 2000 1 g0).bind (fun u_6 => (ldL u_6 6 x1).bind (fun x_7 => some (x_7, u_6)))
section
variable {p : Program} {l : Launch} {e : Env} {s : State} {m : MethodId} {args : Array Value} {below : List Frame} {meth : Method} {c : Code} {Q : State → Prop} {D : va_G} {cy : Nat → ClassId} {A : Nat → Prop} {H0 : Heap}
set_option maxHeartbeats 4000000 in
set_option maxRecDepth 100000 in
theorem lp_X0_hangingTogether_2 (S : CX p m c cX0_hangingTogether 4 s args RX0 D cy) {o0 : Nat} {q0 : Nat → Nat}  {y1 : Int32} {y2 : Int32} : ∀ (n : Nat) (y3 : Int32) (g0 : (Nat → Int64)) (H : Heap) (locs : List Loc) (ls : Array Slot) (u : (Nat → Int64)), PW D A H0 [pX0 cy o0 q0 g0] H locs → lv_has ls 4 [(0, .ref o0), (1, .int y1), (2, .int y2), (3, .int y3)] → fl_X0_hangingTogether_2 y1 y2 n y3 g0 = some u → (∀ (H : Heap) (locs : List Loc) (ls : Array Slot), PW D A H0 [pX0 cy o0 q0 u] H locs → lv_has ls 4 [(0, .ref o0), (1, .int y1)] → W p l e rmX0_hangingTogether s m args below meth c H locs 0 0 Q (F0 m 36 ls [])) → W p l e rmX0_hangingTogether s m args below meth c H locs 0 0 Q (F0 m 2 ls []) := by
  intro n
  induction n with
  | zero =>
    intro y3 g0 H locs ls u hw hl hf K0
    rw [fl_X0_hangingTogether_2] at hf
    cases hf
  | succ n ih =>
    intro y3 g0 H locs ls u hw hl hf K0
    rw [fl_X0_hangingTogether_2] at hf
    refine lv_iload_n S.1 S.2.1 dX0_hangingTogether_2 rfl (lv_at hl 3 rfl) ?_
    refine lv_iload_n S.1 S.2.1 dX0_hangingTogether_3 rfl (lv_at hl 1 rfl) ?_
    refine lv_icmp_gt (tgt := 36) S.1 S.2.1 dX0_hangingTogether_4 (by decide) (fun c_1 => ?_) (fun c_1 => ?_)
    · replace hf := (if_pos c_1).symm.trans hf
      cases hf
      exact K0 _ _ _ hw (lv_sub hl [0, 1] rfl)
    · replace hf := (if_neg c_1).symm.trans hf
      refine lv_aload_n S.1 S.2.1 dX0_hangingTogether_7 rfl (lv_at hl 0 rfl) ?_
      refine gf_X0_9 S hw 0 rfl dX0_hangingTogether_8 ?_
      refine lv_iload_n S.1 S.2.1 dX0_hangingTogether_11 rfl (lv_at hl 3 rfl) ?_
      refine lv_ldc2 (v := 10) S.1 S.2.1 S.2.2.2.1 (S.2.2.2.2.wd wd619 rfl) dX0_hangingTogether_12 ?_
      refine lv_iload_n S.1 S.2.1 dX0_hangingTogether_15 rfl (lv_at hl 3 rfl) ?_
      obtain ⟨u_2, e_u_2, hf⟩ := ob hf
      refine kn_X8_pairs S (S.2.2.2.2.wd wd620 rfl) hw e_u_2 [] rfl (by decide) rfl ⟨rfl, rfl, Nat.le_of_ble_eq_true rfl, Nat.le_of_ble_eq_true rfl⟩ hl.1 (Nat.le_of_ble_eq_true rfl) dX0_hangingTogether_16 ⟨Nat.zero_le _, Nat.zero_le _⟩ (fun H locs hw => ?_)
      have hw : PW D A H0 [pX0 cy o0 q0 g0] H locs := hw
      obtain ⟨u_3, e_u_3, hf⟩ := ob hf
      refine kn_X8_power S (S.2.2.2.2.wd wd623 rfl) hw e_u_3 [] rfl (by decide) rfl ⟨rfl, rfl, Nat.le_of_ble_eq_true rfl, Nat.le_of_ble_eq_true rfl⟩ hl.1 (Nat.le_of_ble_eq_true rfl) dX0_hangingTogether_19 ⟨Nat.zero_le _, Nat.zero_le _⟩ (fun H locs hw => ?_)
      have hw : PW D A H0 [pX0 cy o0 q0 g0] H locs := hw
      refine lv_aload_n S.1 S.2.1 dX0_hangingTogether_22 rfl (lv_at hl 0 rfl) ?_
      refine lv_iload_n S.1 S.2.1 dX0_hangingTogether_23 rfl (lv_at hl 3 rfl) ?_
      refine lv_iload_n S.1 S.2.1 dX0_hangingTogether_24 rfl (lv_at hl 2 rfl) ?_
      obtain ⟨u_4, e_u_4, hf⟩ := ob hf
      refine k_X0_apart S (S.2.2.2.2.wd wd626 rfl) hw e_u_4 [0] rfl (by decide) rfl ⟨rfl, rfl, Nat.le_of_ble_eq_true rfl, Nat.le_of_ble_eq_true rfl⟩ hl.1 (Nat.le_of_ble_eq_true rfl) dX0_hangingTogether_25 ⟨Nat.zero_le _, Nat.zero_le _⟩ (fun H locs hw => ?_)
      have hw : PW D A H0 [pX0 cy o0 q0 g0] H locs := hw
      refine lv_lsub S.1 S.2.1 dX0_hangingTogether_28 ?_
      obtain ⟨g_5, e_g_5, hf⟩ := ob hf
      refine as_X0_0 S hw 0 rfl e_g_5 dX0_hangingTogether_29 (fun H locs hw => ?_)
      have hw : PW D A H0 [pX0 cy o0 q0 g_5] H locs := hw
      refine lv_iinc (v := (y3 + 1)) (lv' := [(3, .int ((y3 + 1))), (0, .ref o0), (1, .int y1), (2, .int y2)]) S.1 S.2.1 dX0_hangingTogether_30 hl (k := 3) rfl rfl (by decide) rfl (fun ls hl => ?_)
      refine lv_goto (tgt := 2) S.1 S.2.1 dX0_hangingTogether_33 (by decide) ?_
      exact ih _ _ _ _ _ _ hw (lv_sub hl [1, 2, 3, 0] rfl) hf K0
end
set_option maxHeartbeats 4000000 in
set_option maxRecDepth 100000 in
theorem c_X0_hangingTogether (l : Launch) (D : va_G) (cy : Nat → ClassId) (o0 : Nat) (q0 : Nat → Nat) (x1 : Int32) (x2 : Int32) (g0 : (Nat → Int64)) (u : Int64 × (Nat → Int64)) (hf : f_X0_hangingTogether x1 x2 g0 = some u) : CT l yX0_hangingTogether cX0_hangingTogether 4 (some .long) rmX0_hangingTogether D cy [.ref o0, .int x1, .int x2] [pX0 cy o0 q0 g0] (some (.long u.1)) [pX0 cy o0 q0 u.2] := by
  refine CT.of (by decide) (Nat.le_of_ble_eq_true rfl) (fun p e s m args below meth c ls A Q hA hQ S hr hlk hl hw => ?_)
  have hl : lv_has ls 4 [(0, .ref o0), (1, .int x1), (2, .int x2)] := hl
  rw [f_X0_hangingTogether] at hf
  refine lv_iconst (v := 1) S.1 S.2.1 dX0_hangingTogether_0 (by decide) ?_
  refine lv_istore_n (lv' := [(3, .int 1), (0, .ref o0), (1, .int x1), (2, .int x2)]) S.1 S.2.1 dX0_hangingTogether_1 rfl hl (by decide) rfl (fun ls hl => ?_)
  obtain ⟨u_6, e_u_6, hf⟩ := ob hf
  refine lp_X0_hangingTogether_2 S 2000 _ _ _ _ _ _ hw (lv_sub hl [1, 2, 3, 0] rfl) e_u_6 ?_
  · intro H locs ls hw hl
    refine lv_aload_n S.1 S.2.1 dX0_hangingTogether_36 rfl (lv_at hl 0 rfl) ?_
    refine gf_X0_9 S hw 0 rfl dX0_hangingTogether_37 ?_
    refine lv_iload_n S.1 S.2.1 dX0_hangingTogether_40 rfl (lv_at hl 1 rfl) ?_
    obtain ⟨x_7, e_x_7, hf⟩ := ob hf
    refine al_X0_0 S hw 0 rfl e_x_7 dX0_hangingTogether_41 ?_
    cases hf
    exact w_lret S hr hlk hA hQ hw dX0_hangingTogether_42
section
variable {p : Program} {l : Launch} {e : Env} {R : Room} {s : State} {m : MethodId} {args : Array Value} {below : List Frame} {meth : Method} {c : Code} {H : Heap} {locs : List Loc} {cells slots : Nat} {Q : State → Prop} {cc : ByteArray} {pc nL : Nat} {ls : Array Slot} {rest : List Value} {D : va_G} {cy : Nat → ClassId} {A : Nat → Prop} {H0 : Heap} {own : String} {Ps : List va_W}
set_option maxRecDepth 100000 in
theorem k_X0_hangingTogether {o0 : Nat} {q0 : Nat → Nat} {x1 : Int32} {x2 : Int32} {g0 : (Nat → Int64)} {u : Int64 × (Nat → Int64)} {index : Nat} (S : CX p m c cc nL s args own D cy) (hl : (Cond.methodLink own index yX0_hangingTogether).before args s = true) (hw : PW D A H0 Ps H locs) (hf : f_X0_hangingTogether x1 x2 g0 = some u) (js : List Nat) (hC : js.map (fun j => Ps[j]?) = [some (pX0 cy o0 q0 g0)]) (hnd : js.Nodup) (hlen : js.length = 1) (hR : RMok rmX0_hangingTogether R 4) (hsize : ls.size = nL) (hrest : (rest.map fun v => v.category).sum ≤ 8) (hdg : decode cc pc = .ok (.invokevirtual index, 3)) (hcs : cells ≤ R.cells ∧ slots ≤ R.slots)
    (kk : ∀ (H1 : Heap) (locs1 : List Loc), PW D A H0 (setAll Ps js [pX0 cy o0 q0 u.2]) H1 locs1 → W p l e R s m args below meth c H1 locs1 cells slots Q (F0 m (pc + 3) ls (.long u.1 :: rest))) : W p l e R s m args below meth c H locs cells slots Q (F0 m pc ls (.int x2 :: .int x1 :: .ref o0 :: rest)) :=
  w_callV (n := 2) (ov := (some (.long u.1))) (As := [.int x1, .int x2]) (Cs := [pX0 cy o0 q0 g0]) (Cs' := [pX0 cy o0 q0 u.2]) S hw (c_X0_hangingTogether l D cy o0 q0 x1 x2 g0 u hf) (MF.of S.2.2.2.2 wd618 wd78 (by decide)) (S.2.2.2.2.wd wd616 rfl) (S.2.2.2.2.wd wd617 rfl) hl hR js hC hnd hlen rfl rfl rfl rfl hsize rfl hrest hdg hcs kk
end
abbrev rmX6_begin : Room := { frames := 2, cells := 0, slots := 0, locals := 61 }
def f_X6_begin (σ0 : pStt) (σ1 : pStt) (σ2 : pStt) : Option (pStt × pStt) := (f_X1_copyFrom σ2 σ1).bind (fun u_1 => (some (sI σ0 0 0)).bind (fun σ_2 => (some (sI σ_2 1 0)).bind (fun σ_3 => (some (sI σ_3 2 0)).bind (fun σ_4 => (some (sI σ_4 3 ((-6)))).bind (fun σ_5 => (some (sI σ_5 4 ((-6)))).bind (fun σ_6 => some (σ_6, u_1)))))))
set_option maxHeartbeats 4000000 in
set_option maxRecDepth 100000 in
theorem c_X6_begin (l : Launch) (D : va_G) (cy : Nat → ClassId) (o0 : Nat) (w0 : Nat → Nat) (o1 : Nat) (q1 : Nat → Nat) (q2 : Nat → Nat) (σ0 : pStt) (σ1 : pStt) (σ2 : pStt) (u : pStt × pStt) (hf : f_X6_begin σ0 σ1 σ2 = some u) : CT l yX6_begin cX6_begin 2 none rmX6_begin D cy [.ref o0, .ref o1] [pX6 o0 w0 σ0, pX1 cy o1 q1 σ1, pX1 cy (w0 0) q2 σ2] none [pX6 o0 w0 u.1, pX1 cy o1 q1 σ1, pX1 cy (w0 0) q2 u.2] := by
  refine CT.of (by decide) (Nat.le_of_ble_eq_true rfl) (fun p e s m args below meth c ls A Q hA hQ S hr hlk hl hw => ?_)
  have hl : lv_has ls 2 [(0, .ref o0), (1, .ref o1)] := hl
  rw [f_X6_begin] at hf
  refine lv_aload_n S.1 S.2.1 dX6_begin_0 rfl (lv_at hl 0 rfl) ?_
  refine gf_X6_12 S hw 0 rfl dX6_begin_1 ?_
  refine lv_aload_n S.1 S.2.1 dX6_begin_4 rfl (lv_at hl 1 rfl) ?_
  obtain ⟨u_1, e_u_1, hf⟩ := ob hf
  refine k_X1_copyFrom S (S.2.2.2.2.wd wd399 rfl) hw e_u_1 [2, 1] rfl (by decide) rfl ⟨rfl, rfl, Nat.le_of_ble_eq_true rfl, Nat.le_of_ble_eq_true rfl⟩ hl.1 (Nat.le_of_ble_eq_true rfl) dX6_begin_5 ⟨Nat.zero_le _, Nat.zero_le _⟩ (fun H locs hw => ?_)
  have hw : PW D A s.heap [pX6 o0 w0 σ0, pX1 cy o1 q1 σ1, pX1 cy (w0 0) q2 u_1] H locs := hw
  refine lv_aload_n S.1 S.2.1 dX6_begin_8 rfl (lv_at hl 0 rfl) ?_
  refine lv_iconst (v := 0) S.1 S.2.1 dX6_begin_9 (by decide) ?_
  obtain ⟨σ_2, e_σ_2, hf⟩ := ob hf
  refine pf_X6_22 S hw 0 rfl e_σ_2 dX6_begin_10 (fun H locs hw => ?_)
  have hw : PW D A s.heap [pX6 o0 w0 σ_2, pX1 cy o1 q1 σ1, pX1 cy (w0 0) q2 u_1] H locs := hw
  refine lv_aload_n S.1 S.2.1 dX6_begin_13 rfl (lv_at hl 0 rfl) ?_
  refine lv_iconst (v := 0) S.1 S.2.1 dX6_begin_14 (by decide) ?_
  obtain ⟨σ_3, e_σ_3, hf⟩ := ob hf
  refine pf_X6_26 S hw 0 rfl e_σ_3 dX6_begin_15 (fun H locs hw => ?_)
  have hw : PW D A s.heap [pX6 o0 w0 σ_3, pX1 cy o1 q1 σ1, pX1 cy (w0 0) q2 u_1] H locs := hw
  refine lv_aload_n S.1 S.2.1 dX6_begin_18 rfl (lv_at hl 0 rfl) ?_
  refine lv_iconst (v := 0) S.1 S.2.1 dX6_begin_19 (by decide) ?_
  obtain ⟨σ_4, e_σ_4, hf⟩ := ob hf
  refine pf_X6_29 S hw 0 rfl e_σ_4 dX6_begin_20 (fun H locs hw => ?_)
  have hw : PW D A s.heap [pX6 o0 w0 σ_4, pX1 cy o1 q1 σ1, pX1 cy (w0 0) q2 u_1] H locs := hw
  refine lv_aload_n S.1 S.2.1 dX6_begin_23 rfl (lv_at hl 0 rfl) ?_
  refine lv_bipush (v := (-6)) S.1 S.2.1 dX6_begin_24 (by decide) ?_
  obtain ⟨σ_5, e_σ_5, hf⟩ := ob hf
  refine pf_X6_32 S hw 0 rfl e_σ_5 dX6_begin_26 (fun H locs hw => ?_)
  have hw : PW D A s.heap [pX6 o0 w0 σ_5, pX1 cy o1 q1 σ1, pX1 cy (w0 0) q2 u_1] H locs := hw
  refine lv_aload_n S.1 S.2.1 dX6_begin_29 rfl (lv_at hl 0 rfl) ?_
  refine lv_bipush (v := (-6)) S.1 S.2.1 dX6_begin_30 (by decide) ?_
  obtain ⟨σ_6, e_σ_6, hf⟩ := ob hf
  refine pf_X6_35 S hw 0 rfl e_σ_6 dX6_begin_32 (fun H locs hw => ?_)
  have hw : PW D A s.heap [pX6 o0 w0 σ_6, pX1 cy o1 q1 σ1, pX1 cy (w0 0) q2 u_1] H locs := hw
  cases hf
  exact w_vret S hr hlk hA hQ hw dX6_begin_35
section
variable {p : Program} {l : Launch} {e : Env} {R : Room} {s : State} {m : MethodId} {args : Array Value} {below : List Frame} {meth : Method} {c : Code} {H : Heap} {locs : List Loc} {cells slots : Nat} {Q : State → Prop} {cc : ByteArray} {pc nL : Nat} {ls : Array Slot} {rest : List Value} {D : va_G} {cy : Nat → ClassId} {A : Nat → Prop} {H0 : Heap} {own : String} {Ps : List va_W}
set_option maxRecDepth 100000 in
theorem k_X6_begin {o0 : Nat} {w0 : Nat → Nat} {o1 : Nat} {q1 : Nat → Nat} {q2 : Nat → Nat}  {σ0 : pStt} {σ1 : pStt} {σ2 : pStt} {u : pStt × pStt} {index : Nat} (S : CX p m c cc nL s args own D cy) (hl : (Cond.methodLink own index yX6_begin).before args s = true) (hw : PW D A H0 Ps H locs) (hf : f_X6_begin σ0 σ1 σ2 = some u) (js : List Nat) (hC : js.map (fun j => Ps[j]?) = [some (pX6 o0 w0 σ0), some (pX1 cy o1 q1 σ1), some (pX1 cy (w0 0) q2 σ2)]) (hnd : js.Nodup) (hlen : js.length = 3) (hR : RMok rmX6_begin R 2) (hsize : ls.size = nL) (hrest : (rest.map fun v => v.category).sum ≤ 8) (hdg : decode cc pc = .ok (.invokevirtual index, 3)) (hcs : cells ≤ R.cells ∧ slots ≤ R.slots)
    (kk : ∀ (H1 : Heap) (locs1 : List Loc), PW D A H0 (setAll Ps js [pX6 o0 w0 u.1, pX1 cy o1 q1 σ1, pX1 cy (w0 0) q2 u.2]) H1 locs1 → W p l e R s m args below meth c H1 locs1 cells slots Q (F0 m (pc + 3) ls (rest))) : W p l e R s m args below meth c H locs cells slots Q (F0 m pc ls (.ref o1 :: .ref o0 :: rest)) :=
  w_callV (n := 1) (ov := none) (As := [.ref o1]) (Cs := [pX6 o0 w0 σ0, pX1 cy o1 q1 σ1, pX1 cy (w0 0) q2 σ2]) (Cs' := [pX6 o0 w0 u.1, pX1 cy o1 q1 σ1, pX1 cy (w0 0) q2 u.2]) S hw (c_X6_begin l D cy o0 w0 o1 q1 q2 σ0 σ1 σ2 u hf) (MF.of S.2.2.2.2 wd398 wd76 (by decide)) (S.2.2.2.2.wd wd396 rfl) (S.2.2.2.2.wd wd397 rfl) hl hR js hC hnd hlen rfl rfl rfl rfl hsize rfl hrest hdg hcs kk
end
abbrev rmX6_noteSitters : Room := { frames := 2, cells := 0, slots := 0, locals := 44 }
def f_X6_noteSitters (x1 : Int32) (σ0 : pStt) : Option (pStt) := if x1 = 0 then (f_J6_bitCount_0f7a4 x1).bind (fun u_2 => (some (sI σ0 2 (((σ0.1 2) + u_2)))).bind (fun σ_3 => some σ_3)) else if (σ0.1 2) = 0 then (some (sI σ0 3 ((σ0.1 0)))).bind (fun σ_7 => (f_X8_placeOfBit x1 0).bind (fun u_8 => (some (sI σ_7 4 u_8)).bind (fun σ_9 => (f_J6_bitCount_0f7a4 x1).bind (fun u_10 => (some (sI σ_9 2 (((σ_9.1 2) + u_10)))).bind (fun σ_11 => some σ_11))))) else (f_J6_bitCount_0f7a4 x1).bind (fun u_5 => (some (sI σ0 2 (((σ0.1 2) + u_5)))).bind (fun σ_6 => some σ_6))
set_option maxHeartbeats 4000000 in
set_option maxRecDepth 100000 in
theorem c_X6_noteSitters (l : Launch) (D : va_G) (cy : Nat → ClassId) (o0 : Nat) (w0 : Nat → Nat) (x1 : Int32) (σ0 : pStt) (u : pStt) (hf : f_X6_noteSitters x1 σ0 = some u) : CT l yX6_noteSitters cX6_noteSitters 2 none rmX6_noteSitters D cy [.ref o0, .int x1] [pX6 o0 w0 σ0] none [pX6 o0 w0 u] := by
  refine CT.of (by decide) (Nat.le_of_ble_eq_true rfl) (fun p e s m args below meth c ls A Q hA hQ S hr hlk hl hw => ?_)
  have hl : lv_has ls 2 [(0, .ref o0), (1, .int x1)] := hl
  rw [f_X6_noteSitters] at hf
  refine lv_iload_n S.1 S.2.1 dX6_noteSitters_0 rfl (lv_at hl 1 rfl) ?_
  refine lv_if_eq (tgt := 28) S.1 S.2.1 dX6_noteSitters_1 (by decide) (fun c_1 => ?_) (fun c_1 => ?_)
  · replace hf := (if_pos c_1).symm.trans hf
    refine lv_aload_n S.1 S.2.1 dX6_noteSitters_28 rfl (lv_at hl 0 rfl) ?_
    refine lv_dup S.1 S.2.1 dX6_noteSitters_29 rfl ?_
    refine gf_X6_29 S hw 0 rfl dX6_noteSitters_30 ?_
    refine lv_iload_n S.1 S.2.1 dX6_noteSitters_33 rfl (lv_at hl 1 rfl) ?_
    obtain ⟨u_2, e_u_2, hf⟩ := ob hf
    refine k_J6_bitCount_0f7a4 S (S.2.2.2.2.wd wd452 rfl) hw e_u_2 [] rfl (by decide) rfl ⟨rfl, rfl, Nat.le_of_ble_eq_true rfl, Nat.le_of_ble_eq_true rfl⟩ hl.1 (Nat.le_of_ble_eq_true rfl) dX6_noteSitters_34 ⟨Nat.zero_le _, Nat.zero_le _⟩ (fun H locs hw => ?_)
    have hw : PW D A s.heap [pX6 o0 w0 σ0] H locs := hw
    refine lv_iadd S.1 S.2.1 dX6_noteSitters_37 ?_
    obtain ⟨σ_3, e_σ_3, hf⟩ := ob hf
    refine pf_X6_29 S hw 0 rfl e_σ_3 dX6_noteSitters_38 (fun H locs hw => ?_)
    have hw : PW D A s.heap [pX6 o0 w0 σ_3] H locs := hw
    cases hf
    exact w_vret S hr hlk hA hQ hw dX6_noteSitters_41
  · replace hf := (if_neg c_1).symm.trans hf
    refine lv_aload_n S.1 S.2.1 dX6_noteSitters_4 rfl (lv_at hl 0 rfl) ?_
    refine gf_X6_29 S hw 0 rfl dX6_noteSitters_5 ?_
    refine lv_if_ne (tgt := 28) S.1 S.2.1 dX6_noteSitters_8 (by decide) (fun c_4 => ?_) (fun c_4 => ?_)
    · replace hf := (if_neg c_4).symm.trans hf
      refine lv_aload_n S.1 S.2.1 dX6_noteSitters_28 rfl (lv_at hl 0 rfl) ?_
      refine lv_dup S.1 S.2.1 dX6_noteSitters_29 rfl ?_
      refine gf_X6_29 S hw 0 rfl dX6_noteSitters_30 ?_
      refine lv_iload_n S.1 S.2.1 dX6_noteSitters_33 rfl (lv_at hl 1 rfl) ?_
      obtain ⟨u_5, e_u_5, hf⟩ := ob hf
      refine k_J6_bitCount_0f7a4 S (S.2.2.2.2.wd wd452 rfl) hw e_u_5 [] rfl (by decide) rfl ⟨rfl, rfl, Nat.le_of_ble_eq_true rfl, Nat.le_of_ble_eq_true rfl⟩ hl.1 (Nat.le_of_ble_eq_true rfl) dX6_noteSitters_34 ⟨Nat.zero_le _, Nat.zero_le _⟩ (fun H locs hw => ?_)
      have hw : PW D A s.heap [pX6 o0 w0 σ0] H locs := hw
      refine lv_iadd S.1 S.2.1 dX6_noteSitters_37 ?_
      obtain ⟨σ_6, e_σ_6, hf⟩ := ob hf
      refine pf_X6_29 S hw 0 rfl e_σ_6 dX6_noteSitters_38 (fun H locs hw => ?_)
      have hw : PW D A s.heap [pX6 o0 w0 σ_6] H locs := hw
      cases hf
      exact w_vret S hr hlk hA hQ hw dX6_noteSitters_41
    · replace hf := (if_pos c_4).symm.trans hf
      refine lv_aload_n S.1 S.2.1 dX6_noteSitters_11 rfl (lv_at hl 0 rfl) ?_
      refine lv_aload_n S.1 S.2.1 dX6_noteSitters_12 rfl (lv_at hl 0 rfl) ?_
      refine gf_X6_22 S hw 0 rfl dX6_noteSitters_13 ?_
      obtain ⟨σ_7, e_σ_7, hf⟩ := ob hf
      refine pf_X6_32 S hw 0 rfl e_σ_7 dX6_noteSitters_16 (fun H locs hw => ?_)
      have hw : PW D A s.heap [pX6 o0 w0 σ_7] H locs := hw
      refine lv_aload_n S.1 S.2.1 dX6_noteSitters_19 rfl (lv_at hl 0 rfl) ?_
      refine lv_iload_n S.1 S.2.1 dX6_noteSitters_20 rfl (lv_at hl 1 rfl) ?_
      refine lv_iconst (v := 0) S.1 S.2.1 dX6_noteSitters_21 (by decide) ?_
      obtain ⟨u_8, e_u_8, hf⟩ := ob hf
      refine kn_X8_placeOfBit S (S.2.2.2.2.wd wd448 rfl) hw e_u_8 [] rfl (by decide) rfl ⟨rfl, rfl, Nat.le_of_ble_eq_true rfl, Nat.le_of_ble_eq_true rfl⟩ hl.1 (Nat.le_of_ble_eq_true rfl) dX6_noteSitters_22 ⟨Nat.zero_le _, Nat.zero_le _⟩ (fun H locs hw => ?_)
      have hw : PW D A s.heap [pX6 o0 w0 σ_7] H locs := hw
      obtain ⟨σ_9, e_σ_9, hf⟩ := ob hf
      refine pf_X6_35 S hw 0 rfl e_σ_9 dX6_noteSitters_25 (fun H locs hw => ?_)
      have hw : PW D A s.heap [pX6 o0 w0 σ_9] H locs := hw
      refine lv_aload_n S.1 S.2.1 dX6_noteSitters_28 rfl (lv_at hl 0 rfl) ?_
      refine lv_dup S.1 S.2.1 dX6_noteSitters_29 rfl ?_
      refine gf_X6_29 S hw 0 rfl dX6_noteSitters_30 ?_
      refine lv_iload_n S.1 S.2.1 dX6_noteSitters_33 rfl (lv_at hl 1 rfl) ?_
      obtain ⟨u_10, e_u_10, hf⟩ := ob hf
      refine k_J6_bitCount_0f7a4 S (S.2.2.2.2.wd wd452 rfl) hw e_u_10 [] rfl (by decide) rfl ⟨rfl, rfl, Nat.le_of_ble_eq_true rfl, Nat.le_of_ble_eq_true rfl⟩ hl.1 (Nat.le_of_ble_eq_true rfl) dX6_noteSitters_34 ⟨Nat.zero_le _, Nat.zero_le _⟩ (fun H locs hw => ?_)
      have hw : PW D A s.heap [pX6 o0 w0 σ_9] H locs := hw
      refine lv_iadd S.1 S.2.1 dX6_noteSitters_37 ?_
      obtain ⟨σ_11, e_σ_11, hf⟩ := ob hf
      refine pf_X6_29 S hw 0 rfl e_σ_11 dX6_noteSitters_38 (fun H locs hw => ?_)
      have hw : PW D A s.heap [pX6 o0 w0 σ_11] H locs := hw
      cases hf
      exact w_vret S hr hlk hA hQ hw dX6_noteSitters_41
section
variable {p : Program} {l : Launch} {e : Env} {R : Room} {s : State} {m : MethodId} {args : Array Value} {below : List Frame} {meth : Method} {c : Code} {H : Heap} {locs : List Loc} {cells slots : Nat} {Q : State → Prop} {cc : ByteArray} {pc nL : Nat} {ls : Array Slot} {rest : List Value} {D : va_G} {cy : Nat → ClassId} {A : Nat → Prop} {H0 : Heap} {own : String} {Ps : List va_W}
set_option maxRecDepth 100000 in
theorem k_X6_noteSitters {o0 : Nat} {w0 : Nat → Nat} {x1 : Int32} {σ0 : pStt} {u : pStt} {index : Nat} (S : CX p m c cc nL s args own D cy) (hl : (Cond.methodLink own index yX6_noteSitters).before args s = true) (hw : PW D A H0 Ps H locs) (hf : f_X6_noteSitters x1 σ0 = some u) (js : List Nat) (hC : js.map (fun j => Ps[j]?) = [some (pX6 o0 w0 σ0)]) (hnd : js.Nodup) (hlen : js.length = 1) (hR : RMok rmX6_noteSitters R 2) (hsize : ls.size = nL) (hrest : (rest.map fun v => v.category).sum ≤ 8) (hdg : decode cc pc = .ok (.invokevirtual index, 3)) (hcs : cells ≤ R.cells ∧ slots ≤ R.slots)
    (kk : ∀ (H1 : Heap) (locs1 : List Loc), PW D A H0 (setAll Ps js [pX6 o0 w0 u]) H1 locs1 → W p l e R s m args below meth c H1 locs1 cells slots Q (F0 m (pc + 3) ls (rest))) : W p l e R s m args below meth c H locs cells slots Q (F0 m pc ls (.int x1 :: .ref o0 :: rest)) :=
  w_callV (n := 1) (ov := none) (As := [.int x1]) (Cs := [pX6 o0 w0 σ0]) (Cs' := [pX6 o0 w0 u]) S hw (c_X6_noteSitters l D cy o0 w0 x1 σ0 u hf) (MF.of S.2.2.2.2 wd447 wd76 (by decide)) (S.2.2.2.2.wd wd446 rfl) (S.2.2.2.2.wd wd10 rfl) hl hR js hC hnd hlen rfl rfl rfl rfl hsize rfl hrest hdg hcs kk
end
abbrev rmX6_attempt : Room := { frames := 3, cells := 0, slots := 0, locals := 68 }
def f_X6_attempt (x1 : Int32) (x2 : Int32) (x3 : Int32) (σ0 : pStt) (σ1 : pStt) : Option (Int32 × pStt × pStt) := (f_X1_whyNot x1 x2 x3 σ1).bind (fun u_1 => (some (sI σ0 1 u_1)).bind (fun σ_2 => if (σ_2.1 1) = 0 then (f_X1_perform x1 x2 x3 σ1).bind (fun u_4 => (f_X6_noteSitters (((u_4.1 0) &&& ((σ1.1 0) ^^^ (-1 : Int32)))) σ_2).bind (fun u_5 => (some (sI u_5 0 (((u_5.1 0) + (1 : Int32))))).bind (fun σ_6 => some (1, σ_6, u_4)))) else some (0, σ_2, σ1)))
set_option maxHeartbeats 4000000 in
set_option maxRecDepth 100000 in
theorem c_X6_attempt (l : Launch) (D : va_G) (cy : Nat → ClassId) (o0 : Nat) (w0 : Nat → Nat) (q1 : Nat → Nat) (x1 : Int32) (x2 : Int32) (x3 : Int32) (σ0 : pStt) (σ1 : pStt) (u : Int32 × pStt × pStt) (hf : f_X6_attempt x1 x2 x3 σ0 σ1 = some u) : CT l yX6_attempt cX6_attempt 5 (some .boolean) rmX6_attempt D cy [.ref o0, .int x1, .int x2, .int x3] [pX6 o0 w0 σ0, pX1 cy (w0 0) q1 σ1] (some (.int u.1)) [pX6 o0 w0 u.2.1, pX1 cy (w0 0) q1 u.2.2] := by
  refine CT.of (by decide) (Nat.le_of_ble_eq_true rfl) (fun p e s m args below meth c ls A Q hA hQ S hr hlk hl hw => ?_)
  have hl : lv_has ls 5 [(0, .ref o0), (1, .int x1), (2, .int x2), (3, .int x3)] := hl
  rw [f_X6_attempt] at hf
  refine lv_aload_n S.1 S.2.1 dX6_attempt_0 rfl (lv_at hl 0 rfl) ?_
  refine lv_aload_n S.1 S.2.1 dX6_attempt_1 rfl (lv_at hl 0 rfl) ?_
  refine gf_X6_12 S hw 0 rfl dX6_attempt_2 ?_
  refine lv_iload_n S.1 S.2.1 dX6_attempt_5 rfl (lv_at hl 1 rfl) ?_
  refine lv_iload_n S.1 S.2.1 dX6_attempt_6 rfl (lv_at hl 2 rfl) ?_
  refine lv_iload_n S.1 S.2.1 dX6_attempt_7 rfl (lv_at hl 3 rfl) ?_
  obtain ⟨u_1, e_u_1, hf⟩ := ob hf
  refine k_X1_whyNot S (S.2.2.2.2.wd wd412 rfl) hw e_u_1 [1] rfl (by decide) rfl ⟨rfl, rfl, Nat.le_of_ble_eq_true rfl, Nat.le_of_ble_eq_true rfl⟩ hl.1 (Nat.le_of_ble_eq_true rfl) dX6_attempt_8 ⟨Nat.zero_le _, Nat.zero_le _⟩ (fun H locs hw => ?_)
  have hw : PW D A s.heap [pX6 o0 w0 σ0, pX1 cy (w0 0) q1 σ1] H locs := hw
  obtain ⟨σ_2, e_σ_2, hf⟩ := ob hf
  refine pf_X6_26 S hw 0 rfl e_σ_2 dX6_attempt_11 (fun H locs hw => ?_)
  have hw : PW D A s.heap [pX6 o0 w0 σ_2, pX1 cy (w0 0) q1 σ1] H locs := hw
  refine lv_aload_n S.1 S.2.1 dX6_attempt_14 rfl (lv_at hl 0 rfl) ?_
  refine gf_X6_26 S hw 0 rfl dX6_attempt_15 ?_
  refine lv_if_eq (tgt := 23) S.1 S.2.1 dX6_attempt_18 (by decide) (fun c_3 => ?_) (fun c_3 => ?_)
  · replace hf := (if_pos c_3).symm.trans hf
    refine lv_aload_n S.1 S.2.1 dX6_attempt_23 rfl (lv_at hl 0 rfl) ?_
    refine gf_X6_12 S hw 0 rfl dX6_attempt_24 ?_
    refine gf_X6_42 S hw 1 rfl dX6_attempt_27 ?_
    refine lv_istore (lv' := [(4, .int ((σ1.1 0))), (0, .ref o0), (1, .int x1), (2, .int x2), (3, .int x3)]) S.1 S.2.1 dX6_attempt_30 hl (by decide) rfl (fun ls hl => ?_)
    refine lv_aload_n S.1 S.2.1 dX6_attempt_32 rfl (lv_at hl 1 rfl) ?_
    refine gf_X6_12 S hw 0 rfl dX6_attempt_33 ?_
    refine lv_iload_n S.1 S.2.1 dX6_attempt_36 rfl (lv_at hl 2 rfl) ?_
    refine lv_iload_n S.1 S.2.1 dX6_attempt_37 rfl (lv_at hl 3 rfl) ?_
    refine lv_iload_n S.1 S.2.1 dX6_attempt_38 rfl (lv_at hl 4 rfl) ?_
    obtain ⟨u_4, e_u_4, hf⟩ := ob hf
    refine k_X1_perform S (S.2.2.2.2.wd wd431 rfl) hw e_u_4 [1] rfl (by decide) rfl ⟨rfl, rfl, Nat.le_of_ble_eq_true rfl, Nat.le_of_ble_eq_true rfl⟩ hl.1 (Nat.le_of_ble_eq_true rfl) dX6_attempt_39 ⟨Nat.zero_le _, Nat.zero_le _⟩ (fun H locs hw => ?_)
    have hw : PW D A s.heap [pX6 o0 w0 σ_2, pX1 cy (w0 0) q1 u_4] H locs := hw
    refine lv_aload_n S.1 S.2.1 dX6_attempt_42 rfl (lv_at hl 1 rfl) ?_
    refine lv_aload_n S.1 S.2.1 dX6_attempt_43 rfl (lv_at hl 1 rfl) ?_
    refine gf_X6_12 S hw 0 rfl dX6_attempt_44 ?_
    refine gf_X6_42 S hw 1 rfl dX6_attempt_47 ?_
    refine lv_iload S.1 S.2.1 dX6_attempt_50 (lv_at hl 0 rfl) ?_
    refine lv_iconst (v := (-1)) S.1 S.2.1 dX6_attempt_52 (by decide) ?_
    refine lv_ixor S.1 S.2.1 dX6_attempt_53 ?_
    refine lv_iand S.1 S.2.1 dX6_attempt_54 ?_
    obtain ⟨u_5, e_u_5, hf⟩ := ob hf
    refine k_X6_noteSitters S (S.2.2.2.2.wd wd444 rfl) hw e_u_5 [0] rfl (by decide) rfl ⟨rfl, rfl, Nat.le_of_ble_eq_true rfl, Nat.le_of_ble_eq_true rfl⟩ hl.1 (Nat.le_of_ble_eq_true rfl) dX6_attempt_55 ⟨Nat.zero_le _, Nat.zero_le _⟩ (fun H locs hw => ?_)
    have hw : PW D A s.heap [pX6 o0 w0 u_5, pX1 cy (w0 0) q1 u_4] H locs := hw
    refine lv_aload_n S.1 S.2.1 dX6_attempt_58 rfl (lv_at hl 1 rfl) ?_
    refine lv_dup S.1 S.2.1 dX6_attempt_59 rfl ?_
    refine gf_X6_22 S hw 0 rfl dX6_attempt_60 ?_
    refine lv_iconst (v := 1) S.1 S.2.1 dX6_attempt_63 (by decide) ?_
    refine lv_iadd S.1 S.2.1 dX6_attempt_64 ?_
    obtain ⟨σ_6, e_σ_6, hf⟩ := ob hf
    refine pf_X6_22 S hw 0 rfl e_σ_6 dX6_attempt_65 (fun H locs hw => ?_)
    have hw : PW D A s.heap [pX6 o0 w0 σ_6, pX1 cy (w0 0) q1 u_4] H locs := hw
    refine lv_iconst (v := 1) S.1 S.2.1 dX6_attempt_68 (by decide) ?_
    cases hf
    exact w_zret S hr rfl hlk hA hQ hw dX6_attempt_69
  · replace hf := (if_neg c_3).symm.trans hf
    refine lv_iconst (v := 0) S.1 S.2.1 dX6_attempt_21 (by decide) ?_
    cases hf
    exact w_zret S hr rfl hlk hA hQ hw dX6_attempt_22
section
variable {p : Program} {l : Launch} {e : Env} {R : Room} {s : State} {m : MethodId} {args : Array Value} {below : List Frame} {meth : Method} {c : Code} {H : Heap} {locs : List Loc} {cells slots : Nat} {Q : State → Prop} {cc : ByteArray} {pc nL : Nat} {ls : Array Slot} {rest : List Value} {D : va_G} {cy : Nat → ClassId} {A : Nat → Prop} {H0 : Heap} {own : String} {Ps : List va_W}
set_option maxRecDepth 100000 in
theorem k_X6_attempt {o0 : Nat} {w0 : Nat → Nat} {q1 : Nat → Nat} {x1 : Int32} {x2 : Int32} {x3 : Int32} {σ0 : pStt} {σ1 : pStt} {u : Int32 × pStt × pStt} {index : Nat} (S : CX p m c cc nL s args own D cy) (hl : (Cond.methodLink own index yX6_attempt).before args s = true) (hw : PW D A H0 Ps H locs) (hf : f_X6_attempt x1 x2 x3 σ0 σ1 = some u) (js : List Nat) (hC : js.map (fun j => Ps[j]?) = [some (pX6 o0 w0 σ0), some (pX1 cy (w0 0) q1 σ1)]) (hnd : js.Nodup) (hlen : js.length = 2) (hR : RMok rmX6_attempt R 5) (hsize : ls.size = nL) (hrest : (rest.map fun v => v.category).sum ≤ 8) (hdg : decode cc pc = .ok (.invokevirtual index, 3)) (hcs : cells ≤ R.cells ∧ slots ≤ R.slots)
    (kk : ∀ (H1 : Heap) (locs1 : List Loc), PW D A H0 (setAll Ps js [pX6 o0 w0 u.2.1, pX1 cy (w0 0) q1 u.2.2]) H1 locs1 → W p l e R s m args below meth c H1 locs1 cells slots Q (F0 m (pc + 3) ls (.int u.1 :: rest))) : W p l e R s m args below meth c H locs cells slots Q (F0 m pc ls (.int x3 :: .int x2 :: .int x1 :: .ref o0 :: rest)) :=
  w_callV (n := 3) (ov := (some (.int u.1))) (As := [.int x1, .int x2, .int x3]) (Cs := [pX6 o0 w0 σ0, pX1 cy (w0 0) q1 σ1]) (Cs' := [pX6 o0 w0 u.2.1, pX1 cy (w0 0) q1 u.2.2]) S hw (c_X6_attempt l D cy o0 w0 q1 x1 x2 x3 σ0 σ1 u hf) (MF.of S.2.2.2.2 wd411 wd76 (by decide)) (S.2.2.2.2.wd wd409 rfl) (S.2.2.2.2.wd wd410 rfl) hl hR js hC hnd hlen rfl rfl rfl rfl hsize rfl hrest hdg hcs kk
end
abbrev rmX7_copyFrom : Room := { frames := 2, cells := 0, slots := 0, locals := 61 }
def f_X7_copyFrom (σ2 : pStt) (σ3 : pStt) (σ4 : pStt) (σ5 : pStt) (σ6 : pStt) (σ7 : pStt) : Option (pStt × pStt × pStt) := (f_X1_copyFrom σ2 σ3).bind (fun u_1 => (f_X4_copyFrom σ4 σ5).bind (fun u_2 => (f_X5_copyFrom σ6 σ7).bind (fun u_3 => some (u_1, u_2, u_3))))
set_option maxHeartbeats 4000000 in
set_option maxRecDepth 100000 in
theorem c_X7_copyFrom (l : Launch) (D : va_G) (cy : Nat → ClassId) (o0 : Nat) (w0 : Nat → Nat) (o1 : Nat) (w1 : Nat → Nat) (q2 : Nat → Nat) (q3 : Nat → Nat) (q4 : Nat → Nat) (q5 : Nat → Nat) (q6 : Nat → Nat) (q7 : Nat → Nat) (σ2 : pStt) (σ3 : pStt) (σ4 : pStt) (σ5 : pStt) (σ6 : pStt) (σ7 : pStt) (u : pStt × pStt × pStt) (hf : f_X7_copyFrom σ2 σ3 σ4 σ5 σ6 σ7 = some u) : CT l yX7_copyFrom cX7_copyFrom 2 none rmX7_copyFrom D cy [.ref o0, .ref o1] [pX7 o0 w0, pX7 o1 w1, pX1 cy (w0 0) q2 σ2, pX1 cy (w1 0) q3 σ3, pX4 cy (w0 1) q4 σ4, pX4 cy (w1 1) q5 σ5, pX5 cy (w0 2) q6 σ6, pX5 cy (w1 2) q7 σ7] none [pX7 o0 w0, pX7 o1 w1, pX1 cy (w0 0) q2 u.1, pX1 cy (w1 0) q3 σ3, pX4 cy (w0 1) q4 u.2.1, pX4 cy (w1 1) q5 σ5, pX5 cy (w0 2) q6 u.2.2, pX5 cy (w1 2) q7 σ7] := by
  refine CT.of (by decide) (Nat.le_of_ble_eq_true rfl) (fun p e s m args below meth c ls A Q hA hQ S hr hlk hl hw => ?_)
  have hl : lv_has ls 2 [(0, .ref o0), (1, .ref o1)] := hl
  rw [f_X7_copyFrom] at hf
  refine lv_aload_n S.1 S.2.1 dX7_copyFrom_0 rfl (lv_at hl 0 rfl) ?_
  refine gf_X7_10 S hw 0 rfl dX7_copyFrom_1 ?_
  refine lv_aload_n S.1 S.2.1 dX7_copyFrom_4 rfl (lv_at hl 1 rfl) ?_
  refine gf_X7_10 S hw 1 rfl dX7_copyFrom_5 ?_
  obtain ⟨u_1, e_u_1, hf⟩ := ob hf
  refine k_X1_copyFrom S (S.2.2.2.2.wd wd660 rfl) hw e_u_1 [2, 3] rfl (by decide) rfl ⟨rfl, rfl, Nat.le_of_ble_eq_true rfl, Nat.le_of_ble_eq_true rfl⟩ hl.1 (Nat.le_of_ble_eq_true rfl) dX7_copyFrom_8 ⟨Nat.zero_le _, Nat.zero_le _⟩ (fun H locs hw => ?_)
  have hw : PW D A s.heap [pX7 o0 w0, pX7 o1 w1, pX1 cy (w0 0) q2 u_1, pX1 cy (w1 0) q3 σ3, pX4 cy (w0 1) q4 σ4, pX4 cy (w1 1) q5 σ5, pX5 cy (w0 2) q6 σ6, pX5 cy (w1 2) q7 σ7] H locs := hw
  refine lv_aload_n S.1 S.2.1 dX7_copyFrom_11 rfl (lv_at hl 0 rfl) ?_
  refine gf_X7_19 S hw 0 rfl dX7_copyFrom_12 ?_
  refine lv_aload_n S.1 S.2.1 dX7_copyFrom_15 rfl (lv_at hl 1 rfl) ?_
  refine gf_X7_19 S hw 1 rfl dX7_copyFrom_16 ?_
  obtain ⟨u_2, e_u_2, hf⟩ := ob hf
  refine k_X4_copyFrom S (S.2.2.2.2.wd wd661 rfl) hw e_u_2 [4, 5] rfl (by decide) rfl ⟨rfl, rfl, Nat.le_of_ble_eq_true rfl, Nat.le_of_ble_eq_true rfl⟩ hl.1 (Nat.le_of_ble_eq_true rfl) dX7_copyFrom_19 ⟨Nat.zero_le _, Nat.zero_le _⟩ (fun H locs hw => ?_)
  have hw : PW D A s.heap [pX7 o0 w0, pX7 o1 w1, pX1 cy (w0 0) q2 u_1, pX1 cy (w1 0) q3 σ3, pX4 cy (w0 1) q4 u_2, pX4 cy (w1 1) q5 σ5, pX5 cy (w0 2) q6 σ6, pX5 cy (w1 2) q7 σ7] H locs := hw
  refine lv_aload_n S.1 S.2.1 dX7_copyFrom_22 rfl (lv_at hl 0 rfl) ?_
  refine gf_X7_26 S hw 0 rfl dX7_copyFrom_23 ?_
  refine lv_aload_n S.1 S.2.1 dX7_copyFrom_26 rfl (lv_at hl 1 rfl) ?_
  refine gf_X7_26 S hw 1 rfl dX7_copyFrom_27 ?_
  obtain ⟨u_3, e_u_3, hf⟩ := ob hf
  refine k_X5_copyFrom S (S.2.2.2.2.wd wd666 rfl) hw e_u_3 [6, 7] rfl (by decide) rfl ⟨rfl, rfl, Nat.le_of_ble_eq_true rfl, Nat.le_of_ble_eq_true rfl⟩ hl.1 (Nat.le_of_ble_eq_true rfl) dX7_copyFrom_30 ⟨Nat.zero_le _, Nat.zero_le _⟩ (fun H locs hw => ?_)
  have hw : PW D A s.heap [pX7 o0 w0, pX7 o1 w1, pX1 cy (w0 0) q2 u_1, pX1 cy (w1 0) q3 σ3, pX4 cy (w0 1) q4 u_2, pX4 cy (w1 1) q5 σ5, pX5 cy (w0 2) q6 u_3, pX5 cy (w1 2) q7 σ7] H locs := hw
  cases hf
  exact w_vret S hr hlk hA hQ hw dX7_copyFrom_33
section
variable {p : Program} {l : Launch} {e : Env} {R : Room} {s : State} {m : MethodId} {args : Array Value} {below : List Frame} {meth : Method} {c : Code} {H : Heap} {locs : List Loc} {cells slots : Nat} {Q : State → Prop} {cc : ByteArray} {pc nL : Nat} {ls : Array Slot} {rest : List Value} {D : va_G} {cy : Nat → ClassId} {A : Nat → Prop} {H0 : Heap} {own : String} {Ps : List va_W}
set_option maxRecDepth 100000 in
theorem k_X7_copyFrom {o0 : Nat} {w0 : Nat → Nat} {o1 : Nat} {w1 : Nat → Nat} {q2 : Nat → Nat} {q3 : Nat → Nat} {q4 : Nat → Nat} {q5 : Nat → Nat} {q6 : Nat → Nat} {q7 : Nat → Nat}  {σ2 : pStt} {σ3 : pStt} {σ4 : pStt} {σ5 : pStt} {σ6 : pStt} {σ7 : pStt} {u : pStt × pStt × pStt} {index : Nat} (S : CX p m c cc nL s args own D cy) (hl : (Cond.methodLink own index yX7_copyFrom).before args s = true) (hw : PW D A H0 Ps H locs) (hf : f_X7_copyFrom σ2 σ3 σ4 σ5 σ6 σ7 = some u) (js : List Nat) (hC : js.map (fun j => Ps[j]?) = [some (pX7 o0 w0), some (pX7 o1 w1), some (pX1 cy (w0 0) q2 σ2), some (pX1 cy (w1 0) q3 σ3), some (pX4 cy (w0 1) q4 σ4), some (pX4 cy (w1 1) q5 σ5), some (pX5 cy (w0 2) q6 σ6), some (pX5 cy (w1 2) q7 σ7)]) (hnd : js.Nodup) (hlen : js.length = 8) (hR : RMok rmX7_copyFrom R 2) (hsize : ls.size = nL) (hrest : (rest.map fun v => v.category).sum ≤ 8) (hdg : decode cc pc = .ok (.invokevirtual index, 3)) (hcs : cells ≤ R.cells ∧ slots ≤ R.slots)
    (kk : ∀ (H1 : Heap) (locs1 : List Loc), PW D A H0 (setAll Ps js [pX7 o0 w0, pX7 o1 w1, pX1 cy (w0 0) q2 u.1, pX1 cy (w1 0) q3 σ3, pX4 cy (w0 1) q4 u.2.1, pX4 cy (w1 1) q5 σ5, pX5 cy (w0 2) q6 u.2.2, pX5 cy (w1 2) q7 σ7]) H1 locs1 → W p l e R s m args below meth c H1 locs1 cells slots Q (F0 m (pc + 3) ls (rest))) : W p l e R s m args below meth c H locs cells slots Q (F0 m pc ls (.ref o1 :: .ref o0 :: rest)) :=
  w_callV (n := 1) (ov := none) (As := [.ref o1]) (Cs := [pX7 o0 w0, pX7 o1 w1, pX1 cy (w0 0) q2 σ2, pX1 cy (w1 0) q3 σ3, pX4 cy (w0 1) q4 σ4, pX4 cy (w1 1) q5 σ5, pX5 cy (w0 2) q6 σ6, pX5 cy (w1 2) q7 σ7]) (Cs' := [pX7 o0 w0, pX7 o1 w1, pX1 cy (w0 0) q2 u.1, pX1 cy (w1 0) q3 σ3, pX4 cy (w0 1) q4 u.2.1, pX4 cy (w1 1) q5 σ5, pX5 cy (w0 2) q6 u.2.2, pX5 cy (w1 2) q7 σ7]) S hw (c_X7_copyFrom l D cy o0 w0 o1 w1 q2 q3 q4 q5 q6 q7 σ2 σ3 σ4 σ5 σ6 σ7 u hf) (MF.of S.2.2.2.2 wd659 wd71 (by decide)) (S.2.2.2.2.wd wd657 rfl) (S.2.2.2.2.wd wd658 rfl) hl hR js hC hnd hlen rfl rfl rfl rfl hsize rfl hrest hdg hcs kk
end
abbrev rmX8_way : Room := { frames := 2, cells := 0, slots := 0, locals := 42 }
def f_X8_way (x1 : Int32) (x2 : Int32) (x3 : Int32) (σ2 : pStt) : Option (Int32 × pStt) := (f_X8_isCorner x1).bind (fun u_1 => if u_1 = 0 then some ((-1), σ2) else (f_X8_isCorner x2).bind (fun u_3 => if u_3 = 0 then some ((-1), σ2) else if x1 = x2 then some ((-2), σ2) else (f_X1_setWay x1 x2 x3 σ2).bind (fun u_6 => (f_X1_countWays u_6).bind (fun u_7 => some (u_7, u_6)))))
set_option maxHeartbeats 4000000 in
set_option maxRecDepth 100000 in
theorem c_X8_way (l : Launch) (D : va_G) (cy : Nat → ClassId) (o0 : Nat) (w0 : Nat → Nat) (w1 : Nat → Nat) (q2 : Nat → Nat) (x1 : Int32) (x2 : Int32) (x3 : Int32) (σ2 : pStt) (u : Int32 × pStt) (hf : f_X8_way x1 x2 x3 σ2 = some u) : CT l yX8_way cX8_way 4 (some .int) rmX8_way D cy [.ref o0, .int x1, .int x2, .int x3] [pX8 o0 w0, pX7 (w0 0) w1, pX1 cy (w1 0) q2 σ2] (some (.int u.1)) [pX8 o0 w0, pX7 (w0 0) w1, pX1 cy (w1 0) q2 u.2] := by
  refine CT.of (by decide) (Nat.le_of_ble_eq_true rfl) (fun p e s m args below meth c ls A Q hA hQ S hr hlk hl hw => ?_)
  have hl : lv_has ls 4 [(0, .ref o0), (1, .int x1), (2, .int x2), (3, .int x3)] := hl
  rw [f_X8_way] at hf
  refine lv_iload_n S.1 S.2.1 dX8_way_0 rfl (lv_at hl 1 rfl) ?_
  obtain ⟨u_1, e_u_1, hf⟩ := ob hf
  refine k_X8_isCorner S (S.2.2.2.2.wd wd284 rfl) hw e_u_1 [] rfl (by decide) rfl ⟨rfl, rfl, Nat.le_of_ble_eq_true rfl, Nat.le_of_ble_eq_true rfl⟩ hl.1 (Nat.le_of_ble_eq_true rfl) dX8_way_1 ⟨Nat.zero_le _, Nat.zero_le _⟩ (fun H locs hw => ?_)
  have hw : PW D A s.heap [pX8 o0 w0, pX7 (w0 0) w1, pX1 cy (w1 0) q2 σ2] H locs := hw
  refine lv_if_eq (tgt := 14) S.1 S.2.1 dX8_way_4 (by decide) (fun c_2 => ?_) (fun c_2 => ?_)
  · replace hf := (if_pos c_2).symm.trans hf
    refine lv_iconst (v := (-1)) S.1 S.2.1 dX8_way_14 (by decide) ?_
    cases hf
    exact w_iret S hr hlk hA hQ hw dX8_way_15
  · replace hf := (if_neg c_2).symm.trans hf
    refine lv_iload_n S.1 S.2.1 dX8_way_7 rfl (lv_at hl 2 rfl) ?_
    obtain ⟨u_3, e_u_3, hf⟩ := ob hf
    refine k_X8_isCorner S (S.2.2.2.2.wd wd284 rfl) hw e_u_3 [] rfl (by decide) rfl ⟨rfl, rfl, Nat.le_of_ble_eq_true rfl, Nat.le_of_ble_eq_true rfl⟩ hl.1 (Nat.le_of_ble_eq_true rfl) dX8_way_8 ⟨Nat.zero_le _, Nat.zero_le _⟩ (fun H locs hw => ?_)
    have hw : PW D A s.heap [pX8 o0 w0, pX7 (w0 0) w1, pX1 cy (w1 0) q2 σ2] H locs := hw
    refine lv_if_ne (tgt := 16) S.1 S.2.1 dX8_way_11 (by decide) (fun c_4 => ?_) (fun c_4 => ?_)
    · replace hf := (if_neg c_4).symm.trans hf
      refine lv_iload_n S.1 S.2.1 dX8_way_16 rfl (lv_at hl 1 rfl) ?_
      refine lv_iload_n S.1 S.2.1 dX8_way_17 rfl (lv_at hl 2 rfl) ?_
      refine lv_icmp_ne (tgt := 24) S.1 S.2.1 dX8_way_18 (by decide) (fun c_5 => ?_) (fun c_5 => ?_)
      · replace hf := (if_neg c_5).symm.trans hf
        refine lv_aload_n S.1 S.2.1 dX8_way_24 rfl (lv_at hl 0 rfl) ?_
        refine gf_X8_12 S hw 0 rfl dX8_way_25 ?_
        refine gf_X8_52 S hw 1 rfl dX8_way_28 ?_
        refine lv_iload_n S.1 S.2.1 dX8_way_31 rfl (lv_at hl 1 rfl) ?_
        refine lv_iload_n S.1 S.2.1 dX8_way_32 rfl (lv_at hl 2 rfl) ?_
        refine lv_iload_n S.1 S.2.1 dX8_way_33 rfl (lv_at hl 3 rfl) ?_
        obtain ⟨u_6, e_u_6, hf⟩ := ob hf
        refine k_X1_setWay S (S.2.2.2.2.wd wd290 rfl) hw e_u_6 [2] rfl (by decide) rfl ⟨rfl, rfl, Nat.le_of_ble_eq_true rfl, Nat.le_of_ble_eq_true rfl⟩ hl.1 (Nat.le_of_ble_eq_true rfl) dX8_way_34 ⟨Nat.zero_le _, Nat.zero_le _⟩ (fun H locs hw => ?_)
        have hw : PW D A s.heap [pX8 o0 w0, pX7 (w0 0) w1, pX1 cy (w1 0) q2 u_6] H locs := hw
        refine lv_aload_n S.1 S.2.1 dX8_way_37 rfl (lv_at hl 0 rfl) ?_
        refine gf_X8_12 S hw 0 rfl dX8_way_38 ?_
        refine gf_X8_52 S hw 1 rfl dX8_way_41 ?_
        obtain ⟨u_7, e_u_7, hf⟩ := ob hf
        refine k_X1_countWays S (S.2.2.2.2.wd wd294 rfl) hw e_u_7 [2] rfl (by decide) rfl ⟨rfl, rfl, Nat.le_of_ble_eq_true rfl, Nat.le_of_ble_eq_true rfl⟩ hl.1 (Nat.le_of_ble_eq_true rfl) dX8_way_44 ⟨Nat.zero_le _, Nat.zero_le _⟩ (fun H locs hw => ?_)
        have hw : PW D A s.heap [pX8 o0 w0, pX7 (w0 0) w1, pX1 cy (w1 0) q2 u_6] H locs := hw
        cases hf
        exact w_iret S hr hlk hA hQ hw dX8_way_47
      · replace hf := (if_pos c_5).symm.trans hf
        refine lv_bipush (v := (-2)) S.1 S.2.1 dX8_way_21 (by decide) ?_
        cases hf
        exact w_iret S hr hlk hA hQ hw dX8_way_23
    · replace hf := (if_pos c_4).symm.trans hf
      refine lv_iconst (v := (-1)) S.1 S.2.1 dX8_way_14 (by decide) ?_
      cases hf
      exact w_iret S hr hlk hA hQ hw dX8_way_15
section
variable {p : Program} {l : Launch} {e : Env} {R : Room} {s : State} {m : MethodId} {args : Array Value} {below : List Frame} {meth : Method} {c : Code} {H : Heap} {locs : List Loc} {cells slots : Nat} {Q : State → Prop} {cc : ByteArray} {pc nL : Nat} {ls : Array Slot} {rest : List Value} {D : va_G} {cy : Nat → ClassId} {A : Nat → Prop} {H0 : Heap} {own : String} {Ps : List va_W}
set_option maxRecDepth 100000 in
theorem k_X8_way {o0 : Nat} {w0 : Nat → Nat} {w1 : Nat → Nat} {q2 : Nat → Nat} {x1 : Int32} {x2 : Int32} {x3 : Int32} {σ2 : pStt} {u : Int32 × pStt} {index : Nat} (S : CX p m c cc nL s args own D cy) (hl : (Cond.methodLink own index yX8_way).before args s = true) (hw : PW D A H0 Ps H locs) (hf : f_X8_way x1 x2 x3 σ2 = some u) (js : List Nat) (hC : js.map (fun j => Ps[j]?) = [some (pX8 o0 w0), some (pX7 (w0 0) w1), some (pX1 cy (w1 0) q2 σ2)]) (hnd : js.Nodup) (hlen : js.length = 3) (hR : RMok rmX8_way R 4) (hsize : ls.size = nL) (hrest : (rest.map fun v => v.category).sum ≤ 8) (hdg : decode cc pc = .ok (.invokevirtual index, 3)) (hcs : cells ≤ R.cells ∧ slots ≤ R.slots)
    (kk : ∀ (H1 : Heap) (locs1 : List Loc), PW D A H0 (setAll Ps js [pX8 o0 w0, pX7 (w0 0) w1, pX1 cy (w1 0) q2 u.2]) H1 locs1 → W p l e R s m args below meth c H1 locs1 cells slots Q (F0 m (pc + 3) ls (.int u.1 :: rest))) : W p l e R s m args below meth c H locs cells slots Q (F0 m pc ls (.int x3 :: .int x2 :: .int x1 :: .ref o0 :: rest)) :=
  w_callV (n := 3) (ov := (some (.int u.1))) (As := [.int x1, .int x2, .int x3]) (Cs := [pX8 o0 w0, pX7 (w0 0) w1, pX1 cy (w1 0) q2 σ2]) (Cs' := [pX8 o0 w0, pX7 (w0 0) w1, pX1 cy (w1 0) q2 u.2]) S hw (c_X8_way l D cy o0 w0 w1 q2 x1 x2 x3 σ2 u hf) (MF.of S.2.2.2.2 wd283 wd70 (by decide)) (S.2.2.2.2.wd wd281 rfl) (S.2.2.2.2.wd wd282 rfl) hl hR js hC hnd hlen rfl rfl rfl rfl hsize rfl hrest hdg hcs kk
end
abbrev rmX8_thing : Room := { frames := 3, cells := 0, slots := 0, locals := 63 }
def f_X8_thing (x1 : Int32) (x2 : Int32) (σ2 : pStt) : Option (Int32 × pStt) := (f_X8_isThing x1).bind (fun u_1 => if u_1 = 0 then some ((-1), σ2) else (f_X8_isCorner x2).bind (fun u_3 => if u_3 = 0 then if x2 = (-1) then (f_X1_cornerOfThing x1 σ2).bind (fun u_8 => (stA σ2 1 8 x1 x2).bind (fun σ_9 => some (u_8, σ_9))) else some ((-1), σ2) else (f_X1_cornerOfThing x1 σ2).bind (fun u_5 => (stA σ2 1 8 x1 x2).bind (fun σ_6 => some (u_5, σ_6)))))
set_option maxHeartbeats 4000000 in
set_option maxRecDepth 100000 in
theorem c_X8_thing (l : Launch) (D : va_G) (cy : Nat → ClassId) (o0 : Nat) (w0 : Nat → Nat) (w1 : Nat → Nat) (q2 : Nat → Nat) (x1 : Int32) (x2 : Int32) (σ2 : pStt) (u : Int32 × pStt) (hf : f_X8_thing x1 x2 σ2 = some u) : CT l yX8_thing cX8_thing 4 (some .int) rmX8_thing D cy [.ref o0, .int x1, .int x2] [pX8 o0 w0, pX7 (w0 0) w1, pX1 cy (w1 0) q2 σ2] (some (.int u.1)) [pX8 o0 w0, pX7 (w0 0) w1, pX1 cy (w1 0) q2 u.2] := by
  refine CT.of (by decide) (Nat.le_of_ble_eq_true rfl) (fun p e s m args below meth c ls A Q hA hQ S hr hlk hl hw => ?_)
  have hl : lv_has ls 4 [(0, .ref o0), (1, .int x1), (2, .int x2)] := hl
  rw [f_X8_thing] at hf
  refine lv_iload_n S.1 S.2.1 dX8_thing_0 rfl (lv_at hl 1 rfl) ?_
  obtain ⟨u_1, e_u_1, hf⟩ := ob hf
  refine k_X8_isThing S (S.2.2.2.2.wd wd308 rfl) hw e_u_1 [] rfl (by decide) rfl ⟨rfl, rfl, Nat.le_of_ble_eq_true rfl, Nat.le_of_ble_eq_true rfl⟩ hl.1 (Nat.le_of_ble_eq_true rfl) dX8_thing_1 ⟨Nat.zero_le _, Nat.zero_le _⟩ (fun H locs hw => ?_)
  have hw : PW D A s.heap [pX8 o0 w0, pX7 (w0 0) w1, pX1 cy (w1 0) q2 σ2] H locs := hw
  refine lv_if_eq (tgt := 19) S.1 S.2.1 dX8_thing_4 (by decide) (fun c_2 => ?_) (fun c_2 => ?_)
  · replace hf := (if_pos c_2).symm.trans hf
    refine lv_iconst (v := (-1)) S.1 S.2.1 dX8_thing_19 (by decide) ?_
    cases hf
    exact w_iret S hr hlk hA hQ hw dX8_thing_20
  · replace hf := (if_neg c_2).symm.trans hf
    refine lv_iload_n S.1 S.2.1 dX8_thing_7 rfl (lv_at hl 2 rfl) ?_
    obtain ⟨u_3, e_u_3, hf⟩ := ob hf
    refine k_X8_isCorner S (S.2.2.2.2.wd wd284 rfl) hw e_u_3 [] rfl (by decide) rfl ⟨rfl, rfl, Nat.le_of_ble_eq_true rfl, Nat.le_of_ble_eq_true rfl⟩ hl.1 (Nat.le_of_ble_eq_true rfl) dX8_thing_8 ⟨Nat.zero_le _, Nat.zero_le _⟩ (fun H locs hw => ?_)
    have hw : PW D A s.heap [pX8 o0 w0, pX7 (w0 0) w1, pX1 cy (w1 0) q2 σ2] H locs := hw
    refine lv_if_ne (tgt := 21) S.1 S.2.1 dX8_thing_11 (by decide) (fun c_4 => ?_) (fun c_4 => ?_)
    · replace hf := (if_neg c_4).symm.trans hf
      refine lv_aload_n S.1 S.2.1 dX8_thing_21 rfl (lv_at hl 0 rfl) ?_
      refine gf_X8_12 S hw 0 rfl dX8_thing_22 ?_
      refine gf_X8_52 S hw 1 rfl dX8_thing_25 ?_
      refine lv_iload_n S.1 S.2.1 dX8_thing_28 rfl (lv_at hl 1 rfl) ?_
      obtain ⟨u_5, e_u_5, hf⟩ := ob hf
      refine k_X1_cornerOfThing S (S.2.2.2.2.wd wd311 rfl) hw e_u_5 [2] rfl (by decide) rfl ⟨rfl, rfl, Nat.le_of_ble_eq_true rfl, Nat.le_of_ble_eq_true rfl⟩ hl.1 (Nat.le_of_ble_eq_true rfl) dX8_thing_29 ⟨Nat.zero_le _, Nat.zero_le _⟩ (fun H locs hw => ?_)
      have hw : PW D A s.heap [pX8 o0 w0, pX7 (w0 0) w1, pX1 cy (w1 0) q2 σ2] H locs := hw
      refine lv_istore_n (lv' := [(3, .int u_5), (0, .ref o0), (1, .int x1), (2, .int x2)]) S.1 S.2.1 dX8_thing_32 rfl hl (by decide) rfl (fun ls hl => ?_)
      refine lv_aload_n S.1 S.2.1 dX8_thing_33 rfl (lv_at hl 1 rfl) ?_
      refine gf_X8_12 S hw 0 rfl dX8_thing_34 ?_
      refine gf_X8_52 S hw 1 rfl dX8_thing_37 ?_
      refine gf_X8_73 S hw 2 rfl dX8_thing_40 ?_
      refine lv_iload_n S.1 S.2.1 dX8_thing_43 rfl (lv_at hl 2 rfl) ?_
      refine lv_iload_n S.1 S.2.1 dX8_thing_44 rfl (lv_at hl 3 rfl) ?_
      obtain ⟨σ_6, e_σ_6, hf⟩ := ob hf
      refine as_X1_1 S hw 2 rfl e_σ_6 dX8_thing_45 (fun H locs hw => ?_)
      have hw : PW D A s.heap [pX8 o0 w0, pX7 (w0 0) w1, pX1 cy (w1 0) q2 σ_6] H locs := hw
      refine lv_iload_n S.1 S.2.1 dX8_thing_46 rfl (lv_at hl 0 rfl) ?_
      cases hf
      exact w_iret S hr hlk hA hQ hw dX8_thing_47
    · replace hf := (if_pos c_4).symm.trans hf
      refine lv_iload_n S.1 S.2.1 dX8_thing_14 rfl (lv_at hl 2 rfl) ?_
      refine lv_iconst (v := (-1)) S.1 S.2.1 dX8_thing_15 (by decide) ?_
      refine lv_icmp_eq (tgt := 21) S.1 S.2.1 dX8_thing_16 (by decide) (fun c_7 => ?_) (fun c_7 => ?_)
      · replace hf := (if_pos c_7).symm.trans hf
        refine lv_aload_n S.1 S.2.1 dX8_thing_21 rfl (lv_at hl 0 rfl) ?_
        refine gf_X8_12 S hw 0 rfl dX8_thing_22 ?_
        refine gf_X8_52 S hw 1 rfl dX8_thing_25 ?_
        refine lv_iload_n S.1 S.2.1 dX8_thing_28 rfl (lv_at hl 1 rfl) ?_
        obtain ⟨u_8, e_u_8, hf⟩ := ob hf
        refine k_X1_cornerOfThing S (S.2.2.2.2.wd wd311 rfl) hw e_u_8 [2] rfl (by decide) rfl ⟨rfl, rfl, Nat.le_of_ble_eq_true rfl, Nat.le_of_ble_eq_true rfl⟩ hl.1 (Nat.le_of_ble_eq_true rfl) dX8_thing_29 ⟨Nat.zero_le _, Nat.zero_le _⟩ (fun H locs hw => ?_)
        have hw : PW D A s.heap [pX8 o0 w0, pX7 (w0 0) w1, pX1 cy (w1 0) q2 σ2] H locs := hw
        refine lv_istore_n (lv' := [(3, .int u_8), (0, .ref o0), (1, .int x1), (2, .int x2)]) S.1 S.2.1 dX8_thing_32 rfl hl (by decide) rfl (fun ls hl => ?_)
        refine lv_aload_n S.1 S.2.1 dX8_thing_33 rfl (lv_at hl 1 rfl) ?_
        refine gf_X8_12 S hw 0 rfl dX8_thing_34 ?_
        refine gf_X8_52 S hw 1 rfl dX8_thing_37 ?_
        refine gf_X8_73 S hw 2 rfl dX8_thing_40 ?_
        refine lv_iload_n S.1 S.2.1 dX8_thing_43 rfl (lv_at hl 2 rfl) ?_
        refine lv_iload_n S.1 S.2.1 dX8_thing_44 rfl (lv_at hl 3 rfl) ?_
        obtain ⟨σ_9, e_σ_9, hf⟩ := ob hf
        refine as_X1_1 S hw 2 rfl e_σ_9 dX8_thing_45 (fun H locs hw => ?_)
        have hw : PW D A s.heap [pX8 o0 w0, pX7 (w0 0) w1, pX1 cy (w1 0) q2 σ_9] H locs := hw
        refine lv_iload_n S.1 S.2.1 dX8_thing_46 rfl (lv_at hl 0 rfl) ?_
        cases hf
        exact w_iret S hr hlk hA hQ hw dX8_thing_47
      · replace hf := (if_neg c_7).symm.trans hf
        refine lv_iconst (v := (-1)) S.1 S.2.1 dX8_thing_19 (by decide) ?_
        cases hf
        exact w_iret S hr hlk hA hQ hw dX8_thing_20
section
variable {p : Program} {l : Launch} {e : Env} {R : Room} {s : State} {m : MethodId} {args : Array Value} {below : List Frame} {meth : Method} {c : Code} {H : Heap} {locs : List Loc} {cells slots : Nat} {Q : State → Prop} {cc : ByteArray} {pc nL : Nat} {ls : Array Slot} {rest : List Value} {D : va_G} {cy : Nat → ClassId} {A : Nat → Prop} {H0 : Heap} {own : String} {Ps : List va_W}
set_option maxRecDepth 100000 in
theorem k_X8_thing {o0 : Nat} {w0 : Nat → Nat} {w1 : Nat → Nat} {q2 : Nat → Nat} {x1 : Int32} {x2 : Int32} {σ2 : pStt} {u : Int32 × pStt} {index : Nat} (S : CX p m c cc nL s args own D cy) (hl : (Cond.methodLink own index yX8_thing).before args s = true) (hw : PW D A H0 Ps H locs) (hf : f_X8_thing x1 x2 σ2 = some u) (js : List Nat) (hC : js.map (fun j => Ps[j]?) = [some (pX8 o0 w0), some (pX7 (w0 0) w1), some (pX1 cy (w1 0) q2 σ2)]) (hnd : js.Nodup) (hlen : js.length = 3) (hR : RMok rmX8_thing R 4) (hsize : ls.size = nL) (hrest : (rest.map fun v => v.category).sum ≤ 8) (hdg : decode cc pc = .ok (.invokevirtual index, 3)) (hcs : cells ≤ R.cells ∧ slots ≤ R.slots)
    (kk : ∀ (H1 : Heap) (locs1 : List Loc), PW D A H0 (setAll Ps js [pX8 o0 w0, pX7 (w0 0) w1, pX1 cy (w1 0) q2 u.2]) H1 locs1 → W p l e R s m args below meth c H1 locs1 cells slots Q (F0 m (pc + 3) ls (.int u.1 :: rest))) : W p l e R s m args below meth c H locs cells slots Q (F0 m pc ls (.int x2 :: .int x1 :: .ref o0 :: rest)) :=
  w_callV (n := 2) (ov := (some (.int u.1))) (As := [.int x1, .int x2]) (Cs := [pX8 o0 w0, pX7 (w0 0) w1, pX1 cy (w1 0) q2 σ2]) (Cs' := [pX8 o0 w0, pX7 (w0 0) w1, pX1 cy (w1 0) q2 u.2]) S hw (c_X8_thing l D cy o0 w0 w1 q2 x1 x2 σ2 u hf) (MF.of S.2.2.2.2 wd307 wd70 (by decide)) (S.2.2.2.2.wd wd305 rfl) (S.2.2.2.2.wd wd306 rfl) hl hR js hC hnd hlen rfl rfl rfl rfl hsize rfl hrest hdg hcs kk
end
abbrev rmX8_person : Room := { frames := 2, cells := 0, slots := 0, locals := 42 }
def f_X8_person (x1 : Int32) (x2 : Int32) (x3 : Int32) (σ2 : pStt) : Option (Int32 × pStt) := (f_X8_isPerson x1).bind (fun u_1 => if u_1 = 0 then some ((-1), σ2) else (f_X8_isCorner x2).bind (fun u_3 => if u_3 = 0 then if x2 = (-1) then (if x2 = (-1) then some 0 else some 9 : Option Int32).bind (fun v_12 => (f_X8_isWithin x3 0 v_12).bind (fun u_13 => if u_13 = 0 then some ((-2), σ2) else (f_X1_cornerOfPerson x1 σ2).bind (fun u_15 => (f_X1_put x1 x2 x3 σ2).bind (fun u_16 => some (u_15, u_16))))) else some ((-1), σ2) else (if x2 = (-1) then some 0 else some 9 : Option Int32).bind (fun v_5 => (f_X8_isWithin x3 0 v_5).bind (fun u_6 => if u_6 = 0 then some ((-2), σ2) else (f_X1_cornerOfPerson x1 σ2).bind (fun u_8 => (f_X1_put x1 x2 x3 σ2).bind (fun u_9 => some (u_8, u_9)))))))
set_option maxHeartbeats 4000000 in
set_option maxRecDepth 100000 in
theorem c_X8_person (l : Launch) (D : va_G) (cy : Nat → ClassId) (o0 : Nat) (w0 : Nat → Nat) (w1 : Nat → Nat) (q2 : Nat → Nat) (x1 : Int32) (x2 : Int32) (x3 : Int32) (σ2 : pStt) (u : Int32 × pStt) (hf : f_X8_person x1 x2 x3 σ2 = some u) : CT l yX8_person cX8_person 5 (some .int) rmX8_person D cy [.ref o0, .int x1, .int x2, .int x3] [pX8 o0 w0, pX7 (w0 0) w1, pX1 cy (w1 0) q2 σ2] (some (.int u.1)) [pX8 o0 w0, pX7 (w0 0) w1, pX1 cy (w1 0) q2 u.2] := by
  refine CT.of (by decide) (Nat.le_of_ble_eq_true rfl) (fun p e s m args below meth c ls A Q hA hQ S hr hlk hl hw => ?_)
  have hl : lv_has ls 5 [(0, .ref o0), (1, .int x1), (2, .int x2), (3, .int x3)] := hl
  rw [f_X8_person] at hf
  refine lv_iload_n S.1 S.2.1 dX8_person_0 rfl (lv_at hl 1 rfl) ?_
  obtain ⟨u_1, e_u_1, hf⟩ := ob hf
  refine k_X8_isPerson S (S.2.2.2.2.wd wd320 rfl) hw e_u_1 [] rfl (by decide) rfl ⟨rfl, rfl, Nat.le_of_ble_eq_true rfl, Nat.le_of_ble_eq_true rfl⟩ hl.1 (Nat.le_of_ble_eq_true rfl) dX8_person_1 ⟨Nat.zero_le _, Nat.zero_le _⟩ (fun H locs hw => ?_)
  have hw : PW D A s.heap [pX8 o0 w0, pX7 (w0 0) w1, pX1 cy (w1 0) q2 σ2] H locs := hw
  refine lv_if_eq (tgt := 19) S.1 S.2.1 dX8_person_4 (by decide) (fun c_2 => ?_) (fun c_2 => ?_)
  · replace hf := (if_pos c_2).symm.trans hf
    refine lv_iconst (v := (-1)) S.1 S.2.1 dX8_person_19 (by decide) ?_
    cases hf
    exact w_iret S hr hlk hA hQ hw dX8_person_20
  · replace hf := (if_neg c_2).symm.trans hf
    refine lv_iload_n S.1 S.2.1 dX8_person_7 rfl (lv_at hl 2 rfl) ?_
    obtain ⟨u_3, e_u_3, hf⟩ := ob hf
    refine k_X8_isCorner S (S.2.2.2.2.wd wd284 rfl) hw e_u_3 [] rfl (by decide) rfl ⟨rfl, rfl, Nat.le_of_ble_eq_true rfl, Nat.le_of_ble_eq_true rfl⟩ hl.1 (Nat.le_of_ble_eq_true rfl) dX8_person_8 ⟨Nat.zero_le _, Nat.zero_le _⟩ (fun H locs hw => ?_)
    have hw : PW D A s.heap [pX8 o0 w0, pX7 (w0 0) w1, pX1 cy (w1 0) q2 σ2] H locs := hw
    refine lv_if_ne (tgt := 21) S.1 S.2.1 dX8_person_11 (by decide) (fun c_4 => ?_) (fun c_4 => ?_)
    · replace hf := (if_neg c_4).symm.trans hf
      refine lv_iload_n S.1 S.2.1 dX8_person_21 rfl (lv_at hl 3 rfl) ?_
      refine lv_iconst (v := 0) S.1 S.2.1 dX8_person_22 (by decide) ?_
      refine lv_iload_n S.1 S.2.1 dX8_person_23 rfl (lv_at hl 2 rfl) ?_
      refine lv_iconst (v := (-1)) S.1 S.2.1 dX8_person_24 (by decide) ?_
      obtain ⟨v_5, e_v_5, hf⟩ := ob hf
      have hJ_v_5 : ∀ (H : Heap) (locs : List Loc), PW D A s.heap [pX8 o0 w0, pX7 (w0 0) w1, pX1 cy (w1 0) q2 σ2] H locs → W p l e rmX8_person s m args below meth c H locs 0 0 Q (F0 m 34 ls [.int v_5, .int 0, .int x3]) := by
        intro H locs hw
        obtain ⟨u_6, e_u_6, hf⟩ := ob hf
        refine k_X8_isWithin S (S.2.2.2.2.wd wd287 rfl) hw e_u_6 [] rfl (by decide) rfl ⟨rfl, rfl, Nat.le_of_ble_eq_true rfl, Nat.le_of_ble_eq_true rfl⟩ hl.1 (Nat.le_of_ble_eq_true rfl) dX8_person_34 ⟨Nat.zero_le _, Nat.zero_le _⟩ (fun H locs hw => ?_)
        have hw : PW D A s.heap [pX8 o0 w0, pX7 (w0 0) w1, pX1 cy (w1 0) q2 σ2] H locs := hw
        refine lv_if_ne (tgt := 43) S.1 S.2.1 dX8_person_37 (by decide) (fun c_7 => ?_) (fun c_7 => ?_)
        · replace hf := (if_neg c_7).symm.trans hf
          refine lv_aload_n S.1 S.2.1 dX8_person_43 rfl (lv_at hl 0 rfl) ?_
          refine gf_X8_12 S hw 0 rfl dX8_person_44 ?_
          refine gf_X8_52 S hw 1 rfl dX8_person_47 ?_
          refine lv_iload_n S.1 S.2.1 dX8_person_50 rfl (lv_at hl 1 rfl) ?_
          obtain ⟨u_8, e_u_8, hf⟩ := ob hf
          refine k_X1_cornerOfPerson S (S.2.2.2.2.wd wd323 rfl) hw e_u_8 [2] rfl (by decide) rfl ⟨rfl, rfl, Nat.le_of_ble_eq_true rfl, Nat.le_of_ble_eq_true rfl⟩ hl.1 (Nat.le_of_ble_eq_true rfl) dX8_person_51 ⟨Nat.zero_le _, Nat.zero_le _⟩ (fun H locs hw => ?_)
          have hw : PW D A s.heap [pX8 o0 w0, pX7 (w0 0) w1, pX1 cy (w1 0) q2 σ2] H locs := hw
          refine lv_istore (lv' := [(4, .int u_8), (0, .ref o0), (1, .int x1), (2, .int x2), (3, .int x3)]) S.1 S.2.1 dX8_person_54 hl (by decide) rfl (fun ls hl => ?_)
          refine lv_aload_n S.1 S.2.1 dX8_person_56 rfl (lv_at hl 1 rfl) ?_
          refine gf_X8_12 S hw 0 rfl dX8_person_57 ?_
          refine gf_X8_52 S hw 1 rfl dX8_person_60 ?_
          refine lv_iload_n S.1 S.2.1 dX8_person_63 rfl (lv_at hl 2 rfl) ?_
          refine lv_iload_n S.1 S.2.1 dX8_person_64 rfl (lv_at hl 3 rfl) ?_
          refine lv_iload_n S.1 S.2.1 dX8_person_65 rfl (lv_at hl 4 rfl) ?_
          obtain ⟨u_9, e_u_9, hf⟩ := ob hf
          refine k_X1_put S (S.2.2.2.2.wd wd327 rfl) hw e_u_9 [2] rfl (by decide) rfl ⟨rfl, rfl, Nat.le_of_ble_eq_true rfl, Nat.le_of_ble_eq_true rfl⟩ hl.1 (Nat.le_of_ble_eq_true rfl) dX8_person_66 ⟨Nat.zero_le _, Nat.zero_le _⟩ (fun H locs hw => ?_)
          have hw : PW D A s.heap [pX8 o0 w0, pX7 (w0 0) w1, pX1 cy (w1 0) q2 u_9] H locs := hw
          refine lv_iload S.1 S.2.1 dX8_person_69 (lv_at hl 0 rfl) ?_
          cases hf
          exact w_iret S hr hlk hA hQ hw dX8_person_71
        · replace hf := (if_pos c_7).symm.trans hf
          refine lv_bipush (v := (-2)) S.1 S.2.1 dX8_person_40 (by decide) ?_
          cases hf
          exact w_iret S hr hlk hA hQ hw dX8_person_42
      replace hf := e_v_5
      clear e_v_5
      refine lv_icmp_ne (tgt := 32) S.1 S.2.1 dX8_person_25 (by decide) (fun c_10 => ?_) (fun c_10 => ?_)
      · replace hf := (if_neg c_10).symm.trans hf
        refine lv_bipush (v := 9) S.1 S.2.1 dX8_person_32 (by decide) ?_
        cases hf
        exact hJ_v_5 _ _ hw
      · replace hf := (if_pos c_10).symm.trans hf
        refine lv_iconst (v := 0) S.1 S.2.1 dX8_person_28 (by decide) ?_
        refine lv_goto (tgt := 34) S.1 S.2.1 dX8_person_29 (by decide) ?_
        cases hf
        exact hJ_v_5 _ _ hw
    · replace hf := (if_pos c_4).symm.trans hf
      refine lv_iload_n S.1 S.2.1 dX8_person_14 rfl (lv_at hl 2 rfl) ?_
      refine lv_iconst (v := (-1)) S.1 S.2.1 dX8_person_15 (by decide) ?_
      refine lv_icmp_eq (tgt := 21) S.1 S.2.1 dX8_person_16 (by decide) (fun c_11 => ?_) (fun c_11 => ?_)
      · replace hf := (if_pos c_11).symm.trans hf
        refine lv_iload_n S.1 S.2.1 dX8_person_21 rfl (lv_at hl 3 rfl) ?_
        refine lv_iconst (v := 0) S.1 S.2.1 dX8_person_22 (by decide) ?_
        refine lv_iload_n S.1 S.2.1 dX8_person_23 rfl (lv_at hl 2 rfl) ?_
        refine lv_iconst (v := (-1)) S.1 S.2.1 dX8_person_24 (by decide) ?_
        obtain ⟨v_12, e_v_12, hf⟩ := ob hf
        have hJ_v_12 : ∀ (H : Heap) (locs : List Loc), PW D A s.heap [pX8 o0 w0, pX7 (w0 0) w1, pX1 cy (w1 0) q2 σ2] H locs → W p l e rmX8_person s m args below meth c H locs 0 0 Q (F0 m 34 ls [.int v_12, .int 0, .int x3]) := by
          intro H locs hw
          obtain ⟨u_13, e_u_13, hf⟩ := ob hf
          refine k_X8_isWithin S (S.2.2.2.2.wd wd287 rfl) hw e_u_13 [] rfl (by decide) rfl ⟨rfl, rfl, Nat.le_of_ble_eq_true rfl, Nat.le_of_ble_eq_true rfl⟩ hl.1 (Nat.le_of_ble_eq_true rfl) dX8_person_34 ⟨Nat.zero_le _, Nat.zero_le _⟩ (fun H locs hw => ?_)
          have hw : PW D A s.heap [pX8 o0 w0, pX7 (w0 0) w1, pX1 cy (w1 0) q2 σ2] H locs := hw
          refine lv_if_ne (tgt := 43) S.1 S.2.1 dX8_person_37 (by decide) (fun c_14 => ?_) (fun c_14 => ?_)
          · replace hf := (if_neg c_14).symm.trans hf
            refine lv_aload_n S.1 S.2.1 dX8_person_43 rfl (lv_at hl 0 rfl) ?_
            refine gf_X8_12 S hw 0 rfl dX8_person_44 ?_
            refine gf_X8_52 S hw 1 rfl dX8_person_47 ?_
            refine lv_iload_n S.1 S.2.1 dX8_person_50 rfl (lv_at hl 1 rfl) ?_
            obtain ⟨u_15, e_u_15, hf⟩ := ob hf
            refine k_X1_cornerOfPerson S (S.2.2.2.2.wd wd323 rfl) hw e_u_15 [2] rfl (by decide) rfl ⟨rfl, rfl, Nat.le_of_ble_eq_true rfl, Nat.le_of_ble_eq_true rfl⟩ hl.1 (Nat.le_of_ble_eq_true rfl) dX8_person_51 ⟨Nat.zero_le _, Nat.zero_le _⟩ (fun H locs hw => ?_)
            have hw : PW D A s.heap [pX8 o0 w0, pX7 (w0 0) w1, pX1 cy (w1 0) q2 σ2] H locs := hw
            refine lv_istore (lv' := [(4, .int u_15), (0, .ref o0), (1, .int x1), (2, .int x2), (3, .int x3)]) S.1 S.2.1 dX8_person_54 hl (by decide) rfl (fun ls hl => ?_)
            refine lv_aload_n S.1 S.2.1 dX8_person_56 rfl (lv_at hl 1 rfl) ?_
            refine gf_X8_12 S hw 0 rfl dX8_person_57 ?_
            refine gf_X8_52 S hw 1 rfl dX8_person_60 ?_
            refine lv_iload_n S.1 S.2.1 dX8_person_63 rfl (lv_at hl 2 rfl) ?_
            refine lv_iload_n S.1 S.2.1 dX8_person_64 rfl (lv_at hl 3 rfl) ?_
            refine lv_iload_n S.1 S.2.1 dX8_person_65 rfl (lv_at hl 4 rfl) ?_
            obtain ⟨u_16, e_u_16, hf⟩ := ob hf
            refine k_X1_put S (S.2.2.2.2.wd wd327 rfl) hw e_u_16 [2] rfl (by decide) rfl ⟨rfl, rfl, Nat.le_of_ble_eq_true rfl, Nat.le_of_ble_eq_true rfl⟩ hl.1 (Nat.le_of_ble_eq_true rfl) dX8_person_66 ⟨Nat.zero_le _, Nat.zero_le _⟩ (fun H locs hw => ?_)
            have hw : PW D A s.heap [pX8 o0 w0, pX7 (w0 0) w1, pX1 cy (w1 0) q2 u_16] H locs := hw
            refine lv_iload S.1 S.2.1 dX8_person_69 (lv_at hl 0 rfl) ?_
            cases hf
            exact w_iret S hr hlk hA hQ hw dX8_person_71
          · replace hf := (if_pos c_14).symm.trans hf
            refine lv_bipush (v := (-2)) S.1 S.2.1 dX8_person_40 (by decide) ?_
            cases hf
            exact w_iret S hr hlk hA hQ hw dX8_person_42
        replace hf := e_v_12
        clear e_v_12
        refine lv_icmp_ne (tgt := 32) S.1 S.2.1 dX8_person_25 (by decide) (fun c_17 => ?_) (fun c_17 => ?_)
        · replace hf := (if_neg c_17).symm.trans hf
          refine lv_bipush (v := 9) S.1 S.2.1 dX8_person_32 (by decide) ?_
          cases hf
          exact hJ_v_12 _ _ hw
        · replace hf := (if_pos c_17).symm.trans hf
          refine lv_iconst (v := 0) S.1 S.2.1 dX8_person_28 (by decide) ?_
          refine lv_goto (tgt := 34) S.1 S.2.1 dX8_person_29 (by decide) ?_
          cases hf
          exact hJ_v_12 _ _ hw
      · replace hf := (if_neg c_11).symm.trans hf
        refine lv_iconst (v := (-1)) S.1 S.2.1 dX8_person_19 (by decide) ?_
        cases hf
        exact w_iret S hr hlk hA hQ hw dX8_person_20
section
variable {p : Program} {l : Launch} {e : Env} {R : Room} {s : State} {m : MethodId} {args : Array Value} {below : List Frame} {meth : Method} {c : Code} {H : Heap} {locs : List Loc} {cells slots : Nat} {Q : State → Prop} {cc : ByteArray} {pc nL : Nat} {ls : Array Slot} {rest : List Value} {D : va_G} {cy : Nat → ClassId} {A : Nat → Prop} {H0 : Heap} {own : String} {Ps : List va_W}
set_option maxRecDepth 100000 in
theorem k_X8_person {o0 : Nat} {w0 : Nat → Nat} {w1 : Nat → Nat} {q2 : Nat → Nat} {x1 : Int32} {x2 : Int32} {x3 : Int32} {σ2 : pStt} {u : Int32 × pStt} {index : Nat} (S : CX p m c cc nL s args own D cy) (hl : (Cond.methodLink own index yX8_person).before args s = true) (hw : PW D A H0 Ps H locs) (hf : f_X8_person x1 x2 x3 σ2 = some u) (js : List Nat) (hC : js.map (fun j => Ps[j]?) = [some (pX8 o0 w0), some (pX7 (w0 0) w1), some (pX1 cy (w1 0) q2 σ2)]) (hnd : js.Nodup) (hlen : js.length = 3) (hR : RMok rmX8_person R 5) (hsize : ls.size = nL) (hrest : (rest.map fun v => v.category).sum ≤ 8) (hdg : decode cc pc = .ok (.invokevirtual index, 3)) (hcs : cells ≤ R.cells ∧ slots ≤ R.slots)
    (kk : ∀ (H1 : Heap) (locs1 : List Loc), PW D A H0 (setAll Ps js [pX8 o0 w0, pX7 (w0 0) w1, pX1 cy (w1 0) q2 u.2]) H1 locs1 → W p l e R s m args below meth c H1 locs1 cells slots Q (F0 m (pc + 3) ls (.int u.1 :: rest))) : W p l e R s m args below meth c H locs cells slots Q (F0 m pc ls (.int x3 :: .int x2 :: .int x1 :: .ref o0 :: rest)) :=
  w_callV (n := 3) (ov := (some (.int u.1))) (As := [.int x1, .int x2, .int x3]) (Cs := [pX8 o0 w0, pX7 (w0 0) w1, pX1 cy (w1 0) q2 σ2]) (Cs' := [pX8 o0 w0, pX7 (w0 0) w1, pX1 cy (w1 0) q2 u.2]) S hw (c_X8_person l D cy o0 w0 w1 q2 x1 x2 x3 σ2 u hf) (MF.of S.2.2.2.2 wd319 wd70 (by decide)) (S.2.2.2.2.wd wd317 rfl) (S.2.2.2.2.wd wd318 rfl) hl hR js hC hnd hlen rfl rfl rfl rfl hsize rfl hrest hdg hcs kk
end
abbrev rmX8_pole : Room := { frames := 1, cells := 0, slots := 0, locals := 20 }
def f_X8_pole (x1 : Int32) (σ2 : pStt) : Option (Int32 × pStt) := (f_X1_poleAsNumber σ2).bind (fun u_1 => (asB x1).bind (fun b_2 => (some (sI σ2 1 b_2)).bind (fun σ_3 => some (u_1, σ_3))))
set_option maxHeartbeats 4000000 in
set_option maxRecDepth 100000 in
theorem c_X8_pole (l : Launch) (D : va_G) (cy : Nat → ClassId) (o0 : Nat) (w0 : Nat → Nat) (w1 : Nat → Nat) (q2 : Nat → Nat) (x1 : Int32) (σ2 : pStt) (u : Int32 × pStt) (hf : f_X8_pole x1 σ2 = some u) : CT l yX8_pole cX8_pole 3 (some .int) rmX8_pole D cy [.ref o0, .int x1] [pX8 o0 w0, pX7 (w0 0) w1, pX1 cy (w1 0) q2 σ2] (some (.int u.1)) [pX8 o0 w0, pX7 (w0 0) w1, pX1 cy (w1 0) q2 u.2] := by
  refine CT.of (by decide) (Nat.le_of_ble_eq_true rfl) (fun p e s m args below meth c ls A Q hA hQ S hr hlk hl hw => ?_)
  have hl : lv_has ls 3 [(0, .ref o0), (1, .int x1)] := hl
  rw [f_X8_pole] at hf
  refine lv_aload_n S.1 S.2.1 dX8_pole_0 rfl (lv_at hl 0 rfl) ?_
  refine gf_X8_12 S hw 0 rfl dX8_pole_1 ?_
  refine gf_X8_52 S hw 1 rfl dX8_pole_4 ?_
  obtain ⟨u_1, e_u_1, hf⟩ := ob hf
  refine k_X1_poleAsNumber S (S.2.2.2.2.wd wd335 rfl) hw e_u_1 [2] rfl (by decide) rfl ⟨rfl, rfl, Nat.le_of_ble_eq_true rfl, Nat.le_of_ble_eq_true rfl⟩ hl.1 (Nat.le_of_ble_eq_true rfl) dX8_pole_7 ⟨Nat.zero_le _, Nat.zero_le _⟩ (fun H locs hw => ?_)
  have hw : PW D A s.heap [pX8 o0 w0, pX7 (w0 0) w1, pX1 cy (w1 0) q2 σ2] H locs := hw
  refine lv_istore_n (lv' := [(2, .int u_1), (0, .ref o0), (1, .int x1)]) S.1 S.2.1 dX8_pole_10 rfl hl (by decide) rfl (fun ls hl => ?_)
  refine lv_aload_n S.1 S.2.1 dX8_pole_11 rfl (lv_at hl 1 rfl) ?_
  refine gf_X8_12 S hw 0 rfl dX8_pole_12 ?_
  refine gf_X8_52 S hw 1 rfl dX8_pole_15 ?_
  refine lv_iload_n S.1 S.2.1 dX8_pole_18 rfl (lv_at hl 2 rfl) ?_
  obtain ⟨b_2, e_b_2, hf⟩ := ob hf
  obtain ⟨σ_3, e_σ_3, hf⟩ := ob hf
  refine pf_X8_94 S hw 2 rfl e_b_2 e_σ_3 dX8_pole_19 (fun H locs hw => ?_)
  have hw : PW D A s.heap [pX8 o0 w0, pX7 (w0 0) w1, pX1 cy (w1 0) q2 σ_3] H locs := hw
  refine lv_iload_n S.1 S.2.1 dX8_pole_22 rfl (lv_at hl 0 rfl) ?_
  cases hf
  exact w_iret S hr hlk hA hQ hw dX8_pole_23
section
variable {p : Program} {l : Launch} {e : Env} {R : Room} {s : State} {m : MethodId} {args : Array Value} {below : List Frame} {meth : Method} {c : Code} {H : Heap} {locs : List Loc} {cells slots : Nat} {Q : State → Prop} {cc : ByteArray} {pc nL : Nat} {ls : Array Slot} {rest : List Value} {D : va_G} {cy : Nat → ClassId} {A : Nat → Prop} {H0 : Heap} {own : String} {Ps : List va_W}
set_option maxRecDepth 100000 in
theorem k_X8_pole {o0 : Nat} {w0 : Nat → Nat} {w1 : Nat → Nat} {q2 : Nat → Nat} {x1 : Int32} {σ2 : pStt} {u : Int32 × pStt} {index : Nat} (S : CX p m c cc nL s args own D cy) (hl : (Cond.methodLink own index yX8_pole).before args s = true) (hw : PW D A H0 Ps H locs) (hf : f_X8_pole x1 σ2 = some u) (js : List Nat) (hC : js.map (fun j => Ps[j]?) = [some (pX8 o0 w0), some (pX7 (w0 0) w1), some (pX1 cy (w1 0) q2 σ2)]) (hnd : js.Nodup) (hlen : js.length = 3) (hR : RMok rmX8_pole R 3) (hsize : ls.size = nL) (hrest : (rest.map fun v => v.category).sum ≤ 8) (hdg : decode cc pc = .ok (.invokevirtual index, 3)) (hcs : cells ≤ R.cells ∧ slots ≤ R.slots)
    (kk : ∀ (H1 : Heap) (locs1 : List Loc), PW D A H0 (setAll Ps js [pX8 o0 w0, pX7 (w0 0) w1, pX1 cy (w1 0) q2 u.2]) H1 locs1 → W p l e R s m args below meth c H1 locs1 cells slots Q (F0 m (pc + 3) ls (.int u.1 :: rest))) : W p l e R s m args below meth c H locs cells slots Q (F0 m pc ls (.int x1 :: .ref o0 :: rest)) :=
  w_callV (n := 1) (ov := (some (.int u.1))) (As := [.int x1]) (Cs := [pX8 o0 w0, pX7 (w0 0) w1, pX1 cy (w1 0) q2 σ2]) (Cs' := [pX8 o0 w0, pX7 (w0 0) w1, pX1 cy (w1 0) q2 u.2]) S hw (c_X8_pole l D cy o0 w0 w1 q2 x1 σ2 u hf) (MF.of S.2.2.2.2 wd334 wd70 (by decide)) (S.2.2.2.2.wd wd332 rfl) (S.2.2.2.2.wd wd333 rfl) hl hR js hC hnd hlen rfl rfl rfl rfl hsize rfl hrest hdg hcs kk
end
abbrev rmX8_say : Room := { frames := 1, cells := 0, slots := 0, locals := 22 }
def f_X8_say (x1 : Int32) (σ1 : pStt) : Option (Int32 × pStt) := (f_X8_isWithin x1 33 126).bind (fun u_1 => if u_1 = 0 then some ((-2), σ1) else (f_X3_add x1 σ1).bind (fun u_3 => (if u_3.1 = 0 then some ((-4)) else some ((u_3.2.1 0)) : Option Int32).bind (fun v_4 => some (v_4, u_3.2))))
set_option maxHeartbeats 4000000 in
set_option maxRecDepth 100000 in
theorem c_X8_say (l : Launch) (D : va_G) (cy : Nat → ClassId) (o0 : Nat) (w0 : Nat → Nat) (q1 : Nat → Nat) (x1 : Int32) (σ1 : pStt) (u : Int32 × pStt) (hf : f_X8_say x1 σ1 = some u) : CT l yX8_say cX8_say 2 (some .int) rmX8_say D cy [.ref o0, .int x1] [pX8 o0 w0, pX3 cy (w0 2) q1 σ1] (some (.int u.1)) [pX8 o0 w0, pX3 cy (w0 2) q1 u.2] := by
  refine CT.of (by decide) (Nat.le_of_ble_eq_true rfl) (fun p e s m args below meth c ls A Q hA hQ S hr hlk hl hw => ?_)
  have hl : lv_has ls 2 [(0, .ref o0), (1, .int x1)] := hl
  rw [f_X8_say] at hf
  refine lv_iload_n S.1 S.2.1 dX8_say_0 rfl (lv_at hl 1 rfl) ?_
  refine lv_bipush (v := 33) S.1 S.2.1 dX8_say_1 (by decide) ?_
  refine lv_bipush (v := 126) S.1 S.2.1 dX8_say_3 (by decide) ?_
  obtain ⟨u_1, e_u_1, hf⟩ := ob hf
  refine k_X8_isWithin S (S.2.2.2.2.wd wd287 rfl) hw e_u_1 [] rfl (by decide) rfl ⟨rfl, rfl, Nat.le_of_ble_eq_true rfl, Nat.le_of_ble_eq_true rfl⟩ hl.1 (Nat.le_of_ble_eq_true rfl) dX8_say_5 ⟨Nat.zero_le _, Nat.zero_le _⟩ (fun H locs hw => ?_)
  have hw : PW D A s.heap [pX8 o0 w0, pX3 cy (w0 2) q1 σ1] H locs := hw
  refine lv_if_ne (tgt := 14) S.1 S.2.1 dX8_say_8 (by decide) (fun c_2 => ?_) (fun c_2 => ?_)
  · replace hf := (if_neg c_2).symm.trans hf
    refine lv_aload_n S.1 S.2.1 dX8_say_14 rfl (lv_at hl 0 rfl) ?_
    refine gf_X8_23 S hw 0 rfl dX8_say_15 ?_
    refine lv_iload_n S.1 S.2.1 dX8_say_18 rfl (lv_at hl 1 rfl) ?_
    obtain ⟨u_3, e_u_3, hf⟩ := ob hf
    refine k_X3_add S (S.2.2.2.2.wd wd343 rfl) hw e_u_3 [1] rfl (by decide) rfl ⟨rfl, rfl, Nat.le_of_ble_eq_true rfl, Nat.le_of_ble_eq_true rfl⟩ hl.1 (Nat.le_of_ble_eq_true rfl) dX8_say_19 ⟨Nat.zero_le _, Nat.zero_le _⟩ (fun H locs hw => ?_)
    have hw : PW D A s.heap [pX8 o0 w0, pX3 cy (w0 2) q1 u_3.2] H locs := hw
    obtain ⟨v_4, e_v_4, hf⟩ := ob hf
    have hJ_v_4 : ∀ (H : Heap) (locs : List Loc), PW D A s.heap [pX8 o0 w0, pX3 cy (w0 2) q1 u_3.2] H locs → W p l e rmX8_say s m args below meth c H locs 0 0 Q (F0 m 37 ls [.int v_4]) := by
      intro H locs hw
      cases hf
      exact w_iret S hr hlk hA hQ hw dX8_say_37
    replace hf := e_v_4
    clear e_v_4
    refine lv_if_eq (tgt := 35) S.1 S.2.1 dX8_say_22 (by decide) (fun c_5 => ?_) (fun c_5 => ?_)
    · replace hf := (if_pos c_5).symm.trans hf
      refine lv_bipush (v := (-4)) S.1 S.2.1 dX8_say_35 (by decide) ?_
      cases hf
      exact hJ_v_4 _ _ hw
    · replace hf := (if_neg c_5).symm.trans hf
      refine lv_aload_n S.1 S.2.1 dX8_say_25 rfl (lv_at hl 0 rfl) ?_
      refine gf_X8_23 S hw 0 rfl dX8_say_26 ?_
      refine gf_X8_101 S hw 1 rfl dX8_say_29 ?_
      refine lv_goto (tgt := 37) S.1 S.2.1 dX8_say_32 (by decide) ?_
      cases hf
      exact hJ_v_4 _ _ hw
  · replace hf := (if_pos c_2).symm.trans hf
    refine lv_bipush (v := (-2)) S.1 S.2.1 dX8_say_11 (by decide) ?_
    cases hf
    exact w_iret S hr hlk hA hQ hw dX8_say_13
section
variable {p : Program} {l : Launch} {e : Env} {R : Room} {s : State} {m : MethodId} {args : Array Value} {below : List Frame} {meth : Method} {c : Code} {H : Heap} {locs : List Loc} {cells slots : Nat} {Q : State → Prop} {cc : ByteArray} {pc nL : Nat} {ls : Array Slot} {rest : List Value} {D : va_G} {cy : Nat → ClassId} {A : Nat → Prop} {H0 : Heap} {own : String} {Ps : List va_W}
set_option maxRecDepth 100000 in
theorem k_X8_say {o0 : Nat} {w0 : Nat → Nat} {q1 : Nat → Nat} {x1 : Int32} {σ1 : pStt} {u : Int32 × pStt} {index : Nat} (S : CX p m c cc nL s args own D cy) (hl : (Cond.methodLink own index yX8_say).before args s = true) (hw : PW D A H0 Ps H locs) (hf : f_X8_say x1 σ1 = some u) (js : List Nat) (hC : js.map (fun j => Ps[j]?) = [some (pX8 o0 w0), some (pX3 cy (w0 2) q1 σ1)]) (hnd : js.Nodup) (hlen : js.length = 2) (hR : RMok rmX8_say R 2) (hsize : ls.size = nL) (hrest : (rest.map fun v => v.category).sum ≤ 8) (hdg : decode cc pc = .ok (.invokevirtual index, 3)) (hcs : cells ≤ R.cells ∧ slots ≤ R.slots)
    (kk : ∀ (H1 : Heap) (locs1 : List Loc), PW D A H0 (setAll Ps js [pX8 o0 w0, pX3 cy (w0 2) q1 u.2]) H1 locs1 → W p l e R s m args below meth c H1 locs1 cells slots Q (F0 m (pc + 3) ls (.int u.1 :: rest))) : W p l e R s m args below meth c H locs cells slots Q (F0 m pc ls (.int x1 :: .ref o0 :: rest)) :=
  w_callV (n := 1) (ov := (some (.int u.1))) (As := [.int x1]) (Cs := [pX8 o0 w0, pX3 cy (w0 2) q1 σ1]) (Cs' := [pX8 o0 w0, pX3 cy (w0 2) q1 u.2]) S hw (c_X8_say l D cy o0 w0 q1 x1 σ1 u hf) (MF.of S.2.2.2.2 wd342 wd70 (by decide)) (S.2.2.2.2.wd wd340 rfl) (S.2.2.2.2.wd wd341 rfl) hl hR js hC hnd hlen rfl rfl rfl rfl hsize rfl hrest hdg hcs kk
end
abbrev rmX8_wipe : Room := { frames := 0, cells := 0, slots := 0, locals := 0 }
def f_X8_wipe (σ1 : pStt) : Option (Int32 × pStt) := (some (sI σ1 0 0)).bind (fun σ_1 => some ((σ1.1 0), σ_1))
set_option maxHeartbeats 4000000 in
set_option maxRecDepth 100000 in
theorem c_X8_wipe (l : Launch) (D : va_G) (cy : Nat → ClassId) (o0 : Nat) (w0 : Nat → Nat) (q1 : Nat → Nat) (σ1 : pStt) (u : Int32 × pStt) (hf : f_X8_wipe σ1 = some u) : CT l yX8_wipe cX8_wipe 2 (some .int) rmX8_wipe D cy [.ref o0] [pX8 o0 w0, pX3 cy (w0 2) q1 σ1] (some (.int u.1)) [pX8 o0 w0, pX3 cy (w0 2) q1 u.2] := by
  refine CT.of (by decide) (Nat.le_of_ble_eq_true rfl) (fun p e s m args below meth c ls A Q hA hQ S hr hlk hl hw => ?_)
  have hl : lv_has ls 2 [(0, .ref o0)] := hl
  rw [f_X8_wipe] at hf
  refine lv_aload_n S.1 S.2.1 dX8_wipe_0 rfl (lv_at hl 0 rfl) ?_
  refine gf_X8_23 S hw 0 rfl dX8_wipe_1 ?_
  refine gf_X8_101 S hw 1 rfl dX8_wipe_4 ?_
  refine lv_istore_n (lv' := [(1, .int ((σ1.1 0))), (0, .ref o0)]) S.1 S.2.1 dX8_wipe_7 rfl hl (by decide) rfl (fun ls hl => ?_)
  refine lv_aload_n S.1 S.2.1 dX8_wipe_8 rfl (lv_at hl 1 rfl) ?_
  refine gf_X8_23 S hw 0 rfl dX8_wipe_9 ?_
  refine lv_iconst (v := 0) S.1 S.2.1 dX8_wipe_12 (by decide) ?_
  obtain ⟨σ_1, e_σ_1, hf⟩ := ob hf
  refine pf_X8_101 S hw 1 rfl e_σ_1 dX8_wipe_13 (fun H locs hw => ?_)
  have hw : PW D A s.heap [pX8 o0 w0, pX3 cy (w0 2) q1 σ_1] H locs := hw
  refine lv_iload_n S.1 S.2.1 dX8_wipe_16 rfl (lv_at hl 0 rfl) ?_
  cases hf
  exact w_iret S hr hlk hA hQ hw dX8_wipe_17
section
variable {p : Program} {l : Launch} {e : Env} {R : Room} {s : State} {m : MethodId} {args : Array Value} {below : List Frame} {meth : Method} {c : Code} {H : Heap} {locs : List Loc} {cells slots : Nat} {Q : State → Prop} {cc : ByteArray} {pc nL : Nat} {ls : Array Slot} {rest : List Value} {D : va_G} {cy : Nat → ClassId} {A : Nat → Prop} {H0 : Heap} {own : String} {Ps : List va_W}
set_option maxRecDepth 100000 in
theorem k_X8_wipe {o0 : Nat} {w0 : Nat → Nat} {q1 : Nat → Nat}  {σ1 : pStt} {u : Int32 × pStt} {index : Nat} (S : CX p m c cc nL s args own D cy) (hl : (Cond.methodLink own index yX8_wipe).before args s = true) (hw : PW D A H0 Ps H locs) (hf : f_X8_wipe σ1 = some u) (js : List Nat) (hC : js.map (fun j => Ps[j]?) = [some (pX8 o0 w0), some (pX3 cy (w0 2) q1 σ1)]) (hnd : js.Nodup) (hlen : js.length = 2) (hR : RMok rmX8_wipe R 2) (hsize : ls.size = nL) (hrest : (rest.map fun v => v.category).sum ≤ 8) (hdg : decode cc pc = .ok (.invokevirtual index, 3)) (hcs : cells ≤ R.cells ∧ slots ≤ R.slots)
    (kk : ∀ (H1 : Heap) (locs1 : List Loc), PW D A H0 (setAll Ps js [pX8 o0 w0, pX3 cy (w0 2) q1 u.2]) H1 locs1 → W p l e R s m args below meth c H1 locs1 cells slots Q (F0 m (pc + 3) ls (.int u.1 :: rest))) : W p l e R s m args below meth c H locs cells slots Q (F0 m pc ls (.ref o0 :: rest)) :=
  w_callV (n := 0) (ov := (some (.int u.1))) (As := []) (Cs := [pX8 o0 w0, pX3 cy (w0 2) q1 σ1]) (Cs' := [pX8 o0 w0, pX3 cy (w0 2) q1 u.2]) S hw (c_X8_wipe l D cy o0 w0 q1 σ1 u hf) (MF.of S.2.2.2.2 wd350 wd70 (by decide)) (S.2.2.2.2.wd wd348 rfl) (S.2.2.2.2.wd wd349 rfl) hl hR js hC hnd hlen rfl rfl rfl rfl hsize rfl hrest hdg hcs kk
end
abbrev rmX8_fault : Room := { frames := 5, cells := 0, slots := 0, locals := 107 }
def f_X8_fault (σ1 : pStt) : Option (Int32 × pStt) := (f_X3_findFault σ1).bind (fun u_1 => some (u_1.1, u_1.2))
set_option maxHeartbeats 4000000 in
set_option maxRecDepth 100000 in
theorem c_X8_fault (l : Launch) (D : va_G) (cy : Nat → ClassId) (o0 : Nat) (w0 : Nat → Nat) (q1 : Nat → Nat) (σ1 : pStt) (u : Int32 × pStt) (hf : f_X8_fault σ1 = some u) : CT l yX8_fault cX8_fault 1 (some .int) rmX8_fault D cy [.ref o0] [pX8 o0 w0, pX3 cy (w0 2) q1 σ1] (some (.int u.1)) [pX8 o0 w0, pX3 cy (w0 2) q1 u.2] := by
  refine CT.of (by decide) (Nat.le_of_ble_eq_true rfl) (fun p e s m args below meth c ls A Q hA hQ S hr hlk hl hw => ?_)
  have hl : lv_has ls 1 [(0, .ref o0)] := hl
  rw [f_X8_fault] at hf
  refine lv_aload_n S.1 S.2.1 dX8_fault_0 rfl (lv_at hl 0 rfl) ?_
  refine gf_X8_23 S hw 0 rfl dX8_fault_1 ?_
  obtain ⟨u_1, e_u_1, hf⟩ := ob hf
  refine k_X3_findFault S (S.2.2.2.2.wd wd355 rfl) hw e_u_1 [1] rfl (by decide) rfl ⟨rfl, rfl, Nat.le_of_ble_eq_true rfl, Nat.le_of_ble_eq_true rfl⟩ hl.1 (Nat.le_of_ble_eq_true rfl) dX8_fault_4 ⟨Nat.zero_le _, Nat.zero_le _⟩ (fun H locs hw => ?_)
  have hw : PW D A s.heap [pX8 o0 w0, pX3 cy (w0 2) q1 u_1.2] H locs := hw
  cases hf
  exact w_iret S hr hlk hA hQ hw dX8_fault_7
section
variable {p : Program} {l : Launch} {e : Env} {R : Room} {s : State} {m : MethodId} {args : Array Value} {below : List Frame} {meth : Method} {c : Code} {H : Heap} {locs : List Loc} {cells slots : Nat} {Q : State → Prop} {cc : ByteArray} {pc nL : Nat} {ls : Array Slot} {rest : List Value} {D : va_G} {cy : Nat → ClassId} {A : Nat → Prop} {H0 : Heap} {own : String} {Ps : List va_W}
set_option maxRecDepth 100000 in
theorem k_X8_fault {o0 : Nat} {w0 : Nat → Nat} {q1 : Nat → Nat}  {σ1 : pStt} {u : Int32 × pStt} {index : Nat} (S : CX p m c cc nL s args own D cy) (hl : (Cond.methodLink own index yX8_fault).before args s = true) (hw : PW D A H0 Ps H locs) (hf : f_X8_fault σ1 = some u) (js : List Nat) (hC : js.map (fun j => Ps[j]?) = [some (pX8 o0 w0), some (pX3 cy (w0 2) q1 σ1)]) (hnd : js.Nodup) (hlen : js.length = 2) (hR : RMok rmX8_fault R 1) (hsize : ls.size = nL) (hrest : (rest.map fun v => v.category).sum ≤ 8) (hdg : decode cc pc = .ok (.invokevirtual index, 3)) (hcs : cells ≤ R.cells ∧ slots ≤ R.slots)
    (kk : ∀ (H1 : Heap) (locs1 : List Loc), PW D A H0 (setAll Ps js [pX8 o0 w0, pX3 cy (w0 2) q1 u.2]) H1 locs1 → W p l e R s m args below meth c H1 locs1 cells slots Q (F0 m (pc + 3) ls (.int u.1 :: rest))) : W p l e R s m args below meth c H locs cells slots Q (F0 m pc ls (.ref o0 :: rest)) :=
  w_callV (n := 0) (ov := (some (.int u.1))) (As := []) (Cs := [pX8 o0 w0, pX3 cy (w0 2) q1 σ1]) (Cs' := [pX8 o0 w0, pX3 cy (w0 2) q1 u.2]) S hw (c_X8_fault l D cy o0 w0 q1 σ1 u hf) (MF.of S.2.2.2.2 wd354 wd70 (by decide)) (S.2.2.2.2.wd wd352 rfl) (S.2.2.2.2.wd wd353 rfl) hl hR js hC hnd hlen rfl rfl rfl rfl hsize rfl hrest hdg hcs kk
end
abbrev rmX8_playSession : Room := { frames := 5, cells := 0, slots := 0, locals := 107 }
def fl_X8_playSession_38  (σ3 : pStt) : Nat → Int32 → pStt → pStt → pStt → Option ((pStt × pStt × pStt) ⊕ (pStt × pStt × pStt))
  | 0, _, _, _, _ => none
  | n + 1, y1, σ1, σ4, σ5 => if (σ5.1 0) ≤ y1 then some (.inr ((σ1, σ4, σ5))) else (f_X3_readAct σ5).bind (fun u_6 => if u_6.1 = 0 then some (.inr ((σ1, σ4, u_6.2))) else (f_X6_attempt ((u_6.2.1 2)) ((u_6.2.1 3)) ((u_6.2.1 4)) σ1 σ4).bind (fun u_8 => if u_8.1 = 0 then some (.inl ((u_8.2.1, u_8.2.2, u_6.2))) else fl_X8_playSession_38 σ3 n ((y1 + 1)) u_8.2.1 u_8.2.2 u_6.2))
def f_X8_playSession (σ1 : pStt) (σ3 : pStt) (σ4 : pStt) (σ5 : pStt) : Option (Int32 × pStt × pStt × pStt) := (f_X6_begin σ1 σ3 σ4).bind (fun u_1 => (f_X3_findFault σ5).bind (fun u_2 => if u_2.1 = (-6) then (f_X3_rewind u_2.2).bind (fun u_4 => (fl_X8_playSession_38 σ3 2000 0 u_1.1 u_1.2 u_4).bind (fun u_10 => sm (fun a_11 => some ((-3), a_11.1, a_11.2.1, a_11.2.2)) (fun a_12 => some (0, a_12.1, a_12.2.1, a_12.2.2)) u_10)) else some ((-5), u_1.1, u_1.2, u_2.2)))
section
variable {p : Program} {l : Launch} {e : Env} {s : State} {m : MethodId} {args : Array Value} {below : List Frame} {meth : Method} {c : Code} {Q : State → Prop} {D : va_G} {cy : Nat → ClassId} {A : Nat → Prop} {H0 : Heap}
set_option maxHeartbeats 4000000 in
set_option maxRecDepth 100000 in
theorem lp_X8_playSession_38 (S : CX p m c cX8_playSession 2 s args RX8 D cy) {o0 : Nat} {w0 : Nat → Nat} {w1 : Nat → Nat} {w2 : Nat → Nat} {q3 : Nat → Nat} {q4 : Nat → Nat} {q5 : Nat → Nat} {σ3 : pStt}  : ∀ (n : Nat) (y1 : Int32) (σ1 : pStt) (σ4 : pStt) (σ5 : pStt) (H : Heap) (locs : List Loc) (ls : Array Slot) (u : (pStt × pStt × pStt) ⊕ (pStt × pStt × pStt)), PW D A H0 [pX8 o0 w0, pX6 (w0 3) w1 σ1, pX7 (w0 0) w2, pX1 cy (w2 0) q3 σ3, pX1 cy (w1 0) q4 σ4, pX3 cy (w0 2) q5 σ5] H locs → lv_has ls 2 [(0, .ref o0), (1, .int y1)] → fl_X8_playSession_38 σ3 n y1 σ1 σ4 σ5 = some u → (∀ a, u = .inl a → ∀ (H : Heap) (locs : List Loc) (ls : Array Slot), PW D A H0 [pX8 o0 w0, pX6 (w0 3) w1 a.1, pX7 (w0 0) w2, pX1 cy (w2 0) q3 σ3, pX1 cy (w1 0) q4 a.2.1, pX3 cy (w0 2) q5 a.2.2] H locs → lv_has ls 2 [] → W p l e rmX8_playSession s m args below meth c H locs 0 0 Q (F0 m 90 ls [])) → (∀ a, u = .inr a → ∀ (H : Heap) (locs : List Loc) (ls : Array Slot), PW D A H0 [pX8 o0 w0, pX6 (w0 3) w1 a.1, pX7 (w0 0) w2, pX1 cy (w2 0) q3 σ3, pX1 cy (w1 0) q4 a.2.1, pX3 cy (w0 2) q5 a.2.2] H locs → lv_has ls 2 [] → W p l e rmX8_playSession s m args below meth c H locs 0 0 Q (F0 m 99 ls [])) → W p l e rmX8_playSession s m args below meth c H locs 0 0 Q (F0 m 38 ls []) := by
  intro n
  induction n with
  | zero =>
    intro y1 σ1 σ4 σ5 H locs ls u hw hl hf K0 K1
    rw [fl_X8_playSession_38] at hf
    cases hf
  | succ n ih =>
    intro y1 σ1 σ4 σ5 H locs ls u hw hl hf K0 K1
    rw [fl_X8_playSession_38] at hf
    refine lv_iload_n S.1 S.2.1 dX8_playSession_38 rfl (lv_at hl 1 rfl) ?_
    refine lv_aload_n S.1 S.2.1 dX8_playSession_39 rfl (lv_at hl 0 rfl) ?_
    refine gf_X8_23 S hw 0 rfl dX8_playSession_40 ?_
    refine gf_X8_101 S hw 5 rfl dX8_playSession_43 ?_
    refine lv_icmp_ge (tgt := 99) S.1 S.2.1 dX8_playSession_46 (by decide) (fun c_5 => ?_) (fun c_5 => ?_)
    · replace hf := (if_pos c_5).symm.trans hf
      cases hf
      exact K1 _ rfl _ _ _ hw (lv_sub hl [] rfl)
    · replace hf := (if_neg c_5).symm.trans hf
      refine lv_aload_n S.1 S.2.1 dX8_playSession_49 rfl (lv_at hl 0 rfl) ?_
      refine gf_X8_23 S hw 0 rfl dX8_playSession_50 ?_
      obtain ⟨u_6, e_u_6, hf⟩ := ob hf
      refine k_X3_readAct S (S.2.2.2.2.wd wd407 rfl) hw e_u_6 [5] rfl (by decide) rfl ⟨rfl, rfl, Nat.le_of_ble_eq_true rfl, Nat.le_of_ble_eq_true rfl⟩ hl.1 (Nat.le_of_ble_eq_true rfl) dX8_playSession_53 ⟨Nat.zero_le _, Nat.zero_le _⟩ (fun H locs hw => ?_)
      have hw : PW D A H0 [pX8 o0 w0, pX6 (w0 3) w1 σ1, pX7 (w0 0) w2, pX1 cy (w2 0) q3 σ3, pX1 cy (w1 0) q4 σ4, pX3 cy (w0 2) q5 u_6.2] H locs := hw
      refine lv_if_eq (tgt := 99) S.1 S.2.1 dX8_playSession_56 (by decide) (fun c_7 => ?_) (fun c_7 => ?_)
      · replace hf := (if_pos c_7).symm.trans hf
        cases hf
        exact K1 _ rfl _ _ _ hw (lv_sub hl [] rfl)
      · replace hf := (if_neg c_7).symm.trans hf
        refine lv_aload_n S.1 S.2.1 dX8_playSession_59 rfl (lv_at hl 0 rfl) ?_
        refine gf_X8_30 S hw 0 rfl dX8_playSession_60 ?_
        refine lv_aload_n S.1 S.2.1 dX8_playSession_63 rfl (lv_at hl 0 rfl) ?_
        refine gf_X8_23 S hw 0 rfl dX8_playSession_64 ?_
        refine gf_X8_264 S hw 5 rfl dX8_playSession_67 ?_
        refine lv_aload_n S.1 S.2.1 dX8_playSession_70 rfl (lv_at hl 0 rfl) ?_
        refine gf_X8_23 S hw 0 rfl dX8_playSession_71 ?_
        refine gf_X8_267 S hw 5 rfl dX8_playSession_74 ?_
        refine lv_aload_n S.1 S.2.1 dX8_playSession_77 rfl (lv_at hl 0 rfl) ?_
        refine gf_X8_23 S hw 0 rfl dX8_playSession_78 ?_
        refine gf_X8_270 S hw 5 rfl dX8_playSession_81 ?_
        obtain ⟨u_8, e_u_8, hf⟩ := ob hf
        refine k_X6_attempt S (S.2.2.2.2.wd wd408 rfl) hw e_u_8 [1, 4] rfl (by decide) rfl ⟨rfl, rfl, Nat.le_of_ble_eq_true rfl, Nat.le_of_ble_eq_true rfl⟩ hl.1 (Nat.le_of_ble_eq_true rfl) dX8_playSession_84 ⟨Nat.zero_le _, Nat.zero_le _⟩ (fun H locs hw => ?_)
        have hw : PW D A H0 [pX8 o0 w0, pX6 (w0 3) w1 u_8.2.1, pX7 (w0 0) w2, pX1 cy (w2 0) q3 σ3, pX1 cy (w1 0) q4 u_8.2.2, pX3 cy (w0 2) q5 u_6.2] H locs := hw
        refine lv_if_ne (tgt := 93) S.1 S.2.1 dX8_playSession_87 (by decide) (fun c_9 => ?_) (fun c_9 => ?_)
        · replace hf := (if_neg c_9).symm.trans hf
          refine lv_iinc (v := (y1 + 1)) (lv' := [(1, .int ((y1 + 1))), (0, .ref o0)]) S.1 S.2.1 dX8_playSession_93 hl (k := 1) rfl rfl (by decide) rfl (fun ls hl => ?_)
          refine lv_goto (tgt := 38) S.1 S.2.1 dX8_playSession_96 (by decide) ?_
          exact ih _ _ _ _ _ _ _ _ hw (lv_sub hl [1, 0] rfl) hf K0 K1
        · replace hf := (if_pos c_9).symm.trans hf
          cases hf
          exact K0 _ rfl _ _ _ hw (lv_sub hl [] rfl)
end
set_option maxHeartbeats 4000000 in
set_option maxRecDepth 100000 in
theorem c_X8_playSession (l : Launch) (D : va_G) (cy : Nat → ClassId) (o0 : Nat) (w0 : Nat → Nat) (w1 : Nat → Nat) (w2 : Nat → Nat) (q3 : Nat → Nat) (q4 : Nat → Nat) (q5 : Nat → Nat) (σ1 : pStt) (σ3 : pStt) (σ4 : pStt) (σ5 : pStt) (u : Int32 × pStt × pStt × pStt) (hf : f_X8_playSession σ1 σ3 σ4 σ5 = some u) : CT l yX8_playSession cX8_playSession 2 (some .int) rmX8_playSession D cy [.ref o0] [pX8 o0 w0, pX6 (w0 3) w1 σ1, pX7 (w0 0) w2, pX1 cy (w2 0) q3 σ3, pX1 cy (w1 0) q4 σ4, pX3 cy (w0 2) q5 σ5] (some (.int u.1)) [pX8 o0 w0, pX6 (w0 3) w1 u.2.1, pX7 (w0 0) w2, pX1 cy (w2 0) q3 σ3, pX1 cy (w1 0) q4 u.2.2.1, pX3 cy (w0 2) q5 u.2.2.2] := by
  refine CT.of (by decide) (Nat.le_of_ble_eq_true rfl) (fun p e s m args below meth c ls A Q hA hQ S hr hlk hl hw => ?_)
  have hl : lv_has ls 2 [(0, .ref o0)] := hl
  rw [f_X8_playSession] at hf
  refine lv_aload_n S.1 S.2.1 dX8_playSession_0 rfl (lv_at hl 0 rfl) ?_
  refine gf_X8_30 S hw 0 rfl dX8_playSession_1 ?_
  refine lv_aload_n S.1 S.2.1 dX8_playSession_4 rfl (lv_at hl 0 rfl) ?_
  refine gf_X8_12 S hw 0 rfl dX8_playSession_5 ?_
  refine gf_X8_52 S hw 2 rfl dX8_playSession_8 ?_
  obtain ⟨u_1, e_u_1, hf⟩ := ob hf
  refine k_X6_begin S (S.2.2.2.2.wd wd395 rfl) hw e_u_1 [1, 3, 4] rfl (by decide) rfl ⟨rfl, rfl, Nat.le_of_ble_eq_true rfl, Nat.le_of_ble_eq_true rfl⟩ hl.1 (Nat.le_of_ble_eq_true rfl) dX8_playSession_11 ⟨Nat.zero_le _, Nat.zero_le _⟩ (fun H locs hw => ?_)
  have hw : PW D A s.heap [pX8 o0 w0, pX6 (w0 3) w1 u_1.1, pX7 (w0 0) w2, pX1 cy (w2 0) q3 σ3, pX1 cy (w1 0) q4 u_1.2, pX3 cy (w0 2) q5 σ5] H locs := hw
  refine lv_aload_n S.1 S.2.1 dX8_playSession_14 rfl (lv_at hl 0 rfl) ?_
  refine gf_X8_23 S hw 0 rfl dX8_playSession_15 ?_
  obtain ⟨u_2, e_u_2, hf⟩ := ob hf
  refine k_X3_findFault S (S.2.2.2.2.wd wd355 rfl) hw e_u_2 [5] rfl (by decide) rfl ⟨rfl, rfl, Nat.le_of_ble_eq_true rfl, Nat.le_of_ble_eq_true rfl⟩ hl.1 (Nat.le_of_ble_eq_true rfl) dX8_playSession_18 ⟨Nat.zero_le _, Nat.zero_le _⟩ (fun H locs hw => ?_)
  have hw : PW D A s.heap [pX8 o0 w0, pX6 (w0 3) w1 u_1.1, pX7 (w0 0) w2, pX1 cy (w2 0) q3 σ3, pX1 cy (w1 0) q4 u_1.2, pX3 cy (w0 2) q5 u_2.2] H locs := hw
  refine lv_bipush (v := (-6)) S.1 S.2.1 dX8_playSession_21 (by decide) ?_
  refine lv_icmp_eq (tgt := 29) S.1 S.2.1 dX8_playSession_23 (by decide) (fun c_3 => ?_) (fun c_3 => ?_)
  · replace hf := (if_pos c_3).symm.trans hf
    refine lv_aload_n S.1 S.2.1 dX8_playSession_29 rfl (lv_at hl 0 rfl) ?_
    refine gf_X8_23 S hw 0 rfl dX8_playSession_30 ?_
    obtain ⟨u_4, e_u_4, hf⟩ := ob hf
    refine k_X3_rewind S (S.2.2.2.2.wd wd406 rfl) hw e_u_4 [5] rfl (by decide) rfl ⟨rfl, rfl, Nat.le_of_ble_eq_true rfl, Nat.le_of_ble_eq_true rfl⟩ hl.1 (Nat.le_of_ble_eq_true rfl) dX8_playSession_33 ⟨Nat.zero_le _, Nat.zero_le _⟩ (fun H locs hw => ?_)
    have hw : PW D A s.heap [pX8 o0 w0, pX6 (w0 3) w1 u_1.1, pX7 (w0 0) w2, pX1 cy (w2 0) q3 σ3, pX1 cy (w1 0) q4 u_1.2, pX3 cy (w0 2) q5 u_4] H locs := hw
    refine lv_iconst (v := 0) S.1 S.2.1 dX8_playSession_36 (by decide) ?_
    refine lv_istore_n (lv' := [(1, .int 0), (0, .ref o0)]) S.1 S.2.1 dX8_playSession_37 rfl hl (by decide) rfl (fun ls hl => ?_)
    obtain ⟨u_10, e_u_10, hf⟩ := ob hf
    refine lp_X8_playSession_38 S 2000 _ _ _ _ _ _ _ _ hw (lv_sub hl [1, 0] rfl) e_u_10 ?_ ?_
    · intro a_11 h_a_11 H locs ls hw hl
      subst h_a_11
      replace hf := (sm_l _ _ _).symm.trans hf
      refine lv_bipush (v := (-3)) S.1 S.2.1 dX8_playSession_90 (by decide) ?_
      cases hf
      exact w_iret S hr hlk hA hQ hw dX8_playSession_92
    · intro a_12 h_a_12 H locs ls hw hl
      subst h_a_12
      replace hf := (sm_r _ _ _).symm.trans hf
      refine lv_iconst (v := 0) S.1 S.2.1 dX8_playSession_99 (by decide) ?_
      cases hf
      exact w_iret S hr hlk hA hQ hw dX8_playSession_100
  · replace hf := (if_neg c_3).symm.trans hf
    refine lv_bipush (v := (-5)) S.1 S.2.1 dX8_playSession_26 (by decide) ?_
    cases hf
    exact w_iret S hr hlk hA hQ hw dX8_playSession_28
section
variable {p : Program} {l : Launch} {e : Env} {R : Room} {s : State} {m : MethodId} {args : Array Value} {below : List Frame} {meth : Method} {c : Code} {H : Heap} {locs : List Loc} {cells slots : Nat} {Q : State → Prop} {cc : ByteArray} {pc nL : Nat} {ls : Array Slot} {rest : List Value} {D : va_G} {cy : Nat → ClassId} {A : Nat → Prop} {H0 : Heap} {own : String} {Ps : List va_W}
set_option maxRecDepth 100000 in
theorem k_X8_playSession {o0 : Nat} {w0 : Nat → Nat} {w1 : Nat → Nat} {w2 : Nat → Nat} {q3 : Nat → Nat} {q4 : Nat → Nat} {q5 : Nat → Nat}  {σ1 : pStt} {σ3 : pStt} {σ4 : pStt} {σ5 : pStt} {u : Int32 × pStt × pStt × pStt} {index : Nat} (S : CX p m c cc nL s args own D cy) (hl : (Cond.methodLink own index yX8_playSession).before args s = true) (hw : PW D A H0 Ps H locs) (hf : f_X8_playSession σ1 σ3 σ4 σ5 = some u) (js : List Nat) (hC : js.map (fun j => Ps[j]?) = [some (pX8 o0 w0), some (pX6 (w0 3) w1 σ1), some (pX7 (w0 0) w2), some (pX1 cy (w2 0) q3 σ3), some (pX1 cy (w1 0) q4 σ4), some (pX3 cy (w0 2) q5 σ5)]) (hnd : js.Nodup) (hlen : js.length = 6) (hR : RMok rmX8_playSession R 2) (hsize : ls.size = nL) (hrest : (rest.map fun v => v.category).sum ≤ 8) (hdg : decode cc pc = .ok (.invokevirtual index, 3)) (hcs : cells ≤ R.cells ∧ slots ≤ R.slots)
    (kk : ∀ (H1 : Heap) (locs1 : List Loc), PW D A H0 (setAll Ps js [pX8 o0 w0, pX6 (w0 3) w1 u.2.1, pX7 (w0 0) w2, pX1 cy (w2 0) q3 σ3, pX1 cy (w1 0) q4 u.2.2.1, pX3 cy (w0 2) q5 u.2.2.2]) H1 locs1 → W p l e R s m args below meth c H1 locs1 cells slots Q (F0 m (pc + 3) ls (.int u.1 :: rest))) : W p l e R s m args below meth c H locs cells slots Q (F0 m pc ls (.ref o0 :: rest)) :=
  w_callV (n := 0) (ov := (some (.int u.1))) (As := []) (Cs := [pX8 o0 w0, pX6 (w0 3) w1 σ1, pX7 (w0 0) w2, pX1 cy (w2 0) q3 σ3, pX1 cy (w1 0) q4 σ4, pX3 cy (w0 2) q5 σ5]) (Cs' := [pX8 o0 w0, pX6 (w0 3) w1 u.2.1, pX7 (w0 0) w2, pX1 cy (w2 0) q3 σ3, pX1 cy (w1 0) q4 u.2.2.1, pX3 cy (w0 2) q5 u.2.2.2]) S hw (c_X8_playSession l D cy o0 w0 w1 w2 q3 q4 q5 σ1 σ3 σ4 σ5 u hf) (MF.of S.2.2.2.2 wd394 wd70 (by decide)) (S.2.2.2.2.wd wd393 rfl) (S.2.2.2.2.wd wd5 rfl) hl hR js hC hnd hlen rfl rfl rfl rfl hsize rfl hrest hdg hcs kk
end
abbrev rmX8_judge : Room := { frames := 6, cells := 0, slots := 0, locals := 128 }
def f_X8_judge (x1 : Int32) (σ1 : pStt) (σ3 : pStt) (σ4 : pStt) (σ5 : pStt) : Option (Int32 × pStt × pStt × pStt) := (f_X8_isWithin x1 0 2).bind (fun u_1 => if u_1 = 0 then some ((-2), σ1, σ4, σ5) else (f_X8_playSession σ1 σ3 σ4 σ5).bind (fun u_3 => if u_3.1 = (-5) then some ((-5), u_3.2.1, u_3.2.2.1, u_3.2.2.2) else if x1 = 0 then (if (u_3.2.1.1 1) = 0 then some ((-6)) else some ((u_3.2.1.1 0)) : Option Int32).bind (fun v_11 => some (v_11, u_3.2.1, u_3.2.2.1, u_3.2.2.2)) else if x1 = 1 then (if (u_3.2.1.1 1) = 0 then some ((-6)) else some ((u_3.2.1.1 1)) : Option Int32).bind (fun v_9 => some (v_9, u_3.2.1, u_3.2.2.1, u_3.2.2.2)) else (if u_3.1 = (-3) then some ((-3)) else some ((u_3.2.1.1 2)) : Option Int32).bind (fun v_7 => some (v_7, u_3.2.1, u_3.2.2.1, u_3.2.2.2))))
set_option maxHeartbeats 4000000 in
set_option maxRecDepth 100000 in
theorem c_X8_judge (l : Launch) (D : va_G) (cy : Nat → ClassId) (o0 : Nat) (w0 : Nat → Nat) (w1 : Nat → Nat) (w2 : Nat → Nat) (q3 : Nat → Nat) (q4 : Nat → Nat) (q5 : Nat → Nat) (x1 : Int32) (σ1 : pStt) (σ3 : pStt) (σ4 : pStt) (σ5 : pStt) (u : Int32 × pStt × pStt × pStt) (hf : f_X8_judge x1 σ1 σ3 σ4 σ5 = some u) : CT l yX8_judge cX8_judge 3 (some .int) rmX8_judge D cy [.ref o0, .int x1] [pX8 o0 w0, pX6 (w0 3) w1 σ1, pX7 (w0 0) w2, pX1 cy (w2 0) q3 σ3, pX1 cy (w1 0) q4 σ4, pX3 cy (w0 2) q5 σ5] (some (.int u.1)) [pX8 o0 w0, pX6 (w0 3) w1 u.2.1, pX7 (w0 0) w2, pX1 cy (w2 0) q3 σ3, pX1 cy (w1 0) q4 u.2.2.1, pX3 cy (w0 2) q5 u.2.2.2] := by
  refine CT.of (by decide) (Nat.le_of_ble_eq_true rfl) (fun p e s m args below meth c ls A Q hA hQ S hr hlk hl hw => ?_)
  have hl : lv_has ls 3 [(0, .ref o0), (1, .int x1)] := hl
  rw [f_X8_judge] at hf
  refine lv_iload_n S.1 S.2.1 dX8_judge_0 rfl (lv_at hl 1 rfl) ?_
  refine lv_iconst (v := 0) S.1 S.2.1 dX8_judge_1 (by decide) ?_
  refine lv_iconst (v := 2) S.1 S.2.1 dX8_judge_2 (by decide) ?_
  obtain ⟨u_1, e_u_1, hf⟩ := ob hf
  refine k_X8_isWithin S (S.2.2.2.2.wd wd287 rfl) hw e_u_1 [] rfl (by decide) rfl ⟨rfl, rfl, Nat.le_of_ble_eq_true rfl, Nat.le_of_ble_eq_true rfl⟩ hl.1 (Nat.le_of_ble_eq_true rfl) dX8_judge_3 ⟨Nat.zero_le _, Nat.zero_le _⟩ (fun H locs hw => ?_)
  have hw : PW D A s.heap [pX8 o0 w0, pX6 (w0 3) w1 σ1, pX7 (w0 0) w2, pX1 cy (w2 0) q3 σ3, pX1 cy (w1 0) q4 σ4, pX3 cy (w0 2) q5 σ5] H locs := hw
  refine lv_if_ne (tgt := 12) S.1 S.2.1 dX8_judge_6 (by decide) (fun c_2 => ?_) (fun c_2 => ?_)
  · replace hf := (if_neg c_2).symm.trans hf
    refine lv_aload_n S.1 S.2.1 dX8_judge_12 rfl (lv_at hl 0 rfl) ?_
    obtain ⟨u_3, e_u_3, hf⟩ := ob hf
    refine k_X8_playSession S (S.2.2.2.2.wd wd391 rfl) hw e_u_3 [0, 1, 2, 3, 4, 5] rfl (by decide) rfl ⟨rfl, rfl, Nat.le_of_ble_eq_true rfl, Nat.le_of_ble_eq_true rfl⟩ hl.1 (Nat.le_of_ble_eq_true rfl) dX8_judge_13 ⟨Nat.zero_le _, Nat.zero_le _⟩ (fun H locs hw => ?_)
    have hw : PW D A s.heap [pX8 o0 w0, pX6 (w0 3) w1 u_3.2.1, pX7 (w0 0) w2, pX1 cy (w2 0) q3 σ3, pX1 cy (w1 0) q4 u_3.2.2.1, pX3 cy (w0 2) q5 u_3.2.2.2] H locs := hw
    refine lv_istore_n (lv' := [(2, .int u_3.1), (0, .ref o0), (1, .int x1)]) S.1 S.2.1 dX8_judge_16 rfl hl (by decide) rfl (fun ls hl => ?_)
    refine lv_iload_n S.1 S.2.1 dX8_judge_17 rfl (lv_at hl 0 rfl) ?_
    refine lv_bipush (v := (-5)) S.1 S.2.1 dX8_judge_18 (by decide) ?_
    refine lv_icmp_ne (tgt := 26) S.1 S.2.1 dX8_judge_20 (by decide) (fun c_4 => ?_) (fun c_4 => ?_)
    · replace hf := (if_neg c_4).symm.trans hf
      refine lv_iload_n S.1 S.2.1 dX8_judge_26 rfl (lv_at hl 2 rfl) ?_
      refine lv_if_ne (tgt := 53) S.1 S.2.1 dX8_judge_27 (by decide) (fun c_5 => ?_) (fun c_5 => ?_)
      · replace hf := (if_neg c_5).symm.trans hf
        refine lv_iload_n S.1 S.2.1 dX8_judge_53 rfl (lv_at hl 2 rfl) ?_
        refine lv_iconst (v := 1) S.1 S.2.1 dX8_judge_54 (by decide) ?_
        refine lv_icmp_ne (tgt := 81) S.1 S.2.1 dX8_judge_55 (by decide) (fun c_6 => ?_) (fun c_6 => ?_)
        · replace hf := (if_neg c_6).symm.trans hf
          refine lv_iload_n S.1 S.2.1 dX8_judge_81 rfl (lv_at hl 0 rfl) ?_
          refine lv_bipush (v := (-3)) S.1 S.2.1 dX8_judge_82 (by decide) ?_
          obtain ⟨v_7, e_v_7, hf⟩ := ob hf
          have hJ_v_7 : ∀ (H : Heap) (locs : List Loc), PW D A s.heap [pX8 o0 w0, pX6 (w0 3) w1 u_3.2.1, pX7 (w0 0) w2, pX1 cy (w2 0) q3 σ3, pX1 cy (w1 0) q4 u_3.2.2.1, pX3 cy (w0 2) q5 u_3.2.2.2] H locs → W p l e rmX8_judge s m args below meth c H locs 0 0 Q (F0 m 99 ls [.int v_7]) := by
            intro H locs hw
            cases hf
            exact w_iret S hr hlk hA hQ hw dX8_judge_99
          replace hf := e_v_7
          clear e_v_7
          refine lv_icmp_ne (tgt := 92) S.1 S.2.1 dX8_judge_84 (by decide) (fun c_8 => ?_) (fun c_8 => ?_)
          · replace hf := (if_neg c_8).symm.trans hf
            refine lv_aload_n S.1 S.2.1 dX8_judge_92 rfl (lv_at hl 1 rfl) ?_
            refine gf_X8_30 S hw 0 rfl dX8_judge_93 ?_
            refine gf_X8_117 S hw 1 rfl dX8_judge_96 ?_
            cases hf
            exact hJ_v_7 _ _ hw
          · replace hf := (if_pos c_8).symm.trans hf
            refine lv_bipush (v := (-3)) S.1 S.2.1 dX8_judge_87 (by decide) ?_
            refine lv_goto (tgt := 99) S.1 S.2.1 dX8_judge_89 (by decide) ?_
            cases hf
            exact hJ_v_7 _ _ hw
        · replace hf := (if_pos c_6).symm.trans hf
          refine lv_aload_n S.1 S.2.1 dX8_judge_58 rfl (lv_at hl 1 rfl) ?_
          refine gf_X8_30 S hw 0 rfl dX8_judge_59 ?_
          refine gf_X8_111 S hw 1 rfl dX8_judge_62 ?_
          obtain ⟨v_9, e_v_9, hf⟩ := ob hf
          have hJ_v_9 : ∀ (H : Heap) (locs : List Loc), PW D A s.heap [pX8 o0 w0, pX6 (w0 3) w1 u_3.2.1, pX7 (w0 0) w2, pX1 cy (w2 0) q3 σ3, pX1 cy (w1 0) q4 u_3.2.2.1, pX3 cy (w0 2) q5 u_3.2.2.2] H locs → W p l e rmX8_judge s m args below meth c H locs 0 0 Q (F0 m 80 ls [.int v_9]) := by
            intro H locs hw
            cases hf
            exact w_iret S hr hlk hA hQ hw dX8_judge_80
          replace hf := e_v_9
          clear e_v_9
          refine lv_if_ne (tgt := 73) S.1 S.2.1 dX8_judge_65 (by decide) (fun c_10 => ?_) (fun c_10 => ?_)
          · replace hf := (if_neg c_10).symm.trans hf
            refine lv_aload_n S.1 S.2.1 dX8_judge_73 rfl (lv_at hl 1 rfl) ?_
            refine gf_X8_30 S hw 0 rfl dX8_judge_74 ?_
            refine gf_X8_111 S hw 1 rfl dX8_judge_77 ?_
            cases hf
            exact hJ_v_9 _ _ hw
          · replace hf := (if_pos c_10).symm.trans hf
            refine lv_bipush (v := (-6)) S.1 S.2.1 dX8_judge_68 (by decide) ?_
            refine lv_goto (tgt := 80) S.1 S.2.1 dX8_judge_70 (by decide) ?_
            cases hf
            exact hJ_v_9 _ _ hw
      · replace hf := (if_pos c_5).symm.trans hf
        refine lv_aload_n S.1 S.2.1 dX8_judge_30 rfl (lv_at hl 1 rfl) ?_
        refine gf_X8_30 S hw 0 rfl dX8_judge_31 ?_
        refine gf_X8_111 S hw 1 rfl dX8_judge_34 ?_
        obtain ⟨v_11, e_v_11, hf⟩ := ob hf
        have hJ_v_11 : ∀ (H : Heap) (locs : List Loc), PW D A s.heap [pX8 o0 w0, pX6 (w0 3) w1 u_3.2.1, pX7 (w0 0) w2, pX1 cy (w2 0) q3 σ3, pX1 cy (w1 0) q4 u_3.2.2.1, pX3 cy (w0 2) q5 u_3.2.2.2] H locs → W p l e rmX8_judge s m args below meth c H locs 0 0 Q (F0 m 52 ls [.int v_11]) := by
          intro H locs hw
          cases hf
          exact w_iret S hr hlk hA hQ hw dX8_judge_52
        replace hf := e_v_11
        clear e_v_11
        refine lv_if_ne (tgt := 45) S.1 S.2.1 dX8_judge_37 (by decide) (fun c_12 => ?_) (fun c_12 => ?_)
        · replace hf := (if_neg c_12).symm.trans hf
          refine lv_aload_n S.1 S.2.1 dX8_judge_45 rfl (lv_at hl 1 rfl) ?_
          refine gf_X8_30 S hw 0 rfl dX8_judge_46 ?_
          refine gf_X8_114 S hw 1 rfl dX8_judge_49 ?_
          cases hf
          exact hJ_v_11 _ _ hw
        · replace hf := (if_pos c_12).symm.trans hf
          refine lv_bipush (v := (-6)) S.1 S.2.1 dX8_judge_40 (by decide) ?_
          refine lv_goto (tgt := 52) S.1 S.2.1 dX8_judge_42 (by decide) ?_
          cases hf
          exact hJ_v_11 _ _ hw
    · replace hf := (if_pos c_4).symm.trans hf
      refine lv_bipush (v := (-5)) S.1 S.2.1 dX8_judge_23 (by decide) ?_
      cases hf
      exact w_iret S hr hlk hA hQ hw dX8_judge_25
  · replace hf := (if_pos c_2).symm.trans hf
    refine lv_bipush (v := (-2)) S.1 S.2.1 dX8_judge_9 (by decide) ?_
    cases hf
    exact w_iret S hr hlk hA hQ hw dX8_judge_11
section
variable {p : Program} {l : Launch} {e : Env} {R : Room} {s : State} {m : MethodId} {args : Array Value} {below : List Frame} {meth : Method} {c : Code} {H : Heap} {locs : List Loc} {cells slots : Nat} {Q : State → Prop} {cc : ByteArray} {pc nL : Nat} {ls : Array Slot} {rest : List Value} {D : va_G} {cy : Nat → ClassId} {A : Nat → Prop} {H0 : Heap} {own : String} {Ps : List va_W}
set_option maxRecDepth 100000 in
theorem k_X8_judge {o0 : Nat} {w0 : Nat → Nat} {w1 : Nat → Nat} {w2 : Nat → Nat} {q3 : Nat → Nat} {q4 : Nat → Nat} {q5 : Nat → Nat} {x1 : Int32} {σ1 : pStt} {σ3 : pStt} {σ4 : pStt} {σ5 : pStt} {u : Int32 × pStt × pStt × pStt} {index : Nat} (S : CX p m c cc nL s args own D cy) (hl : (Cond.methodLink own index yX8_judge).before args s = true) (hw : PW D A H0 Ps H locs) (hf : f_X8_judge x1 σ1 σ3 σ4 σ5 = some u) (js : List Nat) (hC : js.map (fun j => Ps[j]?) = [some (pX8 o0 w0), some (pX6 (w0 3) w1 σ1), some (pX7 (w0 0) w2), some (pX1 cy (w2 0) q3 σ3), some (pX1 cy (w1 0) q4 σ4), some (pX3 cy (w0 2) q5 σ5)]) (hnd : js.Nodup) (hlen : js.length = 6) (hR : RMok rmX8_judge R 3) (hsize : ls.size = nL) (hrest : (rest.map fun v => v.category).sum ≤ 8) (hdg : decode cc pc = .ok (.invokevirtual index, 3)) (hcs : cells ≤ R.cells ∧ slots ≤ R.slots)
    (kk : ∀ (H1 : Heap) (locs1 : List Loc), PW D A H0 (setAll Ps js [pX8 o0 w0, pX6 (w0 3) w1 u.2.1, pX7 (w0 0) w2, pX1 cy (w2 0) q3 σ3, pX1 cy (w1 0) q4 u.2.2.1, pX3 cy (w0 2) q5 u.2.2.2]) H1 locs1 → W p l e R s m args below meth c H1 locs1 cells slots Q (F0 m (pc + 3) ls (.int u.1 :: rest))) : W p l e R s m args below meth c H locs cells slots Q (F0 m pc ls (.int x1 :: .ref o0 :: rest)) :=
  w_callV (n := 1) (ov := (some (.int u.1))) (As := [.int x1]) (Cs := [pX8 o0 w0, pX6 (w0 3) w1 σ1, pX7 (w0 0) w2, pX1 cy (w2 0) q3 σ3, pX1 cy (w1 0) q4 σ4, pX3 cy (w0 2) q5 σ5]) (Cs' := [pX8 o0 w0, pX6 (w0 3) w1 u.2.1, pX7 (w0 0) w2, pX1 cy (w2 0) q3 σ3, pX1 cy (w1 0) q4 u.2.2.1, pX3 cy (w0 2) q5 u.2.2.2]) S hw (c_X8_judge l D cy o0 w0 w1 w2 q3 q4 q5 x1 σ1 σ3 σ4 σ5 u hf) (MF.of S.2.2.2.2 wd390 wd70 (by decide)) (S.2.2.2.2.wd wd388 rfl) (S.2.2.2.2.wd wd389 rfl) hl hR js hC hnd hlen rfl rfl rfl rfl hsize rfl hrest hdg hcs kk
end
abbrev rmX8_behind : Room := { frames := 6, cells := 0, slots := 0, locals := 128 }
def f_X8_behind (x1 : Int32) (x2 : Int32) (σ1 : pStt) (σ3 : pStt) (σ4 : pStt) (σ5 : pStt) : Option (Int32 × pStt × pStt × pStt) := (f_X8_isPerson x1).bind (fun u_1 => if u_1 = 0 then some ((-1), σ1, σ4, σ5) else (f_X8_isWithin x2 0 3).bind (fun u_3 => if u_3 = 0 then some ((-2), σ1, σ4, σ5) else (f_X8_playSession σ1 σ3 σ4 σ5).bind (fun u_5 => if u_5.1 = 0 then if x2 = 0 then (f_X1_cornerOfPerson x1 u_5.2.2.1).bind (fun u_8 => some (u_8, u_5.2.1, u_5.2.2.1, u_5.2.2.2)) else if x2 = 1 then (ld (u_5.2.2.1.2 3) 6 x1).bind (fun x_10 => some (x_10, u_5.2.1, u_5.2.2.1, u_5.2.2.2)) else if x2 = 2 then (f_X1_sitsAsNumber x1 u_5.2.2.1).bind (fun u_12 => some (u_12, u_5.2.1, u_5.2.2.1, u_5.2.2.2)) else (f_X1_carriedBy x1 u_5.2.2.1).bind (fun u_13 => some (u_13, u_5.2.1, u_5.2.2.1, u_5.2.2.2)) else some (u_5.1, u_5.2.1, u_5.2.2.1, u_5.2.2.2))))
set_option maxHeartbeats 4000000 in
set_option maxRecDepth 100000 in
theorem c_X8_behind (l : Launch) (D : va_G) (cy : Nat → ClassId) (o0 : Nat) (w0 : Nat → Nat) (w1 : Nat → Nat) (w2 : Nat → Nat) (q3 : Nat → Nat) (q4 : Nat → Nat) (q5 : Nat → Nat) (x1 : Int32) (x2 : Int32) (σ1 : pStt) (σ3 : pStt) (σ4 : pStt) (σ5 : pStt) (u : Int32 × pStt × pStt × pStt) (hf : f_X8_behind x1 x2 σ1 σ3 σ4 σ5 = some u) : CT l yX8_behind cX8_behind 5 (some .int) rmX8_behind D cy [.ref o0, .int x1, .int x2] [pX8 o0 w0, pX6 (w0 3) w1 σ1, pX7 (w0 0) w2, pX1 cy (w2 0) q3 σ3, pX1 cy (w1 0) q4 σ4, pX3 cy (w0 2) q5 σ5] (some (.int u.1)) [pX8 o0 w0, pX6 (w0 3) w1 u.2.1, pX7 (w0 0) w2, pX1 cy (w2 0) q3 σ3, pX1 cy (w1 0) q4 u.2.2.1, pX3 cy (w0 2) q5 u.2.2.2] := by
  refine CT.of (by decide) (Nat.le_of_ble_eq_true rfl) (fun p e s m args below meth c ls A Q hA hQ S hr hlk hl hw => ?_)
  have hl : lv_has ls 5 [(0, .ref o0), (1, .int x1), (2, .int x2)] := hl
  rw [f_X8_behind] at hf
  refine lv_iload_n S.1 S.2.1 dX8_behind_0 rfl (lv_at hl 1 rfl) ?_
  obtain ⟨u_1, e_u_1, hf⟩ := ob hf
  refine k_X8_isPerson S (S.2.2.2.2.wd wd320 rfl) hw e_u_1 [] rfl (by decide) rfl ⟨rfl, rfl, Nat.le_of_ble_eq_true rfl, Nat.le_of_ble_eq_true rfl⟩ hl.1 (Nat.le_of_ble_eq_true rfl) dX8_behind_1 ⟨Nat.zero_le _, Nat.zero_le _⟩ (fun H locs hw => ?_)
  have hw : PW D A s.heap [pX8 o0 w0, pX6 (w0 3) w1 σ1, pX7 (w0 0) w2, pX1 cy (w2 0) q3 σ3, pX1 cy (w1 0) q4 σ4, pX3 cy (w0 2) q5 σ5] H locs := hw
  refine lv_if_ne (tgt := 9) S.1 S.2.1 dX8_behind_4 (by decide) (fun c_2 => ?_) (fun c_2 => ?_)
  · replace hf := (if_neg c_2).symm.trans hf
    refine lv_iload_n S.1 S.2.1 dX8_behind_9 rfl (lv_at hl 2 rfl) ?_
    refine lv_iconst (v := 0) S.1 S.2.1 dX8_behind_10 (by decide) ?_
    refine lv_iconst (v := 3) S.1 S.2.1 dX8_behind_11 (by decide) ?_
    obtain ⟨u_3, e_u_3, hf⟩ := ob hf
    refine k_X8_isWithin S (S.2.2.2.2.wd wd287 rfl) hw e_u_3 [] rfl (by decide) rfl ⟨rfl, rfl, Nat.le_of_ble_eq_true rfl, Nat.le_of_ble_eq_true rfl⟩ hl.1 (Nat.le_of_ble_eq_true rfl) dX8_behind_12 ⟨Nat.zero_le _, Nat.zero_le _⟩ (fun H locs hw => ?_)
    have hw : PW D A s.heap [pX8 o0 w0, pX6 (w0 3) w1 σ1, pX7 (w0 0) w2, pX1 cy (w2 0) q3 σ3, pX1 cy (w1 0) q4 σ4, pX3 cy (w0 2) q5 σ5] H locs := hw
    refine lv_if_ne (tgt := 21) S.1 S.2.1 dX8_behind_15 (by decide) (fun c_4 => ?_) (fun c_4 => ?_)
    · replace hf := (if_neg c_4).symm.trans hf
      refine lv_aload_n S.1 S.2.1 dX8_behind_21 rfl (lv_at hl 0 rfl) ?_
      obtain ⟨u_5, e_u_5, hf⟩ := ob hf
      refine k_X8_playSession S (S.2.2.2.2.wd wd391 rfl) hw e_u_5 [0, 1, 2, 3, 4, 5] rfl (by decide) rfl ⟨rfl, rfl, Nat.le_of_ble_eq_true rfl, Nat.le_of_ble_eq_true rfl⟩ hl.1 (Nat.le_of_ble_eq_true rfl) dX8_behind_22 ⟨Nat.zero_le _, Nat.zero_le _⟩ (fun H locs hw => ?_)
      have hw : PW D A s.heap [pX8 o0 w0, pX6 (w0 3) w1 u_5.2.1, pX7 (w0 0) w2, pX1 cy (w2 0) q3 σ3, pX1 cy (w1 0) q4 u_5.2.2.1, pX3 cy (w0 2) q5 u_5.2.2.2] H locs := hw
      refine lv_istore_n (lv' := [(3, .int u_5.1), (0, .ref o0), (1, .int x1), (2, .int x2)]) S.1 S.2.1 dX8_behind_25 rfl hl (by decide) rfl (fun ls hl => ?_)
      refine lv_iload_n S.1 S.2.1 dX8_behind_26 rfl (lv_at hl 0 rfl) ?_
      refine lv_if_eq (tgt := 32) S.1 S.2.1 dX8_behind_27 (by decide) (fun c_6 => ?_) (fun c_6 => ?_)
      · replace hf := (if_pos c_6).symm.trans hf
        refine lv_aload_n S.1 S.2.1 dX8_behind_32 rfl (lv_at hl 1 rfl) ?_
        refine gf_X8_30 S hw 0 rfl dX8_behind_33 ?_
        refine gf_X8_120 S hw 1 rfl dX8_behind_36 ?_
        refine lv_astore (lv' := [(4, .ref ((w1 0))), (3, .int u_5.1), (0, .ref o0), (1, .int x1), (2, .int x2)]) S.1 S.2.1 dX8_behind_39 hl (by decide) rfl (fun ls hl => ?_)
        refine lv_iload_n S.1 S.2.1 dX8_behind_41 rfl (lv_at hl 4 rfl) ?_
        by_cases c_7 : x2 = 0
        · replace hf := (if_pos c_7).symm.trans hf
          refine lv_tableIn (off := 26) (tgt := 68) S.1 S.2.1 dX8_behind_42 (by rw [c_7]; decide) (by rw [c_7]; decide) (by rw [c_7]; rfl) (by decide) ?_
          refine lv_aload S.1 S.2.1 dX8_behind_68 (lv_at hl 0 rfl) ?_
          refine lv_iload_n S.1 S.2.1 dX8_behind_70 rfl (lv_at hl 3 rfl) ?_
          obtain ⟨u_8, e_u_8, hf⟩ := ob hf
          refine k_X1_cornerOfPerson S (S.2.2.2.2.wd wd323 rfl) hw e_u_8 [4] rfl (by decide) rfl ⟨rfl, rfl, Nat.le_of_ble_eq_true rfl, Nat.le_of_ble_eq_true rfl⟩ hl.1 (Nat.le_of_ble_eq_true rfl) dX8_behind_71 ⟨Nat.zero_le _, Nat.zero_le _⟩ (fun H locs hw => ?_)
          have hw : PW D A s.heap [pX8 o0 w0, pX6 (w0 3) w1 u_5.2.1, pX7 (w0 0) w2, pX1 cy (w2 0) q3 σ3, pX1 cy (w1 0) q4 u_5.2.2.1, pX3 cy (w0 2) q5 u_5.2.2.2] H locs := hw
          cases hf
          exact w_iret S hr hlk hA hQ hw dX8_behind_74
        · replace hf := (if_neg c_7).symm.trans hf
          by_cases c_9 : x2 = 1
          · replace hf := (if_pos c_9).symm.trans hf
            refine lv_tableIn (off := 33) (tgt := 75) S.1 S.2.1 dX8_behind_42 (by rw [c_9]; decide) (by rw [c_9]; decide) (by rw [c_9]; rfl) (by decide) ?_
            refine lv_aload S.1 S.2.1 dX8_behind_75 (lv_at hl 0 rfl) ?_
            refine gf_X8_121 S hw 4 rfl dX8_behind_77 ?_
            refine lv_iload_n S.1 S.2.1 dX8_behind_80 rfl (lv_at hl 3 rfl) ?_
            obtain ⟨x_10, e_x_10, hf⟩ := ob hf
            refine al_X1_3 S hw 4 rfl e_x_10 dX8_behind_81 ?_
            cases hf
            exact w_iret S hr hlk hA hQ hw dX8_behind_82
          · replace hf := (if_neg c_9).symm.trans hf
            by_cases c_11 : x2 = 2
            · replace hf := (if_pos c_11).symm.trans hf
              refine lv_tableIn (off := 41) (tgt := 83) S.1 S.2.1 dX8_behind_42 (by rw [c_11]; decide) (by rw [c_11]; decide) (by rw [c_11]; rfl) (by decide) ?_
              refine lv_aload S.1 S.2.1 dX8_behind_83 (lv_at hl 0 rfl) ?_
              refine lv_iload_n S.1 S.2.1 dX8_behind_85 rfl (lv_at hl 3 rfl) ?_
              obtain ⟨u_12, e_u_12, hf⟩ := ob hf
              refine k_X1_sitsAsNumber S (S.2.2.2.2.wd wd457 rfl) hw e_u_12 [4] rfl (by decide) rfl ⟨rfl, rfl, Nat.le_of_ble_eq_true rfl, Nat.le_of_ble_eq_true rfl⟩ hl.1 (Nat.le_of_ble_eq_true rfl) dX8_behind_86 ⟨Nat.zero_le _, Nat.zero_le _⟩ (fun H locs hw => ?_)
              have hw : PW D A s.heap [pX8 o0 w0, pX6 (w0 3) w1 u_5.2.1, pX7 (w0 0) w2, pX1 cy (w2 0) q3 σ3, pX1 cy (w1 0) q4 u_5.2.2.1, pX3 cy (w0 2) q5 u_5.2.2.2] H locs := hw
              cases hf
              exact w_iret S hr hlk hA hQ hw dX8_behind_89
            · replace hf := (if_neg c_11).symm.trans hf
              have t_c_7 := ne_toInt (k := 0) c_7 (by decide)
              have t_c_9 := ne_toInt (k := 1) c_9 (by decide)
              have t_c_11 := ne_toInt (k := 2) c_11 (by decide)
              refine lv_tableOut (tgt := 90) S.1 S.2.1 dX8_behind_42 (by omega) (by decide) ?_
              refine lv_aload S.1 S.2.1 dX8_behind_90 (lv_at hl 0 rfl) ?_
              refine lv_iload_n S.1 S.2.1 dX8_behind_92 rfl (lv_at hl 3 rfl) ?_
              obtain ⟨u_13, e_u_13, hf⟩ := ob hf
              refine k_X1_carriedBy S (S.2.2.2.2.wd wd461 rfl) hw e_u_13 [4] rfl (by decide) rfl ⟨rfl, rfl, Nat.le_of_ble_eq_true rfl, Nat.le_of_ble_eq_true rfl⟩ hl.1 (Nat.le_of_ble_eq_true rfl) dX8_behind_93 ⟨Nat.zero_le _, Nat.zero_le _⟩ (fun H locs hw => ?_)
              have hw : PW D A s.heap [pX8 o0 w0, pX6 (w0 3) w1 u_5.2.1, pX7 (w0 0) w2, pX1 cy (w2 0) q3 σ3, pX1 cy (w1 0) q4 u_5.2.2.1, pX3 cy (w0 2) q5 u_5.2.2.2] H locs := hw
              cases hf
              exact w_iret S hr hlk hA hQ hw dX8_behind_96
      · replace hf := (if_neg c_6).symm.trans hf
        refine lv_iload_n S.1 S.2.1 dX8_behind_30 rfl (lv_at hl 0 rfl) ?_
        cases hf
        exact w_iret S hr hlk hA hQ hw dX8_behind_31
    · replace hf := (if_pos c_4).symm.trans hf
      refine lv_bipush (v := (-2)) S.1 S.2.1 dX8_behind_18 (by decide) ?_
      cases hf
      exact w_iret S hr hlk hA hQ hw dX8_behind_20
  · replace hf := (if_pos c_2).symm.trans hf
    refine lv_iconst (v := (-1)) S.1 S.2.1 dX8_behind_7 (by decide) ?_
    cases hf
    exact w_iret S hr hlk hA hQ hw dX8_behind_8
section
variable {p : Program} {l : Launch} {e : Env} {R : Room} {s : State} {m : MethodId} {args : Array Value} {below : List Frame} {meth : Method} {c : Code} {H : Heap} {locs : List Loc} {cells slots : Nat} {Q : State → Prop} {cc : ByteArray} {pc nL : Nat} {ls : Array Slot} {rest : List Value} {D : va_G} {cy : Nat → ClassId} {A : Nat → Prop} {H0 : Heap} {own : String} {Ps : List va_W}
set_option maxRecDepth 100000 in
theorem k_X8_behind {o0 : Nat} {w0 : Nat → Nat} {w1 : Nat → Nat} {w2 : Nat → Nat} {q3 : Nat → Nat} {q4 : Nat → Nat} {q5 : Nat → Nat} {x1 : Int32} {x2 : Int32} {σ1 : pStt} {σ3 : pStt} {σ4 : pStt} {σ5 : pStt} {u : Int32 × pStt × pStt × pStt} {index : Nat} (S : CX p m c cc nL s args own D cy) (hl : (Cond.methodLink own index yX8_behind).before args s = true) (hw : PW D A H0 Ps H locs) (hf : f_X8_behind x1 x2 σ1 σ3 σ4 σ5 = some u) (js : List Nat) (hC : js.map (fun j => Ps[j]?) = [some (pX8 o0 w0), some (pX6 (w0 3) w1 σ1), some (pX7 (w0 0) w2), some (pX1 cy (w2 0) q3 σ3), some (pX1 cy (w1 0) q4 σ4), some (pX3 cy (w0 2) q5 σ5)]) (hnd : js.Nodup) (hlen : js.length = 6) (hR : RMok rmX8_behind R 5) (hsize : ls.size = nL) (hrest : (rest.map fun v => v.category).sum ≤ 8) (hdg : decode cc pc = .ok (.invokevirtual index, 3)) (hcs : cells ≤ R.cells ∧ slots ≤ R.slots)
    (kk : ∀ (H1 : Heap) (locs1 : List Loc), PW D A H0 (setAll Ps js [pX8 o0 w0, pX6 (w0 3) w1 u.2.1, pX7 (w0 0) w2, pX1 cy (w2 0) q3 σ3, pX1 cy (w1 0) q4 u.2.2.1, pX3 cy (w0 2) q5 u.2.2.2]) H1 locs1 → W p l e R s m args below meth c H1 locs1 cells slots Q (F0 m (pc + 3) ls (.int u.1 :: rest))) : W p l e R s m args below meth c H locs cells slots Q (F0 m pc ls (.int x2 :: .int x1 :: .ref o0 :: rest)) :=
  w_callV (n := 2) (ov := (some (.int u.1))) (As := [.int x1, .int x2]) (Cs := [pX8 o0 w0, pX6 (w0 3) w1 σ1, pX7 (w0 0) w2, pX1 cy (w2 0) q3 σ3, pX1 cy (w1 0) q4 σ4, pX3 cy (w0 2) q5 σ5]) (Cs' := [pX8 o0 w0, pX6 (w0 3) w1 u.2.1, pX7 (w0 0) w2, pX1 cy (w2 0) q3 σ3, pX1 cy (w1 0) q4 u.2.2.1, pX3 cy (w0 2) q5 u.2.2.2]) S hw (c_X8_behind l D cy o0 w0 w1 w2 q3 q4 q5 x1 x2 σ1 σ3 σ4 σ5 u hf) (MF.of S.2.2.2.2 wd456 wd70 (by decide)) (S.2.2.2.2.wd wd454 rfl) (S.2.2.2.2.wd wd455 rfl) hl hR js hC hnd hlen rfl rfl rfl rfl hsize rfl hrest hdg hcs kk
end
abbrev rmX8_lies : Room := { frames := 6, cells := 0, slots := 0, locals := 128 }
def f_X8_lies (x1 : Int32) (x2 : Int32) (σ1 : pStt) (σ3 : pStt) (σ4 : pStt) (σ5 : pStt) : Option (Int32 × pStt × pStt × pStt) := (f_X8_isThing x1).bind (fun u_1 => if u_1 = 0 then some ((-1), σ1, σ4, σ5) else (f_X8_isWithin x2 0 1).bind (fun u_3 => if u_3 = 0 then some ((-2), σ1, σ4, σ5) else (f_X8_playSession σ1 σ3 σ4 σ5).bind (fun u_5 => if u_5.1 = 0 then (if x2 = 0 then (f_X1_cornerOfThing x1 u_5.2.2.1).bind (fun u_10 => some u_10) else (f_X1_holderOfThing x1 u_5.2.2.1).bind (fun u_9 => some u_9) : Option Int32).bind (fun v_7 => some (v_7, u_5.2.1, u_5.2.2.1, u_5.2.2.2)) else some (u_5.1, u_5.2.1, u_5.2.2.1, u_5.2.2.2))))
set_option maxHeartbeats 4000000 in
set_option maxRecDepth 100000 in
theorem c_X8_lies (l : Launch) (D : va_G) (cy : Nat → ClassId) (o0 : Nat) (w0 : Nat → Nat) (w1 : Nat → Nat) (w2 : Nat → Nat) (q3 : Nat → Nat) (q4 : Nat → Nat) (q5 : Nat → Nat) (x1 : Int32) (x2 : Int32) (σ1 : pStt) (σ3 : pStt) (σ4 : pStt) (σ5 : pStt) (u : Int32 × pStt × pStt × pStt) (hf : f_X8_lies x1 x2 σ1 σ3 σ4 σ5 = some u) : CT l yX8_lies cX8_lies 4 (some .int) rmX8_lies D cy [.ref o0, .int x1, .int x2] [pX8 o0 w0, pX6 (w0 3) w1 σ1, pX7 (w0 0) w2, pX1 cy (w2 0) q3 σ3, pX1 cy (w1 0) q4 σ4, pX3 cy (w0 2) q5 σ5] (some (.int u.1)) [pX8 o0 w0, pX6 (w0 3) w1 u.2.1, pX7 (w0 0) w2, pX1 cy (w2 0) q3 σ3, pX1 cy (w1 0) q4 u.2.2.1, pX3 cy (w0 2) q5 u.2.2.2] := by
  refine CT.of (by decide) (Nat.le_of_ble_eq_true rfl) (fun p e s m args below meth c ls A Q hA hQ S hr hlk hl hw => ?_)
  have hl : lv_has ls 4 [(0, .ref o0), (1, .int x1), (2, .int x2)] := hl
  rw [f_X8_lies] at hf
  refine lv_iload_n S.1 S.2.1 dX8_lies_0 rfl (lv_at hl 1 rfl) ?_
  obtain ⟨u_1, e_u_1, hf⟩ := ob hf
  refine k_X8_isThing S (S.2.2.2.2.wd wd308 rfl) hw e_u_1 [] rfl (by decide) rfl ⟨rfl, rfl, Nat.le_of_ble_eq_true rfl, Nat.le_of_ble_eq_true rfl⟩ hl.1 (Nat.le_of_ble_eq_true rfl) dX8_lies_1 ⟨Nat.zero_le _, Nat.zero_le _⟩ (fun H locs hw => ?_)
  have hw : PW D A s.heap [pX8 o0 w0, pX6 (w0 3) w1 σ1, pX7 (w0 0) w2, pX1 cy (w2 0) q3 σ3, pX1 cy (w1 0) q4 σ4, pX3 cy (w0 2) q5 σ5] H locs := hw
  refine lv_if_ne (tgt := 9) S.1 S.2.1 dX8_lies_4 (by decide) (fun c_2 => ?_) (fun c_2 => ?_)
  · replace hf := (if_neg c_2).symm.trans hf
    refine lv_iload_n S.1 S.2.1 dX8_lies_9 rfl (lv_at hl 2 rfl) ?_
    refine lv_iconst (v := 0) S.1 S.2.1 dX8_lies_10 (by decide) ?_
    refine lv_iconst (v := 1) S.1 S.2.1 dX8_lies_11 (by decide) ?_
    obtain ⟨u_3, e_u_3, hf⟩ := ob hf
    refine k_X8_isWithin S (S.2.2.2.2.wd wd287 rfl) hw e_u_3 [] rfl (by decide) rfl ⟨rfl, rfl, Nat.le_of_ble_eq_true rfl, Nat.le_of_ble_eq_true rfl⟩ hl.1 (Nat.le_of_ble_eq_true rfl) dX8_lies_12 ⟨Nat.zero_le _, Nat.zero_le _⟩ (fun H locs hw => ?_)
    have hw : PW D A s.heap [pX8 o0 w0, pX6 (w0 3) w1 σ1, pX7 (w0 0) w2, pX1 cy (w2 0) q3 σ3, pX1 cy (w1 0) q4 σ4, pX3 cy (w0 2) q5 σ5] H locs := hw
    refine lv_if_ne (tgt := 21) S.1 S.2.1 dX8_lies_15 (by decide) (fun c_4 => ?_) (fun c_4 => ?_)
    · replace hf := (if_neg c_4).symm.trans hf
      refine lv_aload_n S.1 S.2.1 dX8_lies_21 rfl (lv_at hl 0 rfl) ?_
      obtain ⟨u_5, e_u_5, hf⟩ := ob hf
      refine k_X8_playSession S (S.2.2.2.2.wd wd391 rfl) hw e_u_5 [0, 1, 2, 3, 4, 5] rfl (by decide) rfl ⟨rfl, rfl, Nat.le_of_ble_eq_true rfl, Nat.le_of_ble_eq_true rfl⟩ hl.1 (Nat.le_of_ble_eq_true rfl) dX8_lies_22 ⟨Nat.zero_le _, Nat.zero_le _⟩ (fun H locs hw => ?_)
      have hw : PW D A s.heap [pX8 o0 w0, pX6 (w0 3) w1 u_5.2.1, pX7 (w0 0) w2, pX1 cy (w2 0) q3 σ3, pX1 cy (w1 0) q4 u_5.2.2.1, pX3 cy (w0 2) q5 u_5.2.2.2] H locs := hw
      refine lv_istore_n (lv' := [(3, .int u_5.1), (0, .ref o0), (1, .int x1), (2, .int x2)]) S.1 S.2.1 dX8_lies_25 rfl hl (by decide) rfl (fun ls hl => ?_)
      refine lv_iload_n S.1 S.2.1 dX8_lies_26 rfl (lv_at hl 0 rfl) ?_
      refine lv_if_eq (tgt := 32) S.1 S.2.1 dX8_lies_27 (by decide) (fun c_6 => ?_) (fun c_6 => ?_)
      · replace hf := (if_pos c_6).symm.trans hf
        refine lv_iload_n S.1 S.2.1 dX8_lies_32 rfl (lv_at hl 3 rfl) ?_
        obtain ⟨v_7, e_v_7, hf⟩ := ob hf
        have hJ_v_7 : ∀ (H : Heap) (locs : List Loc), PW D A s.heap [pX8 o0 w0, pX6 (w0 3) w1 u_5.2.1, pX7 (w0 0) w2, pX1 cy (w2 0) q3 σ3, pX1 cy (w1 0) q4 u_5.2.2.1, pX3 cy (w0 2) q5 u_5.2.2.2] H locs → W p l e rmX8_lies s m args below meth c H locs 0 0 Q (F0 m 61 ls [.int v_7]) := by
          intro H locs hw
          cases hf
          exact w_iret S hr hlk hA hQ hw dX8_lies_61
        replace hf := e_v_7
        clear e_v_7
        refine lv_if_ne (tgt := 50) S.1 S.2.1 dX8_lies_33 (by decide) (fun c_8 => ?_) (fun c_8 => ?_)
        · replace hf := (if_neg c_8).symm.trans hf
          refine lv_aload_n S.1 S.2.1 dX8_lies_50 rfl (lv_at hl 1 rfl) ?_
          refine gf_X8_30 S hw 0 rfl dX8_lies_51 ?_
          refine gf_X8_120 S hw 1 rfl dX8_lies_54 ?_
          refine lv_iload_n S.1 S.2.1 dX8_lies_57 rfl (lv_at hl 2 rfl) ?_
          obtain ⟨u_9, e_u_9, hf⟩ := ob hf
          refine k_X1_holderOfThing S (S.2.2.2.2.wd wd469 rfl) hw e_u_9 [4] rfl (by decide) rfl ⟨rfl, rfl, Nat.le_of_ble_eq_true rfl, Nat.le_of_ble_eq_true rfl⟩ hl.1 (Nat.le_of_ble_eq_true rfl) dX8_lies_58 ⟨Nat.zero_le _, Nat.zero_le _⟩ (fun H locs hw => ?_)
          have hw : PW D A s.heap [pX8 o0 w0, pX6 (w0 3) w1 u_5.2.1, pX7 (w0 0) w2, pX1 cy (w2 0) q3 σ3, pX1 cy (w1 0) q4 u_5.2.2.1, pX3 cy (w0 2) q5 u_5.2.2.2] H locs := hw
          cases hf
          exact hJ_v_7 _ _ hw
        · replace hf := (if_pos c_8).symm.trans hf
          refine lv_aload_n S.1 S.2.1 dX8_lies_36 rfl (lv_at hl 1 rfl) ?_
          refine gf_X8_30 S hw 0 rfl dX8_lies_37 ?_
          refine gf_X8_120 S hw 1 rfl dX8_lies_40 ?_
          refine lv_iload_n S.1 S.2.1 dX8_lies_43 rfl (lv_at hl 2 rfl) ?_
          obtain ⟨u_10, e_u_10, hf⟩ := ob hf
          refine k_X1_cornerOfThing S (S.2.2.2.2.wd wd311 rfl) hw e_u_10 [4] rfl (by decide) rfl ⟨rfl, rfl, Nat.le_of_ble_eq_true rfl, Nat.le_of_ble_eq_true rfl⟩ hl.1 (Nat.le_of_ble_eq_true rfl) dX8_lies_44 ⟨Nat.zero_le _, Nat.zero_le _⟩ (fun H locs hw => ?_)
          have hw : PW D A s.heap [pX8 o0 w0, pX6 (w0 3) w1 u_5.2.1, pX7 (w0 0) w2, pX1 cy (w2 0) q3 σ3, pX1 cy (w1 0) q4 u_5.2.2.1, pX3 cy (w0 2) q5 u_5.2.2.2] H locs := hw
          refine lv_goto (tgt := 61) S.1 S.2.1 dX8_lies_47 (by decide) ?_
          cases hf
          exact hJ_v_7 _ _ hw
      · replace hf := (if_neg c_6).symm.trans hf
        refine lv_iload_n S.1 S.2.1 dX8_lies_30 rfl (lv_at hl 0 rfl) ?_
        cases hf
        exact w_iret S hr hlk hA hQ hw dX8_lies_31
    · replace hf := (if_pos c_4).symm.trans hf
      refine lv_bipush (v := (-2)) S.1 S.2.1 dX8_lies_18 (by decide) ?_
      cases hf
      exact w_iret S hr hlk hA hQ hw dX8_lies_20
  · replace hf := (if_pos c_2).symm.trans hf
    refine lv_iconst (v := (-1)) S.1 S.2.1 dX8_lies_7 (by decide) ?_
    cases hf
    exact w_iret S hr hlk hA hQ hw dX8_lies_8
section
variable {p : Program} {l : Launch} {e : Env} {R : Room} {s : State} {m : MethodId} {args : Array Value} {below : List Frame} {meth : Method} {c : Code} {H : Heap} {locs : List Loc} {cells slots : Nat} {Q : State → Prop} {cc : ByteArray} {pc nL : Nat} {ls : Array Slot} {rest : List Value} {D : va_G} {cy : Nat → ClassId} {A : Nat → Prop} {H0 : Heap} {own : String} {Ps : List va_W}
set_option maxRecDepth 100000 in
theorem k_X8_lies {o0 : Nat} {w0 : Nat → Nat} {w1 : Nat → Nat} {w2 : Nat → Nat} {q3 : Nat → Nat} {q4 : Nat → Nat} {q5 : Nat → Nat} {x1 : Int32} {x2 : Int32} {σ1 : pStt} {σ3 : pStt} {σ4 : pStt} {σ5 : pStt} {u : Int32 × pStt × pStt × pStt} {index : Nat} (S : CX p m c cc nL s args own D cy) (hl : (Cond.methodLink own index yX8_lies).before args s = true) (hw : PW D A H0 Ps H locs) (hf : f_X8_lies x1 x2 σ1 σ3 σ4 σ5 = some u) (js : List Nat) (hC : js.map (fun j => Ps[j]?) = [some (pX8 o0 w0), some (pX6 (w0 3) w1 σ1), some (pX7 (w0 0) w2), some (pX1 cy (w2 0) q3 σ3), some (pX1 cy (w1 0) q4 σ4), some (pX3 cy (w0 2) q5 σ5)]) (hnd : js.Nodup) (hlen : js.length = 6) (hR : RMok rmX8_lies R 4) (hsize : ls.size = nL) (hrest : (rest.map fun v => v.category).sum ≤ 8) (hdg : decode cc pc = .ok (.invokevirtual index, 3)) (hcs : cells ≤ R.cells ∧ slots ≤ R.slots)
    (kk : ∀ (H1 : Heap) (locs1 : List Loc), PW D A H0 (setAll Ps js [pX8 o0 w0, pX6 (w0 3) w1 u.2.1, pX7 (w0 0) w2, pX1 cy (w2 0) q3 σ3, pX1 cy (w1 0) q4 u.2.2.1, pX3 cy (w0 2) q5 u.2.2.2]) H1 locs1 → W p l e R s m args below meth c H1 locs1 cells slots Q (F0 m (pc + 3) ls (.int u.1 :: rest))) : W p l e R s m args below meth c H locs cells slots Q (F0 m pc ls (.int x2 :: .int x1 :: .ref o0 :: rest)) :=
  w_callV (n := 2) (ov := (some (.int u.1))) (As := [.int x1, .int x2]) (Cs := [pX8 o0 w0, pX6 (w0 3) w1 σ1, pX7 (w0 0) w2, pX1 cy (w2 0) q3 σ3, pX1 cy (w1 0) q4 σ4, pX3 cy (w0 2) q5 σ5]) (Cs' := [pX8 o0 w0, pX6 (w0 3) w1 u.2.1, pX7 (w0 0) w2, pX1 cy (w2 0) q3 σ3, pX1 cy (w1 0) q4 u.2.2.1, pX3 cy (w0 2) q5 u.2.2.2]) S hw (c_X8_lies l D cy o0 w0 w1 w2 q3 q4 q5 x1 x2 σ1 σ3 σ4 σ5 u hf) (MF.of S.2.2.2.2 wd468 wd70 (by decide)) (S.2.2.2.2.wd wd466 rfl) (S.2.2.2.2.wd wd467 rfl) hl hR js hC hnd hlen rfl rfl rfl rfl hsize rfl hrest hdg hcs kk
end
abbrev rmX8_there : Room := { frames := 6, cells := 0, slots := 0, locals := 128 }
def f_X8_there (x1 : Int32) (σ1 : pStt) (σ3 : pStt) (σ4 : pStt) (σ5 : pStt) : Option (Int32 × pStt × pStt × pStt) := (f_X8_isWithin x1 0 4).bind (fun u_1 => if u_1 = 0 then some ((-2), σ1, σ4, σ5) else (f_X8_playSession σ1 σ3 σ4 σ5).bind (fun u_3 => if u_3.1 = 0 then if x1 = 0 then (f_X1_countWays u_3.2.2.1).bind (fun u_6 => some (u_6, u_3.2.1, u_3.2.2.1, u_3.2.2.2)) else if x1 = 1 then (f_X1_whoIsThere u_3.2.2.1).bind (fun u_8 => some (u_8, u_3.2.1, u_3.2.2.1, u_3.2.2.2)) else if x1 = 2 then some ((u_3.2.2.1.1 0), u_3.2.1, u_3.2.2.1, u_3.2.2.2) else if x1 = 3 then (f_X1_poleAsNumber u_3.2.2.1).bind (fun u_11 => some (u_11, u_3.2.1, u_3.2.2.1, u_3.2.2.2)) else some ((u_3.2.2.1.1 2), u_3.2.1, u_3.2.2.1, u_3.2.2.2) else some (u_3.1, u_3.2.1, u_3.2.2.1, u_3.2.2.2)))
set_option maxHeartbeats 4000000 in
set_option maxRecDepth 100000 in
theorem c_X8_there (l : Launch) (D : va_G) (cy : Nat → ClassId) (o0 : Nat) (w0 : Nat → Nat) (w1 : Nat → Nat) (w2 : Nat → Nat) (q3 : Nat → Nat) (q4 : Nat → Nat) (q5 : Nat → Nat) (x1 : Int32) (σ1 : pStt) (σ3 : pStt) (σ4 : pStt) (σ5 : pStt) (u : Int32 × pStt × pStt × pStt) (hf : f_X8_there x1 σ1 σ3 σ4 σ5 = some u) : CT l yX8_there cX8_there 4 (some .int) rmX8_there D cy [.ref o0, .int x1] [pX8 o0 w0, pX6 (w0 3) w1 σ1, pX7 (w0 0) w2, pX1 cy (w2 0) q3 σ3, pX1 cy (w1 0) q4 σ4, pX3 cy (w0 2) q5 σ5] (some (.int u.1)) [pX8 o0 w0, pX6 (w0 3) w1 u.2.1, pX7 (w0 0) w2, pX1 cy (w2 0) q3 σ3, pX1 cy (w1 0) q4 u.2.2.1, pX3 cy (w0 2) q5 u.2.2.2] := by
  refine CT.of (by decide) (Nat.le_of_ble_eq_true rfl) (fun p e s m args below meth c ls A Q hA hQ S hr hlk hl hw => ?_)
  have hl : lv_has ls 4 [(0, .ref o0), (1, .int x1)] := hl
  rw [f_X8_there] at hf
  refine lv_iload_n S.1 S.2.1 dX8_there_0 rfl (lv_at hl 1 rfl) ?_
  refine lv_iconst (v := 0) S.1 S.2.1 dX8_there_1 (by decide) ?_
  refine lv_iconst (v := 4) S.1 S.2.1 dX8_there_2 (by decide) ?_
  obtain ⟨u_1, e_u_1, hf⟩ := ob hf
  refine k_X8_isWithin S (S.2.2.2.2.wd wd287 rfl) hw e_u_1 [] rfl (by decide) rfl ⟨rfl, rfl, Nat.le_of_ble_eq_true rfl, Nat.le_of_ble_eq_true rfl⟩ hl.1 (Nat.le_of_ble_eq_true rfl) dX8_there_3 ⟨Nat.zero_le _, Nat.zero_le _⟩ (fun H locs hw => ?_)
  have hw : PW D A s.heap [pX8 o0 w0, pX6 (w0 3) w1 σ1, pX7 (w0 0) w2, pX1 cy (w2 0) q3 σ3, pX1 cy (w1 0) q4 σ4, pX3 cy (w0 2) q5 σ5] H locs := hw
  refine lv_if_ne (tgt := 12) S.1 S.2.1 dX8_there_6 (by decide) (fun c_2 => ?_) (fun c_2 => ?_)
  · replace hf := (if_neg c_2).symm.trans hf
    refine lv_aload_n S.1 S.2.1 dX8_there_12 rfl (lv_at hl 0 rfl) ?_
    obtain ⟨u_3, e_u_3, hf⟩ := ob hf
    refine k_X8_playSession S (S.2.2.2.2.wd wd391 rfl) hw e_u_3 [0, 1, 2, 3, 4, 5] rfl (by decide) rfl ⟨rfl, rfl, Nat.le_of_ble_eq_true rfl, Nat.le_of_ble_eq_true rfl⟩ hl.1 (Nat.le_of_ble_eq_true rfl) dX8_there_13 ⟨Nat.zero_le _, Nat.zero_le _⟩ (fun H locs hw => ?_)
    have hw : PW D A s.heap [pX8 o0 w0, pX6 (w0 3) w1 u_3.2.1, pX7 (w0 0) w2, pX1 cy (w2 0) q3 σ3, pX1 cy (w1 0) q4 u_3.2.2.1, pX3 cy (w0 2) q5 u_3.2.2.2] H locs := hw
    refine lv_istore_n (lv' := [(2, .int u_3.1), (0, .ref o0), (1, .int x1)]) S.1 S.2.1 dX8_there_16 rfl hl (by decide) rfl (fun ls hl => ?_)
    refine lv_iload_n S.1 S.2.1 dX8_there_17 rfl (lv_at hl 0 rfl) ?_
    refine lv_if_eq (tgt := 23) S.1 S.2.1 dX8_there_18 (by decide) (fun c_4 => ?_) (fun c_4 => ?_)
    · replace hf := (if_pos c_4).symm.trans hf
      refine lv_aload_n S.1 S.2.1 dX8_there_23 rfl (lv_at hl 1 rfl) ?_
      refine gf_X8_30 S hw 0 rfl dX8_there_24 ?_
      refine gf_X8_120 S hw 1 rfl dX8_there_27 ?_
      refine lv_astore_n (lv' := [(3, .ref ((w1 0))), (2, .int u_3.1), (0, .ref o0), (1, .int x1)]) S.1 S.2.1 dX8_there_30 rfl hl (by decide) rfl (fun ls hl => ?_)
      refine lv_iload_n S.1 S.2.1 dX8_there_31 rfl (lv_at hl 3 rfl) ?_
      by_cases c_5 : x1 = 0
      · replace hf := (if_pos c_5).symm.trans hf
        refine lv_tableIn (off := 32) (tgt := 64) S.1 S.2.1 dX8_there_32 (by rw [c_5]; decide) (by rw [c_5]; decide) (by rw [c_5]; rfl) (by decide) ?_
        refine lv_aload_n S.1 S.2.1 dX8_there_64 rfl (lv_at hl 0 rfl) ?_
        obtain ⟨u_6, e_u_6, hf⟩ := ob hf
        refine k_X1_countWays S (S.2.2.2.2.wd wd294 rfl) hw e_u_6 [4] rfl (by decide) rfl ⟨rfl, rfl, Nat.le_of_ble_eq_true rfl, Nat.le_of_ble_eq_true rfl⟩ hl.1 (Nat.le_of_ble_eq_true rfl) dX8_there_65 ⟨Nat.zero_le _, Nat.zero_le _⟩ (fun H locs hw => ?_)
        have hw : PW D A s.heap [pX8 o0 w0, pX6 (w0 3) w1 u_3.2.1, pX7 (w0 0) w2, pX1 cy (w2 0) q3 σ3, pX1 cy (w1 0) q4 u_3.2.2.1, pX3 cy (w0 2) q5 u_3.2.2.2] H locs := hw
        cases hf
        exact w_iret S hr hlk hA hQ hw dX8_there_68
      · replace hf := (if_neg c_5).symm.trans hf
        by_cases c_7 : x1 = 1
        · replace hf := (if_pos c_7).symm.trans hf
          refine lv_tableIn (off := 37) (tgt := 69) S.1 S.2.1 dX8_there_32 (by rw [c_7]; decide) (by rw [c_7]; decide) (by rw [c_7]; rfl) (by decide) ?_
          refine lv_aload_n S.1 S.2.1 dX8_there_69 rfl (lv_at hl 0 rfl) ?_
          obtain ⟨u_8, e_u_8, hf⟩ := ob hf
          refine k_X1_whoIsThere S (S.2.2.2.2.wd wd477 rfl) hw e_u_8 [4] rfl (by decide) rfl ⟨rfl, rfl, Nat.le_of_ble_eq_true rfl, Nat.le_of_ble_eq_true rfl⟩ hl.1 (Nat.le_of_ble_eq_true rfl) dX8_there_70 ⟨Nat.zero_le _, Nat.zero_le _⟩ (fun H locs hw => ?_)
          have hw : PW D A s.heap [pX8 o0 w0, pX6 (w0 3) w1 u_3.2.1, pX7 (w0 0) w2, pX1 cy (w2 0) q3 σ3, pX1 cy (w1 0) q4 u_3.2.2.1, pX3 cy (w0 2) q5 u_3.2.2.2] H locs := hw
          cases hf
          exact w_iret S hr hlk hA hQ hw dX8_there_73
        · replace hf := (if_neg c_7).symm.trans hf
          by_cases c_9 : x1 = 2
          · replace hf := (if_pos c_9).symm.trans hf
            refine lv_tableIn (off := 42) (tgt := 74) S.1 S.2.1 dX8_there_32 (by rw [c_9]; decide) (by rw [c_9]; decide) (by rw [c_9]; rfl) (by decide) ?_
            refine lv_aload_n S.1 S.2.1 dX8_there_74 rfl (lv_at hl 0 rfl) ?_
            refine gf_X8_136 S hw 4 rfl dX8_there_75 ?_
            cases hf
            exact w_iret S hr hlk hA hQ hw dX8_there_78
          · replace hf := (if_neg c_9).symm.trans hf
            by_cases c_10 : x1 = 3
            · replace hf := (if_pos c_10).symm.trans hf
              refine lv_tableIn (off := 47) (tgt := 79) S.1 S.2.1 dX8_there_32 (by rw [c_10]; decide) (by rw [c_10]; decide) (by rw [c_10]; rfl) (by decide) ?_
              refine lv_aload_n S.1 S.2.1 dX8_there_79 rfl (lv_at hl 0 rfl) ?_
              obtain ⟨u_11, e_u_11, hf⟩ := ob hf
              refine k_X1_poleAsNumber S (S.2.2.2.2.wd wd335 rfl) hw e_u_11 [4] rfl (by decide) rfl ⟨rfl, rfl, Nat.le_of_ble_eq_true rfl, Nat.le_of_ble_eq_true rfl⟩ hl.1 (Nat.le_of_ble_eq_true rfl) dX8_there_80 ⟨Nat.zero_le _, Nat.zero_le _⟩ (fun H locs hw => ?_)
              have hw : PW D A s.heap [pX8 o0 w0, pX6 (w0 3) w1 u_3.2.1, pX7 (w0 0) w2, pX1 cy (w2 0) q3 σ3, pX1 cy (w1 0) q4 u_3.2.2.1, pX3 cy (w0 2) q5 u_3.2.2.2] H locs := hw
              cases hf
              exact w_iret S hr hlk hA hQ hw dX8_there_83
            · replace hf := (if_neg c_10).symm.trans hf
              have t_c_5 := ne_toInt (k := 0) c_5 (by decide)
              have t_c_7 := ne_toInt (k := 1) c_7 (by decide)
              have t_c_9 := ne_toInt (k := 2) c_9 (by decide)
              have t_c_10 := ne_toInt (k := 3) c_10 (by decide)
              refine lv_tableOut (tgt := 84) S.1 S.2.1 dX8_there_32 (by omega) (by decide) ?_
              refine lv_aload_n S.1 S.2.1 dX8_there_84 rfl (lv_at hl 0 rfl) ?_
              refine gf_X8_139 S hw 4 rfl dX8_there_85 ?_
              cases hf
              exact w_iret S hr hlk hA hQ hw dX8_there_88
    · replace hf := (if_neg c_4).symm.trans hf
      refine lv_iload_n S.1 S.2.1 dX8_there_21 rfl (lv_at hl 0 rfl) ?_
      cases hf
      exact w_iret S hr hlk hA hQ hw dX8_there_22
  · replace hf := (if_pos c_2).symm.trans hf
    refine lv_bipush (v := (-2)) S.1 S.2.1 dX8_there_9 (by decide) ?_
    cases hf
    exact w_iret S hr hlk hA hQ hw dX8_there_11
section
variable {p : Program} {l : Launch} {e : Env} {R : Room} {s : State} {m : MethodId} {args : Array Value} {below : List Frame} {meth : Method} {c : Code} {H : Heap} {locs : List Loc} {cells slots : Nat} {Q : State → Prop} {cc : ByteArray} {pc nL : Nat} {ls : Array Slot} {rest : List Value} {D : va_G} {cy : Nat → ClassId} {A : Nat → Prop} {H0 : Heap} {own : String} {Ps : List va_W}
set_option maxRecDepth 100000 in
theorem k_X8_there {o0 : Nat} {w0 : Nat → Nat} {w1 : Nat → Nat} {w2 : Nat → Nat} {q3 : Nat → Nat} {q4 : Nat → Nat} {q5 : Nat → Nat} {x1 : Int32} {σ1 : pStt} {σ3 : pStt} {σ4 : pStt} {σ5 : pStt} {u : Int32 × pStt × pStt × pStt} {index : Nat} (S : CX p m c cc nL s args own D cy) (hl : (Cond.methodLink own index yX8_there).before args s = true) (hw : PW D A H0 Ps H locs) (hf : f_X8_there x1 σ1 σ3 σ4 σ5 = some u) (js : List Nat) (hC : js.map (fun j => Ps[j]?) = [some (pX8 o0 w0), some (pX6 (w0 3) w1 σ1), some (pX7 (w0 0) w2), some (pX1 cy (w2 0) q3 σ3), some (pX1 cy (w1 0) q4 σ4), some (pX3 cy (w0 2) q5 σ5)]) (hnd : js.Nodup) (hlen : js.length = 6) (hR : RMok rmX8_there R 4) (hsize : ls.size = nL) (hrest : (rest.map fun v => v.category).sum ≤ 8) (hdg : decode cc pc = .ok (.invokevirtual index, 3)) (hcs : cells ≤ R.cells ∧ slots ≤ R.slots)
    (kk : ∀ (H1 : Heap) (locs1 : List Loc), PW D A H0 (setAll Ps js [pX8 o0 w0, pX6 (w0 3) w1 u.2.1, pX7 (w0 0) w2, pX1 cy (w2 0) q3 σ3, pX1 cy (w1 0) q4 u.2.2.1, pX3 cy (w0 2) q5 u.2.2.2]) H1 locs1 → W p l e R s m args below meth c H1 locs1 cells slots Q (F0 m (pc + 3) ls (.int u.1 :: rest))) : W p l e R s m args below meth c H locs cells slots Q (F0 m pc ls (.int x1 :: .ref o0 :: rest)) :=
  w_callV (n := 1) (ov := (some (.int u.1))) (As := [.int x1]) (Cs := [pX8 o0 w0, pX6 (w0 3) w1 σ1, pX7 (w0 0) w2, pX1 cy (w2 0) q3 σ3, pX1 cy (w1 0) q4 σ4, pX3 cy (w0 2) q5 σ5]) (Cs' := [pX8 o0 w0, pX6 (w0 3) w1 u.2.1, pX7 (w0 0) w2, pX1 cy (w2 0) q3 σ3, pX1 cy (w1 0) q4 u.2.2.1, pX3 cy (w0 2) q5 u.2.2.2]) S hw (c_X8_there l D cy o0 w0 w1 w2 q3 q4 q5 x1 σ1 σ3 σ4 σ5 u hf) (MF.of S.2.2.2.2 wd476 wd70 (by decide)) (S.2.2.2.2.wd wd474 rfl) (S.2.2.2.2.wd wd475 rfl) hl hR js hC hnd hlen rfl rfl rfl rfl hsize rfl hrest hdg hcs kk
end
