abbrev rmX9_walk : Room := { frames := 2, cells := 0, slots := 0, locals := 46 }
def fl_X9_walk_33 (y1 : Int32) (y2 : Int32) (y3 : Int32)  : Nat → Int32 → pStt → Option (pStt)
  | 0, _, _ => none
  | n + 1, y4, σ0 => if 8 ≤ y4 then some σ0 else (f_X9_has y3 y4).bind (fun u_7 => (if u_7 = 0 then some 0 else (f_X9_leastGo y3 y4 σ0).bind (fun u_11 => if u_11 < 0 then some 0 else some 1) : Option Int32).bind (fun v_8 => (stA σ0 17 2048 ((((8 : Int32) * y3) + y4)) ((v_8 &&& 1))).bind (fun σ_9 => fl_X9_walk_33 y1 y2 y3 n ((y4 + 1)) σ_9)))
def fl_X9_walk_26 (y1 : Int32) (y2 : Int32)  : Nat → Int32 → pStt → Option (pStt)
  | 0, _, _ => none
  | n + 1, y3, σ0 => if y3 ≤ 0 then some σ0 else (fl_X9_walk_33 y1 y2 y3 2000 0 σ0).bind (fun u_13 => fl_X9_walk_26 y1 y2 n ((y3 + (-1))) u_13)
def f_X9_walk (x1 : Int32) (x2 : Int32) (σ0 : pStt) : Option (Int32 × pStt) := (f_X9_isCorner x1).bind (fun u_1 => if u_1 = 0 then some ((-1), σ0) else (f_X9_in ((x2 : Int32).toInt64) 0 1).bind (fun u_3 => if u_3 = 0 then some ((-2), σ0) else (fl_X9_walk_26 x1 x2 2000 255 σ0).bind (fun u_14 => (f_X9_leastGo (((1 : Int32) <<< (x1 &&& 31))) x1 u_14).bind (fun u_15 => (if x2 = 1 then some u_15 else if 0 ≤ u_15 then some 1 else some 0 : Option Int32).bind (fun v_16 => some (v_16, u_14))))))
section
variable {p : Program} {l : Launch} {e : Env} {s : State} {m : MethodId} {args : Array Value} {below : List Frame} {meth : Method} {c : Code} {Q : State → Prop} {D : va_G} {cy : Nat → ClassId} {A : Nat → Prop} {H0 : Heap}
set_option maxHeartbeats 4000000 in
set_option maxRecDepth 100000 in
theorem lp_X9_walk_33 (S : CX p m c cX9_walk 5 s args RX9 D cy) {o0 : Nat} {q0 : Nat → Nat}  {y1 : Int32} {y2 : Int32} {y3 : Int32} : ∀ (n : Nat) (y4 : Int32) (σ0 : pStt) (H : Heap) (locs : List Loc) (ls : Array Slot) (u : pStt), PW D A H0 [pX9 cy o0 q0 σ0] H locs → lv_has ls 5 [(0, .ref o0), (1, .int y1), (2, .int y2), (3, .int y3), (4, .int y4)] → fl_X9_walk_33 y1 y2 y3 n y4 σ0 = some u → (∀ (H : Heap) (locs : List Loc) (ls : Array Slot), PW D A H0 [pX9 cy o0 q0 u] H locs → lv_has ls 5 [(0, .ref o0), (1, .int y1), (2, .int y2), (3, .int y3)] → W p l e rmX9_walk s m args below meth c H locs 0 0 Q (F0 m 82 ls [])) → W p l e rmX9_walk s m args below meth c H locs 0 0 Q (F0 m 33 ls []) := by
  intro n
  induction n with
  | zero =>
    intro y4 σ0 H locs ls u hw hl hf K0
    rw [fl_X9_walk_33] at hf
    cases hf
  | succ n ih =>
    intro y4 σ0 H locs ls u hw hl hf K0
    rw [fl_X9_walk_33] at hf
    refine lv_iload S.1 S.2.1 dX9_walk_33 (lv_at hl 4 rfl) ?_
    refine lv_bipush (v := 8) S.1 S.2.1 dX9_walk_35 (by decide) ?_
    refine lv_icmp_ge (tgt := 82) S.1 S.2.1 dX9_walk_37 (by decide) (fun c_6 => ?_) (fun c_6 => ?_)
    · replace hf := (if_pos c_6).symm.trans hf
      cases hf
      exact K0 _ _ _ hw (lv_sub hl [0, 1, 2, 3] rfl)
    · replace hf := (if_neg c_6).symm.trans hf
      refine lv_aload_n S.1 S.2.1 dX9_walk_40 rfl (lv_at hl 0 rfl) ?_
      refine gf_X9_61 S hw 0 rfl dX9_walk_41 ?_
      refine lv_bipush (v := 8) S.1 S.2.1 dX9_walk_44 (by decide) ?_
      refine lv_iload_n S.1 S.2.1 dX9_walk_46 rfl (lv_at hl 3 rfl) ?_
      refine lv_imul S.1 S.2.1 dX9_walk_47 ?_
      refine lv_iload S.1 S.2.1 dX9_walk_48 (lv_at hl 4 rfl) ?_
      refine lv_iadd S.1 S.2.1 dX9_walk_50 ?_
      refine lv_iload_n S.1 S.2.1 dX9_walk_51 rfl (lv_at hl 3 rfl) ?_
      refine lv_iload S.1 S.2.1 dX9_walk_52 (lv_at hl 4 rfl) ?_
      obtain ⟨u_7, e_u_7, hf⟩ := ob hf
      refine k_X9_has S (S.2.2.2.2.wd wd943 rfl) hw e_u_7 [] rfl (by decide) rfl ⟨rfl, rfl, Nat.le_of_ble_eq_true rfl, Nat.le_of_ble_eq_true rfl⟩ hl.1 (Nat.le_of_ble_eq_true rfl) dX9_walk_54 ⟨Nat.zero_le _, Nat.zero_le _⟩ (fun H locs hw => ?_)
      have hw : PW D A H0 [pX9 cy o0 q0 σ0] H locs := hw
      obtain ⟨v_8, e_v_8, hf⟩ := ob hf
      have hJ_v_8 : ∀ (H : Heap) (locs : List Loc), PW D A H0 [pX9 cy o0 q0 σ0] H locs → W p l e rmX9_walk s m args below meth c H locs 0 0 Q (F0 m 75 ls [.int v_8, .int ((((8 : Int32) * y3) + y4)), .ref ((q0 17))]) := by
        intro H locs hw
        obtain ⟨σ_9, e_σ_9, hf⟩ := ob hf
        refine as_X9_17 S hw 0 rfl e_σ_9 dX9_walk_75 (fun H locs hw => ?_)
        have hw : PW D A H0 [pX9 cy o0 q0 σ_9] H locs := hw
        refine lv_iinc (v := (y4 + 1)) (lv' := [(4, .int ((y4 + 1))), (0, .ref o0), (1, .int y1), (2, .int y2), (3, .int y3)]) S.1 S.2.1 dX9_walk_76 hl (k := 4) rfl rfl (by decide) rfl (fun ls hl => ?_)
        refine lv_goto (tgt := 33) S.1 S.2.1 dX9_walk_79 (by decide) ?_
        exact ih _ _ _ _ _ _ hw (lv_sub hl [1, 2, 3, 4, 0] rfl) hf K0
      replace hf := e_v_8
      clear e_v_8
      refine lv_if_eq (tgt := 74) S.1 S.2.1 dX9_walk_57 (by decide) (fun c_10 => ?_) (fun c_10 => ?_)
      · replace hf := (if_pos c_10).symm.trans hf
        refine lv_iconst (v := 0) S.1 S.2.1 dX9_walk_74 (by decide) ?_
        cases hf
        exact hJ_v_8 _ _ hw
      · replace hf := (if_neg c_10).symm.trans hf
        refine lv_aload_n S.1 S.2.1 dX9_walk_60 rfl (lv_at hl 0 rfl) ?_
        refine lv_iload_n S.1 S.2.1 dX9_walk_61 rfl (lv_at hl 3 rfl) ?_
        refine lv_iload S.1 S.2.1 dX9_walk_62 (lv_at hl 4 rfl) ?_
        obtain ⟨u_11, e_u_11, hf⟩ := ob hf
        refine k_X9_leastGo S (S.2.2.2.2.wd wd1103 rfl) hw e_u_11 [0] rfl (by decide) rfl ⟨rfl, rfl, Nat.le_of_ble_eq_true rfl, Nat.le_of_ble_eq_true rfl⟩ hl.1 (Nat.le_of_ble_eq_true rfl) dX9_walk_64 ⟨Nat.zero_le _, Nat.zero_le _⟩ (fun H locs hw => ?_)
        have hw : PW D A H0 [pX9 cy o0 q0 σ0] H locs := hw
        refine lv_if_lt (tgt := 74) S.1 S.2.1 dX9_walk_67 (by decide) (fun c_12 => ?_) (fun c_12 => ?_)
        · replace hf := (if_pos c_12).symm.trans hf
          refine lv_iconst (v := 0) S.1 S.2.1 dX9_walk_74 (by decide) ?_
          cases hf
          exact hJ_v_8 _ _ hw
        · replace hf := (if_neg c_12).symm.trans hf
          refine lv_iconst (v := 1) S.1 S.2.1 dX9_walk_70 (by decide) ?_
          refine lv_goto (tgt := 75) S.1 S.2.1 dX9_walk_71 (by decide) ?_
          cases hf
          exact hJ_v_8 _ _ hw
set_option maxHeartbeats 4000000 in
set_option maxRecDepth 100000 in
theorem lp_X9_walk_26 (S : CX p m c cX9_walk 5 s args RX9 D cy) {o0 : Nat} {q0 : Nat → Nat}  {y1 : Int32} {y2 : Int32} : ∀ (n : Nat) (y3 : Int32) (σ0 : pStt) (H : Heap) (locs : List Loc) (ls : Array Slot) (u : pStt), PW D A H0 [pX9 cy o0 q0 σ0] H locs → lv_has ls 5 [(0, .ref o0), (1, .int y1), (2, .int y2), (3, .int y3)] → fl_X9_walk_26 y1 y2 n y3 σ0 = some u → (∀ (H : Heap) (locs : List Loc) (ls : Array Slot), PW D A H0 [pX9 cy o0 q0 u] H locs → lv_has ls 5 [(0, .ref o0), (1, .int y1), (2, .int y2)] → W p l e rmX9_walk s m args below meth c H locs 0 0 Q (F0 m 88 ls [])) → W p l e rmX9_walk s m args below meth c H locs 0 0 Q (F0 m 26 ls []) := by
  intro n
  induction n with
  | zero =>
    intro y3 σ0 H locs ls u hw hl hf K0
    rw [fl_X9_walk_26] at hf
    cases hf
  | succ n ih =>
    intro y3 σ0 H locs ls u hw hl hf K0
    rw [fl_X9_walk_26] at hf
    refine lv_iload_n S.1 S.2.1 dX9_walk_26 rfl (lv_at hl 3 rfl) ?_
    refine lv_if_le (tgt := 88) S.1 S.2.1 dX9_walk_27 (by decide) (fun c_5 => ?_) (fun c_5 => ?_)
    · replace hf := (if_pos c_5).symm.trans hf
      cases hf
      exact K0 _ _ _ hw (lv_sub hl [0, 1, 2] rfl)
    · replace hf := (if_neg c_5).symm.trans hf
      refine lv_iconst (v := 0) S.1 S.2.1 dX9_walk_30 (by decide) ?_
      refine lv_istore (lv' := [(4, .int 0), (0, .ref o0), (1, .int y1), (2, .int y2), (3, .int y3)]) S.1 S.2.1 dX9_walk_31 hl (by decide) rfl (fun ls hl => ?_)
      obtain ⟨u_13, e_u_13, hf⟩ := ob hf
      refine lp_X9_walk_33 S 2000 _ _ _ _ _ _ hw (lv_sub hl [1, 2, 3, 4, 0] rfl) e_u_13 ?_
      · intro H locs ls hw hl
        refine lv_iinc (v := (y3 + (-1))) (lv' := [(3, .int ((y3 + (-1)))), (0, .ref o0), (1, .int y1), (2, .int y2)]) S.1 S.2.1 dX9_walk_82 hl (k := 3) rfl rfl (by decide) rfl (fun ls hl => ?_)
        refine lv_goto (tgt := 26) S.1 S.2.1 dX9_walk_85 (by decide) ?_
        exact ih _ _ _ _ _ _ hw (lv_sub hl [1, 2, 3, 0] rfl) hf K0
end
set_option maxHeartbeats 4000000 in
set_option maxRecDepth 100000 in
theorem c_X9_walk (l : Launch) (D : va_G) (cy : Nat → ClassId) (o0 : Nat) (q0 : Nat → Nat) (x1 : Int32) (x2 : Int32) (σ0 : pStt) (u : Int32 × pStt) (hf : f_X9_walk x1 x2 σ0 = some u) : CT l yX9_walk cX9_walk 5 (some .int) rmX9_walk D cy [.ref o0, .int x1, .int x2] [pX9 cy o0 q0 σ0] (some (.int u.1)) [pX9 cy o0 q0 u.2] := by
  refine CT.of (by decide) (Nat.le_of_ble_eq_true rfl) (fun p e s m args below meth c ls A Q hA hQ S hr hlk hl hw => ?_)
  have hl : lv_has ls 5 [(0, .ref o0), (1, .int x1), (2, .int x2)] := hl
  rw [f_X9_walk] at hf
  refine lv_iload_n S.1 S.2.1 dX9_walk_0 rfl (lv_at hl 1 rfl) ?_
  obtain ⟨u_1, e_u_1, hf⟩ := ob hf
  refine k_X9_isCorner S (S.2.2.2.2.wd wd814 rfl) hw e_u_1 [] rfl (by decide) rfl ⟨rfl, rfl, Nat.le_of_ble_eq_true rfl, Nat.le_of_ble_eq_true rfl⟩ hl.1 (Nat.le_of_ble_eq_true rfl) dX9_walk_1 ⟨Nat.zero_le _, Nat.zero_le _⟩ (fun H locs hw => ?_)
  have hw : PW D A s.heap [pX9 cy o0 q0 σ0] H locs := hw
  refine lv_if_ne (tgt := 9) S.1 S.2.1 dX9_walk_4 (by decide) (fun c_2 => ?_) (fun c_2 => ?_)
  · replace hf := (if_neg c_2).symm.trans hf
    refine lv_iload_n S.1 S.2.1 dX9_walk_9 rfl (lv_at hl 2 rfl) ?_
    refine lv_i2l (v := (x2 : Int32).toInt64) S.1 S.2.1 dX9_walk_10 rfl ?_
    refine lv_lconst (v := 0) S.1 S.2.1 dX9_walk_11 (by decide) ?_
    refine lv_lconst (v := 1) S.1 S.2.1 dX9_walk_12 (by decide) ?_
    obtain ⟨u_3, e_u_3, hf⟩ := ob hf
    refine k_X9_in S (S.2.2.2.2.wd wd818 rfl) hw e_u_3 [] rfl (by decide) rfl ⟨rfl, rfl, Nat.le_of_ble_eq_true rfl, Nat.le_of_ble_eq_true rfl⟩ hl.1 (Nat.le_of_ble_eq_true rfl) dX9_walk_13 ⟨Nat.zero_le _, Nat.zero_le _⟩ (fun H locs hw => ?_)
    have hw : PW D A s.heap [pX9 cy o0 q0 σ0] H locs := hw
    refine lv_if_ne (tgt := 22) S.1 S.2.1 dX9_walk_16 (by decide) (fun c_4 => ?_) (fun c_4 => ?_)
    · replace hf := (if_neg c_4).symm.trans hf
      refine lv_sipush (v := 255) S.1 S.2.1 dX9_walk_22 (by decide) ?_
      refine lv_istore_n (lv' := [(3, .int 255), (0, .ref o0), (1, .int x1), (2, .int x2)]) S.1 S.2.1 dX9_walk_25 rfl hl (by decide) rfl (fun ls hl => ?_)
      obtain ⟨u_14, e_u_14, hf⟩ := ob hf
      refine lp_X9_walk_26 S 2000 _ _ _ _ _ _ hw (lv_sub hl [1, 2, 3, 0] rfl) e_u_14 ?_
      · intro H locs ls hw hl
        refine lv_aload_n S.1 S.2.1 dX9_walk_88 rfl (lv_at hl 0 rfl) ?_
        refine lv_iconst (v := 1) S.1 S.2.1 dX9_walk_89 (by decide) ?_
        refine lv_iload_n S.1 S.2.1 dX9_walk_90 rfl (lv_at hl 1 rfl) ?_
        refine lv_ishl S.1 S.2.1 dX9_walk_91 ?_
        refine lv_iload_n S.1 S.2.1 dX9_walk_92 rfl (lv_at hl 1 rfl) ?_
        obtain ⟨u_15, e_u_15, hf⟩ := ob hf
        refine k_X9_leastGo S (S.2.2.2.2.wd wd1103 rfl) hw e_u_15 [0] rfl (by decide) rfl ⟨rfl, rfl, Nat.le_of_ble_eq_true rfl, Nat.le_of_ble_eq_true rfl⟩ hl.1 (Nat.le_of_ble_eq_true rfl) dX9_walk_93 ⟨Nat.zero_le _, Nat.zero_le _⟩ (fun H locs hw => ?_)
        have hw : PW D A s.heap [pX9 cy o0 q0 u_14] H locs := hw
        refine lv_istore_n (lv' := [(3, .int u_15), (0, .ref o0), (1, .int x1), (2, .int x2)]) S.1 S.2.1 dX9_walk_96 rfl hl (by decide) rfl (fun ls hl => ?_)
        refine lv_iload_n S.1 S.2.1 dX9_walk_97 rfl (lv_at hl 3 rfl) ?_
        refine lv_iconst (v := 1) S.1 S.2.1 dX9_walk_98 (by decide) ?_
        obtain ⟨v_16, e_v_16, hf⟩ := ob hf
        have hJ_v_16 : ∀ (H : Heap) (locs : List Loc), PW D A s.heap [pX9 cy o0 q0 u_14] H locs → W p l e rmX9_walk s m args below meth c H locs 0 0 Q (F0 m 115 ls [.int v_16]) := by
          intro H locs hw
          cases hf
          exact w_iret S hr hlk hA hQ hw dX9_walk_115
        replace hf := e_v_16
        clear e_v_16
        refine lv_icmp_ne (tgt := 106) S.1 S.2.1 dX9_walk_99 (by decide) (fun c_17 => ?_) (fun c_17 => ?_)
        · replace hf := (if_neg c_17).symm.trans hf
          refine lv_iload_n S.1 S.2.1 dX9_walk_106 rfl (lv_at hl 0 rfl) ?_
          refine lv_if_ge (tgt := 114) S.1 S.2.1 dX9_walk_107 (by decide) (fun c_18 => ?_) (fun c_18 => ?_)
          · replace hf := (if_pos c_18).symm.trans hf
            refine lv_iconst (v := 1) S.1 S.2.1 dX9_walk_114 (by decide) ?_
            cases hf
            exact hJ_v_16 _ _ hw
          · replace hf := (if_neg c_18).symm.trans hf
            refine lv_iconst (v := 0) S.1 S.2.1 dX9_walk_110 (by decide) ?_
            refine lv_goto (tgt := 115) S.1 S.2.1 dX9_walk_111 (by decide) ?_
            cases hf
            exact hJ_v_16 _ _ hw
        · replace hf := (if_pos c_17).symm.trans hf
          refine lv_iload_n S.1 S.2.1 dX9_walk_102 rfl (lv_at hl 0 rfl) ?_
          refine lv_goto (tgt := 115) S.1 S.2.1 dX9_walk_103 (by decide) ?_
          cases hf
          exact hJ_v_16 _ _ hw
    · replace hf := (if_pos c_4).symm.trans hf
      refine lv_bipush (v := (-2)) S.1 S.2.1 dX9_walk_19 (by decide) ?_
      cases hf
      exact w_iret S hr hlk hA hQ hw dX9_walk_21
  · replace hf := (if_pos c_2).symm.trans hf
    refine lv_iconst (v := (-1)) S.1 S.2.1 dX9_walk_7 (by decide) ?_
    cases hf
    exact w_iret S hr hlk hA hQ hw dX9_walk_8
section
variable {p : Program} {l : Launch} {e : Env} {R : Room} {s : State} {m : MethodId} {args : Array Value} {below : List Frame} {meth : Method} {c : Code} {H : Heap} {locs : List Loc} {cells slots : Nat} {Q : State → Prop} {cc : ByteArray} {pc nL : Nat} {ls : Array Slot} {rest : List Value} {D : va_G} {cy : Nat → ClassId} {A : Nat → Prop} {H0 : Heap} {own : String} {Ps : List va_W}
set_option maxRecDepth 100000 in
theorem k_X9_walk {o0 : Nat} {q0 : Nat → Nat} {x1 : Int32} {x2 : Int32} {σ0 : pStt} {u : Int32 × pStt} {index : Nat} (S : CX p m c cc nL s args own D cy) (hl : (Cond.methodLink own index yX9_walk).before args s = true) (hw : PW D A H0 Ps H locs) (hf : f_X9_walk x1 x2 σ0 = some u) (js : List Nat) (hC : js.map (fun j => Ps[j]?) = [some (pX9 cy o0 q0 σ0)]) (hnd : js.Nodup) (hlen : js.length = 1) (hR : RMok rmX9_walk R 5) (hsize : ls.size = nL) (hrest : (rest.map fun v => v.category).sum ≤ 8) (hdg : decode cc pc = .ok (.invokevirtual index, 3)) (hcs : cells ≤ R.cells ∧ slots ≤ R.slots)
    (kk : ∀ (H1 : Heap) (locs1 : List Loc), PW D A H0 (setAll Ps js [pX9 cy o0 q0 u.2]) H1 locs1 → W p l e R s m args below meth c H1 locs1 cells slots Q (F0 m (pc + 3) ls (.int u.1 :: rest))) : W p l e R s m args below meth c H locs cells slots Q (F0 m pc ls (.int x2 :: .int x1 :: .ref o0 :: rest)) :=
  w_callV (n := 2) (ov := (some (.int u.1))) (As := [.int x1, .int x2]) (Cs := [pX9 cy o0 q0 σ0]) (Cs' := [pX9 cy o0 q0 u.2]) S hw (c_X9_walk l D cy o0 q0 x1 x2 σ0 u hf) (MF.of S.2.2.2.2 wd1102 wd79 (by decide)) (S.2.2.2.2.wd wd1100 rfl) (S.2.2.2.2.wd wd1101 rfl) hl hR js hC hnd hlen rfl rfl rfl rfl hsize rfl hrest hdg hcs kk
end
abbrev rmX9_layNet : Room := { frames := 1, cells := 0, slots := 0, locals := 21 }
def fl_X9_layNet_5 (y1 : Int32) (y2 : Int32) (y3 : Int32)  : Nat → Int32 → pStt → Option (pStt)
  | 0, _, _ => none
  | n + 1, y4, σ0 => if 5 ≤ y4 then some σ0 else (stA σ0 18 5 y4 0).bind (fun σ_2 => fl_X9_layNet_5 y1 y2 y3 n ((y4 + 1)) σ_2)
def fl_X9_layNet_40 (y1 : Int32) (y2 : Int32) (y4 : Int32)  : Nat → Int32 → Int32 → pStt → Option (Int32 × pStt)
  | 0, _, _, _ => none
  | n + 1, y3, y5, σ0 => if y2 ≤ y5 then some (y3, σ0) else (ld (σ0.2 18) 5 y4).bind (fun x_6 => (f_X9_has y1 y3).bind (fun u_7 => (if u_7 = 0 then some 0 else some (((1 : Int32) <<< (y5 &&& 31))) : Option Int32).bind (fun v_8 => (stA σ0 18 5 y4 ((x_6 ||| v_8))).bind (fun σ_9 => (ld (σ_9.2 18) 5 y5).bind (fun x_10 => (f_X9_has y1 y3).bind (fun u_11 => (if u_11 = 0 then some 0 else some (((1 : Int32) <<< (y4 &&& 31))) : Option Int32).bind (fun v_12 => (stA σ_9 18 5 y5 ((x_10 ||| v_12))).bind (fun σ_13 => fl_X9_layNet_40 y1 y2 y4 n ((y3 + 1)) ((y5 + 1)) σ_13))))))))
def fl_X9_layNet_28 (y1 : Int32) (y2 : Int32)  : Nat → Int32 → Int32 → pStt → Option (pStt)
  | 0, _, _, _ => none
  | n + 1, y3, y4, σ0 => if y2 ≤ y4 then some σ0 else (fl_X9_layNet_40 y1 y2 y4 2000 y3 ((y4 + (1 : Int32))) σ0).bind (fun u_16 => fl_X9_layNet_28 y1 y2 n u_16.1 ((y4 + 1)) u_16.2)
def f_X9_layNet (x1 : Int32) (x2 : Int32) (σ0 : pStt) : Option (pStt) := (fl_X9_layNet_5 x1 x2 0 2000 0 σ0).bind (fun u_3 => (fl_X9_layNet_28 x1 x2 2000 0 0 u_3).bind (fun u_17 => some u_17))
section
variable {p : Program} {l : Launch} {e : Env} {s : State} {m : MethodId} {args : Array Value} {below : List Frame} {meth : Method} {c : Code} {Q : State → Prop} {D : va_G} {cy : Nat → ClassId} {A : Nat → Prop} {H0 : Heap}
set_option maxHeartbeats 4000000 in
set_option maxRecDepth 100000 in
theorem lp_X9_layNet_5 (S : CX p m c cX9_layNet 6 s args RX9 D cy) {o0 : Nat} {q0 : Nat → Nat}  {y1 : Int32} {y2 : Int32} {y3 : Int32} : ∀ (n : Nat) (y4 : Int32) (σ0 : pStt) (H : Heap) (locs : List Loc) (ls : Array Slot) (u : pStt), PW D A H0 [pX9 cy o0 q0 σ0] H locs → lv_has ls 6 [(0, .ref o0), (1, .int y1), (2, .int y2), (3, .int y3), (4, .int y4)] → fl_X9_layNet_5 y1 y2 y3 n y4 σ0 = some u → (∀ (H : Heap) (locs : List Loc) (ls : Array Slot), PW D A H0 [pX9 cy o0 q0 u] H locs → lv_has ls 6 [(0, .ref o0), (1, .int y1), (2, .int y2), (3, .int y3)] → W p l e rmX9_layNet s m args below meth c H locs 0 0 Q (F0 m 25 ls [])) → W p l e rmX9_layNet s m args below meth c H locs 0 0 Q (F0 m 5 ls []) := by
  intro n
  induction n with
  | zero =>
    intro y4 σ0 H locs ls u hw hl hf K0
    rw [fl_X9_layNet_5] at hf
    cases hf
  | succ n ih =>
    intro y4 σ0 H locs ls u hw hl hf K0
    rw [fl_X9_layNet_5] at hf
    refine lv_iload S.1 S.2.1 dX9_layNet_5 (lv_at hl 4 rfl) ?_
    refine lv_iconst (v := 5) S.1 S.2.1 dX9_layNet_7 (by decide) ?_
    refine lv_icmp_ge (tgt := 25) S.1 S.2.1 dX9_layNet_8 (by decide) (fun c_1 => ?_) (fun c_1 => ?_)
    · replace hf := (if_pos c_1).symm.trans hf
      cases hf
      exact K0 _ _ _ hw (lv_sub hl [0, 1, 2, 3] rfl)
    · replace hf := (if_neg c_1).symm.trans hf
      refine lv_aload_n S.1 S.2.1 dX9_layNet_11 rfl (lv_at hl 0 rfl) ?_
      refine gf_X9_65 S hw 0 rfl dX9_layNet_12 ?_
      refine lv_iload S.1 S.2.1 dX9_layNet_15 (lv_at hl 4 rfl) ?_
      refine lv_iconst (v := 0) S.1 S.2.1 dX9_layNet_17 (by decide) ?_
      obtain ⟨σ_2, e_σ_2, hf⟩ := ob hf
      refine as_X9_18 S hw 0 rfl e_σ_2 dX9_layNet_18 (fun H locs hw => ?_)
      have hw : PW D A H0 [pX9 cy o0 q0 σ_2] H locs := hw
      refine lv_iinc (v := (y4 + 1)) (lv' := [(4, .int ((y4 + 1))), (0, .ref o0), (1, .int y1), (2, .int y2), (3, .int y3)]) S.1 S.2.1 dX9_layNet_19 hl (k := 4) rfl rfl (by decide) rfl (fun ls hl => ?_)
      refine lv_goto (tgt := 5) S.1 S.2.1 dX9_layNet_22 (by decide) ?_
      exact ih _ _ _ _ _ _ hw (lv_sub hl [1, 2, 3, 4, 0] rfl) hf K0
set_option maxHeartbeats 4000000 in
set_option maxRecDepth 100000 in
theorem lp_X9_layNet_40 (S : CX p m c cX9_layNet 6 s args RX9 D cy) {o0 : Nat} {q0 : Nat → Nat}  {y1 : Int32} {y2 : Int32} {y4 : Int32} : ∀ (n : Nat) (y3 : Int32) (y5 : Int32) (σ0 : pStt) (H : Heap) (locs : List Loc) (ls : Array Slot) (u : Int32 × pStt), PW D A H0 [pX9 cy o0 q0 σ0] H locs → lv_has ls 6 [(0, .ref o0), (1, .int y1), (2, .int y2), (3, .int y3), (4, .int y4), (5, .int y5)] → fl_X9_layNet_40 y1 y2 y4 n y3 y5 σ0 = some u → (∀ (H : Heap) (locs : List Loc) (ls : Array Slot), PW D A H0 [pX9 cy o0 q0 u.2] H locs → lv_has ls 6 [(0, .ref o0), (1, .int y1), (2, .int y2), (3, .int u.1), (4, .int y4)] → W p l e rmX9_layNet s m args below meth c H locs 0 0 Q (F0 m 107 ls [])) → W p l e rmX9_layNet s m args below meth c H locs 0 0 Q (F0 m 40 ls []) := by
  intro n
  induction n with
  | zero =>
    intro y3 y5 σ0 H locs ls u hw hl hf K0
    rw [fl_X9_layNet_40] at hf
    cases hf
  | succ n ih =>
    intro y3 y5 σ0 H locs ls u hw hl hf K0
    rw [fl_X9_layNet_40] at hf
    refine lv_iload S.1 S.2.1 dX9_layNet_40 (lv_at hl 5 rfl) ?_
    refine lv_iload_n S.1 S.2.1 dX9_layNet_42 rfl (lv_at hl 2 rfl) ?_
    refine lv_icmp_ge (tgt := 107) S.1 S.2.1 dX9_layNet_43 (by decide) (fun c_5 => ?_) (fun c_5 => ?_)
    · replace hf := (if_pos c_5).symm.trans hf
      cases hf
      exact K0 _ _ _ hw (lv_sub hl [0, 1, 2, 3, 4] rfl)
    · replace hf := (if_neg c_5).symm.trans hf
      refine lv_aload_n S.1 S.2.1 dX9_layNet_46 rfl (lv_at hl 0 rfl) ?_
      refine gf_X9_65 S hw 0 rfl dX9_layNet_47 ?_
      refine lv_iload S.1 S.2.1 dX9_layNet_50 (lv_at hl 4 rfl) ?_
      refine lv_dup2_11 S.1 S.2.1 dX9_layNet_52 rfl rfl ?_
      obtain ⟨x_6, e_x_6, hf⟩ := ob hf
      refine al_X9_18 S hw 0 rfl e_x_6 dX9_layNet_53 ?_
      refine lv_iload_n S.1 S.2.1 dX9_layNet_54 rfl (lv_at hl 1 rfl) ?_
      refine lv_iload_n S.1 S.2.1 dX9_layNet_55 rfl (lv_at hl 3 rfl) ?_
      obtain ⟨u_7, e_u_7, hf⟩ := ob hf
      refine k_X9_has S (S.2.2.2.2.wd wd943 rfl) hw e_u_7 [] rfl (by decide) rfl ⟨rfl, rfl, Nat.le_of_ble_eq_true rfl, Nat.le_of_ble_eq_true rfl⟩ hl.1 (Nat.le_of_ble_eq_true rfl) dX9_layNet_56 ⟨Nat.zero_le _, Nat.zero_le _⟩ (fun H locs hw => ?_)
      have hw : PW D A H0 [pX9 cy o0 q0 σ0] H locs := hw
      obtain ⟨v_8, e_v_8, hf⟩ := ob hf
      have hJ_v_8 : ∀ (H : Heap) (locs : List Loc), PW D A H0 [pX9 cy o0 q0 σ0] H locs → W p l e rmX9_layNet s m args below meth c H locs 0 0 Q (F0 m 70 ls [.int v_8, .int x_6, .int y4, .ref ((q0 18))]) := by
        intro H locs hw
        refine lv_ior S.1 S.2.1 dX9_layNet_70 ?_
        obtain ⟨σ_9, e_σ_9, hf⟩ := ob hf
        refine as_X9_18 S hw 0 rfl e_σ_9 dX9_layNet_71 (fun H locs hw => ?_)
        have hw : PW D A H0 [pX9 cy o0 q0 σ_9] H locs := hw
        refine lv_aload_n S.1 S.2.1 dX9_layNet_72 rfl (lv_at hl 0 rfl) ?_
        refine gf_X9_65 S hw 0 rfl dX9_layNet_73 ?_
        refine lv_iload S.1 S.2.1 dX9_layNet_76 (lv_at hl 5 rfl) ?_
        refine lv_dup2_11 S.1 S.2.1 dX9_layNet_78 rfl rfl ?_
        obtain ⟨x_10, e_x_10, hf⟩ := ob hf
        refine al_X9_18 S hw 0 rfl e_x_10 dX9_layNet_79 ?_
        refine lv_iload_n S.1 S.2.1 dX9_layNet_80 rfl (lv_at hl 1 rfl) ?_
        refine lv_iload_n S.1 S.2.1 dX9_layNet_81 rfl (lv_at hl 3 rfl) ?_
        obtain ⟨u_11, e_u_11, hf⟩ := ob hf
        refine k_X9_has S (S.2.2.2.2.wd wd943 rfl) hw e_u_11 [] rfl (by decide) rfl ⟨rfl, rfl, Nat.le_of_ble_eq_true rfl, Nat.le_of_ble_eq_true rfl⟩ hl.1 (Nat.le_of_ble_eq_true rfl) dX9_layNet_82 ⟨Nat.zero_le _, Nat.zero_le _⟩ (fun H locs hw => ?_)
        have hw : PW D A H0 [pX9 cy o0 q0 σ_9] H locs := hw
        obtain ⟨v_12, e_v_12, hf⟩ := ob hf
        have hJ_v_12 : ∀ (H : Heap) (locs : List Loc), PW D A H0 [pX9 cy o0 q0 σ_9] H locs → W p l e rmX9_layNet s m args below meth c H locs 0 0 Q (F0 m 96 ls [.int v_12, .int x_10, .int y5, .ref ((q0 18))]) := by
          intro H locs hw
          refine lv_ior S.1 S.2.1 dX9_layNet_96 ?_
          obtain ⟨σ_13, e_σ_13, hf⟩ := ob hf
          refine as_X9_18 S hw 0 rfl e_σ_13 dX9_layNet_97 (fun H locs hw => ?_)
          have hw : PW D A H0 [pX9 cy o0 q0 σ_13] H locs := hw
          refine lv_iinc (v := (y3 + 1)) (lv' := [(3, .int ((y3 + 1))), (0, .ref o0), (1, .int y1), (2, .int y2), (4, .int y4), (5, .int y5)]) S.1 S.2.1 dX9_layNet_98 hl (k := 3) rfl rfl (by decide) rfl (fun ls hl => ?_)
          refine lv_iinc (v := (y5 + 1)) (lv' := [(5, .int ((y5 + 1))), (3, .int ((y3 + 1))), (0, .ref o0), (1, .int y1), (2, .int y2), (4, .int y4)]) S.1 S.2.1 dX9_layNet_101 hl (k := 5) rfl rfl (by decide) rfl (fun ls hl => ?_)
          refine lv_goto (tgt := 40) S.1 S.2.1 dX9_layNet_104 (by decide) ?_
          exact ih _ _ _ _ _ _ _ hw (lv_sub hl [2, 3, 4, 1, 5, 0] rfl) hf K0
        replace hf := e_v_12
        clear e_v_12
        refine lv_if_eq (tgt := 95) S.1 S.2.1 dX9_layNet_85 (by decide) (fun c_14 => ?_) (fun c_14 => ?_)
        · replace hf := (if_pos c_14).symm.trans hf
          refine lv_iconst (v := 0) S.1 S.2.1 dX9_layNet_95 (by decide) ?_
          cases hf
          exact hJ_v_12 _ _ hw
        · replace hf := (if_neg c_14).symm.trans hf
          refine lv_iconst (v := 1) S.1 S.2.1 dX9_layNet_88 (by decide) ?_
          refine lv_iload S.1 S.2.1 dX9_layNet_89 (lv_at hl 4 rfl) ?_
          refine lv_ishl S.1 S.2.1 dX9_layNet_91 ?_
          refine lv_goto (tgt := 96) S.1 S.2.1 dX9_layNet_92 (by decide) ?_
          cases hf
          exact hJ_v_12 _ _ hw
      replace hf := e_v_8
      clear e_v_8
      refine lv_if_eq (tgt := 69) S.1 S.2.1 dX9_layNet_59 (by decide) (fun c_15 => ?_) (fun c_15 => ?_)
      · replace hf := (if_pos c_15).symm.trans hf
        refine lv_iconst (v := 0) S.1 S.2.1 dX9_layNet_69 (by decide) ?_
        cases hf
        exact hJ_v_8 _ _ hw
      · replace hf := (if_neg c_15).symm.trans hf
        refine lv_iconst (v := 1) S.1 S.2.1 dX9_layNet_62 (by decide) ?_
        refine lv_iload S.1 S.2.1 dX9_layNet_63 (lv_at hl 5 rfl) ?_
        refine lv_ishl S.1 S.2.1 dX9_layNet_65 ?_
        refine lv_goto (tgt := 70) S.1 S.2.1 dX9_layNet_66 (by decide) ?_
        cases hf
        exact hJ_v_8 _ _ hw
set_option maxHeartbeats 4000000 in
set_option maxRecDepth 100000 in
theorem lp_X9_layNet_28 (S : CX p m c cX9_layNet 6 s args RX9 D cy) {o0 : Nat} {q0 : Nat → Nat}  {y1 : Int32} {y2 : Int32} : ∀ (n : Nat) (y3 : Int32) (y4 : Int32) (σ0 : pStt) (H : Heap) (locs : List Loc) (ls : Array Slot) (u : pStt), PW D A H0 [pX9 cy o0 q0 σ0] H locs → lv_has ls 6 [(0, .ref o0), (1, .int y1), (2, .int y2), (3, .int y3), (4, .int y4)] → fl_X9_layNet_28 y1 y2 n y3 y4 σ0 = some u → (∀ (H : Heap) (locs : List Loc) (ls : Array Slot), PW D A H0 [pX9 cy o0 q0 u] H locs → lv_has ls 6 [] → W p l e rmX9_layNet s m args below meth c H locs 0 0 Q (F0 m 113 ls [])) → W p l e rmX9_layNet s m args below meth c H locs 0 0 Q (F0 m 28 ls []) := by
  intro n
  induction n with
  | zero =>
    intro y3 y4 σ0 H locs ls u hw hl hf K0
    rw [fl_X9_layNet_28] at hf
    cases hf
  | succ n ih =>
    intro y3 y4 σ0 H locs ls u hw hl hf K0
    rw [fl_X9_layNet_28] at hf
    refine lv_iload S.1 S.2.1 dX9_layNet_28 (lv_at hl 4 rfl) ?_
    refine lv_iload_n S.1 S.2.1 dX9_layNet_30 rfl (lv_at hl 2 rfl) ?_
    refine lv_icmp_ge (tgt := 113) S.1 S.2.1 dX9_layNet_31 (by decide) (fun c_4 => ?_) (fun c_4 => ?_)
    · replace hf := (if_pos c_4).symm.trans hf
      cases hf
      exact K0 _ _ _ hw (lv_sub hl [] rfl)
    · replace hf := (if_neg c_4).symm.trans hf
      refine lv_iload S.1 S.2.1 dX9_layNet_34 (lv_at hl 4 rfl) ?_
      refine lv_iconst (v := 1) S.1 S.2.1 dX9_layNet_36 (by decide) ?_
      refine lv_iadd S.1 S.2.1 dX9_layNet_37 ?_
      refine lv_istore (lv' := [(5, .int ((y4 + (1 : Int32)))), (0, .ref o0), (1, .int y1), (2, .int y2), (3, .int y3), (4, .int y4)]) S.1 S.2.1 dX9_layNet_38 hl (by decide) rfl (fun ls hl => ?_)
      obtain ⟨u_16, e_u_16, hf⟩ := ob hf
      refine lp_X9_layNet_40 S 2000 _ _ _ _ _ _ _ hw (lv_sub hl [1, 2, 3, 4, 5, 0] rfl) e_u_16 ?_
      · intro H locs ls hw hl
        refine lv_iinc (v := (y4 + 1)) (lv' := [(4, .int ((y4 + 1))), (0, .ref o0), (1, .int y1), (2, .int y2), (3, .int u_16.1)]) S.1 S.2.1 dX9_layNet_107 hl (k := 4) rfl rfl (by decide) rfl (fun ls hl => ?_)
        refine lv_goto (tgt := 28) S.1 S.2.1 dX9_layNet_110 (by decide) ?_
        exact ih _ _ _ _ _ _ _ hw (lv_sub hl [1, 2, 3, 4, 0] rfl) hf K0
end
set_option maxHeartbeats 4000000 in
set_option maxRecDepth 100000 in
theorem c_X9_layNet (l : Launch) (D : va_G) (cy : Nat → ClassId) (o0 : Nat) (q0 : Nat → Nat) (x1 : Int32) (x2 : Int32) (σ0 : pStt) (u : pStt) (hf : f_X9_layNet x1 x2 σ0 = some u) : CT l yX9_layNet cX9_layNet 6 none rmX9_layNet D cy [.ref o0, .int x1, .int x2] [pX9 cy o0 q0 σ0] none [pX9 cy o0 q0 u] := by
  refine CT.of (by decide) (Nat.le_of_ble_eq_true rfl) (fun p e s m args below meth c ls A Q hA hQ S hr hlk hl hw => ?_)
  have hl : lv_has ls 6 [(0, .ref o0), (1, .int x1), (2, .int x2)] := hl
  rw [f_X9_layNet] at hf
  refine lv_iconst (v := 0) S.1 S.2.1 dX9_layNet_0 (by decide) ?_
  refine lv_istore_n (lv' := [(3, .int 0), (0, .ref o0), (1, .int x1), (2, .int x2)]) S.1 S.2.1 dX9_layNet_1 rfl hl (by decide) rfl (fun ls hl => ?_)
  refine lv_iconst (v := 0) S.1 S.2.1 dX9_layNet_2 (by decide) ?_
  refine lv_istore (lv' := [(4, .int 0), (3, .int 0), (0, .ref o0), (1, .int x1), (2, .int x2)]) S.1 S.2.1 dX9_layNet_3 hl (by decide) rfl (fun ls hl => ?_)
  obtain ⟨u_3, e_u_3, hf⟩ := ob hf
  refine lp_X9_layNet_5 S 2000 _ _ _ _ _ _ hw (lv_sub hl [2, 3, 4, 1, 0] rfl) e_u_3 ?_
  · intro H locs ls hw hl
    refine lv_iconst (v := 0) S.1 S.2.1 dX9_layNet_25 (by decide) ?_
    refine lv_istore (lv' := [(4, .int 0), (0, .ref o0), (1, .int x1), (2, .int x2), (3, .int 0)]) S.1 S.2.1 dX9_layNet_26 hl (by decide) rfl (fun ls hl => ?_)
    obtain ⟨u_17, e_u_17, hf⟩ := ob hf
    refine lp_X9_layNet_28 S 2000 _ _ _ _ _ _ _ hw (lv_sub hl [1, 2, 3, 4, 0] rfl) e_u_17 ?_
    · intro H locs ls hw hl
      cases hf
      exact w_vret S hr hlk hA hQ hw dX9_layNet_113
section
variable {p : Program} {l : Launch} {e : Env} {R : Room} {s : State} {m : MethodId} {args : Array Value} {below : List Frame} {meth : Method} {c : Code} {H : Heap} {locs : List Loc} {cells slots : Nat} {Q : State → Prop} {cc : ByteArray} {pc nL : Nat} {ls : Array Slot} {rest : List Value} {D : va_G} {cy : Nat → ClassId} {A : Nat → Prop} {H0 : Heap} {own : String} {Ps : List va_W}
set_option maxRecDepth 100000 in
theorem k_X9_layNet {o0 : Nat} {q0 : Nat → Nat} {x1 : Int32} {x2 : Int32} {σ0 : pStt} {u : pStt} {index : Nat} (S : CX p m c cc nL s args own D cy) (hl : (Cond.methodLink own index yX9_layNet).before args s = true) (hw : PW D A H0 Ps H locs) (hf : f_X9_layNet x1 x2 σ0 = some u) (js : List Nat) (hC : js.map (fun j => Ps[j]?) = [some (pX9 cy o0 q0 σ0)]) (hnd : js.Nodup) (hlen : js.length = 1) (hR : RMok rmX9_layNet R 6) (hsize : ls.size = nL) (hrest : (rest.map fun v => v.category).sum ≤ 8) (hdg : decode cc pc = .ok (.invokevirtual index, 3)) (hcs : cells ≤ R.cells ∧ slots ≤ R.slots)
    (kk : ∀ (H1 : Heap) (locs1 : List Loc), PW D A H0 (setAll Ps js [pX9 cy o0 q0 u]) H1 locs1 → W p l e R s m args below meth c H1 locs1 cells slots Q (F0 m (pc + 3) ls (rest))) : W p l e R s m args below meth c H locs cells slots Q (F0 m pc ls (.int x2 :: .int x1 :: .ref o0 :: rest)) :=
  w_callV (n := 2) (ov := none) (As := [.int x1, .int x2]) (Cs := [pX9 cy o0 q0 σ0]) (Cs' := [pX9 cy o0 q0 u]) S hw (c_X9_layNet l D cy o0 q0 x1 x2 σ0 u hf) (MF.of S.2.2.2.2 wd1119 wd79 (by decide)) (S.2.2.2.2.wd wd1118 rfl) (S.2.2.2.2.wd wd60 rfl) hl hR js hC hnd hlen rfl rfl rfl rfl hsize rfl hrest hdg hcs kk
end
abbrev rmX9_hangs : Room := { frames := 1, cells := 0, slots := 0, locals := 21 }
def fl_X9_hangs_12 (y1 : Int32) (y3 : Int32) (σ0 : pStt) : Nat → Int32 → Int32 → Option (Int32)
  | 0, _, _ => none
  | n + 1, y2, y4 => if y1 ≤ y4 then some y2 else (f_X9_has y2 y4).bind (fun u_3 => (if u_3 = 0 then some 0 else (ld (σ0.2 18) 5 y4).bind (fun x_6 => some x_6) : Option Int32).bind (fun v_4 => fl_X9_hangs_12 y1 y3 σ0 n ((y2 ||| v_4)) ((y4 + 1))))
def fl_X9_hangs_4 (y1 : Int32) (σ0 : pStt) : Nat → Int32 → Int32 → Option (Int32)
  | 0, _, _ => none
  | n + 1, y2, y3 => if y1 ≤ y3 then some y2 else (fl_X9_hangs_12 y1 y3 σ0 2000 y2 0).bind (fun u_7 => fl_X9_hangs_4 y1 σ0 n u_7 ((y3 + 1)))
def f_X9_hangs (x1 : Int32) (σ0 : pStt) : Option (Int32) := (fl_X9_hangs_4 x1 σ0 2000 1 0).bind (fun u_8 => (if u_8 = (((1 : Int32) <<< (x1 &&& 31)) - (1 : Int32)) then some 1 else some 0 : Option Int32).bind (fun v_9 => (asB v_9).bind (fun b_10 => some b_10)))
section
variable {p : Program} {l : Launch} {e : Env} {s : State} {m : MethodId} {args : Array Value} {below : List Frame} {meth : Method} {c : Code} {Q : State → Prop} {D : va_G} {cy : Nat → ClassId} {A : Nat → Prop} {H0 : Heap}
set_option maxHeartbeats 4000000 in
set_option maxRecDepth 100000 in
theorem lp_X9_hangs_12 (S : CX p m c cX9_hangs 5 s args RX9 D cy) {o0 : Nat} {q0 : Nat → Nat} {σ0 : pStt} {y1 : Int32} {y3 : Int32} : ∀ (n : Nat) (y2 : Int32) (y4 : Int32) (H : Heap) (locs : List Loc) (ls : Array Slot) (u : Int32), PW D A H0 [pX9 cy o0 q0 σ0] H locs → lv_has ls 5 [(0, .ref o0), (1, .int y1), (2, .int y2), (3, .int y3), (4, .int y4)] → fl_X9_hangs_12 y1 y3 σ0 n y2 y4 = some u → (∀ (H : Heap) (locs : List Loc) (ls : Array Slot), PW D A H0 [pX9 cy o0 q0 σ0] H locs → lv_has ls 5 [(0, .ref o0), (1, .int y1), (2, .int u), (3, .int y3)] → W p l e rmX9_hangs s m args below meth c H locs 0 0 Q (F0 m 47 ls [])) → W p l e rmX9_hangs s m args below meth c H locs 0 0 Q (F0 m 12 ls []) := by
  intro n
  induction n with
  | zero =>
    intro y2 y4 H locs ls u hw hl hf K0
    rw [fl_X9_hangs_12] at hf
    cases hf
  | succ n ih =>
    intro y2 y4 H locs ls u hw hl hf K0
    rw [fl_X9_hangs_12] at hf
    refine lv_iload S.1 S.2.1 dX9_hangs_12 (lv_at hl 4 rfl) ?_
    refine lv_iload_n S.1 S.2.1 dX9_hangs_14 rfl (lv_at hl 1 rfl) ?_
    refine lv_icmp_ge (tgt := 47) S.1 S.2.1 dX9_hangs_15 (by decide) (fun c_2 => ?_) (fun c_2 => ?_)
    · replace hf := (if_pos c_2).symm.trans hf
      cases hf
      exact K0 _ _ _ hw (lv_sub hl [0, 1, 2, 3] rfl)
    · replace hf := (if_neg c_2).symm.trans hf
      refine lv_iload_n S.1 S.2.1 dX9_hangs_18 rfl (lv_at hl 2 rfl) ?_
      refine lv_iload_n S.1 S.2.1 dX9_hangs_19 rfl (lv_at hl 2 rfl) ?_
      refine lv_iload S.1 S.2.1 dX9_hangs_20 (lv_at hl 4 rfl) ?_
      obtain ⟨u_3, e_u_3, hf⟩ := ob hf
      refine k_X9_has S (S.2.2.2.2.wd wd943 rfl) hw e_u_3 [] rfl (by decide) rfl ⟨rfl, rfl, Nat.le_of_ble_eq_true rfl, Nat.le_of_ble_eq_true rfl⟩ hl.1 (Nat.le_of_ble_eq_true rfl) dX9_hangs_22 ⟨Nat.zero_le _, Nat.zero_le _⟩ (fun H locs hw => ?_)
      have hw : PW D A H0 [pX9 cy o0 q0 σ0] H locs := hw
      obtain ⟨v_4, e_v_4, hf⟩ := ob hf
      have hJ_v_4 : ∀ (H : Heap) (locs : List Loc), PW D A H0 [pX9 cy o0 q0 σ0] H locs → W p l e rmX9_hangs s m args below meth c H locs 0 0 Q (F0 m 39 ls [.int v_4, .int y2]) := by
        intro H locs hw
        refine lv_ior S.1 S.2.1 dX9_hangs_39 ?_
        refine lv_istore_n (lv' := [(2, .int ((y2 ||| v_4))), (0, .ref o0), (1, .int y1), (3, .int y3), (4, .int y4)]) S.1 S.2.1 dX9_hangs_40 rfl hl (by decide) rfl (fun ls hl => ?_)
        refine lv_iinc (v := (y4 + 1)) (lv' := [(4, .int ((y4 + 1))), (2, .int ((y2 ||| v_4))), (0, .ref o0), (1, .int y1), (3, .int y3)]) S.1 S.2.1 dX9_hangs_41 hl (k := 4) rfl rfl (by decide) rfl (fun ls hl => ?_)
        refine lv_goto (tgt := 12) S.1 S.2.1 dX9_hangs_44 (by decide) ?_
        exact ih _ _ _ _ _ _ hw (lv_sub hl [2, 3, 1, 4, 0] rfl) hf K0
      replace hf := e_v_4
      clear e_v_4
      refine lv_if_eq (tgt := 38) S.1 S.2.1 dX9_hangs_25 (by decide) (fun c_5 => ?_) (fun c_5 => ?_)
      · replace hf := (if_pos c_5).symm.trans hf
        refine lv_iconst (v := 0) S.1 S.2.1 dX9_hangs_38 (by decide) ?_
        cases hf
        exact hJ_v_4 _ _ hw
      · replace hf := (if_neg c_5).symm.trans hf
        refine lv_aload_n S.1 S.2.1 dX9_hangs_28 rfl (lv_at hl 0 rfl) ?_
        refine gf_X9_65 S hw 0 rfl dX9_hangs_29 ?_
        refine lv_iload S.1 S.2.1 dX9_hangs_32 (lv_at hl 4 rfl) ?_
        obtain ⟨x_6, e_x_6, hf⟩ := ob hf
        refine al_X9_18 S hw 0 rfl e_x_6 dX9_hangs_34 ?_
        refine lv_goto (tgt := 39) S.1 S.2.1 dX9_hangs_35 (by decide) ?_
        cases hf
        exact hJ_v_4 _ _ hw
set_option maxHeartbeats 4000000 in
set_option maxRecDepth 100000 in
theorem lp_X9_hangs_4 (S : CX p m c cX9_hangs 5 s args RX9 D cy) {o0 : Nat} {q0 : Nat → Nat} {σ0 : pStt} {y1 : Int32} : ∀ (n : Nat) (y2 : Int32) (y3 : Int32) (H : Heap) (locs : List Loc) (ls : Array Slot) (u : Int32), PW D A H0 [pX9 cy o0 q0 σ0] H locs → lv_has ls 5 [(0, .ref o0), (1, .int y1), (2, .int y2), (3, .int y3)] → fl_X9_hangs_4 y1 σ0 n y2 y3 = some u → (∀ (H : Heap) (locs : List Loc) (ls : Array Slot), PW D A H0 [pX9 cy o0 q0 σ0] H locs → lv_has ls 5 [(1, .int y1), (2, .int u)] → W p l e rmX9_hangs s m args below meth c H locs 0 0 Q (F0 m 53 ls [])) → W p l e rmX9_hangs s m args below meth c H locs 0 0 Q (F0 m 4 ls []) := by
  intro n
  induction n with
  | zero =>
    intro y2 y3 H locs ls u hw hl hf K0
    rw [fl_X9_hangs_4] at hf
    cases hf
  | succ n ih =>
    intro y2 y3 H locs ls u hw hl hf K0
    rw [fl_X9_hangs_4] at hf
    refine lv_iload_n S.1 S.2.1 dX9_hangs_4 rfl (lv_at hl 3 rfl) ?_
    refine lv_iload_n S.1 S.2.1 dX9_hangs_5 rfl (lv_at hl 1 rfl) ?_
    refine lv_icmp_ge (tgt := 53) S.1 S.2.1 dX9_hangs_6 (by decide) (fun c_1 => ?_) (fun c_1 => ?_)
    · replace hf := (if_pos c_1).symm.trans hf
      cases hf
      exact K0 _ _ _ hw (lv_sub hl [1, 2] rfl)
    · replace hf := (if_neg c_1).symm.trans hf
      refine lv_iconst (v := 0) S.1 S.2.1 dX9_hangs_9 (by decide) ?_
      refine lv_istore (lv' := [(4, .int 0), (0, .ref o0), (1, .int y1), (2, .int y2), (3, .int y3)]) S.1 S.2.1 dX9_hangs_10 hl (by decide) rfl (fun ls hl => ?_)
      obtain ⟨u_7, e_u_7, hf⟩ := ob hf
      refine lp_X9_hangs_12 S 2000 _ _ _ _ _ _ hw (lv_sub hl [1, 2, 3, 4, 0] rfl) e_u_7 ?_
      · intro H locs ls hw hl
        refine lv_iinc (v := (y3 + 1)) (lv' := [(3, .int ((y3 + 1))), (0, .ref o0), (1, .int y1), (2, .int u_7)]) S.1 S.2.1 dX9_hangs_47 hl (k := 3) rfl rfl (by decide) rfl (fun ls hl => ?_)
        refine lv_goto (tgt := 4) S.1 S.2.1 dX9_hangs_50 (by decide) ?_
        exact ih _ _ _ _ _ _ hw (lv_sub hl [1, 2, 3, 0] rfl) hf K0
end
set_option maxHeartbeats 4000000 in
set_option maxRecDepth 100000 in
theorem c_X9_hangs (l : Launch) (D : va_G) (cy : Nat → ClassId) (o0 : Nat) (q0 : Nat → Nat) (x1 : Int32) (σ0 : pStt) (u : Int32) (hf : f_X9_hangs x1 σ0 = some u) : CT l yX9_hangs cX9_hangs 5 (some .boolean) rmX9_hangs D cy [.ref o0, .int x1] [pX9 cy o0 q0 σ0] (some (.int u)) [pX9 cy o0 q0 σ0] := by
  refine CT.of (by decide) (Nat.le_of_ble_eq_true rfl) (fun p e s m args below meth c ls A Q hA hQ S hr hlk hl hw => ?_)
  have hl : lv_has ls 5 [(0, .ref o0), (1, .int x1)] := hl
  rw [f_X9_hangs] at hf
  refine lv_iconst (v := 1) S.1 S.2.1 dX9_hangs_0 (by decide) ?_
  refine lv_istore_n (lv' := [(2, .int 1), (0, .ref o0), (1, .int x1)]) S.1 S.2.1 dX9_hangs_1 rfl hl (by decide) rfl (fun ls hl => ?_)
  refine lv_iconst (v := 0) S.1 S.2.1 dX9_hangs_2 (by decide) ?_
  refine lv_istore_n (lv' := [(3, .int 0), (2, .int 1), (0, .ref o0), (1, .int x1)]) S.1 S.2.1 dX9_hangs_3 rfl hl (by decide) rfl (fun ls hl => ?_)
  obtain ⟨u_8, e_u_8, hf⟩ := ob hf
  refine lp_X9_hangs_4 S 2000 _ _ _ _ _ _ hw (lv_sub hl [2, 3, 1, 0] rfl) e_u_8 ?_
  · intro H locs ls hw hl
    refine lv_iload_n S.1 S.2.1 dX9_hangs_53 rfl (lv_at hl 1 rfl) ?_
    refine lv_iconst (v := 1) S.1 S.2.1 dX9_hangs_54 (by decide) ?_
    refine lv_iload_n S.1 S.2.1 dX9_hangs_55 rfl (lv_at hl 0 rfl) ?_
    refine lv_ishl S.1 S.2.1 dX9_hangs_56 ?_
    refine lv_iconst (v := 1) S.1 S.2.1 dX9_hangs_57 (by decide) ?_
    refine lv_isub S.1 S.2.1 dX9_hangs_58 ?_
    obtain ⟨v_9, e_v_9, hf⟩ := ob hf
    have hJ_v_9 : ∀ (H : Heap) (locs : List Loc), PW D A s.heap [pX9 cy o0 q0 σ0] H locs → W p l e rmX9_hangs s m args below meth c H locs 0 0 Q (F0 m 67 ls [.int v_9]) := by
      intro H locs hw
      obtain ⟨b_10, e_b_10, hf⟩ := ob hf
      obtain ⟨-, -, h_b_10⟩ := asB_inv e_b_10
      subst h_b_10
      cases hf
      exact w_zret S hr (asB_inv e_b_10).1 hlk hA hQ hw dX9_hangs_67
    replace hf := e_v_9
    clear e_v_9
    refine lv_icmp_ne (tgt := 66) S.1 S.2.1 dX9_hangs_59 (by decide) (fun c_11 => ?_) (fun c_11 => ?_)
    · replace hf := (if_neg c_11).symm.trans hf
      refine lv_iconst (v := 0) S.1 S.2.1 dX9_hangs_66 (by decide) ?_
      cases hf
      exact hJ_v_9 _ _ hw
    · replace hf := (if_pos c_11).symm.trans hf
      refine lv_iconst (v := 1) S.1 S.2.1 dX9_hangs_62 (by decide) ?_
      refine lv_goto (tgt := 67) S.1 S.2.1 dX9_hangs_63 (by decide) ?_
      cases hf
      exact hJ_v_9 _ _ hw
section
variable {p : Program} {l : Launch} {e : Env} {R : Room} {s : State} {m : MethodId} {args : Array Value} {below : List Frame} {meth : Method} {c : Code} {H : Heap} {locs : List Loc} {cells slots : Nat} {Q : State → Prop} {cc : ByteArray} {pc nL : Nat} {ls : Array Slot} {rest : List Value} {D : va_G} {cy : Nat → ClassId} {A : Nat → Prop} {H0 : Heap} {own : String} {Ps : List va_W}
set_option maxRecDepth 100000 in
theorem k_X9_hangs {o0 : Nat} {q0 : Nat → Nat} {x1 : Int32} {σ0 : pStt} {u : Int32} {index : Nat} (S : CX p m c cc nL s args own D cy) (hl : (Cond.methodLink own index yX9_hangs).before args s = true) (hw : PW D A H0 Ps H locs) (hf : f_X9_hangs x1 σ0 = some u) (js : List Nat) (hC : js.map (fun j => Ps[j]?) = [some (pX9 cy o0 q0 σ0)]) (hnd : js.Nodup) (hlen : js.length = 1) (hR : RMok rmX9_hangs R 5) (hsize : ls.size = nL) (hrest : (rest.map fun v => v.category).sum ≤ 8) (hdg : decode cc pc = .ok (.invokevirtual index, 3)) (hcs : cells ≤ R.cells ∧ slots ≤ R.slots)
    (kk : ∀ (H1 : Heap) (locs1 : List Loc), PW D A H0 (setAll Ps js [pX9 cy o0 q0 σ0]) H1 locs1 → W p l e R s m args below meth c H1 locs1 cells slots Q (F0 m (pc + 3) ls (.int u :: rest))) : W p l e R s m args below meth c H locs cells slots Q (F0 m pc ls (.int x1 :: .ref o0 :: rest)) :=
  w_callV (n := 1) (ov := (some (.int u))) (As := [.int x1]) (Cs := [pX9 cy o0 q0 σ0]) (Cs' := [pX9 cy o0 q0 σ0]) S hw (c_X9_hangs l D cy o0 q0 x1 σ0 u hf) (MF.of S.2.2.2.2 wd1123 wd79 (by decide)) (S.2.2.2.2.wd wd1122 rfl) (S.2.2.2.2.wd wd61 rfl) hl hR js hC hnd hlen rfl rfl rfl rfl hsize rfl hrest hdg hcs kk
end
abbrev rmX9_power : Room := { frames := 0, cells := 0, slots := 0, locals := 0 }
def fl_X9_power_5 (y0 : Int64) (y2 : Int32)  : Nat → Int64 → Int32 → Option (Int64)
  | 0, _, _ => none
  | n + 1, y3, y5 => if y2 ≤ y5 then some y3 else fl_X9_power_5 y0 y2 n ((y3 * y0)) ((y5 + 1))
def f_X9_power (x1 : Int64) (x2 : Int32) : Option (Int64) := (fl_X9_power_5 x1 x2 2000 1 0).bind (fun u_2 => some u_2)
section
variable {p : Program} {l : Launch} {e : Env} {s : State} {m : MethodId} {args : Array Value} {below : List Frame} {meth : Method} {c : Code} {Q : State → Prop} {D : va_G} {cy : Nat → ClassId} {A : Nat → Prop} {H0 : Heap}
set_option maxHeartbeats 4000000 in
set_option maxRecDepth 100000 in
theorem lp_X9_power_5 (S : CX p m c cX9_power 6 s args RX9 D cy)   {y0 : Int64} {y2 : Int32} : ∀ (n : Nat) (y3 : Int64) (y5 : Int32) (H : Heap) (locs : List Loc) (ls : Array Slot) (u : Int64), PW D A H0 [] H locs → lv_has ls 6 [(0, .long y0), (2, .int y2), (3, .long y3), (5, .int y5)] → fl_X9_power_5 y0 y2 n y3 y5 = some u → (∀ (H : Heap) (locs : List Loc) (ls : Array Slot), PW D A H0 [] H locs → lv_has ls 6 [(3, .long u)] → W p l e rmX9_power s m args below meth c H locs 0 0 Q (F0 m 21 ls [])) → W p l e rmX9_power s m args below meth c H locs 0 0 Q (F0 m 5 ls []) := by
  intro n
  induction n with
  | zero =>
    intro y3 y5 H locs ls u hw hl hf K0
    rw [fl_X9_power_5] at hf
    cases hf
  | succ n ih =>
    intro y3 y5 H locs ls u hw hl hf K0
    rw [fl_X9_power_5] at hf
    refine lv_iload S.1 S.2.1 dX9_power_5 (lv_at hl 3 rfl) ?_
    refine lv_iload_n S.1 S.2.1 dX9_power_7 rfl (lv_at hl 1 rfl) ?_
    refine lv_icmp_ge (tgt := 21) S.1 S.2.1 dX9_power_8 (by decide) (fun c_1 => ?_) (fun c_1 => ?_)
    · replace hf := (if_pos c_1).symm.trans hf
      cases hf
      exact K0 _ _ _ hw (lv_sub hl [2] rfl)
    · replace hf := (if_neg c_1).symm.trans hf
      refine lv_lload_n S.1 S.2.1 dX9_power_11 rfl (lv_at hl 2 rfl) ?_
      refine lv_lload_n S.1 S.2.1 dX9_power_12 rfl (lv_at hl 0 rfl) ?_
      refine lv_lmul S.1 S.2.1 dX9_power_13 ?_
      refine lv_lstore_n (lv' := [(3, .long ((y3 * y0))), (0, .long y0), (2, .int y2), (5, .int y5)]) S.1 S.2.1 dX9_power_14 rfl hl (by decide) rfl (fun ls hl => ?_)
      refine lv_iinc (v := (y5 + 1)) (lv' := [(5, .int ((y5 + 1))), (3, .long ((y3 * y0))), (0, .long y0), (2, .int y2)]) S.1 S.2.1 dX9_power_15 hl (k := 3) rfl rfl (by decide) rfl (fun ls hl => ?_)
      refine lv_goto (tgt := 5) S.1 S.2.1 dX9_power_18 (by decide) ?_
      exact ih _ _ _ _ _ _ hw (lv_sub hl [2, 3, 1, 0] rfl) hf K0
end
set_option maxHeartbeats 4000000 in
set_option maxRecDepth 100000 in
theorem c_X9_power (l : Launch) (D : va_G) (cy : Nat → ClassId)  (x1 : Int64) (x2 : Int32) (u : Int64) (hf : f_X9_power x1 x2 = some u) : CT l yX9_power cX9_power 6 (some .long) rmX9_power D cy [.long x1, .int x2] [] (some (.long u)) [] := by
  refine CT.of (by decide) (Nat.le_of_ble_eq_true rfl) (fun p e s m args below meth c ls A Q hA hQ S hr hlk hl hw => ?_)
  have hl : lv_has ls 6 [(0, .long x1), (2, .int x2)] := hl
  rw [f_X9_power] at hf
  refine lv_lconst (v := 1) S.1 S.2.1 dX9_power_0 (by decide) ?_
  refine lv_lstore_n (lv' := [(3, .long 1), (0, .long x1), (2, .int x2)]) S.1 S.2.1 dX9_power_1 rfl hl (by decide) rfl (fun ls hl => ?_)
  refine lv_iconst (v := 0) S.1 S.2.1 dX9_power_2 (by decide) ?_
  refine lv_istore (lv' := [(5, .int 0), (3, .long 1), (0, .long x1), (2, .int x2)]) S.1 S.2.1 dX9_power_3 hl (by decide) rfl (fun ls hl => ?_)
  obtain ⟨u_2, e_u_2, hf⟩ := ob hf
  refine lp_X9_power_5 S 2000 _ _ _ _ _ _ hw (lv_sub hl [2, 3, 1, 0] rfl) e_u_2 ?_
  · intro H locs ls hw hl
    refine lv_lload_n S.1 S.2.1 dX9_power_21 rfl (lv_at hl 0 rfl) ?_
    cases hf
    exact w_lret S hr hlk hA hQ hw dX9_power_22
section
variable {p : Program} {l : Launch} {e : Env} {R : Room} {s : State} {m : MethodId} {args : Array Value} {below : List Frame} {meth : Method} {c : Code} {H : Heap} {locs : List Loc} {cells slots : Nat} {Q : State → Prop} {cc : ByteArray} {pc nL : Nat} {ls : Array Slot} {rest : List Value} {D : va_G} {cy : Nat → ClassId} {A : Nat → Prop} {H0 : Heap} {own : String} {Ps : List va_W}
set_option maxRecDepth 100000 in
theorem k_X9_power  {x1 : Int64} {x2 : Int32}  {u : Int64} {index : Nat} (S : CX p m c cc nL s args own D cy) (hl : (Cond.methodLink own index yX9_power).before args s = true) (hw : PW D A H0 Ps H locs) (hf : f_X9_power x1 x2 = some u) (js : List Nat) (hC : js.map (fun j => Ps[j]?) = []) (hnd : js.Nodup) (hlen : js.length = 0) (hR : RMok rmX9_power R 6) (hsize : ls.size = nL) (hrest : (rest.map fun v => v.category).sum ≤ 8) (hdg : decode cc pc = .ok (.invokestatic index, 3)) (hcs : cells ≤ R.cells ∧ slots ≤ R.slots)
    (kk : ∀ (H1 : Heap) (locs1 : List Loc), PW D A H0 (setAll Ps js []) H1 locs1 → W p l e R s m args below meth c H1 locs1 cells slots Q (F0 m (pc + 3) ls (.long u :: rest))) : W p l e R s m args below meth c H locs cells slots Q (F0 m pc ls (.int x2 :: .long x1 :: rest)) :=
  w_callS (n := 2) (ov := (some (.long u))) (As := [.long x1, .int x2]) (Cs := []) (Cs' := []) S hw (c_X9_power l D cy  x1 x2 u hf) (MF.of S.2.2.2.2 wd1126 wd79 (by decide)) (S.2.2.2.2.wd wd1125 rfl) hl hR js hC hnd hlen rfl hsize rfl hrest hdg hcs kk
end
abbrev rmX9_lowest : Room := { frames := 0, cells := 0, slots := 0, locals := 0 }
def fl_X9_lowest_6 (y0 : Int64) (y2 : Int64) (y4 : Int32)  : Nat → Int64 → Int64 → Option (Int64)
  | 0, _, _ => none
  | n + 1, y5, y7 => if (lg_cmp y7 0) = 0 then some y5 else (nzL y7).bind (fun z_2 => fl_X9_lowest_6 y0 y2 y4 n y7 ((y5 - y5 / y7 * y7)))
def f_X9_lowest (x1 : Int64) (x2 : Int64) (x3 : Int32) : Option (Int64) := (fl_X9_lowest_6 x1 x2 x3 2000 x2 x1).bind (fun u_3 => (if x3 = 0 then (nzL u_3).bind (fun z_7 => some ((x1 / u_3))) else (nzL u_3).bind (fun z_6 => some ((x2 / u_3))) : Option Int64).bind (fun v_4 => some v_4))
section
variable {p : Program} {l : Launch} {e : Env} {s : State} {m : MethodId} {args : Array Value} {below : List Frame} {meth : Method} {c : Code} {Q : State → Prop} {D : va_G} {cy : Nat → ClassId} {A : Nat → Prop} {H0 : Heap}
set_option maxHeartbeats 4000000 in
set_option maxRecDepth 100000 in
theorem lp_X9_lowest_6 (S : CX p m c cX9_lowest 11 s args RX9 D cy)   {y0 : Int64} {y2 : Int64} {y4 : Int32} : ∀ (n : Nat) (y5 : Int64) (y7 : Int64) (H : Heap) (locs : List Loc) (ls : Array Slot) (u : Int64), PW D A H0 [] H locs → lv_has ls 11 [(0, .long y0), (2, .long y2), (4, .int y4), (5, .long y5), (7, .long y7)] → fl_X9_lowest_6 y0 y2 y4 n y5 y7 = some u → (∀ (H : Heap) (locs : List Loc) (ls : Array Slot), PW D A H0 [] H locs → lv_has ls 11 [(0, .long y0), (2, .long y2), (4, .int y4), (5, .long u)] → W p l e rmX9_lowest s m args below meth c H locs 0 0 Q (F0 m 31 ls [])) → W p l e rmX9_lowest s m args below meth c H locs 0 0 Q (F0 m 6 ls []) := by
  intro n
  induction n with
  | zero =>
    intro y5 y7 H locs ls u hw hl hf K0
    rw [fl_X9_lowest_6] at hf
    cases hf
  | succ n ih =>
    intro y5 y7 H locs ls u hw hl hf K0
    rw [fl_X9_lowest_6] at hf
    refine lv_lload S.1 S.2.1 dX9_lowest_6 (lv_at hl 4 rfl) ?_
    refine lv_lconst (v := 0) S.1 S.2.1 dX9_lowest_8 (by decide) ?_
    refine W.lcmp S.1 S.2.1 dX9_lowest_9 ?_
    refine lv_if_eq (tgt := 31) S.1 S.2.1 dX9_lowest_10 (by decide) (fun c_1 => ?_) (fun c_1 => ?_)
    · replace hf := (if_pos c_1).symm.trans hf
      cases hf
      exact K0 _ _ _ hw (lv_sub hl [0, 1, 2, 3] rfl)
    · replace hf := (if_neg c_1).symm.trans hf
      refine lv_lload S.1 S.2.1 dX9_lowest_13 (lv_at hl 3 rfl) ?_
      refine lv_lload S.1 S.2.1 dX9_lowest_15 (lv_at hl 4 rfl) ?_
      obtain ⟨z_2, e_z_2, hf⟩ := ob hf
      refine lv_lrem S.1 S.2.1 dX9_lowest_17 (nzL_inv e_z_2) ?_
      refine lv_lstore (lv' := [(9, .long ((y5 - y5 / y7 * y7))), (0, .long y0), (2, .long y2), (4, .int y4), (5, .long y5), (7, .long y7)]) S.1 S.2.1 dX9_lowest_18 hl (by decide) rfl (fun ls hl => ?_)
      refine lv_lload S.1 S.2.1 dX9_lowest_20 (lv_at hl 5 rfl) ?_
      refine lv_lstore (lv' := [(5, .long y7), (9, .long ((y5 - y5 / y7 * y7))), (0, .long y0), (2, .long y2), (4, .int y4), (7, .long y7)]) S.1 S.2.1 dX9_lowest_22 hl (by decide) rfl (fun ls hl => ?_)
      refine lv_lload S.1 S.2.1 dX9_lowest_24 (lv_at hl 1 rfl) ?_
      refine lv_lstore (lv' := [(7, .long ((y5 - y5 / y7 * y7))), (5, .long y7), (9, .long ((y5 - y5 / y7 * y7))), (0, .long y0), (2, .long y2), (4, .int y4)]) S.1 S.2.1 dX9_lowest_26 hl (by decide) rfl (fun ls hl => ?_)
      refine lv_goto (tgt := 6) S.1 S.2.1 dX9_lowest_28 (by decide) ?_
      exact ih _ _ _ _ _ _ hw (lv_sub hl [3, 4, 5, 1, 0] rfl) hf K0
end
set_option maxHeartbeats 4000000 in
set_option maxRecDepth 100000 in
theorem c_X9_lowest (l : Launch) (D : va_G) (cy : Nat → ClassId)  (x1 : Int64) (x2 : Int64) (x3 : Int32) (u : Int64) (hf : f_X9_lowest x1 x2 x3 = some u) : CT l yX9_lowest cX9_lowest 11 (some .long) rmX9_lowest D cy [.long x1, .long x2, .int x3] [] (some (.long u)) [] := by
  refine CT.of (by decide) (Nat.le_of_ble_eq_true rfl) (fun p e s m args below meth c ls A Q hA hQ S hr hlk hl hw => ?_)
  have hl : lv_has ls 11 [(0, .long x1), (2, .long x2), (4, .int x3)] := hl
  rw [f_X9_lowest] at hf
  refine lv_lload_n S.1 S.2.1 dX9_lowest_0 rfl (lv_at hl 1 rfl) ?_
  refine lv_lstore (lv' := [(5, .long x2), (0, .long x1), (2, .long x2), (4, .int x3)]) S.1 S.2.1 dX9_lowest_1 hl (by decide) rfl (fun ls hl => ?_)
  refine lv_lload_n S.1 S.2.1 dX9_lowest_3 rfl (lv_at hl 1 rfl) ?_
  refine lv_lstore (lv' := [(7, .long x1), (5, .long x2), (0, .long x1), (2, .long x2), (4, .int x3)]) S.1 S.2.1 dX9_lowest_4 hl (by decide) rfl (fun ls hl => ?_)
  obtain ⟨u_3, e_u_3, hf⟩ := ob hf
  refine lp_X9_lowest_6 S 2000 _ _ _ _ _ _ hw (lv_sub hl [2, 3, 4, 1, 0] rfl) e_u_3 ?_
  · intro H locs ls hw hl
    refine lv_iload S.1 S.2.1 dX9_lowest_31 (lv_at hl 2 rfl) ?_
    obtain ⟨v_4, e_v_4, hf⟩ := ob hf
    have hJ_v_4 : ∀ (H : Heap) (locs : List Loc), PW D A s.heap [] H locs → W p l e rmX9_lowest s m args below meth c H locs 0 0 Q (F0 m 47 ls [.long v_4]) := by
      intro H locs hw
      cases hf
      exact w_lret S hr hlk hA hQ hw dX9_lowest_47
    replace hf := e_v_4
    clear e_v_4
    refine lv_if_ne (tgt := 43) S.1 S.2.1 dX9_lowest_33 (by decide) (fun c_5 => ?_) (fun c_5 => ?_)
    · replace hf := (if_neg c_5).symm.trans hf
      refine lv_lload_n S.1 S.2.1 dX9_lowest_43 rfl (lv_at hl 1 rfl) ?_
      refine lv_lload S.1 S.2.1 dX9_lowest_44 (lv_at hl 3 rfl) ?_
      obtain ⟨z_6, e_z_6, hf⟩ := ob hf
      refine lv_ldiv S.1 S.2.1 dX9_lowest_46 (nzL_inv e_z_6) ?_
      cases hf
      exact hJ_v_4 _ _ hw
    · replace hf := (if_pos c_5).symm.trans hf
      refine lv_lload_n S.1 S.2.1 dX9_lowest_36 rfl (lv_at hl 0 rfl) ?_
      refine lv_lload S.1 S.2.1 dX9_lowest_37 (lv_at hl 3 rfl) ?_
      obtain ⟨z_7, e_z_7, hf⟩ := ob hf
      refine lv_ldiv S.1 S.2.1 dX9_lowest_39 (nzL_inv e_z_7) ?_
      refine lv_goto (tgt := 47) S.1 S.2.1 dX9_lowest_40 (by decide) ?_
      cases hf
      exact hJ_v_4 _ _ hw
section
variable {p : Program} {l : Launch} {e : Env} {R : Room} {s : State} {m : MethodId} {args : Array Value} {below : List Frame} {meth : Method} {c : Code} {H : Heap} {locs : List Loc} {cells slots : Nat} {Q : State → Prop} {cc : ByteArray} {pc nL : Nat} {ls : Array Slot} {rest : List Value} {D : va_G} {cy : Nat → ClassId} {A : Nat → Prop} {H0 : Heap} {own : String} {Ps : List va_W}
set_option maxRecDepth 100000 in
theorem k_X9_lowest  {x1 : Int64} {x2 : Int64} {x3 : Int32}  {u : Int64} {index : Nat} (S : CX p m c cc nL s args own D cy) (hl : (Cond.methodLink own index yX9_lowest).before args s = true) (hw : PW D A H0 Ps H locs) (hf : f_X9_lowest x1 x2 x3 = some u) (js : List Nat) (hC : js.map (fun j => Ps[j]?) = []) (hnd : js.Nodup) (hlen : js.length = 0) (hR : RMok rmX9_lowest R 11) (hsize : ls.size = nL) (hrest : (rest.map fun v => v.category).sum ≤ 8) (hdg : decode cc pc = .ok (.invokestatic index, 3)) (hcs : cells ≤ R.cells ∧ slots ≤ R.slots)
    (kk : ∀ (H1 : Heap) (locs1 : List Loc), PW D A H0 (setAll Ps js []) H1 locs1 → W p l e R s m args below meth c H1 locs1 cells slots Q (F0 m (pc + 3) ls (.long u :: rest))) : W p l e R s m args below meth c H locs cells slots Q (F0 m pc ls (.int x3 :: .long x2 :: .long x1 :: rest)) :=
  w_callS (n := 3) (ov := (some (.long u))) (As := [.long x1, .long x2, .int x3]) (Cs := []) (Cs' := []) S hw (c_X9_lowest l D cy  x1 x2 x3 u hf) (MF.of S.2.2.2.2 wd1115 wd79 (by decide)) (S.2.2.2.2.wd wd1114 rfl) hl hR js hC hnd hlen rfl hsize rfl hrest hdg hcs kk
end
abbrev rmX9_hang : Room := { frames := 2, cells := 0, slots := 0, locals := 46 }
def fl_X9_hang_84 (y1 : Int32) (y2 : Int32) (y4 : Int32) (y5 : Int32)  : Nat → Int64 → Int32 → pStt → Option (Int64 × pStt)
  | 0, _, _, _ => none
  | n + 1, y6, y8, σ0 => if ((1 : Int32) <<< (y5 &&& 31)) ≤ y8 then some (y6, σ0) else (f_X9_layNet y8 y1 σ0).bind (fun u_11 => (f_X9_hangs y1 u_11).bind (fun u_12 => (if u_12 = 0 then some 0 else (f_X9_ones y8).bind (fun u_15 => (f_X9_power ((y2 : Int32).toInt64) u_15).bind (fun u_16 => (f_X9_ones y8).bind (fun u_17 => (f_X9_power (((10 : Int64) - (y2 : Int32).toInt64)) ((y5 - u_17))).bind (fun u_18 => some ((u_16 * u_18)))))) : Option Int64).bind (fun v_13 => fl_X9_hang_84 y1 y2 y4 y5 n ((y6 + v_13)) ((y8 + 1)) u_11)))
def f_X9_hang (x1 : Int32) (x2 : Int32) (x3 : Int32) (x4 : Int32) (σ0 : pStt) : Option (Int64 × pStt) := (f_X9_in ((x1 : Int32).toInt64) 1 5).bind (fun u_1 => if u_1 = 0 then some ((-1000000000000000002), σ0) else (f_X9_in ((x2 : Int32).toInt64) 0 10).bind (fun u_3 => if u_3 = 0 then some ((-1000000000000000002), σ0) else (f_X9_in ((x3 : Int32).toInt64) 0 1).bind (fun u_5 => if u_5 = 0 then some ((-1000000000000000002), σ0) else (f_X9_in ((x4 : Int32).toInt64) 0 1).bind (fun u_7 => if u_7 = 0 then some ((-1000000000000000002), σ0) else if x3 = 1 then (f_X9_lowest (((((x1 * (x1 - (1 : Int32))) / 2) : Int32).toInt64 * (x2 : Int32).toInt64)) 10 x4).bind (fun u_22 => some (u_22, σ0)) else (fl_X9_hang_84 x1 x2 x4 (((x1 * (x1 - (1 : Int32))) / 2)) 2000 0 0 σ0).bind (fun u_19 => (f_X9_power 10 (((x1 * (x1 - (1 : Int32))) / 2))).bind (fun u_20 => (f_X9_lowest u_19.1 u_20 x4).bind (fun u_21 => some (u_21, u_19.2))))))))
section
variable {p : Program} {l : Launch} {e : Env} {s : State} {m : MethodId} {args : Array Value} {below : List Frame} {meth : Method} {c : Code} {Q : State → Prop} {D : va_G} {cy : Nat → ClassId} {A : Nat → Prop} {H0 : Heap}
set_option maxHeartbeats 4000000 in
set_option maxRecDepth 100000 in
theorem lp_X9_hang_84 (S : CX p m c cX9_hang 9 s args RX9 D cy) {o0 : Nat} {q0 : Nat → Nat}  {y1 : Int32} {y2 : Int32} {y4 : Int32} {y5 : Int32} : ∀ (n : Nat) (y6 : Int64) (y8 : Int32) (σ0 : pStt) (H : Heap) (locs : List Loc) (ls : Array Slot) (u : Int64 × pStt), PW D A H0 [pX9 cy o0 q0 σ0] H locs → lv_has ls 9 [(0, .ref o0), (1, .int y1), (2, .int y2), (4, .int y4), (5, .int y5), (6, .long y6), (8, .int y8)] → fl_X9_hang_84 y1 y2 y4 y5 n y6 y8 σ0 = some u → (∀ (H : Heap) (locs : List Loc) (ls : Array Slot), PW D A H0 [pX9 cy o0 q0 u.2] H locs → lv_has ls 9 [(4, .int y4), (5, .int y5), (6, .long u.1)] → W p l e rmX9_hang s m args below meth c H locs 0 0 Q (F0 m 151 ls [])) → W p l e rmX9_hang s m args below meth c H locs 0 0 Q (F0 m 84 ls []) := by
  intro n
  induction n with
  | zero =>
    intro y6 y8 σ0 H locs ls u hw hl hf K0
    rw [fl_X9_hang_84] at hf
    cases hf
  | succ n ih =>
    intro y6 y8 σ0 H locs ls u hw hl hf K0
    rw [fl_X9_hang_84] at hf
    refine lv_iload S.1 S.2.1 dX9_hang_84 (lv_at hl 6 rfl) ?_
    refine lv_iconst (v := 1) S.1 S.2.1 dX9_hang_86 (by decide) ?_
    refine lv_iload S.1 S.2.1 dX9_hang_87 (lv_at hl 4 rfl) ?_
    refine lv_ishl S.1 S.2.1 dX9_hang_89 ?_
    refine lv_icmp_ge (tgt := 151) S.1 S.2.1 dX9_hang_90 (by decide) (fun c_10 => ?_) (fun c_10 => ?_)
    · replace hf := (if_pos c_10).symm.trans hf
      cases hf
      exact K0 _ _ _ hw (lv_sub hl [3, 4, 5] rfl)
    · replace hf := (if_neg c_10).symm.trans hf
      refine lv_aload_n S.1 S.2.1 dX9_hang_93 rfl (lv_at hl 0 rfl) ?_
      refine lv_iload S.1 S.2.1 dX9_hang_94 (lv_at hl 6 rfl) ?_
      refine lv_iload_n S.1 S.2.1 dX9_hang_96 rfl (lv_at hl 1 rfl) ?_
      obtain ⟨u_11, e_u_11, hf⟩ := ob hf
      refine k_X9_layNet S (S.2.2.2.2.wd wd1116 rfl) hw e_u_11 [0] rfl (by decide) rfl ⟨rfl, rfl, Nat.le_of_ble_eq_true rfl, Nat.le_of_ble_eq_true rfl⟩ hl.1 (Nat.le_of_ble_eq_true rfl) dX9_hang_97 ⟨Nat.zero_le _, Nat.zero_le _⟩ (fun H locs hw => ?_)
      have hw : PW D A H0 [pX9 cy o0 q0 u_11] H locs := hw
      refine lv_lload S.1 S.2.1 dX9_hang_100 (lv_at hl 5 rfl) ?_
      refine lv_aload_n S.1 S.2.1 dX9_hang_102 rfl (lv_at hl 0 rfl) ?_
      refine lv_iload_n S.1 S.2.1 dX9_hang_103 rfl (lv_at hl 1 rfl) ?_
      obtain ⟨u_12, e_u_12, hf⟩ := ob hf
      refine k_X9_hangs S (S.2.2.2.2.wd wd1120 rfl) hw e_u_12 [0] rfl (by decide) rfl ⟨rfl, rfl, Nat.le_of_ble_eq_true rfl, Nat.le_of_ble_eq_true rfl⟩ hl.1 (Nat.le_of_ble_eq_true rfl) dX9_hang_104 ⟨Nat.zero_le _, Nat.zero_le _⟩ (fun H locs hw => ?_)
      have hw : PW D A H0 [pX9 cy o0 q0 u_11] H locs := hw
      obtain ⟨v_13, e_v_13, hf⟩ := ob hf
      have hJ_v_13 : ∀ (H : Heap) (locs : List Loc), PW D A H0 [pX9 cy o0 q0 u_11] H locs → W p l e rmX9_hang s m args below meth c H locs 0 0 Q (F0 m 142 ls [.long v_13, .long y6]) := by
        intro H locs hw
        refine lv_ladd S.1 S.2.1 dX9_hang_142 ?_
        refine lv_lstore (lv' := [(6, .long ((y6 + v_13))), (0, .ref o0), (1, .int y1), (2, .int y2), (4, .int y4), (5, .int y5), (8, .int y8)]) S.1 S.2.1 dX9_hang_143 hl (by decide) rfl (fun ls hl => ?_)
        refine lv_iinc (v := (y8 + 1)) (lv' := [(8, .int ((y8 + 1))), (6, .long ((y6 + v_13))), (0, .ref o0), (1, .int y1), (2, .int y2), (4, .int y4), (5, .int y5)]) S.1 S.2.1 dX9_hang_145 hl (k := 6) rfl rfl (by decide) rfl (fun ls hl => ?_)
        refine lv_goto (tgt := 84) S.1 S.2.1 dX9_hang_148 (by decide) ?_
        exact ih _ _ _ _ _ _ _ hw (lv_sub hl [2, 3, 4, 5, 6, 1, 0] rfl) hf K0
      replace hf := e_v_13
      clear e_v_13
      refine lv_if_eq (tgt := 141) S.1 S.2.1 dX9_hang_107 (by decide) (fun c_14 => ?_) (fun c_14 => ?_)
      · replace hf := (if_pos c_14).symm.trans hf
        refine lv_lconst (v := 0) S.1 S.2.1 dX9_hang_141 (by decide) ?_
        cases hf
        exact hJ_v_13 _ _ hw
      · replace hf := (if_neg c_14).symm.trans hf
        refine lv_iload_n S.1 S.2.1 dX9_hang_110 rfl (lv_at hl 2 rfl) ?_
        refine lv_i2l (v := (y2 : Int32).toInt64) S.1 S.2.1 dX9_hang_111 rfl ?_
        refine lv_iload S.1 S.2.1 dX9_hang_112 (lv_at hl 6 rfl) ?_
        obtain ⟨u_15, e_u_15, hf⟩ := ob hf
        refine k_X9_ones S (S.2.2.2.2.wd wd829 rfl) hw e_u_15 [] rfl (by decide) rfl ⟨rfl, rfl, Nat.le_of_ble_eq_true rfl, Nat.le_of_ble_eq_true rfl⟩ hl.1 (Nat.le_of_ble_eq_true rfl) dX9_hang_114 ⟨Nat.zero_le _, Nat.zero_le _⟩ (fun H locs hw => ?_)
        have hw : PW D A H0 [pX9 cy o0 q0 u_11] H locs := hw
        obtain ⟨u_16, e_u_16, hf⟩ := ob hf
        refine k_X9_power S (S.2.2.2.2.wd wd1124 rfl) hw e_u_16 [] rfl (by decide) rfl ⟨rfl, rfl, Nat.le_of_ble_eq_true rfl, Nat.le_of_ble_eq_true rfl⟩ hl.1 (Nat.le_of_ble_eq_true rfl) dX9_hang_117 ⟨Nat.zero_le _, Nat.zero_le _⟩ (fun H locs hw => ?_)
        have hw : PW D A H0 [pX9 cy o0 q0 u_11] H locs := hw
        refine lv_ldc2 (v := 10) S.1 S.2.1 S.2.2.2.1 (S.2.2.2.2.wd wd1111 rfl) dX9_hang_120 ?_
        refine lv_iload_n S.1 S.2.1 dX9_hang_123 rfl (lv_at hl 2 rfl) ?_
        refine lv_i2l (v := (y2 : Int32).toInt64) S.1 S.2.1 dX9_hang_124 rfl ?_
        refine lv_lsub S.1 S.2.1 dX9_hang_125 ?_
        refine lv_iload S.1 S.2.1 dX9_hang_126 (lv_at hl 4 rfl) ?_
        refine lv_iload S.1 S.2.1 dX9_hang_128 (lv_at hl 6 rfl) ?_
        obtain ⟨u_17, e_u_17, hf⟩ := ob hf
        refine k_X9_ones S (S.2.2.2.2.wd wd829 rfl) hw e_u_17 [] rfl (by decide) rfl ⟨rfl, rfl, Nat.le_of_ble_eq_true rfl, Nat.le_of_ble_eq_true rfl⟩ hl.1 (Nat.le_of_ble_eq_true rfl) dX9_hang_130 ⟨Nat.zero_le _, Nat.zero_le _⟩ (fun H locs hw => ?_)
        have hw : PW D A H0 [pX9 cy o0 q0 u_11] H locs := hw
        refine lv_isub S.1 S.2.1 dX9_hang_133 ?_
        obtain ⟨u_18, e_u_18, hf⟩ := ob hf
        refine k_X9_power S (S.2.2.2.2.wd wd1124 rfl) hw e_u_18 [] rfl (by decide) rfl ⟨rfl, rfl, Nat.le_of_ble_eq_true rfl, Nat.le_of_ble_eq_true rfl⟩ hl.1 (Nat.le_of_ble_eq_true rfl) dX9_hang_134 ⟨Nat.zero_le _, Nat.zero_le _⟩ (fun H locs hw => ?_)
        have hw : PW D A H0 [pX9 cy o0 q0 u_11] H locs := hw
        refine lv_lmul S.1 S.2.1 dX9_hang_137 ?_
        refine lv_goto (tgt := 142) S.1 S.2.1 dX9_hang_138 (by decide) ?_
        cases hf
        exact hJ_v_13 _ _ hw
end
set_option maxHeartbeats 4000000 in
set_option maxRecDepth 100000 in
theorem c_X9_hang (l : Launch) (D : va_G) (cy : Nat → ClassId) (o0 : Nat) (q0 : Nat → Nat) (x1 : Int32) (x2 : Int32) (x3 : Int32) (x4 : Int32) (σ0 : pStt) (u : Int64 × pStt) (hf : f_X9_hang x1 x2 x3 x4 σ0 = some u) : CT l yX9_hang cX9_hang 9 (some .long) rmX9_hang D cy [.ref o0, .int x1, .int x2, .int x3, .int x4] [pX9 cy o0 q0 σ0] (some (.long u.1)) [pX9 cy o0 q0 u.2] := by
  refine CT.of (by decide) (Nat.le_of_ble_eq_true rfl) (fun p e s m args below meth c ls A Q hA hQ S hr hlk hl hw => ?_)
  have hl : lv_has ls 9 [(0, .ref o0), (1, .int x1), (2, .int x2), (3, .int x3), (4, .int x4)] := hl
  rw [f_X9_hang] at hf
  refine lv_iload_n S.1 S.2.1 dX9_hang_0 rfl (lv_at hl 1 rfl) ?_
  refine lv_i2l (v := (x1 : Int32).toInt64) S.1 S.2.1 dX9_hang_1 rfl ?_
  refine lv_lconst (v := 1) S.1 S.2.1 dX9_hang_2 (by decide) ?_
  refine lv_ldc2 (v := 5) S.1 S.2.1 S.2.2.2.1 (S.2.2.2.2.wd wd851 rfl) dX9_hang_3 ?_
  obtain ⟨u_1, e_u_1, hf⟩ := ob hf
  refine k_X9_in S (S.2.2.2.2.wd wd818 rfl) hw e_u_1 [] rfl (by decide) rfl ⟨rfl, rfl, Nat.le_of_ble_eq_true rfl, Nat.le_of_ble_eq_true rfl⟩ hl.1 (Nat.le_of_ble_eq_true rfl) dX9_hang_6 ⟨Nat.zero_le _, Nat.zero_le _⟩ (fun H locs hw => ?_)
  have hw : PW D A s.heap [pX9 cy o0 q0 σ0] H locs := hw
  refine lv_if_eq (tgt := 45) S.1 S.2.1 dX9_hang_9 (by decide) (fun c_2 => ?_) (fun c_2 => ?_)
  · replace hf := (if_pos c_2).symm.trans hf
    refine lv_ldc2 (v := (-1000000000000000002)) S.1 S.2.1 S.2.2.2.1 (S.2.2.2.2.wd wd1112 rfl) dX9_hang_45 ?_
    cases hf
    exact w_lret S hr hlk hA hQ hw dX9_hang_48
  · replace hf := (if_neg c_2).symm.trans hf
    refine lv_iload_n S.1 S.2.1 dX9_hang_12 rfl (lv_at hl 2 rfl) ?_
    refine lv_i2l (v := (x2 : Int32).toInt64) S.1 S.2.1 dX9_hang_13 rfl ?_
    refine lv_lconst (v := 0) S.1 S.2.1 dX9_hang_14 (by decide) ?_
    refine lv_ldc2 (v := 10) S.1 S.2.1 S.2.2.2.1 (S.2.2.2.2.wd wd1111 rfl) dX9_hang_15 ?_
    obtain ⟨u_3, e_u_3, hf⟩ := ob hf
    refine k_X9_in S (S.2.2.2.2.wd wd818 rfl) hw e_u_3 [] rfl (by decide) rfl ⟨rfl, rfl, Nat.le_of_ble_eq_true rfl, Nat.le_of_ble_eq_true rfl⟩ hl.1 (Nat.le_of_ble_eq_true rfl) dX9_hang_18 ⟨Nat.zero_le _, Nat.zero_le _⟩ (fun H locs hw => ?_)
    have hw : PW D A s.heap [pX9 cy o0 q0 σ0] H locs := hw
    refine lv_if_eq (tgt := 45) S.1 S.2.1 dX9_hang_21 (by decide) (fun c_4 => ?_) (fun c_4 => ?_)
    · replace hf := (if_pos c_4).symm.trans hf
      refine lv_ldc2 (v := (-1000000000000000002)) S.1 S.2.1 S.2.2.2.1 (S.2.2.2.2.wd wd1112 rfl) dX9_hang_45 ?_
      cases hf
      exact w_lret S hr hlk hA hQ hw dX9_hang_48
    · replace hf := (if_neg c_4).symm.trans hf
      refine lv_iload_n S.1 S.2.1 dX9_hang_24 rfl (lv_at hl 3 rfl) ?_
      refine lv_i2l (v := (x3 : Int32).toInt64) S.1 S.2.1 dX9_hang_25 rfl ?_
      refine lv_lconst (v := 0) S.1 S.2.1 dX9_hang_26 (by decide) ?_
      refine lv_lconst (v := 1) S.1 S.2.1 dX9_hang_27 (by decide) ?_
      obtain ⟨u_5, e_u_5, hf⟩ := ob hf
      refine k_X9_in S (S.2.2.2.2.wd wd818 rfl) hw e_u_5 [] rfl (by decide) rfl ⟨rfl, rfl, Nat.le_of_ble_eq_true rfl, Nat.le_of_ble_eq_true rfl⟩ hl.1 (Nat.le_of_ble_eq_true rfl) dX9_hang_28 ⟨Nat.zero_le _, Nat.zero_le _⟩ (fun H locs hw => ?_)
      have hw : PW D A s.heap [pX9 cy o0 q0 σ0] H locs := hw
      refine lv_if_eq (tgt := 45) S.1 S.2.1 dX9_hang_31 (by decide) (fun c_6 => ?_) (fun c_6 => ?_)
      · replace hf := (if_pos c_6).symm.trans hf
        refine lv_ldc2 (v := (-1000000000000000002)) S.1 S.2.1 S.2.2.2.1 (S.2.2.2.2.wd wd1112 rfl) dX9_hang_45 ?_
        cases hf
        exact w_lret S hr hlk hA hQ hw dX9_hang_48
      · replace hf := (if_neg c_6).symm.trans hf
        refine lv_iload S.1 S.2.1 dX9_hang_34 (lv_at hl 4 rfl) ?_
        refine lv_i2l (v := (x4 : Int32).toInt64) S.1 S.2.1 dX9_hang_36 rfl ?_
        refine lv_lconst (v := 0) S.1 S.2.1 dX9_hang_37 (by decide) ?_
        refine lv_lconst (v := 1) S.1 S.2.1 dX9_hang_38 (by decide) ?_
        obtain ⟨u_7, e_u_7, hf⟩ := ob hf
        refine k_X9_in S (S.2.2.2.2.wd wd818 rfl) hw e_u_7 [] rfl (by decide) rfl ⟨rfl, rfl, Nat.le_of_ble_eq_true rfl, Nat.le_of_ble_eq_true rfl⟩ hl.1 (Nat.le_of_ble_eq_true rfl) dX9_hang_39 ⟨Nat.zero_le _, Nat.zero_le _⟩ (fun H locs hw => ?_)
        have hw : PW D A s.heap [pX9 cy o0 q0 σ0] H locs := hw
        refine lv_if_ne (tgt := 49) S.1 S.2.1 dX9_hang_42 (by decide) (fun c_8 => ?_) (fun c_8 => ?_)
        · replace hf := (if_neg c_8).symm.trans hf
          refine lv_iload_n S.1 S.2.1 dX9_hang_49 rfl (lv_at hl 1 rfl) ?_
          refine lv_iload_n S.1 S.2.1 dX9_hang_50 rfl (lv_at hl 1 rfl) ?_
          refine lv_iconst (v := 1) S.1 S.2.1 dX9_hang_51 (by decide) ?_
          refine lv_isub S.1 S.2.1 dX9_hang_52 ?_
          refine lv_imul S.1 S.2.1 dX9_hang_53 ?_
          refine lv_iconst (v := 2) S.1 S.2.1 dX9_hang_54 (by decide) ?_
          refine lv_idiv S.1 S.2.1 dX9_hang_55 (by decide) ?_
          refine lv_istore (lv' := [(5, .int (((x1 * (x1 - (1 : Int32))) / 2))), (0, .ref o0), (1, .int x1), (2, .int x2), (3, .int x3), (4, .int x4)]) S.1 S.2.1 dX9_hang_56 hl (by decide) rfl (fun ls hl => ?_)
          refine lv_iload_n S.1 S.2.1 dX9_hang_58 rfl (lv_at hl 4 rfl) ?_
          refine lv_iconst (v := 1) S.1 S.2.1 dX9_hang_59 (by decide) ?_
          refine lv_icmp_ne (tgt := 78) S.1 S.2.1 dX9_hang_60 (by decide) (fun c_9 => ?_) (fun c_9 => ?_)
          · replace hf := (if_neg c_9).symm.trans hf
            refine lv_lconst (v := 0) S.1 S.2.1 dX9_hang_78 (by decide) ?_
            refine lv_lstore (lv' := [(6, .long 0), (5, .int (((x1 * (x1 - (1 : Int32))) / 2))), (0, .ref o0), (1, .int x1), (2, .int x2), (3, .int x3), (4, .int x4)]) S.1 S.2.1 dX9_hang_79 hl (by decide) rfl (fun ls hl => ?_)
            refine lv_iconst (v := 0) S.1 S.2.1 dX9_hang_81 (by decide) ?_
            refine lv_istore (lv' := [(8, .int 0), (6, .long 0), (5, .int (((x1 * (x1 - (1 : Int32))) / 2))), (0, .ref o0), (1, .int x1), (2, .int x2), (3, .int x3), (4, .int x4)]) S.1 S.2.1 dX9_hang_82 hl (by decide) rfl (fun ls hl => ?_)
            obtain ⟨u_19, e_u_19, hf⟩ := ob hf
            refine lp_X9_hang_84 S 2000 _ _ _ _ _ _ _ hw (lv_sub hl [3, 4, 5, 7, 2, 1, 0] rfl) e_u_19 ?_
            · intro H locs ls hw hl
              refine lv_lload S.1 S.2.1 dX9_hang_151 (lv_at hl 2 rfl) ?_
              refine lv_ldc2 (v := 10) S.1 S.2.1 S.2.2.2.1 (S.2.2.2.2.wd wd1111 rfl) dX9_hang_153 ?_
              refine lv_iload S.1 S.2.1 dX9_hang_156 (lv_at hl 1 rfl) ?_
              obtain ⟨u_20, e_u_20, hf⟩ := ob hf
              refine k_X9_power S (S.2.2.2.2.wd wd1124 rfl) hw e_u_20 [] rfl (by decide) rfl ⟨rfl, rfl, Nat.le_of_ble_eq_true rfl, Nat.le_of_ble_eq_true rfl⟩ hl.1 (Nat.le_of_ble_eq_true rfl) dX9_hang_158 ⟨Nat.zero_le _, Nat.zero_le _⟩ (fun H locs hw => ?_)
              have hw : PW D A s.heap [pX9 cy o0 q0 u_19.2] H locs := hw
              refine lv_iload S.1 S.2.1 dX9_hang_161 (lv_at hl 0 rfl) ?_
              obtain ⟨u_21, e_u_21, hf⟩ := ob hf
              refine k_X9_lowest S (S.2.2.2.2.wd wd1113 rfl) hw e_u_21 [] rfl (by decide) rfl ⟨rfl, rfl, Nat.le_of_ble_eq_true rfl, Nat.le_of_ble_eq_true rfl⟩ hl.1 (Nat.le_of_ble_eq_true rfl) dX9_hang_163 ⟨Nat.zero_le _, Nat.zero_le _⟩ (fun H locs hw => ?_)
              have hw : PW D A s.heap [pX9 cy o0 q0 u_19.2] H locs := hw
              cases hf
              exact w_lret S hr hlk hA hQ hw dX9_hang_166
          · replace hf := (if_pos c_9).symm.trans hf
            refine lv_iload S.1 S.2.1 dX9_hang_63 (lv_at hl 0 rfl) ?_
            refine lv_i2l (v := (((x1 * (x1 - (1 : Int32))) / 2) : Int32).toInt64) S.1 S.2.1 dX9_hang_65 rfl ?_
            refine lv_iload_n S.1 S.2.1 dX9_hang_66 rfl (lv_at hl 3 rfl) ?_
            refine lv_i2l (v := (x2 : Int32).toInt64) S.1 S.2.1 dX9_hang_67 rfl ?_
            refine lv_lmul S.1 S.2.1 dX9_hang_68 ?_
            refine lv_ldc2 (v := 10) S.1 S.2.1 S.2.2.2.1 (S.2.2.2.2.wd wd1111 rfl) dX9_hang_69 ?_
            refine lv_iload S.1 S.2.1 dX9_hang_72 (lv_at hl 5 rfl) ?_
            obtain ⟨u_22, e_u_22, hf⟩ := ob hf
            refine k_X9_lowest S (S.2.2.2.2.wd wd1113 rfl) hw e_u_22 [] rfl (by decide) rfl ⟨rfl, rfl, Nat.le_of_ble_eq_true rfl, Nat.le_of_ble_eq_true rfl⟩ hl.1 (Nat.le_of_ble_eq_true rfl) dX9_hang_74 ⟨Nat.zero_le _, Nat.zero_le _⟩ (fun H locs hw => ?_)
            have hw : PW D A s.heap [pX9 cy o0 q0 σ0] H locs := hw
            cases hf
            exact w_lret S hr hlk hA hQ hw dX9_hang_77
        · replace hf := (if_pos c_8).symm.trans hf
          refine lv_ldc2 (v := (-1000000000000000002)) S.1 S.2.1 S.2.2.2.1 (S.2.2.2.2.wd wd1112 rfl) dX9_hang_45 ?_
          cases hf
          exact w_lret S hr hlk hA hQ hw dX9_hang_48
section
variable {p : Program} {l : Launch} {e : Env} {R : Room} {s : State} {m : MethodId} {args : Array Value} {below : List Frame} {meth : Method} {c : Code} {H : Heap} {locs : List Loc} {cells slots : Nat} {Q : State → Prop} {cc : ByteArray} {pc nL : Nat} {ls : Array Slot} {rest : List Value} {D : va_G} {cy : Nat → ClassId} {A : Nat → Prop} {H0 : Heap} {own : String} {Ps : List va_W}
set_option maxRecDepth 100000 in
theorem k_X9_hang {o0 : Nat} {q0 : Nat → Nat} {x1 : Int32} {x2 : Int32} {x3 : Int32} {x4 : Int32} {σ0 : pStt} {u : Int64 × pStt} {index : Nat} (S : CX p m c cc nL s args own D cy) (hl : (Cond.methodLink own index yX9_hang).before args s = true) (hw : PW D A H0 Ps H locs) (hf : f_X9_hang x1 x2 x3 x4 σ0 = some u) (js : List Nat) (hC : js.map (fun j => Ps[j]?) = [some (pX9 cy o0 q0 σ0)]) (hnd : js.Nodup) (hlen : js.length = 1) (hR : RMok rmX9_hang R 9) (hsize : ls.size = nL) (hrest : (rest.map fun v => v.category).sum ≤ 8) (hdg : decode cc pc = .ok (.invokevirtual index, 3)) (hcs : cells ≤ R.cells ∧ slots ≤ R.slots)
    (kk : ∀ (H1 : Heap) (locs1 : List Loc), PW D A H0 (setAll Ps js [pX9 cy o0 q0 u.2]) H1 locs1 → W p l e R s m args below meth c H1 locs1 cells slots Q (F0 m (pc + 3) ls (.long u.1 :: rest))) : W p l e R s m args below meth c H locs cells slots Q (F0 m pc ls (.int x4 :: .int x3 :: .int x2 :: .int x1 :: .ref o0 :: rest)) :=
  w_callV (n := 4) (ov := (some (.long u.1))) (As := [.int x1, .int x2, .int x3, .int x4]) (Cs := [pX9 cy o0 q0 σ0]) (Cs' := [pX9 cy o0 q0 u.2]) S hw (c_X9_hang l D cy o0 q0 x1 x2 x3 x4 σ0 u hf) (MF.of S.2.2.2.2 wd1110 wd79 (by decide)) (S.2.2.2.2.wd wd1108 rfl) (S.2.2.2.2.wd wd1109 rfl) hl hR js hC hnd hlen rfl rfl rfl rfl hsize rfl hrest hdg hcs kk
end
abbrev rmX9_actBy : Room := { frames := 0, cells := 0, slots := 0, locals := 0 }
def f_X9_actBy (x1 : Int32) (x2 : Int32) : Option (Int32) := if x1 = 0 then some 0 else if x1 = 1 then some 1 else if x1 = 2 then some 2 else if x1 = 3 then some 4 else if x1 = 4 then some 6 else if x1 = 5 then some 7 else if x1 = 6 then (if ((x2 / 6) - (x2 / 6) / 4 * 4) = 0 then some 8 else some 5 : Option Int32).bind (fun v_8 => some v_8) else (if (x2 - x2 / 4 * 4) = 0 then some 3 else some 9 : Option Int32).bind (fun v_10 => some v_10)
set_option maxHeartbeats 4000000 in
set_option maxRecDepth 100000 in
theorem c_X9_actBy (l : Launch) (D : va_G) (cy : Nat → ClassId)  (x1 : Int32) (x2 : Int32) (u : Int32) (hf : f_X9_actBy x1 x2 = some u) : CT l yX9_actBy cX9_actBy 2 (some .int) rmX9_actBy D cy [.int x1, .int x2] [] (some (.int u)) [] := by
  refine CT.of (by decide) (Nat.le_of_ble_eq_true rfl) (fun p e s m args below meth c ls A Q hA hQ S hr hlk hl hw => ?_)
  have hl : lv_has ls 2 [(0, .int x1), (1, .int x2)] := hl
  rw [f_X9_actBy] at hf
  refine lv_iload_n S.1 S.2.1 dX9_actBy_0 rfl (lv_at hl 0 rfl) ?_
  by_cases c_1 : x1 = 0
  · replace hf := (if_pos c_1).symm.trans hf
    refine lv_tableIn (off := 43) (tgt := 44) S.1 S.2.1 dX9_actBy_1 (by rw [c_1]; decide) (by rw [c_1]; decide) (by rw [c_1]; rfl) (by decide) ?_
    refine lv_iconst (v := 0) S.1 S.2.1 dX9_actBy_44 (by decide) ?_
    cases hf
    exact w_iret S hr hlk hA hQ hw dX9_actBy_45
  · replace hf := (if_neg c_1).symm.trans hf
    by_cases c_2 : x1 = 1
    · replace hf := (if_pos c_2).symm.trans hf
      refine lv_tableIn (off := 45) (tgt := 46) S.1 S.2.1 dX9_actBy_1 (by rw [c_2]; decide) (by rw [c_2]; decide) (by rw [c_2]; rfl) (by decide) ?_
      refine lv_iconst (v := 1) S.1 S.2.1 dX9_actBy_46 (by decide) ?_
      cases hf
      exact w_iret S hr hlk hA hQ hw dX9_actBy_47
    · replace hf := (if_neg c_2).symm.trans hf
      by_cases c_3 : x1 = 2
      · replace hf := (if_pos c_3).symm.trans hf
        refine lv_tableIn (off := 47) (tgt := 48) S.1 S.2.1 dX9_actBy_1 (by rw [c_3]; decide) (by rw [c_3]; decide) (by rw [c_3]; rfl) (by decide) ?_
        refine lv_iconst (v := 2) S.1 S.2.1 dX9_actBy_48 (by decide) ?_
        cases hf
        exact w_iret S hr hlk hA hQ hw dX9_actBy_49
      · replace hf := (if_neg c_3).symm.trans hf
        by_cases c_4 : x1 = 3
        · replace hf := (if_pos c_4).symm.trans hf
          refine lv_tableIn (off := 49) (tgt := 50) S.1 S.2.1 dX9_actBy_1 (by rw [c_4]; decide) (by rw [c_4]; decide) (by rw [c_4]; rfl) (by decide) ?_
          refine lv_iconst (v := 4) S.1 S.2.1 dX9_actBy_50 (by decide) ?_
          cases hf
          exact w_iret S hr hlk hA hQ hw dX9_actBy_51
        · replace hf := (if_neg c_4).symm.trans hf
          by_cases c_5 : x1 = 4
          · replace hf := (if_pos c_5).symm.trans hf
            refine lv_tableIn (off := 51) (tgt := 52) S.1 S.2.1 dX9_actBy_1 (by rw [c_5]; decide) (by rw [c_5]; decide) (by rw [c_5]; rfl) (by decide) ?_
            refine lv_bipush (v := 6) S.1 S.2.1 dX9_actBy_52 (by decide) ?_
            cases hf
            exact w_iret S hr hlk hA hQ hw dX9_actBy_54
          · replace hf := (if_neg c_5).symm.trans hf
            by_cases c_6 : x1 = 5
            · replace hf := (if_pos c_6).symm.trans hf
              refine lv_tableIn (off := 54) (tgt := 55) S.1 S.2.1 dX9_actBy_1 (by rw [c_6]; decide) (by rw [c_6]; decide) (by rw [c_6]; rfl) (by decide) ?_
              refine lv_bipush (v := 7) S.1 S.2.1 dX9_actBy_55 (by decide) ?_
              cases hf
              exact w_iret S hr hlk hA hQ hw dX9_actBy_57
            · replace hf := (if_neg c_6).symm.trans hf
              by_cases c_7 : x1 = 6
              · replace hf := (if_pos c_7).symm.trans hf
                refine lv_tableIn (off := 57) (tgt := 58) S.1 S.2.1 dX9_actBy_1 (by rw [c_7]; decide) (by rw [c_7]; decide) (by rw [c_7]; rfl) (by decide) ?_
                refine lv_iload_n S.1 S.2.1 dX9_actBy_58 rfl (lv_at hl 1 rfl) ?_
                refine lv_bipush (v := 6) S.1 S.2.1 dX9_actBy_59 (by decide) ?_
                refine lv_idiv S.1 S.2.1 dX9_actBy_61 (by decide) ?_
                refine lv_iconst (v := 4) S.1 S.2.1 dX9_actBy_62 (by decide) ?_
                refine lv_irem S.1 S.2.1 dX9_actBy_63 (by decide) ?_
                obtain ⟨v_8, e_v_8, hf⟩ := ob hf
                have hJ_v_8 : ∀ (H : Heap) (locs : List Loc), PW D A s.heap [] H locs → W p l e rmX9_actBy s m args below meth c H locs 0 0 Q (F0 m 73 ls [.int v_8]) := by
                  intro H locs hw
                  cases hf
                  exact w_iret S hr hlk hA hQ hw dX9_actBy_73
                replace hf := e_v_8
                clear e_v_8
                refine lv_if_ne (tgt := 72) S.1 S.2.1 dX9_actBy_64 (by decide) (fun c_9 => ?_) (fun c_9 => ?_)
                · replace hf := (if_neg c_9).symm.trans hf
                  refine lv_iconst (v := 5) S.1 S.2.1 dX9_actBy_72 (by decide) ?_
                  cases hf
                  exact hJ_v_8 _ _ hw
                · replace hf := (if_pos c_9).symm.trans hf
                  refine lv_bipush (v := 8) S.1 S.2.1 dX9_actBy_67 (by decide) ?_
                  refine lv_goto (tgt := 73) S.1 S.2.1 dX9_actBy_69 (by decide) ?_
                  cases hf
                  exact hJ_v_8 _ _ hw
              · replace hf := (if_neg c_7).symm.trans hf
                have t_c_1 := ne_toInt (k := 0) c_1 (by decide)
                have t_c_2 := ne_toInt (k := 1) c_2 (by decide)
                have t_c_3 := ne_toInt (k := 2) c_3 (by decide)
                have t_c_4 := ne_toInt (k := 3) c_4 (by decide)
                have t_c_5 := ne_toInt (k := 4) c_5 (by decide)
                have t_c_6 := ne_toInt (k := 5) c_6 (by decide)
                have t_c_7 := ne_toInt (k := 6) c_7 (by decide)
                refine lv_tableOut (tgt := 74) S.1 S.2.1 dX9_actBy_1 (by omega) (by decide) ?_
                refine lv_iload_n S.1 S.2.1 dX9_actBy_74 rfl (lv_at hl 1 rfl) ?_
                refine lv_iconst (v := 4) S.1 S.2.1 dX9_actBy_75 (by decide) ?_
                refine lv_irem S.1 S.2.1 dX9_actBy_76 (by decide) ?_
                obtain ⟨v_10, e_v_10, hf⟩ := ob hf
                have hJ_v_10 : ∀ (H : Heap) (locs : List Loc), PW D A s.heap [] H locs → W p l e rmX9_actBy s m args below meth c H locs 0 0 Q (F0 m 86 ls [.int v_10]) := by
                  intro H locs hw
                  cases hf
                  exact w_iret S hr hlk hA hQ hw dX9_actBy_86
                replace hf := e_v_10
                clear e_v_10
                refine lv_if_ne (tgt := 84) S.1 S.2.1 dX9_actBy_77 (by decide) (fun c_11 => ?_) (fun c_11 => ?_)
                · replace hf := (if_neg c_11).symm.trans hf
                  refine lv_bipush (v := 9) S.1 S.2.1 dX9_actBy_84 (by decide) ?_
                  cases hf
                  exact hJ_v_10 _ _ hw
                · replace hf := (if_pos c_11).symm.trans hf
                  refine lv_iconst (v := 3) S.1 S.2.1 dX9_actBy_80 (by decide) ?_
                  refine lv_goto (tgt := 86) S.1 S.2.1 dX9_actBy_81 (by decide) ?_
                  cases hf
                  exact hJ_v_10 _ _ hw
section
variable {p : Program} {l : Launch} {e : Env} {R : Room} {s : State} {m : MethodId} {args : Array Value} {below : List Frame} {meth : Method} {c : Code} {H : Heap} {locs : List Loc} {cells slots : Nat} {Q : State → Prop} {cc : ByteArray} {pc nL : Nat} {ls : Array Slot} {rest : List Value} {D : va_G} {cy : Nat → ClassId} {A : Nat → Prop} {H0 : Heap} {own : String} {Ps : List va_W}
set_option maxRecDepth 100000 in
theorem k_X9_actBy  {x1 : Int32} {x2 : Int32}  {u : Int32} {index : Nat} (S : CX p m c cc nL s args own D cy) (hl : (Cond.methodLink own index yX9_actBy).before args s = true) (hw : PW D A H0 Ps H locs) (hf : f_X9_actBy x1 x2 = some u) (js : List Nat) (hC : js.map (fun j => Ps[j]?) = []) (hnd : js.Nodup) (hlen : js.length = 0) (hR : RMok rmX9_actBy R 2) (hsize : ls.size = nL) (hrest : (rest.map fun v => v.category).sum ≤ 8) (hdg : decode cc pc = .ok (.invokestatic index, 3)) (hcs : cells ≤ R.cells ∧ slots ≤ R.slots)
    (kk : ∀ (H1 : Heap) (locs1 : List Loc), PW D A H0 (setAll Ps js []) H1 locs1 → W p l e R s m args below meth c H1 locs1 cells slots Q (F0 m (pc + 3) ls (.int u :: rest))) : W p l e R s m args below meth c H locs cells slots Q (F0 m pc ls (.int x2 :: .int x1 :: rest)) :=
  w_callS (n := 2) (ov := (some (.int u))) (As := [.int x1, .int x2]) (Cs := []) (Cs' := []) S hw (c_X9_actBy l D cy  x1 x2 u hf) (MF.of S.2.2.2.2 wd1142 wd79 (by decide)) (S.2.2.2.2.wd wd1141 rfl) hl hR js hC hnd hlen rfl hsize rfl hrest hdg hcs kk
end
abbrev rmX9_drawn : Room := { frames := 5, cells := 0, slots := 0, locals := 110 }
def f_X9_drawn (x1 : Int32) (x2 : Int32) (σ0 : pStt) : Option (pStt) := (f_X9_actBy x1 x2).bind (fun u_1 => (if 3 ≤ x1 then some ((x2 - x2 / 6 * 6)) else some ((x2 - x2 / 8 * 8)) : Option Int32).bind (fun v_2 => (if 3 ≤ x1 then some (((x2 / 6) - (x2 / 6) / 8 * 8)) else some (((x2 / 8) - (x2 / 8) / 8 * 8)) : Option Int32).bind (fun v_3 => (f_X9_whyNot u_1 v_2 v_3 σ0).bind (fun u_4 => if u_4 = 0 then (f_X9_happen u_1 v_2 v_3 σ0).bind (fun u_6 => some u_6) else some σ0))))
set_option maxHeartbeats 4000000 in
set_option maxRecDepth 100000 in
theorem c_X9_drawn (l : Launch) (D : va_G) (cy : Nat → ClassId) (o0 : Nat) (q0 : Nat → Nat) (x1 : Int32) (x2 : Int32) (σ0 : pStt) (u : pStt) (hf : f_X9_drawn x1 x2 σ0 = some u) : CT l yX9_drawn cX9_drawn 6 none rmX9_drawn D cy [.ref o0, .int x1, .int x2] [pX9 cy o0 q0 σ0] none [pX9 cy o0 q0 u] := by
  refine CT.of (by decide) (Nat.le_of_ble_eq_true rfl) (fun p e s m args below meth c ls A Q hA hQ S hr hlk hl hw => ?_)
  have hl : lv_has ls 6 [(0, .ref o0), (1, .int x1), (2, .int x2)] := hl
  rw [f_X9_drawn] at hf
  refine lv_iload_n S.1 S.2.1 dX9_drawn_0 rfl (lv_at hl 1 rfl) ?_
  refine lv_iload_n S.1 S.2.1 dX9_drawn_1 rfl (lv_at hl 2 rfl) ?_
  obtain ⟨u_1, e_u_1, hf⟩ := ob hf
  refine k_X9_actBy S (S.2.2.2.2.wd wd1140 rfl) hw e_u_1 [] rfl (by decide) rfl ⟨rfl, rfl, Nat.le_of_ble_eq_true rfl, Nat.le_of_ble_eq_true rfl⟩ hl.1 (Nat.le_of_ble_eq_true rfl) dX9_drawn_2 ⟨Nat.zero_le _, Nat.zero_le _⟩ (fun H locs hw => ?_)
  have hw : PW D A s.heap [pX9 cy o0 q0 σ0] H locs := hw
  refine lv_istore_n (lv' := [(3, .int u_1), (0, .ref o0), (1, .int x1), (2, .int x2)]) S.1 S.2.1 dX9_drawn_5 rfl hl (by decide) rfl (fun ls hl => ?_)
  refine lv_iload_n S.1 S.2.1 dX9_drawn_6 rfl (lv_at hl 2 rfl) ?_
  refine lv_iconst (v := 3) S.1 S.2.1 dX9_drawn_7 (by decide) ?_
  obtain ⟨v_2, e_v_2, hf⟩ := ob hf
  have hJ_v_2 : ∀ (H : Heap) (locs : List Loc), PW D A s.heap [pX9 cy o0 q0 σ0] H locs → W p l e rmX9_drawn s m args below meth c H locs 0 0 Q (F0 m 22 ls [.int v_2]) := by
    intro H locs hw
    refine lv_istore (lv' := [(4, .int v_2), (3, .int u_1), (0, .ref o0), (1, .int x1), (2, .int x2)]) S.1 S.2.1 dX9_drawn_22 hl (by decide) rfl (fun ls hl => ?_)
    refine lv_iload_n S.1 S.2.1 dX9_drawn_24 rfl (lv_at hl 3 rfl) ?_
    refine lv_iconst (v := 3) S.1 S.2.1 dX9_drawn_25 (by decide) ?_
    obtain ⟨v_3, e_v_3, hf⟩ := ob hf
    have hJ_v_3 : ∀ (H : Heap) (locs : List Loc), PW D A s.heap [pX9 cy o0 q0 σ0] H locs → W p l e rmX9_drawn s m args below meth c H locs 0 0 Q (F0 m 46 ls [.int v_3]) := by
      intro H locs hw
      refine lv_istore (lv' := [(5, .int v_3), (4, .int v_2), (3, .int u_1), (0, .ref o0), (1, .int x1), (2, .int x2)]) S.1 S.2.1 dX9_drawn_46 hl (by decide) rfl (fun ls hl => ?_)
      refine lv_aload_n S.1 S.2.1 dX9_drawn_48 rfl (lv_at hl 3 rfl) ?_
      refine lv_iload_n S.1 S.2.1 dX9_drawn_49 rfl (lv_at hl 2 rfl) ?_
      refine lv_iload S.1 S.2.1 dX9_drawn_50 (lv_at hl 1 rfl) ?_
      refine lv_iload S.1 S.2.1 dX9_drawn_52 (lv_at hl 0 rfl) ?_
      obtain ⟨u_4, e_u_4, hf⟩ := ob hf
      refine k_X9_whyNot S (S.2.2.2.2.wd wd935 rfl) hw e_u_4 [0] rfl (by decide) rfl ⟨rfl, rfl, Nat.le_of_ble_eq_true rfl, Nat.le_of_ble_eq_true rfl⟩ hl.1 (Nat.le_of_ble_eq_true rfl) dX9_drawn_54 ⟨Nat.zero_le _, Nat.zero_le _⟩ (fun H locs hw => ?_)
      have hw : PW D A s.heap [pX9 cy o0 q0 σ0] H locs := hw
      refine lv_if_ne (tgt := 69) S.1 S.2.1 dX9_drawn_57 (by decide) (fun c_5 => ?_) (fun c_5 => ?_)
      · replace hf := (if_neg c_5).symm.trans hf
        cases hf
        exact w_vret S hr hlk hA hQ hw dX9_drawn_69
      · replace hf := (if_pos c_5).symm.trans hf
        refine lv_aload_n S.1 S.2.1 dX9_drawn_60 rfl (lv_at hl 3 rfl) ?_
        refine lv_iload_n S.1 S.2.1 dX9_drawn_61 rfl (lv_at hl 2 rfl) ?_
        refine lv_iload S.1 S.2.1 dX9_drawn_62 (lv_at hl 1 rfl) ?_
        refine lv_iload S.1 S.2.1 dX9_drawn_64 (lv_at hl 0 rfl) ?_
        obtain ⟨u_6, e_u_6, hf⟩ := ob hf
        refine k_X9_happen S (S.2.2.2.2.wd wd958 rfl) hw e_u_6 [0] rfl (by decide) rfl ⟨rfl, rfl, Nat.le_of_ble_eq_true rfl, Nat.le_of_ble_eq_true rfl⟩ hl.1 (Nat.le_of_ble_eq_true rfl) dX9_drawn_66 ⟨Nat.zero_le _, Nat.zero_le _⟩ (fun H locs hw => ?_)
        have hw : PW D A s.heap [pX9 cy o0 q0 u_6] H locs := hw
        cases hf
        exact w_vret S hr hlk hA hQ hw dX9_drawn_69
    replace hf := e_v_3
    clear e_v_3
    refine lv_icmp_ge (tgt := 39) S.1 S.2.1 dX9_drawn_26 (by decide) (fun c_7 => ?_) (fun c_7 => ?_)
    · replace hf := (if_pos c_7).symm.trans hf
      refine lv_iload_n S.1 S.2.1 dX9_drawn_39 rfl (lv_at hl 4 rfl) ?_
      refine lv_bipush (v := 6) S.1 S.2.1 dX9_drawn_40 (by decide) ?_
      refine lv_idiv S.1 S.2.1 dX9_drawn_42 (by decide) ?_
      refine lv_bipush (v := 8) S.1 S.2.1 dX9_drawn_43 (by decide) ?_
      refine lv_irem S.1 S.2.1 dX9_drawn_45 (by decide) ?_
      cases hf
      exact hJ_v_3 _ _ hw
    · replace hf := (if_neg c_7).symm.trans hf
      refine lv_iload_n S.1 S.2.1 dX9_drawn_29 rfl (lv_at hl 4 rfl) ?_
      refine lv_bipush (v := 8) S.1 S.2.1 dX9_drawn_30 (by decide) ?_
      refine lv_idiv S.1 S.2.1 dX9_drawn_32 (by decide) ?_
      refine lv_bipush (v := 8) S.1 S.2.1 dX9_drawn_33 (by decide) ?_
      refine lv_irem S.1 S.2.1 dX9_drawn_35 (by decide) ?_
      refine lv_goto (tgt := 46) S.1 S.2.1 dX9_drawn_36 (by decide) ?_
      cases hf
      exact hJ_v_3 _ _ hw
  replace hf := e_v_2
  clear e_v_2
  refine lv_icmp_ge (tgt := 18) S.1 S.2.1 dX9_drawn_8 (by decide) (fun c_8 => ?_) (fun c_8 => ?_)
  · replace hf := (if_pos c_8).symm.trans hf
    refine lv_iload_n S.1 S.2.1 dX9_drawn_18 rfl (lv_at hl 3 rfl) ?_
    refine lv_bipush (v := 6) S.1 S.2.1 dX9_drawn_19 (by decide) ?_
    refine lv_irem S.1 S.2.1 dX9_drawn_21 (by decide) ?_
    cases hf
    exact hJ_v_2 _ _ hw
  · replace hf := (if_neg c_8).symm.trans hf
    refine lv_iload_n S.1 S.2.1 dX9_drawn_11 rfl (lv_at hl 3 rfl) ?_
    refine lv_bipush (v := 8) S.1 S.2.1 dX9_drawn_12 (by decide) ?_
    refine lv_irem S.1 S.2.1 dX9_drawn_14 (by decide) ?_
    refine lv_goto (tgt := 22) S.1 S.2.1 dX9_drawn_15 (by decide) ?_
    cases hf
    exact hJ_v_2 _ _ hw
section
variable {p : Program} {l : Launch} {e : Env} {R : Room} {s : State} {m : MethodId} {args : Array Value} {below : List Frame} {meth : Method} {c : Code} {H : Heap} {locs : List Loc} {cells slots : Nat} {Q : State → Prop} {cc : ByteArray} {pc nL : Nat} {ls : Array Slot} {rest : List Value} {D : va_G} {cy : Nat → ClassId} {A : Nat → Prop} {H0 : Heap} {own : String} {Ps : List va_W}
set_option maxRecDepth 100000 in
theorem k_X9_drawn {o0 : Nat} {q0 : Nat → Nat} {x1 : Int32} {x2 : Int32} {σ0 : pStt} {u : pStt} {index : Nat} (S : CX p m c cc nL s args own D cy) (hl : (Cond.methodLink own index yX9_drawn).before args s = true) (hw : PW D A H0 Ps H locs) (hf : f_X9_drawn x1 x2 σ0 = some u) (js : List Nat) (hC : js.map (fun j => Ps[j]?) = [some (pX9 cy o0 q0 σ0)]) (hnd : js.Nodup) (hlen : js.length = 1) (hR : RMok rmX9_drawn R 6) (hsize : ls.size = nL) (hrest : (rest.map fun v => v.category).sum ≤ 8) (hdg : decode cc pc = .ok (.invokevirtual index, 3)) (hcs : cells ≤ R.cells ∧ slots ≤ R.slots)
    (kk : ∀ (H1 : Heap) (locs1 : List Loc), PW D A H0 (setAll Ps js [pX9 cy o0 q0 u]) H1 locs1 → W p l e R s m args below meth c H1 locs1 cells slots Q (F0 m (pc + 3) ls (rest))) : W p l e R s m args below meth c H locs cells slots Q (F0 m pc ls (.int x2 :: .int x1 :: .ref o0 :: rest)) :=
  w_callV (n := 2) (ov := none) (As := [.int x1, .int x2]) (Cs := [pX9 cy o0 q0 σ0]) (Cs' := [pX9 cy o0 q0 u]) S hw (c_X9_drawn l D cy o0 q0 x1 x2 σ0 u hf) (MF.of S.2.2.2.2 wd1139 wd79 (by decide)) (S.2.2.2.2.wd wd1138 rfl) (S.2.2.2.2.wd wd62 rfl) hl hR js hC hnd hlen rfl rfl rfl rfl hsize rfl hrest hdg hcs kk
end
abbrev rmX9_year : Room := { frames := 6, cells := 0, slots := 0, locals := 135 }
def fl_X9_year_55 (y2 : Int32) (y3 : Int32)  : Nat → Int32 → Int32 → pStt → Option (pStt)
  | 0, _, _, _ => none
  | n + 1, y4, y5, σ0 => if y2 ≤ y5 then some σ0 else (f_X9_drawn (((((((75 : Int64) * (y4 : Int32).toInt64) + (74 : Int64)) - (((75 : Int64) * (y4 : Int32).toInt64) + (74 : Int64)) / 65537 * 65537) : Int64).toInt32 - (((((75 : Int64) * (y4 : Int32).toInt64) + (74 : Int64)) - (((75 : Int64) * (y4 : Int32).toInt64) + (74 : Int64)) / 65537 * 65537) : Int64).toInt32 / 8 * 8)) (((((((75 : Int64) * (y4 : Int32).toInt64) + (74 : Int64)) - (((75 : Int64) * (y4 : Int32).toInt64) + (74 : Int64)) / 65537 * 65537) : Int64).toInt32 / 8)) σ0).bind (fun u_10 => fl_X9_year_55 y2 y3 n ((((((75 : Int64) * (y4 : Int32).toInt64) + (74 : Int64)) - (((75 : Int64) * (y4 : Int32).toInt64) + (74 : Int64)) / 65537 * 65537) : Int64).toInt32) ((y5 + 1)) u_10)
def f_X9_year (x1 : Int32) (x2 : Int32) (x3 : Int32) (σ0 : pStt) : Option (Int32 × pStt) := (f_X9_in ((x1 : Int32).toInt64) 0 9999).bind (fun u_1 => if u_1 = 0 then some ((-2), σ0) else (f_X9_in ((x2 : Int32).toInt64) 1 99).bind (fun u_3 => if u_3 = 0 then some ((-2), σ0) else (f_X9_in ((x3 : Int32).toInt64) 0 2).bind (fun u_5 => if u_5 = 0 then some ((-2), σ0) else (f_X9_carryAll 0 σ0).bind (fun u_7 => (some (sI u_7 6 0)).bind (fun σ_8 => (fl_X9_year_55 x2 x3 2000 x1 0 σ_8).bind (fun u_11 => (if x3 = 0 then (f_X9_whoIsThere u_11).bind (fun u_17 => some u_17) else if x3 = 1 then some ((u_11.1 6)) else (f_X9_waysAll u_11).bind (fun u_16 => some u_16) : Option Int32).bind (fun v_12 => (f_X9_back v_12 u_11).bind (fun u_13 => some (u_13.1, u_13.2)))))))))
section
variable {p : Program} {l : Launch} {e : Env} {s : State} {m : MethodId} {args : Array Value} {below : List Frame} {meth : Method} {c : Code} {Q : State → Prop} {D : va_G} {cy : Nat → ClassId} {A : Nat → Prop} {H0 : Heap}
set_option maxHeartbeats 4000000 in
set_option maxRecDepth 100000 in
theorem lp_X9_year_55 (S : CX p m c cX9_year 6 s args RX9 D cy) {o0 : Nat} {q0 : Nat → Nat}  {y2 : Int32} {y3 : Int32} : ∀ (n : Nat) (y4 : Int32) (y5 : Int32) (σ0 : pStt) (H : Heap) (locs : List Loc) (ls : Array Slot) (u : pStt), PW D A H0 [pX9 cy o0 q0 σ0] H locs → lv_has ls 6 [(0, .ref o0), (2, .int y2), (3, .int y3), (4, .int y4), (5, .int y5)] → fl_X9_year_55 y2 y3 n y4 y5 σ0 = some u → (∀ (H : Heap) (locs : List Loc) (ls : Array Slot), PW D A H0 [pX9 cy o0 q0 u] H locs → lv_has ls 6 [(0, .ref o0), (3, .int y3)] → W p l e rmX9_year s m args below meth c H locs 0 0 Q (F0 m 99 ls [])) → W p l e rmX9_year s m args below meth c H locs 0 0 Q (F0 m 55 ls []) := by
  intro n
  induction n with
  | zero =>
    intro y4 y5 σ0 H locs ls u hw hl hf K0
    rw [fl_X9_year_55] at hf
    cases hf
  | succ n ih =>
    intro y4 y5 σ0 H locs ls u hw hl hf K0
    rw [fl_X9_year_55] at hf
    refine lv_iload S.1 S.2.1 dX9_year_55 (lv_at hl 4 rfl) ?_
    refine lv_iload_n S.1 S.2.1 dX9_year_57 rfl (lv_at hl 1 rfl) ?_
    refine lv_icmp_ge (tgt := 99) S.1 S.2.1 dX9_year_58 (by decide) (fun c_9 => ?_) (fun c_9 => ?_)
    · replace hf := (if_pos c_9).symm.trans hf
      cases hf
      exact K0 _ _ _ hw (lv_sub hl [0, 2] rfl)
    · replace hf := (if_neg c_9).symm.trans hf
      refine lv_ldc2 (v := 75) S.1 S.2.1 S.2.2.2.1 (S.2.2.2.2.wd wd1133 rfl) dX9_year_61 ?_
      refine lv_iload S.1 S.2.1 dX9_year_64 (lv_at hl 3 rfl) ?_
      refine lv_i2l (v := (y4 : Int32).toInt64) S.1 S.2.1 dX9_year_66 rfl ?_
      refine lv_lmul S.1 S.2.1 dX9_year_67 ?_
      refine lv_ldc2 (v := 74) S.1 S.2.1 S.2.2.2.1 (S.2.2.2.2.wd wd1134 rfl) dX9_year_68 ?_
      refine lv_ladd S.1 S.2.1 dX9_year_71 ?_
      refine lv_ldc2 (v := 65537) S.1 S.2.1 S.2.2.2.1 (S.2.2.2.2.wd wd1135 rfl) dX9_year_72 ?_
      refine lv_lrem S.1 S.2.1 dX9_year_75 (by decide) ?_
      refine lv_l2i (v := (((((75 : Int64) * (y4 : Int32).toInt64) + (74 : Int64)) - (((75 : Int64) * (y4 : Int32).toInt64) + (74 : Int64)) / 65537 * 65537) : Int64).toInt32) S.1 S.2.1 dX9_year_76 rfl ?_
      refine lv_istore (lv' := [(4, .int ((((((75 : Int64) * (y4 : Int32).toInt64) + (74 : Int64)) - (((75 : Int64) * (y4 : Int32).toInt64) + (74 : Int64)) / 65537 * 65537) : Int64).toInt32)), (0, .ref o0), (2, .int y2), (3, .int y3), (5, .int y5)]) S.1 S.2.1 dX9_year_77 hl (by decide) rfl (fun ls hl => ?_)
      refine lv_aload_n S.1 S.2.1 dX9_year_79 rfl (lv_at hl 1 rfl) ?_
      refine lv_iload S.1 S.2.1 dX9_year_80 (lv_at hl 0 rfl) ?_
      refine lv_bipush (v := 8) S.1 S.2.1 dX9_year_82 (by decide) ?_
      refine lv_irem S.1 S.2.1 dX9_year_84 (by decide) ?_
      refine lv_iload S.1 S.2.1 dX9_year_85 (lv_at hl 0 rfl) ?_
      refine lv_bipush (v := 8) S.1 S.2.1 dX9_year_87 (by decide) ?_
      refine lv_idiv S.1 S.2.1 dX9_year_89 (by decide) ?_
      obtain ⟨u_10, e_u_10, hf⟩ := ob hf
      refine k_X9_drawn S (S.2.2.2.2.wd wd1136 rfl) hw e_u_10 [0] rfl (by decide) rfl ⟨rfl, rfl, Nat.le_of_ble_eq_true rfl, Nat.le_of_ble_eq_true rfl⟩ hl.1 (Nat.le_of_ble_eq_true rfl) dX9_year_90 ⟨Nat.zero_le _, Nat.zero_le _⟩ (fun H locs hw => ?_)
      have hw : PW D A H0 [pX9 cy o0 q0 u_10] H locs := hw
      refine lv_iinc (v := (y5 + 1)) (lv' := [(5, .int ((y5 + 1))), (4, .int ((((((75 : Int64) * (y4 : Int32).toInt64) + (74 : Int64)) - (((75 : Int64) * (y4 : Int32).toInt64) + (74 : Int64)) / 65537 * 65537) : Int64).toInt32)), (0, .ref o0), (2, .int y2), (3, .int y3)]) S.1 S.2.1 dX9_year_93 hl (k := 4) rfl rfl (by decide) rfl (fun ls hl => ?_)
      refine lv_goto (tgt := 55) S.1 S.2.1 dX9_year_96 (by decide) ?_
      exact ih _ _ _ _ _ _ _ hw (lv_sub hl [2, 3, 4, 1, 0] rfl) hf K0
end
set_option maxHeartbeats 4000000 in
set_option maxRecDepth 100000 in
theorem c_X9_year (l : Launch) (D : va_G) (cy : Nat → ClassId) (o0 : Nat) (q0 : Nat → Nat) (x1 : Int32) (x2 : Int32) (x3 : Int32) (σ0 : pStt) (u : Int32 × pStt) (hf : f_X9_year x1 x2 x3 σ0 = some u) : CT l yX9_year cX9_year 6 (some .int) rmX9_year D cy [.ref o0, .int x1, .int x2, .int x3] [pX9 cy o0 q0 σ0] (some (.int u.1)) [pX9 cy o0 q0 u.2] := by
  refine CT.of (by decide) (Nat.le_of_ble_eq_true rfl) (fun p e s m args below meth c ls A Q hA hQ S hr hlk hl hw => ?_)
  have hl : lv_has ls 6 [(0, .ref o0), (1, .int x1), (2, .int x2), (3, .int x3)] := hl
  rw [f_X9_year] at hf
  refine lv_iload_n S.1 S.2.1 dX9_year_0 rfl (lv_at hl 1 rfl) ?_
  refine lv_i2l (v := (x1 : Int32).toInt64) S.1 S.2.1 dX9_year_1 rfl ?_
  refine lv_lconst (v := 0) S.1 S.2.1 dX9_year_2 (by decide) ?_
  refine lv_ldc2 (v := 9999) S.1 S.2.1 S.2.2.2.1 (S.2.2.2.2.wd wd1131 rfl) dX9_year_3 ?_
  obtain ⟨u_1, e_u_1, hf⟩ := ob hf
  refine k_X9_in S (S.2.2.2.2.wd wd818 rfl) hw e_u_1 [] rfl (by decide) rfl ⟨rfl, rfl, Nat.le_of_ble_eq_true rfl, Nat.le_of_ble_eq_true rfl⟩ hl.1 (Nat.le_of_ble_eq_true rfl) dX9_year_6 ⟨Nat.zero_le _, Nat.zero_le _⟩ (fun H locs hw => ?_)
  have hw : PW D A s.heap [pX9 cy o0 q0 σ0] H locs := hw
  refine lv_if_eq (tgt := 36) S.1 S.2.1 dX9_year_9 (by decide) (fun c_2 => ?_) (fun c_2 => ?_)
  · replace hf := (if_pos c_2).symm.trans hf
    refine lv_bipush (v := (-2)) S.1 S.2.1 dX9_year_36 (by decide) ?_
    cases hf
    exact w_iret S hr hlk hA hQ hw dX9_year_38
  · replace hf := (if_neg c_2).symm.trans hf
    refine lv_iload_n S.1 S.2.1 dX9_year_12 rfl (lv_at hl 2 rfl) ?_
    refine lv_i2l (v := (x2 : Int32).toInt64) S.1 S.2.1 dX9_year_13 rfl ?_
    refine lv_lconst (v := 1) S.1 S.2.1 dX9_year_14 (by decide) ?_
    refine lv_ldc2 (v := 99) S.1 S.2.1 S.2.2.2.1 (S.2.2.2.2.wd wd1132 rfl) dX9_year_15 ?_
    obtain ⟨u_3, e_u_3, hf⟩ := ob hf
    refine k_X9_in S (S.2.2.2.2.wd wd818 rfl) hw e_u_3 [] rfl (by decide) rfl ⟨rfl, rfl, Nat.le_of_ble_eq_true rfl, Nat.le_of_ble_eq_true rfl⟩ hl.1 (Nat.le_of_ble_eq_true rfl) dX9_year_18 ⟨Nat.zero_le _, Nat.zero_le _⟩ (fun H locs hw => ?_)
    have hw : PW D A s.heap [pX9 cy o0 q0 σ0] H locs := hw
    refine lv_if_eq (tgt := 36) S.1 S.2.1 dX9_year_21 (by decide) (fun c_4 => ?_) (fun c_4 => ?_)
    · replace hf := (if_pos c_4).symm.trans hf
      refine lv_bipush (v := (-2)) S.1 S.2.1 dX9_year_36 (by decide) ?_
      cases hf
      exact w_iret S hr hlk hA hQ hw dX9_year_38
    · replace hf := (if_neg c_4).symm.trans hf
      refine lv_iload_n S.1 S.2.1 dX9_year_24 rfl (lv_at hl 3 rfl) ?_
      refine lv_i2l (v := (x3 : Int32).toInt64) S.1 S.2.1 dX9_year_25 rfl ?_
      refine lv_lconst (v := 0) S.1 S.2.1 dX9_year_26 (by decide) ?_
      refine lv_ldc2 (v := 2) S.1 S.2.1 S.2.2.2.1 (S.2.2.2.2.wd wd913 rfl) dX9_year_27 ?_
      obtain ⟨u_5, e_u_5, hf⟩ := ob hf
      refine k_X9_in S (S.2.2.2.2.wd wd818 rfl) hw e_u_5 [] rfl (by decide) rfl ⟨rfl, rfl, Nat.le_of_ble_eq_true rfl, Nat.le_of_ble_eq_true rfl⟩ hl.1 (Nat.le_of_ble_eq_true rfl) dX9_year_30 ⟨Nat.zero_le _, Nat.zero_le _⟩ (fun H locs hw => ?_)
      have hw : PW D A s.heap [pX9 cy o0 q0 σ0] H locs := hw
      refine lv_if_ne (tgt := 39) S.1 S.2.1 dX9_year_33 (by decide) (fun c_6 => ?_) (fun c_6 => ?_)
      · replace hf := (if_neg c_6).symm.trans hf
        refine lv_aload_n S.1 S.2.1 dX9_year_39 rfl (lv_at hl 0 rfl) ?_
        refine lv_iconst (v := 0) S.1 S.2.1 dX9_year_40 (by decide) ?_
        obtain ⟨u_7, e_u_7, hf⟩ := ob hf
        refine k_X9_carryAll S (S.2.2.2.2.wd wd918 rfl) hw e_u_7 [0] rfl (by decide) rfl ⟨rfl, rfl, Nat.le_of_ble_eq_true rfl, Nat.le_of_ble_eq_true rfl⟩ hl.1 (Nat.le_of_ble_eq_true rfl) dX9_year_41 ⟨Nat.zero_le _, Nat.zero_le _⟩ (fun H locs hw => ?_)
        have hw : PW D A s.heap [pX9 cy o0 q0 u_7] H locs := hw
        refine lv_aload_n S.1 S.2.1 dX9_year_44 rfl (lv_at hl 0 rfl) ?_
        refine lv_iconst (v := 0) S.1 S.2.1 dX9_year_45 (by decide) ?_
        obtain ⟨σ_8, e_σ_8, hf⟩ := ob hf
        refine pf_X9_181 S hw 0 rfl e_σ_8 dX9_year_46 (fun H locs hw => ?_)
        have hw : PW D A s.heap [pX9 cy o0 q0 σ_8] H locs := hw
        refine lv_iload_n S.1 S.2.1 dX9_year_49 rfl (lv_at hl 1 rfl) ?_
        refine lv_istore (lv' := [(4, .int x1), (0, .ref o0), (1, .int x1), (2, .int x2), (3, .int x3)]) S.1 S.2.1 dX9_year_50 hl (by decide) rfl (fun ls hl => ?_)
        refine lv_iconst (v := 0) S.1 S.2.1 dX9_year_52 (by decide) ?_
        refine lv_istore (lv' := [(5, .int 0), (4, .int x1), (0, .ref o0), (1, .int x1), (2, .int x2), (3, .int x3)]) S.1 S.2.1 dX9_year_53 hl (by decide) rfl (fun ls hl => ?_)
        obtain ⟨u_11, e_u_11, hf⟩ := ob hf
        refine lp_X9_year_55 S 2000 _ _ _ _ _ _ _ hw (lv_sub hl [2, 4, 5, 1, 0] rfl) e_u_11 ?_
        · intro H locs ls hw hl
          refine lv_aload_n S.1 S.2.1 dX9_year_99 rfl (lv_at hl 0 rfl) ?_
          refine lv_iload_n S.1 S.2.1 dX9_year_100 rfl (lv_at hl 1 rfl) ?_
          obtain ⟨v_12, e_v_12, hf⟩ := ob hf
          have hJ_v_12 : ∀ (H : Heap) (locs : List Loc), PW D A s.heap [pX9 cy o0 q0 u_11] H locs → W p l e rmX9_year s m args below meth c H locs 0 0 Q (F0 m 127 ls [.int v_12, .ref o0]) := by
            intro H locs hw
            obtain ⟨u_13, e_u_13, hf⟩ := ob hf
            refine k_X9_back S (S.2.2.2.2.wd wd982 rfl) hw e_u_13 [0] rfl (by decide) rfl ⟨rfl, rfl, Nat.le_of_ble_eq_true rfl, Nat.le_of_ble_eq_true rfl⟩ hl.1 (Nat.le_of_ble_eq_true rfl) dX9_year_127 ⟨Nat.zero_le _, Nat.zero_le _⟩ (fun H locs hw => ?_)
            have hw : PW D A s.heap [pX9 cy o0 q0 u_13.2] H locs := hw
            cases hf
            exact w_iret S hr hlk hA hQ hw dX9_year_130
          replace hf := e_v_12
          clear e_v_12
          refine lv_if_ne (tgt := 111) S.1 S.2.1 dX9_year_101 (by decide) (fun c_14 => ?_) (fun c_14 => ?_)
          · replace hf := (if_neg c_14).symm.trans hf
            refine lv_iload_n S.1 S.2.1 dX9_year_111 rfl (lv_at hl 1 rfl) ?_
            refine lv_iconst (v := 1) S.1 S.2.1 dX9_year_112 (by decide) ?_
            refine lv_icmp_ne (tgt := 123) S.1 S.2.1 dX9_year_113 (by decide) (fun c_15 => ?_) (fun c_15 => ?_)
            · replace hf := (if_neg c_15).symm.trans hf
              refine lv_aload_n S.1 S.2.1 dX9_year_123 rfl (lv_at hl 0 rfl) ?_
              obtain ⟨u_16, e_u_16, hf⟩ := ob hf
              refine k_X9_waysAll S (S.2.2.2.2.wd wd825 rfl) hw e_u_16 [0] rfl (by decide) rfl ⟨rfl, rfl, Nat.le_of_ble_eq_true rfl, Nat.le_of_ble_eq_true rfl⟩ hl.1 (Nat.le_of_ble_eq_true rfl) dX9_year_124 ⟨Nat.zero_le _, Nat.zero_le _⟩ (fun H locs hw => ?_)
              have hw : PW D A s.heap [pX9 cy o0 q0 u_11] H locs := hw
              cases hf
              exact hJ_v_12 _ _ hw
            · replace hf := (if_pos c_15).symm.trans hf
              refine lv_aload_n S.1 S.2.1 dX9_year_116 rfl (lv_at hl 0 rfl) ?_
              refine gf_X9_181 S hw 0 rfl dX9_year_117 ?_
              refine lv_goto (tgt := 127) S.1 S.2.1 dX9_year_120 (by decide) ?_
              cases hf
              exact hJ_v_12 _ _ hw
          · replace hf := (if_pos c_14).symm.trans hf
            refine lv_aload_n S.1 S.2.1 dX9_year_104 rfl (lv_at hl 0 rfl) ?_
            obtain ⟨u_17, e_u_17, hf⟩ := ob hf
            refine k_X9_whoIsThere S (S.2.2.2.2.wd wd1012 rfl) hw e_u_17 [0] rfl (by decide) rfl ⟨rfl, rfl, Nat.le_of_ble_eq_true rfl, Nat.le_of_ble_eq_true rfl⟩ hl.1 (Nat.le_of_ble_eq_true rfl) dX9_year_105 ⟨Nat.zero_le _, Nat.zero_le _⟩ (fun H locs hw => ?_)
            have hw : PW D A s.heap [pX9 cy o0 q0 u_11] H locs := hw
            refine lv_goto (tgt := 127) S.1 S.2.1 dX9_year_108 (by decide) ?_
            cases hf
            exact hJ_v_12 _ _ hw
      · replace hf := (if_pos c_6).symm.trans hf
        refine lv_bipush (v := (-2)) S.1 S.2.1 dX9_year_36 (by decide) ?_
        cases hf
        exact w_iret S hr hlk hA hQ hw dX9_year_38
section
variable {p : Program} {l : Launch} {e : Env} {R : Room} {s : State} {m : MethodId} {args : Array Value} {below : List Frame} {meth : Method} {c : Code} {H : Heap} {locs : List Loc} {cells slots : Nat} {Q : State → Prop} {cc : ByteArray} {pc nL : Nat} {ls : Array Slot} {rest : List Value} {D : va_G} {cy : Nat → ClassId} {A : Nat → Prop} {H0 : Heap} {own : String} {Ps : List va_W}
set_option maxRecDepth 100000 in
theorem k_X9_year {o0 : Nat} {q0 : Nat → Nat} {x1 : Int32} {x2 : Int32} {x3 : Int32} {σ0 : pStt} {u : Int32 × pStt} {index : Nat} (S : CX p m c cc nL s args own D cy) (hl : (Cond.methodLink own index yX9_year).before args s = true) (hw : PW D A H0 Ps H locs) (hf : f_X9_year x1 x2 x3 σ0 = some u) (js : List Nat) (hC : js.map (fun j => Ps[j]?) = [some (pX9 cy o0 q0 σ0)]) (hnd : js.Nodup) (hlen : js.length = 1) (hR : RMok rmX9_year R 6) (hsize : ls.size = nL) (hrest : (rest.map fun v => v.category).sum ≤ 8) (hdg : decode cc pc = .ok (.invokevirtual index, 3)) (hcs : cells ≤ R.cells ∧ slots ≤ R.slots)
    (kk : ∀ (H1 : Heap) (locs1 : List Loc), PW D A H0 (setAll Ps js [pX9 cy o0 q0 u.2]) H1 locs1 → W p l e R s m args below meth c H1 locs1 cells slots Q (F0 m (pc + 3) ls (.int u.1 :: rest))) : W p l e R s m args below meth c H locs cells slots Q (F0 m pc ls (.int x3 :: .int x2 :: .int x1 :: .ref o0 :: rest)) :=
  w_callV (n := 3) (ov := (some (.int u.1))) (As := [.int x1, .int x2, .int x3]) (Cs := [pX9 cy o0 q0 σ0]) (Cs' := [pX9 cy o0 q0 u.2]) S hw (c_X9_year l D cy o0 q0 x1 x2 x3 σ0 u hf) (MF.of S.2.2.2.2 wd1130 wd79 (by decide)) (S.2.2.2.2.wd wd1128 rfl) (S.2.2.2.2.wd wd1129 rfl) hl hR js hC hnd hlen rfl rfl rfl rfl hsize rfl hrest hdg hcs kk
end
abbrev rmX9_pass : Room := { frames := 0, cells := 0, slots := 0, locals := 0 }
def f_X9_pass (x1 : Int32) (σ0 : pStt) : Option (Int32 × pStt) := (if (σ0.1 15) = 0 then (ld (σ0.2 19) 220 ((σ0.1 14))).bind (fun x_5 => some x_5) else some x1 : Option Int32).bind (fun v_1 => (stA σ0 19 220 ((σ0.1 14)) v_1).bind (fun σ_2 => (some (sI σ_2 14 (((σ_2.1 14) + (1 : Int32))))).bind (fun σ_3 => some (v_1, σ_3))))
set_option maxHeartbeats 4000000 in
set_option maxRecDepth 100000 in
theorem c_X9_pass (l : Launch) (D : va_G) (cy : Nat → ClassId) (o0 : Nat) (q0 : Nat → Nat) (x1 : Int32) (σ0 : pStt) (u : Int32 × pStt) (hf : f_X9_pass x1 σ0 = some u) : CT l yX9_pass cX9_pass 3 (some .int) rmX9_pass D cy [.ref o0, .int x1] [pX9 cy o0 q0 σ0] (some (.int u.1)) [pX9 cy o0 q0 u.2] := by
  refine CT.of (by decide) (Nat.le_of_ble_eq_true rfl) (fun p e s m args below meth c ls A Q hA hQ S hr hlk hl hw => ?_)
  have hl : lv_has ls 3 [(0, .ref o0), (1, .int x1)] := hl
  rw [f_X9_pass] at hf
  refine lv_aload_n S.1 S.2.1 dX9_pass_0 rfl (lv_at hl 0 rfl) ?_
  refine gf_X9_347 S hw 0 rfl dX9_pass_1 ?_
  obtain ⟨v_1, e_v_1, hf⟩ := ob hf
  have hJ_v_1 : ∀ (H : Heap) (locs : List Loc), PW D A s.heap [pX9 cy o0 q0 σ0] H locs → W p l e rmX9_pass s m args below meth c H locs 0 0 Q (F0 m 20 ls [.int v_1]) := by
    intro H locs hw
    refine lv_istore_n (lv' := [(2, .int v_1), (0, .ref o0), (1, .int x1)]) S.1 S.2.1 dX9_pass_20 rfl hl (by decide) rfl (fun ls hl => ?_)
    refine lv_aload_n S.1 S.2.1 dX9_pass_21 rfl (lv_at hl 1 rfl) ?_
    refine gf_X9_68 S hw 0 rfl dX9_pass_22 ?_
    refine lv_aload_n S.1 S.2.1 dX9_pass_25 rfl (lv_at hl 1 rfl) ?_
    refine gf_X9_350 S hw 0 rfl dX9_pass_26 ?_
    refine lv_iload_n S.1 S.2.1 dX9_pass_29 rfl (lv_at hl 0 rfl) ?_
    obtain ⟨σ_2, e_σ_2, hf⟩ := ob hf
    refine as_X9_19 S hw 0 rfl e_σ_2 dX9_pass_30 (fun H locs hw => ?_)
    have hw : PW D A s.heap [pX9 cy o0 q0 σ_2] H locs := hw
    refine lv_aload_n S.1 S.2.1 dX9_pass_31 rfl (lv_at hl 1 rfl) ?_
    refine lv_dup S.1 S.2.1 dX9_pass_32 rfl ?_
    refine gf_X9_350 S hw 0 rfl dX9_pass_33 ?_
    refine lv_iconst (v := 1) S.1 S.2.1 dX9_pass_36 (by decide) ?_
    refine lv_iadd S.1 S.2.1 dX9_pass_37 ?_
    obtain ⟨σ_3, e_σ_3, hf⟩ := ob hf
    refine pf_X9_350 S hw 0 rfl e_σ_3 dX9_pass_38 (fun H locs hw => ?_)
    have hw : PW D A s.heap [pX9 cy o0 q0 σ_3] H locs := hw
    refine lv_iload_n S.1 S.2.1 dX9_pass_41 rfl (lv_at hl 0 rfl) ?_
    cases hf
    exact w_iret S hr hlk hA hQ hw dX9_pass_42
  replace hf := e_v_1
  clear e_v_1
  refine lv_if_eq (tgt := 11) S.1 S.2.1 dX9_pass_4 (by decide) (fun c_4 => ?_) (fun c_4 => ?_)
  · replace hf := (if_pos c_4).symm.trans hf
    refine lv_aload_n S.1 S.2.1 dX9_pass_11 rfl (lv_at hl 0 rfl) ?_
    refine gf_X9_68 S hw 0 rfl dX9_pass_12 ?_
    refine lv_aload_n S.1 S.2.1 dX9_pass_15 rfl (lv_at hl 0 rfl) ?_
    refine gf_X9_350 S hw 0 rfl dX9_pass_16 ?_
    obtain ⟨x_5, e_x_5, hf⟩ := ob hf
    refine al_X9_19 S hw 0 rfl e_x_5 dX9_pass_19 ?_
    cases hf
    exact hJ_v_1 _ _ hw
  · replace hf := (if_neg c_4).symm.trans hf
    refine lv_iload_n S.1 S.2.1 dX9_pass_7 rfl (lv_at hl 1 rfl) ?_
    refine lv_goto (tgt := 20) S.1 S.2.1 dX9_pass_8 (by decide) ?_
    cases hf
    exact hJ_v_1 _ _ hw
section
variable {p : Program} {l : Launch} {e : Env} {R : Room} {s : State} {m : MethodId} {args : Array Value} {below : List Frame} {meth : Method} {c : Code} {H : Heap} {locs : List Loc} {cells slots : Nat} {Q : State → Prop} {cc : ByteArray} {pc nL : Nat} {ls : Array Slot} {rest : List Value} {D : va_G} {cy : Nat → ClassId} {A : Nat → Prop} {H0 : Heap} {own : String} {Ps : List va_W}
set_option maxRecDepth 100000 in
theorem k_X9_pass {o0 : Nat} {q0 : Nat → Nat} {x1 : Int32} {σ0 : pStt} {u : Int32 × pStt} {index : Nat} (S : CX p m c cc nL s args own D cy) (hl : (Cond.methodLink own index yX9_pass).before args s = true) (hw : PW D A H0 Ps H locs) (hf : f_X9_pass x1 σ0 = some u) (js : List Nat) (hC : js.map (fun j => Ps[j]?) = [some (pX9 cy o0 q0 σ0)]) (hnd : js.Nodup) (hlen : js.length = 1) (hR : RMok rmX9_pass R 3) (hsize : ls.size = nL) (hrest : (rest.map fun v => v.category).sum ≤ 8) (hdg : decode cc pc = .ok (.invokevirtual index, 3)) (hcs : cells ≤ R.cells ∧ slots ≤ R.slots)
    (kk : ∀ (H1 : Heap) (locs1 : List Loc), PW D A H0 (setAll Ps js [pX9 cy o0 q0 u.2]) H1 locs1 → W p l e R s m args below meth c H1 locs1 cells slots Q (F0 m (pc + 3) ls (.int u.1 :: rest))) : W p l e R s m args below meth c H locs cells slots Q (F0 m pc ls (.int x1 :: .ref o0 :: rest)) :=
  w_callV (n := 1) (ov := (some (.int u.1))) (As := [.int x1]) (Cs := [pX9 cy o0 q0 σ0]) (Cs' := [pX9 cy o0 q0 u.2]) S hw (c_X9_pass l D cy o0 q0 x1 σ0 u hf) (MF.of S.2.2.2.2 wd1154 wd79 (by decide)) (S.2.2.2.2.wd wd1153 rfl) (S.2.2.2.2.wd wd64 rfl) hl hR js hC hnd hlen rfl rfl rfl rfl hsize rfl hrest hdg hcs kk
end
abbrev rmX9_passRow_a0 : Room := { frames := 1, cells := 0, slots := 0, locals := 22 }
def fl_X9_passRow_a0_2 (y2 : Int32)  : Nat → Int32 → pStt → Option (pStt)
  | 0, _, _ => none
  | n + 1, y3, σ0 => if y2 ≤ y3 then some σ0 else (ld (σ0.2 0) 8 y3).bind (fun x_2 => (f_X9_pass x_2 σ0).bind (fun u_3 => (stA u_3.2 0 8 y3 u_3.1).bind (fun σ_4 => fl_X9_passRow_a0_2 y2 n ((y3 + 1)) σ_4)))
def f_X9_passRow_a0 (x2 : Int32) (σ0 : pStt) : Option (pStt) := (fl_X9_passRow_a0_2 x2 2000 0 σ0).bind (fun u_5 => some u_5)
section
variable {p : Program} {l : Launch} {e : Env} {s : State} {m : MethodId} {args : Array Value} {below : List Frame} {meth : Method} {c : Code} {Q : State → Prop} {D : va_G} {cy : Nat → ClassId} {A : Nat → Prop} {H0 : Heap}
set_option maxHeartbeats 4000000 in
set_option maxRecDepth 100000 in
theorem lp_X9_passRow_a0_2 (S : CX p m c cX9_passRow 4 s args RX9 D cy) {o0 : Nat} {q0 : Nat → Nat}  {y2 : Int32} : ∀ (n : Nat) (y3 : Int32) (σ0 : pStt) (H : Heap) (locs : List Loc) (ls : Array Slot) (u : pStt), PW D A H0 [pX9 cy o0 q0 σ0] H locs → lv_has ls 4 [(0, .ref o0), (1, .ref ((q0 0))), (2, .int y2), (3, .int y3)] → fl_X9_passRow_a0_2 y2 n y3 σ0 = some u → (∀ (H : Heap) (locs : List Loc) (ls : Array Slot), PW D A H0 [pX9 cy o0 q0 u] H locs → lv_has ls 4 [] → W p l e rmX9_passRow_a0 s m args below meth c H locs 0 0 Q (F0 m 23 ls [])) → W p l e rmX9_passRow_a0 s m args below meth c H locs 0 0 Q (F0 m 2 ls []) := by
  intro n
  induction n with
  | zero =>
    intro y3 σ0 H locs ls u hw hl hf K0
    rw [fl_X9_passRow_a0_2] at hf
    cases hf
  | succ n ih =>
    intro y3 σ0 H locs ls u hw hl hf K0
    rw [fl_X9_passRow_a0_2] at hf
    refine lv_iload_n S.1 S.2.1 dX9_passRow_2 rfl (lv_at hl 3 rfl) ?_
    refine lv_iload_n S.1 S.2.1 dX9_passRow_3 rfl (lv_at hl 2 rfl) ?_
    refine lv_icmp_ge (tgt := 23) S.1 S.2.1 dX9_passRow_4 (by decide) (fun c_1 => ?_) (fun c_1 => ?_)
    · replace hf := (if_pos c_1).symm.trans hf
      cases hf
      exact K0 _ _ _ hw (lv_sub hl [] rfl)
    · replace hf := (if_neg c_1).symm.trans hf
      refine lv_aload_n S.1 S.2.1 dX9_passRow_7 rfl (lv_at hl 1 rfl) ?_
      refine lv_iload_n S.1 S.2.1 dX9_passRow_8 rfl (lv_at hl 3 rfl) ?_
      refine lv_aload_n S.1 S.2.1 dX9_passRow_9 rfl (lv_at hl 0 rfl) ?_
      refine lv_aload_n S.1 S.2.1 dX9_passRow_10 rfl (lv_at hl 1 rfl) ?_
      refine lv_iload_n S.1 S.2.1 dX9_passRow_11 rfl (lv_at hl 3 rfl) ?_
      obtain ⟨x_2, e_x_2, hf⟩ := ob hf
      refine al_X9_0 S hw 0 rfl e_x_2 dX9_passRow_12 ?_
      obtain ⟨u_3, e_u_3, hf⟩ := ob hf
      refine k_X9_pass S (S.2.2.2.2.wd wd1151 rfl) hw e_u_3 [0] rfl (by decide) rfl ⟨rfl, rfl, Nat.le_of_ble_eq_true rfl, Nat.le_of_ble_eq_true rfl⟩ hl.1 (Nat.le_of_ble_eq_true rfl) dX9_passRow_13 ⟨Nat.zero_le _, Nat.zero_le _⟩ (fun H locs hw => ?_)
      have hw : PW D A H0 [pX9 cy o0 q0 u_3.2] H locs := hw
      obtain ⟨σ_4, e_σ_4, hf⟩ := ob hf
      refine as_X9_0 S hw 0 rfl e_σ_4 dX9_passRow_16 (fun H locs hw => ?_)
      have hw : PW D A H0 [pX9 cy o0 q0 σ_4] H locs := hw
      refine lv_iinc (v := (y3 + 1)) (lv' := [(3, .int ((y3 + 1))), (0, .ref o0), (1, .ref ((q0 0))), (2, .int y2)]) S.1 S.2.1 dX9_passRow_17 hl (k := 3) rfl rfl (by decide) rfl (fun ls hl => ?_)
      refine lv_goto (tgt := 2) S.1 S.2.1 dX9_passRow_20 (by decide) ?_
      exact ih _ _ _ _ _ _ hw (lv_sub hl [1, 2, 3, 0] rfl) hf K0
end
set_option maxHeartbeats 4000000 in
set_option maxRecDepth 100000 in
theorem c_X9_passRow_a0 (l : Launch) (D : va_G) (cy : Nat → ClassId) (o0 : Nat) (q0 : Nat → Nat) (x2 : Int32) (σ0 : pStt) (u : pStt) (hf : f_X9_passRow_a0 x2 σ0 = some u) : CT l yX9_passRow cX9_passRow 4 none rmX9_passRow_a0 D cy [.ref o0, .ref ((q0 0)), .int x2] [pX9 cy o0 q0 σ0] none [pX9 cy o0 q0 u] := by
  refine CT.of (by decide) (Nat.le_of_ble_eq_true rfl) (fun p e s m args below meth c ls A Q hA hQ S hr hlk hl hw => ?_)
  have hl : lv_has ls 4 [(0, .ref o0), (1, .ref ((q0 0))), (2, .int x2)] := hl
  rw [f_X9_passRow_a0] at hf
  refine lv_iconst (v := 0) S.1 S.2.1 dX9_passRow_0 (by decide) ?_
  refine lv_istore_n (lv' := [(3, .int 0), (0, .ref o0), (1, .ref ((q0 0))), (2, .int x2)]) S.1 S.2.1 dX9_passRow_1 rfl hl (by decide) rfl (fun ls hl => ?_)
  obtain ⟨u_5, e_u_5, hf⟩ := ob hf
  refine lp_X9_passRow_a0_2 S 2000 _ _ _ _ _ _ hw (lv_sub hl [1, 2, 3, 0] rfl) e_u_5 ?_
  · intro H locs ls hw hl
    cases hf
    exact w_vret S hr hlk hA hQ hw dX9_passRow_23
section
variable {p : Program} {l : Launch} {e : Env} {R : Room} {s : State} {m : MethodId} {args : Array Value} {below : List Frame} {meth : Method} {c : Code} {H : Heap} {locs : List Loc} {cells slots : Nat} {Q : State → Prop} {cc : ByteArray} {pc nL : Nat} {ls : Array Slot} {rest : List Value} {D : va_G} {cy : Nat → ClassId} {A : Nat → Prop} {H0 : Heap} {own : String} {Ps : List va_W}
set_option maxRecDepth 100000 in
theorem k_X9_passRow_a0 {o0 : Nat} {q0 : Nat → Nat} {x2 : Int32} {σ0 : pStt} {u : pStt} {index : Nat} (S : CX p m c cc nL s args own D cy) (hl : (Cond.methodLink own index yX9_passRow).before args s = true) (hw : PW D A H0 Ps H locs) (hf : f_X9_passRow_a0 x2 σ0 = some u) (js : List Nat) (hC : js.map (fun j => Ps[j]?) = [some (pX9 cy o0 q0 σ0)]) (hnd : js.Nodup) (hlen : js.length = 1) (hR : RMok rmX9_passRow_a0 R 4) (hsize : ls.size = nL) (hrest : (rest.map fun v => v.category).sum ≤ 8) (hdg : decode cc pc = .ok (.invokevirtual index, 3)) (hcs : cells ≤ R.cells ∧ slots ≤ R.slots)
    (kk : ∀ (H1 : Heap) (locs1 : List Loc), PW D A H0 (setAll Ps js [pX9 cy o0 q0 u]) H1 locs1 → W p l e R s m args below meth c H1 locs1 cells slots Q (F0 m (pc + 3) ls (rest))) : W p l e R s m args below meth c H locs cells slots Q (F0 m pc ls (.int x2 :: .ref ((q0 0)) :: .ref o0 :: rest)) :=
  w_callV (n := 2) (ov := none) (As := [.ref ((q0 0)), .int x2]) (Cs := [pX9 cy o0 q0 σ0]) (Cs' := [pX9 cy o0 q0 u]) S hw (c_X9_passRow_a0 l D cy o0 q0 x2 σ0 u hf) (MF.of S.2.2.2.2 wd1158 wd79 (by decide)) (S.2.2.2.2.wd wd1157 rfl) (S.2.2.2.2.wd wd65 rfl) hl hR js hC hnd hlen rfl rfl rfl rfl hsize rfl hrest hdg hcs kk
end
abbrev rmX9_passRow_a1 : Room := { frames := 1, cells := 0, slots := 0, locals := 22 }
def fl_X9_passRow_a1_2 (y2 : Int32)  : Nat → Int32 → pStt → Option (pStt)
  | 0, _, _ => none
  | n + 1, y3, σ0 => if y2 ≤ y3 then some σ0 else (ld (σ0.2 1) 8 y3).bind (fun x_2 => (f_X9_pass x_2 σ0).bind (fun u_3 => (stA u_3.2 1 8 y3 u_3.1).bind (fun σ_4 => fl_X9_passRow_a1_2 y2 n ((y3 + 1)) σ_4)))
def f_X9_passRow_a1 (x2 : Int32) (σ0 : pStt) : Option (pStt) := (fl_X9_passRow_a1_2 x2 2000 0 σ0).bind (fun u_5 => some u_5)
section
variable {p : Program} {l : Launch} {e : Env} {s : State} {m : MethodId} {args : Array Value} {below : List Frame} {meth : Method} {c : Code} {Q : State → Prop} {D : va_G} {cy : Nat → ClassId} {A : Nat → Prop} {H0 : Heap}
set_option maxHeartbeats 4000000 in
set_option maxRecDepth 100000 in
theorem lp_X9_passRow_a1_2 (S : CX p m c cX9_passRow 4 s args RX9 D cy) {o0 : Nat} {q0 : Nat → Nat}  {y2 : Int32} : ∀ (n : Nat) (y3 : Int32) (σ0 : pStt) (H : Heap) (locs : List Loc) (ls : Array Slot) (u : pStt), PW D A H0 [pX9 cy o0 q0 σ0] H locs → lv_has ls 4 [(0, .ref o0), (1, .ref ((q0 1))), (2, .int y2), (3, .int y3)] → fl_X9_passRow_a1_2 y2 n y3 σ0 = some u → (∀ (H : Heap) (locs : List Loc) (ls : Array Slot), PW D A H0 [pX9 cy o0 q0 u] H locs → lv_has ls 4 [] → W p l e rmX9_passRow_a1 s m args below meth c H locs 0 0 Q (F0 m 23 ls [])) → W p l e rmX9_passRow_a1 s m args below meth c H locs 0 0 Q (F0 m 2 ls []) := by
  intro n
  induction n with
  | zero =>
    intro y3 σ0 H locs ls u hw hl hf K0
    rw [fl_X9_passRow_a1_2] at hf
    cases hf
  | succ n ih =>
    intro y3 σ0 H locs ls u hw hl hf K0
    rw [fl_X9_passRow_a1_2] at hf
    refine lv_iload_n S.1 S.2.1 dX9_passRow_2 rfl (lv_at hl 3 rfl) ?_
    refine lv_iload_n S.1 S.2.1 dX9_passRow_3 rfl (lv_at hl 2 rfl) ?_
    refine lv_icmp_ge (tgt := 23) S.1 S.2.1 dX9_passRow_4 (by decide) (fun c_1 => ?_) (fun c_1 => ?_)
    · replace hf := (if_pos c_1).symm.trans hf
      cases hf
      exact K0 _ _ _ hw (lv_sub hl [] rfl)
    · replace hf := (if_neg c_1).symm.trans hf
      refine lv_aload_n S.1 S.2.1 dX9_passRow_7 rfl (lv_at hl 1 rfl) ?_
      refine lv_iload_n S.1 S.2.1 dX9_passRow_8 rfl (lv_at hl 3 rfl) ?_
      refine lv_aload_n S.1 S.2.1 dX9_passRow_9 rfl (lv_at hl 0 rfl) ?_
      refine lv_aload_n S.1 S.2.1 dX9_passRow_10 rfl (lv_at hl 1 rfl) ?_
      refine lv_iload_n S.1 S.2.1 dX9_passRow_11 rfl (lv_at hl 3 rfl) ?_
      obtain ⟨x_2, e_x_2, hf⟩ := ob hf
      refine al_X9_1 S hw 0 rfl e_x_2 dX9_passRow_12 ?_
      obtain ⟨u_3, e_u_3, hf⟩ := ob hf
      refine k_X9_pass S (S.2.2.2.2.wd wd1151 rfl) hw e_u_3 [0] rfl (by decide) rfl ⟨rfl, rfl, Nat.le_of_ble_eq_true rfl, Nat.le_of_ble_eq_true rfl⟩ hl.1 (Nat.le_of_ble_eq_true rfl) dX9_passRow_13 ⟨Nat.zero_le _, Nat.zero_le _⟩ (fun H locs hw => ?_)
      have hw : PW D A H0 [pX9 cy o0 q0 u_3.2] H locs := hw
      obtain ⟨σ_4, e_σ_4, hf⟩ := ob hf
      refine as_X9_1 S hw 0 rfl e_σ_4 dX9_passRow_16 (fun H locs hw => ?_)
      have hw : PW D A H0 [pX9 cy o0 q0 σ_4] H locs := hw
      refine lv_iinc (v := (y3 + 1)) (lv' := [(3, .int ((y3 + 1))), (0, .ref o0), (1, .ref ((q0 1))), (2, .int y2)]) S.1 S.2.1 dX9_passRow_17 hl (k := 3) rfl rfl (by decide) rfl (fun ls hl => ?_)
      refine lv_goto (tgt := 2) S.1 S.2.1 dX9_passRow_20 (by decide) ?_
      exact ih _ _ _ _ _ _ hw (lv_sub hl [1, 2, 3, 0] rfl) hf K0
end
set_option maxHeartbeats 4000000 in
set_option maxRecDepth 100000 in
theorem c_X9_passRow_a1 (l : Launch) (D : va_G) (cy : Nat → ClassId) (o0 : Nat) (q0 : Nat → Nat) (x2 : Int32) (σ0 : pStt) (u : pStt) (hf : f_X9_passRow_a1 x2 σ0 = some u) : CT l yX9_passRow cX9_passRow 4 none rmX9_passRow_a1 D cy [.ref o0, .ref ((q0 1)), .int x2] [pX9 cy o0 q0 σ0] none [pX9 cy o0 q0 u] := by
  refine CT.of (by decide) (Nat.le_of_ble_eq_true rfl) (fun p e s m args below meth c ls A Q hA hQ S hr hlk hl hw => ?_)
  have hl : lv_has ls 4 [(0, .ref o0), (1, .ref ((q0 1))), (2, .int x2)] := hl
  rw [f_X9_passRow_a1] at hf
  refine lv_iconst (v := 0) S.1 S.2.1 dX9_passRow_0 (by decide) ?_
  refine lv_istore_n (lv' := [(3, .int 0), (0, .ref o0), (1, .ref ((q0 1))), (2, .int x2)]) S.1 S.2.1 dX9_passRow_1 rfl hl (by decide) rfl (fun ls hl => ?_)
  obtain ⟨u_5, e_u_5, hf⟩ := ob hf
  refine lp_X9_passRow_a1_2 S 2000 _ _ _ _ _ _ hw (lv_sub hl [1, 2, 3, 0] rfl) e_u_5 ?_
  · intro H locs ls hw hl
    cases hf
    exact w_vret S hr hlk hA hQ hw dX9_passRow_23
section
variable {p : Program} {l : Launch} {e : Env} {R : Room} {s : State} {m : MethodId} {args : Array Value} {below : List Frame} {meth : Method} {c : Code} {H : Heap} {locs : List Loc} {cells slots : Nat} {Q : State → Prop} {cc : ByteArray} {pc nL : Nat} {ls : Array Slot} {rest : List Value} {D : va_G} {cy : Nat → ClassId} {A : Nat → Prop} {H0 : Heap} {own : String} {Ps : List va_W}
set_option maxRecDepth 100000 in
theorem k_X9_passRow_a1 {o0 : Nat} {q0 : Nat → Nat} {x2 : Int32} {σ0 : pStt} {u : pStt} {index : Nat} (S : CX p m c cc nL s args own D cy) (hl : (Cond.methodLink own index yX9_passRow).before args s = true) (hw : PW D A H0 Ps H locs) (hf : f_X9_passRow_a1 x2 σ0 = some u) (js : List Nat) (hC : js.map (fun j => Ps[j]?) = [some (pX9 cy o0 q0 σ0)]) (hnd : js.Nodup) (hlen : js.length = 1) (hR : RMok rmX9_passRow_a1 R 4) (hsize : ls.size = nL) (hrest : (rest.map fun v => v.category).sum ≤ 8) (hdg : decode cc pc = .ok (.invokevirtual index, 3)) (hcs : cells ≤ R.cells ∧ slots ≤ R.slots)
    (kk : ∀ (H1 : Heap) (locs1 : List Loc), PW D A H0 (setAll Ps js [pX9 cy o0 q0 u]) H1 locs1 → W p l e R s m args below meth c H1 locs1 cells slots Q (F0 m (pc + 3) ls (rest))) : W p l e R s m args below meth c H locs cells slots Q (F0 m pc ls (.int x2 :: .ref ((q0 1)) :: .ref o0 :: rest)) :=
  w_callV (n := 2) (ov := none) (As := [.ref ((q0 1)), .int x2]) (Cs := [pX9 cy o0 q0 σ0]) (Cs' := [pX9 cy o0 q0 u]) S hw (c_X9_passRow_a1 l D cy o0 q0 x2 σ0 u hf) (MF.of S.2.2.2.2 wd1158 wd79 (by decide)) (S.2.2.2.2.wd wd1157 rfl) (S.2.2.2.2.wd wd65 rfl) hl hR js hC hnd hlen rfl rfl rfl rfl hsize rfl hrest hdg hcs kk
end
abbrev rmX9_passRow_a2 : Room := { frames := 1, cells := 0, slots := 0, locals := 22 }
def fl_X9_passRow_a2_2 (y2 : Int32)  : Nat → Int32 → pStt → Option (pStt)
  | 0, _, _ => none
  | n + 1, y3, σ0 => if y2 ≤ y3 then some σ0 else (ld (σ0.2 2) 6 y3).bind (fun x_2 => (f_X9_pass x_2 σ0).bind (fun u_3 => (stA u_3.2 2 6 y3 u_3.1).bind (fun σ_4 => fl_X9_passRow_a2_2 y2 n ((y3 + 1)) σ_4)))
def f_X9_passRow_a2 (x2 : Int32) (σ0 : pStt) : Option (pStt) := (fl_X9_passRow_a2_2 x2 2000 0 σ0).bind (fun u_5 => some u_5)
section
variable {p : Program} {l : Launch} {e : Env} {s : State} {m : MethodId} {args : Array Value} {below : List Frame} {meth : Method} {c : Code} {Q : State → Prop} {D : va_G} {cy : Nat → ClassId} {A : Nat → Prop} {H0 : Heap}
set_option maxHeartbeats 4000000 in
set_option maxRecDepth 100000 in
theorem lp_X9_passRow_a2_2 (S : CX p m c cX9_passRow 4 s args RX9 D cy) {o0 : Nat} {q0 : Nat → Nat}  {y2 : Int32} : ∀ (n : Nat) (y3 : Int32) (σ0 : pStt) (H : Heap) (locs : List Loc) (ls : Array Slot) (u : pStt), PW D A H0 [pX9 cy o0 q0 σ0] H locs → lv_has ls 4 [(0, .ref o0), (1, .ref ((q0 2))), (2, .int y2), (3, .int y3)] → fl_X9_passRow_a2_2 y2 n y3 σ0 = some u → (∀ (H : Heap) (locs : List Loc) (ls : Array Slot), PW D A H0 [pX9 cy o0 q0 u] H locs → lv_has ls 4 [] → W p l e rmX9_passRow_a2 s m args below meth c H locs 0 0 Q (F0 m 23 ls [])) → W p l e rmX9_passRow_a2 s m args below meth c H locs 0 0 Q (F0 m 2 ls []) := by
  intro n
  induction n with
  | zero =>
    intro y3 σ0 H locs ls u hw hl hf K0
    rw [fl_X9_passRow_a2_2] at hf
    cases hf
  | succ n ih =>
    intro y3 σ0 H locs ls u hw hl hf K0
    rw [fl_X9_passRow_a2_2] at hf
    refine lv_iload_n S.1 S.2.1 dX9_passRow_2 rfl (lv_at hl 3 rfl) ?_
    refine lv_iload_n S.1 S.2.1 dX9_passRow_3 rfl (lv_at hl 2 rfl) ?_
    refine lv_icmp_ge (tgt := 23) S.1 S.2.1 dX9_passRow_4 (by decide) (fun c_1 => ?_) (fun c_1 => ?_)
    · replace hf := (if_pos c_1).symm.trans hf
      cases hf
      exact K0 _ _ _ hw (lv_sub hl [] rfl)
    · replace hf := (if_neg c_1).symm.trans hf
      refine lv_aload_n S.1 S.2.1 dX9_passRow_7 rfl (lv_at hl 1 rfl) ?_
      refine lv_iload_n S.1 S.2.1 dX9_passRow_8 rfl (lv_at hl 3 rfl) ?_
      refine lv_aload_n S.1 S.2.1 dX9_passRow_9 rfl (lv_at hl 0 rfl) ?_
      refine lv_aload_n S.1 S.2.1 dX9_passRow_10 rfl (lv_at hl 1 rfl) ?_
      refine lv_iload_n S.1 S.2.1 dX9_passRow_11 rfl (lv_at hl 3 rfl) ?_
      obtain ⟨x_2, e_x_2, hf⟩ := ob hf
      refine al_X9_2 S hw 0 rfl e_x_2 dX9_passRow_12 ?_
      obtain ⟨u_3, e_u_3, hf⟩ := ob hf
      refine k_X9_pass S (S.2.2.2.2.wd wd1151 rfl) hw e_u_3 [0] rfl (by decide) rfl ⟨rfl, rfl, Nat.le_of_ble_eq_true rfl, Nat.le_of_ble_eq_true rfl⟩ hl.1 (Nat.le_of_ble_eq_true rfl) dX9_passRow_13 ⟨Nat.zero_le _, Nat.zero_le _⟩ (fun H locs hw => ?_)
      have hw : PW D A H0 [pX9 cy o0 q0 u_3.2] H locs := hw
      obtain ⟨σ_4, e_σ_4, hf⟩ := ob hf
      refine as_X9_2 S hw 0 rfl e_σ_4 dX9_passRow_16 (fun H locs hw => ?_)
      have hw : PW D A H0 [pX9 cy o0 q0 σ_4] H locs := hw
      refine lv_iinc (v := (y3 + 1)) (lv' := [(3, .int ((y3 + 1))), (0, .ref o0), (1, .ref ((q0 2))), (2, .int y2)]) S.1 S.2.1 dX9_passRow_17 hl (k := 3) rfl rfl (by decide) rfl (fun ls hl => ?_)
      refine lv_goto (tgt := 2) S.1 S.2.1 dX9_passRow_20 (by decide) ?_
      exact ih _ _ _ _ _ _ hw (lv_sub hl [1, 2, 3, 0] rfl) hf K0
end
set_option maxHeartbeats 4000000 in
set_option maxRecDepth 100000 in
theorem c_X9_passRow_a2 (l : Launch) (D : va_G) (cy : Nat → ClassId) (o0 : Nat) (q0 : Nat → Nat) (x2 : Int32) (σ0 : pStt) (u : pStt) (hf : f_X9_passRow_a2 x2 σ0 = some u) : CT l yX9_passRow cX9_passRow 4 none rmX9_passRow_a2 D cy [.ref o0, .ref ((q0 2)), .int x2] [pX9 cy o0 q0 σ0] none [pX9 cy o0 q0 u] := by
  refine CT.of (by decide) (Nat.le_of_ble_eq_true rfl) (fun p e s m args below meth c ls A Q hA hQ S hr hlk hl hw => ?_)
  have hl : lv_has ls 4 [(0, .ref o0), (1, .ref ((q0 2))), (2, .int x2)] := hl
  rw [f_X9_passRow_a2] at hf
  refine lv_iconst (v := 0) S.1 S.2.1 dX9_passRow_0 (by decide) ?_
  refine lv_istore_n (lv' := [(3, .int 0), (0, .ref o0), (1, .ref ((q0 2))), (2, .int x2)]) S.1 S.2.1 dX9_passRow_1 rfl hl (by decide) rfl (fun ls hl => ?_)
  obtain ⟨u_5, e_u_5, hf⟩ := ob hf
  refine lp_X9_passRow_a2_2 S 2000 _ _ _ _ _ _ hw (lv_sub hl [1, 2, 3, 0] rfl) e_u_5 ?_
  · intro H locs ls hw hl
    cases hf
    exact w_vret S hr hlk hA hQ hw dX9_passRow_23
section
variable {p : Program} {l : Launch} {e : Env} {R : Room} {s : State} {m : MethodId} {args : Array Value} {below : List Frame} {meth : Method} {c : Code} {H : Heap} {locs : List Loc} {cells slots : Nat} {Q : State → Prop} {cc : ByteArray} {pc nL : Nat} {ls : Array Slot} {rest : List Value} {D : va_G} {cy : Nat → ClassId} {A : Nat → Prop} {H0 : Heap} {own : String} {Ps : List va_W}
set_option maxRecDepth 100000 in
theorem k_X9_passRow_a2 {o0 : Nat} {q0 : Nat → Nat} {x2 : Int32} {σ0 : pStt} {u : pStt} {index : Nat} (S : CX p m c cc nL s args own D cy) (hl : (Cond.methodLink own index yX9_passRow).before args s = true) (hw : PW D A H0 Ps H locs) (hf : f_X9_passRow_a2 x2 σ0 = some u) (js : List Nat) (hC : js.map (fun j => Ps[j]?) = [some (pX9 cy o0 q0 σ0)]) (hnd : js.Nodup) (hlen : js.length = 1) (hR : RMok rmX9_passRow_a2 R 4) (hsize : ls.size = nL) (hrest : (rest.map fun v => v.category).sum ≤ 8) (hdg : decode cc pc = .ok (.invokevirtual index, 3)) (hcs : cells ≤ R.cells ∧ slots ≤ R.slots)
    (kk : ∀ (H1 : Heap) (locs1 : List Loc), PW D A H0 (setAll Ps js [pX9 cy o0 q0 u]) H1 locs1 → W p l e R s m args below meth c H1 locs1 cells slots Q (F0 m (pc + 3) ls (rest))) : W p l e R s m args below meth c H locs cells slots Q (F0 m pc ls (.int x2 :: .ref ((q0 2)) :: .ref o0 :: rest)) :=
  w_callV (n := 2) (ov := none) (As := [.ref ((q0 2)), .int x2]) (Cs := [pX9 cy o0 q0 σ0]) (Cs' := [pX9 cy o0 q0 u]) S hw (c_X9_passRow_a2 l D cy o0 q0 x2 σ0 u hf) (MF.of S.2.2.2.2 wd1158 wd79 (by decide)) (S.2.2.2.2.wd wd1157 rfl) (S.2.2.2.2.wd wd65 rfl) hl hR js hC hnd hlen rfl rfl rfl rfl hsize rfl hrest hdg hcs kk
end
abbrev rmX9_passRow_a3 : Room := { frames := 1, cells := 0, slots := 0, locals := 22 }
def fl_X9_passRow_a3_2 (y2 : Int32)  : Nat → Int32 → pStt → Option (pStt)
  | 0, _, _ => none
  | n + 1, y3, σ0 => if y2 ≤ y3 then some σ0 else (ld (σ0.2 3) 6 y3).bind (fun x_2 => (f_X9_pass x_2 σ0).bind (fun u_3 => (stA u_3.2 3 6 y3 u_3.1).bind (fun σ_4 => fl_X9_passRow_a3_2 y2 n ((y3 + 1)) σ_4)))
def f_X9_passRow_a3 (x2 : Int32) (σ0 : pStt) : Option (pStt) := (fl_X9_passRow_a3_2 x2 2000 0 σ0).bind (fun u_5 => some u_5)
section
variable {p : Program} {l : Launch} {e : Env} {s : State} {m : MethodId} {args : Array Value} {below : List Frame} {meth : Method} {c : Code} {Q : State → Prop} {D : va_G} {cy : Nat → ClassId} {A : Nat → Prop} {H0 : Heap}
set_option maxHeartbeats 4000000 in
set_option maxRecDepth 100000 in
theorem lp_X9_passRow_a3_2 (S : CX p m c cX9_passRow 4 s args RX9 D cy) {o0 : Nat} {q0 : Nat → Nat}  {y2 : Int32} : ∀ (n : Nat) (y3 : Int32) (σ0 : pStt) (H : Heap) (locs : List Loc) (ls : Array Slot) (u : pStt), PW D A H0 [pX9 cy o0 q0 σ0] H locs → lv_has ls 4 [(0, .ref o0), (1, .ref ((q0 3))), (2, .int y2), (3, .int y3)] → fl_X9_passRow_a3_2 y2 n y3 σ0 = some u → (∀ (H : Heap) (locs : List Loc) (ls : Array Slot), PW D A H0 [pX9 cy o0 q0 u] H locs → lv_has ls 4 [] → W p l e rmX9_passRow_a3 s m args below meth c H locs 0 0 Q (F0 m 23 ls [])) → W p l e rmX9_passRow_a3 s m args below meth c H locs 0 0 Q (F0 m 2 ls []) := by
  intro n
  induction n with
  | zero =>
    intro y3 σ0 H locs ls u hw hl hf K0
    rw [fl_X9_passRow_a3_2] at hf
    cases hf
  | succ n ih =>
    intro y3 σ0 H locs ls u hw hl hf K0
    rw [fl_X9_passRow_a3_2] at hf
    refine lv_iload_n S.1 S.2.1 dX9_passRow_2 rfl (lv_at hl 3 rfl) ?_
    refine lv_iload_n S.1 S.2.1 dX9_passRow_3 rfl (lv_at hl 2 rfl) ?_
    refine lv_icmp_ge (tgt := 23) S.1 S.2.1 dX9_passRow_4 (by decide) (fun c_1 => ?_) (fun c_1 => ?_)
    · replace hf := (if_pos c_1).symm.trans hf
      cases hf
      exact K0 _ _ _ hw (lv_sub hl [] rfl)
    · replace hf := (if_neg c_1).symm.trans hf
      refine lv_aload_n S.1 S.2.1 dX9_passRow_7 rfl (lv_at hl 1 rfl) ?_
      refine lv_iload_n S.1 S.2.1 dX9_passRow_8 rfl (lv_at hl 3 rfl) ?_
      refine lv_aload_n S.1 S.2.1 dX9_passRow_9 rfl (lv_at hl 0 rfl) ?_
      refine lv_aload_n S.1 S.2.1 dX9_passRow_10 rfl (lv_at hl 1 rfl) ?_
      refine lv_iload_n S.1 S.2.1 dX9_passRow_11 rfl (lv_at hl 3 rfl) ?_
      obtain ⟨x_2, e_x_2, hf⟩ := ob hf
      refine al_X9_3 S hw 0 rfl e_x_2 dX9_passRow_12 ?_
      obtain ⟨u_3, e_u_3, hf⟩ := ob hf
      refine k_X9_pass S (S.2.2.2.2.wd wd1151 rfl) hw e_u_3 [0] rfl (by decide) rfl ⟨rfl, rfl, Nat.le_of_ble_eq_true rfl, Nat.le_of_ble_eq_true rfl⟩ hl.1 (Nat.le_of_ble_eq_true rfl) dX9_passRow_13 ⟨Nat.zero_le _, Nat.zero_le _⟩ (fun H locs hw => ?_)
      have hw : PW D A H0 [pX9 cy o0 q0 u_3.2] H locs := hw
      obtain ⟨σ_4, e_σ_4, hf⟩ := ob hf
      refine as_X9_3 S hw 0 rfl e_σ_4 dX9_passRow_16 (fun H locs hw => ?_)
      have hw : PW D A H0 [pX9 cy o0 q0 σ_4] H locs := hw
      refine lv_iinc (v := (y3 + 1)) (lv' := [(3, .int ((y3 + 1))), (0, .ref o0), (1, .ref ((q0 3))), (2, .int y2)]) S.1 S.2.1 dX9_passRow_17 hl (k := 3) rfl rfl (by decide) rfl (fun ls hl => ?_)
      refine lv_goto (tgt := 2) S.1 S.2.1 dX9_passRow_20 (by decide) ?_
      exact ih _ _ _ _ _ _ hw (lv_sub hl [1, 2, 3, 0] rfl) hf K0
end
set_option maxHeartbeats 4000000 in
set_option maxRecDepth 100000 in
theorem c_X9_passRow_a3 (l : Launch) (D : va_G) (cy : Nat → ClassId) (o0 : Nat) (q0 : Nat → Nat) (x2 : Int32) (σ0 : pStt) (u : pStt) (hf : f_X9_passRow_a3 x2 σ0 = some u) : CT l yX9_passRow cX9_passRow 4 none rmX9_passRow_a3 D cy [.ref o0, .ref ((q0 3)), .int x2] [pX9 cy o0 q0 σ0] none [pX9 cy o0 q0 u] := by
  refine CT.of (by decide) (Nat.le_of_ble_eq_true rfl) (fun p e s m args below meth c ls A Q hA hQ S hr hlk hl hw => ?_)
  have hl : lv_has ls 4 [(0, .ref o0), (1, .ref ((q0 3))), (2, .int x2)] := hl
  rw [f_X9_passRow_a3] at hf
  refine lv_iconst (v := 0) S.1 S.2.1 dX9_passRow_0 (by decide) ?_
  refine lv_istore_n (lv' := [(3, .int 0), (0, .ref o0), (1, .ref ((q0 3))), (2, .int x2)]) S.1 S.2.1 dX9_passRow_1 rfl hl (by decide) rfl (fun ls hl => ?_)
  obtain ⟨u_5, e_u_5, hf⟩ := ob hf
  refine lp_X9_passRow_a3_2 S 2000 _ _ _ _ _ _ hw (lv_sub hl [1, 2, 3, 0] rfl) e_u_5 ?_
  · intro H locs ls hw hl
    cases hf
    exact w_vret S hr hlk hA hQ hw dX9_passRow_23
section
variable {p : Program} {l : Launch} {e : Env} {R : Room} {s : State} {m : MethodId} {args : Array Value} {below : List Frame} {meth : Method} {c : Code} {H : Heap} {locs : List Loc} {cells slots : Nat} {Q : State → Prop} {cc : ByteArray} {pc nL : Nat} {ls : Array Slot} {rest : List Value} {D : va_G} {cy : Nat → ClassId} {A : Nat → Prop} {H0 : Heap} {own : String} {Ps : List va_W}
set_option maxRecDepth 100000 in
theorem k_X9_passRow_a3 {o0 : Nat} {q0 : Nat → Nat} {x2 : Int32} {σ0 : pStt} {u : pStt} {index : Nat} (S : CX p m c cc nL s args own D cy) (hl : (Cond.methodLink own index yX9_passRow).before args s = true) (hw : PW D A H0 Ps H locs) (hf : f_X9_passRow_a3 x2 σ0 = some u) (js : List Nat) (hC : js.map (fun j => Ps[j]?) = [some (pX9 cy o0 q0 σ0)]) (hnd : js.Nodup) (hlen : js.length = 1) (hR : RMok rmX9_passRow_a3 R 4) (hsize : ls.size = nL) (hrest : (rest.map fun v => v.category).sum ≤ 8) (hdg : decode cc pc = .ok (.invokevirtual index, 3)) (hcs : cells ≤ R.cells ∧ slots ≤ R.slots)
    (kk : ∀ (H1 : Heap) (locs1 : List Loc), PW D A H0 (setAll Ps js [pX9 cy o0 q0 u]) H1 locs1 → W p l e R s m args below meth c H1 locs1 cells slots Q (F0 m (pc + 3) ls (rest))) : W p l e R s m args below meth c H locs cells slots Q (F0 m pc ls (.int x2 :: .ref ((q0 3)) :: .ref o0 :: rest)) :=
  w_callV (n := 2) (ov := none) (As := [.ref ((q0 3)), .int x2]) (Cs := [pX9 cy o0 q0 σ0]) (Cs' := [pX9 cy o0 q0 u]) S hw (c_X9_passRow_a3 l D cy o0 q0 x2 σ0 u hf) (MF.of S.2.2.2.2 wd1158 wd79 (by decide)) (S.2.2.2.2.wd wd1157 rfl) (S.2.2.2.2.wd wd65 rfl) hl hR js hC hnd hlen rfl rfl rfl rfl hsize rfl hrest hdg hcs kk
end
abbrev rmX9_passRow_a4 : Room := { frames := 1, cells := 0, slots := 0, locals := 22 }
def fl_X9_passRow_a4_2 (y2 : Int32)  : Nat → Int32 → pStt → Option (pStt)
  | 0, _, _ => none
  | n + 1, y3, σ0 => if y2 ≤ y3 then some σ0 else (ld (σ0.2 4) 6 y3).bind (fun x_2 => (f_X9_pass x_2 σ0).bind (fun u_3 => (stA u_3.2 4 6 y3 u_3.1).bind (fun σ_4 => fl_X9_passRow_a4_2 y2 n ((y3 + 1)) σ_4)))
def f_X9_passRow_a4 (x2 : Int32) (σ0 : pStt) : Option (pStt) := (fl_X9_passRow_a4_2 x2 2000 0 σ0).bind (fun u_5 => some u_5)
section
variable {p : Program} {l : Launch} {e : Env} {s : State} {m : MethodId} {args : Array Value} {below : List Frame} {meth : Method} {c : Code} {Q : State → Prop} {D : va_G} {cy : Nat → ClassId} {A : Nat → Prop} {H0 : Heap}
set_option maxHeartbeats 4000000 in
set_option maxRecDepth 100000 in
theorem lp_X9_passRow_a4_2 (S : CX p m c cX9_passRow 4 s args RX9 D cy) {o0 : Nat} {q0 : Nat → Nat}  {y2 : Int32} : ∀ (n : Nat) (y3 : Int32) (σ0 : pStt) (H : Heap) (locs : List Loc) (ls : Array Slot) (u : pStt), PW D A H0 [pX9 cy o0 q0 σ0] H locs → lv_has ls 4 [(0, .ref o0), (1, .ref ((q0 4))), (2, .int y2), (3, .int y3)] → fl_X9_passRow_a4_2 y2 n y3 σ0 = some u → (∀ (H : Heap) (locs : List Loc) (ls : Array Slot), PW D A H0 [pX9 cy o0 q0 u] H locs → lv_has ls 4 [] → W p l e rmX9_passRow_a4 s m args below meth c H locs 0 0 Q (F0 m 23 ls [])) → W p l e rmX9_passRow_a4 s m args below meth c H locs 0 0 Q (F0 m 2 ls []) := by
  intro n
  induction n with
  | zero =>
    intro y3 σ0 H locs ls u hw hl hf K0
    rw [fl_X9_passRow_a4_2] at hf
    cases hf
  | succ n ih =>
    intro y3 σ0 H locs ls u hw hl hf K0
    rw [fl_X9_passRow_a4_2] at hf
    refine lv_iload_n S.1 S.2.1 dX9_passRow_2 rfl (lv_at hl 3 rfl) ?_
    refine lv_iload_n S.1 S.2.1 dX9_passRow_3 rfl (lv_at hl 2 rfl) ?_
    refine lv_icmp_ge (tgt := 23) S.1 S.2.1 dX9_passRow_4 (by decide) (fun c_1 => ?_) (fun c_1 => ?_)
    · replace hf := (if_pos c_1).symm.trans hf
      cases hf
      exact K0 _ _ _ hw (lv_sub hl [] rfl)
    · replace hf := (if_neg c_1).symm.trans hf
      refine lv_aload_n S.1 S.2.1 dX9_passRow_7 rfl (lv_at hl 1 rfl) ?_
      refine lv_iload_n S.1 S.2.1 dX9_passRow_8 rfl (lv_at hl 3 rfl) ?_
      refine lv_aload_n S.1 S.2.1 dX9_passRow_9 rfl (lv_at hl 0 rfl) ?_
      refine lv_aload_n S.1 S.2.1 dX9_passRow_10 rfl (lv_at hl 1 rfl) ?_
      refine lv_iload_n S.1 S.2.1 dX9_passRow_11 rfl (lv_at hl 3 rfl) ?_
      obtain ⟨x_2, e_x_2, hf⟩ := ob hf
      refine al_X9_4 S hw 0 rfl e_x_2 dX9_passRow_12 ?_
      obtain ⟨u_3, e_u_3, hf⟩ := ob hf
      refine k_X9_pass S (S.2.2.2.2.wd wd1151 rfl) hw e_u_3 [0] rfl (by decide) rfl ⟨rfl, rfl, Nat.le_of_ble_eq_true rfl, Nat.le_of_ble_eq_true rfl⟩ hl.1 (Nat.le_of_ble_eq_true rfl) dX9_passRow_13 ⟨Nat.zero_le _, Nat.zero_le _⟩ (fun H locs hw => ?_)
      have hw : PW D A H0 [pX9 cy o0 q0 u_3.2] H locs := hw
      obtain ⟨σ_4, e_σ_4, hf⟩ := ob hf
      refine as_X9_4 S hw 0 rfl e_σ_4 dX9_passRow_16 (fun H locs hw => ?_)
      have hw : PW D A H0 [pX9 cy o0 q0 σ_4] H locs := hw
      refine lv_iinc (v := (y3 + 1)) (lv' := [(3, .int ((y3 + 1))), (0, .ref o0), (1, .ref ((q0 4))), (2, .int y2)]) S.1 S.2.1 dX9_passRow_17 hl (k := 3) rfl rfl (by decide) rfl (fun ls hl => ?_)
      refine lv_goto (tgt := 2) S.1 S.2.1 dX9_passRow_20 (by decide) ?_
      exact ih _ _ _ _ _ _ hw (lv_sub hl [1, 2, 3, 0] rfl) hf K0
end
set_option maxHeartbeats 4000000 in
set_option maxRecDepth 100000 in
theorem c_X9_passRow_a4 (l : Launch) (D : va_G) (cy : Nat → ClassId) (o0 : Nat) (q0 : Nat → Nat) (x2 : Int32) (σ0 : pStt) (u : pStt) (hf : f_X9_passRow_a4 x2 σ0 = some u) : CT l yX9_passRow cX9_passRow 4 none rmX9_passRow_a4 D cy [.ref o0, .ref ((q0 4)), .int x2] [pX9 cy o0 q0 σ0] none [pX9 cy o0 q0 u] := by
  refine CT.of (by decide) (Nat.le_of_ble_eq_true rfl) (fun p e s m args below meth c ls A Q hA hQ S hr hlk hl hw => ?_)
  have hl : lv_has ls 4 [(0, .ref o0), (1, .ref ((q0 4))), (2, .int x2)] := hl
  rw [f_X9_passRow_a4] at hf
  refine lv_iconst (v := 0) S.1 S.2.1 dX9_passRow_0 (by decide) ?_
  refine lv_istore_n (lv' := [(3, .int 0), (0, .ref o0), (1, .ref ((q0 4))), (2, .int x2)]) S.1 S.2.1 dX9_passRow_1 rfl hl (by decide) rfl (fun ls hl => ?_)
  obtain ⟨u_5, e_u_5, hf⟩ := ob hf
  refine lp_X9_passRow_a4_2 S 2000 _ _ _ _ _ _ hw (lv_sub hl [1, 2, 3, 0] rfl) e_u_5 ?_
  · intro H locs ls hw hl
    cases hf
    exact w_vret S hr hlk hA hQ hw dX9_passRow_23
section
variable {p : Program} {l : Launch} {e : Env} {R : Room} {s : State} {m : MethodId} {args : Array Value} {below : List Frame} {meth : Method} {c : Code} {H : Heap} {locs : List Loc} {cells slots : Nat} {Q : State → Prop} {cc : ByteArray} {pc nL : Nat} {ls : Array Slot} {rest : List Value} {D : va_G} {cy : Nat → ClassId} {A : Nat → Prop} {H0 : Heap} {own : String} {Ps : List va_W}
set_option maxRecDepth 100000 in
theorem k_X9_passRow_a4 {o0 : Nat} {q0 : Nat → Nat} {x2 : Int32} {σ0 : pStt} {u : pStt} {index : Nat} (S : CX p m c cc nL s args own D cy) (hl : (Cond.methodLink own index yX9_passRow).before args s = true) (hw : PW D A H0 Ps H locs) (hf : f_X9_passRow_a4 x2 σ0 = some u) (js : List Nat) (hC : js.map (fun j => Ps[j]?) = [some (pX9 cy o0 q0 σ0)]) (hnd : js.Nodup) (hlen : js.length = 1) (hR : RMok rmX9_passRow_a4 R 4) (hsize : ls.size = nL) (hrest : (rest.map fun v => v.category).sum ≤ 8) (hdg : decode cc pc = .ok (.invokevirtual index, 3)) (hcs : cells ≤ R.cells ∧ slots ≤ R.slots)
    (kk : ∀ (H1 : Heap) (locs1 : List Loc), PW D A H0 (setAll Ps js [pX9 cy o0 q0 u]) H1 locs1 → W p l e R s m args below meth c H1 locs1 cells slots Q (F0 m (pc + 3) ls (rest))) : W p l e R s m args below meth c H locs cells slots Q (F0 m pc ls (.int x2 :: .ref ((q0 4)) :: .ref o0 :: rest)) :=
  w_callV (n := 2) (ov := none) (As := [.ref ((q0 4)), .int x2]) (Cs := [pX9 cy o0 q0 σ0]) (Cs' := [pX9 cy o0 q0 u]) S hw (c_X9_passRow_a4 l D cy o0 q0 x2 σ0 u hf) (MF.of S.2.2.2.2 wd1158 wd79 (by decide)) (S.2.2.2.2.wd wd1157 rfl) (S.2.2.2.2.wd wd65 rfl) hl hR js hC hnd hlen rfl rfl rfl rfl hsize rfl hrest hdg hcs kk
end
abbrev rmX9_passRow_a5 : Room := { frames := 1, cells := 0, slots := 0, locals := 22 }
def fl_X9_passRow_a5_2 (y2 : Int32)  : Nat → Int32 → pStt → Option (pStt)
  | 0, _, _ => none
  | n + 1, y3, σ0 => if y2 ≤ y3 then some σ0 else (ld (σ0.2 5) 12 y3).bind (fun x_2 => (f_X9_pass x_2 σ0).bind (fun u_3 => (stA u_3.2 5 12 y3 u_3.1).bind (fun σ_4 => fl_X9_passRow_a5_2 y2 n ((y3 + 1)) σ_4)))
def f_X9_passRow_a5 (x2 : Int32) (σ0 : pStt) : Option (pStt) := (fl_X9_passRow_a5_2 x2 2000 0 σ0).bind (fun u_5 => some u_5)
section
variable {p : Program} {l : Launch} {e : Env} {s : State} {m : MethodId} {args : Array Value} {below : List Frame} {meth : Method} {c : Code} {Q : State → Prop} {D : va_G} {cy : Nat → ClassId} {A : Nat → Prop} {H0 : Heap}
set_option maxHeartbeats 4000000 in
set_option maxRecDepth 100000 in
theorem lp_X9_passRow_a5_2 (S : CX p m c cX9_passRow 4 s args RX9 D cy) {o0 : Nat} {q0 : Nat → Nat}  {y2 : Int32} : ∀ (n : Nat) (y3 : Int32) (σ0 : pStt) (H : Heap) (locs : List Loc) (ls : Array Slot) (u : pStt), PW D A H0 [pX9 cy o0 q0 σ0] H locs → lv_has ls 4 [(0, .ref o0), (1, .ref ((q0 5))), (2, .int y2), (3, .int y3)] → fl_X9_passRow_a5_2 y2 n y3 σ0 = some u → (∀ (H : Heap) (locs : List Loc) (ls : Array Slot), PW D A H0 [pX9 cy o0 q0 u] H locs → lv_has ls 4 [] → W p l e rmX9_passRow_a5 s m args below meth c H locs 0 0 Q (F0 m 23 ls [])) → W p l e rmX9_passRow_a5 s m args below meth c H locs 0 0 Q (F0 m 2 ls []) := by
  intro n
  induction n with
  | zero =>
    intro y3 σ0 H locs ls u hw hl hf K0
    rw [fl_X9_passRow_a5_2] at hf
    cases hf
  | succ n ih =>
    intro y3 σ0 H locs ls u hw hl hf K0
    rw [fl_X9_passRow_a5_2] at hf
    refine lv_iload_n S.1 S.2.1 dX9_passRow_2 rfl (lv_at hl 3 rfl) ?_
    refine lv_iload_n S.1 S.2.1 dX9_passRow_3 rfl (lv_at hl 2 rfl) ?_
    refine lv_icmp_ge (tgt := 23) S.1 S.2.1 dX9_passRow_4 (by decide) (fun c_1 => ?_) (fun c_1 => ?_)
    · replace hf := (if_pos c_1).symm.trans hf
      cases hf
      exact K0 _ _ _ hw (lv_sub hl [] rfl)
    · replace hf := (if_neg c_1).symm.trans hf
      refine lv_aload_n S.1 S.2.1 dX9_passRow_7 rfl (lv_at hl 1 rfl) ?_
      refine lv_iload_n S.1 S.2.1 dX9_passRow_8 rfl (lv_at hl 3 rfl) ?_
      refine lv_aload_n S.1 S.2.1 dX9_passRow_9 rfl (lv_at hl 0 rfl) ?_
      refine lv_aload_n S.1 S.2.1 dX9_passRow_10 rfl (lv_at hl 1 rfl) ?_
      refine lv_iload_n S.1 S.2.1 dX9_passRow_11 rfl (lv_at hl 3 rfl) ?_
      obtain ⟨x_2, e_x_2, hf⟩ := ob hf
      refine al_X9_5 S hw 0 rfl e_x_2 dX9_passRow_12 ?_
      obtain ⟨u_3, e_u_3, hf⟩ := ob hf
      refine k_X9_pass S (S.2.2.2.2.wd wd1151 rfl) hw e_u_3 [0] rfl (by decide) rfl ⟨rfl, rfl, Nat.le_of_ble_eq_true rfl, Nat.le_of_ble_eq_true rfl⟩ hl.1 (Nat.le_of_ble_eq_true rfl) dX9_passRow_13 ⟨Nat.zero_le _, Nat.zero_le _⟩ (fun H locs hw => ?_)
      have hw : PW D A H0 [pX9 cy o0 q0 u_3.2] H locs := hw
      obtain ⟨σ_4, e_σ_4, hf⟩ := ob hf
      refine as_X9_5 S hw 0 rfl e_σ_4 dX9_passRow_16 (fun H locs hw => ?_)
      have hw : PW D A H0 [pX9 cy o0 q0 σ_4] H locs := hw
      refine lv_iinc (v := (y3 + 1)) (lv' := [(3, .int ((y3 + 1))), (0, .ref o0), (1, .ref ((q0 5))), (2, .int y2)]) S.1 S.2.1 dX9_passRow_17 hl (k := 3) rfl rfl (by decide) rfl (fun ls hl => ?_)
      refine lv_goto (tgt := 2) S.1 S.2.1 dX9_passRow_20 (by decide) ?_
      exact ih _ _ _ _ _ _ hw (lv_sub hl [1, 2, 3, 0] rfl) hf K0
end
set_option maxHeartbeats 4000000 in
set_option maxRecDepth 100000 in
theorem c_X9_passRow_a5 (l : Launch) (D : va_G) (cy : Nat → ClassId) (o0 : Nat) (q0 : Nat → Nat) (x2 : Int32) (σ0 : pStt) (u : pStt) (hf : f_X9_passRow_a5 x2 σ0 = some u) : CT l yX9_passRow cX9_passRow 4 none rmX9_passRow_a5 D cy [.ref o0, .ref ((q0 5)), .int x2] [pX9 cy o0 q0 σ0] none [pX9 cy o0 q0 u] := by
  refine CT.of (by decide) (Nat.le_of_ble_eq_true rfl) (fun p e s m args below meth c ls A Q hA hQ S hr hlk hl hw => ?_)
  have hl : lv_has ls 4 [(0, .ref o0), (1, .ref ((q0 5))), (2, .int x2)] := hl
  rw [f_X9_passRow_a5] at hf
  refine lv_iconst (v := 0) S.1 S.2.1 dX9_passRow_0 (by decide) ?_
  refine lv_istore_n (lv' := [(3, .int 0), (0, .ref o0), (1, .ref ((q0 5))), (2, .int x2)]) S.1 S.2.1 dX9_passRow_1 rfl hl (by decide) rfl (fun ls hl => ?_)
  obtain ⟨u_5, e_u_5, hf⟩ := ob hf
  refine lp_X9_passRow_a5_2 S 2000 _ _ _ _ _ _ hw (lv_sub hl [1, 2, 3, 0] rfl) e_u_5 ?_
  · intro H locs ls hw hl
    cases hf
    exact w_vret S hr hlk hA hQ hw dX9_passRow_23
section
variable {p : Program} {l : Launch} {e : Env} {R : Room} {s : State} {m : MethodId} {args : Array Value} {below : List Frame} {meth : Method} {c : Code} {H : Heap} {locs : List Loc} {cells slots : Nat} {Q : State → Prop} {cc : ByteArray} {pc nL : Nat} {ls : Array Slot} {rest : List Value} {D : va_G} {cy : Nat → ClassId} {A : Nat → Prop} {H0 : Heap} {own : String} {Ps : List va_W}
set_option maxRecDepth 100000 in
theorem k_X9_passRow_a5 {o0 : Nat} {q0 : Nat → Nat} {x2 : Int32} {σ0 : pStt} {u : pStt} {index : Nat} (S : CX p m c cc nL s args own D cy) (hl : (Cond.methodLink own index yX9_passRow).before args s = true) (hw : PW D A H0 Ps H locs) (hf : f_X9_passRow_a5 x2 σ0 = some u) (js : List Nat) (hC : js.map (fun j => Ps[j]?) = [some (pX9 cy o0 q0 σ0)]) (hnd : js.Nodup) (hlen : js.length = 1) (hR : RMok rmX9_passRow_a5 R 4) (hsize : ls.size = nL) (hrest : (rest.map fun v => v.category).sum ≤ 8) (hdg : decode cc pc = .ok (.invokevirtual index, 3)) (hcs : cells ≤ R.cells ∧ slots ≤ R.slots)
    (kk : ∀ (H1 : Heap) (locs1 : List Loc), PW D A H0 (setAll Ps js [pX9 cy o0 q0 u]) H1 locs1 → W p l e R s m args below meth c H1 locs1 cells slots Q (F0 m (pc + 3) ls (rest))) : W p l e R s m args below meth c H locs cells slots Q (F0 m pc ls (.int x2 :: .ref ((q0 5)) :: .ref o0 :: rest)) :=
  w_callV (n := 2) (ov := none) (As := [.ref ((q0 5)), .int x2]) (Cs := [pX9 cy o0 q0 σ0]) (Cs' := [pX9 cy o0 q0 u]) S hw (c_X9_passRow_a5 l D cy o0 q0 x2 σ0 u hf) (MF.of S.2.2.2.2 wd1158 wd79 (by decide)) (S.2.2.2.2.wd wd1157 rfl) (S.2.2.2.2.wd wd65 rfl) hl hR js hC hnd hlen rfl rfl rfl rfl hsize rfl hrest hdg hcs kk
end
abbrev rmX9_passRow_a6 : Room := { frames := 1, cells := 0, slots := 0, locals := 22 }
def fl_X9_passRow_a6_2 (y2 : Int32)  : Nat → Int32 → pStt → Option (pStt)
  | 0, _, _ => none
  | n + 1, y3, σ0 => if y2 ≤ y3 then some σ0 else (ld (σ0.2 6) 12 y3).bind (fun x_2 => (f_X9_pass x_2 σ0).bind (fun u_3 => (stA u_3.2 6 12 y3 u_3.1).bind (fun σ_4 => fl_X9_passRow_a6_2 y2 n ((y3 + 1)) σ_4)))
def f_X9_passRow_a6 (x2 : Int32) (σ0 : pStt) : Option (pStt) := (fl_X9_passRow_a6_2 x2 2000 0 σ0).bind (fun u_5 => some u_5)
section
variable {p : Program} {l : Launch} {e : Env} {s : State} {m : MethodId} {args : Array Value} {below : List Frame} {meth : Method} {c : Code} {Q : State → Prop} {D : va_G} {cy : Nat → ClassId} {A : Nat → Prop} {H0 : Heap}
set_option maxHeartbeats 4000000 in
set_option maxRecDepth 100000 in
theorem lp_X9_passRow_a6_2 (S : CX p m c cX9_passRow 4 s args RX9 D cy) {o0 : Nat} {q0 : Nat → Nat}  {y2 : Int32} : ∀ (n : Nat) (y3 : Int32) (σ0 : pStt) (H : Heap) (locs : List Loc) (ls : Array Slot) (u : pStt), PW D A H0 [pX9 cy o0 q0 σ0] H locs → lv_has ls 4 [(0, .ref o0), (1, .ref ((q0 6))), (2, .int y2), (3, .int y3)] → fl_X9_passRow_a6_2 y2 n y3 σ0 = some u → (∀ (H : Heap) (locs : List Loc) (ls : Array Slot), PW D A H0 [pX9 cy o0 q0 u] H locs → lv_has ls 4 [] → W p l e rmX9_passRow_a6 s m args below meth c H locs 0 0 Q (F0 m 23 ls [])) → W p l e rmX9_passRow_a6 s m args below meth c H locs 0 0 Q (F0 m 2 ls []) := by
  intro n
  induction n with
  | zero =>
    intro y3 σ0 H locs ls u hw hl hf K0
    rw [fl_X9_passRow_a6_2] at hf
    cases hf
  | succ n ih =>
    intro y3 σ0 H locs ls u hw hl hf K0
    rw [fl_X9_passRow_a6_2] at hf
    refine lv_iload_n S.1 S.2.1 dX9_passRow_2 rfl (lv_at hl 3 rfl) ?_
    refine lv_iload_n S.1 S.2.1 dX9_passRow_3 rfl (lv_at hl 2 rfl) ?_
    refine lv_icmp_ge (tgt := 23) S.1 S.2.1 dX9_passRow_4 (by decide) (fun c_1 => ?_) (fun c_1 => ?_)
    · replace hf := (if_pos c_1).symm.trans hf
      cases hf
      exact K0 _ _ _ hw (lv_sub hl [] rfl)
    · replace hf := (if_neg c_1).symm.trans hf
      refine lv_aload_n S.1 S.2.1 dX9_passRow_7 rfl (lv_at hl 1 rfl) ?_
      refine lv_iload_n S.1 S.2.1 dX9_passRow_8 rfl (lv_at hl 3 rfl) ?_
      refine lv_aload_n S.1 S.2.1 dX9_passRow_9 rfl (lv_at hl 0 rfl) ?_
      refine lv_aload_n S.1 S.2.1 dX9_passRow_10 rfl (lv_at hl 1 rfl) ?_
      refine lv_iload_n S.1 S.2.1 dX9_passRow_11 rfl (lv_at hl 3 rfl) ?_
      obtain ⟨x_2, e_x_2, hf⟩ := ob hf
      refine al_X9_6 S hw 0 rfl e_x_2 dX9_passRow_12 ?_
      obtain ⟨u_3, e_u_3, hf⟩ := ob hf
      refine k_X9_pass S (S.2.2.2.2.wd wd1151 rfl) hw e_u_3 [0] rfl (by decide) rfl ⟨rfl, rfl, Nat.le_of_ble_eq_true rfl, Nat.le_of_ble_eq_true rfl⟩ hl.1 (Nat.le_of_ble_eq_true rfl) dX9_passRow_13 ⟨Nat.zero_le _, Nat.zero_le _⟩ (fun H locs hw => ?_)
      have hw : PW D A H0 [pX9 cy o0 q0 u_3.2] H locs := hw
      obtain ⟨σ_4, e_σ_4, hf⟩ := ob hf
      refine as_X9_6 S hw 0 rfl e_σ_4 dX9_passRow_16 (fun H locs hw => ?_)
      have hw : PW D A H0 [pX9 cy o0 q0 σ_4] H locs := hw
      refine lv_iinc (v := (y3 + 1)) (lv' := [(3, .int ((y3 + 1))), (0, .ref o0), (1, .ref ((q0 6))), (2, .int y2)]) S.1 S.2.1 dX9_passRow_17 hl (k := 3) rfl rfl (by decide) rfl (fun ls hl => ?_)
      refine lv_goto (tgt := 2) S.1 S.2.1 dX9_passRow_20 (by decide) ?_
      exact ih _ _ _ _ _ _ hw (lv_sub hl [1, 2, 3, 0] rfl) hf K0
end
set_option maxHeartbeats 4000000 in
set_option maxRecDepth 100000 in
theorem c_X9_passRow_a6 (l : Launch) (D : va_G) (cy : Nat → ClassId) (o0 : Nat) (q0 : Nat → Nat) (x2 : Int32) (σ0 : pStt) (u : pStt) (hf : f_X9_passRow_a6 x2 σ0 = some u) : CT l yX9_passRow cX9_passRow 4 none rmX9_passRow_a6 D cy [.ref o0, .ref ((q0 6)), .int x2] [pX9 cy o0 q0 σ0] none [pX9 cy o0 q0 u] := by
  refine CT.of (by decide) (Nat.le_of_ble_eq_true rfl) (fun p e s m args below meth c ls A Q hA hQ S hr hlk hl hw => ?_)
  have hl : lv_has ls 4 [(0, .ref o0), (1, .ref ((q0 6))), (2, .int x2)] := hl
  rw [f_X9_passRow_a6] at hf
  refine lv_iconst (v := 0) S.1 S.2.1 dX9_passRow_0 (by decide) ?_
  refine lv_istore_n (lv' := [(3, .int 0), (0, .ref o0), (1, .ref ((q0 6))), (2, .int x2)]) S.1 S.2.1 dX9_passRow_1 rfl hl (by decide) rfl (fun ls hl => ?_)
  obtain ⟨u_5, e_u_5, hf⟩ := ob hf
  refine lp_X9_passRow_a6_2 S 2000 _ _ _ _ _ _ hw (lv_sub hl [1, 2, 3, 0] rfl) e_u_5 ?_
  · intro H locs ls hw hl
    cases hf
    exact w_vret S hr hlk hA hQ hw dX9_passRow_23
section
variable {p : Program} {l : Launch} {e : Env} {R : Room} {s : State} {m : MethodId} {args : Array Value} {below : List Frame} {meth : Method} {c : Code} {H : Heap} {locs : List Loc} {cells slots : Nat} {Q : State → Prop} {cc : ByteArray} {pc nL : Nat} {ls : Array Slot} {rest : List Value} {D : va_G} {cy : Nat → ClassId} {A : Nat → Prop} {H0 : Heap} {own : String} {Ps : List va_W}
set_option maxRecDepth 100000 in
theorem k_X9_passRow_a6 {o0 : Nat} {q0 : Nat → Nat} {x2 : Int32} {σ0 : pStt} {u : pStt} {index : Nat} (S : CX p m c cc nL s args own D cy) (hl : (Cond.methodLink own index yX9_passRow).before args s = true) (hw : PW D A H0 Ps H locs) (hf : f_X9_passRow_a6 x2 σ0 = some u) (js : List Nat) (hC : js.map (fun j => Ps[j]?) = [some (pX9 cy o0 q0 σ0)]) (hnd : js.Nodup) (hlen : js.length = 1) (hR : RMok rmX9_passRow_a6 R 4) (hsize : ls.size = nL) (hrest : (rest.map fun v => v.category).sum ≤ 8) (hdg : decode cc pc = .ok (.invokevirtual index, 3)) (hcs : cells ≤ R.cells ∧ slots ≤ R.slots)
    (kk : ∀ (H1 : Heap) (locs1 : List Loc), PW D A H0 (setAll Ps js [pX9 cy o0 q0 u]) H1 locs1 → W p l e R s m args below meth c H1 locs1 cells slots Q (F0 m (pc + 3) ls (rest))) : W p l e R s m args below meth c H locs cells slots Q (F0 m pc ls (.int x2 :: .ref ((q0 6)) :: .ref o0 :: rest)) :=
  w_callV (n := 2) (ov := none) (As := [.ref ((q0 6)), .int x2]) (Cs := [pX9 cy o0 q0 σ0]) (Cs' := [pX9 cy o0 q0 u]) S hw (c_X9_passRow_a6 l D cy o0 q0 x2 σ0 u hf) (MF.of S.2.2.2.2 wd1158 wd79 (by decide)) (S.2.2.2.2.wd wd1157 rfl) (S.2.2.2.2.wd wd65 rfl) hl hR js hC hnd hlen rfl rfl rfl rfl hsize rfl hrest hdg hcs kk
end
abbrev rmX9_passRow_a7 : Room := { frames := 1, cells := 0, slots := 0, locals := 22 }
def fl_X9_passRow_a7_2 (y2 : Int32)  : Nat → Int32 → pStt → Option (pStt)
  | 0, _, _ => none
  | n + 1, y3, σ0 => if y2 ≤ y3 then some σ0 else (ld (σ0.2 7) 12 y3).bind (fun x_2 => (f_X9_pass x_2 σ0).bind (fun u_3 => (stA u_3.2 7 12 y3 u_3.1).bind (fun σ_4 => fl_X9_passRow_a7_2 y2 n ((y3 + 1)) σ_4)))
def f_X9_passRow_a7 (x2 : Int32) (σ0 : pStt) : Option (pStt) := (fl_X9_passRow_a7_2 x2 2000 0 σ0).bind (fun u_5 => some u_5)
section
variable {p : Program} {l : Launch} {e : Env} {s : State} {m : MethodId} {args : Array Value} {below : List Frame} {meth : Method} {c : Code} {Q : State → Prop} {D : va_G} {cy : Nat → ClassId} {A : Nat → Prop} {H0 : Heap}
set_option maxHeartbeats 4000000 in
set_option maxRecDepth 100000 in
theorem lp_X9_passRow_a7_2 (S : CX p m c cX9_passRow 4 s args RX9 D cy) {o0 : Nat} {q0 : Nat → Nat}  {y2 : Int32} : ∀ (n : Nat) (y3 : Int32) (σ0 : pStt) (H : Heap) (locs : List Loc) (ls : Array Slot) (u : pStt), PW D A H0 [pX9 cy o0 q0 σ0] H locs → lv_has ls 4 [(0, .ref o0), (1, .ref ((q0 7))), (2, .int y2), (3, .int y3)] → fl_X9_passRow_a7_2 y2 n y3 σ0 = some u → (∀ (H : Heap) (locs : List Loc) (ls : Array Slot), PW D A H0 [pX9 cy o0 q0 u] H locs → lv_has ls 4 [] → W p l e rmX9_passRow_a7 s m args below meth c H locs 0 0 Q (F0 m 23 ls [])) → W p l e rmX9_passRow_a7 s m args below meth c H locs 0 0 Q (F0 m 2 ls []) := by
  intro n
  induction n with
  | zero =>
    intro y3 σ0 H locs ls u hw hl hf K0
    rw [fl_X9_passRow_a7_2] at hf
    cases hf
  | succ n ih =>
    intro y3 σ0 H locs ls u hw hl hf K0
    rw [fl_X9_passRow_a7_2] at hf
    refine lv_iload_n S.1 S.2.1 dX9_passRow_2 rfl (lv_at hl 3 rfl) ?_
    refine lv_iload_n S.1 S.2.1 dX9_passRow_3 rfl (lv_at hl 2 rfl) ?_
    refine lv_icmp_ge (tgt := 23) S.1 S.2.1 dX9_passRow_4 (by decide) (fun c_1 => ?_) (fun c_1 => ?_)
    · replace hf := (if_pos c_1).symm.trans hf
      cases hf
      exact K0 _ _ _ hw (lv_sub hl [] rfl)
    · replace hf := (if_neg c_1).symm.trans hf
      refine lv_aload_n S.1 S.2.1 dX9_passRow_7 rfl (lv_at hl 1 rfl) ?_
      refine lv_iload_n S.1 S.2.1 dX9_passRow_8 rfl (lv_at hl 3 rfl) ?_
      refine lv_aload_n S.1 S.2.1 dX9_passRow_9 rfl (lv_at hl 0 rfl) ?_
      refine lv_aload_n S.1 S.2.1 dX9_passRow_10 rfl (lv_at hl 1 rfl) ?_
      refine lv_iload_n S.1 S.2.1 dX9_passRow_11 rfl (lv_at hl 3 rfl) ?_
      obtain ⟨x_2, e_x_2, hf⟩ := ob hf
      refine al_X9_7 S hw 0 rfl e_x_2 dX9_passRow_12 ?_
      obtain ⟨u_3, e_u_3, hf⟩ := ob hf
      refine k_X9_pass S (S.2.2.2.2.wd wd1151 rfl) hw e_u_3 [0] rfl (by decide) rfl ⟨rfl, rfl, Nat.le_of_ble_eq_true rfl, Nat.le_of_ble_eq_true rfl⟩ hl.1 (Nat.le_of_ble_eq_true rfl) dX9_passRow_13 ⟨Nat.zero_le _, Nat.zero_le _⟩ (fun H locs hw => ?_)
      have hw : PW D A H0 [pX9 cy o0 q0 u_3.2] H locs := hw
      obtain ⟨σ_4, e_σ_4, hf⟩ := ob hf
      refine as_X9_7 S hw 0 rfl e_σ_4 dX9_passRow_16 (fun H locs hw => ?_)
      have hw : PW D A H0 [pX9 cy o0 q0 σ_4] H locs := hw
      refine lv_iinc (v := (y3 + 1)) (lv' := [(3, .int ((y3 + 1))), (0, .ref o0), (1, .ref ((q0 7))), (2, .int y2)]) S.1 S.2.1 dX9_passRow_17 hl (k := 3) rfl rfl (by decide) rfl (fun ls hl => ?_)
      refine lv_goto (tgt := 2) S.1 S.2.1 dX9_passRow_20 (by decide) ?_
      exact ih _ _ _ _ _ _ hw (lv_sub hl [1, 2, 3, 0] rfl) hf K0
end
set_option maxHeartbeats 4000000 in
set_option maxRecDepth 100000 in
theorem c_X9_passRow_a7 (l : Launch) (D : va_G) (cy : Nat → ClassId) (o0 : Nat) (q0 : Nat → Nat) (x2 : Int32) (σ0 : pStt) (u : pStt) (hf : f_X9_passRow_a7 x2 σ0 = some u) : CT l yX9_passRow cX9_passRow 4 none rmX9_passRow_a7 D cy [.ref o0, .ref ((q0 7)), .int x2] [pX9 cy o0 q0 σ0] none [pX9 cy o0 q0 u] := by
  refine CT.of (by decide) (Nat.le_of_ble_eq_true rfl) (fun p e s m args below meth c ls A Q hA hQ S hr hlk hl hw => ?_)
  have hl : lv_has ls 4 [(0, .ref o0), (1, .ref ((q0 7))), (2, .int x2)] := hl
  rw [f_X9_passRow_a7] at hf
  refine lv_iconst (v := 0) S.1 S.2.1 dX9_passRow_0 (by decide) ?_
  refine lv_istore_n (lv' := [(3, .int 0), (0, .ref o0), (1, .ref ((q0 7))), (2, .int x2)]) S.1 S.2.1 dX9_passRow_1 rfl hl (by decide) rfl (fun ls hl => ?_)
  obtain ⟨u_5, e_u_5, hf⟩ := ob hf
  refine lp_X9_passRow_a7_2 S 2000 _ _ _ _ _ _ hw (lv_sub hl [1, 2, 3, 0] rfl) e_u_5 ?_
  · intro H locs ls hw hl
    cases hf
    exact w_vret S hr hlk hA hQ hw dX9_passRow_23
section
variable {p : Program} {l : Launch} {e : Env} {R : Room} {s : State} {m : MethodId} {args : Array Value} {below : List Frame} {meth : Method} {c : Code} {H : Heap} {locs : List Loc} {cells slots : Nat} {Q : State → Prop} {cc : ByteArray} {pc nL : Nat} {ls : Array Slot} {rest : List Value} {D : va_G} {cy : Nat → ClassId} {A : Nat → Prop} {H0 : Heap} {own : String} {Ps : List va_W}
set_option maxRecDepth 100000 in
theorem k_X9_passRow_a7 {o0 : Nat} {q0 : Nat → Nat} {x2 : Int32} {σ0 : pStt} {u : pStt} {index : Nat} (S : CX p m c cc nL s args own D cy) (hl : (Cond.methodLink own index yX9_passRow).before args s = true) (hw : PW D A H0 Ps H locs) (hf : f_X9_passRow_a7 x2 σ0 = some u) (js : List Nat) (hC : js.map (fun j => Ps[j]?) = [some (pX9 cy o0 q0 σ0)]) (hnd : js.Nodup) (hlen : js.length = 1) (hR : RMok rmX9_passRow_a7 R 4) (hsize : ls.size = nL) (hrest : (rest.map fun v => v.category).sum ≤ 8) (hdg : decode cc pc = .ok (.invokevirtual index, 3)) (hcs : cells ≤ R.cells ∧ slots ≤ R.slots)
    (kk : ∀ (H1 : Heap) (locs1 : List Loc), PW D A H0 (setAll Ps js [pX9 cy o0 q0 u]) H1 locs1 → W p l e R s m args below meth c H1 locs1 cells slots Q (F0 m (pc + 3) ls (rest))) : W p l e R s m args below meth c H locs cells slots Q (F0 m pc ls (.int x2 :: .ref ((q0 7)) :: .ref o0 :: rest)) :=
  w_callV (n := 2) (ov := none) (As := [.ref ((q0 7)), .int x2]) (Cs := [pX9 cy o0 q0 σ0]) (Cs' := [pX9 cy o0 q0 u]) S hw (c_X9_passRow_a7 l D cy o0 q0 x2 σ0 u hf) (MF.of S.2.2.2.2 wd1158 wd79 (by decide)) (S.2.2.2.2.wd wd1157 rfl) (S.2.2.2.2.wd wd65 rfl) hl hR js hC hnd hlen rfl rfl rfl rfl hsize rfl hrest hdg hcs kk
end
abbrev rmX9_passRow_a8 : Room := { frames := 1, cells := 0, slots := 0, locals := 22 }
def fl_X9_passRow_a8_2 (y2 : Int32)  : Nat → Int32 → pStt → Option (pStt)
  | 0, _, _ => none
  | n + 1, y3, σ0 => if y2 ≤ y3 then some σ0 else (ld (σ0.2 8) 8 y3).bind (fun x_2 => (f_X9_pass x_2 σ0).bind (fun u_3 => (stA u_3.2 8 8 y3 u_3.1).bind (fun σ_4 => fl_X9_passRow_a8_2 y2 n ((y3 + 1)) σ_4)))
def f_X9_passRow_a8 (x2 : Int32) (σ0 : pStt) : Option (pStt) := (fl_X9_passRow_a8_2 x2 2000 0 σ0).bind (fun u_5 => some u_5)
section
variable {p : Program} {l : Launch} {e : Env} {s : State} {m : MethodId} {args : Array Value} {below : List Frame} {meth : Method} {c : Code} {Q : State → Prop} {D : va_G} {cy : Nat → ClassId} {A : Nat → Prop} {H0 : Heap}
set_option maxHeartbeats 4000000 in
set_option maxRecDepth 100000 in
theorem lp_X9_passRow_a8_2 (S : CX p m c cX9_passRow 4 s args RX9 D cy) {o0 : Nat} {q0 : Nat → Nat}  {y2 : Int32} : ∀ (n : Nat) (y3 : Int32) (σ0 : pStt) (H : Heap) (locs : List Loc) (ls : Array Slot) (u : pStt), PW D A H0 [pX9 cy o0 q0 σ0] H locs → lv_has ls 4 [(0, .ref o0), (1, .ref ((q0 8))), (2, .int y2), (3, .int y3)] → fl_X9_passRow_a8_2 y2 n y3 σ0 = some u → (∀ (H : Heap) (locs : List Loc) (ls : Array Slot), PW D A H0 [pX9 cy o0 q0 u] H locs → lv_has ls 4 [] → W p l e rmX9_passRow_a8 s m args below meth c H locs 0 0 Q (F0 m 23 ls [])) → W p l e rmX9_passRow_a8 s m args below meth c H locs 0 0 Q (F0 m 2 ls []) := by
  intro n
  induction n with
  | zero =>
    intro y3 σ0 H locs ls u hw hl hf K0
    rw [fl_X9_passRow_a8_2] at hf
    cases hf
  | succ n ih =>
    intro y3 σ0 H locs ls u hw hl hf K0
    rw [fl_X9_passRow_a8_2] at hf
    refine lv_iload_n S.1 S.2.1 dX9_passRow_2 rfl (lv_at hl 3 rfl) ?_
    refine lv_iload_n S.1 S.2.1 dX9_passRow_3 rfl (lv_at hl 2 rfl) ?_
    refine lv_icmp_ge (tgt := 23) S.1 S.2.1 dX9_passRow_4 (by decide) (fun c_1 => ?_) (fun c_1 => ?_)
    · replace hf := (if_pos c_1).symm.trans hf
      cases hf
      exact K0 _ _ _ hw (lv_sub hl [] rfl)
    · replace hf := (if_neg c_1).symm.trans hf
      refine lv_aload_n S.1 S.2.1 dX9_passRow_7 rfl (lv_at hl 1 rfl) ?_
      refine lv_iload_n S.1 S.2.1 dX9_passRow_8 rfl (lv_at hl 3 rfl) ?_
      refine lv_aload_n S.1 S.2.1 dX9_passRow_9 rfl (lv_at hl 0 rfl) ?_
      refine lv_aload_n S.1 S.2.1 dX9_passRow_10 rfl (lv_at hl 1 rfl) ?_
      refine lv_iload_n S.1 S.2.1 dX9_passRow_11 rfl (lv_at hl 3 rfl) ?_
      obtain ⟨x_2, e_x_2, hf⟩ := ob hf
      refine al_X9_8 S hw 0 rfl e_x_2 dX9_passRow_12 ?_
      obtain ⟨u_3, e_u_3, hf⟩ := ob hf
      refine k_X9_pass S (S.2.2.2.2.wd wd1151 rfl) hw e_u_3 [0] rfl (by decide) rfl ⟨rfl, rfl, Nat.le_of_ble_eq_true rfl, Nat.le_of_ble_eq_true rfl⟩ hl.1 (Nat.le_of_ble_eq_true rfl) dX9_passRow_13 ⟨Nat.zero_le _, Nat.zero_le _⟩ (fun H locs hw => ?_)
      have hw : PW D A H0 [pX9 cy o0 q0 u_3.2] H locs := hw
      obtain ⟨σ_4, e_σ_4, hf⟩ := ob hf
      refine as_X9_8 S hw 0 rfl e_σ_4 dX9_passRow_16 (fun H locs hw => ?_)
      have hw : PW D A H0 [pX9 cy o0 q0 σ_4] H locs := hw
      refine lv_iinc (v := (y3 + 1)) (lv' := [(3, .int ((y3 + 1))), (0, .ref o0), (1, .ref ((q0 8))), (2, .int y2)]) S.1 S.2.1 dX9_passRow_17 hl (k := 3) rfl rfl (by decide) rfl (fun ls hl => ?_)
      refine lv_goto (tgt := 2) S.1 S.2.1 dX9_passRow_20 (by decide) ?_
      exact ih _ _ _ _ _ _ hw (lv_sub hl [1, 2, 3, 0] rfl) hf K0
end
set_option maxHeartbeats 4000000 in
set_option maxRecDepth 100000 in
theorem c_X9_passRow_a8 (l : Launch) (D : va_G) (cy : Nat → ClassId) (o0 : Nat) (q0 : Nat → Nat) (x2 : Int32) (σ0 : pStt) (u : pStt) (hf : f_X9_passRow_a8 x2 σ0 = some u) : CT l yX9_passRow cX9_passRow 4 none rmX9_passRow_a8 D cy [.ref o0, .ref ((q0 8)), .int x2] [pX9 cy o0 q0 σ0] none [pX9 cy o0 q0 u] := by
  refine CT.of (by decide) (Nat.le_of_ble_eq_true rfl) (fun p e s m args below meth c ls A Q hA hQ S hr hlk hl hw => ?_)
  have hl : lv_has ls 4 [(0, .ref o0), (1, .ref ((q0 8))), (2, .int x2)] := hl
  rw [f_X9_passRow_a8] at hf
  refine lv_iconst (v := 0) S.1 S.2.1 dX9_passRow_0 (by decide) ?_
  refine lv_istore_n (lv' := [(3, .int 0), (0, .ref o0), (1, .ref ((q0 8))), (2, .int x2)]) S.1 S.2.1 dX9_passRow_1 rfl hl (by decide) rfl (fun ls hl => ?_)
  obtain ⟨u_5, e_u_5, hf⟩ := ob hf
  refine lp_X9_passRow_a8_2 S 2000 _ _ _ _ _ _ hw (lv_sub hl [1, 2, 3, 0] rfl) e_u_5 ?_
  · intro H locs ls hw hl
    cases hf
    exact w_vret S hr hlk hA hQ hw dX9_passRow_23
section
variable {p : Program} {l : Launch} {e : Env} {R : Room} {s : State} {m : MethodId} {args : Array Value} {below : List Frame} {meth : Method} {c : Code} {H : Heap} {locs : List Loc} {cells slots : Nat} {Q : State → Prop} {cc : ByteArray} {pc nL : Nat} {ls : Array Slot} {rest : List Value} {D : va_G} {cy : Nat → ClassId} {A : Nat → Prop} {H0 : Heap} {own : String} {Ps : List va_W}
set_option maxRecDepth 100000 in
theorem k_X9_passRow_a8 {o0 : Nat} {q0 : Nat → Nat} {x2 : Int32} {σ0 : pStt} {u : pStt} {index : Nat} (S : CX p m c cc nL s args own D cy) (hl : (Cond.methodLink own index yX9_passRow).before args s = true) (hw : PW D A H0 Ps H locs) (hf : f_X9_passRow_a8 x2 σ0 = some u) (js : List Nat) (hC : js.map (fun j => Ps[j]?) = [some (pX9 cy o0 q0 σ0)]) (hnd : js.Nodup) (hlen : js.length = 1) (hR : RMok rmX9_passRow_a8 R 4) (hsize : ls.size = nL) (hrest : (rest.map fun v => v.category).sum ≤ 8) (hdg : decode cc pc = .ok (.invokevirtual index, 3)) (hcs : cells ≤ R.cells ∧ slots ≤ R.slots)
    (kk : ∀ (H1 : Heap) (locs1 : List Loc), PW D A H0 (setAll Ps js [pX9 cy o0 q0 u]) H1 locs1 → W p l e R s m args below meth c H1 locs1 cells slots Q (F0 m (pc + 3) ls (rest))) : W p l e R s m args below meth c H locs cells slots Q (F0 m pc ls (.int x2 :: .ref ((q0 8)) :: .ref o0 :: rest)) :=
  w_callV (n := 2) (ov := none) (As := [.ref ((q0 8)), .int x2]) (Cs := [pX9 cy o0 q0 σ0]) (Cs' := [pX9 cy o0 q0 u]) S hw (c_X9_passRow_a8 l D cy o0 q0 x2 σ0 u hf) (MF.of S.2.2.2.2 wd1158 wd79 (by decide)) (S.2.2.2.2.wd wd1157 rfl) (S.2.2.2.2.wd wd65 rfl) hl hR js hC hnd hlen rfl rfl rfl rfl hsize rfl hrest hdg hcs kk
end
abbrev rmX9_passRow_a9 : Room := { frames := 1, cells := 0, slots := 0, locals := 22 }
def fl_X9_passRow_a9_2 (y2 : Int32)  : Nat → Int32 → pStt → Option (pStt)
  | 0, _, _ => none
  | n + 1, y3, σ0 => if y2 ≤ y3 then some σ0 else (ld (σ0.2 9) 8 y3).bind (fun x_2 => (f_X9_pass x_2 σ0).bind (fun u_3 => (stA u_3.2 9 8 y3 u_3.1).bind (fun σ_4 => fl_X9_passRow_a9_2 y2 n ((y3 + 1)) σ_4)))
def f_X9_passRow_a9 (x2 : Int32) (σ0 : pStt) : Option (pStt) := (fl_X9_passRow_a9_2 x2 2000 0 σ0).bind (fun u_5 => some u_5)
section
variable {p : Program} {l : Launch} {e : Env} {s : State} {m : MethodId} {args : Array Value} {below : List Frame} {meth : Method} {c : Code} {Q : State → Prop} {D : va_G} {cy : Nat → ClassId} {A : Nat → Prop} {H0 : Heap}
set_option maxHeartbeats 4000000 in
set_option maxRecDepth 100000 in
theorem lp_X9_passRow_a9_2 (S : CX p m c cX9_passRow 4 s args RX9 D cy) {o0 : Nat} {q0 : Nat → Nat}  {y2 : Int32} : ∀ (n : Nat) (y3 : Int32) (σ0 : pStt) (H : Heap) (locs : List Loc) (ls : Array Slot) (u : pStt), PW D A H0 [pX9 cy o0 q0 σ0] H locs → lv_has ls 4 [(0, .ref o0), (1, .ref ((q0 9))), (2, .int y2), (3, .int y3)] → fl_X9_passRow_a9_2 y2 n y3 σ0 = some u → (∀ (H : Heap) (locs : List Loc) (ls : Array Slot), PW D A H0 [pX9 cy o0 q0 u] H locs → lv_has ls 4 [] → W p l e rmX9_passRow_a9 s m args below meth c H locs 0 0 Q (F0 m 23 ls [])) → W p l e rmX9_passRow_a9 s m args below meth c H locs 0 0 Q (F0 m 2 ls []) := by
  intro n
  induction n with
  | zero =>
    intro y3 σ0 H locs ls u hw hl hf K0
    rw [fl_X9_passRow_a9_2] at hf
    cases hf
  | succ n ih =>
    intro y3 σ0 H locs ls u hw hl hf K0
    rw [fl_X9_passRow_a9_2] at hf
    refine lv_iload_n S.1 S.2.1 dX9_passRow_2 rfl (lv_at hl 3 rfl) ?_
    refine lv_iload_n S.1 S.2.1 dX9_passRow_3 rfl (lv_at hl 2 rfl) ?_
    refine lv_icmp_ge (tgt := 23) S.1 S.2.1 dX9_passRow_4 (by decide) (fun c_1 => ?_) (fun c_1 => ?_)
    · replace hf := (if_pos c_1).symm.trans hf
      cases hf
      exact K0 _ _ _ hw (lv_sub hl [] rfl)
    · replace hf := (if_neg c_1).symm.trans hf
      refine lv_aload_n S.1 S.2.1 dX9_passRow_7 rfl (lv_at hl 1 rfl) ?_
      refine lv_iload_n S.1 S.2.1 dX9_passRow_8 rfl (lv_at hl 3 rfl) ?_
      refine lv_aload_n S.1 S.2.1 dX9_passRow_9 rfl (lv_at hl 0 rfl) ?_
      refine lv_aload_n S.1 S.2.1 dX9_passRow_10 rfl (lv_at hl 1 rfl) ?_
      refine lv_iload_n S.1 S.2.1 dX9_passRow_11 rfl (lv_at hl 3 rfl) ?_
      obtain ⟨x_2, e_x_2, hf⟩ := ob hf
      refine al_X9_9 S hw 0 rfl e_x_2 dX9_passRow_12 ?_
      obtain ⟨u_3, e_u_3, hf⟩ := ob hf
      refine k_X9_pass S (S.2.2.2.2.wd wd1151 rfl) hw e_u_3 [0] rfl (by decide) rfl ⟨rfl, rfl, Nat.le_of_ble_eq_true rfl, Nat.le_of_ble_eq_true rfl⟩ hl.1 (Nat.le_of_ble_eq_true rfl) dX9_passRow_13 ⟨Nat.zero_le _, Nat.zero_le _⟩ (fun H locs hw => ?_)
      have hw : PW D A H0 [pX9 cy o0 q0 u_3.2] H locs := hw
      obtain ⟨σ_4, e_σ_4, hf⟩ := ob hf
      refine as_X9_9 S hw 0 rfl e_σ_4 dX9_passRow_16 (fun H locs hw => ?_)
      have hw : PW D A H0 [pX9 cy o0 q0 σ_4] H locs := hw
      refine lv_iinc (v := (y3 + 1)) (lv' := [(3, .int ((y3 + 1))), (0, .ref o0), (1, .ref ((q0 9))), (2, .int y2)]) S.1 S.2.1 dX9_passRow_17 hl (k := 3) rfl rfl (by decide) rfl (fun ls hl => ?_)
      refine lv_goto (tgt := 2) S.1 S.2.1 dX9_passRow_20 (by decide) ?_
      exact ih _ _ _ _ _ _ hw (lv_sub hl [1, 2, 3, 0] rfl) hf K0
end
set_option maxHeartbeats 4000000 in
set_option maxRecDepth 100000 in
theorem c_X9_passRow_a9 (l : Launch) (D : va_G) (cy : Nat → ClassId) (o0 : Nat) (q0 : Nat → Nat) (x2 : Int32) (σ0 : pStt) (u : pStt) (hf : f_X9_passRow_a9 x2 σ0 = some u) : CT l yX9_passRow cX9_passRow 4 none rmX9_passRow_a9 D cy [.ref o0, .ref ((q0 9)), .int x2] [pX9 cy o0 q0 σ0] none [pX9 cy o0 q0 u] := by
  refine CT.of (by decide) (Nat.le_of_ble_eq_true rfl) (fun p e s m args below meth c ls A Q hA hQ S hr hlk hl hw => ?_)
  have hl : lv_has ls 4 [(0, .ref o0), (1, .ref ((q0 9))), (2, .int x2)] := hl
  rw [f_X9_passRow_a9] at hf
  refine lv_iconst (v := 0) S.1 S.2.1 dX9_passRow_0 (by decide) ?_
  refine lv_istore_n (lv' := [(3, .int 0), (0, .ref o0), (1, .ref ((q0 9))), (2, .int x2)]) S.1 S.2.1 dX9_passRow_1 rfl hl (by decide) rfl (fun ls hl => ?_)
  obtain ⟨u_5, e_u_5, hf⟩ := ob hf
  refine lp_X9_passRow_a9_2 S 2000 _ _ _ _ _ _ hw (lv_sub hl [1, 2, 3, 0] rfl) e_u_5 ?_
  · intro H locs ls hw hl
    cases hf
    exact w_vret S hr hlk hA hQ hw dX9_passRow_23
section
variable {p : Program} {l : Launch} {e : Env} {R : Room} {s : State} {m : MethodId} {args : Array Value} {below : List Frame} {meth : Method} {c : Code} {H : Heap} {locs : List Loc} {cells slots : Nat} {Q : State → Prop} {cc : ByteArray} {pc nL : Nat} {ls : Array Slot} {rest : List Value} {D : va_G} {cy : Nat → ClassId} {A : Nat → Prop} {H0 : Heap} {own : String} {Ps : List va_W}
set_option maxRecDepth 100000 in
theorem k_X9_passRow_a9 {o0 : Nat} {q0 : Nat → Nat} {x2 : Int32} {σ0 : pStt} {u : pStt} {index : Nat} (S : CX p m c cc nL s args own D cy) (hl : (Cond.methodLink own index yX9_passRow).before args s = true) (hw : PW D A H0 Ps H locs) (hf : f_X9_passRow_a9 x2 σ0 = some u) (js : List Nat) (hC : js.map (fun j => Ps[j]?) = [some (pX9 cy o0 q0 σ0)]) (hnd : js.Nodup) (hlen : js.length = 1) (hR : RMok rmX9_passRow_a9 R 4) (hsize : ls.size = nL) (hrest : (rest.map fun v => v.category).sum ≤ 8) (hdg : decode cc pc = .ok (.invokevirtual index, 3)) (hcs : cells ≤ R.cells ∧ slots ≤ R.slots)
    (kk : ∀ (H1 : Heap) (locs1 : List Loc), PW D A H0 (setAll Ps js [pX9 cy o0 q0 u]) H1 locs1 → W p l e R s m args below meth c H1 locs1 cells slots Q (F0 m (pc + 3) ls (rest))) : W p l e R s m args below meth c H locs cells slots Q (F0 m pc ls (.int x2 :: .ref ((q0 9)) :: .ref o0 :: rest)) :=
  w_callV (n := 2) (ov := none) (As := [.ref ((q0 9)), .int x2]) (Cs := [pX9 cy o0 q0 σ0]) (Cs' := [pX9 cy o0 q0 u]) S hw (c_X9_passRow_a9 l D cy o0 q0 x2 σ0 u hf) (MF.of S.2.2.2.2 wd1158 wd79 (by decide)) (S.2.2.2.2.wd wd1157 rfl) (S.2.2.2.2.wd wd65 rfl) hl hR js hC hnd hlen rfl rfl rfl rfl hsize rfl hrest hdg hcs kk
end
abbrev rmX9_passRow_a10 : Room := { frames := 1, cells := 0, slots := 0, locals := 22 }
def fl_X9_passRow_a10_2 (y2 : Int32)  : Nat → Int32 → pStt → Option (pStt)
  | 0, _, _ => none
  | n + 1, y3, σ0 => if y2 ≤ y3 then some σ0 else (ld (σ0.2 10) 8 y3).bind (fun x_2 => (f_X9_pass x_2 σ0).bind (fun u_3 => (stA u_3.2 10 8 y3 u_3.1).bind (fun σ_4 => fl_X9_passRow_a10_2 y2 n ((y3 + 1)) σ_4)))
def f_X9_passRow_a10 (x2 : Int32) (σ0 : pStt) : Option (pStt) := (fl_X9_passRow_a10_2 x2 2000 0 σ0).bind (fun u_5 => some u_5)
section
variable {p : Program} {l : Launch} {e : Env} {s : State} {m : MethodId} {args : Array Value} {below : List Frame} {meth : Method} {c : Code} {Q : State → Prop} {D : va_G} {cy : Nat → ClassId} {A : Nat → Prop} {H0 : Heap}
set_option maxHeartbeats 4000000 in
set_option maxRecDepth 100000 in
theorem lp_X9_passRow_a10_2 (S : CX p m c cX9_passRow 4 s args RX9 D cy) {o0 : Nat} {q0 : Nat → Nat}  {y2 : Int32} : ∀ (n : Nat) (y3 : Int32) (σ0 : pStt) (H : Heap) (locs : List Loc) (ls : Array Slot) (u : pStt), PW D A H0 [pX9 cy o0 q0 σ0] H locs → lv_has ls 4 [(0, .ref o0), (1, .ref ((q0 10))), (2, .int y2), (3, .int y3)] → fl_X9_passRow_a10_2 y2 n y3 σ0 = some u → (∀ (H : Heap) (locs : List Loc) (ls : Array Slot), PW D A H0 [pX9 cy o0 q0 u] H locs → lv_has ls 4 [] → W p l e rmX9_passRow_a10 s m args below meth c H locs 0 0 Q (F0 m 23 ls [])) → W p l e rmX9_passRow_a10 s m args below meth c H locs 0 0 Q (F0 m 2 ls []) := by
  intro n
  induction n with
  | zero =>
    intro y3 σ0 H locs ls u hw hl hf K0
    rw [fl_X9_passRow_a10_2] at hf
    cases hf
  | succ n ih =>
    intro y3 σ0 H locs ls u hw hl hf K0
    rw [fl_X9_passRow_a10_2] at hf
    refine lv_iload_n S.1 S.2.1 dX9_passRow_2 rfl (lv_at hl 3 rfl) ?_
    refine lv_iload_n S.1 S.2.1 dX9_passRow_3 rfl (lv_at hl 2 rfl) ?_
    refine lv_icmp_ge (tgt := 23) S.1 S.2.1 dX9_passRow_4 (by decide) (fun c_1 => ?_) (fun c_1 => ?_)
    · replace hf := (if_pos c_1).symm.trans hf
      cases hf
      exact K0 _ _ _ hw (lv_sub hl [] rfl)
    · replace hf := (if_neg c_1).symm.trans hf
      refine lv_aload_n S.1 S.2.1 dX9_passRow_7 rfl (lv_at hl 1 rfl) ?_
      refine lv_iload_n S.1 S.2.1 dX9_passRow_8 rfl (lv_at hl 3 rfl) ?_
      refine lv_aload_n S.1 S.2.1 dX9_passRow_9 rfl (lv_at hl 0 rfl) ?_
      refine lv_aload_n S.1 S.2.1 dX9_passRow_10 rfl (lv_at hl 1 rfl) ?_
      refine lv_iload_n S.1 S.2.1 dX9_passRow_11 rfl (lv_at hl 3 rfl) ?_
      obtain ⟨x_2, e_x_2, hf⟩ := ob hf
      refine al_X9_10 S hw 0 rfl e_x_2 dX9_passRow_12 ?_
      obtain ⟨u_3, e_u_3, hf⟩ := ob hf
      refine k_X9_pass S (S.2.2.2.2.wd wd1151 rfl) hw e_u_3 [0] rfl (by decide) rfl ⟨rfl, rfl, Nat.le_of_ble_eq_true rfl, Nat.le_of_ble_eq_true rfl⟩ hl.1 (Nat.le_of_ble_eq_true rfl) dX9_passRow_13 ⟨Nat.zero_le _, Nat.zero_le _⟩ (fun H locs hw => ?_)
      have hw : PW D A H0 [pX9 cy o0 q0 u_3.2] H locs := hw
      obtain ⟨σ_4, e_σ_4, hf⟩ := ob hf
      refine as_X9_10 S hw 0 rfl e_σ_4 dX9_passRow_16 (fun H locs hw => ?_)
      have hw : PW D A H0 [pX9 cy o0 q0 σ_4] H locs := hw
      refine lv_iinc (v := (y3 + 1)) (lv' := [(3, .int ((y3 + 1))), (0, .ref o0), (1, .ref ((q0 10))), (2, .int y2)]) S.1 S.2.1 dX9_passRow_17 hl (k := 3) rfl rfl (by decide) rfl (fun ls hl => ?_)
      refine lv_goto (tgt := 2) S.1 S.2.1 dX9_passRow_20 (by decide) ?_
      exact ih _ _ _ _ _ _ hw (lv_sub hl [1, 2, 3, 0] rfl) hf K0
end
set_option maxHeartbeats 4000000 in
set_option maxRecDepth 100000 in
theorem c_X9_passRow_a10 (l : Launch) (D : va_G) (cy : Nat → ClassId) (o0 : Nat) (q0 : Nat → Nat) (x2 : Int32) (σ0 : pStt) (u : pStt) (hf : f_X9_passRow_a10 x2 σ0 = some u) : CT l yX9_passRow cX9_passRow 4 none rmX9_passRow_a10 D cy [.ref o0, .ref ((q0 10)), .int x2] [pX9 cy o0 q0 σ0] none [pX9 cy o0 q0 u] := by
  refine CT.of (by decide) (Nat.le_of_ble_eq_true rfl) (fun p e s m args below meth c ls A Q hA hQ S hr hlk hl hw => ?_)
  have hl : lv_has ls 4 [(0, .ref o0), (1, .ref ((q0 10))), (2, .int x2)] := hl
  rw [f_X9_passRow_a10] at hf
  refine lv_iconst (v := 0) S.1 S.2.1 dX9_passRow_0 (by decide) ?_
  refine lv_istore_n (lv' := [(3, .int 0), (0, .ref o0), (1, .ref ((q0 10))), (2, .int x2)]) S.1 S.2.1 dX9_passRow_1 rfl hl (by decide) rfl (fun ls hl => ?_)
  obtain ⟨u_5, e_u_5, hf⟩ := ob hf
  refine lp_X9_passRow_a10_2 S 2000 _ _ _ _ _ _ hw (lv_sub hl [1, 2, 3, 0] rfl) e_u_5 ?_
  · intro H locs ls hw hl
    cases hf
    exact w_vret S hr hlk hA hQ hw dX9_passRow_23
section
variable {p : Program} {l : Launch} {e : Env} {R : Room} {s : State} {m : MethodId} {args : Array Value} {below : List Frame} {meth : Method} {c : Code} {H : Heap} {locs : List Loc} {cells slots : Nat} {Q : State → Prop} {cc : ByteArray} {pc nL : Nat} {ls : Array Slot} {rest : List Value} {D : va_G} {cy : Nat → ClassId} {A : Nat → Prop} {H0 : Heap} {own : String} {Ps : List va_W}
set_option maxRecDepth 100000 in
theorem k_X9_passRow_a10 {o0 : Nat} {q0 : Nat → Nat} {x2 : Int32} {σ0 : pStt} {u : pStt} {index : Nat} (S : CX p m c cc nL s args own D cy) (hl : (Cond.methodLink own index yX9_passRow).before args s = true) (hw : PW D A H0 Ps H locs) (hf : f_X9_passRow_a10 x2 σ0 = some u) (js : List Nat) (hC : js.map (fun j => Ps[j]?) = [some (pX9 cy o0 q0 σ0)]) (hnd : js.Nodup) (hlen : js.length = 1) (hR : RMok rmX9_passRow_a10 R 4) (hsize : ls.size = nL) (hrest : (rest.map fun v => v.category).sum ≤ 8) (hdg : decode cc pc = .ok (.invokevirtual index, 3)) (hcs : cells ≤ R.cells ∧ slots ≤ R.slots)
    (kk : ∀ (H1 : Heap) (locs1 : List Loc), PW D A H0 (setAll Ps js [pX9 cy o0 q0 u]) H1 locs1 → W p l e R s m args below meth c H1 locs1 cells slots Q (F0 m (pc + 3) ls (rest))) : W p l e R s m args below meth c H locs cells slots Q (F0 m pc ls (.int x2 :: .ref ((q0 10)) :: .ref o0 :: rest)) :=
  w_callV (n := 2) (ov := none) (As := [.ref ((q0 10)), .int x2]) (Cs := [pX9 cy o0 q0 σ0]) (Cs' := [pX9 cy o0 q0 u]) S hw (c_X9_passRow_a10 l D cy o0 q0 x2 σ0 u hf) (MF.of S.2.2.2.2 wd1158 wd79 (by decide)) (S.2.2.2.2.wd wd1157 rfl) (S.2.2.2.2.wd wd65 rfl) hl hR js hC hnd hlen rfl rfl rfl rfl hsize rfl hrest hdg hcs kk
end
abbrev rmX9_passRow_a11 : Room := { frames := 1, cells := 0, slots := 0, locals := 22 }
def fl_X9_passRow_a11_2 (y2 : Int32)  : Nat → Int32 → pStt → Option (pStt)
  | 0, _, _ => none
  | n + 1, y3, σ0 => if y2 ≤ y3 then some σ0 else (ld (σ0.2 11) 8 y3).bind (fun x_2 => (f_X9_pass x_2 σ0).bind (fun u_3 => (stA u_3.2 11 8 y3 u_3.1).bind (fun σ_4 => fl_X9_passRow_a11_2 y2 n ((y3 + 1)) σ_4)))
def f_X9_passRow_a11 (x2 : Int32) (σ0 : pStt) : Option (pStt) := (fl_X9_passRow_a11_2 x2 2000 0 σ0).bind (fun u_5 => some u_5)
section
variable {p : Program} {l : Launch} {e : Env} {s : State} {m : MethodId} {args : Array Value} {below : List Frame} {meth : Method} {c : Code} {Q : State → Prop} {D : va_G} {cy : Nat → ClassId} {A : Nat → Prop} {H0 : Heap}
set_option maxHeartbeats 4000000 in
set_option maxRecDepth 100000 in
theorem lp_X9_passRow_a11_2 (S : CX p m c cX9_passRow 4 s args RX9 D cy) {o0 : Nat} {q0 : Nat → Nat}  {y2 : Int32} : ∀ (n : Nat) (y3 : Int32) (σ0 : pStt) (H : Heap) (locs : List Loc) (ls : Array Slot) (u : pStt), PW D A H0 [pX9 cy o0 q0 σ0] H locs → lv_has ls 4 [(0, .ref o0), (1, .ref ((q0 11))), (2, .int y2), (3, .int y3)] → fl_X9_passRow_a11_2 y2 n y3 σ0 = some u → (∀ (H : Heap) (locs : List Loc) (ls : Array Slot), PW D A H0 [pX9 cy o0 q0 u] H locs → lv_has ls 4 [] → W p l e rmX9_passRow_a11 s m args below meth c H locs 0 0 Q (F0 m 23 ls [])) → W p l e rmX9_passRow_a11 s m args below meth c H locs 0 0 Q (F0 m 2 ls []) := by
  intro n
  induction n with
  | zero =>
    intro y3 σ0 H locs ls u hw hl hf K0
    rw [fl_X9_passRow_a11_2] at hf
    cases hf
  | succ n ih =>
    intro y3 σ0 H locs ls u hw hl hf K0
    rw [fl_X9_passRow_a11_2] at hf
    refine lv_iload_n S.1 S.2.1 dX9_passRow_2 rfl (lv_at hl 3 rfl) ?_
    refine lv_iload_n S.1 S.2.1 dX9_passRow_3 rfl (lv_at hl 2 rfl) ?_
    refine lv_icmp_ge (tgt := 23) S.1 S.2.1 dX9_passRow_4 (by decide) (fun c_1 => ?_) (fun c_1 => ?_)
    · replace hf := (if_pos c_1).symm.trans hf
      cases hf
      exact K0 _ _ _ hw (lv_sub hl [] rfl)
    · replace hf := (if_neg c_1).symm.trans hf
      refine lv_aload_n S.1 S.2.1 dX9_passRow_7 rfl (lv_at hl 1 rfl) ?_
      refine lv_iload_n S.1 S.2.1 dX9_passRow_8 rfl (lv_at hl 3 rfl) ?_
      refine lv_aload_n S.1 S.2.1 dX9_passRow_9 rfl (lv_at hl 0 rfl) ?_
      refine lv_aload_n S.1 S.2.1 dX9_passRow_10 rfl (lv_at hl 1 rfl) ?_
      refine lv_iload_n S.1 S.2.1 dX9_passRow_11 rfl (lv_at hl 3 rfl) ?_
      obtain ⟨x_2, e_x_2, hf⟩ := ob hf
      refine al_X9_11 S hw 0 rfl e_x_2 dX9_passRow_12 ?_
      obtain ⟨u_3, e_u_3, hf⟩ := ob hf
      refine k_X9_pass S (S.2.2.2.2.wd wd1151 rfl) hw e_u_3 [0] rfl (by decide) rfl ⟨rfl, rfl, Nat.le_of_ble_eq_true rfl, Nat.le_of_ble_eq_true rfl⟩ hl.1 (Nat.le_of_ble_eq_true rfl) dX9_passRow_13 ⟨Nat.zero_le _, Nat.zero_le _⟩ (fun H locs hw => ?_)
      have hw : PW D A H0 [pX9 cy o0 q0 u_3.2] H locs := hw
      obtain ⟨σ_4, e_σ_4, hf⟩ := ob hf
      refine as_X9_11 S hw 0 rfl e_σ_4 dX9_passRow_16 (fun H locs hw => ?_)
      have hw : PW D A H0 [pX9 cy o0 q0 σ_4] H locs := hw
      refine lv_iinc (v := (y3 + 1)) (lv' := [(3, .int ((y3 + 1))), (0, .ref o0), (1, .ref ((q0 11))), (2, .int y2)]) S.1 S.2.1 dX9_passRow_17 hl (k := 3) rfl rfl (by decide) rfl (fun ls hl => ?_)
      refine lv_goto (tgt := 2) S.1 S.2.1 dX9_passRow_20 (by decide) ?_
      exact ih _ _ _ _ _ _ hw (lv_sub hl [1, 2, 3, 0] rfl) hf K0
end
set_option maxHeartbeats 4000000 in
set_option maxRecDepth 100000 in
theorem c_X9_passRow_a11 (l : Launch) (D : va_G) (cy : Nat → ClassId) (o0 : Nat) (q0 : Nat → Nat) (x2 : Int32) (σ0 : pStt) (u : pStt) (hf : f_X9_passRow_a11 x2 σ0 = some u) : CT l yX9_passRow cX9_passRow 4 none rmX9_passRow_a11 D cy [.ref o0, .ref ((q0 11)), .int x2] [pX9 cy o0 q0 σ0] none [pX9 cy o0 q0 u] := by
  refine CT.of (by decide) (Nat.le_of_ble_eq_true rfl) (fun p e s m args below meth c ls A Q hA hQ S hr hlk hl hw => ?_)
  have hl : lv_has ls 4 [(0, .ref o0), (1, .ref ((q0 11))), (2, .int x2)] := hl
  rw [f_X9_passRow_a11] at hf
  refine lv_iconst (v := 0) S.1 S.2.1 dX9_passRow_0 (by decide) ?_
  refine lv_istore_n (lv' := [(3, .int 0), (0, .ref o0), (1, .ref ((q0 11))), (2, .int x2)]) S.1 S.2.1 dX9_passRow_1 rfl hl (by decide) rfl (fun ls hl => ?_)
  obtain ⟨u_5, e_u_5, hf⟩ := ob hf
  refine lp_X9_passRow_a11_2 S 2000 _ _ _ _ _ _ hw (lv_sub hl [1, 2, 3, 0] rfl) e_u_5 ?_
  · intro H locs ls hw hl
    cases hf
    exact w_vret S hr hlk hA hQ hw dX9_passRow_23
section
variable {p : Program} {l : Launch} {e : Env} {R : Room} {s : State} {m : MethodId} {args : Array Value} {below : List Frame} {meth : Method} {c : Code} {H : Heap} {locs : List Loc} {cells slots : Nat} {Q : State → Prop} {cc : ByteArray} {pc nL : Nat} {ls : Array Slot} {rest : List Value} {D : va_G} {cy : Nat → ClassId} {A : Nat → Prop} {H0 : Heap} {own : String} {Ps : List va_W}
set_option maxRecDepth 100000 in
theorem k_X9_passRow_a11 {o0 : Nat} {q0 : Nat → Nat} {x2 : Int32} {σ0 : pStt} {u : pStt} {index : Nat} (S : CX p m c cc nL s args own D cy) (hl : (Cond.methodLink own index yX9_passRow).before args s = true) (hw : PW D A H0 Ps H locs) (hf : f_X9_passRow_a11 x2 σ0 = some u) (js : List Nat) (hC : js.map (fun j => Ps[j]?) = [some (pX9 cy o0 q0 σ0)]) (hnd : js.Nodup) (hlen : js.length = 1) (hR : RMok rmX9_passRow_a11 R 4) (hsize : ls.size = nL) (hrest : (rest.map fun v => v.category).sum ≤ 8) (hdg : decode cc pc = .ok (.invokevirtual index, 3)) (hcs : cells ≤ R.cells ∧ slots ≤ R.slots)
    (kk : ∀ (H1 : Heap) (locs1 : List Loc), PW D A H0 (setAll Ps js [pX9 cy o0 q0 u]) H1 locs1 → W p l e R s m args below meth c H1 locs1 cells slots Q (F0 m (pc + 3) ls (rest))) : W p l e R s m args below meth c H locs cells slots Q (F0 m pc ls (.int x2 :: .ref ((q0 11)) :: .ref o0 :: rest)) :=
  w_callV (n := 2) (ov := none) (As := [.ref ((q0 11)), .int x2]) (Cs := [pX9 cy o0 q0 σ0]) (Cs' := [pX9 cy o0 q0 u]) S hw (c_X9_passRow_a11 l D cy o0 q0 x2 σ0 u hf) (MF.of S.2.2.2.2 wd1158 wd79 (by decide)) (S.2.2.2.2.wd wd1157 rfl) (S.2.2.2.2.wd wd65 rfl) hl hR js hC hnd hlen rfl rfl rfl rfl hsize rfl hrest hdg hcs kk
end
abbrev rmX9_passAll : Room := { frames := 2, cells := 0, slots := 0, locals := 45 }
def f_X9_passAll (σ0 : pStt) : Option (pStt) := (f_X9_pass ((σ0.1 0)) σ0).bind (fun u_1 => (some (sI u_1.2 0 u_1.1)).bind (fun σ_2 => (f_X9_pass ((σ_2.1 1)) σ_2).bind (fun u_3 => (some (sI u_3.2 1 u_3.1)).bind (fun σ_4 => (f_X9_pass ((σ_4.1 2)) σ_4).bind (fun u_5 => (some (sI u_5.2 2 u_5.1)).bind (fun σ_6 => (f_X9_pass ((σ_6.1 3)) σ_6).bind (fun u_7 => (some (sI u_7.2 3 u_7.1)).bind (fun σ_8 => (f_X9_passRow_a0 8 σ_8).bind (fun u_9 => (f_X9_passRow_a1 8 u_9).bind (fun u_10 => (f_X9_passRow_a2 6 u_10).bind (fun u_11 => (f_X9_passRow_a3 6 u_11).bind (fun u_12 => (f_X9_passRow_a4 6 u_12).bind (fun u_13 => (f_X9_passRow_a5 12 u_13).bind (fun u_14 => (f_X9_passRow_a6 12 u_14).bind (fun u_15 => (f_X9_passRow_a7 12 u_15).bind (fun u_16 => (f_X9_passRow_a8 8 u_16).bind (fun u_17 => (f_X9_passRow_a9 8 u_17).bind (fun u_18 => (f_X9_passRow_a10 8 u_18).bind (fun u_19 => (f_X9_passRow_a11 8 u_19).bind (fun u_20 => some u_20))))))))))))))))))))
set_option maxHeartbeats 4000000 in
set_option maxRecDepth 100000 in
theorem c_X9_passAll (l : Launch) (D : va_G) (cy : Nat → ClassId) (o0 : Nat) (q0 : Nat → Nat) (σ0 : pStt) (u : pStt) (hf : f_X9_passAll σ0 = some u) : CT l yX9_passAll cX9_passAll 1 none rmX9_passAll D cy [.ref o0] [pX9 cy o0 q0 σ0] none [pX9 cy o0 q0 u] := by
  refine CT.of (by decide) (Nat.le_of_ble_eq_true rfl) (fun p e s m args below meth c ls A Q hA hQ S hr hlk hl hw => ?_)
  have hl : lv_has ls 1 [(0, .ref o0)] := hl
  rw [f_X9_passAll] at hf
  refine lv_aload_n S.1 S.2.1 dX9_passAll_0 rfl (lv_at hl 0 rfl) ?_
  refine lv_aload_n S.1 S.2.1 dX9_passAll_1 rfl (lv_at hl 0 rfl) ?_
  refine lv_aload_n S.1 S.2.1 dX9_passAll_2 rfl (lv_at hl 0 rfl) ?_
  refine gf_X9_74 S hw 0 rfl dX9_passAll_3 ?_
  obtain ⟨u_1, e_u_1, hf⟩ := ob hf
  refine k_X9_pass S (S.2.2.2.2.wd wd1151 rfl) hw e_u_1 [0] rfl (by decide) rfl ⟨rfl, rfl, Nat.le_of_ble_eq_true rfl, Nat.le_of_ble_eq_true rfl⟩ hl.1 (Nat.le_of_ble_eq_true rfl) dX9_passAll_6 ⟨Nat.zero_le _, Nat.zero_le _⟩ (fun H locs hw => ?_)
  have hw : PW D A s.heap [pX9 cy o0 q0 u_1.2] H locs := hw
  obtain ⟨σ_2, e_σ_2, hf⟩ := ob hf
  refine pf_X9_74 S hw 0 rfl e_σ_2 dX9_passAll_9 (fun H locs hw => ?_)
  have hw : PW D A s.heap [pX9 cy o0 q0 σ_2] H locs := hw
  refine lv_aload_n S.1 S.2.1 dX9_passAll_12 rfl (lv_at hl 0 rfl) ?_
  refine lv_aload_n S.1 S.2.1 dX9_passAll_13 rfl (lv_at hl 0 rfl) ?_
  refine lv_aload_n S.1 S.2.1 dX9_passAll_14 rfl (lv_at hl 0 rfl) ?_
  refine gf_X9_174 S hw 0 rfl dX9_passAll_15 ?_
  obtain ⟨u_3, e_u_3, hf⟩ := ob hf
  refine k_X9_pass S (S.2.2.2.2.wd wd1151 rfl) hw e_u_3 [0] rfl (by decide) rfl ⟨rfl, rfl, Nat.le_of_ble_eq_true rfl, Nat.le_of_ble_eq_true rfl⟩ hl.1 (Nat.le_of_ble_eq_true rfl) dX9_passAll_18 ⟨Nat.zero_le _, Nat.zero_le _⟩ (fun H locs hw => ?_)
  have hw : PW D A s.heap [pX9 cy o0 q0 u_3.2] H locs := hw
  obtain ⟨σ_4, e_σ_4, hf⟩ := ob hf
  refine pf_X9_174 S hw 0 rfl e_σ_4 dX9_passAll_21 (fun H locs hw => ?_)
  have hw : PW D A s.heap [pX9 cy o0 q0 σ_4] H locs := hw
  refine lv_aload_n S.1 S.2.1 dX9_passAll_24 rfl (lv_at hl 0 rfl) ?_
  refine lv_aload_n S.1 S.2.1 dX9_passAll_25 rfl (lv_at hl 0 rfl) ?_
  refine lv_aload_n S.1 S.2.1 dX9_passAll_26 rfl (lv_at hl 0 rfl) ?_
  refine gf_X9_281 S hw 0 rfl dX9_passAll_27 ?_
  obtain ⟨u_5, e_u_5, hf⟩ := ob hf
  refine k_X9_pass S (S.2.2.2.2.wd wd1151 rfl) hw e_u_5 [0] rfl (by decide) rfl ⟨rfl, rfl, Nat.le_of_ble_eq_true rfl, Nat.le_of_ble_eq_true rfl⟩ hl.1 (Nat.le_of_ble_eq_true rfl) dX9_passAll_30 ⟨Nat.zero_le _, Nat.zero_le _⟩ (fun H locs hw => ?_)
  have hw : PW D A s.heap [pX9 cy o0 q0 u_5.2] H locs := hw
  obtain ⟨σ_6, e_σ_6, hf⟩ := ob hf
  refine pf_X9_281 S hw 0 rfl e_σ_6 dX9_passAll_33 (fun H locs hw => ?_)
  have hw : PW D A s.heap [pX9 cy o0 q0 σ_6] H locs := hw
  refine lv_aload_n S.1 S.2.1 dX9_passAll_36 rfl (lv_at hl 0 rfl) ?_
  refine lv_aload_n S.1 S.2.1 dX9_passAll_37 rfl (lv_at hl 0 rfl) ?_
  refine lv_aload_n S.1 S.2.1 dX9_passAll_38 rfl (lv_at hl 0 rfl) ?_
  refine gf_X9_296 S hw 0 rfl dX9_passAll_39 ?_
  obtain ⟨u_7, e_u_7, hf⟩ := ob hf
  refine k_X9_pass S (S.2.2.2.2.wd wd1151 rfl) hw e_u_7 [0] rfl (by decide) rfl ⟨rfl, rfl, Nat.le_of_ble_eq_true rfl, Nat.le_of_ble_eq_true rfl⟩ hl.1 (Nat.le_of_ble_eq_true rfl) dX9_passAll_42 ⟨Nat.zero_le _, Nat.zero_le _⟩ (fun H locs hw => ?_)
  have hw : PW D A s.heap [pX9 cy o0 q0 u_7.2] H locs := hw
  obtain ⟨σ_8, e_σ_8, hf⟩ := ob hf
  refine pf_X9_296 S hw 0 rfl e_σ_8 dX9_passAll_45 (fun H locs hw => ?_)
  have hw : PW D A s.heap [pX9 cy o0 q0 σ_8] H locs := hw
  refine lv_aload_n S.1 S.2.1 dX9_passAll_48 rfl (lv_at hl 0 rfl) ?_
  refine lv_aload_n S.1 S.2.1 dX9_passAll_49 rfl (lv_at hl 0 rfl) ?_
  refine gf_X9_7 S hw 0 rfl dX9_passAll_50 ?_
  refine lv_bipush (v := 8) S.1 S.2.1 dX9_passAll_53 (by decide) ?_
  obtain ⟨u_9, e_u_9, hf⟩ := ob hf
  refine k_X9_passRow_a0 S (S.2.2.2.2.wd wd1155 rfl) hw e_u_9 [0] rfl (by decide) rfl ⟨rfl, rfl, Nat.le_of_ble_eq_true rfl, Nat.le_of_ble_eq_true rfl⟩ hl.1 (Nat.le_of_ble_eq_true rfl) dX9_passAll_55 ⟨Nat.zero_le _, Nat.zero_le _⟩ (fun H locs hw => ?_)
  have hw : PW D A s.heap [pX9 cy o0 q0 u_9] H locs := hw
  refine lv_aload_n S.1 S.2.1 dX9_passAll_58 rfl (lv_at hl 0 rfl) ?_
  refine lv_aload_n S.1 S.2.1 dX9_passAll_59 rfl (lv_at hl 0 rfl) ?_
  refine gf_X9_13 S hw 0 rfl dX9_passAll_60 ?_
  refine lv_bipush (v := 8) S.1 S.2.1 dX9_passAll_63 (by decide) ?_
  obtain ⟨u_10, e_u_10, hf⟩ := ob hf
  refine k_X9_passRow_a1 S (S.2.2.2.2.wd wd1155 rfl) hw e_u_10 [0] rfl (by decide) rfl ⟨rfl, rfl, Nat.le_of_ble_eq_true rfl, Nat.le_of_ble_eq_true rfl⟩ hl.1 (Nat.le_of_ble_eq_true rfl) dX9_passAll_65 ⟨Nat.zero_le _, Nat.zero_le _⟩ (fun H locs hw => ?_)
  have hw : PW D A s.heap [pX9 cy o0 q0 u_10] H locs := hw
  refine lv_aload_n S.1 S.2.1 dX9_passAll_68 rfl (lv_at hl 0 rfl) ?_
  refine lv_aload_n S.1 S.2.1 dX9_passAll_69 rfl (lv_at hl 0 rfl) ?_
  refine gf_X9_16 S hw 0 rfl dX9_passAll_70 ?_
  refine lv_bipush (v := 6) S.1 S.2.1 dX9_passAll_73 (by decide) ?_
  obtain ⟨u_11, e_u_11, hf⟩ := ob hf
  refine k_X9_passRow_a2 S (S.2.2.2.2.wd wd1155 rfl) hw e_u_11 [0] rfl (by decide) rfl ⟨rfl, rfl, Nat.le_of_ble_eq_true rfl, Nat.le_of_ble_eq_true rfl⟩ hl.1 (Nat.le_of_ble_eq_true rfl) dX9_passAll_75 ⟨Nat.zero_le _, Nat.zero_le _⟩ (fun H locs hw => ?_)
  have hw : PW D A s.heap [pX9 cy o0 q0 u_11] H locs := hw
  refine lv_aload_n S.1 S.2.1 dX9_passAll_78 rfl (lv_at hl 0 rfl) ?_
  refine lv_aload_n S.1 S.2.1 dX9_passAll_79 rfl (lv_at hl 0 rfl) ?_
  refine gf_X9_19 S hw 0 rfl dX9_passAll_80 ?_
  refine lv_bipush (v := 6) S.1 S.2.1 dX9_passAll_83 (by decide) ?_
  obtain ⟨u_12, e_u_12, hf⟩ := ob hf
  refine k_X9_passRow_a3 S (S.2.2.2.2.wd wd1155 rfl) hw e_u_12 [0] rfl (by decide) rfl ⟨rfl, rfl, Nat.le_of_ble_eq_true rfl, Nat.le_of_ble_eq_true rfl⟩ hl.1 (Nat.le_of_ble_eq_true rfl) dX9_passAll_85 ⟨Nat.zero_le _, Nat.zero_le _⟩ (fun H locs hw => ?_)
  have hw : PW D A s.heap [pX9 cy o0 q0 u_12] H locs := hw
  refine lv_aload_n S.1 S.2.1 dX9_passAll_88 rfl (lv_at hl 0 rfl) ?_
  refine lv_aload_n S.1 S.2.1 dX9_passAll_89 rfl (lv_at hl 0 rfl) ?_
  refine gf_X9_22 S hw 0 rfl dX9_passAll_90 ?_
  refine lv_bipush (v := 6) S.1 S.2.1 dX9_passAll_93 (by decide) ?_
  obtain ⟨u_13, e_u_13, hf⟩ := ob hf
  refine k_X9_passRow_a4 S (S.2.2.2.2.wd wd1155 rfl) hw e_u_13 [0] rfl (by decide) rfl ⟨rfl, rfl, Nat.le_of_ble_eq_true rfl, Nat.le_of_ble_eq_true rfl⟩ hl.1 (Nat.le_of_ble_eq_true rfl) dX9_passAll_95 ⟨Nat.zero_le _, Nat.zero_le _⟩ (fun H locs hw => ?_)
  have hw : PW D A s.heap [pX9 cy o0 q0 u_13] H locs := hw
  refine lv_aload_n S.1 S.2.1 dX9_passAll_98 rfl (lv_at hl 0 rfl) ?_
  refine lv_aload_n S.1 S.2.1 dX9_passAll_99 rfl (lv_at hl 0 rfl) ?_
  refine gf_X9_25 S hw 0 rfl dX9_passAll_100 ?_
  refine lv_bipush (v := 12) S.1 S.2.1 dX9_passAll_103 (by decide) ?_
  obtain ⟨u_14, e_u_14, hf⟩ := ob hf
  refine k_X9_passRow_a5 S (S.2.2.2.2.wd wd1155 rfl) hw e_u_14 [0] rfl (by decide) rfl ⟨rfl, rfl, Nat.le_of_ble_eq_true rfl, Nat.le_of_ble_eq_true rfl⟩ hl.1 (Nat.le_of_ble_eq_true rfl) dX9_passAll_105 ⟨Nat.zero_le _, Nat.zero_le _⟩ (fun H locs hw => ?_)
  have hw : PW D A s.heap [pX9 cy o0 q0 u_14] H locs := hw
  refine lv_aload_n S.1 S.2.1 dX9_passAll_108 rfl (lv_at hl 0 rfl) ?_
  refine lv_aload_n S.1 S.2.1 dX9_passAll_109 rfl (lv_at hl 0 rfl) ?_
  refine gf_X9_28 S hw 0 rfl dX9_passAll_110 ?_
  refine lv_bipush (v := 12) S.1 S.2.1 dX9_passAll_113 (by decide) ?_
  obtain ⟨u_15, e_u_15, hf⟩ := ob hf
  refine k_X9_passRow_a6 S (S.2.2.2.2.wd wd1155 rfl) hw e_u_15 [0] rfl (by decide) rfl ⟨rfl, rfl, Nat.le_of_ble_eq_true rfl, Nat.le_of_ble_eq_true rfl⟩ hl.1 (Nat.le_of_ble_eq_true rfl) dX9_passAll_115 ⟨Nat.zero_le _, Nat.zero_le _⟩ (fun H locs hw => ?_)
  have hw : PW D A s.heap [pX9 cy o0 q0 u_15] H locs := hw
  refine lv_aload_n S.1 S.2.1 dX9_passAll_118 rfl (lv_at hl 0 rfl) ?_
  refine lv_aload_n S.1 S.2.1 dX9_passAll_119 rfl (lv_at hl 0 rfl) ?_
  refine gf_X9_31 S hw 0 rfl dX9_passAll_120 ?_
  refine lv_bipush (v := 12) S.1 S.2.1 dX9_passAll_123 (by decide) ?_
  obtain ⟨u_16, e_u_16, hf⟩ := ob hf
  refine k_X9_passRow_a7 S (S.2.2.2.2.wd wd1155 rfl) hw e_u_16 [0] rfl (by decide) rfl ⟨rfl, rfl, Nat.le_of_ble_eq_true rfl, Nat.le_of_ble_eq_true rfl⟩ hl.1 (Nat.le_of_ble_eq_true rfl) dX9_passAll_125 ⟨Nat.zero_le _, Nat.zero_le _⟩ (fun H locs hw => ?_)
  have hw : PW D A s.heap [pX9 cy o0 q0 u_16] H locs := hw
  refine lv_aload_n S.1 S.2.1 dX9_passAll_128 rfl (lv_at hl 0 rfl) ?_
  refine lv_aload_n S.1 S.2.1 dX9_passAll_129 rfl (lv_at hl 0 rfl) ?_
  refine gf_X9_34 S hw 0 rfl dX9_passAll_130 ?_
  refine lv_bipush (v := 8) S.1 S.2.1 dX9_passAll_133 (by decide) ?_
  obtain ⟨u_17, e_u_17, hf⟩ := ob hf
  refine k_X9_passRow_a8 S (S.2.2.2.2.wd wd1155 rfl) hw e_u_17 [0] rfl (by decide) rfl ⟨rfl, rfl, Nat.le_of_ble_eq_true rfl, Nat.le_of_ble_eq_true rfl⟩ hl.1 (Nat.le_of_ble_eq_true rfl) dX9_passAll_135 ⟨Nat.zero_le _, Nat.zero_le _⟩ (fun H locs hw => ?_)
  have hw : PW D A s.heap [pX9 cy o0 q0 u_17] H locs := hw
  refine lv_aload_n S.1 S.2.1 dX9_passAll_138 rfl (lv_at hl 0 rfl) ?_
  refine lv_aload_n S.1 S.2.1 dX9_passAll_139 rfl (lv_at hl 0 rfl) ?_
  refine gf_X9_37 S hw 0 rfl dX9_passAll_140 ?_
  refine lv_bipush (v := 8) S.1 S.2.1 dX9_passAll_143 (by decide) ?_
  obtain ⟨u_18, e_u_18, hf⟩ := ob hf
  refine k_X9_passRow_a9 S (S.2.2.2.2.wd wd1155 rfl) hw e_u_18 [0] rfl (by decide) rfl ⟨rfl, rfl, Nat.le_of_ble_eq_true rfl, Nat.le_of_ble_eq_true rfl⟩ hl.1 (Nat.le_of_ble_eq_true rfl) dX9_passAll_145 ⟨Nat.zero_le _, Nat.zero_le _⟩ (fun H locs hw => ?_)
  have hw : PW D A s.heap [pX9 cy o0 q0 u_18] H locs := hw
  refine lv_aload_n S.1 S.2.1 dX9_passAll_148 rfl (lv_at hl 0 rfl) ?_
  refine lv_aload_n S.1 S.2.1 dX9_passAll_149 rfl (lv_at hl 0 rfl) ?_
  refine gf_X9_40 S hw 0 rfl dX9_passAll_150 ?_
  refine lv_bipush (v := 8) S.1 S.2.1 dX9_passAll_153 (by decide) ?_
  obtain ⟨u_19, e_u_19, hf⟩ := ob hf
  refine k_X9_passRow_a10 S (S.2.2.2.2.wd wd1155 rfl) hw e_u_19 [0] rfl (by decide) rfl ⟨rfl, rfl, Nat.le_of_ble_eq_true rfl, Nat.le_of_ble_eq_true rfl⟩ hl.1 (Nat.le_of_ble_eq_true rfl) dX9_passAll_155 ⟨Nat.zero_le _, Nat.zero_le _⟩ (fun H locs hw => ?_)
  have hw : PW D A s.heap [pX9 cy o0 q0 u_19] H locs := hw
  refine lv_aload_n S.1 S.2.1 dX9_passAll_158 rfl (lv_at hl 0 rfl) ?_
  refine lv_aload_n S.1 S.2.1 dX9_passAll_159 rfl (lv_at hl 0 rfl) ?_
  refine gf_X9_43 S hw 0 rfl dX9_passAll_160 ?_
  refine lv_bipush (v := 8) S.1 S.2.1 dX9_passAll_163 (by decide) ?_
  obtain ⟨u_20, e_u_20, hf⟩ := ob hf
  refine k_X9_passRow_a11 S (S.2.2.2.2.wd wd1155 rfl) hw e_u_20 [0] rfl (by decide) rfl ⟨rfl, rfl, Nat.le_of_ble_eq_true rfl, Nat.le_of_ble_eq_true rfl⟩ hl.1 (Nat.le_of_ble_eq_true rfl) dX9_passAll_165 ⟨Nat.zero_le _, Nat.zero_le _⟩ (fun H locs hw => ?_)
  have hw : PW D A s.heap [pX9 cy o0 q0 u_20] H locs := hw
  cases hf
  exact w_vret S hr hlk hA hQ hw dX9_passAll_168
section
variable {p : Program} {l : Launch} {e : Env} {R : Room} {s : State} {m : MethodId} {args : Array Value} {below : List Frame} {meth : Method} {c : Code} {H : Heap} {locs : List Loc} {cells slots : Nat} {Q : State → Prop} {cc : ByteArray} {pc nL : Nat} {ls : Array Slot} {rest : List Value} {D : va_G} {cy : Nat → ClassId} {A : Nat → Prop} {H0 : Heap} {own : String} {Ps : List va_W}
set_option maxRecDepth 100000 in
theorem k_X9_passAll {o0 : Nat} {q0 : Nat → Nat}  {σ0 : pStt} {u : pStt} {index : Nat} (S : CX p m c cc nL s args own D cy) (hl : (Cond.methodLink own index yX9_passAll).before args s = true) (hw : PW D A H0 Ps H locs) (hf : f_X9_passAll σ0 = some u) (js : List Nat) (hC : js.map (fun j => Ps[j]?) = [some (pX9 cy o0 q0 σ0)]) (hnd : js.Nodup) (hlen : js.length = 1) (hR : RMok rmX9_passAll R 1) (hsize : ls.size = nL) (hrest : (rest.map fun v => v.category).sum ≤ 8) (hdg : decode cc pc = .ok (.invokevirtual index, 3)) (hcs : cells ≤ R.cells ∧ slots ≤ R.slots)
    (kk : ∀ (H1 : Heap) (locs1 : List Loc), PW D A H0 (setAll Ps js [pX9 cy o0 q0 u]) H1 locs1 → W p l e R s m args below meth c H1 locs1 cells slots Q (F0 m (pc + 3) ls (rest))) : W p l e R s m args below meth c H locs cells slots Q (F0 m pc ls (.ref o0 :: rest)) :=
  w_callV (n := 0) (ov := none) (As := []) (Cs := [pX9 cy o0 q0 σ0]) (Cs' := [pX9 cy o0 q0 u]) S hw (c_X9_passAll l D cy o0 q0 σ0 u hf) (MF.of S.2.2.2.2 wd1150 wd79 (by decide)) (S.2.2.2.2.wd wd1149 rfl) (S.2.2.2.2.wd wd63 rfl) hl hR js hC hnd hlen rfl rfl rfl rfl hsize rfl hrest hdg hcs kk
end
abbrev rmX9_image : Room := { frames := 3, cells := 0, slots := 0, locals := 65 }
def f_X9_image (x1 : Int32) (σ0 : pStt) : Option (Int32 × pStt) := (f_X9_in ((x1 : Int32).toInt64) 0 1).bind (fun u_1 => if u_1 = 0 then some ((-2), σ0) else (some (sI σ0 14 (((110 : Int32) * x1)))).bind (fun σ_3 => (asB 1).bind (fun b_4 => (some (sI σ_3 15 b_4)).bind (fun σ_5 => (f_X9_passAll σ_5).bind (fun u_6 => (stA u_6 20 2 x1 ((1 &&& 1))).bind (fun σ_7 => some (1, σ_7)))))))
set_option maxHeartbeats 4000000 in
set_option maxRecDepth 100000 in
theorem c_X9_image (l : Launch) (D : va_G) (cy : Nat → ClassId) (o0 : Nat) (q0 : Nat → Nat) (x1 : Int32) (σ0 : pStt) (u : Int32 × pStt) (hf : f_X9_image x1 σ0 = some u) : CT l yX9_image cX9_image 2 (some .int) rmX9_image D cy [.ref o0, .int x1] [pX9 cy o0 q0 σ0] (some (.int u.1)) [pX9 cy o0 q0 u.2] := by
  refine CT.of (by decide) (Nat.le_of_ble_eq_true rfl) (fun p e s m args below meth c ls A Q hA hQ S hr hlk hl hw => ?_)
  have hl : lv_has ls 2 [(0, .ref o0), (1, .int x1)] := hl
  rw [f_X9_image] at hf
  refine lv_iload_n S.1 S.2.1 dX9_image_0 rfl (lv_at hl 1 rfl) ?_
  refine lv_i2l (v := (x1 : Int32).toInt64) S.1 S.2.1 dX9_image_1 rfl ?_
  refine lv_lconst (v := 0) S.1 S.2.1 dX9_image_2 (by decide) ?_
  refine lv_lconst (v := 1) S.1 S.2.1 dX9_image_3 (by decide) ?_
  obtain ⟨u_1, e_u_1, hf⟩ := ob hf
  refine k_X9_in S (S.2.2.2.2.wd wd818 rfl) hw e_u_1 [] rfl (by decide) rfl ⟨rfl, rfl, Nat.le_of_ble_eq_true rfl, Nat.le_of_ble_eq_true rfl⟩ hl.1 (Nat.le_of_ble_eq_true rfl) dX9_image_4 ⟨Nat.zero_le _, Nat.zero_le _⟩ (fun H locs hw => ?_)
  have hw : PW D A s.heap [pX9 cy o0 q0 σ0] H locs := hw
  refine lv_if_ne (tgt := 13) S.1 S.2.1 dX9_image_7 (by decide) (fun c_2 => ?_) (fun c_2 => ?_)
  · replace hf := (if_neg c_2).symm.trans hf
    refine lv_aload_n S.1 S.2.1 dX9_image_13 rfl (lv_at hl 0 rfl) ?_
    refine lv_bipush (v := 110) S.1 S.2.1 dX9_image_14 (by decide) ?_
    refine lv_iload_n S.1 S.2.1 dX9_image_16 rfl (lv_at hl 1 rfl) ?_
    refine lv_imul S.1 S.2.1 dX9_image_17 ?_
    obtain ⟨σ_3, e_σ_3, hf⟩ := ob hf
    refine pf_X9_350 S hw 0 rfl e_σ_3 dX9_image_18 (fun H locs hw => ?_)
    have hw : PW D A s.heap [pX9 cy o0 q0 σ_3] H locs := hw
    refine lv_aload_n S.1 S.2.1 dX9_image_21 rfl (lv_at hl 0 rfl) ?_
    refine lv_iconst (v := 1) S.1 S.2.1 dX9_image_22 (by decide) ?_
    obtain ⟨b_4, e_b_4, hf⟩ := ob hf
    obtain ⟨σ_5, e_σ_5, hf⟩ := ob hf
    refine pf_X9_347 S hw 0 rfl e_b_4 e_σ_5 dX9_image_23 (fun H locs hw => ?_)
    have hw : PW D A s.heap [pX9 cy o0 q0 σ_5] H locs := hw
    refine lv_aload_n S.1 S.2.1 dX9_image_26 rfl (lv_at hl 0 rfl) ?_
    obtain ⟨u_6, e_u_6, hf⟩ := ob hf
    refine k_X9_passAll S (S.2.2.2.2.wd wd1147 rfl) hw e_u_6 [0] rfl (by decide) rfl ⟨rfl, rfl, Nat.le_of_ble_eq_true rfl, Nat.le_of_ble_eq_true rfl⟩ hl.1 (Nat.le_of_ble_eq_true rfl) dX9_image_27 ⟨Nat.zero_le _, Nat.zero_le _⟩ (fun H locs hw => ?_)
    have hw : PW D A s.heap [pX9 cy o0 q0 u_6] H locs := hw
    refine lv_aload_n S.1 S.2.1 dX9_image_30 rfl (lv_at hl 0 rfl) ?_
    refine gf_X9_71 S hw 0 rfl dX9_image_31 ?_
    refine lv_iload_n S.1 S.2.1 dX9_image_34 rfl (lv_at hl 1 rfl) ?_
    refine lv_iconst (v := 1) S.1 S.2.1 dX9_image_35 (by decide) ?_
    obtain ⟨σ_7, e_σ_7, hf⟩ := ob hf
    refine as_X9_20 S hw 0 rfl e_σ_7 dX9_image_36 (fun H locs hw => ?_)
    have hw : PW D A s.heap [pX9 cy o0 q0 σ_7] H locs := hw
    refine lv_iconst (v := 1) S.1 S.2.1 dX9_image_37 (by decide) ?_
    cases hf
    exact w_iret S hr hlk hA hQ hw dX9_image_38
  · replace hf := (if_pos c_2).symm.trans hf
    refine lv_bipush (v := (-2)) S.1 S.2.1 dX9_image_10 (by decide) ?_
    cases hf
    exact w_iret S hr hlk hA hQ hw dX9_image_12
section
variable {p : Program} {l : Launch} {e : Env} {R : Room} {s : State} {m : MethodId} {args : Array Value} {below : List Frame} {meth : Method} {c : Code} {H : Heap} {locs : List Loc} {cells slots : Nat} {Q : State → Prop} {cc : ByteArray} {pc nL : Nat} {ls : Array Slot} {rest : List Value} {D : va_G} {cy : Nat → ClassId} {A : Nat → Prop} {H0 : Heap} {own : String} {Ps : List va_W}
set_option maxRecDepth 100000 in
theorem k_X9_image {o0 : Nat} {q0 : Nat → Nat} {x1 : Int32} {σ0 : pStt} {u : Int32 × pStt} {index : Nat} (S : CX p m c cc nL s args own D cy) (hl : (Cond.methodLink own index yX9_image).before args s = true) (hw : PW D A H0 Ps H locs) (hf : f_X9_image x1 σ0 = some u) (js : List Nat) (hC : js.map (fun j => Ps[j]?) = [some (pX9 cy o0 q0 σ0)]) (hnd : js.Nodup) (hlen : js.length = 1) (hR : RMok rmX9_image R 2) (hsize : ls.size = nL) (hrest : (rest.map fun v => v.category).sum ≤ 8) (hdg : decode cc pc = .ok (.invokevirtual index, 3)) (hcs : cells ≤ R.cells ∧ slots ≤ R.slots)
    (kk : ∀ (H1 : Heap) (locs1 : List Loc), PW D A H0 (setAll Ps js [pX9 cy o0 q0 u.2]) H1 locs1 → W p l e R s m args below meth c H1 locs1 cells slots Q (F0 m (pc + 3) ls (.int u.1 :: rest))) : W p l e R s m args below meth c H locs cells slots Q (F0 m pc ls (.int x1 :: .ref o0 :: rest)) :=
  w_callV (n := 1) (ov := (some (.int u.1))) (As := [.int x1]) (Cs := [pX9 cy o0 q0 σ0]) (Cs' := [pX9 cy o0 q0 u.2]) S hw (c_X9_image l D cy o0 q0 x1 σ0 u hf) (MF.of S.2.2.2.2 wd1146 wd79 (by decide)) (S.2.2.2.2.wd wd1144 rfl) (S.2.2.2.2.wd wd1145 rfl) hl hR js hC hnd hlen rfl rfl rfl rfl hsize rfl hrest hdg hcs kk
end
abbrev rmX9_restore : Room := { frames := 3, cells := 0, slots := 0, locals := 65 }
def f_X9_restore (x1 : Int32) (σ0 : pStt) : Option (Int32 × pStt) := (f_X9_in ((x1 : Int32).toInt64) 0 1).bind (fun u_1 => if u_1 = 0 then some ((-2), σ0) else (ld (σ0.2 20) 2 x1).bind (fun x_3 => if x_3 = 0 then some ((-3), σ0) else (some (sI σ0 14 (((110 : Int32) * x1)))).bind (fun σ_5 => (asB 0).bind (fun b_6 => (some (sI σ_5 15 b_6)).bind (fun σ_7 => (f_X9_passAll σ_7).bind (fun u_8 => some (1, u_8)))))))
set_option maxHeartbeats 4000000 in
set_option maxRecDepth 100000 in
theorem c_X9_restore (l : Launch) (D : va_G) (cy : Nat → ClassId) (o0 : Nat) (q0 : Nat → Nat) (x1 : Int32) (σ0 : pStt) (u : Int32 × pStt) (hf : f_X9_restore x1 σ0 = some u) : CT l yX9_restore cX9_restore 2 (some .int) rmX9_restore D cy [.ref o0, .int x1] [pX9 cy o0 q0 σ0] (some (.int u.1)) [pX9 cy o0 q0 u.2] := by
  refine CT.of (by decide) (Nat.le_of_ble_eq_true rfl) (fun p e s m args below meth c ls A Q hA hQ S hr hlk hl hw => ?_)
  have hl : lv_has ls 2 [(0, .ref o0), (1, .int x1)] := hl
  rw [f_X9_restore] at hf
  refine lv_iload_n S.1 S.2.1 dX9_restore_0 rfl (lv_at hl 1 rfl) ?_
  refine lv_i2l (v := (x1 : Int32).toInt64) S.1 S.2.1 dX9_restore_1 rfl ?_
  refine lv_lconst (v := 0) S.1 S.2.1 dX9_restore_2 (by decide) ?_
  refine lv_lconst (v := 1) S.1 S.2.1 dX9_restore_3 (by decide) ?_
  obtain ⟨u_1, e_u_1, hf⟩ := ob hf
  refine k_X9_in S (S.2.2.2.2.wd wd818 rfl) hw e_u_1 [] rfl (by decide) rfl ⟨rfl, rfl, Nat.le_of_ble_eq_true rfl, Nat.le_of_ble_eq_true rfl⟩ hl.1 (Nat.le_of_ble_eq_true rfl) dX9_restore_4 ⟨Nat.zero_le _, Nat.zero_le _⟩ (fun H locs hw => ?_)
  have hw : PW D A s.heap [pX9 cy o0 q0 σ0] H locs := hw
  refine lv_if_ne (tgt := 13) S.1 S.2.1 dX9_restore_7 (by decide) (fun c_2 => ?_) (fun c_2 => ?_)
  · replace hf := (if_neg c_2).symm.trans hf
    refine lv_aload_n S.1 S.2.1 dX9_restore_13 rfl (lv_at hl 0 rfl) ?_
    refine gf_X9_71 S hw 0 rfl dX9_restore_14 ?_
    refine lv_iload_n S.1 S.2.1 dX9_restore_17 rfl (lv_at hl 1 rfl) ?_
    obtain ⟨x_3, e_x_3, hf⟩ := ob hf
    refine al_X9_20 S hw 0 rfl e_x_3 dX9_restore_18 ?_
    refine lv_if_ne (tgt := 25) S.1 S.2.1 dX9_restore_19 (by decide) (fun c_4 => ?_) (fun c_4 => ?_)
    · replace hf := (if_neg c_4).symm.trans hf
      refine lv_aload_n S.1 S.2.1 dX9_restore_25 rfl (lv_at hl 0 rfl) ?_
      refine lv_bipush (v := 110) S.1 S.2.1 dX9_restore_26 (by decide) ?_
      refine lv_iload_n S.1 S.2.1 dX9_restore_28 rfl (lv_at hl 1 rfl) ?_
      refine lv_imul S.1 S.2.1 dX9_restore_29 ?_
      obtain ⟨σ_5, e_σ_5, hf⟩ := ob hf
      refine pf_X9_350 S hw 0 rfl e_σ_5 dX9_restore_30 (fun H locs hw => ?_)
      have hw : PW D A s.heap [pX9 cy o0 q0 σ_5] H locs := hw
      refine lv_aload_n S.1 S.2.1 dX9_restore_33 rfl (lv_at hl 0 rfl) ?_
      refine lv_iconst (v := 0) S.1 S.2.1 dX9_restore_34 (by decide) ?_
      obtain ⟨b_6, e_b_6, hf⟩ := ob hf
      obtain ⟨σ_7, e_σ_7, hf⟩ := ob hf
      refine pf_X9_347 S hw 0 rfl e_b_6 e_σ_7 dX9_restore_35 (fun H locs hw => ?_)
      have hw : PW D A s.heap [pX9 cy o0 q0 σ_7] H locs := hw
      refine lv_aload_n S.1 S.2.1 dX9_restore_38 rfl (lv_at hl 0 rfl) ?_
      obtain ⟨u_8, e_u_8, hf⟩ := ob hf
      refine k_X9_passAll S (S.2.2.2.2.wd wd1147 rfl) hw e_u_8 [0] rfl (by decide) rfl ⟨rfl, rfl, Nat.le_of_ble_eq_true rfl, Nat.le_of_ble_eq_true rfl⟩ hl.1 (Nat.le_of_ble_eq_true rfl) dX9_restore_39 ⟨Nat.zero_le _, Nat.zero_le _⟩ (fun H locs hw => ?_)
      have hw : PW D A s.heap [pX9 cy o0 q0 u_8] H locs := hw
      refine lv_iconst (v := 1) S.1 S.2.1 dX9_restore_42 (by decide) ?_
      cases hf
      exact w_iret S hr hlk hA hQ hw dX9_restore_43
    · replace hf := (if_pos c_4).symm.trans hf
      refine lv_bipush (v := (-3)) S.1 S.2.1 dX9_restore_22 (by decide) ?_
      cases hf
      exact w_iret S hr hlk hA hQ hw dX9_restore_24
  · replace hf := (if_pos c_2).symm.trans hf
    refine lv_bipush (v := (-2)) S.1 S.2.1 dX9_restore_10 (by decide) ?_
    cases hf
    exact w_iret S hr hlk hA hQ hw dX9_restore_12
section
variable {p : Program} {l : Launch} {e : Env} {R : Room} {s : State} {m : MethodId} {args : Array Value} {below : List Frame} {meth : Method} {c : Code} {H : Heap} {locs : List Loc} {cells slots : Nat} {Q : State → Prop} {cc : ByteArray} {pc nL : Nat} {ls : Array Slot} {rest : List Value} {D : va_G} {cy : Nat → ClassId} {A : Nat → Prop} {H0 : Heap} {own : String} {Ps : List va_W}
set_option maxRecDepth 100000 in
theorem k_X9_restore {o0 : Nat} {q0 : Nat → Nat} {x1 : Int32} {σ0 : pStt} {u : Int32 × pStt} {index : Nat} (S : CX p m c cc nL s args own D cy) (hl : (Cond.methodLink own index yX9_restore).before args s = true) (hw : PW D A H0 Ps H locs) (hf : f_X9_restore x1 σ0 = some u) (js : List Nat) (hC : js.map (fun j => Ps[j]?) = [some (pX9 cy o0 q0 σ0)]) (hnd : js.Nodup) (hlen : js.length = 1) (hR : RMok rmX9_restore R 2) (hsize : ls.size = nL) (hrest : (rest.map fun v => v.category).sum ≤ 8) (hdg : decode cc pc = .ok (.invokevirtual index, 3)) (hcs : cells ≤ R.cells ∧ slots ≤ R.slots)
    (kk : ∀ (H1 : Heap) (locs1 : List Loc), PW D A H0 (setAll Ps js [pX9 cy o0 q0 u.2]) H1 locs1 → W p l e R s m args below meth c H1 locs1 cells slots Q (F0 m (pc + 3) ls (.int u.1 :: rest))) : W p l e R s m args below meth c H locs cells slots Q (F0 m pc ls (.int x1 :: .ref o0 :: rest)) :=
  w_callV (n := 1) (ov := (some (.int u.1))) (As := [.int x1]) (Cs := [pX9 cy o0 q0 σ0]) (Cs' := [pX9 cy o0 q0 u.2]) S hw (c_X9_restore l D cy o0 q0 x1 σ0 u hf) (MF.of S.2.2.2.2 wd1162 wd79 (by decide)) (S.2.2.2.2.wd wd1160 rfl) (S.2.2.2.2.wd wd1161 rfl) hl hR js hC hnd hlen rfl rfl rfl rfl hsize rfl hrest hdg hcs kk
end
