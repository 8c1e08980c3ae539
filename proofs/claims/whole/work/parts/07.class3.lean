abbrev rmX8_first : Room := { frames := 6, cells := 0, slots := 0, locals := 128 }
def f_X8_first (x1 : Int32) (σ1 : pStt) (σ3 : pStt) (σ4 : pStt) (σ5 : pStt) : Option (Int32 × pStt × pStt × pStt) := (f_X8_isWithin x1 0 1).bind (fun u_1 => if u_1 = 0 then some ((-2), σ1, σ4, σ5) else (f_X8_playSession σ1 σ3 σ4 σ5).bind (fun u_3 => if u_3.1 = 0 then (if x1 = 0 then some ((u_3.2.1.1 3)) else some ((u_3.2.1.1 4)) : Option Int32).bind (fun v_5 => some (v_5, u_3.2.1, u_3.2.2.1, u_3.2.2.2)) else some (u_3.1, u_3.2.1, u_3.2.2.1, u_3.2.2.2)))
set_option maxHeartbeats 4000000 in
set_option maxRecDepth 100000 in
theorem c_X8_first (l : Launch) (D : va_G) (cy : Nat → ClassId) (o0 : Nat) (w0 : Nat → Nat) (w1 : Nat → Nat) (w2 : Nat → Nat) (q3 : Nat → Nat) (q4 : Nat → Nat) (q5 : Nat → Nat) (x1 : Int32) (σ1 : pStt) (σ3 : pStt) (σ4 : pStt) (σ5 : pStt) (u : Int32 × pStt × pStt × pStt) (hf : f_X8_first x1 σ1 σ3 σ4 σ5 = some u) : CT l yX8_first cX8_first 3 (some .int) rmX8_first D cy [.ref o0, .int x1] [pX8 o0 w0, pX6 (w0 3) w1 σ1, pX7 (w0 0) w2, pX1 cy (w2 0) q3 σ3, pX1 cy (w1 0) q4 σ4, pX3 cy (w0 2) q5 σ5] (some (.int u.1)) [pX8 o0 w0, pX6 (w0 3) w1 u.2.1, pX7 (w0 0) w2, pX1 cy (w2 0) q3 σ3, pX1 cy (w1 0) q4 u.2.2.1, pX3 cy (w0 2) q5 u.2.2.2] := by
  refine CT.of (by decide) (Nat.le_of_ble_eq_true rfl) (fun p e s m args below meth c ls A Q hA hQ S hr hlk hl hw => ?_)
  have hl : lv_has ls 3 [(0, .ref o0), (1, .int x1)] := hl
  rw [f_X8_first] at hf
  refine lv_iload_n S.1 S.2.1 dX8_first_0 rfl (lv_at hl 1 rfl) ?_
  refine lv_iconst (v := 0) S.1 S.2.1 dX8_first_1 (by decide) ?_
  refine lv_iconst (v := 1) S.1 S.2.1 dX8_first_2 (by decide) ?_
  obtain ⟨u_1, e_u_1, hf⟩ := ob hf
  refine k_X8_isWithin S (S.2.2.2.2.wd wd287 rfl) hw e_u_1 [] rfl (by decide) rfl ⟨rfl, rfl, Nat.le_of_ble_eq_true rfl, Nat.le_of_ble_eq_true rfl⟩ hl.1 (Nat.le_of_ble_eq_true rfl) dX8_first_3 ⟨Nat.zero_le _, Nat.zero_le _⟩ (fun H locs hw => ?_)
  have hw : PW D A s.heap [pX8 o0 w0, pX6 (w0 3) w1 σ1, pX7 (w0 0) w2, pX1 cy (w2 0) q3 σ3, pX1 cy (w1 0) q4 σ4, pX3 cy (w0 2) q5 σ5] H locs := hw
  refine lv_if_ne (tgt := 12) S.1 S.2.1 dX8_first_6 (by decide) (fun c_2 => ?_) (fun c_2 => ?_)
  · replace hf := (if_neg c_2).symm.trans hf
    refine lv_aload_n S.1 S.2.1 dX8_first_12 rfl (lv_at hl 0 rfl) ?_
    obtain ⟨u_3, e_u_3, hf⟩ := ob hf
    refine k_X8_playSession S (S.2.2.2.2.wd wd391 rfl) hw e_u_3 [0, 1, 2, 3, 4, 5] rfl (by decide) rfl ⟨rfl, rfl, Nat.le_of_ble_eq_true rfl, Nat.le_of_ble_eq_true rfl⟩ hl.1 (Nat.le_of_ble_eq_true rfl) dX8_first_13 ⟨Nat.zero_le _, Nat.zero_le _⟩ (fun H locs hw => ?_)
    have hw : PW D A s.heap [pX8 o0 w0, pX6 (w0 3) w1 u_3.2.1, pX7 (w0 0) w2, pX1 cy (w2 0) q3 σ3, pX1 cy (w1 0) q4 u_3.2.2.1, pX3 cy (w0 2) q5 u_3.2.2.2] H locs := hw
    refine lv_istore_n (lv' := [(2, .int u_3.1), (0, .ref o0), (1, .int x1)]) S.1 S.2.1 dX8_first_16 rfl hl (by decide) rfl (fun ls hl => ?_)
    refine lv_iload_n S.1 S.2.1 dX8_first_17 rfl (lv_at hl 0 rfl) ?_
    refine lv_if_eq (tgt := 23) S.1 S.2.1 dX8_first_18 (by decide) (fun c_4 => ?_) (fun c_4 => ?_)
    · replace hf := (if_pos c_4).symm.trans hf
      refine lv_iload_n S.1 S.2.1 dX8_first_23 rfl (lv_at hl 2 rfl) ?_
      obtain ⟨v_5, e_v_5, hf⟩ := ob hf
      have hJ_v_5 : ∀ (H : Heap) (locs : List Loc), PW D A s.heap [pX8 o0 w0, pX6 (w0 3) w1 u_3.2.1, pX7 (w0 0) w2, pX1 cy (w2 0) q3 σ3, pX1 cy (w1 0) q4 u_3.2.2.1, pX3 cy (w0 2) q5 u_3.2.2.2] H locs → W p l e rmX8_first s m args below meth c H locs 0 0 Q (F0 m 44 ls [.int v_5]) := by
        intro H locs hw
        cases hf
        exact w_iret S hr hlk hA hQ hw dX8_first_44
      replace hf := e_v_5
      clear e_v_5
      refine lv_if_ne (tgt := 37) S.1 S.2.1 dX8_first_24 (by decide) (fun c_6 => ?_) (fun c_6 => ?_)
      · replace hf := (if_neg c_6).symm.trans hf
        refine lv_aload_n S.1 S.2.1 dX8_first_37 rfl (lv_at hl 1 rfl) ?_
        refine gf_X8_30 S hw 0 rfl dX8_first_38 ?_
        refine gf_X8_145 S hw 1 rfl dX8_first_41 ?_
        cases hf
        exact hJ_v_5 _ _ hw
      · replace hf := (if_pos c_6).symm.trans hf
        refine lv_aload_n S.1 S.2.1 dX8_first_27 rfl (lv_at hl 1 rfl) ?_
        refine gf_X8_30 S hw 0 rfl dX8_first_28 ?_
        refine gf_X8_142 S hw 1 rfl dX8_first_31 ?_
        refine lv_goto (tgt := 44) S.1 S.2.1 dX8_first_34 (by decide) ?_
        cases hf
        exact hJ_v_5 _ _ hw
    · replace hf := (if_neg c_4).symm.trans hf
      refine lv_iload_n S.1 S.2.1 dX8_first_21 rfl (lv_at hl 0 rfl) ?_
      cases hf
      exact w_iret S hr hlk hA hQ hw dX8_first_22
  · replace hf := (if_pos c_2).symm.trans hf
    refine lv_bipush (v := (-2)) S.1 S.2.1 dX8_first_9 (by decide) ?_
    cases hf
    exact w_iret S hr hlk hA hQ hw dX8_first_11
section
variable {p : Program} {l : Launch} {e : Env} {R : Room} {s : State} {m : MethodId} {args : Array Value} {below : List Frame} {meth : Method} {c : Code} {H : Heap} {locs : List Loc} {cells slots : Nat} {Q : State → Prop} {cc : ByteArray} {pc nL : Nat} {ls : Array Slot} {rest : List Value} {D : va_G} {cy : Nat → ClassId} {A : Nat → Prop} {H0 : Heap} {own : String} {Ps : List va_W}
set_option maxRecDepth 100000 in
theorem k_X8_first {o0 : Nat} {w0 : Nat → Nat} {w1 : Nat → Nat} {w2 : Nat → Nat} {q3 : Nat → Nat} {q4 : Nat → Nat} {q5 : Nat → Nat} {x1 : Int32} {σ1 : pStt} {σ3 : pStt} {σ4 : pStt} {σ5 : pStt} {u : Int32 × pStt × pStt × pStt} {index : Nat} (S : CX p m c cc nL s args own D cy) (hl : (Cond.methodLink own index yX8_first).before args s = true) (hw : PW D A H0 Ps H locs) (hf : f_X8_first x1 σ1 σ3 σ4 σ5 = some u) (js : List Nat) (hC : js.map (fun j => Ps[j]?) = [some (pX8 o0 w0), some (pX6 (w0 3) w1 σ1), some (pX7 (w0 0) w2), some (pX1 cy (w2 0) q3 σ3), some (pX1 cy (w1 0) q4 σ4), some (pX3 cy (w0 2) q5 σ5)]) (hnd : js.Nodup) (hlen : js.length = 6) (hR : RMok rmX8_first R 3) (hsize : ls.size = nL) (hrest : (rest.map fun v => v.category).sum ≤ 8) (hdg : decode cc pc = .ok (.invokevirtual index, 3)) (hcs : cells ≤ R.cells ∧ slots ≤ R.slots)
    (kk : ∀ (H1 : Heap) (locs1 : List Loc), PW D A H0 (setAll Ps js [pX8 o0 w0, pX6 (w0 3) w1 u.2.1, pX7 (w0 0) w2, pX1 cy (w2 0) q3 σ3, pX1 cy (w1 0) q4 u.2.2.1, pX3 cy (w0 2) q5 u.2.2.2]) H1 locs1 → W p l e R s m args below meth c H1 locs1 cells slots Q (F0 m (pc + 3) ls (.int u.1 :: rest))) : W p l e R s m args below meth c H locs cells slots Q (F0 m pc ls (.int x1 :: .ref o0 :: rest)) :=
  w_callV (n := 1) (ov := (some (.int u.1))) (As := [.int x1]) (Cs := [pX8 o0 w0, pX6 (w0 3) w1 σ1, pX7 (w0 0) w2, pX1 cy (w2 0) q3 σ3, pX1 cy (w1 0) q4 σ4, pX3 cy (w0 2) q5 σ5]) (Cs' := [pX8 o0 w0, pX6 (w0 3) w1 u.2.1, pX7 (w0 0) w2, pX1 cy (w2 0) q3 σ3, pX1 cy (w1 0) q4 u.2.2.1, pX3 cy (w0 2) q5 u.2.2.2]) S hw (c_X8_first l D cy o0 w0 w1 w2 q3 q4 q5 x1 σ1 σ3 σ4 σ5 u hf) (MF.of S.2.2.2.2 wd484 wd70 (by decide)) (S.2.2.2.2.wd wd482 rfl) (S.2.2.2.2.wd wd483 rfl) hl hR js hC hnd hlen rfl rfl rfl rfl hsize rfl hrest hdg hcs kk
end
abbrev rmX8_done : Room := { frames := 6, cells := 0, slots := 0, locals := 128 }
def f_X8_done (σ1 : pStt) (σ3 : pStt) (σ4 : pStt) (σ5 : pStt) : Option (Int32 × pStt × pStt × pStt × pStt) := (f_X8_playSession σ1 σ3 σ4 σ5).bind (fun u_1 => if u_1.1 = 0 then (f_X1_copyFrom σ3 u_1.2.2.1).bind (fun u_3 => (some (sI u_1.2.2.2 0 0)).bind (fun σ_4 => some ((u_1.2.1.1 0), u_1.2.1, u_3, u_1.2.2.1, σ_4))) else some (u_1.1, u_1.2.1, σ3, u_1.2.2.1, u_1.2.2.2))
set_option maxHeartbeats 4000000 in
set_option maxRecDepth 100000 in
theorem c_X8_done (l : Launch) (D : va_G) (cy : Nat → ClassId) (o0 : Nat) (w0 : Nat → Nat) (w1 : Nat → Nat) (w2 : Nat → Nat) (q3 : Nat → Nat) (q4 : Nat → Nat) (q5 : Nat → Nat) (σ1 : pStt) (σ3 : pStt) (σ4 : pStt) (σ5 : pStt) (u : Int32 × pStt × pStt × pStt × pStt) (hf : f_X8_done σ1 σ3 σ4 σ5 = some u) : CT l yX8_done cX8_done 2 (some .int) rmX8_done D cy [.ref o0] [pX8 o0 w0, pX6 (w0 3) w1 σ1, pX7 (w0 0) w2, pX1 cy (w2 0) q3 σ3, pX1 cy (w1 0) q4 σ4, pX3 cy (w0 2) q5 σ5] (some (.int u.1)) [pX8 o0 w0, pX6 (w0 3) w1 u.2.1, pX7 (w0 0) w2, pX1 cy (w2 0) q3 u.2.2.1, pX1 cy (w1 0) q4 u.2.2.2.1, pX3 cy (w0 2) q5 u.2.2.2.2] := by
  refine CT.of (by decide) (Nat.le_of_ble_eq_true rfl) (fun p e s m args below meth c ls A Q hA hQ S hr hlk hl hw => ?_)
  have hl : lv_has ls 2 [(0, .ref o0)] := hl
  rw [f_X8_done] at hf
  refine lv_aload_n S.1 S.2.1 dX8_done_0 rfl (lv_at hl 0 rfl) ?_
  obtain ⟨u_1, e_u_1, hf⟩ := ob hf
  refine k_X8_playSession S (S.2.2.2.2.wd wd391 rfl) hw e_u_1 [0, 1, 2, 3, 4, 5] rfl (by decide) rfl ⟨rfl, rfl, Nat.le_of_ble_eq_true rfl, Nat.le_of_ble_eq_true rfl⟩ hl.1 (Nat.le_of_ble_eq_true rfl) dX8_done_1 ⟨Nat.zero_le _, Nat.zero_le _⟩ (fun H locs hw => ?_)
  have hw : PW D A s.heap [pX8 o0 w0, pX6 (w0 3) w1 u_1.2.1, pX7 (w0 0) w2, pX1 cy (w2 0) q3 σ3, pX1 cy (w1 0) q4 u_1.2.2.1, pX3 cy (w0 2) q5 u_1.2.2.2] H locs := hw
  refine lv_istore_n (lv' := [(1, .int u_1.1), (0, .ref o0)]) S.1 S.2.1 dX8_done_4 rfl hl (by decide) rfl (fun ls hl => ?_)
  refine lv_iload_n S.1 S.2.1 dX8_done_5 rfl (lv_at hl 0 rfl) ?_
  refine lv_if_eq (tgt := 11) S.1 S.2.1 dX8_done_6 (by decide) (fun c_2 => ?_) (fun c_2 => ?_)
  · replace hf := (if_pos c_2).symm.trans hf
    refine lv_aload_n S.1 S.2.1 dX8_done_11 rfl (lv_at hl 1 rfl) ?_
    refine gf_X8_12 S hw 0 rfl dX8_done_12 ?_
    refine gf_X8_52 S hw 2 rfl dX8_done_15 ?_
    refine lv_aload_n S.1 S.2.1 dX8_done_18 rfl (lv_at hl 1 rfl) ?_
    refine gf_X8_30 S hw 0 rfl dX8_done_19 ?_
    refine gf_X8_120 S hw 1 rfl dX8_done_22 ?_
    obtain ⟨u_3, e_u_3, hf⟩ := ob hf
    refine k_X1_copyFrom S (S.2.2.2.2.wd wd489 rfl) hw e_u_3 [3, 4] rfl (by decide) rfl ⟨rfl, rfl, Nat.le_of_ble_eq_true rfl, Nat.le_of_ble_eq_true rfl⟩ hl.1 (Nat.le_of_ble_eq_true rfl) dX8_done_25 ⟨Nat.zero_le _, Nat.zero_le _⟩ (fun H locs hw => ?_)
    have hw : PW D A s.heap [pX8 o0 w0, pX6 (w0 3) w1 u_1.2.1, pX7 (w0 0) w2, pX1 cy (w2 0) q3 u_3, pX1 cy (w1 0) q4 u_1.2.2.1, pX3 cy (w0 2) q5 u_1.2.2.2] H locs := hw
    refine lv_aload_n S.1 S.2.1 dX8_done_28 rfl (lv_at hl 1 rfl) ?_
    refine gf_X8_23 S hw 0 rfl dX8_done_29 ?_
    refine lv_iconst (v := 0) S.1 S.2.1 dX8_done_32 (by decide) ?_
    obtain ⟨σ_4, e_σ_4, hf⟩ := ob hf
    refine pf_X8_101 S hw 5 rfl e_σ_4 dX8_done_33 (fun H locs hw => ?_)
    have hw : PW D A s.heap [pX8 o0 w0, pX6 (w0 3) w1 u_1.2.1, pX7 (w0 0) w2, pX1 cy (w2 0) q3 u_3, pX1 cy (w1 0) q4 u_1.2.2.1, pX3 cy (w0 2) q5 σ_4] H locs := hw
    refine lv_aload_n S.1 S.2.1 dX8_done_36 rfl (lv_at hl 1 rfl) ?_
    refine gf_X8_30 S hw 0 rfl dX8_done_37 ?_
    refine gf_X8_114 S hw 1 rfl dX8_done_40 ?_
    cases hf
    exact w_iret S hr hlk hA hQ hw dX8_done_43
  · replace hf := (if_neg c_2).symm.trans hf
    refine lv_iload_n S.1 S.2.1 dX8_done_9 rfl (lv_at hl 0 rfl) ?_
    cases hf
    exact w_iret S hr hlk hA hQ hw dX8_done_10
section
variable {p : Program} {l : Launch} {e : Env} {R : Room} {s : State} {m : MethodId} {args : Array Value} {below : List Frame} {meth : Method} {c : Code} {H : Heap} {locs : List Loc} {cells slots : Nat} {Q : State → Prop} {cc : ByteArray} {pc nL : Nat} {ls : Array Slot} {rest : List Value} {D : va_G} {cy : Nat → ClassId} {A : Nat → Prop} {H0 : Heap} {own : String} {Ps : List va_W}
set_option maxRecDepth 100000 in
theorem k_X8_done {o0 : Nat} {w0 : Nat → Nat} {w1 : Nat → Nat} {w2 : Nat → Nat} {q3 : Nat → Nat} {q4 : Nat → Nat} {q5 : Nat → Nat}  {σ1 : pStt} {σ3 : pStt} {σ4 : pStt} {σ5 : pStt} {u : Int32 × pStt × pStt × pStt × pStt} {index : Nat} (S : CX p m c cc nL s args own D cy) (hl : (Cond.methodLink own index yX8_done).before args s = true) (hw : PW D A H0 Ps H locs) (hf : f_X8_done σ1 σ3 σ4 σ5 = some u) (js : List Nat) (hC : js.map (fun j => Ps[j]?) = [some (pX8 o0 w0), some (pX6 (w0 3) w1 σ1), some (pX7 (w0 0) w2), some (pX1 cy (w2 0) q3 σ3), some (pX1 cy (w1 0) q4 σ4), some (pX3 cy (w0 2) q5 σ5)]) (hnd : js.Nodup) (hlen : js.length = 6) (hR : RMok rmX8_done R 2) (hsize : ls.size = nL) (hrest : (rest.map fun v => v.category).sum ≤ 8) (hdg : decode cc pc = .ok (.invokevirtual index, 3)) (hcs : cells ≤ R.cells ∧ slots ≤ R.slots)
    (kk : ∀ (H1 : Heap) (locs1 : List Loc), PW D A H0 (setAll Ps js [pX8 o0 w0, pX6 (w0 3) w1 u.2.1, pX7 (w0 0) w2, pX1 cy (w2 0) q3 u.2.2.1, pX1 cy (w1 0) q4 u.2.2.2.1, pX3 cy (w0 2) q5 u.2.2.2.2]) H1 locs1 → W p l e R s m args below meth c H1 locs1 cells slots Q (F0 m (pc + 3) ls (.int u.1 :: rest))) : W p l e R s m args below meth c H locs cells slots Q (F0 m pc ls (.ref o0 :: rest)) :=
  w_callV (n := 0) (ov := (some (.int u.1))) (As := []) (Cs := [pX8 o0 w0, pX6 (w0 3) w1 σ1, pX7 (w0 0) w2, pX1 cy (w2 0) q3 σ3, pX1 cy (w1 0) q4 σ4, pX3 cy (w0 2) q5 σ5]) (Cs' := [pX8 o0 w0, pX6 (w0 3) w1 u.2.1, pX7 (w0 0) w2, pX1 cy (w2 0) q3 u.2.2.1, pX1 cy (w1 0) q4 u.2.2.2.1, pX3 cy (w0 2) q5 u.2.2.2.2]) S hw (c_X8_done l D cy o0 w0 w1 w2 q3 q4 q5 σ1 σ3 σ4 σ5 u hf) (MF.of S.2.2.2.2 wd488 wd70 (by decide)) (S.2.2.2.2.wd wd486 rfl) (S.2.2.2.2.wd wd487 rfl) hl hR js hC hnd hlen rfl rfl rfl rfl hsize rfl hrest hdg hcs kk
end
abbrev rmX8_join : Room := { frames := 3, cells := 0, slots := 0, locals := 68 }
def f_X8_join (x1 : Int32) (x2 : Int32) (σ2 : pStt) : Option (Int32) := (f_X8_isCorner x1).bind (fun u_1 => if u_1 = 0 then some ((-1)) else (f_X8_isCorner x2).bind (fun u_3 => if u_3 = 0 then some ((-1)) else (f_X1_fewestWays x1 x2 σ2).bind (fun u_5 => some u_5)))
set_option maxHeartbeats 4000000 in
set_option maxRecDepth 100000 in
theorem c_X8_join (l : Launch) (D : va_G) (cy : Nat → ClassId) (o0 : Nat) (w0 : Nat → Nat) (w1 : Nat → Nat) (q2 : Nat → Nat) (x1 : Int32) (x2 : Int32) (σ2 : pStt) (u : Int32) (hf : f_X8_join x1 x2 σ2 = some u) : CT l yX8_join cX8_join 3 (some .int) rmX8_join D cy [.ref o0, .int x1, .int x2] [pX8 o0 w0, pX7 (w0 0) w1, pX1 cy (w1 0) q2 σ2] (some (.int u)) [pX8 o0 w0, pX7 (w0 0) w1, pX1 cy (w1 0) q2 σ2] := by
  refine CT.of (by decide) (Nat.le_of_ble_eq_true rfl) (fun p e s m args below meth c ls A Q hA hQ S hr hlk hl hw => ?_)
  have hl : lv_has ls 3 [(0, .ref o0), (1, .int x1), (2, .int x2)] := hl
  rw [f_X8_join] at hf
  refine lv_iload_n S.1 S.2.1 dX8_join_0 rfl (lv_at hl 1 rfl) ?_
  obtain ⟨u_1, e_u_1, hf⟩ := ob hf
  refine k_X8_isCorner S (S.2.2.2.2.wd wd284 rfl) hw e_u_1 [] rfl (by decide) rfl ⟨rfl, rfl, Nat.le_of_ble_eq_true rfl, Nat.le_of_ble_eq_true rfl⟩ hl.1 (Nat.le_of_ble_eq_true rfl) dX8_join_1 ⟨Nat.zero_le _, Nat.zero_le _⟩ (fun H locs hw => ?_)
  have hw : PW D A s.heap [pX8 o0 w0, pX7 (w0 0) w1, pX1 cy (w1 0) q2 σ2] H locs := hw
  refine lv_if_eq (tgt := 14) S.1 S.2.1 dX8_join_4 (by decide) (fun c_2 => ?_) (fun c_2 => ?_)
  · replace hf := (if_pos c_2).symm.trans hf
    refine lv_iconst (v := (-1)) S.1 S.2.1 dX8_join_14 (by decide) ?_
    cases hf
    exact w_iret S hr hlk hA hQ hw dX8_join_15
  · replace hf := (if_neg c_2).symm.trans hf
    refine lv_iload_n S.1 S.2.1 dX8_join_7 rfl (lv_at hl 2 rfl) ?_
    obtain ⟨u_3, e_u_3, hf⟩ := ob hf
    refine k_X8_isCorner S (S.2.2.2.2.wd wd284 rfl) hw e_u_3 [] rfl (by decide) rfl ⟨rfl, rfl, Nat.le_of_ble_eq_true rfl, Nat.le_of_ble_eq_true rfl⟩ hl.1 (Nat.le_of_ble_eq_true rfl) dX8_join_8 ⟨Nat.zero_le _, Nat.zero_le _⟩ (fun H locs hw => ?_)
    have hw : PW D A s.heap [pX8 o0 w0, pX7 (w0 0) w1, pX1 cy (w1 0) q2 σ2] H locs := hw
    refine lv_if_ne (tgt := 16) S.1 S.2.1 dX8_join_11 (by decide) (fun c_4 => ?_) (fun c_4 => ?_)
    · replace hf := (if_neg c_4).symm.trans hf
      refine lv_aload_n S.1 S.2.1 dX8_join_16 rfl (lv_at hl 0 rfl) ?_
      refine gf_X8_12 S hw 0 rfl dX8_join_17 ?_
      refine gf_X8_52 S hw 1 rfl dX8_join_20 ?_
      refine lv_iload_n S.1 S.2.1 dX8_join_23 rfl (lv_at hl 1 rfl) ?_
      refine lv_iload_n S.1 S.2.1 dX8_join_24 rfl (lv_at hl 2 rfl) ?_
      obtain ⟨u_5, e_u_5, hf⟩ := ob hf
      refine k_X1_fewestWays S (S.2.2.2.2.wd wd494 rfl) hw e_u_5 [2] rfl (by decide) rfl ⟨rfl, rfl, Nat.le_of_ble_eq_true rfl, Nat.le_of_ble_eq_true rfl⟩ hl.1 (Nat.le_of_ble_eq_true rfl) dX8_join_25 ⟨Nat.zero_le _, Nat.zero_le _⟩ (fun H locs hw => ?_)
      have hw : PW D A s.heap [pX8 o0 w0, pX7 (w0 0) w1, pX1 cy (w1 0) q2 σ2] H locs := hw
      cases hf
      exact w_iret S hr hlk hA hQ hw dX8_join_28
    · replace hf := (if_pos c_4).symm.trans hf
      refine lv_iconst (v := (-1)) S.1 S.2.1 dX8_join_14 (by decide) ?_
      cases hf
      exact w_iret S hr hlk hA hQ hw dX8_join_15
section
variable {p : Program} {l : Launch} {e : Env} {R : Room} {s : State} {m : MethodId} {args : Array Value} {below : List Frame} {meth : Method} {c : Code} {H : Heap} {locs : List Loc} {cells slots : Nat} {Q : State → Prop} {cc : ByteArray} {pc nL : Nat} {ls : Array Slot} {rest : List Value} {D : va_G} {cy : Nat → ClassId} {A : Nat → Prop} {H0 : Heap} {own : String} {Ps : List va_W}
set_option maxRecDepth 100000 in
theorem k_X8_join {o0 : Nat} {w0 : Nat → Nat} {w1 : Nat → Nat} {q2 : Nat → Nat} {x1 : Int32} {x2 : Int32} {σ2 : pStt} {u : Int32} {index : Nat} (S : CX p m c cc nL s args own D cy) (hl : (Cond.methodLink own index yX8_join).before args s = true) (hw : PW D A H0 Ps H locs) (hf : f_X8_join x1 x2 σ2 = some u) (js : List Nat) (hC : js.map (fun j => Ps[j]?) = [some (pX8 o0 w0), some (pX7 (w0 0) w1), some (pX1 cy (w1 0) q2 σ2)]) (hnd : js.Nodup) (hlen : js.length = 3) (hR : RMok rmX8_join R 3) (hsize : ls.size = nL) (hrest : (rest.map fun v => v.category).sum ≤ 8) (hdg : decode cc pc = .ok (.invokevirtual index, 3)) (hcs : cells ≤ R.cells ∧ slots ≤ R.slots)
    (kk : ∀ (H1 : Heap) (locs1 : List Loc), PW D A H0 (setAll Ps js [pX8 o0 w0, pX7 (w0 0) w1, pX1 cy (w1 0) q2 σ2]) H1 locs1 → W p l e R s m args below meth c H1 locs1 cells slots Q (F0 m (pc + 3) ls (.int u :: rest))) : W p l e R s m args below meth c H locs cells slots Q (F0 m pc ls (.int x2 :: .int x1 :: .ref o0 :: rest)) :=
  w_callV (n := 2) (ov := (some (.int u))) (As := [.int x1, .int x2]) (Cs := [pX8 o0 w0, pX7 (w0 0) w1, pX1 cy (w1 0) q2 σ2]) (Cs' := [pX8 o0 w0, pX7 (w0 0) w1, pX1 cy (w1 0) q2 σ2]) S hw (c_X8_join l D cy o0 w0 w1 q2 x1 x2 σ2 u hf) (MF.of S.2.2.2.2 wd493 wd70 (by decide)) (S.2.2.2.2.wd wd491 rfl) (S.2.2.2.2.wd wd492 rfl) hl hR js hC hnd hlen rfl rfl rfl rfl hsize rfl hrest hdg hcs kk
end
abbrev rmX8_cut : Room := { frames := 3, cells := 0, slots := 0, locals := 70 }
def f_X8_cut (x1 : Int32) (x2 : Int32) (x3 : Int32) (σ2 : pStt) : Option (Int32) := (f_X8_isCorner x1).bind (fun u_1 => if u_1 = 0 then some ((-1)) else (f_X8_isCorner x2).bind (fun u_3 => if u_3 = 0 then some ((-1)) else if x1 = x2 then some ((-2)) else (f_X8_isWithin x3 0 1).bind (fun u_6 => if u_6 = 0 then some ((-2)) else (f_X1_leastCut x1 x2 σ2).bind (fun u_8 => (if x3 = 0 then (f_X1_waysOutOf u_8 σ2).bind (fun u_11 => some u_11) else some u_8 : Option Int32).bind (fun v_9 => some v_9)))))
set_option maxHeartbeats 4000000 in
set_option maxRecDepth 100000 in
theorem c_X8_cut (l : Launch) (D : va_G) (cy : Nat → ClassId) (o0 : Nat) (w0 : Nat → Nat) (w1 : Nat → Nat) (q2 : Nat → Nat) (x1 : Int32) (x2 : Int32) (x3 : Int32) (σ2 : pStt) (u : Int32) (hf : f_X8_cut x1 x2 x3 σ2 = some u) : CT l yX8_cut cX8_cut 5 (some .int) rmX8_cut D cy [.ref o0, .int x1, .int x2, .int x3] [pX8 o0 w0, pX7 (w0 0) w1, pX1 cy (w1 0) q2 σ2] (some (.int u)) [pX8 o0 w0, pX7 (w0 0) w1, pX1 cy (w1 0) q2 σ2] := by
  refine CT.of (by decide) (Nat.le_of_ble_eq_true rfl) (fun p e s m args below meth c ls A Q hA hQ S hr hlk hl hw => ?_)
  have hl : lv_has ls 5 [(0, .ref o0), (1, .int x1), (2, .int x2), (3, .int x3)] := hl
  rw [f_X8_cut] at hf
  refine lv_iload_n S.1 S.2.1 dX8_cut_0 rfl (lv_at hl 1 rfl) ?_
  obtain ⟨u_1, e_u_1, hf⟩ := ob hf
  refine k_X8_isCorner S (S.2.2.2.2.wd wd284 rfl) hw e_u_1 [] rfl (by decide) rfl ⟨rfl, rfl, Nat.le_of_ble_eq_true rfl, Nat.le_of_ble_eq_true rfl⟩ hl.1 (Nat.le_of_ble_eq_true rfl) dX8_cut_1 ⟨Nat.zero_le _, Nat.zero_le _⟩ (fun H locs hw => ?_)
  have hw : PW D A s.heap [pX8 o0 w0, pX7 (w0 0) w1, pX1 cy (w1 0) q2 σ2] H locs := hw
  refine lv_if_eq (tgt := 14) S.1 S.2.1 dX8_cut_4 (by decide) (fun c_2 => ?_) (fun c_2 => ?_)
  · replace hf := (if_pos c_2).symm.trans hf
    refine lv_iconst (v := (-1)) S.1 S.2.1 dX8_cut_14 (by decide) ?_
    cases hf
    exact w_iret S hr hlk hA hQ hw dX8_cut_15
  · replace hf := (if_neg c_2).symm.trans hf
    refine lv_iload_n S.1 S.2.1 dX8_cut_7 rfl (lv_at hl 2 rfl) ?_
    obtain ⟨u_3, e_u_3, hf⟩ := ob hf
    refine k_X8_isCorner S (S.2.2.2.2.wd wd284 rfl) hw e_u_3 [] rfl (by decide) rfl ⟨rfl, rfl, Nat.le_of_ble_eq_true rfl, Nat.le_of_ble_eq_true rfl⟩ hl.1 (Nat.le_of_ble_eq_true rfl) dX8_cut_8 ⟨Nat.zero_le _, Nat.zero_le _⟩ (fun H locs hw => ?_)
    have hw : PW D A s.heap [pX8 o0 w0, pX7 (w0 0) w1, pX1 cy (w1 0) q2 σ2] H locs := hw
    refine lv_if_ne (tgt := 16) S.1 S.2.1 dX8_cut_11 (by decide) (fun c_4 => ?_) (fun c_4 => ?_)
    · replace hf := (if_neg c_4).symm.trans hf
      refine lv_iload_n S.1 S.2.1 dX8_cut_16 rfl (lv_at hl 1 rfl) ?_
      refine lv_iload_n S.1 S.2.1 dX8_cut_17 rfl (lv_at hl 2 rfl) ?_
      refine lv_icmp_eq (tgt := 30) S.1 S.2.1 dX8_cut_18 (by decide) (fun c_5 => ?_) (fun c_5 => ?_)
      · replace hf := (if_pos c_5).symm.trans hf
        refine lv_bipush (v := (-2)) S.1 S.2.1 dX8_cut_30 (by decide) ?_
        cases hf
        exact w_iret S hr hlk hA hQ hw dX8_cut_32
      · replace hf := (if_neg c_5).symm.trans hf
        refine lv_iload_n S.1 S.2.1 dX8_cut_21 rfl (lv_at hl 3 rfl) ?_
        refine lv_iconst (v := 0) S.1 S.2.1 dX8_cut_22 (by decide) ?_
        refine lv_iconst (v := 1) S.1 S.2.1 dX8_cut_23 (by decide) ?_
        obtain ⟨u_6, e_u_6, hf⟩ := ob hf
        refine k_X8_isWithin S (S.2.2.2.2.wd wd287 rfl) hw e_u_6 [] rfl (by decide) rfl ⟨rfl, rfl, Nat.le_of_ble_eq_true rfl, Nat.le_of_ble_eq_true rfl⟩ hl.1 (Nat.le_of_ble_eq_true rfl) dX8_cut_24 ⟨Nat.zero_le _, Nat.zero_le _⟩ (fun H locs hw => ?_)
        have hw : PW D A s.heap [pX8 o0 w0, pX7 (w0 0) w1, pX1 cy (w1 0) q2 σ2] H locs := hw
        refine lv_if_ne (tgt := 33) S.1 S.2.1 dX8_cut_27 (by decide) (fun c_7 => ?_) (fun c_7 => ?_)
        · replace hf := (if_neg c_7).symm.trans hf
          refine lv_aload_n S.1 S.2.1 dX8_cut_33 rfl (lv_at hl 0 rfl) ?_
          refine gf_X8_12 S hw 0 rfl dX8_cut_34 ?_
          refine gf_X8_52 S hw 1 rfl dX8_cut_37 ?_
          refine lv_iload_n S.1 S.2.1 dX8_cut_40 rfl (lv_at hl 1 rfl) ?_
          refine lv_iload_n S.1 S.2.1 dX8_cut_41 rfl (lv_at hl 2 rfl) ?_
          obtain ⟨u_8, e_u_8, hf⟩ := ob hf
          refine k_X1_leastCut S (S.2.2.2.2.wd wd506 rfl) hw e_u_8 [2] rfl (by decide) rfl ⟨rfl, rfl, Nat.le_of_ble_eq_true rfl, Nat.le_of_ble_eq_true rfl⟩ hl.1 (Nat.le_of_ble_eq_true rfl) dX8_cut_42 ⟨Nat.zero_le _, Nat.zero_le _⟩ (fun H locs hw => ?_)
          have hw : PW D A s.heap [pX8 o0 w0, pX7 (w0 0) w1, pX1 cy (w1 0) q2 σ2] H locs := hw
          refine lv_istore (lv' := [(4, .int u_8), (0, .ref o0), (1, .int x1), (2, .int x2), (3, .int x3)]) S.1 S.2.1 dX8_cut_45 hl (by decide) rfl (fun ls hl => ?_)
          refine lv_iload_n S.1 S.2.1 dX8_cut_47 rfl (lv_at hl 4 rfl) ?_
          obtain ⟨v_9, e_v_9, hf⟩ := ob hf
          have hJ_v_9 : ∀ (H : Heap) (locs : List Loc), PW D A s.heap [pX8 o0 w0, pX7 (w0 0) w1, pX1 cy (w1 0) q2 σ2] H locs → W p l e rmX8_cut s m args below meth c H locs 0 0 Q (F0 m 68 ls [.int v_9]) := by
            intro H locs hw
            cases hf
            exact w_iret S hr hlk hA hQ hw dX8_cut_68
          replace hf := e_v_9
          clear e_v_9
          refine lv_if_ne (tgt := 66) S.1 S.2.1 dX8_cut_48 (by decide) (fun c_10 => ?_) (fun c_10 => ?_)
          · replace hf := (if_neg c_10).symm.trans hf
            refine lv_iload S.1 S.2.1 dX8_cut_66 (lv_at hl 0 rfl) ?_
            cases hf
            exact hJ_v_9 _ _ hw
          · replace hf := (if_pos c_10).symm.trans hf
            refine lv_aload_n S.1 S.2.1 dX8_cut_51 rfl (lv_at hl 1 rfl) ?_
            refine gf_X8_12 S hw 0 rfl dX8_cut_52 ?_
            refine gf_X8_52 S hw 1 rfl dX8_cut_55 ?_
            refine lv_iload S.1 S.2.1 dX8_cut_58 (lv_at hl 0 rfl) ?_
            obtain ⟨u_11, e_u_11, hf⟩ := ob hf
            refine k_X1_waysOutOf S (S.2.2.2.2.wd wd514 rfl) hw e_u_11 [2] rfl (by decide) rfl ⟨rfl, rfl, Nat.le_of_ble_eq_true rfl, Nat.le_of_ble_eq_true rfl⟩ hl.1 (Nat.le_of_ble_eq_true rfl) dX8_cut_60 ⟨Nat.zero_le _, Nat.zero_le _⟩ (fun H locs hw => ?_)
            have hw : PW D A s.heap [pX8 o0 w0, pX7 (w0 0) w1, pX1 cy (w1 0) q2 σ2] H locs := hw
            refine lv_goto (tgt := 68) S.1 S.2.1 dX8_cut_63 (by decide) ?_
            cases hf
            exact hJ_v_9 _ _ hw
        · replace hf := (if_pos c_7).symm.trans hf
          refine lv_bipush (v := (-2)) S.1 S.2.1 dX8_cut_30 (by decide) ?_
          cases hf
          exact w_iret S hr hlk hA hQ hw dX8_cut_32
    · replace hf := (if_pos c_4).symm.trans hf
      refine lv_iconst (v := (-1)) S.1 S.2.1 dX8_cut_14 (by decide) ?_
      cases hf
      exact w_iret S hr hlk hA hQ hw dX8_cut_15
section
variable {p : Program} {l : Launch} {e : Env} {R : Room} {s : State} {m : MethodId} {args : Array Value} {below : List Frame} {meth : Method} {c : Code} {H : Heap} {locs : List Loc} {cells slots : Nat} {Q : State → Prop} {cc : ByteArray} {pc nL : Nat} {ls : Array Slot} {rest : List Value} {D : va_G} {cy : Nat → ClassId} {A : Nat → Prop} {H0 : Heap} {own : String} {Ps : List va_W}
set_option maxRecDepth 100000 in
theorem k_X8_cut {o0 : Nat} {w0 : Nat → Nat} {w1 : Nat → Nat} {q2 : Nat → Nat} {x1 : Int32} {x2 : Int32} {x3 : Int32} {σ2 : pStt} {u : Int32} {index : Nat} (S : CX p m c cc nL s args own D cy) (hl : (Cond.methodLink own index yX8_cut).before args s = true) (hw : PW D A H0 Ps H locs) (hf : f_X8_cut x1 x2 x3 σ2 = some u) (js : List Nat) (hC : js.map (fun j => Ps[j]?) = [some (pX8 o0 w0), some (pX7 (w0 0) w1), some (pX1 cy (w1 0) q2 σ2)]) (hnd : js.Nodup) (hlen : js.length = 3) (hR : RMok rmX8_cut R 5) (hsize : ls.size = nL) (hrest : (rest.map fun v => v.category).sum ≤ 8) (hdg : decode cc pc = .ok (.invokevirtual index, 3)) (hcs : cells ≤ R.cells ∧ slots ≤ R.slots)
    (kk : ∀ (H1 : Heap) (locs1 : List Loc), PW D A H0 (setAll Ps js [pX8 o0 w0, pX7 (w0 0) w1, pX1 cy (w1 0) q2 σ2]) H1 locs1 → W p l e R s m args below meth c H1 locs1 cells slots Q (F0 m (pc + 3) ls (.int u :: rest))) : W p l e R s m args below meth c H locs cells slots Q (F0 m pc ls (.int x3 :: .int x2 :: .int x1 :: .ref o0 :: rest)) :=
  w_callV (n := 3) (ov := (some (.int u))) (As := [.int x1, .int x2, .int x3]) (Cs := [pX8 o0 w0, pX7 (w0 0) w1, pX1 cy (w1 0) q2 σ2]) (Cs' := [pX8 o0 w0, pX7 (w0 0) w1, pX1 cy (w1 0) q2 σ2]) S hw (c_X8_cut l D cy o0 w0 w1 q2 x1 x2 x3 σ2 u hf) (MF.of S.2.2.2.2 wd505 wd70 (by decide)) (S.2.2.2.2.wd wd503 rfl) (S.2.2.2.2.wd wd504 rfl) hl hR js hC hnd hlen rfl rfl rfl rfl hsize rfl hrest hdg hcs kk
end
abbrev rmX8_rule : Room := { frames := 2, cells := 0, slots := 0, locals := 42 }
def f_X8_rule (x1 : Int32) (x2 : Int32) (x3 : Int32) (σ2 : pStt) : Option (Int32 × pStt) := (f_X8_isClaim x1).bind (fun u_1 => if u_1 = 0 then some ((-2), σ2) else (f_X8_isClaim x2).bind (fun u_3 => if u_3 = 0 then some ((-2), σ2) else (f_X8_isClaim x3).bind (fun u_5 => if u_5 = 0 then some ((-2), σ2) else (f_X4_add x1 x2 x3 σ2).bind (fun u_7 => (if u_7.1 = 0 then some ((-4)) else some ((u_7.2.1 0)) : Option Int32).bind (fun v_8 => some (v_8, u_7.2))))))
set_option maxHeartbeats 4000000 in
set_option maxRecDepth 100000 in
theorem c_X8_rule (l : Launch) (D : va_G) (cy : Nat → ClassId) (o0 : Nat) (w0 : Nat → Nat) (w1 : Nat → Nat) (q2 : Nat → Nat) (x1 : Int32) (x2 : Int32) (x3 : Int32) (σ2 : pStt) (u : Int32 × pStt) (hf : f_X8_rule x1 x2 x3 σ2 = some u) : CT l yX8_rule cX8_rule 4 (some .int) rmX8_rule D cy [.ref o0, .int x1, .int x2, .int x3] [pX8 o0 w0, pX7 (w0 0) w1, pX4 cy (w1 1) q2 σ2] (some (.int u.1)) [pX8 o0 w0, pX7 (w0 0) w1, pX4 cy (w1 1) q2 u.2] := by
  refine CT.of (by decide) (Nat.le_of_ble_eq_true rfl) (fun p e s m args below meth c ls A Q hA hQ S hr hlk hl hw => ?_)
  have hl : lv_has ls 4 [(0, .ref o0), (1, .int x1), (2, .int x2), (3, .int x3)] := hl
  rw [f_X8_rule] at hf
  refine lv_iload_n S.1 S.2.1 dX8_rule_0 rfl (lv_at hl 1 rfl) ?_
  obtain ⟨u_1, e_u_1, hf⟩ := ob hf
  refine k_X8_isClaim S (S.2.2.2.2.wd wd519 rfl) hw e_u_1 [] rfl (by decide) rfl ⟨rfl, rfl, Nat.le_of_ble_eq_true rfl, Nat.le_of_ble_eq_true rfl⟩ hl.1 (Nat.le_of_ble_eq_true rfl) dX8_rule_1 ⟨Nat.zero_le _, Nat.zero_le _⟩ (fun H locs hw => ?_)
  have hw : PW D A s.heap [pX8 o0 w0, pX7 (w0 0) w1, pX4 cy (w1 1) q2 σ2] H locs := hw
  refine lv_if_eq (tgt := 21) S.1 S.2.1 dX8_rule_4 (by decide) (fun c_2 => ?_) (fun c_2 => ?_)
  · replace hf := (if_pos c_2).symm.trans hf
    refine lv_bipush (v := (-2)) S.1 S.2.1 dX8_rule_21 (by decide) ?_
    cases hf
    exact w_iret S hr hlk hA hQ hw dX8_rule_23
  · replace hf := (if_neg c_2).symm.trans hf
    refine lv_iload_n S.1 S.2.1 dX8_rule_7 rfl (lv_at hl 2 rfl) ?_
    obtain ⟨u_3, e_u_3, hf⟩ := ob hf
    refine k_X8_isClaim S (S.2.2.2.2.wd wd519 rfl) hw e_u_3 [] rfl (by decide) rfl ⟨rfl, rfl, Nat.le_of_ble_eq_true rfl, Nat.le_of_ble_eq_true rfl⟩ hl.1 (Nat.le_of_ble_eq_true rfl) dX8_rule_8 ⟨Nat.zero_le _, Nat.zero_le _⟩ (fun H locs hw => ?_)
    have hw : PW D A s.heap [pX8 o0 w0, pX7 (w0 0) w1, pX4 cy (w1 1) q2 σ2] H locs := hw
    refine lv_if_eq (tgt := 21) S.1 S.2.1 dX8_rule_11 (by decide) (fun c_4 => ?_) (fun c_4 => ?_)
    · replace hf := (if_pos c_4).symm.trans hf
      refine lv_bipush (v := (-2)) S.1 S.2.1 dX8_rule_21 (by decide) ?_
      cases hf
      exact w_iret S hr hlk hA hQ hw dX8_rule_23
    · replace hf := (if_neg c_4).symm.trans hf
      refine lv_iload_n S.1 S.2.1 dX8_rule_14 rfl (lv_at hl 3 rfl) ?_
      obtain ⟨u_5, e_u_5, hf⟩ := ob hf
      refine k_X8_isClaim S (S.2.2.2.2.wd wd519 rfl) hw e_u_5 [] rfl (by decide) rfl ⟨rfl, rfl, Nat.le_of_ble_eq_true rfl, Nat.le_of_ble_eq_true rfl⟩ hl.1 (Nat.le_of_ble_eq_true rfl) dX8_rule_15 ⟨Nat.zero_le _, Nat.zero_le _⟩ (fun H locs hw => ?_)
      have hw : PW D A s.heap [pX8 o0 w0, pX7 (w0 0) w1, pX4 cy (w1 1) q2 σ2] H locs := hw
      refine lv_if_ne (tgt := 24) S.1 S.2.1 dX8_rule_18 (by decide) (fun c_6 => ?_) (fun c_6 => ?_)
      · replace hf := (if_neg c_6).symm.trans hf
        refine lv_aload_n S.1 S.2.1 dX8_rule_24 rfl (lv_at hl 0 rfl) ?_
        refine gf_X8_12 S hw 0 rfl dX8_rule_25 ?_
        refine gf_X8_165 S hw 1 rfl dX8_rule_28 ?_
        refine lv_iload_n S.1 S.2.1 dX8_rule_31 rfl (lv_at hl 1 rfl) ?_
        refine lv_iload_n S.1 S.2.1 dX8_rule_32 rfl (lv_at hl 2 rfl) ?_
        refine lv_iload_n S.1 S.2.1 dX8_rule_33 rfl (lv_at hl 3 rfl) ?_
        obtain ⟨u_7, e_u_7, hf⟩ := ob hf
        refine k_X4_add S (S.2.2.2.2.wd wd522 rfl) hw e_u_7 [2] rfl (by decide) rfl ⟨rfl, rfl, Nat.le_of_ble_eq_true rfl, Nat.le_of_ble_eq_true rfl⟩ hl.1 (Nat.le_of_ble_eq_true rfl) dX8_rule_34 ⟨Nat.zero_le _, Nat.zero_le _⟩ (fun H locs hw => ?_)
        have hw : PW D A s.heap [pX8 o0 w0, pX7 (w0 0) w1, pX4 cy (w1 1) q2 u_7.2] H locs := hw
        obtain ⟨v_8, e_v_8, hf⟩ := ob hf
        have hJ_v_8 : ∀ (H : Heap) (locs : List Loc), PW D A s.heap [pX8 o0 w0, pX7 (w0 0) w1, pX4 cy (w1 1) q2 u_7.2] H locs → W p l e rmX8_rule s m args below meth c H locs 0 0 Q (F0 m 55 ls [.int v_8]) := by
          intro H locs hw
          cases hf
          exact w_iret S hr hlk hA hQ hw dX8_rule_55
        replace hf := e_v_8
        clear e_v_8
        refine lv_if_eq (tgt := 53) S.1 S.2.1 dX8_rule_37 (by decide) (fun c_9 => ?_) (fun c_9 => ?_)
        · replace hf := (if_pos c_9).symm.trans hf
          refine lv_bipush (v := (-4)) S.1 S.2.1 dX8_rule_53 (by decide) ?_
          cases hf
          exact hJ_v_8 _ _ hw
        · replace hf := (if_neg c_9).symm.trans hf
          refine lv_aload_n S.1 S.2.1 dX8_rule_40 rfl (lv_at hl 0 rfl) ?_
          refine gf_X8_12 S hw 0 rfl dX8_rule_41 ?_
          refine gf_X8_165 S hw 1 rfl dX8_rule_44 ?_
          refine gf_X8_173 S hw 2 rfl dX8_rule_47 ?_
          refine lv_goto (tgt := 55) S.1 S.2.1 dX8_rule_50 (by decide) ?_
          cases hf
          exact hJ_v_8 _ _ hw
      · replace hf := (if_pos c_6).symm.trans hf
        refine lv_bipush (v := (-2)) S.1 S.2.1 dX8_rule_21 (by decide) ?_
        cases hf
        exact w_iret S hr hlk hA hQ hw dX8_rule_23
section
variable {p : Program} {l : Launch} {e : Env} {R : Room} {s : State} {m : MethodId} {args : Array Value} {below : List Frame} {meth : Method} {c : Code} {H : Heap} {locs : List Loc} {cells slots : Nat} {Q : State → Prop} {cc : ByteArray} {pc nL : Nat} {ls : Array Slot} {rest : List Value} {D : va_G} {cy : Nat → ClassId} {A : Nat → Prop} {H0 : Heap} {own : String} {Ps : List va_W}
set_option maxRecDepth 100000 in
theorem k_X8_rule {o0 : Nat} {w0 : Nat → Nat} {w1 : Nat → Nat} {q2 : Nat → Nat} {x1 : Int32} {x2 : Int32} {x3 : Int32} {σ2 : pStt} {u : Int32 × pStt} {index : Nat} (S : CX p m c cc nL s args own D cy) (hl : (Cond.methodLink own index yX8_rule).before args s = true) (hw : PW D A H0 Ps H locs) (hf : f_X8_rule x1 x2 x3 σ2 = some u) (js : List Nat) (hC : js.map (fun j => Ps[j]?) = [some (pX8 o0 w0), some (pX7 (w0 0) w1), some (pX4 cy (w1 1) q2 σ2)]) (hnd : js.Nodup) (hlen : js.length = 3) (hR : RMok rmX8_rule R 4) (hsize : ls.size = nL) (hrest : (rest.map fun v => v.category).sum ≤ 8) (hdg : decode cc pc = .ok (.invokevirtual index, 3)) (hcs : cells ≤ R.cells ∧ slots ≤ R.slots)
    (kk : ∀ (H1 : Heap) (locs1 : List Loc), PW D A H0 (setAll Ps js [pX8 o0 w0, pX7 (w0 0) w1, pX4 cy (w1 1) q2 u.2]) H1 locs1 → W p l e R s m args below meth c H1 locs1 cells slots Q (F0 m (pc + 3) ls (.int u.1 :: rest))) : W p l e R s m args below meth c H locs cells slots Q (F0 m pc ls (.int x3 :: .int x2 :: .int x1 :: .ref o0 :: rest)) :=
  w_callV (n := 3) (ov := (some (.int u.1))) (As := [.int x1, .int x2, .int x3]) (Cs := [pX8 o0 w0, pX7 (w0 0) w1, pX4 cy (w1 1) q2 σ2]) (Cs' := [pX8 o0 w0, pX7 (w0 0) w1, pX4 cy (w1 1) q2 u.2]) S hw (c_X8_rule l D cy o0 w0 w1 q2 x1 x2 x3 σ2 u hf) (MF.of S.2.2.2.2 wd518 wd70 (by decide)) (S.2.2.2.2.wd wd516 rfl) (S.2.2.2.2.wd wd517 rfl) hl hR js hC hnd hlen rfl rfl rfl rfl hsize rfl hrest hdg hcs kk
end
abbrev rmX8_unrule : Room := { frames := 0, cells := 0, slots := 0, locals := 0 }
def f_X8_unrule (σ2 : pStt) : Option (Int32 × pStt) := (some (sI σ2 0 0)).bind (fun σ_1 => some ((σ2.1 0), σ_1))
set_option maxHeartbeats 4000000 in
set_option maxRecDepth 100000 in
theorem c_X8_unrule (l : Launch) (D : va_G) (cy : Nat → ClassId) (o0 : Nat) (w0 : Nat → Nat) (w1 : Nat → Nat) (q2 : Nat → Nat) (σ2 : pStt) (u : Int32 × pStt) (hf : f_X8_unrule σ2 = some u) : CT l yX8_unrule cX8_unrule 2 (some .int) rmX8_unrule D cy [.ref o0] [pX8 o0 w0, pX7 (w0 0) w1, pX4 cy (w1 1) q2 σ2] (some (.int u.1)) [pX8 o0 w0, pX7 (w0 0) w1, pX4 cy (w1 1) q2 u.2] := by
  refine CT.of (by decide) (Nat.le_of_ble_eq_true rfl) (fun p e s m args below meth c ls A Q hA hQ S hr hlk hl hw => ?_)
  have hl : lv_has ls 2 [(0, .ref o0)] := hl
  rw [f_X8_unrule] at hf
  refine lv_aload_n S.1 S.2.1 dX8_unrule_0 rfl (lv_at hl 0 rfl) ?_
  refine gf_X8_12 S hw 0 rfl dX8_unrule_1 ?_
  refine gf_X8_165 S hw 1 rfl dX8_unrule_4 ?_
  refine gf_X8_173 S hw 2 rfl dX8_unrule_7 ?_
  refine lv_istore_n (lv' := [(1, .int ((σ2.1 0))), (0, .ref o0)]) S.1 S.2.1 dX8_unrule_10 rfl hl (by decide) rfl (fun ls hl => ?_)
  refine lv_aload_n S.1 S.2.1 dX8_unrule_11 rfl (lv_at hl 1 rfl) ?_
  refine gf_X8_12 S hw 0 rfl dX8_unrule_12 ?_
  refine gf_X8_165 S hw 1 rfl dX8_unrule_15 ?_
  refine lv_iconst (v := 0) S.1 S.2.1 dX8_unrule_18 (by decide) ?_
  obtain ⟨σ_1, e_σ_1, hf⟩ := ob hf
  refine pf_X8_173 S hw 2 rfl e_σ_1 dX8_unrule_19 (fun H locs hw => ?_)
  have hw : PW D A s.heap [pX8 o0 w0, pX7 (w0 0) w1, pX4 cy (w1 1) q2 σ_1] H locs := hw
  refine lv_iload_n S.1 S.2.1 dX8_unrule_22 rfl (lv_at hl 0 rfl) ?_
  cases hf
  exact w_iret S hr hlk hA hQ hw dX8_unrule_23
section
variable {p : Program} {l : Launch} {e : Env} {R : Room} {s : State} {m : MethodId} {args : Array Value} {below : List Frame} {meth : Method} {c : Code} {H : Heap} {locs : List Loc} {cells slots : Nat} {Q : State → Prop} {cc : ByteArray} {pc nL : Nat} {ls : Array Slot} {rest : List Value} {D : va_G} {cy : Nat → ClassId} {A : Nat → Prop} {H0 : Heap} {own : String} {Ps : List va_W}
set_option maxRecDepth 100000 in
theorem k_X8_unrule {o0 : Nat} {w0 : Nat → Nat} {w1 : Nat → Nat} {q2 : Nat → Nat}  {σ2 : pStt} {u : Int32 × pStt} {index : Nat} (S : CX p m c cc nL s args own D cy) (hl : (Cond.methodLink own index yX8_unrule).before args s = true) (hw : PW D A H0 Ps H locs) (hf : f_X8_unrule σ2 = some u) (js : List Nat) (hC : js.map (fun j => Ps[j]?) = [some (pX8 o0 w0), some (pX7 (w0 0) w1), some (pX4 cy (w1 1) q2 σ2)]) (hnd : js.Nodup) (hlen : js.length = 3) (hR : RMok rmX8_unrule R 2) (hsize : ls.size = nL) (hrest : (rest.map fun v => v.category).sum ≤ 8) (hdg : decode cc pc = .ok (.invokevirtual index, 3)) (hcs : cells ≤ R.cells ∧ slots ≤ R.slots)
    (kk : ∀ (H1 : Heap) (locs1 : List Loc), PW D A H0 (setAll Ps js [pX8 o0 w0, pX7 (w0 0) w1, pX4 cy (w1 1) q2 u.2]) H1 locs1 → W p l e R s m args below meth c H1 locs1 cells slots Q (F0 m (pc + 3) ls (.int u.1 :: rest))) : W p l e R s m args below meth c H locs cells slots Q (F0 m pc ls (.ref o0 :: rest)) :=
  w_callV (n := 0) (ov := (some (.int u.1))) (As := []) (Cs := [pX8 o0 w0, pX7 (w0 0) w1, pX4 cy (w1 1) q2 σ2]) (Cs' := [pX8 o0 w0, pX7 (w0 0) w1, pX4 cy (w1 1) q2 u.2]) S hw (c_X8_unrule l D cy o0 w0 w1 q2 σ2 u hf) (MF.of S.2.2.2.2 wd529 wd70 (by decide)) (S.2.2.2.2.wd wd527 rfl) (S.2.2.2.2.wd wd528 rfl) hl hR js hC hnd hlen rfl rfl rfl rfl hsize rfl hrest hdg hcs kk
end
abbrev rmX8_close : Room := { frames := 1, cells := 0, slots := 0, locals := 25 }
def f_X8_close (x1 : Int32) (σ2 : pStt) : Option (Int32) := (f_X8_isWithin x1 0 1023).bind (fun u_1 => if u_1 = 0 then some ((-2)) else (f_X4_closure x1 σ2).bind (fun u_3 => some u_3))
set_option maxHeartbeats 4000000 in
set_option maxRecDepth 100000 in
theorem c_X8_close (l : Launch) (D : va_G) (cy : Nat → ClassId) (o0 : Nat) (w0 : Nat → Nat) (w1 : Nat → Nat) (q2 : Nat → Nat) (x1 : Int32) (σ2 : pStt) (u : Int32) (hf : f_X8_close x1 σ2 = some u) : CT l yX8_close cX8_close 2 (some .int) rmX8_close D cy [.ref o0, .int x1] [pX8 o0 w0, pX7 (w0 0) w1, pX4 cy (w1 1) q2 σ2] (some (.int u)) [pX8 o0 w0, pX7 (w0 0) w1, pX4 cy (w1 1) q2 σ2] := by
  refine CT.of (by decide) (Nat.le_of_ble_eq_true rfl) (fun p e s m args below meth c ls A Q hA hQ S hr hlk hl hw => ?_)
  have hl : lv_has ls 2 [(0, .ref o0), (1, .int x1)] := hl
  rw [f_X8_close] at hf
  refine lv_iload_n S.1 S.2.1 dX8_close_0 rfl (lv_at hl 1 rfl) ?_
  refine lv_iconst (v := 0) S.1 S.2.1 dX8_close_1 (by decide) ?_
  refine lv_sipush (v := 1023) S.1 S.2.1 dX8_close_2 (by decide) ?_
  obtain ⟨u_1, e_u_1, hf⟩ := ob hf
  refine k_X8_isWithin S (S.2.2.2.2.wd wd287 rfl) hw e_u_1 [] rfl (by decide) rfl ⟨rfl, rfl, Nat.le_of_ble_eq_true rfl, Nat.le_of_ble_eq_true rfl⟩ hl.1 (Nat.le_of_ble_eq_true rfl) dX8_close_5 ⟨Nat.zero_le _, Nat.zero_le _⟩ (fun H locs hw => ?_)
  have hw : PW D A s.heap [pX8 o0 w0, pX7 (w0 0) w1, pX4 cy (w1 1) q2 σ2] H locs := hw
  refine lv_if_ne (tgt := 14) S.1 S.2.1 dX8_close_8 (by decide) (fun c_2 => ?_) (fun c_2 => ?_)
  · replace hf := (if_neg c_2).symm.trans hf
    refine lv_aload_n S.1 S.2.1 dX8_close_14 rfl (lv_at hl 0 rfl) ?_
    refine gf_X8_12 S hw 0 rfl dX8_close_15 ?_
    refine gf_X8_165 S hw 1 rfl dX8_close_18 ?_
    refine lv_iload_n S.1 S.2.1 dX8_close_21 rfl (lv_at hl 1 rfl) ?_
    obtain ⟨u_3, e_u_3, hf⟩ := ob hf
    refine k_X4_closure S (S.2.2.2.2.wd wd534 rfl) hw e_u_3 [2] rfl (by decide) rfl ⟨rfl, rfl, Nat.le_of_ble_eq_true rfl, Nat.le_of_ble_eq_true rfl⟩ hl.1 (Nat.le_of_ble_eq_true rfl) dX8_close_22 ⟨Nat.zero_le _, Nat.zero_le _⟩ (fun H locs hw => ?_)
    have hw : PW D A s.heap [pX8 o0 w0, pX7 (w0 0) w1, pX4 cy (w1 1) q2 σ2] H locs := hw
    cases hf
    exact w_iret S hr hlk hA hQ hw dX8_close_25
  · replace hf := (if_pos c_2).symm.trans hf
    refine lv_bipush (v := (-2)) S.1 S.2.1 dX8_close_11 (by decide) ?_
    cases hf
    exact w_iret S hr hlk hA hQ hw dX8_close_13
section
variable {p : Program} {l : Launch} {e : Env} {R : Room} {s : State} {m : MethodId} {args : Array Value} {below : List Frame} {meth : Method} {c : Code} {H : Heap} {locs : List Loc} {cells slots : Nat} {Q : State → Prop} {cc : ByteArray} {pc nL : Nat} {ls : Array Slot} {rest : List Value} {D : va_G} {cy : Nat → ClassId} {A : Nat → Prop} {H0 : Heap} {own : String} {Ps : List va_W}
set_option maxRecDepth 100000 in
theorem k_X8_close {o0 : Nat} {w0 : Nat → Nat} {w1 : Nat → Nat} {q2 : Nat → Nat} {x1 : Int32} {σ2 : pStt} {u : Int32} {index : Nat} (S : CX p m c cc nL s args own D cy) (hl : (Cond.methodLink own index yX8_close).before args s = true) (hw : PW D A H0 Ps H locs) (hf : f_X8_close x1 σ2 = some u) (js : List Nat) (hC : js.map (fun j => Ps[j]?) = [some (pX8 o0 w0), some (pX7 (w0 0) w1), some (pX4 cy (w1 1) q2 σ2)]) (hnd : js.Nodup) (hlen : js.length = 3) (hR : RMok rmX8_close R 2) (hsize : ls.size = nL) (hrest : (rest.map fun v => v.category).sum ≤ 8) (hdg : decode cc pc = .ok (.invokevirtual index, 3)) (hcs : cells ≤ R.cells ∧ slots ≤ R.slots)
    (kk : ∀ (H1 : Heap) (locs1 : List Loc), PW D A H0 (setAll Ps js [pX8 o0 w0, pX7 (w0 0) w1, pX4 cy (w1 1) q2 σ2]) H1 locs1 → W p l e R s m args below meth c H1 locs1 cells slots Q (F0 m (pc + 3) ls (.int u :: rest))) : W p l e R s m args below meth c H locs cells slots Q (F0 m pc ls (.int x1 :: .ref o0 :: rest)) :=
  w_callV (n := 1) (ov := (some (.int u))) (As := [.int x1]) (Cs := [pX8 o0 w0, pX7 (w0 0) w1, pX4 cy (w1 1) q2 σ2]) (Cs' := [pX8 o0 w0, pX7 (w0 0) w1, pX4 cy (w1 1) q2 σ2]) S hw (c_X8_close l D cy o0 w0 w1 q2 x1 σ2 u hf) (MF.of S.2.2.2.2 wd533 wd70 (by decide)) (S.2.2.2.2.wd wd531 rfl) (S.2.2.2.2.wd wd532 rfl) hl hR js hC hnd hlen rfl rfl rfl rfl hsize rfl hrest hdg hcs kk
end
abbrev rmX8_least : Room := { frames := 2, cells := 0, slots := 0, locals := 50 }
def f_X8_least (x1 : Int32) (x2 : Int32) (σ2 : pStt) : Option (Int32) := (f_X8_isClaim x1).bind (fun u_1 => if u_1 = 0 then some ((-2)) else (f_X8_isWithin x2 0 1).bind (fun u_3 => if u_3 = 0 then some ((-2)) else (f_X4_leastGrounds x1 σ2).bind (fun u_5 => if u_5 = (-6) then some ((-6)) else (if x2 = 0 then (f_J6_bitCount_0f7a4 u_5).bind (fun u_9 => some u_9) else some u_5 : Option Int32).bind (fun v_7 => some v_7))))
set_option maxHeartbeats 4000000 in
set_option maxRecDepth 100000 in
theorem c_X8_least (l : Launch) (D : va_G) (cy : Nat → ClassId) (o0 : Nat) (w0 : Nat → Nat) (w1 : Nat → Nat) (q2 : Nat → Nat) (x1 : Int32) (x2 : Int32) (σ2 : pStt) (u : Int32) (hf : f_X8_least x1 x2 σ2 = some u) : CT l yX8_least cX8_least 4 (some .int) rmX8_least D cy [.ref o0, .int x1, .int x2] [pX8 o0 w0, pX7 (w0 0) w1, pX4 cy (w1 1) q2 σ2] (some (.int u)) [pX8 o0 w0, pX7 (w0 0) w1, pX4 cy (w1 1) q2 σ2] := by
  refine CT.of (by decide) (Nat.le_of_ble_eq_true rfl) (fun p e s m args below meth c ls A Q hA hQ S hr hlk hl hw => ?_)
  have hl : lv_has ls 4 [(0, .ref o0), (1, .int x1), (2, .int x2)] := hl
  rw [f_X8_least] at hf
  refine lv_iload_n S.1 S.2.1 dX8_least_0 rfl (lv_at hl 1 rfl) ?_
  obtain ⟨u_1, e_u_1, hf⟩ := ob hf
  refine k_X8_isClaim S (S.2.2.2.2.wd wd519 rfl) hw e_u_1 [] rfl (by decide) rfl ⟨rfl, rfl, Nat.le_of_ble_eq_true rfl, Nat.le_of_ble_eq_true rfl⟩ hl.1 (Nat.le_of_ble_eq_true rfl) dX8_least_1 ⟨Nat.zero_le _, Nat.zero_le _⟩ (fun H locs hw => ?_)
  have hw : PW D A s.heap [pX8 o0 w0, pX7 (w0 0) w1, pX4 cy (w1 1) q2 σ2] H locs := hw
  refine lv_if_eq (tgt := 16) S.1 S.2.1 dX8_least_4 (by decide) (fun c_2 => ?_) (fun c_2 => ?_)
  · replace hf := (if_pos c_2).symm.trans hf
    refine lv_bipush (v := (-2)) S.1 S.2.1 dX8_least_16 (by decide) ?_
    cases hf
    exact w_iret S hr hlk hA hQ hw dX8_least_18
  · replace hf := (if_neg c_2).symm.trans hf
    refine lv_iload_n S.1 S.2.1 dX8_least_7 rfl (lv_at hl 2 rfl) ?_
    refine lv_iconst (v := 0) S.1 S.2.1 dX8_least_8 (by decide) ?_
    refine lv_iconst (v := 1) S.1 S.2.1 dX8_least_9 (by decide) ?_
    obtain ⟨u_3, e_u_3, hf⟩ := ob hf
    refine k_X8_isWithin S (S.2.2.2.2.wd wd287 rfl) hw e_u_3 [] rfl (by decide) rfl ⟨rfl, rfl, Nat.le_of_ble_eq_true rfl, Nat.le_of_ble_eq_true rfl⟩ hl.1 (Nat.le_of_ble_eq_true rfl) dX8_least_10 ⟨Nat.zero_le _, Nat.zero_le _⟩ (fun H locs hw => ?_)
    have hw : PW D A s.heap [pX8 o0 w0, pX7 (w0 0) w1, pX4 cy (w1 1) q2 σ2] H locs := hw
    refine lv_if_ne (tgt := 19) S.1 S.2.1 dX8_least_13 (by decide) (fun c_4 => ?_) (fun c_4 => ?_)
    · replace hf := (if_neg c_4).symm.trans hf
      refine lv_aload_n S.1 S.2.1 dX8_least_19 rfl (lv_at hl 0 rfl) ?_
      refine gf_X8_12 S hw 0 rfl dX8_least_20 ?_
      refine gf_X8_165 S hw 1 rfl dX8_least_23 ?_
      refine lv_iload_n S.1 S.2.1 dX8_least_26 rfl (lv_at hl 1 rfl) ?_
      obtain ⟨u_5, e_u_5, hf⟩ := ob hf
      refine k_X4_leastGrounds S (S.2.2.2.2.wd wd542 rfl) hw e_u_5 [2] rfl (by decide) rfl ⟨rfl, rfl, Nat.le_of_ble_eq_true rfl, Nat.le_of_ble_eq_true rfl⟩ hl.1 (Nat.le_of_ble_eq_true rfl) dX8_least_27 ⟨Nat.zero_le _, Nat.zero_le _⟩ (fun H locs hw => ?_)
      have hw : PW D A s.heap [pX8 o0 w0, pX7 (w0 0) w1, pX4 cy (w1 1) q2 σ2] H locs := hw
      refine lv_istore_n (lv' := [(3, .int u_5), (0, .ref o0), (1, .int x1), (2, .int x2)]) S.1 S.2.1 dX8_least_30 rfl hl (by decide) rfl (fun ls hl => ?_)
      refine lv_iload_n S.1 S.2.1 dX8_least_31 rfl (lv_at hl 0 rfl) ?_
      refine lv_bipush (v := (-6)) S.1 S.2.1 dX8_least_32 (by decide) ?_
      refine lv_icmp_ne (tgt := 40) S.1 S.2.1 dX8_least_34 (by decide) (fun c_6 => ?_) (fun c_6 => ?_)
      · replace hf := (if_neg c_6).symm.trans hf
        refine lv_iload_n S.1 S.2.1 dX8_least_40 rfl (lv_at hl 3 rfl) ?_
        obtain ⟨v_7, e_v_7, hf⟩ := ob hf
        have hJ_v_7 : ∀ (H : Heap) (locs : List Loc), PW D A s.heap [pX8 o0 w0, pX7 (w0 0) w1, pX4 cy (w1 1) q2 σ2] H locs → W p l e rmX8_least s m args below meth c H locs 0 0 Q (F0 m 52 ls [.int v_7]) := by
          intro H locs hw
          cases hf
          exact w_iret S hr hlk hA hQ hw dX8_least_52
        replace hf := e_v_7
        clear e_v_7
        refine lv_if_ne (tgt := 51) S.1 S.2.1 dX8_least_41 (by decide) (fun c_8 => ?_) (fun c_8 => ?_)
        · replace hf := (if_neg c_8).symm.trans hf
          refine lv_iload_n S.1 S.2.1 dX8_least_51 rfl (lv_at hl 0 rfl) ?_
          cases hf
          exact hJ_v_7 _ _ hw
        · replace hf := (if_pos c_8).symm.trans hf
          refine lv_iload_n S.1 S.2.1 dX8_least_44 rfl (lv_at hl 0 rfl) ?_
          obtain ⟨u_9, e_u_9, hf⟩ := ob hf
          refine k_J6_bitCount_0f7a4 S (S.2.2.2.2.wd wd549 rfl) hw e_u_9 [] rfl (by decide) rfl ⟨rfl, rfl, Nat.le_of_ble_eq_true rfl, Nat.le_of_ble_eq_true rfl⟩ hl.1 (Nat.le_of_ble_eq_true rfl) dX8_least_45 ⟨Nat.zero_le _, Nat.zero_le _⟩ (fun H locs hw => ?_)
          have hw : PW D A s.heap [pX8 o0 w0, pX7 (w0 0) w1, pX4 cy (w1 1) q2 σ2] H locs := hw
          refine lv_goto (tgt := 52) S.1 S.2.1 dX8_least_48 (by decide) ?_
          cases hf
          exact hJ_v_7 _ _ hw
      · replace hf := (if_pos c_6).symm.trans hf
        refine lv_bipush (v := (-6)) S.1 S.2.1 dX8_least_37 (by decide) ?_
        cases hf
        exact w_iret S hr hlk hA hQ hw dX8_least_39
    · replace hf := (if_pos c_4).symm.trans hf
      refine lv_bipush (v := (-2)) S.1 S.2.1 dX8_least_16 (by decide) ?_
      cases hf
      exact w_iret S hr hlk hA hQ hw dX8_least_18
section
variable {p : Program} {l : Launch} {e : Env} {R : Room} {s : State} {m : MethodId} {args : Array Value} {below : List Frame} {meth : Method} {c : Code} {H : Heap} {locs : List Loc} {cells slots : Nat} {Q : State → Prop} {cc : ByteArray} {pc nL : Nat} {ls : Array Slot} {rest : List Value} {D : va_G} {cy : Nat → ClassId} {A : Nat → Prop} {H0 : Heap} {own : String} {Ps : List va_W}
set_option maxRecDepth 100000 in
theorem k_X8_least {o0 : Nat} {w0 : Nat → Nat} {w1 : Nat → Nat} {q2 : Nat → Nat} {x1 : Int32} {x2 : Int32} {σ2 : pStt} {u : Int32} {index : Nat} (S : CX p m c cc nL s args own D cy) (hl : (Cond.methodLink own index yX8_least).before args s = true) (hw : PW D A H0 Ps H locs) (hf : f_X8_least x1 x2 σ2 = some u) (js : List Nat) (hC : js.map (fun j => Ps[j]?) = [some (pX8 o0 w0), some (pX7 (w0 0) w1), some (pX4 cy (w1 1) q2 σ2)]) (hnd : js.Nodup) (hlen : js.length = 3) (hR : RMok rmX8_least R 4) (hsize : ls.size = nL) (hrest : (rest.map fun v => v.category).sum ≤ 8) (hdg : decode cc pc = .ok (.invokevirtual index, 3)) (hcs : cells ≤ R.cells ∧ slots ≤ R.slots)
    (kk : ∀ (H1 : Heap) (locs1 : List Loc), PW D A H0 (setAll Ps js [pX8 o0 w0, pX7 (w0 0) w1, pX4 cy (w1 1) q2 σ2]) H1 locs1 → W p l e R s m args below meth c H1 locs1 cells slots Q (F0 m (pc + 3) ls (.int u :: rest))) : W p l e R s m args below meth c H locs cells slots Q (F0 m pc ls (.int x2 :: .int x1 :: .ref o0 :: rest)) :=
  w_callV (n := 2) (ov := (some (.int u))) (As := [.int x1, .int x2]) (Cs := [pX8 o0 w0, pX7 (w0 0) w1, pX4 cy (w1 1) q2 σ2]) (Cs' := [pX8 o0 w0, pX7 (w0 0) w1, pX4 cy (w1 1) q2 σ2]) S hw (c_X8_least l D cy o0 w0 w1 q2 x1 x2 σ2 u hf) (MF.of S.2.2.2.2 wd541 wd70 (by decide)) (S.2.2.2.2.wd wd539 rfl) (S.2.2.2.2.wd wd540 rfl) hl hR js hC hnd hlen rfl rfl rfl rfl hsize rfl hrest hdg hcs kk
end
abbrev rmX8_swore : Room := { frames := 3, cells := 0, slots := 0, locals := 67 }
def f_X8_swore (x1 : Int32) (x2 : Int32) (x3 : Int32) (x4 : Int32) (σ2 : pStt) : Option (Int32 × pStt) := (f_X8_isQuestion x1 x2 x3).bind (fun u_1 => if u_1 = 0 then some ((-2), σ2) else (f_X8_setsOfYes x1 x2 x3).bind (fun u_3 => (if x4 = 0 then some ((u_3 ^^^ (-1 : Int32))) else some u_3 : Option Int32).bind (fun v_4 => (f_X5_add v_4 σ2).bind (fun u_5 => (if u_5.1 = 0 then some ((-4)) else some ((u_5.2.1 0)) : Option Int32).bind (fun v_6 => some (v_6, u_5.2))))))
set_option maxHeartbeats 4000000 in
set_option maxRecDepth 100000 in
theorem c_X8_swore (l : Launch) (D : va_G) (cy : Nat → ClassId) (o0 : Nat) (w0 : Nat → Nat) (w1 : Nat → Nat) (q2 : Nat → Nat) (x1 : Int32) (x2 : Int32) (x3 : Int32) (x4 : Int32) (σ2 : pStt) (u : Int32 × pStt) (hf : f_X8_swore x1 x2 x3 x4 σ2 = some u) : CT l yX8_swore cX8_swore 6 (some .int) rmX8_swore D cy [.ref o0, .int x1, .int x2, .int x3, .int x4] [pX8 o0 w0, pX7 (w0 0) w1, pX5 cy (w1 2) q2 σ2] (some (.int u.1)) [pX8 o0 w0, pX7 (w0 0) w1, pX5 cy (w1 2) q2 u.2] := by
  refine CT.of (by decide) (Nat.le_of_ble_eq_true rfl) (fun p e s m args below meth c ls A Q hA hQ S hr hlk hl hw => ?_)
  have hl : lv_has ls 6 [(0, .ref o0), (1, .int x1), (2, .int x2), (3, .int x3), (4, .int x4)] := hl
  rw [f_X8_swore] at hf
  refine lv_iload_n S.1 S.2.1 dX8_swore_0 rfl (lv_at hl 1 rfl) ?_
  refine lv_iload_n S.1 S.2.1 dX8_swore_1 rfl (lv_at hl 2 rfl) ?_
  refine lv_iload_n S.1 S.2.1 dX8_swore_2 rfl (lv_at hl 3 rfl) ?_
  obtain ⟨u_1, e_u_1, hf⟩ := ob hf
  refine k_X8_isQuestion S (S.2.2.2.2.wd wd554 rfl) hw e_u_1 [] rfl (by decide) rfl ⟨rfl, rfl, Nat.le_of_ble_eq_true rfl, Nat.le_of_ble_eq_true rfl⟩ hl.1 (Nat.le_of_ble_eq_true rfl) dX8_swore_3 ⟨Nat.zero_le _, Nat.zero_le _⟩ (fun H locs hw => ?_)
  have hw : PW D A s.heap [pX8 o0 w0, pX7 (w0 0) w1, pX5 cy (w1 2) q2 σ2] H locs := hw
  refine lv_if_ne (tgt := 12) S.1 S.2.1 dX8_swore_6 (by decide) (fun c_2 => ?_) (fun c_2 => ?_)
  · replace hf := (if_neg c_2).symm.trans hf
    refine lv_iload_n S.1 S.2.1 dX8_swore_12 rfl (lv_at hl 1 rfl) ?_
    refine lv_iload_n S.1 S.2.1 dX8_swore_13 rfl (lv_at hl 2 rfl) ?_
    refine lv_iload_n S.1 S.2.1 dX8_swore_14 rfl (lv_at hl 3 rfl) ?_
    obtain ⟨u_3, e_u_3, hf⟩ := ob hf
    refine k_X8_setsOfYes S (S.2.2.2.2.wd wd557 rfl) hw e_u_3 [] rfl (by decide) rfl ⟨rfl, rfl, Nat.le_of_ble_eq_true rfl, Nat.le_of_ble_eq_true rfl⟩ hl.1 (Nat.le_of_ble_eq_true rfl) dX8_swore_15 ⟨Nat.zero_le _, Nat.zero_le _⟩ (fun H locs hw => ?_)
    have hw : PW D A s.heap [pX8 o0 w0, pX7 (w0 0) w1, pX5 cy (w1 2) q2 σ2] H locs := hw
    refine lv_istore (lv' := [(5, .int u_3), (0, .ref o0), (1, .int x1), (2, .int x2), (3, .int x3), (4, .int x4)]) S.1 S.2.1 dX8_swore_18 hl (by decide) rfl (fun ls hl => ?_)
    refine lv_aload_n S.1 S.2.1 dX8_swore_20 rfl (lv_at hl 1 rfl) ?_
    refine gf_X8_12 S hw 0 rfl dX8_swore_21 ?_
    refine gf_X8_192 S hw 1 rfl dX8_swore_24 ?_
    refine lv_iload S.1 S.2.1 dX8_swore_27 (lv_at hl 5 rfl) ?_
    obtain ⟨v_4, e_v_4, hf⟩ := ob hf
    have hJ_v_4 : ∀ (H : Heap) (locs : List Loc), PW D A s.heap [pX8 o0 w0, pX7 (w0 0) w1, pX5 cy (w1 2) q2 σ2] H locs → W p l e rmX8_swore s m args below meth c H locs 0 0 Q (F0 m 41 ls [.int v_4, .ref ((w1 2))]) := by
      intro H locs hw
      obtain ⟨u_5, e_u_5, hf⟩ := ob hf
      refine k_X5_add S (S.2.2.2.2.wd wd563 rfl) hw e_u_5 [2] rfl (by decide) rfl ⟨rfl, rfl, Nat.le_of_ble_eq_true rfl, Nat.le_of_ble_eq_true rfl⟩ hl.1 (Nat.le_of_ble_eq_true rfl) dX8_swore_41 ⟨Nat.zero_le _, Nat.zero_le _⟩ (fun H locs hw => ?_)
      have hw : PW D A s.heap [pX8 o0 w0, pX7 (w0 0) w1, pX5 cy (w1 2) q2 u_5.2] H locs := hw
      obtain ⟨v_6, e_v_6, hf⟩ := ob hf
      have hJ_v_6 : ∀ (H : Heap) (locs : List Loc), PW D A s.heap [pX8 o0 w0, pX7 (w0 0) w1, pX5 cy (w1 2) q2 u_5.2] H locs → W p l e rmX8_swore s m args below meth c H locs 0 0 Q (F0 m 62 ls [.int v_6]) := by
        intro H locs hw
        cases hf
        exact w_iret S hr hlk hA hQ hw dX8_swore_62
      replace hf := e_v_6
      clear e_v_6
      refine lv_if_eq (tgt := 60) S.1 S.2.1 dX8_swore_44 (by decide) (fun c_7 => ?_) (fun c_7 => ?_)
      · replace hf := (if_pos c_7).symm.trans hf
        refine lv_bipush (v := (-4)) S.1 S.2.1 dX8_swore_60 (by decide) ?_
        cases hf
        exact hJ_v_6 _ _ hw
      · replace hf := (if_neg c_7).symm.trans hf
        refine lv_aload_n S.1 S.2.1 dX8_swore_47 rfl (lv_at hl 1 rfl) ?_
        refine gf_X8_12 S hw 0 rfl dX8_swore_48 ?_
        refine gf_X8_192 S hw 1 rfl dX8_swore_51 ?_
        refine gf_X8_199 S hw 2 rfl dX8_swore_54 ?_
        refine lv_goto (tgt := 62) S.1 S.2.1 dX8_swore_57 (by decide) ?_
        cases hf
        exact hJ_v_6 _ _ hw
    replace hf := e_v_4
    clear e_v_4
    refine lv_if_eq (tgt := 37) S.1 S.2.1 dX8_swore_29 (by decide) (fun c_8 => ?_) (fun c_8 => ?_)
    · replace hf := (if_pos c_8).symm.trans hf
      refine lv_iload S.1 S.2.1 dX8_swore_37 (lv_at hl 0 rfl) ?_
      refine lv_iconst (v := (-1)) S.1 S.2.1 dX8_swore_39 (by decide) ?_
      refine lv_ixor S.1 S.2.1 dX8_swore_40 ?_
      cases hf
      exact hJ_v_4 _ _ hw
    · replace hf := (if_neg c_8).symm.trans hf
      refine lv_iload S.1 S.2.1 dX8_swore_32 (lv_at hl 0 rfl) ?_
      refine lv_goto (tgt := 41) S.1 S.2.1 dX8_swore_34 (by decide) ?_
      cases hf
      exact hJ_v_4 _ _ hw
  · replace hf := (if_pos c_2).symm.trans hf
    refine lv_bipush (v := (-2)) S.1 S.2.1 dX8_swore_9 (by decide) ?_
    cases hf
    exact w_iret S hr hlk hA hQ hw dX8_swore_11
section
variable {p : Program} {l : Launch} {e : Env} {R : Room} {s : State} {m : MethodId} {args : Array Value} {below : List Frame} {meth : Method} {c : Code} {H : Heap} {locs : List Loc} {cells slots : Nat} {Q : State → Prop} {cc : ByteArray} {pc nL : Nat} {ls : Array Slot} {rest : List Value} {D : va_G} {cy : Nat → ClassId} {A : Nat → Prop} {H0 : Heap} {own : String} {Ps : List va_W}
set_option maxRecDepth 100000 in
theorem k_X8_swore {o0 : Nat} {w0 : Nat → Nat} {w1 : Nat → Nat} {q2 : Nat → Nat} {x1 : Int32} {x2 : Int32} {x3 : Int32} {x4 : Int32} {σ2 : pStt} {u : Int32 × pStt} {index : Nat} (S : CX p m c cc nL s args own D cy) (hl : (Cond.methodLink own index yX8_swore).before args s = true) (hw : PW D A H0 Ps H locs) (hf : f_X8_swore x1 x2 x3 x4 σ2 = some u) (js : List Nat) (hC : js.map (fun j => Ps[j]?) = [some (pX8 o0 w0), some (pX7 (w0 0) w1), some (pX5 cy (w1 2) q2 σ2)]) (hnd : js.Nodup) (hlen : js.length = 3) (hR : RMok rmX8_swore R 6) (hsize : ls.size = nL) (hrest : (rest.map fun v => v.category).sum ≤ 8) (hdg : decode cc pc = .ok (.invokevirtual index, 3)) (hcs : cells ≤ R.cells ∧ slots ≤ R.slots)
    (kk : ∀ (H1 : Heap) (locs1 : List Loc), PW D A H0 (setAll Ps js [pX8 o0 w0, pX7 (w0 0) w1, pX5 cy (w1 2) q2 u.2]) H1 locs1 → W p l e R s m args below meth c H1 locs1 cells slots Q (F0 m (pc + 3) ls (.int u.1 :: rest))) : W p l e R s m args below meth c H locs cells slots Q (F0 m pc ls (.int x4 :: .int x3 :: .int x2 :: .int x1 :: .ref o0 :: rest)) :=
  w_callV (n := 4) (ov := (some (.int u.1))) (As := [.int x1, .int x2, .int x3, .int x4]) (Cs := [pX8 o0 w0, pX7 (w0 0) w1, pX5 cy (w1 2) q2 σ2]) (Cs' := [pX8 o0 w0, pX7 (w0 0) w1, pX5 cy (w1 2) q2 u.2]) S hw (c_X8_swore l D cy o0 w0 w1 q2 x1 x2 x3 x4 σ2 u hf) (MF.of S.2.2.2.2 wd553 wd70 (by decide)) (S.2.2.2.2.wd wd551 rfl) (S.2.2.2.2.wd wd552 rfl) hl hR js hC hnd hlen rfl rfl rfl rfl hsize rfl hrest hdg hcs kk
end
abbrev rmX8_forget : Room := { frames := 0, cells := 0, slots := 0, locals := 0 }
def f_X8_forget (σ2 : pStt) : Option (Int32 × pStt) := (some (sI σ2 0 0)).bind (fun σ_1 => some ((σ2.1 0), σ_1))
set_option maxHeartbeats 4000000 in
set_option maxRecDepth 100000 in
theorem c_X8_forget (l : Launch) (D : va_G) (cy : Nat → ClassId) (o0 : Nat) (w0 : Nat → Nat) (w1 : Nat → Nat) (q2 : Nat → Nat) (σ2 : pStt) (u : Int32 × pStt) (hf : f_X8_forget σ2 = some u) : CT l yX8_forget cX8_forget 2 (some .int) rmX8_forget D cy [.ref o0] [pX8 o0 w0, pX7 (w0 0) w1, pX5 cy (w1 2) q2 σ2] (some (.int u.1)) [pX8 o0 w0, pX7 (w0 0) w1, pX5 cy (w1 2) q2 u.2] := by
  refine CT.of (by decide) (Nat.le_of_ble_eq_true rfl) (fun p e s m args below meth c ls A Q hA hQ S hr hlk hl hw => ?_)
  have hl : lv_has ls 2 [(0, .ref o0)] := hl
  rw [f_X8_forget] at hf
  refine lv_aload_n S.1 S.2.1 dX8_forget_0 rfl (lv_at hl 0 rfl) ?_
  refine gf_X8_12 S hw 0 rfl dX8_forget_1 ?_
  refine gf_X8_192 S hw 1 rfl dX8_forget_4 ?_
  refine gf_X8_199 S hw 2 rfl dX8_forget_7 ?_
  refine lv_istore_n (lv' := [(1, .int ((σ2.1 0))), (0, .ref o0)]) S.1 S.2.1 dX8_forget_10 rfl hl (by decide) rfl (fun ls hl => ?_)
  refine lv_aload_n S.1 S.2.1 dX8_forget_11 rfl (lv_at hl 1 rfl) ?_
  refine gf_X8_12 S hw 0 rfl dX8_forget_12 ?_
  refine gf_X8_192 S hw 1 rfl dX8_forget_15 ?_
  refine lv_iconst (v := 0) S.1 S.2.1 dX8_forget_18 (by decide) ?_
  obtain ⟨σ_1, e_σ_1, hf⟩ := ob hf
  refine pf_X8_199 S hw 2 rfl e_σ_1 dX8_forget_19 (fun H locs hw => ?_)
  have hw : PW D A s.heap [pX8 o0 w0, pX7 (w0 0) w1, pX5 cy (w1 2) q2 σ_1] H locs := hw
  refine lv_iload_n S.1 S.2.1 dX8_forget_22 rfl (lv_at hl 0 rfl) ?_
  cases hf
  exact w_iret S hr hlk hA hQ hw dX8_forget_23
section
variable {p : Program} {l : Launch} {e : Env} {R : Room} {s : State} {m : MethodId} {args : Array Value} {below : List Frame} {meth : Method} {c : Code} {H : Heap} {locs : List Loc} {cells slots : Nat} {Q : State → Prop} {cc : ByteArray} {pc nL : Nat} {ls : Array Slot} {rest : List Value} {D : va_G} {cy : Nat → ClassId} {A : Nat → Prop} {H0 : Heap} {own : String} {Ps : List va_W}
set_option maxRecDepth 100000 in
theorem k_X8_forget {o0 : Nat} {w0 : Nat → Nat} {w1 : Nat → Nat} {q2 : Nat → Nat}  {σ2 : pStt} {u : Int32 × pStt} {index : Nat} (S : CX p m c cc nL s args own D cy) (hl : (Cond.methodLink own index yX8_forget).before args s = true) (hw : PW D A H0 Ps H locs) (hf : f_X8_forget σ2 = some u) (js : List Nat) (hC : js.map (fun j => Ps[j]?) = [some (pX8 o0 w0), some (pX7 (w0 0) w1), some (pX5 cy (w1 2) q2 σ2)]) (hnd : js.Nodup) (hlen : js.length = 3) (hR : RMok rmX8_forget R 2) (hsize : ls.size = nL) (hrest : (rest.map fun v => v.category).sum ≤ 8) (hdg : decode cc pc = .ok (.invokevirtual index, 3)) (hcs : cells ≤ R.cells ∧ slots ≤ R.slots)
    (kk : ∀ (H1 : Heap) (locs1 : List Loc), PW D A H0 (setAll Ps js [pX8 o0 w0, pX7 (w0 0) w1, pX5 cy (w1 2) q2 u.2]) H1 locs1 → W p l e R s m args below meth c H1 locs1 cells slots Q (F0 m (pc + 3) ls (.int u.1 :: rest))) : W p l e R s m args below meth c H locs cells slots Q (F0 m pc ls (.ref o0 :: rest)) :=
  w_callV (n := 0) (ov := (some (.int u.1))) (As := []) (Cs := [pX8 o0 w0, pX7 (w0 0) w1, pX5 cy (w1 2) q2 σ2]) (Cs' := [pX8 o0 w0, pX7 (w0 0) w1, pX5 cy (w1 2) q2 u.2]) S hw (c_X8_forget l D cy o0 w0 w1 q2 σ2 u hf) (MF.of S.2.2.2.2 wd570 wd70 (by decide)) (S.2.2.2.2.wd wd568 rfl) (S.2.2.2.2.wd wd569 rfl) hl hR js hC hnd hlen rfl rfl rfl rfl hsize rfl hrest hdg hcs kk
end
abbrev rmX8_liars : Room := { frames := 2, cells := 0, slots := 0, locals := 44 }
def f_X8_liars (x1 : Int32) (σ2 : pStt) : Option (Int32) := (f_X5_fitting σ2).bind (fun u_1 => (if x1 = (-1) then (f_J6_bitCount_0f7a4 u_1).bind (fun u_5 => some u_5) else (f_X8_placeOfBit u_1 x1).bind (fun u_4 => some u_4) : Option Int32).bind (fun v_2 => some v_2))
set_option maxHeartbeats 4000000 in
set_option maxRecDepth 100000 in
theorem c_X8_liars (l : Launch) (D : va_G) (cy : Nat → ClassId) (o0 : Nat) (w0 : Nat → Nat) (w1 : Nat → Nat) (q2 : Nat → Nat) (x1 : Int32) (σ2 : pStt) (u : Int32) (hf : f_X8_liars x1 σ2 = some u) : CT l yX8_liars cX8_liars 3 (some .int) rmX8_liars D cy [.ref o0, .int x1] [pX8 o0 w0, pX7 (w0 0) w1, pX5 cy (w1 2) q2 σ2] (some (.int u)) [pX8 o0 w0, pX7 (w0 0) w1, pX5 cy (w1 2) q2 σ2] := by
  refine CT.of (by decide) (Nat.le_of_ble_eq_true rfl) (fun p e s m args below meth c ls A Q hA hQ S hr hlk hl hw => ?_)
  have hl : lv_has ls 3 [(0, .ref o0), (1, .int x1)] := hl
  rw [f_X8_liars] at hf
  refine lv_aload_n S.1 S.2.1 dX8_liars_0 rfl (lv_at hl 0 rfl) ?_
  refine gf_X8_12 S hw 0 rfl dX8_liars_1 ?_
  refine gf_X8_192 S hw 1 rfl dX8_liars_4 ?_
  obtain ⟨u_1, e_u_1, hf⟩ := ob hf
  refine k_X5_fitting S (S.2.2.2.2.wd wd575 rfl) hw e_u_1 [2] rfl (by decide) rfl ⟨rfl, rfl, Nat.le_of_ble_eq_true rfl, Nat.le_of_ble_eq_true rfl⟩ hl.1 (Nat.le_of_ble_eq_true rfl) dX8_liars_7 ⟨Nat.zero_le _, Nat.zero_le _⟩ (fun H locs hw => ?_)
  have hw : PW D A s.heap [pX8 o0 w0, pX7 (w0 0) w1, pX5 cy (w1 2) q2 σ2] H locs := hw
  refine lv_istore_n (lv' := [(2, .int u_1), (0, .ref o0), (1, .int x1)]) S.1 S.2.1 dX8_liars_10 rfl hl (by decide) rfl (fun ls hl => ?_)
  refine lv_iload_n S.1 S.2.1 dX8_liars_11 rfl (lv_at hl 2 rfl) ?_
  refine lv_iconst (v := (-1)) S.1 S.2.1 dX8_liars_12 (by decide) ?_
  obtain ⟨v_2, e_v_2, hf⟩ := ob hf
  have hJ_v_2 : ∀ (H : Heap) (locs : List Loc), PW D A s.heap [pX8 o0 w0, pX7 (w0 0) w1, pX5 cy (w1 2) q2 σ2] H locs → W p l e rmX8_liars s m args below meth c H locs 0 0 Q (F0 m 28 ls [.int v_2]) := by
    intro H locs hw
    cases hf
    exact w_iret S hr hlk hA hQ hw dX8_liars_28
  replace hf := e_v_2
  clear e_v_2
  refine lv_icmp_ne (tgt := 23) S.1 S.2.1 dX8_liars_13 (by decide) (fun c_3 => ?_) (fun c_3 => ?_)
  · replace hf := (if_neg c_3).symm.trans hf
    refine lv_iload_n S.1 S.2.1 dX8_liars_23 rfl (lv_at hl 0 rfl) ?_
    refine lv_iload_n S.1 S.2.1 dX8_liars_24 rfl (lv_at hl 2 rfl) ?_
    obtain ⟨u_4, e_u_4, hf⟩ := ob hf
    refine k_X8_placeOfBit S (S.2.2.2.2.wd wd579 rfl) hw e_u_4 [] rfl (by decide) rfl ⟨rfl, rfl, Nat.le_of_ble_eq_true rfl, Nat.le_of_ble_eq_true rfl⟩ hl.1 (Nat.le_of_ble_eq_true rfl) dX8_liars_25 ⟨Nat.zero_le _, Nat.zero_le _⟩ (fun H locs hw => ?_)
    have hw : PW D A s.heap [pX8 o0 w0, pX7 (w0 0) w1, pX5 cy (w1 2) q2 σ2] H locs := hw
    cases hf
    exact hJ_v_2 _ _ hw
  · replace hf := (if_pos c_3).symm.trans hf
    refine lv_iload_n S.1 S.2.1 dX8_liars_16 rfl (lv_at hl 0 rfl) ?_
    obtain ⟨u_5, e_u_5, hf⟩ := ob hf
    refine k_J6_bitCount_0f7a4 S (S.2.2.2.2.wd wd549 rfl) hw e_u_5 [] rfl (by decide) rfl ⟨rfl, rfl, Nat.le_of_ble_eq_true rfl, Nat.le_of_ble_eq_true rfl⟩ hl.1 (Nat.le_of_ble_eq_true rfl) dX8_liars_17 ⟨Nat.zero_le _, Nat.zero_le _⟩ (fun H locs hw => ?_)
    have hw : PW D A s.heap [pX8 o0 w0, pX7 (w0 0) w1, pX5 cy (w1 2) q2 σ2] H locs := hw
    refine lv_goto (tgt := 28) S.1 S.2.1 dX8_liars_20 (by decide) ?_
    cases hf
    exact hJ_v_2 _ _ hw
section
variable {p : Program} {l : Launch} {e : Env} {R : Room} {s : State} {m : MethodId} {args : Array Value} {below : List Frame} {meth : Method} {c : Code} {H : Heap} {locs : List Loc} {cells slots : Nat} {Q : State → Prop} {cc : ByteArray} {pc nL : Nat} {ls : Array Slot} {rest : List Value} {D : va_G} {cy : Nat → ClassId} {A : Nat → Prop} {H0 : Heap} {own : String} {Ps : List va_W}
set_option maxRecDepth 100000 in
theorem k_X8_liars {o0 : Nat} {w0 : Nat → Nat} {w1 : Nat → Nat} {q2 : Nat → Nat} {x1 : Int32} {σ2 : pStt} {u : Int32} {index : Nat} (S : CX p m c cc nL s args own D cy) (hl : (Cond.methodLink own index yX8_liars).before args s = true) (hw : PW D A H0 Ps H locs) (hf : f_X8_liars x1 σ2 = some u) (js : List Nat) (hC : js.map (fun j => Ps[j]?) = [some (pX8 o0 w0), some (pX7 (w0 0) w1), some (pX5 cy (w1 2) q2 σ2)]) (hnd : js.Nodup) (hlen : js.length = 3) (hR : RMok rmX8_liars R 3) (hsize : ls.size = nL) (hrest : (rest.map fun v => v.category).sum ≤ 8) (hdg : decode cc pc = .ok (.invokevirtual index, 3)) (hcs : cells ≤ R.cells ∧ slots ≤ R.slots)
    (kk : ∀ (H1 : Heap) (locs1 : List Loc), PW D A H0 (setAll Ps js [pX8 o0 w0, pX7 (w0 0) w1, pX5 cy (w1 2) q2 σ2]) H1 locs1 → W p l e R s m args below meth c H1 locs1 cells slots Q (F0 m (pc + 3) ls (.int u :: rest))) : W p l e R s m args below meth c H locs cells slots Q (F0 m pc ls (.int x1 :: .ref o0 :: rest)) :=
  w_callV (n := 1) (ov := (some (.int u))) (As := [.int x1]) (Cs := [pX8 o0 w0, pX7 (w0 0) w1, pX5 cy (w1 2) q2 σ2]) (Cs' := [pX8 o0 w0, pX7 (w0 0) w1, pX5 cy (w1 2) q2 σ2]) S hw (c_X8_liars l D cy o0 w0 w1 q2 x1 σ2 u hf) (MF.of S.2.2.2.2 wd574 wd70 (by decide)) (S.2.2.2.2.wd wd572 rfl) (S.2.2.2.2.wd wd573 rfl) hl hR js hC hnd hlen rfl rfl rfl rfl hsize rfl hrest hdg hcs kk
end
abbrev rmX8_ask : Room := { frames := 5, cells := 0, slots := 0, locals := 113 }
def f_X8_ask (x1 : Int32) (σ2 : pStt) : Option (Int32) := (f_X8_isWithin x1 0 1).bind (fun u_1 => if u_1 = 0 then some ((-2)) else (f_X5_fitting σ2).bind (fun u_3 => if u_3 = 0 then some ((-6)) else (f_X8_bestQuestion u_3).bind (fun u_5 => (if x1 = 0 then some u_5 else (f_X8_mostLeft u_3 u_5).bind (fun u_8 => some u_8) : Option Int32).bind (fun v_6 => some v_6))))
set_option maxHeartbeats 4000000 in
set_option maxRecDepth 100000 in
theorem c_X8_ask (l : Launch) (D : va_G) (cy : Nat → ClassId) (o0 : Nat) (w0 : Nat → Nat) (w1 : Nat → Nat) (q2 : Nat → Nat) (x1 : Int32) (σ2 : pStt) (u : Int32) (hf : f_X8_ask x1 σ2 = some u) : CT l yX8_ask cX8_ask 4 (some .int) rmX8_ask D cy [.ref o0, .int x1] [pX8 o0 w0, pX7 (w0 0) w1, pX5 cy (w1 2) q2 σ2] (some (.int u)) [pX8 o0 w0, pX7 (w0 0) w1, pX5 cy (w1 2) q2 σ2] := by
  refine CT.of (by decide) (Nat.le_of_ble_eq_true rfl) (fun p e s m args below meth c ls A Q hA hQ S hr hlk hl hw => ?_)
  have hl : lv_has ls 4 [(0, .ref o0), (1, .int x1)] := hl
  rw [f_X8_ask] at hf
  refine lv_iload_n S.1 S.2.1 dX8_ask_0 rfl (lv_at hl 1 rfl) ?_
  refine lv_iconst (v := 0) S.1 S.2.1 dX8_ask_1 (by decide) ?_
  refine lv_iconst (v := 1) S.1 S.2.1 dX8_ask_2 (by decide) ?_
  obtain ⟨u_1, e_u_1, hf⟩ := ob hf
  refine k_X8_isWithin S (S.2.2.2.2.wd wd287 rfl) hw e_u_1 [] rfl (by decide) rfl ⟨rfl, rfl, Nat.le_of_ble_eq_true rfl, Nat.le_of_ble_eq_true rfl⟩ hl.1 (Nat.le_of_ble_eq_true rfl) dX8_ask_3 ⟨Nat.zero_le _, Nat.zero_le _⟩ (fun H locs hw => ?_)
  have hw : PW D A s.heap [pX8 o0 w0, pX7 (w0 0) w1, pX5 cy (w1 2) q2 σ2] H locs := hw
  refine lv_if_ne (tgt := 12) S.1 S.2.1 dX8_ask_6 (by decide) (fun c_2 => ?_) (fun c_2 => ?_)
  · replace hf := (if_neg c_2).symm.trans hf
    refine lv_aload_n S.1 S.2.1 dX8_ask_12 rfl (lv_at hl 0 rfl) ?_
    refine gf_X8_12 S hw 0 rfl dX8_ask_13 ?_
    refine gf_X8_192 S hw 1 rfl dX8_ask_16 ?_
    obtain ⟨u_3, e_u_3, hf⟩ := ob hf
    refine k_X5_fitting S (S.2.2.2.2.wd wd575 rfl) hw e_u_3 [2] rfl (by decide) rfl ⟨rfl, rfl, Nat.le_of_ble_eq_true rfl, Nat.le_of_ble_eq_true rfl⟩ hl.1 (Nat.le_of_ble_eq_true rfl) dX8_ask_19 ⟨Nat.zero_le _, Nat.zero_le _⟩ (fun H locs hw => ?_)
    have hw : PW D A s.heap [pX8 o0 w0, pX7 (w0 0) w1, pX5 cy (w1 2) q2 σ2] H locs := hw
    refine lv_istore_n (lv' := [(2, .int u_3), (0, .ref o0), (1, .int x1)]) S.1 S.2.1 dX8_ask_22 rfl hl (by decide) rfl (fun ls hl => ?_)
    refine lv_iload_n S.1 S.2.1 dX8_ask_23 rfl (lv_at hl 0 rfl) ?_
    refine lv_if_ne (tgt := 30) S.1 S.2.1 dX8_ask_24 (by decide) (fun c_4 => ?_) (fun c_4 => ?_)
    · replace hf := (if_neg c_4).symm.trans hf
      refine lv_iload_n S.1 S.2.1 dX8_ask_30 rfl (lv_at hl 0 rfl) ?_
      obtain ⟨u_5, e_u_5, hf⟩ := ob hf
      refine k_X8_bestQuestion S (S.2.2.2.2.wd wd584 rfl) hw e_u_5 [] rfl (by decide) rfl ⟨rfl, rfl, Nat.le_of_ble_eq_true rfl, Nat.le_of_ble_eq_true rfl⟩ hl.1 (Nat.le_of_ble_eq_true rfl) dX8_ask_31 ⟨Nat.zero_le _, Nat.zero_le _⟩ (fun H locs hw => ?_)
      have hw : PW D A s.heap [pX8 o0 w0, pX7 (w0 0) w1, pX5 cy (w1 2) q2 σ2] H locs := hw
      refine lv_istore_n (lv' := [(3, .int u_5), (2, .int u_3), (0, .ref o0), (1, .int x1)]) S.1 S.2.1 dX8_ask_34 rfl hl (by decide) rfl (fun ls hl => ?_)
      refine lv_iload_n S.1 S.2.1 dX8_ask_35 rfl (lv_at hl 3 rfl) ?_
      obtain ⟨v_6, e_v_6, hf⟩ := ob hf
      have hJ_v_6 : ∀ (H : Heap) (locs : List Loc), PW D A s.heap [pX8 o0 w0, pX7 (w0 0) w1, pX5 cy (w1 2) q2 σ2] H locs → W p l e rmX8_ask s m args below meth c H locs 0 0 Q (F0 m 48 ls [.int v_6]) := by
        intro H locs hw
        cases hf
        exact w_iret S hr hlk hA hQ hw dX8_ask_48
      replace hf := e_v_6
      clear e_v_6
      refine lv_if_ne (tgt := 43) S.1 S.2.1 dX8_ask_36 (by decide) (fun c_7 => ?_) (fun c_7 => ?_)
      · replace hf := (if_neg c_7).symm.trans hf
        refine lv_iload_n S.1 S.2.1 dX8_ask_43 rfl (lv_at hl 1 rfl) ?_
        refine lv_iload_n S.1 S.2.1 dX8_ask_44 rfl (lv_at hl 0 rfl) ?_
        obtain ⟨u_8, e_u_8, hf⟩ := ob hf
        refine k_X8_mostLeft S (S.2.2.2.2.wd wd587 rfl) hw e_u_8 [] rfl (by decide) rfl ⟨rfl, rfl, Nat.le_of_ble_eq_true rfl, Nat.le_of_ble_eq_true rfl⟩ hl.1 (Nat.le_of_ble_eq_true rfl) dX8_ask_45 ⟨Nat.zero_le _, Nat.zero_le _⟩ (fun H locs hw => ?_)
        have hw : PW D A s.heap [pX8 o0 w0, pX7 (w0 0) w1, pX5 cy (w1 2) q2 σ2] H locs := hw
        cases hf
        exact hJ_v_6 _ _ hw
      · replace hf := (if_pos c_7).symm.trans hf
        refine lv_iload_n S.1 S.2.1 dX8_ask_39 rfl (lv_at hl 0 rfl) ?_
        refine lv_goto (tgt := 48) S.1 S.2.1 dX8_ask_40 (by decide) ?_
        cases hf
        exact hJ_v_6 _ _ hw
    · replace hf := (if_pos c_4).symm.trans hf
      refine lv_bipush (v := (-6)) S.1 S.2.1 dX8_ask_27 (by decide) ?_
      cases hf
      exact w_iret S hr hlk hA hQ hw dX8_ask_29
  · replace hf := (if_pos c_2).symm.trans hf
    refine lv_bipush (v := (-2)) S.1 S.2.1 dX8_ask_9 (by decide) ?_
    cases hf
    exact w_iret S hr hlk hA hQ hw dX8_ask_11
section
variable {p : Program} {l : Launch} {e : Env} {R : Room} {s : State} {m : MethodId} {args : Array Value} {below : List Frame} {meth : Method} {c : Code} {H : Heap} {locs : List Loc} {cells slots : Nat} {Q : State → Prop} {cc : ByteArray} {pc nL : Nat} {ls : Array Slot} {rest : List Value} {D : va_G} {cy : Nat → ClassId} {A : Nat → Prop} {H0 : Heap} {own : String} {Ps : List va_W}
set_option maxRecDepth 100000 in
theorem k_X8_ask {o0 : Nat} {w0 : Nat → Nat} {w1 : Nat → Nat} {q2 : Nat → Nat} {x1 : Int32} {σ2 : pStt} {u : Int32} {index : Nat} (S : CX p m c cc nL s args own D cy) (hl : (Cond.methodLink own index yX8_ask).before args s = true) (hw : PW D A H0 Ps H locs) (hf : f_X8_ask x1 σ2 = some u) (js : List Nat) (hC : js.map (fun j => Ps[j]?) = [some (pX8 o0 w0), some (pX7 (w0 0) w1), some (pX5 cy (w1 2) q2 σ2)]) (hnd : js.Nodup) (hlen : js.length = 3) (hR : RMok rmX8_ask R 4) (hsize : ls.size = nL) (hrest : (rest.map fun v => v.category).sum ≤ 8) (hdg : decode cc pc = .ok (.invokevirtual index, 3)) (hcs : cells ≤ R.cells ∧ slots ≤ R.slots)
    (kk : ∀ (H1 : Heap) (locs1 : List Loc), PW D A H0 (setAll Ps js [pX8 o0 w0, pX7 (w0 0) w1, pX5 cy (w1 2) q2 σ2]) H1 locs1 → W p l e R s m args below meth c H1 locs1 cells slots Q (F0 m (pc + 3) ls (.int u :: rest))) : W p l e R s m args below meth c H locs cells slots Q (F0 m pc ls (.int x1 :: .ref o0 :: rest)) :=
  w_callV (n := 1) (ov := (some (.int u))) (As := [.int x1]) (Cs := [pX8 o0 w0, pX7 (w0 0) w1, pX5 cy (w1 2) q2 σ2]) (Cs' := [pX8 o0 w0, pX7 (w0 0) w1, pX5 cy (w1 2) q2 σ2]) S hw (c_X8_ask l D cy o0 w0 w1 q2 x1 σ2 u hf) (MF.of S.2.2.2.2 wd583 wd70 (by decide)) (S.2.2.2.2.wd wd581 rfl) (S.2.2.2.2.wd wd582 rfl) hl hR js hC hnd hlen rfl rfl rfl rfl hsize rfl hrest hdg hcs kk
end
abbrev rmX8_walk : Room := { frames := 4, cells := 0, slots := 0, locals := 93 }
def f_X8_walk (x1 : Int32) (x2 : Int32) (σ1 : pStt) (σ3 : pStt) : Option (Int32 × pStt) := (f_X8_isCorner x1).bind (fun u_1 => if u_1 = 0 then some ((-1), σ1) else (f_X8_isWithin x2 0 1).bind (fun u_3 => if u_3 = 0 then some ((-2), σ1) else (f_X2_firstStep x1 σ1 σ3).bind (fun u_5 => if x2 = 0 then (if u_5.1 = (-6) then some 0 else some 1 : Option Int32).bind (fun v_7 => some (v_7, u_5.2)) else some (u_5.1, u_5.2))))
set_option maxHeartbeats 4000000 in
set_option maxRecDepth 100000 in
theorem c_X8_walk (l : Launch) (D : va_G) (cy : Nat → ClassId) (o0 : Nat) (w0 : Nat → Nat) (q1 : Nat → Nat) (w2 : Nat → Nat) (q3 : Nat → Nat) (x1 : Int32) (x2 : Int32) (σ1 : pStt) (σ3 : pStt) (u : Int32 × pStt) (hf : f_X8_walk x1 x2 σ1 σ3 = some u) : CT l yX8_walk cX8_walk 4 (some .int) rmX8_walk D cy [.ref o0, .int x1, .int x2] [pX8 o0 w0, pX2 cy (w0 4) q1 σ1, pX7 (w0 0) w2, pX1 cy (w2 0) q3 σ3] (some (.int u.1)) [pX8 o0 w0, pX2 cy (w0 4) q1 u.2, pX7 (w0 0) w2, pX1 cy (w2 0) q3 σ3] := by
  refine CT.of (by decide) (Nat.le_of_ble_eq_true rfl) (fun p e s m args below meth c ls A Q hA hQ S hr hlk hl hw => ?_)
  have hl : lv_has ls 4 [(0, .ref o0), (1, .int x1), (2, .int x2)] := hl
  rw [f_X8_walk] at hf
  refine lv_iload_n S.1 S.2.1 dX8_walk_0 rfl (lv_at hl 1 rfl) ?_
  obtain ⟨u_1, e_u_1, hf⟩ := ob hf
  refine k_X8_isCorner S (S.2.2.2.2.wd wd284 rfl) hw e_u_1 [] rfl (by decide) rfl ⟨rfl, rfl, Nat.le_of_ble_eq_true rfl, Nat.le_of_ble_eq_true rfl⟩ hl.1 (Nat.le_of_ble_eq_true rfl) dX8_walk_1 ⟨Nat.zero_le _, Nat.zero_le _⟩ (fun H locs hw => ?_)
  have hw : PW D A s.heap [pX8 o0 w0, pX2 cy (w0 4) q1 σ1, pX7 (w0 0) w2, pX1 cy (w2 0) q3 σ3] H locs := hw
  refine lv_if_ne (tgt := 9) S.1 S.2.1 dX8_walk_4 (by decide) (fun c_2 => ?_) (fun c_2 => ?_)
  · replace hf := (if_neg c_2).symm.trans hf
    refine lv_iload_n S.1 S.2.1 dX8_walk_9 rfl (lv_at hl 2 rfl) ?_
    refine lv_iconst (v := 0) S.1 S.2.1 dX8_walk_10 (by decide) ?_
    refine lv_iconst (v := 1) S.1 S.2.1 dX8_walk_11 (by decide) ?_
    obtain ⟨u_3, e_u_3, hf⟩ := ob hf
    refine k_X8_isWithin S (S.2.2.2.2.wd wd287 rfl) hw e_u_3 [] rfl (by decide) rfl ⟨rfl, rfl, Nat.le_of_ble_eq_true rfl, Nat.le_of_ble_eq_true rfl⟩ hl.1 (Nat.le_of_ble_eq_true rfl) dX8_walk_12 ⟨Nat.zero_le _, Nat.zero_le _⟩ (fun H locs hw => ?_)
    have hw : PW D A s.heap [pX8 o0 w0, pX2 cy (w0 4) q1 σ1, pX7 (w0 0) w2, pX1 cy (w2 0) q3 σ3] H locs := hw
    refine lv_if_ne (tgt := 21) S.1 S.2.1 dX8_walk_15 (by decide) (fun c_4 => ?_) (fun c_4 => ?_)
    · replace hf := (if_neg c_4).symm.trans hf
      refine lv_aload_n S.1 S.2.1 dX8_walk_21 rfl (lv_at hl 0 rfl) ?_
      refine gf_X8_37 S hw 0 rfl dX8_walk_22 ?_
      refine lv_aload_n S.1 S.2.1 dX8_walk_25 rfl (lv_at hl 0 rfl) ?_
      refine gf_X8_12 S hw 0 rfl dX8_walk_26 ?_
      refine gf_X8_52 S hw 2 rfl dX8_walk_29 ?_
      refine gf_X8_212 S hw 3 rfl dX8_walk_32 ?_
      refine lv_iload_n S.1 S.2.1 dX8_walk_35 rfl (lv_at hl 1 rfl) ?_
      obtain ⟨u_5, e_u_5, hf⟩ := ob hf
      refine k_X2_firstStep S (S.2.2.2.2.wd wd597 rfl) hw e_u_5 [1, 3] rfl (by decide) rfl ⟨rfl, rfl, Nat.le_of_ble_eq_true rfl, Nat.le_of_ble_eq_true rfl⟩ hl.1 (Nat.le_of_ble_eq_true rfl) dX8_walk_36 ⟨Nat.zero_le _, Nat.zero_le _⟩ (fun H locs hw => ?_)
      have hw : PW D A s.heap [pX8 o0 w0, pX2 cy (w0 4) q1 u_5.2, pX7 (w0 0) w2, pX1 cy (w2 0) q3 σ3] H locs := hw
      refine lv_istore_n (lv' := [(3, .int u_5.1), (0, .ref o0), (1, .int x1), (2, .int x2)]) S.1 S.2.1 dX8_walk_39 rfl hl (by decide) rfl (fun ls hl => ?_)
      refine lv_iload_n S.1 S.2.1 dX8_walk_40 rfl (lv_at hl 3 rfl) ?_
      refine lv_if_ne (tgt := 56) S.1 S.2.1 dX8_walk_41 (by decide) (fun c_6 => ?_) (fun c_6 => ?_)
      · replace hf := (if_neg c_6).symm.trans hf
        refine lv_iload_n S.1 S.2.1 dX8_walk_56 rfl (lv_at hl 0 rfl) ?_
        cases hf
        exact w_iret S hr hlk hA hQ hw dX8_walk_57
      · replace hf := (if_pos c_6).symm.trans hf
        refine lv_iload_n S.1 S.2.1 dX8_walk_44 rfl (lv_at hl 0 rfl) ?_
        refine lv_bipush (v := (-6)) S.1 S.2.1 dX8_walk_45 (by decide) ?_
        obtain ⟨v_7, e_v_7, hf⟩ := ob hf
        have hJ_v_7 : ∀ (H : Heap) (locs : List Loc), PW D A s.heap [pX8 o0 w0, pX2 cy (w0 4) q1 u_5.2, pX7 (w0 0) w2, pX1 cy (w2 0) q3 σ3] H locs → W p l e rmX8_walk s m args below meth c H locs 0 0 Q (F0 m 55 ls [.int v_7]) := by
          intro H locs hw
          cases hf
          exact w_iret S hr hlk hA hQ hw dX8_walk_55
        replace hf := e_v_7
        clear e_v_7
        refine lv_icmp_ne (tgt := 54) S.1 S.2.1 dX8_walk_47 (by decide) (fun c_8 => ?_) (fun c_8 => ?_)
        · replace hf := (if_neg c_8).symm.trans hf
          refine lv_iconst (v := 1) S.1 S.2.1 dX8_walk_54 (by decide) ?_
          cases hf
          exact hJ_v_7 _ _ hw
        · replace hf := (if_pos c_8).symm.trans hf
          refine lv_iconst (v := 0) S.1 S.2.1 dX8_walk_50 (by decide) ?_
          refine lv_goto (tgt := 55) S.1 S.2.1 dX8_walk_51 (by decide) ?_
          cases hf
          exact hJ_v_7 _ _ hw
    · replace hf := (if_pos c_4).symm.trans hf
      refine lv_bipush (v := (-2)) S.1 S.2.1 dX8_walk_18 (by decide) ?_
      cases hf
      exact w_iret S hr hlk hA hQ hw dX8_walk_20
  · replace hf := (if_pos c_2).symm.trans hf
    refine lv_iconst (v := (-1)) S.1 S.2.1 dX8_walk_7 (by decide) ?_
    cases hf
    exact w_iret S hr hlk hA hQ hw dX8_walk_8
section
variable {p : Program} {l : Launch} {e : Env} {R : Room} {s : State} {m : MethodId} {args : Array Value} {below : List Frame} {meth : Method} {c : Code} {H : Heap} {locs : List Loc} {cells slots : Nat} {Q : State → Prop} {cc : ByteArray} {pc nL : Nat} {ls : Array Slot} {rest : List Value} {D : va_G} {cy : Nat → ClassId} {A : Nat → Prop} {H0 : Heap} {own : String} {Ps : List va_W}
set_option maxRecDepth 100000 in
theorem k_X8_walk {o0 : Nat} {w0 : Nat → Nat} {q1 : Nat → Nat} {w2 : Nat → Nat} {q3 : Nat → Nat} {x1 : Int32} {x2 : Int32} {σ1 : pStt} {σ3 : pStt} {u : Int32 × pStt} {index : Nat} (S : CX p m c cc nL s args own D cy) (hl : (Cond.methodLink own index yX8_walk).before args s = true) (hw : PW D A H0 Ps H locs) (hf : f_X8_walk x1 x2 σ1 σ3 = some u) (js : List Nat) (hC : js.map (fun j => Ps[j]?) = [some (pX8 o0 w0), some (pX2 cy (w0 4) q1 σ1), some (pX7 (w0 0) w2), some (pX1 cy (w2 0) q3 σ3)]) (hnd : js.Nodup) (hlen : js.length = 4) (hR : RMok rmX8_walk R 4) (hsize : ls.size = nL) (hrest : (rest.map fun v => v.category).sum ≤ 8) (hdg : decode cc pc = .ok (.invokevirtual index, 3)) (hcs : cells ≤ R.cells ∧ slots ≤ R.slots)
    (kk : ∀ (H1 : Heap) (locs1 : List Loc), PW D A H0 (setAll Ps js [pX8 o0 w0, pX2 cy (w0 4) q1 u.2, pX7 (w0 0) w2, pX1 cy (w2 0) q3 σ3]) H1 locs1 → W p l e R s m args below meth c H1 locs1 cells slots Q (F0 m (pc + 3) ls (.int u.1 :: rest))) : W p l e R s m args below meth c H locs cells slots Q (F0 m pc ls (.int x2 :: .int x1 :: .ref o0 :: rest)) :=
  w_callV (n := 2) (ov := (some (.int u.1))) (As := [.int x1, .int x2]) (Cs := [pX8 o0 w0, pX2 cy (w0 4) q1 σ1, pX7 (w0 0) w2, pX1 cy (w2 0) q3 σ3]) (Cs' := [pX8 o0 w0, pX2 cy (w0 4) q1 u.2, pX7 (w0 0) w2, pX1 cy (w2 0) q3 σ3]) S hw (c_X8_walk l D cy o0 w0 q1 w2 q3 x1 x2 σ1 σ3 u hf) (MF.of S.2.2.2.2 wd596 wd70 (by decide)) (S.2.2.2.2.wd wd594 rfl) (S.2.2.2.2.wd wd595 rfl) hl hR js hC hnd hlen rfl rfl rfl rfl hsize rfl hrest hdg hcs kk
end
abbrev rmX8_hang : Room := { frames := 3, cells := 0, slots := 0, locals := 76 }
def f_X8_hang (x1 : Int32) (x2 : Int32) (x3 : Int32) (x4 : Int32) (g1 : (Nat → Int64)) : Option (Int64 × (Nat → Int64)) := (f_X8_isWithin x1 1 5).bind (fun u_1 => (if u_1 = 0 then some 0 else (f_X8_isWithin x2 0 10).bind (fun u_12 => if u_12 = 0 then some 0 else (f_X8_isWithin x3 0 1).bind (fun u_14 => if u_14 = 0 then some 0 else (f_X8_isWithin x4 0 1).bind (fun u_16 => if u_16 = 0 then some 0 else some 1))) : Option Int32).bind (fun v_2 => if v_2 = 0 then some ((-1000000000000000002), g1) else if x3 = 0 then (f_X0_hangingTogether x1 x2 g1).bind (fun u_7 => (f_X8_pairs x1).bind (fun u_8 => (f_X8_power 10 u_8).bind (fun u_9 => (f_X8_partOf u_7.1 u_9 x4).bind (fun u_10 => some (u_10, u_7.2))))) else (f_X8_pairs x1).bind (fun u_5 => (f_X8_partOf (((u_5 : Int32).toInt64 * (x2 : Int32).toInt64)) 10 x4).bind (fun u_6 => some (u_6, g1)))))
set_option maxHeartbeats 4000000 in
set_option maxRecDepth 100000 in
theorem c_X8_hang (l : Launch) (D : va_G) (cy : Nat → ClassId) (o0 : Nat) (w0 : Nat → Nat) (q1 : Nat → Nat) (x1 : Int32) (x2 : Int32) (x3 : Int32) (x4 : Int32) (g1 : (Nat → Int64)) (u : Int64 × (Nat → Int64)) (hf : f_X8_hang x1 x2 x3 x4 g1 = some u) : CT l yX8_hang cX8_hang 6 (some .long) rmX8_hang D cy [.ref o0, .int x1, .int x2, .int x3, .int x4] [pX8 o0 w0, pX0 cy (w0 5) q1 g1] (some (.long u.1)) [pX8 o0 w0, pX0 cy (w0 5) q1 u.2] := by
  refine CT.of (by decide) (Nat.le_of_ble_eq_true rfl) (fun p e s m args below meth c ls A Q hA hQ S hr hlk hl hw => ?_)
  have hl : lv_has ls 6 [(0, .ref o0), (1, .int x1), (2, .int x2), (3, .int x3), (4, .int x4)] := hl
  rw [f_X8_hang] at hf
  refine lv_iload_n S.1 S.2.1 dX8_hang_0 rfl (lv_at hl 1 rfl) ?_
  refine lv_iconst (v := 1) S.1 S.2.1 dX8_hang_1 (by decide) ?_
  refine lv_iconst (v := 5) S.1 S.2.1 dX8_hang_2 (by decide) ?_
  obtain ⟨u_1, e_u_1, hf⟩ := ob hf
  refine k_X8_isWithin S (S.2.2.2.2.wd wd287 rfl) hw e_u_1 [] rfl (by decide) rfl ⟨rfl, rfl, Nat.le_of_ble_eq_true rfl, Nat.le_of_ble_eq_true rfl⟩ hl.1 (Nat.le_of_ble_eq_true rfl) dX8_hang_3 ⟨Nat.zero_le _, Nat.zero_le _⟩ (fun H locs hw => ?_)
  have hw : PW D A s.heap [pX8 o0 w0, pX0 cy (w0 5) q1 g1] H locs := hw
  obtain ⟨v_2, e_v_2, hf⟩ := ob hf
  have hJ_v_2 : ∀ (H : Heap) (locs : List Loc), PW D A s.heap [pX8 o0 w0, pX0 cy (w0 5) q1 g1] H locs → W p l e rmX8_hang s m args below meth c H locs 0 0 Q (F0 m 43 ls [.int v_2]) := by
    intro H locs hw
    refine lv_istore (lv' := [(5, .int v_2), (0, .ref o0), (1, .int x1), (2, .int x2), (3, .int x3), (4, .int x4)]) S.1 S.2.1 dX8_hang_43 hl (by decide) rfl (fun ls hl => ?_)
    refine lv_iload S.1 S.2.1 dX8_hang_45 (lv_at hl 0 rfl) ?_
    refine lv_if_ne (tgt := 54) S.1 S.2.1 dX8_hang_47 (by decide) (fun c_3 => ?_) (fun c_3 => ?_)
    · replace hf := (if_neg c_3).symm.trans hf
      refine lv_iload_n S.1 S.2.1 dX8_hang_54 rfl (lv_at hl 4 rfl) ?_
      refine lv_if_ne (tgt := 83) S.1 S.2.1 dX8_hang_55 (by decide) (fun c_4 => ?_) (fun c_4 => ?_)
      · replace hf := (if_neg c_4).symm.trans hf
        refine lv_iload_n S.1 S.2.1 dX8_hang_83 rfl (lv_at hl 2 rfl) ?_
        obtain ⟨u_5, e_u_5, hf⟩ := ob hf
        refine k_X8_pairs S (S.2.2.2.2.wd wd631 rfl) hw e_u_5 [] rfl (by decide) rfl ⟨rfl, rfl, Nat.le_of_ble_eq_true rfl, Nat.le_of_ble_eq_true rfl⟩ hl.1 (Nat.le_of_ble_eq_true rfl) dX8_hang_84 ⟨Nat.zero_le _, Nat.zero_le _⟩ (fun H locs hw => ?_)
        have hw : PW D A s.heap [pX8 o0 w0, pX0 cy (w0 5) q1 g1] H locs := hw
        refine lv_i2l (v := (u_5 : Int32).toInt64) S.1 S.2.1 dX8_hang_87 rfl ?_
        refine lv_iload_n S.1 S.2.1 dX8_hang_88 rfl (lv_at hl 3 rfl) ?_
        refine lv_i2l (v := (x2 : Int32).toInt64) S.1 S.2.1 dX8_hang_89 rfl ?_
        refine lv_lmul S.1 S.2.1 dX8_hang_90 ?_
        refine lv_ldc2 (v := 10) S.1 S.2.1 S.2.2.2.1 (S.2.2.2.2.wd wd630 rfl) dX8_hang_91 ?_
        refine lv_iload S.1 S.2.1 dX8_hang_94 (lv_at hl 5 rfl) ?_
        obtain ⟨u_6, e_u_6, hf⟩ := ob hf
        refine k_X8_partOf S (S.2.2.2.2.wd wd633 rfl) hw e_u_6 [] rfl (by decide) rfl ⟨rfl, rfl, Nat.le_of_ble_eq_true rfl, Nat.le_of_ble_eq_true rfl⟩ hl.1 (Nat.le_of_ble_eq_true rfl) dX8_hang_96 ⟨Nat.zero_le _, Nat.zero_le _⟩ (fun H locs hw => ?_)
        have hw : PW D A s.heap [pX8 o0 w0, pX0 cy (w0 5) q1 g1] H locs := hw
        cases hf
        exact w_lret S hr hlk hA hQ hw dX8_hang_99
      · replace hf := (if_pos c_4).symm.trans hf
        refine lv_aload_n S.1 S.2.1 dX8_hang_58 rfl (lv_at hl 1 rfl) ?_
        refine gf_X8_44 S hw 0 rfl dX8_hang_59 ?_
        refine lv_iload_n S.1 S.2.1 dX8_hang_62 rfl (lv_at hl 2 rfl) ?_
        refine lv_iload_n S.1 S.2.1 dX8_hang_63 rfl (lv_at hl 3 rfl) ?_
        obtain ⟨u_7, e_u_7, hf⟩ := ob hf
        refine k_X0_hangingTogether S (S.2.2.2.2.wd wd615 rfl) hw e_u_7 [1] rfl (by decide) rfl ⟨rfl, rfl, Nat.le_of_ble_eq_true rfl, Nat.le_of_ble_eq_true rfl⟩ hl.1 (Nat.le_of_ble_eq_true rfl) dX8_hang_64 ⟨Nat.zero_le _, Nat.zero_le _⟩ (fun H locs hw => ?_)
        have hw : PW D A s.heap [pX8 o0 w0, pX0 cy (w0 5) q1 u_7.2] H locs := hw
        refine lv_ldc2 (v := 10) S.1 S.2.1 S.2.2.2.1 (S.2.2.2.2.wd wd630 rfl) dX8_hang_67 ?_
        refine lv_iload_n S.1 S.2.1 dX8_hang_70 rfl (lv_at hl 2 rfl) ?_
        obtain ⟨u_8, e_u_8, hf⟩ := ob hf
        refine k_X8_pairs S (S.2.2.2.2.wd wd631 rfl) hw e_u_8 [] rfl (by decide) rfl ⟨rfl, rfl, Nat.le_of_ble_eq_true rfl, Nat.le_of_ble_eq_true rfl⟩ hl.1 (Nat.le_of_ble_eq_true rfl) dX8_hang_71 ⟨Nat.zero_le _, Nat.zero_le _⟩ (fun H locs hw => ?_)
        have hw : PW D A s.heap [pX8 o0 w0, pX0 cy (w0 5) q1 u_7.2] H locs := hw
        obtain ⟨u_9, e_u_9, hf⟩ := ob hf
        refine k_X8_power S (S.2.2.2.2.wd wd632 rfl) hw e_u_9 [] rfl (by decide) rfl ⟨rfl, rfl, Nat.le_of_ble_eq_true rfl, Nat.le_of_ble_eq_true rfl⟩ hl.1 (Nat.le_of_ble_eq_true rfl) dX8_hang_74 ⟨Nat.zero_le _, Nat.zero_le _⟩ (fun H locs hw => ?_)
        have hw : PW D A s.heap [pX8 o0 w0, pX0 cy (w0 5) q1 u_7.2] H locs := hw
        refine lv_iload S.1 S.2.1 dX8_hang_77 (lv_at hl 5 rfl) ?_
        obtain ⟨u_10, e_u_10, hf⟩ := ob hf
        refine k_X8_partOf S (S.2.2.2.2.wd wd633 rfl) hw e_u_10 [] rfl (by decide) rfl ⟨rfl, rfl, Nat.le_of_ble_eq_true rfl, Nat.le_of_ble_eq_true rfl⟩ hl.1 (Nat.le_of_ble_eq_true rfl) dX8_hang_79 ⟨Nat.zero_le _, Nat.zero_le _⟩ (fun H locs hw => ?_)
        have hw : PW D A s.heap [pX8 o0 w0, pX0 cy (w0 5) q1 u_7.2] H locs := hw
        cases hf
        exact w_lret S hr hlk hA hQ hw dX8_hang_82
    · replace hf := (if_pos c_3).symm.trans hf
      refine lv_ldc2 (v := (-1000000000000000002)) S.1 S.2.1 S.2.2.2.1 (S.2.2.2.2.wd wd614 rfl) dX8_hang_50 ?_
      cases hf
      exact w_lret S hr hlk hA hQ hw dX8_hang_53
  replace hf := e_v_2
  clear e_v_2
  refine lv_if_eq (tgt := 42) S.1 S.2.1 dX8_hang_6 (by decide) (fun c_11 => ?_) (fun c_11 => ?_)
  · replace hf := (if_pos c_11).symm.trans hf
    refine lv_iconst (v := 0) S.1 S.2.1 dX8_hang_42 (by decide) ?_
    cases hf
    exact hJ_v_2 _ _ hw
  · replace hf := (if_neg c_11).symm.trans hf
    refine lv_iload_n S.1 S.2.1 dX8_hang_9 rfl (lv_at hl 2 rfl) ?_
    refine lv_iconst (v := 0) S.1 S.2.1 dX8_hang_10 (by decide) ?_
    refine lv_bipush (v := 10) S.1 S.2.1 dX8_hang_11 (by decide) ?_
    obtain ⟨u_12, e_u_12, hf⟩ := ob hf
    refine k_X8_isWithin S (S.2.2.2.2.wd wd287 rfl) hw e_u_12 [] rfl (by decide) rfl ⟨rfl, rfl, Nat.le_of_ble_eq_true rfl, Nat.le_of_ble_eq_true rfl⟩ hl.1 (Nat.le_of_ble_eq_true rfl) dX8_hang_13 ⟨Nat.zero_le _, Nat.zero_le _⟩ (fun H locs hw => ?_)
    have hw : PW D A s.heap [pX8 o0 w0, pX0 cy (w0 5) q1 g1] H locs := hw
    refine lv_if_eq (tgt := 42) S.1 S.2.1 dX8_hang_16 (by decide) (fun c_13 => ?_) (fun c_13 => ?_)
    · replace hf := (if_pos c_13).symm.trans hf
      refine lv_iconst (v := 0) S.1 S.2.1 dX8_hang_42 (by decide) ?_
      cases hf
      exact hJ_v_2 _ _ hw
    · replace hf := (if_neg c_13).symm.trans hf
      refine lv_iload_n S.1 S.2.1 dX8_hang_19 rfl (lv_at hl 3 rfl) ?_
      refine lv_iconst (v := 0) S.1 S.2.1 dX8_hang_20 (by decide) ?_
      refine lv_iconst (v := 1) S.1 S.2.1 dX8_hang_21 (by decide) ?_
      obtain ⟨u_14, e_u_14, hf⟩ := ob hf
      refine k_X8_isWithin S (S.2.2.2.2.wd wd287 rfl) hw e_u_14 [] rfl (by decide) rfl ⟨rfl, rfl, Nat.le_of_ble_eq_true rfl, Nat.le_of_ble_eq_true rfl⟩ hl.1 (Nat.le_of_ble_eq_true rfl) dX8_hang_22 ⟨Nat.zero_le _, Nat.zero_le _⟩ (fun H locs hw => ?_)
      have hw : PW D A s.heap [pX8 o0 w0, pX0 cy (w0 5) q1 g1] H locs := hw
      refine lv_if_eq (tgt := 42) S.1 S.2.1 dX8_hang_25 (by decide) (fun c_15 => ?_) (fun c_15 => ?_)
      · replace hf := (if_pos c_15).symm.trans hf
        refine lv_iconst (v := 0) S.1 S.2.1 dX8_hang_42 (by decide) ?_
        cases hf
        exact hJ_v_2 _ _ hw
      · replace hf := (if_neg c_15).symm.trans hf
        refine lv_iload S.1 S.2.1 dX8_hang_28 (lv_at hl 4 rfl) ?_
        refine lv_iconst (v := 0) S.1 S.2.1 dX8_hang_30 (by decide) ?_
        refine lv_iconst (v := 1) S.1 S.2.1 dX8_hang_31 (by decide) ?_
        obtain ⟨u_16, e_u_16, hf⟩ := ob hf
        refine k_X8_isWithin S (S.2.2.2.2.wd wd287 rfl) hw e_u_16 [] rfl (by decide) rfl ⟨rfl, rfl, Nat.le_of_ble_eq_true rfl, Nat.le_of_ble_eq_true rfl⟩ hl.1 (Nat.le_of_ble_eq_true rfl) dX8_hang_32 ⟨Nat.zero_le _, Nat.zero_le _⟩ (fun H locs hw => ?_)
        have hw : PW D A s.heap [pX8 o0 w0, pX0 cy (w0 5) q1 g1] H locs := hw
        refine lv_if_eq (tgt := 42) S.1 S.2.1 dX8_hang_35 (by decide) (fun c_17 => ?_) (fun c_17 => ?_)
        · replace hf := (if_pos c_17).symm.trans hf
          refine lv_iconst (v := 0) S.1 S.2.1 dX8_hang_42 (by decide) ?_
          cases hf
          exact hJ_v_2 _ _ hw
        · replace hf := (if_neg c_17).symm.trans hf
          refine lv_iconst (v := 1) S.1 S.2.1 dX8_hang_38 (by decide) ?_
          refine lv_goto (tgt := 43) S.1 S.2.1 dX8_hang_39 (by decide) ?_
          cases hf
          exact hJ_v_2 _ _ hw
section
variable {p : Program} {l : Launch} {e : Env} {R : Room} {s : State} {m : MethodId} {args : Array Value} {below : List Frame} {meth : Method} {c : Code} {H : Heap} {locs : List Loc} {cells slots : Nat} {Q : State → Prop} {cc : ByteArray} {pc nL : Nat} {ls : Array Slot} {rest : List Value} {D : va_G} {cy : Nat → ClassId} {A : Nat → Prop} {H0 : Heap} {own : String} {Ps : List va_W}
set_option maxRecDepth 100000 in
theorem k_X8_hang {o0 : Nat} {w0 : Nat → Nat} {q1 : Nat → Nat} {x1 : Int32} {x2 : Int32} {x3 : Int32} {x4 : Int32} {g1 : (Nat → Int64)} {u : Int64 × (Nat → Int64)} {index : Nat} (S : CX p m c cc nL s args own D cy) (hl : (Cond.methodLink own index yX8_hang).before args s = true) (hw : PW D A H0 Ps H locs) (hf : f_X8_hang x1 x2 x3 x4 g1 = some u) (js : List Nat) (hC : js.map (fun j => Ps[j]?) = [some (pX8 o0 w0), some (pX0 cy (w0 5) q1 g1)]) (hnd : js.Nodup) (hlen : js.length = 2) (hR : RMok rmX8_hang R 6) (hsize : ls.size = nL) (hrest : (rest.map fun v => v.category).sum ≤ 8) (hdg : decode cc pc = .ok (.invokevirtual index, 3)) (hcs : cells ≤ R.cells ∧ slots ≤ R.slots)
    (kk : ∀ (H1 : Heap) (locs1 : List Loc), PW D A H0 (setAll Ps js [pX8 o0 w0, pX0 cy (w0 5) q1 u.2]) H1 locs1 → W p l e R s m args below meth c H1 locs1 cells slots Q (F0 m (pc + 3) ls (.long u.1 :: rest))) : W p l e R s m args below meth c H locs cells slots Q (F0 m pc ls (.int x4 :: .int x3 :: .int x2 :: .int x1 :: .ref o0 :: rest)) :=
  w_callV (n := 4) (ov := (some (.long u.1))) (As := [.int x1, .int x2, .int x3, .int x4]) (Cs := [pX8 o0 w0, pX0 cy (w0 5) q1 g1]) (Cs' := [pX8 o0 w0, pX0 cy (w0 5) q1 u.2]) S hw (c_X8_hang l D cy o0 w0 q1 x1 x2 x3 x4 g1 u hf) (MF.of S.2.2.2.2 wd613 wd70 (by decide)) (S.2.2.2.2.wd wd611 rfl) (S.2.2.2.2.wd wd612 rfl) hl hR js hC hnd hlen rfl rfl rfl rfl hsize rfl hrest hdg hcs kk
end
abbrev rmX8_attemptDrawn : Room := { frames := 4, cells := 0, slots := 0, locals := 92 }
def f_X8_attemptDrawn (x1 : Int32) (x2 : Int32) (σ1 : pStt) (σ2 : pStt) : Option (pStt × pStt) := if x1 = 0 then (f_X6_attempt 0 ((x2 - x2 / 8 * 8)) (((x2 / 8) - (x2 / 8) / 8 * 8)) σ1 σ2).bind (fun u_2 => some (u_2.2.1, u_2.2.2)) else if x1 = 1 then (f_X6_attempt 1 ((x2 - x2 / 8 * 8)) (((x2 / 8) - (x2 / 8) / 8 * 8)) σ1 σ2).bind (fun u_4 => some (u_4.2.1, u_4.2.2)) else if x1 = 2 then (f_X6_attempt 2 ((x2 - x2 / 8 * 8)) (((x2 / 8) - (x2 / 8) / 8 * 8)) σ1 σ2).bind (fun u_6 => some (u_6.2.1, u_6.2.2)) else if x1 = 3 then (f_X6_attempt 5 ((x2 - x2 / 6 * 6)) 0 σ1 σ2).bind (fun u_8 => some (u_8.2.1, u_8.2.2)) else if x1 = 4 then (f_X6_attempt 7 ((x2 - x2 / 6 * 6)) (((x2 / 6) - (x2 / 6) / 8 * 8)) σ1 σ2).bind (fun u_10 => some (u_10.2.1, u_10.2.2)) else if x1 = 5 then (f_X6_attempt 8 ((x2 - x2 / 6 * 6)) (((x2 / 6) - (x2 / 6) / 8 * 8)) σ1 σ2).bind (fun u_12 => some (u_12.2.1, u_12.2.2)) else if x1 = 6 then (if ((x2 / 6) - (x2 / 6) / 4 * 4) = 0 then some 9 else some 6 : Option Int32).bind (fun v_14 => (f_X6_attempt v_14 ((x2 - x2 / 6 * 6)) 0 σ1 σ2).bind (fun u_15 => some (u_15.2.1, u_15.2.2))) else (if (x2 - x2 / 4 * 4) = 0 then some 3 else some 4 : Option Int32).bind (fun v_17 => (f_X6_attempt v_17 0 0 σ1 σ2).bind (fun u_18 => some (u_18.2.1, u_18.2.2)))
set_option maxHeartbeats 4000000 in
set_option maxRecDepth 100000 in
theorem c_X8_attemptDrawn (l : Launch) (D : va_G) (cy : Nat → ClassId) (o0 : Nat) (w0 : Nat → Nat) (w1 : Nat → Nat) (q2 : Nat → Nat) (x1 : Int32) (x2 : Int32) (σ1 : pStt) (σ2 : pStt) (u : pStt × pStt) (hf : f_X8_attemptDrawn x1 x2 σ1 σ2 = some u) : CT l yX8_attemptDrawn cX8_attemptDrawn 4 none rmX8_attemptDrawn D cy [.ref o0, .int x1, .int x2] [pX8 o0 w0, pX6 (w0 3) w1 σ1, pX1 cy (w1 0) q2 σ2] none [pX8 o0 w0, pX6 (w0 3) w1 u.1, pX1 cy (w1 0) q2 u.2] := by
  refine CT.of (by decide) (Nat.le_of_ble_eq_true rfl) (fun p e s m args below meth c ls A Q hA hQ S hr hlk hl hw => ?_)
  have hl : lv_has ls 4 [(0, .ref o0), (1, .int x1), (2, .int x2)] := hl
  rw [f_X8_attemptDrawn] at hf
  refine lv_iload_n S.1 S.2.1 dX8_attemptDrawn_0 rfl (lv_at hl 2 rfl) ?_
  refine lv_bipush (v := 6) S.1 S.2.1 dX8_attemptDrawn_1 (by decide) ?_
  refine lv_irem S.1 S.2.1 dX8_attemptDrawn_3 (by decide) ?_
  refine lv_istore_n (lv' := [(3, .int ((x2 - x2 / 6 * 6))), (0, .ref o0), (1, .int x1), (2, .int x2)]) S.1 S.2.1 dX8_attemptDrawn_4 rfl hl (by decide) rfl (fun ls hl => ?_)
  refine lv_iload_n S.1 S.2.1 dX8_attemptDrawn_5 rfl (lv_at hl 2 rfl) ?_
  by_cases c_1 : x1 = 0
  · replace hf := (if_pos c_1).symm.trans hf
    refine lv_tableIn (off := 42) (tgt := 48) S.1 S.2.1 dX8_attemptDrawn_6 (by rw [c_1]; decide) (by rw [c_1]; decide) (by rw [c_1]; rfl) (by decide) ?_
    refine lv_aload_n S.1 S.2.1 dX8_attemptDrawn_48 rfl (lv_at hl 1 rfl) ?_
    refine gf_X8_30 S hw 0 rfl dX8_attemptDrawn_49 ?_
    refine lv_iconst (v := 0) S.1 S.2.1 dX8_attemptDrawn_52 (by decide) ?_
    refine lv_iload_n S.1 S.2.1 dX8_attemptDrawn_53 rfl (lv_at hl 3 rfl) ?_
    refine lv_bipush (v := 8) S.1 S.2.1 dX8_attemptDrawn_54 (by decide) ?_
    refine lv_irem S.1 S.2.1 dX8_attemptDrawn_56 (by decide) ?_
    refine lv_iload_n S.1 S.2.1 dX8_attemptDrawn_57 rfl (lv_at hl 3 rfl) ?_
    refine lv_bipush (v := 8) S.1 S.2.1 dX8_attemptDrawn_58 (by decide) ?_
    refine lv_idiv S.1 S.2.1 dX8_attemptDrawn_60 (by decide) ?_
    refine lv_bipush (v := 8) S.1 S.2.1 dX8_attemptDrawn_61 (by decide) ?_
    refine lv_irem S.1 S.2.1 dX8_attemptDrawn_63 (by decide) ?_
    obtain ⟨u_2, e_u_2, hf⟩ := ob hf
    refine k_X6_attempt S (S.2.2.2.2.wd wd408 rfl) hw e_u_2 [1, 2] rfl (by decide) rfl ⟨rfl, rfl, Nat.le_of_ble_eq_true rfl, Nat.le_of_ble_eq_true rfl⟩ hl.1 (Nat.le_of_ble_eq_true rfl) dX8_attemptDrawn_64 ⟨Nat.zero_le _, Nat.zero_le _⟩ (fun H locs hw => ?_)
    have hw : PW D A s.heap [pX8 o0 w0, pX6 (w0 3) w1 u_2.2.1, pX1 cy (w1 0) q2 u_2.2.2] H locs := hw
    refine lv_pop S.1 S.2.1 dX8_attemptDrawn_67 rfl ?_
    refine lv_goto (tgt := 223) S.1 S.2.1 dX8_attemptDrawn_68 (by decide) ?_
    cases hf
    exact w_vret S hr hlk hA hQ hw dX8_attemptDrawn_223
  · replace hf := (if_neg c_1).symm.trans hf
    by_cases c_3 : x1 = 1
    · replace hf := (if_pos c_3).symm.trans hf
      refine lv_tableIn (off := 65) (tgt := 71) S.1 S.2.1 dX8_attemptDrawn_6 (by rw [c_3]; decide) (by rw [c_3]; decide) (by rw [c_3]; rfl) (by decide) ?_
      refine lv_aload_n S.1 S.2.1 dX8_attemptDrawn_71 rfl (lv_at hl 1 rfl) ?_
      refine gf_X8_30 S hw 0 rfl dX8_attemptDrawn_72 ?_
      refine lv_iconst (v := 1) S.1 S.2.1 dX8_attemptDrawn_75 (by decide) ?_
      refine lv_iload_n S.1 S.2.1 dX8_attemptDrawn_76 rfl (lv_at hl 3 rfl) ?_
      refine lv_bipush (v := 8) S.1 S.2.1 dX8_attemptDrawn_77 (by decide) ?_
      refine lv_irem S.1 S.2.1 dX8_attemptDrawn_79 (by decide) ?_
      refine lv_iload_n S.1 S.2.1 dX8_attemptDrawn_80 rfl (lv_at hl 3 rfl) ?_
      refine lv_bipush (v := 8) S.1 S.2.1 dX8_attemptDrawn_81 (by decide) ?_
      refine lv_idiv S.1 S.2.1 dX8_attemptDrawn_83 (by decide) ?_
      refine lv_bipush (v := 8) S.1 S.2.1 dX8_attemptDrawn_84 (by decide) ?_
      refine lv_irem S.1 S.2.1 dX8_attemptDrawn_86 (by decide) ?_
      obtain ⟨u_4, e_u_4, hf⟩ := ob hf
      refine k_X6_attempt S (S.2.2.2.2.wd wd408 rfl) hw e_u_4 [1, 2] rfl (by decide) rfl ⟨rfl, rfl, Nat.le_of_ble_eq_true rfl, Nat.le_of_ble_eq_true rfl⟩ hl.1 (Nat.le_of_ble_eq_true rfl) dX8_attemptDrawn_87 ⟨Nat.zero_le _, Nat.zero_le _⟩ (fun H locs hw => ?_)
      have hw : PW D A s.heap [pX8 o0 w0, pX6 (w0 3) w1 u_4.2.1, pX1 cy (w1 0) q2 u_4.2.2] H locs := hw
      refine lv_pop S.1 S.2.1 dX8_attemptDrawn_90 rfl ?_
      refine lv_goto (tgt := 223) S.1 S.2.1 dX8_attemptDrawn_91 (by decide) ?_
      cases hf
      exact w_vret S hr hlk hA hQ hw dX8_attemptDrawn_223
    · replace hf := (if_neg c_3).symm.trans hf
      by_cases c_5 : x1 = 2
      · replace hf := (if_pos c_5).symm.trans hf
        refine lv_tableIn (off := 88) (tgt := 94) S.1 S.2.1 dX8_attemptDrawn_6 (by rw [c_5]; decide) (by rw [c_5]; decide) (by rw [c_5]; rfl) (by decide) ?_
        refine lv_aload_n S.1 S.2.1 dX8_attemptDrawn_94 rfl (lv_at hl 1 rfl) ?_
        refine gf_X8_30 S hw 0 rfl dX8_attemptDrawn_95 ?_
        refine lv_iconst (v := 2) S.1 S.2.1 dX8_attemptDrawn_98 (by decide) ?_
        refine lv_iload_n S.1 S.2.1 dX8_attemptDrawn_99 rfl (lv_at hl 3 rfl) ?_
        refine lv_bipush (v := 8) S.1 S.2.1 dX8_attemptDrawn_100 (by decide) ?_
        refine lv_irem S.1 S.2.1 dX8_attemptDrawn_102 (by decide) ?_
        refine lv_iload_n S.1 S.2.1 dX8_attemptDrawn_103 rfl (lv_at hl 3 rfl) ?_
        refine lv_bipush (v := 8) S.1 S.2.1 dX8_attemptDrawn_104 (by decide) ?_
        refine lv_idiv S.1 S.2.1 dX8_attemptDrawn_106 (by decide) ?_
        refine lv_bipush (v := 8) S.1 S.2.1 dX8_attemptDrawn_107 (by decide) ?_
        refine lv_irem S.1 S.2.1 dX8_attemptDrawn_109 (by decide) ?_
        obtain ⟨u_6, e_u_6, hf⟩ := ob hf
        refine k_X6_attempt S (S.2.2.2.2.wd wd408 rfl) hw e_u_6 [1, 2] rfl (by decide) rfl ⟨rfl, rfl, Nat.le_of_ble_eq_true rfl, Nat.le_of_ble_eq_true rfl⟩ hl.1 (Nat.le_of_ble_eq_true rfl) dX8_attemptDrawn_110 ⟨Nat.zero_le _, Nat.zero_le _⟩ (fun H locs hw => ?_)
        have hw : PW D A s.heap [pX8 o0 w0, pX6 (w0 3) w1 u_6.2.1, pX1 cy (w1 0) q2 u_6.2.2] H locs := hw
        refine lv_pop S.1 S.2.1 dX8_attemptDrawn_113 rfl ?_
        refine lv_goto (tgt := 223) S.1 S.2.1 dX8_attemptDrawn_114 (by decide) ?_
        cases hf
        exact w_vret S hr hlk hA hQ hw dX8_attemptDrawn_223
      · replace hf := (if_neg c_5).symm.trans hf
        by_cases c_7 : x1 = 3
        · replace hf := (if_pos c_7).symm.trans hf
          refine lv_tableIn (off := 111) (tgt := 117) S.1 S.2.1 dX8_attemptDrawn_6 (by rw [c_7]; decide) (by rw [c_7]; decide) (by rw [c_7]; rfl) (by decide) ?_
          refine lv_aload_n S.1 S.2.1 dX8_attemptDrawn_117 rfl (lv_at hl 1 rfl) ?_
          refine gf_X8_30 S hw 0 rfl dX8_attemptDrawn_118 ?_
          refine lv_iconst (v := 5) S.1 S.2.1 dX8_attemptDrawn_121 (by decide) ?_
          refine lv_iload_n S.1 S.2.1 dX8_attemptDrawn_122 rfl (lv_at hl 0 rfl) ?_
          refine lv_iconst (v := 0) S.1 S.2.1 dX8_attemptDrawn_123 (by decide) ?_
          obtain ⟨u_8, e_u_8, hf⟩ := ob hf
          refine k_X6_attempt S (S.2.2.2.2.wd wd408 rfl) hw e_u_8 [1, 2] rfl (by decide) rfl ⟨rfl, rfl, Nat.le_of_ble_eq_true rfl, Nat.le_of_ble_eq_true rfl⟩ hl.1 (Nat.le_of_ble_eq_true rfl) dX8_attemptDrawn_124 ⟨Nat.zero_le _, Nat.zero_le _⟩ (fun H locs hw => ?_)
          have hw : PW D A s.heap [pX8 o0 w0, pX6 (w0 3) w1 u_8.2.1, pX1 cy (w1 0) q2 u_8.2.2] H locs := hw
          refine lv_pop S.1 S.2.1 dX8_attemptDrawn_127 rfl ?_
          refine lv_goto (tgt := 223) S.1 S.2.1 dX8_attemptDrawn_128 (by decide) ?_
          cases hf
          exact w_vret S hr hlk hA hQ hw dX8_attemptDrawn_223
        · replace hf := (if_neg c_7).symm.trans hf
          by_cases c_9 : x1 = 4
          · replace hf := (if_pos c_9).symm.trans hf
            refine lv_tableIn (off := 125) (tgt := 131) S.1 S.2.1 dX8_attemptDrawn_6 (by rw [c_9]; decide) (by rw [c_9]; decide) (by rw [c_9]; rfl) (by decide) ?_
            refine lv_aload_n S.1 S.2.1 dX8_attemptDrawn_131 rfl (lv_at hl 1 rfl) ?_
            refine gf_X8_30 S hw 0 rfl dX8_attemptDrawn_132 ?_
            refine lv_bipush (v := 7) S.1 S.2.1 dX8_attemptDrawn_135 (by decide) ?_
            refine lv_iload_n S.1 S.2.1 dX8_attemptDrawn_137 rfl (lv_at hl 0 rfl) ?_
            refine lv_iload_n S.1 S.2.1 dX8_attemptDrawn_138 rfl (lv_at hl 3 rfl) ?_
            refine lv_bipush (v := 6) S.1 S.2.1 dX8_attemptDrawn_139 (by decide) ?_
            refine lv_idiv S.1 S.2.1 dX8_attemptDrawn_141 (by decide) ?_
            refine lv_bipush (v := 8) S.1 S.2.1 dX8_attemptDrawn_142 (by decide) ?_
            refine lv_irem S.1 S.2.1 dX8_attemptDrawn_144 (by decide) ?_
            obtain ⟨u_10, e_u_10, hf⟩ := ob hf
            refine k_X6_attempt S (S.2.2.2.2.wd wd408 rfl) hw e_u_10 [1, 2] rfl (by decide) rfl ⟨rfl, rfl, Nat.le_of_ble_eq_true rfl, Nat.le_of_ble_eq_true rfl⟩ hl.1 (Nat.le_of_ble_eq_true rfl) dX8_attemptDrawn_145 ⟨Nat.zero_le _, Nat.zero_le _⟩ (fun H locs hw => ?_)
            have hw : PW D A s.heap [pX8 o0 w0, pX6 (w0 3) w1 u_10.2.1, pX1 cy (w1 0) q2 u_10.2.2] H locs := hw
            refine lv_pop S.1 S.2.1 dX8_attemptDrawn_148 rfl ?_
            refine lv_goto (tgt := 223) S.1 S.2.1 dX8_attemptDrawn_149 (by decide) ?_
            cases hf
            exact w_vret S hr hlk hA hQ hw dX8_attemptDrawn_223
          · replace hf := (if_neg c_9).symm.trans hf
            by_cases c_11 : x1 = 5
            · replace hf := (if_pos c_11).symm.trans hf
              refine lv_tableIn (off := 146) (tgt := 152) S.1 S.2.1 dX8_attemptDrawn_6 (by rw [c_11]; decide) (by rw [c_11]; decide) (by rw [c_11]; rfl) (by decide) ?_
              refine lv_aload_n S.1 S.2.1 dX8_attemptDrawn_152 rfl (lv_at hl 1 rfl) ?_
              refine gf_X8_30 S hw 0 rfl dX8_attemptDrawn_153 ?_
              refine lv_bipush (v := 8) S.1 S.2.1 dX8_attemptDrawn_156 (by decide) ?_
              refine lv_iload_n S.1 S.2.1 dX8_attemptDrawn_158 rfl (lv_at hl 0 rfl) ?_
              refine lv_iload_n S.1 S.2.1 dX8_attemptDrawn_159 rfl (lv_at hl 3 rfl) ?_
              refine lv_bipush (v := 6) S.1 S.2.1 dX8_attemptDrawn_160 (by decide) ?_
              refine lv_idiv S.1 S.2.1 dX8_attemptDrawn_162 (by decide) ?_
              refine lv_bipush (v := 8) S.1 S.2.1 dX8_attemptDrawn_163 (by decide) ?_
              refine lv_irem S.1 S.2.1 dX8_attemptDrawn_165 (by decide) ?_
              obtain ⟨u_12, e_u_12, hf⟩ := ob hf
              refine k_X6_attempt S (S.2.2.2.2.wd wd408 rfl) hw e_u_12 [1, 2] rfl (by decide) rfl ⟨rfl, rfl, Nat.le_of_ble_eq_true rfl, Nat.le_of_ble_eq_true rfl⟩ hl.1 (Nat.le_of_ble_eq_true rfl) dX8_attemptDrawn_166 ⟨Nat.zero_le _, Nat.zero_le _⟩ (fun H locs hw => ?_)
              have hw : PW D A s.heap [pX8 o0 w0, pX6 (w0 3) w1 u_12.2.1, pX1 cy (w1 0) q2 u_12.2.2] H locs := hw
              refine lv_pop S.1 S.2.1 dX8_attemptDrawn_169 rfl ?_
              refine lv_goto (tgt := 223) S.1 S.2.1 dX8_attemptDrawn_170 (by decide) ?_
              cases hf
              exact w_vret S hr hlk hA hQ hw dX8_attemptDrawn_223
            · replace hf := (if_neg c_11).symm.trans hf
              by_cases c_13 : x1 = 6
              · replace hf := (if_pos c_13).symm.trans hf
                refine lv_tableIn (off := 167) (tgt := 173) S.1 S.2.1 dX8_attemptDrawn_6 (by rw [c_13]; decide) (by rw [c_13]; decide) (by rw [c_13]; rfl) (by decide) ?_
                refine lv_aload_n S.1 S.2.1 dX8_attemptDrawn_173 rfl (lv_at hl 1 rfl) ?_
                refine gf_X8_30 S hw 0 rfl dX8_attemptDrawn_174 ?_
                refine lv_iload_n S.1 S.2.1 dX8_attemptDrawn_177 rfl (lv_at hl 3 rfl) ?_
                refine lv_bipush (v := 6) S.1 S.2.1 dX8_attemptDrawn_178 (by decide) ?_
                refine lv_idiv S.1 S.2.1 dX8_attemptDrawn_180 (by decide) ?_
                refine lv_iconst (v := 4) S.1 S.2.1 dX8_attemptDrawn_181 (by decide) ?_
                refine lv_irem S.1 S.2.1 dX8_attemptDrawn_182 (by decide) ?_
                obtain ⟨v_14, e_v_14, hf⟩ := ob hf
                have hJ_v_14 : ∀ (H : Heap) (locs : List Loc), PW D A s.heap [pX8 o0 w0, pX6 (w0 3) w1 σ1, pX1 cy (w1 0) q2 σ2] H locs → W p l e rmX8_attemptDrawn s m args below meth c H locs 0 0 Q (F0 m 193 ls [.int v_14, .ref ((w0 3))]) := by
                  intro H locs hw
                  refine lv_iload_n S.1 S.2.1 dX8_attemptDrawn_193 rfl (lv_at hl 0 rfl) ?_
                  refine lv_iconst (v := 0) S.1 S.2.1 dX8_attemptDrawn_194 (by decide) ?_
                  obtain ⟨u_15, e_u_15, hf⟩ := ob hf
                  refine k_X6_attempt S (S.2.2.2.2.wd wd408 rfl) hw e_u_15 [1, 2] rfl (by decide) rfl ⟨rfl, rfl, Nat.le_of_ble_eq_true rfl, Nat.le_of_ble_eq_true rfl⟩ hl.1 (Nat.le_of_ble_eq_true rfl) dX8_attemptDrawn_195 ⟨Nat.zero_le _, Nat.zero_le _⟩ (fun H locs hw => ?_)
                  have hw : PW D A s.heap [pX8 o0 w0, pX6 (w0 3) w1 u_15.2.1, pX1 cy (w1 0) q2 u_15.2.2] H locs := hw
                  refine lv_pop S.1 S.2.1 dX8_attemptDrawn_198 rfl ?_
                  refine lv_goto (tgt := 223) S.1 S.2.1 dX8_attemptDrawn_199 (by decide) ?_
                  cases hf
                  exact w_vret S hr hlk hA hQ hw dX8_attemptDrawn_223
                replace hf := e_v_14
                clear e_v_14
                refine lv_if_eq (tgt := 191) S.1 S.2.1 dX8_attemptDrawn_183 (by decide) (fun c_16 => ?_) (fun c_16 => ?_)
                · replace hf := (if_pos c_16).symm.trans hf
                  refine lv_bipush (v := 9) S.1 S.2.1 dX8_attemptDrawn_191 (by decide) ?_
                  cases hf
                  exact hJ_v_14 _ _ hw
                · replace hf := (if_neg c_16).symm.trans hf
                  refine lv_bipush (v := 6) S.1 S.2.1 dX8_attemptDrawn_186 (by decide) ?_
                  refine lv_goto (tgt := 193) S.1 S.2.1 dX8_attemptDrawn_188 (by decide) ?_
                  cases hf
                  exact hJ_v_14 _ _ hw
              · replace hf := (if_neg c_13).symm.trans hf
                have t_c_1 := ne_toInt (k := 0) c_1 (by decide)
                have t_c_3 := ne_toInt (k := 1) c_3 (by decide)
                have t_c_5 := ne_toInt (k := 2) c_5 (by decide)
                have t_c_7 := ne_toInt (k := 3) c_7 (by decide)
                have t_c_9 := ne_toInt (k := 4) c_9 (by decide)
                have t_c_11 := ne_toInt (k := 5) c_11 (by decide)
                have t_c_13 := ne_toInt (k := 6) c_13 (by decide)
                refine lv_tableOut (tgt := 202) S.1 S.2.1 dX8_attemptDrawn_6 (by omega) (by decide) ?_
                refine lv_aload_n S.1 S.2.1 dX8_attemptDrawn_202 rfl (lv_at hl 1 rfl) ?_
                refine gf_X8_30 S hw 0 rfl dX8_attemptDrawn_203 ?_
                refine lv_iload_n S.1 S.2.1 dX8_attemptDrawn_206 rfl (lv_at hl 3 rfl) ?_
                refine lv_iconst (v := 4) S.1 S.2.1 dX8_attemptDrawn_207 (by decide) ?_
                refine lv_irem S.1 S.2.1 dX8_attemptDrawn_208 (by decide) ?_
                obtain ⟨v_17, e_v_17, hf⟩ := ob hf
                have hJ_v_17 : ∀ (H : Heap) (locs : List Loc), PW D A s.heap [pX8 o0 w0, pX6 (w0 3) w1 σ1, pX1 cy (w1 0) q2 σ2] H locs → W p l e rmX8_attemptDrawn s m args below meth c H locs 0 0 Q (F0 m 217 ls [.int v_17, .ref ((w0 3))]) := by
                  intro H locs hw
                  refine lv_iconst (v := 0) S.1 S.2.1 dX8_attemptDrawn_217 (by decide) ?_
                  refine lv_iconst (v := 0) S.1 S.2.1 dX8_attemptDrawn_218 (by decide) ?_
                  obtain ⟨u_18, e_u_18, hf⟩ := ob hf
                  refine k_X6_attempt S (S.2.2.2.2.wd wd408 rfl) hw e_u_18 [1, 2] rfl (by decide) rfl ⟨rfl, rfl, Nat.le_of_ble_eq_true rfl, Nat.le_of_ble_eq_true rfl⟩ hl.1 (Nat.le_of_ble_eq_true rfl) dX8_attemptDrawn_219 ⟨Nat.zero_le _, Nat.zero_le _⟩ (fun H locs hw => ?_)
                  have hw : PW D A s.heap [pX8 o0 w0, pX6 (w0 3) w1 u_18.2.1, pX1 cy (w1 0) q2 u_18.2.2] H locs := hw
                  refine lv_pop S.1 S.2.1 dX8_attemptDrawn_222 rfl ?_
                  cases hf
                  exact w_vret S hr hlk hA hQ hw dX8_attemptDrawn_223
                replace hf := e_v_17
                clear e_v_17
                refine lv_if_eq (tgt := 216) S.1 S.2.1 dX8_attemptDrawn_209 (by decide) (fun c_19 => ?_) (fun c_19 => ?_)
                · replace hf := (if_pos c_19).symm.trans hf
                  refine lv_iconst (v := 3) S.1 S.2.1 dX8_attemptDrawn_216 (by decide) ?_
                  cases hf
                  exact hJ_v_17 _ _ hw
                · replace hf := (if_neg c_19).symm.trans hf
                  refine lv_iconst (v := 4) S.1 S.2.1 dX8_attemptDrawn_212 (by decide) ?_
                  refine lv_goto (tgt := 217) S.1 S.2.1 dX8_attemptDrawn_213 (by decide) ?_
                  cases hf
                  exact hJ_v_17 _ _ hw
section
variable {p : Program} {l : Launch} {e : Env} {R : Room} {s : State} {m : MethodId} {args : Array Value} {below : List Frame} {meth : Method} {c : Code} {H : Heap} {locs : List Loc} {cells slots : Nat} {Q : State → Prop} {cc : ByteArray} {pc nL : Nat} {ls : Array Slot} {rest : List Value} {D : va_G} {cy : Nat → ClassId} {A : Nat → Prop} {H0 : Heap} {own : String} {Ps : List va_W}
set_option maxRecDepth 100000 in
theorem k_X8_attemptDrawn {o0 : Nat} {w0 : Nat → Nat} {w1 : Nat → Nat} {q2 : Nat → Nat} {x1 : Int32} {x2 : Int32} {σ1 : pStt} {σ2 : pStt} {u : pStt × pStt} {index : Nat} (S : CX p m c cc nL s args own D cy) (hl : (Cond.methodLink own index yX8_attemptDrawn).before args s = true) (hw : PW D A H0 Ps H locs) (hf : f_X8_attemptDrawn x1 x2 σ1 σ2 = some u) (js : List Nat) (hC : js.map (fun j => Ps[j]?) = [some (pX8 o0 w0), some (pX6 (w0 3) w1 σ1), some (pX1 cy (w1 0) q2 σ2)]) (hnd : js.Nodup) (hlen : js.length = 3) (hR : RMok rmX8_attemptDrawn R 4) (hsize : ls.size = nL) (hrest : (rest.map fun v => v.category).sum ≤ 8) (hdg : decode cc pc = .ok (.invokevirtual index, 3)) (hcs : cells ≤ R.cells ∧ slots ≤ R.slots)
    (kk : ∀ (H1 : Heap) (locs1 : List Loc), PW D A H0 (setAll Ps js [pX8 o0 w0, pX6 (w0 3) w1 u.1, pX1 cy (w1 0) q2 u.2]) H1 locs1 → W p l e R s m args below meth c H1 locs1 cells slots Q (F0 m (pc + 3) ls (rest))) : W p l e R s m args below meth c H locs cells slots Q (F0 m pc ls (.int x2 :: .int x1 :: .ref o0 :: rest)) :=
  w_callV (n := 2) (ov := none) (As := [.int x1, .int x2]) (Cs := [pX8 o0 w0, pX6 (w0 3) w1 σ1, pX1 cy (w1 0) q2 σ2]) (Cs' := [pX8 o0 w0, pX6 (w0 3) w1 u.1, pX1 cy (w1 0) q2 u.2]) S hw (c_X8_attemptDrawn l D cy o0 w0 w1 q2 x1 x2 σ1 σ2 u hf) (MF.of S.2.2.2.2 wd651 wd70 (by decide)) (S.2.2.2.2.wd wd650 rfl) (S.2.2.2.2.wd wd16 rfl) hl hR js hC hnd hlen rfl rfl rfl rfl hsize rfl hrest hdg hcs kk
end
abbrev rmX8_liveYear : Room := { frames := 5, cells := 0, slots := 0, locals := 115 }
def fl_X8_liveYear_19 (y2 : Int32) (σ3 : pStt) : Nat → Int32 → Int32 → pStt → pStt → Option (pStt × pStt)
  | 0, _, _, _, _ => none
  | n + 1, y3, y4, σ1, σ4 => if y2 ≤ y4 then some (σ1, σ4) else (f_X8_attemptDrawn ((((((75 : Int32) * y3) + (74 : Int32)) - (((75 : Int32) * y3) + (74 : Int32)) / 65537 * 65537) - ((((75 : Int32) * y3) + (74 : Int32)) - (((75 : Int32) * y3) + (74 : Int32)) / 65537 * 65537) / 8 * 8)) ((((((75 : Int32) * y3) + (74 : Int32)) - (((75 : Int32) * y3) + (74 : Int32)) / 65537 * 65537) / 8)) σ1 σ4).bind (fun u_3 => fl_X8_liveYear_19 y2 σ3 n (((((75 : Int32) * y3) + (74 : Int32)) - (((75 : Int32) * y3) + (74 : Int32)) / 65537 * 65537)) ((y4 + 1)) u_3.1 u_3.2)
def f_X8_liveYear (x1 : Int32) (x2 : Int32) (σ1 : pStt) (σ3 : pStt) (σ4 : pStt) : Option (pStt × pStt) := (f_X6_begin σ1 σ3 σ4).bind (fun u_1 => (fl_X8_liveYear_19 x2 σ3 2000 x1 0 u_1.1 u_1.2).bind (fun u_4 => some (u_4.1, u_4.2)))
section
variable {p : Program} {l : Launch} {e : Env} {s : State} {m : MethodId} {args : Array Value} {below : List Frame} {meth : Method} {c : Code} {Q : State → Prop} {D : va_G} {cy : Nat → ClassId} {A : Nat → Prop} {H0 : Heap}
set_option maxHeartbeats 4000000 in
set_option maxRecDepth 100000 in
theorem lp_X8_liveYear_19 (S : CX p m c cX8_liveYear 5 s args RX8 D cy) {o0 : Nat} {w0 : Nat → Nat} {w1 : Nat → Nat} {w2 : Nat → Nat} {q3 : Nat → Nat} {q4 : Nat → Nat} {σ3 : pStt} {y2 : Int32} : ∀ (n : Nat) (y3 : Int32) (y4 : Int32) (σ1 : pStt) (σ4 : pStt) (H : Heap) (locs : List Loc) (ls : Array Slot) (u : pStt × pStt), PW D A H0 [pX8 o0 w0, pX6 (w0 3) w1 σ1, pX7 (w0 0) w2, pX1 cy (w2 0) q3 σ3, pX1 cy (w1 0) q4 σ4] H locs → lv_has ls 5 [(0, .ref o0), (2, .int y2), (3, .int y3), (4, .int y4)] → fl_X8_liveYear_19 y2 σ3 n y3 y4 σ1 σ4 = some u → (∀ (H : Heap) (locs : List Loc) (ls : Array Slot), PW D A H0 [pX8 o0 w0, pX6 (w0 3) w1 u.1, pX7 (w0 0) w2, pX1 cy (w2 0) q3 σ3, pX1 cy (w1 0) q4 u.2] H locs → lv_has ls 5 [] → W p l e rmX8_liveYear s m args below meth c H locs 0 0 Q (F0 m 55 ls [])) → W p l e rmX8_liveYear s m args below meth c H locs 0 0 Q (F0 m 19 ls []) := by
  intro n
  induction n with
  | zero =>
    intro y3 y4 σ1 σ4 H locs ls u hw hl hf K0
    rw [fl_X8_liveYear_19] at hf
    cases hf
  | succ n ih =>
    intro y3 y4 σ1 σ4 H locs ls u hw hl hf K0
    rw [fl_X8_liveYear_19] at hf
    refine lv_iload S.1 S.2.1 dX8_liveYear_19 (lv_at hl 3 rfl) ?_
    refine lv_iload_n S.1 S.2.1 dX8_liveYear_21 rfl (lv_at hl 1 rfl) ?_
    refine lv_icmp_ge (tgt := 55) S.1 S.2.1 dX8_liveYear_22 (by decide) (fun c_2 => ?_) (fun c_2 => ?_)
    · replace hf := (if_pos c_2).symm.trans hf
      cases hf
      exact K0 _ _ _ hw (lv_sub hl [] rfl)
    · replace hf := (if_neg c_2).symm.trans hf
      refine lv_bipush (v := 75) S.1 S.2.1 dX8_liveYear_25 (by decide) ?_
      refine lv_iload_n S.1 S.2.1 dX8_liveYear_27 rfl (lv_at hl 2 rfl) ?_
      refine lv_imul S.1 S.2.1 dX8_liveYear_28 ?_
      refine lv_bipush (v := 74) S.1 S.2.1 dX8_liveYear_29 (by decide) ?_
      refine lv_iadd S.1 S.2.1 dX8_liveYear_31 ?_
      refine w_ldcw (v := 65537) S.1 S.2.1 S.2.2.2.1 (S.2.2.2.2.wd wd647 rfl) dX8_liveYear_32 ?_
      refine lv_irem S.1 S.2.1 dX8_liveYear_35 (by decide) ?_
      refine lv_istore_n (lv' := [(3, .int (((((75 : Int32) * y3) + (74 : Int32)) - (((75 : Int32) * y3) + (74 : Int32)) / 65537 * 65537))), (0, .ref o0), (2, .int y2), (4, .int y4)]) S.1 S.2.1 dX8_liveYear_36 rfl hl (by decide) rfl (fun ls hl => ?_)
      refine lv_aload_n S.1 S.2.1 dX8_liveYear_37 rfl (lv_at hl 1 rfl) ?_
      refine lv_iload_n S.1 S.2.1 dX8_liveYear_38 rfl (lv_at hl 0 rfl) ?_
      refine lv_bipush (v := 8) S.1 S.2.1 dX8_liveYear_39 (by decide) ?_
      refine lv_irem S.1 S.2.1 dX8_liveYear_41 (by decide) ?_
      refine lv_iload_n S.1 S.2.1 dX8_liveYear_42 rfl (lv_at hl 0 rfl) ?_
      refine lv_bipush (v := 8) S.1 S.2.1 dX8_liveYear_43 (by decide) ?_
      refine lv_idiv S.1 S.2.1 dX8_liveYear_45 (by decide) ?_
      obtain ⟨u_3, e_u_3, hf⟩ := ob hf
      refine k_X8_attemptDrawn S (S.2.2.2.2.wd wd648 rfl) hw e_u_3 [0, 1, 4] rfl (by decide) rfl ⟨rfl, rfl, Nat.le_of_ble_eq_true rfl, Nat.le_of_ble_eq_true rfl⟩ hl.1 (Nat.le_of_ble_eq_true rfl) dX8_liveYear_46 ⟨Nat.zero_le _, Nat.zero_le _⟩ (fun H locs hw => ?_)
      have hw : PW D A H0 [pX8 o0 w0, pX6 (w0 3) w1 u_3.1, pX7 (w0 0) w2, pX1 cy (w2 0) q3 σ3, pX1 cy (w1 0) q4 u_3.2] H locs := hw
      refine lv_iinc (v := (y4 + 1)) (lv' := [(4, .int ((y4 + 1))), (3, .int (((((75 : Int32) * y3) + (74 : Int32)) - (((75 : Int32) * y3) + (74 : Int32)) / 65537 * 65537))), (0, .ref o0), (2, .int y2)]) S.1 S.2.1 dX8_liveYear_49 hl (k := 3) rfl rfl (by decide) rfl (fun ls hl => ?_)
      refine lv_goto (tgt := 19) S.1 S.2.1 dX8_liveYear_52 (by decide) ?_
      exact ih _ _ _ _ _ _ _ _ hw (lv_sub hl [2, 3, 1, 0] rfl) hf K0
end
set_option maxHeartbeats 4000000 in
set_option maxRecDepth 100000 in
theorem c_X8_liveYear (l : Launch) (D : va_G) (cy : Nat → ClassId) (o0 : Nat) (w0 : Nat → Nat) (w1 : Nat → Nat) (w2 : Nat → Nat) (q3 : Nat → Nat) (q4 : Nat → Nat) (x1 : Int32) (x2 : Int32) (σ1 : pStt) (σ3 : pStt) (σ4 : pStt) (u : pStt × pStt) (hf : f_X8_liveYear x1 x2 σ1 σ3 σ4 = some u) : CT l yX8_liveYear cX8_liveYear 5 none rmX8_liveYear D cy [.ref o0, .int x1, .int x2] [pX8 o0 w0, pX6 (w0 3) w1 σ1, pX7 (w0 0) w2, pX1 cy (w2 0) q3 σ3, pX1 cy (w1 0) q4 σ4] none [pX8 o0 w0, pX6 (w0 3) w1 u.1, pX7 (w0 0) w2, pX1 cy (w2 0) q3 σ3, pX1 cy (w1 0) q4 u.2] := by
  refine CT.of (by decide) (Nat.le_of_ble_eq_true rfl) (fun p e s m args below meth c ls A Q hA hQ S hr hlk hl hw => ?_)
  have hl : lv_has ls 5 [(0, .ref o0), (1, .int x1), (2, .int x2)] := hl
  rw [f_X8_liveYear] at hf
  refine lv_aload_n S.1 S.2.1 dX8_liveYear_0 rfl (lv_at hl 0 rfl) ?_
  refine gf_X8_30 S hw 0 rfl dX8_liveYear_1 ?_
  refine lv_aload_n S.1 S.2.1 dX8_liveYear_4 rfl (lv_at hl 0 rfl) ?_
  refine gf_X8_12 S hw 0 rfl dX8_liveYear_5 ?_
  refine gf_X8_52 S hw 2 rfl dX8_liveYear_8 ?_
  obtain ⟨u_1, e_u_1, hf⟩ := ob hf
  refine k_X6_begin S (S.2.2.2.2.wd wd395 rfl) hw e_u_1 [1, 3, 4] rfl (by decide) rfl ⟨rfl, rfl, Nat.le_of_ble_eq_true rfl, Nat.le_of_ble_eq_true rfl⟩ hl.1 (Nat.le_of_ble_eq_true rfl) dX8_liveYear_11 ⟨Nat.zero_le _, Nat.zero_le _⟩ (fun H locs hw => ?_)
  have hw : PW D A s.heap [pX8 o0 w0, pX6 (w0 3) w1 u_1.1, pX7 (w0 0) w2, pX1 cy (w2 0) q3 σ3, pX1 cy (w1 0) q4 u_1.2] H locs := hw
  refine lv_iload_n S.1 S.2.1 dX8_liveYear_14 rfl (lv_at hl 1 rfl) ?_
  refine lv_istore_n (lv' := [(3, .int x1), (0, .ref o0), (1, .int x1), (2, .int x2)]) S.1 S.2.1 dX8_liveYear_15 rfl hl (by decide) rfl (fun ls hl => ?_)
  refine lv_iconst (v := 0) S.1 S.2.1 dX8_liveYear_16 (by decide) ?_
  refine lv_istore (lv' := [(4, .int 0), (3, .int x1), (0, .ref o0), (1, .int x1), (2, .int x2)]) S.1 S.2.1 dX8_liveYear_17 hl (by decide) rfl (fun ls hl => ?_)
  obtain ⟨u_4, e_u_4, hf⟩ := ob hf
  refine lp_X8_liveYear_19 S 2000 _ _ _ _ _ _ _ _ hw (lv_sub hl [2, 4, 1, 0] rfl) e_u_4 ?_
  · intro H locs ls hw hl
    cases hf
    exact w_vret S hr hlk hA hQ hw dX8_liveYear_55
section
variable {p : Program} {l : Launch} {e : Env} {R : Room} {s : State} {m : MethodId} {args : Array Value} {below : List Frame} {meth : Method} {c : Code} {H : Heap} {locs : List Loc} {cells slots : Nat} {Q : State → Prop} {cc : ByteArray} {pc nL : Nat} {ls : Array Slot} {rest : List Value} {D : va_G} {cy : Nat → ClassId} {A : Nat → Prop} {H0 : Heap} {own : String} {Ps : List va_W}
set_option maxRecDepth 100000 in
theorem k_X8_liveYear {o0 : Nat} {w0 : Nat → Nat} {w1 : Nat → Nat} {w2 : Nat → Nat} {q3 : Nat → Nat} {q4 : Nat → Nat} {x1 : Int32} {x2 : Int32} {σ1 : pStt} {σ3 : pStt} {σ4 : pStt} {u : pStt × pStt} {index : Nat} (S : CX p m c cc nL s args own D cy) (hl : (Cond.methodLink own index yX8_liveYear).before args s = true) (hw : PW D A H0 Ps H locs) (hf : f_X8_liveYear x1 x2 σ1 σ3 σ4 = some u) (js : List Nat) (hC : js.map (fun j => Ps[j]?) = [some (pX8 o0 w0), some (pX6 (w0 3) w1 σ1), some (pX7 (w0 0) w2), some (pX1 cy (w2 0) q3 σ3), some (pX1 cy (w1 0) q4 σ4)]) (hnd : js.Nodup) (hlen : js.length = 5) (hR : RMok rmX8_liveYear R 5) (hsize : ls.size = nL) (hrest : (rest.map fun v => v.category).sum ≤ 8) (hdg : decode cc pc = .ok (.invokevirtual index, 3)) (hcs : cells ≤ R.cells ∧ slots ≤ R.slots)
    (kk : ∀ (H1 : Heap) (locs1 : List Loc), PW D A H0 (setAll Ps js [pX8 o0 w0, pX6 (w0 3) w1 u.1, pX7 (w0 0) w2, pX1 cy (w2 0) q3 σ3, pX1 cy (w1 0) q4 u.2]) H1 locs1 → W p l e R s m args below meth c H1 locs1 cells slots Q (F0 m (pc + 3) ls (rest))) : W p l e R s m args below meth c H locs cells slots Q (F0 m pc ls (.int x2 :: .int x1 :: .ref o0 :: rest)) :=
  w_callV (n := 2) (ov := none) (As := [.int x1, .int x2]) (Cs := [pX8 o0 w0, pX6 (w0 3) w1 σ1, pX7 (w0 0) w2, pX1 cy (w2 0) q3 σ3, pX1 cy (w1 0) q4 σ4]) (Cs' := [pX8 o0 w0, pX6 (w0 3) w1 u.1, pX7 (w0 0) w2, pX1 cy (w2 0) q3 σ3, pX1 cy (w1 0) q4 u.2]) S hw (c_X8_liveYear l D cy o0 w0 w1 w2 q3 q4 x1 x2 σ1 σ3 σ4 u hf) (MF.of S.2.2.2.2 wd646 wd70 (by decide)) (S.2.2.2.2.wd wd645 rfl) (S.2.2.2.2.wd wd15 rfl) hl hR js hC hnd hlen rfl rfl rfl rfl hsize rfl hrest hdg hcs kk
end
abbrev rmX8_year : Room := { frames := 6, cells := 0, slots := 0, locals := 139 }
def f_X8_year (x1 : Int32) (x2 : Int32) (x3 : Int32) (σ1 : pStt) (σ3 : pStt) (σ4 : pStt) : Option (Int32 × pStt × pStt) := (f_X8_isWithin x1 0 9999).bind (fun u_1 => if u_1 = 0 then some ((-2), σ1, σ4) else (f_X8_isWithin x2 1 99).bind (fun u_3 => if u_3 = 0 then some ((-2), σ1, σ4) else (f_X8_isWithin x3 0 2).bind (fun u_5 => if u_5 = 0 then some ((-2), σ1, σ4) else (f_X8_liveYear x1 x2 σ1 σ3 σ4).bind (fun u_7 => if x3 = 0 then (f_X1_whoIsThere u_7.2).bind (fun u_9 => some (u_9, u_7.1, u_7.2)) else if x3 = 1 then some ((u_7.1.1 2), u_7.1, u_7.2) else (f_X1_countWays u_7.2).bind (fun u_11 => some (u_11, u_7.1, u_7.2))))))
set_option maxHeartbeats 4000000 in
set_option maxRecDepth 100000 in
theorem c_X8_year (l : Launch) (D : va_G) (cy : Nat → ClassId) (o0 : Nat) (w0 : Nat → Nat) (w1 : Nat → Nat) (w2 : Nat → Nat) (q3 : Nat → Nat) (q4 : Nat → Nat) (x1 : Int32) (x2 : Int32) (x3 : Int32) (σ1 : pStt) (σ3 : pStt) (σ4 : pStt) (u : Int32 × pStt × pStt) (hf : f_X8_year x1 x2 x3 σ1 σ3 σ4 = some u) : CT l yX8_year cX8_year 4 (some .int) rmX8_year D cy [.ref o0, .int x1, .int x2, .int x3] [pX8 o0 w0, pX6 (w0 3) w1 σ1, pX7 (w0 0) w2, pX1 cy (w2 0) q3 σ3, pX1 cy (w1 0) q4 σ4] (some (.int u.1)) [pX8 o0 w0, pX6 (w0 3) w1 u.2.1, pX7 (w0 0) w2, pX1 cy (w2 0) q3 σ3, pX1 cy (w1 0) q4 u.2.2] := by
  refine CT.of (by decide) (Nat.le_of_ble_eq_true rfl) (fun p e s m args below meth c ls A Q hA hQ S hr hlk hl hw => ?_)
  have hl : lv_has ls 4 [(0, .ref o0), (1, .int x1), (2, .int x2), (3, .int x3)] := hl
  rw [f_X8_year] at hf
  refine lv_iload_n S.1 S.2.1 dX8_year_0 rfl (lv_at hl 1 rfl) ?_
  refine lv_iconst (v := 0) S.1 S.2.1 dX8_year_1 (by decide) ?_
  refine lv_sipush (v := 9999) S.1 S.2.1 dX8_year_2 (by decide) ?_
  obtain ⟨u_1, e_u_1, hf⟩ := ob hf
  refine k_X8_isWithin S (S.2.2.2.2.wd wd287 rfl) hw e_u_1 [] rfl (by decide) rfl ⟨rfl, rfl, Nat.le_of_ble_eq_true rfl, Nat.le_of_ble_eq_true rfl⟩ hl.1 (Nat.le_of_ble_eq_true rfl) dX8_year_5 ⟨Nat.zero_le _, Nat.zero_le _⟩ (fun H locs hw => ?_)
  have hw : PW D A s.heap [pX8 o0 w0, pX6 (w0 3) w1 σ1, pX7 (w0 0) w2, pX1 cy (w2 0) q3 σ3, pX1 cy (w1 0) q4 σ4] H locs := hw
  refine lv_if_eq (tgt := 30) S.1 S.2.1 dX8_year_8 (by decide) (fun c_2 => ?_) (fun c_2 => ?_)
  · replace hf := (if_pos c_2).symm.trans hf
    refine lv_bipush (v := (-2)) S.1 S.2.1 dX8_year_30 (by decide) ?_
    cases hf
    exact w_iret S hr hlk hA hQ hw dX8_year_32
  · replace hf := (if_neg c_2).symm.trans hf
    refine lv_iload_n S.1 S.2.1 dX8_year_11 rfl (lv_at hl 2 rfl) ?_
    refine lv_iconst (v := 1) S.1 S.2.1 dX8_year_12 (by decide) ?_
    refine lv_bipush (v := 99) S.1 S.2.1 dX8_year_13 (by decide) ?_
    obtain ⟨u_3, e_u_3, hf⟩ := ob hf
    refine k_X8_isWithin S (S.2.2.2.2.wd wd287 rfl) hw e_u_3 [] rfl (by decide) rfl ⟨rfl, rfl, Nat.le_of_ble_eq_true rfl, Nat.le_of_ble_eq_true rfl⟩ hl.1 (Nat.le_of_ble_eq_true rfl) dX8_year_15 ⟨Nat.zero_le _, Nat.zero_le _⟩ (fun H locs hw => ?_)
    have hw : PW D A s.heap [pX8 o0 w0, pX6 (w0 3) w1 σ1, pX7 (w0 0) w2, pX1 cy (w2 0) q3 σ3, pX1 cy (w1 0) q4 σ4] H locs := hw
    refine lv_if_eq (tgt := 30) S.1 S.2.1 dX8_year_18 (by decide) (fun c_4 => ?_) (fun c_4 => ?_)
    · replace hf := (if_pos c_4).symm.trans hf
      refine lv_bipush (v := (-2)) S.1 S.2.1 dX8_year_30 (by decide) ?_
      cases hf
      exact w_iret S hr hlk hA hQ hw dX8_year_32
    · replace hf := (if_neg c_4).symm.trans hf
      refine lv_iload_n S.1 S.2.1 dX8_year_21 rfl (lv_at hl 3 rfl) ?_
      refine lv_iconst (v := 0) S.1 S.2.1 dX8_year_22 (by decide) ?_
      refine lv_iconst (v := 2) S.1 S.2.1 dX8_year_23 (by decide) ?_
      obtain ⟨u_5, e_u_5, hf⟩ := ob hf
      refine k_X8_isWithin S (S.2.2.2.2.wd wd287 rfl) hw e_u_5 [] rfl (by decide) rfl ⟨rfl, rfl, Nat.le_of_ble_eq_true rfl, Nat.le_of_ble_eq_true rfl⟩ hl.1 (Nat.le_of_ble_eq_true rfl) dX8_year_24 ⟨Nat.zero_le _, Nat.zero_le _⟩ (fun H locs hw => ?_)
      have hw : PW D A s.heap [pX8 o0 w0, pX6 (w0 3) w1 σ1, pX7 (w0 0) w2, pX1 cy (w2 0) q3 σ3, pX1 cy (w1 0) q4 σ4] H locs := hw
      refine lv_if_ne (tgt := 33) S.1 S.2.1 dX8_year_27 (by decide) (fun c_6 => ?_) (fun c_6 => ?_)
      · replace hf := (if_neg c_6).symm.trans hf
        refine lv_aload_n S.1 S.2.1 dX8_year_33 rfl (lv_at hl 0 rfl) ?_
        refine lv_iload_n S.1 S.2.1 dX8_year_34 rfl (lv_at hl 1 rfl) ?_
        refine lv_iload_n S.1 S.2.1 dX8_year_35 rfl (lv_at hl 2 rfl) ?_
        obtain ⟨u_7, e_u_7, hf⟩ := ob hf
        refine k_X8_liveYear S (S.2.2.2.2.wd wd643 rfl) hw e_u_7 [0, 1, 2, 3, 4] rfl (by decide) rfl ⟨rfl, rfl, Nat.le_of_ble_eq_true rfl, Nat.le_of_ble_eq_true rfl⟩ hl.1 (Nat.le_of_ble_eq_true rfl) dX8_year_36 ⟨Nat.zero_le _, Nat.zero_le _⟩ (fun H locs hw => ?_)
        have hw : PW D A s.heap [pX8 o0 w0, pX6 (w0 3) w1 u_7.1, pX7 (w0 0) w2, pX1 cy (w2 0) q3 σ3, pX1 cy (w1 0) q4 u_7.2] H locs := hw
        refine lv_iload_n S.1 S.2.1 dX8_year_39 rfl (lv_at hl 3 rfl) ?_
        by_cases c_8 : x3 = 0
        · replace hf := (if_pos c_8).symm.trans hf
          refine lv_lookup (off := 28) (tgt := 68) S.1 S.2.1 dX8_year_40 (by decide) (by rw [c_8]; rfl) (by decide) ?_
          refine lv_aload_n S.1 S.2.1 dX8_year_68 rfl (lv_at hl 0 rfl) ?_
          refine gf_X8_30 S hw 0 rfl dX8_year_69 ?_
          refine gf_X8_120 S hw 1 rfl dX8_year_72 ?_
          obtain ⟨u_9, e_u_9, hf⟩ := ob hf
          refine k_X1_whoIsThere S (S.2.2.2.2.wd wd477 rfl) hw e_u_9 [4] rfl (by decide) rfl ⟨rfl, rfl, Nat.le_of_ble_eq_true rfl, Nat.le_of_ble_eq_true rfl⟩ hl.1 (Nat.le_of_ble_eq_true rfl) dX8_year_75 ⟨Nat.zero_le _, Nat.zero_le _⟩ (fun H locs hw => ?_)
          have hw : PW D A s.heap [pX8 o0 w0, pX6 (w0 3) w1 u_7.1, pX7 (w0 0) w2, pX1 cy (w2 0) q3 σ3, pX1 cy (w1 0) q4 u_7.2] H locs := hw
          cases hf
          exact w_iret S hr hlk hA hQ hw dX8_year_78
        · replace hf := (if_neg c_8).symm.trans hf
          by_cases c_10 : x3 = 1
          · replace hf := (if_pos c_10).symm.trans hf
            refine lv_lookup (off := 39) (tgt := 79) S.1 S.2.1 dX8_year_40 (by decide) (by rw [c_10]; rfl) (by decide) ?_
            refine lv_aload_n S.1 S.2.1 dX8_year_79 rfl (lv_at hl 0 rfl) ?_
            refine gf_X8_30 S hw 0 rfl dX8_year_80 ?_
            refine gf_X8_117 S hw 1 rfl dX8_year_83 ?_
            cases hf
            exact w_iret S hr hlk hA hQ hw dX8_year_86
          · replace hf := (if_neg c_10).symm.trans hf
            have t_c_8 := ne_toInt (k := 0) c_8 (by decide)
            have t_c_10 := ne_toInt (k := 1) c_10 (by decide)
            refine lv_lookup (off := 47) (tgt := 87) S.1 S.2.1 dX8_year_40 (by decide) (by simp [Op.lookupswitch.offset, Ne.symm t_c_8, Ne.symm t_c_10]) (by decide) ?_
            refine lv_aload_n S.1 S.2.1 dX8_year_87 rfl (lv_at hl 0 rfl) ?_
            refine gf_X8_30 S hw 0 rfl dX8_year_88 ?_
            refine gf_X8_120 S hw 1 rfl dX8_year_91 ?_
            obtain ⟨u_11, e_u_11, hf⟩ := ob hf
            refine k_X1_countWays S (S.2.2.2.2.wd wd294 rfl) hw e_u_11 [4] rfl (by decide) rfl ⟨rfl, rfl, Nat.le_of_ble_eq_true rfl, Nat.le_of_ble_eq_true rfl⟩ hl.1 (Nat.le_of_ble_eq_true rfl) dX8_year_94 ⟨Nat.zero_le _, Nat.zero_le _⟩ (fun H locs hw => ?_)
            have hw : PW D A s.heap [pX8 o0 w0, pX6 (w0 3) w1 u_7.1, pX7 (w0 0) w2, pX1 cy (w2 0) q3 σ3, pX1 cy (w1 0) q4 u_7.2] H locs := hw
            cases hf
            exact w_iret S hr hlk hA hQ hw dX8_year_97
      · replace hf := (if_pos c_6).symm.trans hf
        refine lv_bipush (v := (-2)) S.1 S.2.1 dX8_year_30 (by decide) ?_
        cases hf
        exact w_iret S hr hlk hA hQ hw dX8_year_32
section
variable {p : Program} {l : Launch} {e : Env} {R : Room} {s : State} {m : MethodId} {args : Array Value} {below : List Frame} {meth : Method} {c : Code} {H : Heap} {locs : List Loc} {cells slots : Nat} {Q : State → Prop} {cc : ByteArray} {pc nL : Nat} {ls : Array Slot} {rest : List Value} {D : va_G} {cy : Nat → ClassId} {A : Nat → Prop} {H0 : Heap} {own : String} {Ps : List va_W}
set_option maxRecDepth 100000 in
theorem k_X8_year {o0 : Nat} {w0 : Nat → Nat} {w1 : Nat → Nat} {w2 : Nat → Nat} {q3 : Nat → Nat} {q4 : Nat → Nat} {x1 : Int32} {x2 : Int32} {x3 : Int32} {σ1 : pStt} {σ3 : pStt} {σ4 : pStt} {u : Int32 × pStt × pStt} {index : Nat} (S : CX p m c cc nL s args own D cy) (hl : (Cond.methodLink own index yX8_year).before args s = true) (hw : PW D A H0 Ps H locs) (hf : f_X8_year x1 x2 x3 σ1 σ3 σ4 = some u) (js : List Nat) (hC : js.map (fun j => Ps[j]?) = [some (pX8 o0 w0), some (pX6 (w0 3) w1 σ1), some (pX7 (w0 0) w2), some (pX1 cy (w2 0) q3 σ3), some (pX1 cy (w1 0) q4 σ4)]) (hnd : js.Nodup) (hlen : js.length = 5) (hR : RMok rmX8_year R 4) (hsize : ls.size = nL) (hrest : (rest.map fun v => v.category).sum ≤ 8) (hdg : decode cc pc = .ok (.invokevirtual index, 3)) (hcs : cells ≤ R.cells ∧ slots ≤ R.slots)
    (kk : ∀ (H1 : Heap) (locs1 : List Loc), PW D A H0 (setAll Ps js [pX8 o0 w0, pX6 (w0 3) w1 u.2.1, pX7 (w0 0) w2, pX1 cy (w2 0) q3 σ3, pX1 cy (w1 0) q4 u.2.2]) H1 locs1 → W p l e R s m args below meth c H1 locs1 cells slots Q (F0 m (pc + 3) ls (.int u.1 :: rest))) : W p l e R s m args below meth c H locs cells slots Q (F0 m pc ls (.int x3 :: .int x2 :: .int x1 :: .ref o0 :: rest)) :=
  w_callV (n := 3) (ov := (some (.int u.1))) (As := [.int x1, .int x2, .int x3]) (Cs := [pX8 o0 w0, pX6 (w0 3) w1 σ1, pX7 (w0 0) w2, pX1 cy (w2 0) q3 σ3, pX1 cy (w1 0) q4 σ4]) (Cs' := [pX8 o0 w0, pX6 (w0 3) w1 u.2.1, pX7 (w0 0) w2, pX1 cy (w2 0) q3 σ3, pX1 cy (w1 0) q4 u.2.2]) S hw (c_X8_year l D cy o0 w0 w1 w2 q3 q4 x1 x2 x3 σ1 σ3 σ4 u hf) (MF.of S.2.2.2.2 wd642 wd70 (by decide)) (S.2.2.2.2.wd wd640 rfl) (S.2.2.2.2.wd wd641 rfl) hl hR js hC hnd hlen rfl rfl rfl rfl hsize rfl hrest hdg hcs kk
end
abbrev rmX8_tellOfAll : Room := { frames := 2, cells := 0, slots := 0, locals := 42 }
def f_X8_tellOfAll (x1 : Int32) (σ2 : pStt) (σ3 : pStt) (σ4 : pStt) (σ5 : pStt) : Option (Int32) := if x1 = 0 then some ((σ5.1 0)) else if x1 = 1 then (f_X1_countWays σ4).bind (fun u_3 => some u_3) else if x1 = 2 then (f_X1_poleAsNumber σ4).bind (fun u_5 => some u_5) else if x1 = 3 then some ((σ4.1 2)) else if x1 = 4 then some ((σ3.1 0)) else if x1 = 5 then some ((σ2.1 0)) else some ((-2))
set_option maxHeartbeats 4000000 in
set_option maxRecDepth 100000 in
theorem c_X8_tellOfAll (l : Launch) (D : va_G) (cy : Nat → ClassId) (o0 : Nat) (w0 : Nat → Nat) (w1 : Nat → Nat) (q2 : Nat → Nat) (q3 : Nat → Nat) (q4 : Nat → Nat) (q5 : Nat → Nat) (x1 : Int32) (σ2 : pStt) (σ3 : pStt) (σ4 : pStt) (σ5 : pStt) (u : Int32) (hf : f_X8_tellOfAll x1 σ2 σ3 σ4 σ5 = some u) : CT l yX8_tellOfAll cX8_tellOfAll 2 (some .int) rmX8_tellOfAll D cy [.ref o0, .int x1] [pX8 o0 w0, pX7 (w0 0) w1, pX5 cy (w1 2) q2 σ2, pX4 cy (w1 1) q3 σ3, pX1 cy (w1 0) q4 σ4, pX3 cy (w0 2) q5 σ5] (some (.int u)) [pX8 o0 w0, pX7 (w0 0) w1, pX5 cy (w1 2) q2 σ2, pX4 cy (w1 1) q3 σ3, pX1 cy (w1 0) q4 σ4, pX3 cy (w0 2) q5 σ5] := by
  refine CT.of (by decide) (Nat.le_of_ble_eq_true rfl) (fun p e s m args below meth c ls A Q hA hQ S hr hlk hl hw => ?_)
  have hl : lv_has ls 2 [(0, .ref o0), (1, .int x1)] := hl
  rw [f_X8_tellOfAll] at hf
  refine lv_iload_n S.1 S.2.1 dX8_tellOfAll_0 rfl (lv_at hl 1 rfl) ?_
  by_cases c_1 : x1 = 0
  · replace hf := (if_pos c_1).symm.trans hf
    refine lv_tableIn (off := 39) (tgt := 40) S.1 S.2.1 dX8_tellOfAll_1 (by rw [c_1]; decide) (by rw [c_1]; decide) (by rw [c_1]; rfl) (by decide) ?_
    refine lv_aload_n S.1 S.2.1 dX8_tellOfAll_40 rfl (lv_at hl 0 rfl) ?_
    refine gf_X8_23 S hw 0 rfl dX8_tellOfAll_41 ?_
    refine gf_X8_101 S hw 5 rfl dX8_tellOfAll_44 ?_
    cases hf
    exact w_iret S hr hlk hA hQ hw dX8_tellOfAll_47
  · replace hf := (if_neg c_1).symm.trans hf
    by_cases c_2 : x1 = 1
    · replace hf := (if_pos c_2).symm.trans hf
      refine lv_tableIn (off := 47) (tgt := 48) S.1 S.2.1 dX8_tellOfAll_1 (by rw [c_2]; decide) (by rw [c_2]; decide) (by rw [c_2]; rfl) (by decide) ?_
      refine lv_aload_n S.1 S.2.1 dX8_tellOfAll_48 rfl (lv_at hl 0 rfl) ?_
      refine gf_X8_12 S hw 0 rfl dX8_tellOfAll_49 ?_
      refine gf_X8_52 S hw 1 rfl dX8_tellOfAll_52 ?_
      obtain ⟨u_3, e_u_3, hf⟩ := ob hf
      refine k_X1_countWays S (S.2.2.2.2.wd wd294 rfl) hw e_u_3 [4] rfl (by decide) rfl ⟨rfl, rfl, Nat.le_of_ble_eq_true rfl, Nat.le_of_ble_eq_true rfl⟩ hl.1 (Nat.le_of_ble_eq_true rfl) dX8_tellOfAll_55 ⟨Nat.zero_le _, Nat.zero_le _⟩ (fun H locs hw => ?_)
      have hw : PW D A s.heap [pX8 o0 w0, pX7 (w0 0) w1, pX5 cy (w1 2) q2 σ2, pX4 cy (w1 1) q3 σ3, pX1 cy (w1 0) q4 σ4, pX3 cy (w0 2) q5 σ5] H locs := hw
      cases hf
      exact w_iret S hr hlk hA hQ hw dX8_tellOfAll_58
    · replace hf := (if_neg c_2).symm.trans hf
      by_cases c_4 : x1 = 2
      · replace hf := (if_pos c_4).symm.trans hf
        refine lv_tableIn (off := 58) (tgt := 59) S.1 S.2.1 dX8_tellOfAll_1 (by rw [c_4]; decide) (by rw [c_4]; decide) (by rw [c_4]; rfl) (by decide) ?_
        refine lv_aload_n S.1 S.2.1 dX8_tellOfAll_59 rfl (lv_at hl 0 rfl) ?_
        refine gf_X8_12 S hw 0 rfl dX8_tellOfAll_60 ?_
        refine gf_X8_52 S hw 1 rfl dX8_tellOfAll_63 ?_
        obtain ⟨u_5, e_u_5, hf⟩ := ob hf
        refine k_X1_poleAsNumber S (S.2.2.2.2.wd wd335 rfl) hw e_u_5 [4] rfl (by decide) rfl ⟨rfl, rfl, Nat.le_of_ble_eq_true rfl, Nat.le_of_ble_eq_true rfl⟩ hl.1 (Nat.le_of_ble_eq_true rfl) dX8_tellOfAll_66 ⟨Nat.zero_le _, Nat.zero_le _⟩ (fun H locs hw => ?_)
        have hw : PW D A s.heap [pX8 o0 w0, pX7 (w0 0) w1, pX5 cy (w1 2) q2 σ2, pX4 cy (w1 1) q3 σ3, pX1 cy (w1 0) q4 σ4, pX3 cy (w0 2) q5 σ5] H locs := hw
        cases hf
        exact w_iret S hr hlk hA hQ hw dX8_tellOfAll_69
      · replace hf := (if_neg c_4).symm.trans hf
        by_cases c_6 : x1 = 3
        · replace hf := (if_pos c_6).symm.trans hf
          refine lv_tableIn (off := 69) (tgt := 70) S.1 S.2.1 dX8_tellOfAll_1 (by rw [c_6]; decide) (by rw [c_6]; decide) (by rw [c_6]; rfl) (by decide) ?_
          refine lv_aload_n S.1 S.2.1 dX8_tellOfAll_70 rfl (lv_at hl 0 rfl) ?_
          refine gf_X8_12 S hw 0 rfl dX8_tellOfAll_71 ?_
          refine gf_X8_52 S hw 1 rfl dX8_tellOfAll_74 ?_
          refine gf_X8_139 S hw 4 rfl dX8_tellOfAll_77 ?_
          cases hf
          exact w_iret S hr hlk hA hQ hw dX8_tellOfAll_80
        · replace hf := (if_neg c_6).symm.trans hf
          by_cases c_7 : x1 = 4
          · replace hf := (if_pos c_7).symm.trans hf
            refine lv_tableIn (off := 80) (tgt := 81) S.1 S.2.1 dX8_tellOfAll_1 (by rw [c_7]; decide) (by rw [c_7]; decide) (by rw [c_7]; rfl) (by decide) ?_
            refine lv_aload_n S.1 S.2.1 dX8_tellOfAll_81 rfl (lv_at hl 0 rfl) ?_
            refine gf_X8_12 S hw 0 rfl dX8_tellOfAll_82 ?_
            refine gf_X8_165 S hw 1 rfl dX8_tellOfAll_85 ?_
            refine gf_X8_173 S hw 3 rfl dX8_tellOfAll_88 ?_
            cases hf
            exact w_iret S hr hlk hA hQ hw dX8_tellOfAll_91
          · replace hf := (if_neg c_7).symm.trans hf
            by_cases c_8 : x1 = 5
            · replace hf := (if_pos c_8).symm.trans hf
              refine lv_tableIn (off := 91) (tgt := 92) S.1 S.2.1 dX8_tellOfAll_1 (by rw [c_8]; decide) (by rw [c_8]; decide) (by rw [c_8]; rfl) (by decide) ?_
              refine lv_aload_n S.1 S.2.1 dX8_tellOfAll_92 rfl (lv_at hl 0 rfl) ?_
              refine gf_X8_12 S hw 0 rfl dX8_tellOfAll_93 ?_
              refine gf_X8_192 S hw 1 rfl dX8_tellOfAll_96 ?_
              refine gf_X8_199 S hw 2 rfl dX8_tellOfAll_99 ?_
              cases hf
              exact w_iret S hr hlk hA hQ hw dX8_tellOfAll_102
            · replace hf := (if_neg c_8).symm.trans hf
              have t_c_1 := ne_toInt (k := 0) c_1 (by decide)
              have t_c_2 := ne_toInt (k := 1) c_2 (by decide)
              have t_c_4 := ne_toInt (k := 2) c_4 (by decide)
              have t_c_6 := ne_toInt (k := 3) c_6 (by decide)
              have t_c_7 := ne_toInt (k := 4) c_7 (by decide)
              have t_c_8 := ne_toInt (k := 5) c_8 (by decide)
              refine lv_tableOut (tgt := 103) S.1 S.2.1 dX8_tellOfAll_1 (by omega) (by decide) ?_
              refine lv_bipush (v := (-2)) S.1 S.2.1 dX8_tellOfAll_103 (by decide) ?_
              cases hf
              exact w_iret S hr hlk hA hQ hw dX8_tellOfAll_105
section
variable {p : Program} {l : Launch} {e : Env} {R : Room} {s : State} {m : MethodId} {args : Array Value} {below : List Frame} {meth : Method} {c : Code} {H : Heap} {locs : List Loc} {cells slots : Nat} {Q : State → Prop} {cc : ByteArray} {pc nL : Nat} {ls : Array Slot} {rest : List Value} {D : va_G} {cy : Nat → ClassId} {A : Nat → Prop} {H0 : Heap} {own : String} {Ps : List va_W}
set_option maxRecDepth 100000 in
theorem k_X8_tellOfAll {o0 : Nat} {w0 : Nat → Nat} {w1 : Nat → Nat} {q2 : Nat → Nat} {q3 : Nat → Nat} {q4 : Nat → Nat} {q5 : Nat → Nat} {x1 : Int32} {σ2 : pStt} {σ3 : pStt} {σ4 : pStt} {σ5 : pStt} {u : Int32} {index : Nat} (S : CX p m c cc nL s args own D cy) (hl : (Cond.methodLink own index yX8_tellOfAll).before args s = true) (hw : PW D A H0 Ps H locs) (hf : f_X8_tellOfAll x1 σ2 σ3 σ4 σ5 = some u) (js : List Nat) (hC : js.map (fun j => Ps[j]?) = [some (pX8 o0 w0), some (pX7 (w0 0) w1), some (pX5 cy (w1 2) q2 σ2), some (pX4 cy (w1 1) q3 σ3), some (pX1 cy (w1 0) q4 σ4), some (pX3 cy (w0 2) q5 σ5)]) (hnd : js.Nodup) (hlen : js.length = 6) (hR : RMok rmX8_tellOfAll R 2) (hsize : ls.size = nL) (hrest : (rest.map fun v => v.category).sum ≤ 8) (hdg : decode cc pc = .ok (.invokevirtual index, 3)) (hcs : cells ≤ R.cells ∧ slots ≤ R.slots)
    (kk : ∀ (H1 : Heap) (locs1 : List Loc), PW D A H0 (setAll Ps js [pX8 o0 w0, pX7 (w0 0) w1, pX5 cy (w1 2) q2 σ2, pX4 cy (w1 1) q3 σ3, pX1 cy (w1 0) q4 σ4, pX3 cy (w0 2) q5 σ5]) H1 locs1 → W p l e R s m args below meth c H1 locs1 cells slots Q (F0 m (pc + 3) ls (.int u :: rest))) : W p l e R s m args below meth c H locs cells slots Q (F0 m pc ls (.int x1 :: .ref o0 :: rest)) :=
  w_callV (n := 1) (ov := (some (.int u))) (As := [.int x1]) (Cs := [pX8 o0 w0, pX7 (w0 0) w1, pX5 cy (w1 2) q2 σ2, pX4 cy (w1 1) q3 σ3, pX1 cy (w1 0) q4 σ4, pX3 cy (w0 2) q5 σ5]) (Cs' := [pX8 o0 w0, pX7 (w0 0) w1, pX5 cy (w1 2) q2 σ2, pX4 cy (w1 1) q3 σ3, pX1 cy (w1 0) q4 σ4, pX3 cy (w0 2) q5 σ5]) S hw (c_X8_tellOfAll l D cy o0 w0 w1 q2 q3 q4 q5 x1 σ2 σ3 σ4 σ5 u hf) (MF.of S.2.2.2.2 wd682 wd70 (by decide)) (S.2.2.2.2.wd wd681 rfl) (S.2.2.2.2.wd wd17 rfl) hl hR js hC hnd hlen rfl rfl rfl rfl hsize rfl hrest hdg hcs kk
end
abbrev rmX8_tellOfPerson : Room := { frames := 2, cells := 0, slots := 0, locals := 42 }
def f_X8_tellOfPerson (x1 : Int32) (x2 : Int32) (σ2 : pStt) : Option (Int32) := if x1 = 1 then (f_X1_cornerOfPerson x2 σ2).bind (fun u_2 => some u_2) else if x1 = 2 then (ld (σ2.2 3) 6 x2).bind (fun x_4 => some x_4) else (f_X1_sitsAsNumber x2 σ2).bind (fun u_5 => some u_5)
set_option maxHeartbeats 4000000 in
set_option maxRecDepth 100000 in
theorem c_X8_tellOfPerson (l : Launch) (D : va_G) (cy : Nat → ClassId) (o0 : Nat) (w0 : Nat → Nat) (w1 : Nat → Nat) (q2 : Nat → Nat) (x1 : Int32) (x2 : Int32) (σ2 : pStt) (u : Int32) (hf : f_X8_tellOfPerson x1 x2 σ2 = some u) : CT l yX8_tellOfPerson cX8_tellOfPerson 3 (some .int) rmX8_tellOfPerson D cy [.ref o0, .int x1, .int x2] [pX8 o0 w0, pX7 (w0 0) w1, pX1 cy (w1 0) q2 σ2] (some (.int u)) [pX8 o0 w0, pX7 (w0 0) w1, pX1 cy (w1 0) q2 σ2] := by
  refine CT.of (by decide) (Nat.le_of_ble_eq_true rfl) (fun p e s m args below meth c ls A Q hA hQ S hr hlk hl hw => ?_)
  have hl : lv_has ls 3 [(0, .ref o0), (1, .int x1), (2, .int x2)] := hl
  rw [f_X8_tellOfPerson] at hf
  refine lv_iload_n S.1 S.2.1 dX8_tellOfPerson_0 rfl (lv_at hl 1 rfl) ?_
  by_cases c_1 : x1 = 1
  · replace hf := (if_pos c_1).symm.trans hf
    refine lv_lookup (off := 27) (tgt := 28) S.1 S.2.1 dX8_tellOfPerson_1 (by decide) (by rw [c_1]; rfl) (by decide) ?_
    refine lv_aload_n S.1 S.2.1 dX8_tellOfPerson_28 rfl (lv_at hl 0 rfl) ?_
    refine gf_X8_12 S hw 0 rfl dX8_tellOfPerson_29 ?_
    refine gf_X8_52 S hw 1 rfl dX8_tellOfPerson_32 ?_
    refine lv_iload_n S.1 S.2.1 dX8_tellOfPerson_35 rfl (lv_at hl 2 rfl) ?_
    obtain ⟨u_2, e_u_2, hf⟩ := ob hf
    refine k_X1_cornerOfPerson S (S.2.2.2.2.wd wd323 rfl) hw e_u_2 [2] rfl (by decide) rfl ⟨rfl, rfl, Nat.le_of_ble_eq_true rfl, Nat.le_of_ble_eq_true rfl⟩ hl.1 (Nat.le_of_ble_eq_true rfl) dX8_tellOfPerson_36 ⟨Nat.zero_le _, Nat.zero_le _⟩ (fun H locs hw => ?_)
    have hw : PW D A s.heap [pX8 o0 w0, pX7 (w0 0) w1, pX1 cy (w1 0) q2 σ2] H locs := hw
    cases hf
    exact w_iret S hr hlk hA hQ hw dX8_tellOfPerson_39
  · replace hf := (if_neg c_1).symm.trans hf
    by_cases c_3 : x1 = 2
    · replace hf := (if_pos c_3).symm.trans hf
      refine lv_lookup (off := 39) (tgt := 40) S.1 S.2.1 dX8_tellOfPerson_1 (by decide) (by rw [c_3]; rfl) (by decide) ?_
      refine lv_aload_n S.1 S.2.1 dX8_tellOfPerson_40 rfl (lv_at hl 0 rfl) ?_
      refine gf_X8_12 S hw 0 rfl dX8_tellOfPerson_41 ?_
      refine gf_X8_52 S hw 1 rfl dX8_tellOfPerson_44 ?_
      refine gf_X8_121 S hw 2 rfl dX8_tellOfPerson_47 ?_
      refine lv_iload_n S.1 S.2.1 dX8_tellOfPerson_50 rfl (lv_at hl 2 rfl) ?_
      obtain ⟨x_4, e_x_4, hf⟩ := ob hf
      refine al_X1_3 S hw 2 rfl e_x_4 dX8_tellOfPerson_51 ?_
      cases hf
      exact w_iret S hr hlk hA hQ hw dX8_tellOfPerson_52
    · replace hf := (if_neg c_3).symm.trans hf
      have t_c_1 := ne_toInt (k := 1) c_1 (by decide)
      have t_c_3 := ne_toInt (k := 2) c_3 (by decide)
      refine lv_lookup (off := 52) (tgt := 53) S.1 S.2.1 dX8_tellOfPerson_1 (by decide) (by simp [Op.lookupswitch.offset, Ne.symm t_c_1, Ne.symm t_c_3]) (by decide) ?_
      refine lv_aload_n S.1 S.2.1 dX8_tellOfPerson_53 rfl (lv_at hl 0 rfl) ?_
      refine gf_X8_12 S hw 0 rfl dX8_tellOfPerson_54 ?_
      refine gf_X8_52 S hw 1 rfl dX8_tellOfPerson_57 ?_
      refine lv_iload_n S.1 S.2.1 dX8_tellOfPerson_60 rfl (lv_at hl 2 rfl) ?_
      obtain ⟨u_5, e_u_5, hf⟩ := ob hf
      refine k_X1_sitsAsNumber S (S.2.2.2.2.wd wd457 rfl) hw e_u_5 [2] rfl (by decide) rfl ⟨rfl, rfl, Nat.le_of_ble_eq_true rfl, Nat.le_of_ble_eq_true rfl⟩ hl.1 (Nat.le_of_ble_eq_true rfl) dX8_tellOfPerson_61 ⟨Nat.zero_le _, Nat.zero_le _⟩ (fun H locs hw => ?_)
      have hw : PW D A s.heap [pX8 o0 w0, pX7 (w0 0) w1, pX1 cy (w1 0) q2 σ2] H locs := hw
      cases hf
      exact w_iret S hr hlk hA hQ hw dX8_tellOfPerson_64
section
variable {p : Program} {l : Launch} {e : Env} {R : Room} {s : State} {m : MethodId} {args : Array Value} {below : List Frame} {meth : Method} {c : Code} {H : Heap} {locs : List Loc} {cells slots : Nat} {Q : State → Prop} {cc : ByteArray} {pc nL : Nat} {ls : Array Slot} {rest : List Value} {D : va_G} {cy : Nat → ClassId} {A : Nat → Prop} {H0 : Heap} {own : String} {Ps : List va_W}
set_option maxRecDepth 100000 in
theorem k_X8_tellOfPerson {o0 : Nat} {w0 : Nat → Nat} {w1 : Nat → Nat} {q2 : Nat → Nat} {x1 : Int32} {x2 : Int32} {σ2 : pStt} {u : Int32} {index : Nat} (S : CX p m c cc nL s args own D cy) (hl : (Cond.methodLink own index yX8_tellOfPerson).before args s = true) (hw : PW D A H0 Ps H locs) (hf : f_X8_tellOfPerson x1 x2 σ2 = some u) (js : List Nat) (hC : js.map (fun j => Ps[j]?) = [some (pX8 o0 w0), some (pX7 (w0 0) w1), some (pX1 cy (w1 0) q2 σ2)]) (hnd : js.Nodup) (hlen : js.length = 3) (hR : RMok rmX8_tellOfPerson R 3) (hsize : ls.size = nL) (hrest : (rest.map fun v => v.category).sum ≤ 8) (hdg : decode cc pc = .ok (.invokevirtual index, 3)) (hcs : cells ≤ R.cells ∧ slots ≤ R.slots)
    (kk : ∀ (H1 : Heap) (locs1 : List Loc), PW D A H0 (setAll Ps js [pX8 o0 w0, pX7 (w0 0) w1, pX1 cy (w1 0) q2 σ2]) H1 locs1 → W p l e R s m args below meth c H1 locs1 cells slots Q (F0 m (pc + 3) ls (.int u :: rest))) : W p l e R s m args below meth c H locs cells slots Q (F0 m pc ls (.int x2 :: .int x1 :: .ref o0 :: rest)) :=
  w_callV (n := 2) (ov := (some (.int u))) (As := [.int x1, .int x2]) (Cs := [pX8 o0 w0, pX7 (w0 0) w1, pX1 cy (w1 0) q2 σ2]) (Cs' := [pX8 o0 w0, pX7 (w0 0) w1, pX1 cy (w1 0) q2 σ2]) S hw (c_X8_tellOfPerson l D cy o0 w0 w1 q2 x1 x2 σ2 u hf) (MF.of S.2.2.2.2 wd686 wd70 (by decide)) (S.2.2.2.2.wd wd685 rfl) (S.2.2.2.2.wd wd18 rfl) hl hR js hC hnd hlen rfl rfl rfl rfl hsize rfl hrest hdg hcs kk
end
abbrev rmX8_tellOfThing : Room := { frames := 3, cells := 0, slots := 0, locals := 63 }
def f_X8_tellOfThing (x1 : Int32) (x2 : Int32) (σ2 : pStt) : Option (Int32) := (if x1 = 4 then (f_X1_cornerOfThing x2 σ2).bind (fun u_4 => some u_4) else (f_X1_holderOfThing x2 σ2).bind (fun u_3 => some u_3) : Option Int32).bind (fun v_1 => some v_1)
set_option maxHeartbeats 4000000 in
set_option maxRecDepth 100000 in
theorem c_X8_tellOfThing (l : Launch) (D : va_G) (cy : Nat → ClassId) (o0 : Nat) (w0 : Nat → Nat) (w1 : Nat → Nat) (q2 : Nat → Nat) (x1 : Int32) (x2 : Int32) (σ2 : pStt) (u : Int32) (hf : f_X8_tellOfThing x1 x2 σ2 = some u) : CT l yX8_tellOfThing cX8_tellOfThing 3 (some .int) rmX8_tellOfThing D cy [.ref o0, .int x1, .int x2] [pX8 o0 w0, pX7 (w0 0) w1, pX1 cy (w1 0) q2 σ2] (some (.int u)) [pX8 o0 w0, pX7 (w0 0) w1, pX1 cy (w1 0) q2 σ2] := by
  refine CT.of (by decide) (Nat.le_of_ble_eq_true rfl) (fun p e s m args below meth c ls A Q hA hQ S hr hlk hl hw => ?_)
  have hl : lv_has ls 3 [(0, .ref o0), (1, .int x1), (2, .int x2)] := hl
  rw [f_X8_tellOfThing] at hf
  refine lv_iload_n S.1 S.2.1 dX8_tellOfThing_0 rfl (lv_at hl 1 rfl) ?_
  refine lv_iconst (v := 4) S.1 S.2.1 dX8_tellOfThing_1 (by decide) ?_
  obtain ⟨v_1, e_v_1, hf⟩ := ob hf
  have hJ_v_1 : ∀ (H : Heap) (locs : List Loc), PW D A s.heap [pX8 o0 w0, pX7 (w0 0) w1, pX1 cy (w1 0) q2 σ2] H locs → W p l e rmX8_tellOfThing s m args below meth c H locs 0 0 Q (F0 m 30 ls [.int v_1]) := by
    intro H locs hw
    cases hf
    exact w_iret S hr hlk hA hQ hw dX8_tellOfThing_30
  replace hf := e_v_1
  clear e_v_1
  refine lv_icmp_ne (tgt := 19) S.1 S.2.1 dX8_tellOfThing_2 (by decide) (fun c_2 => ?_) (fun c_2 => ?_)
  · replace hf := (if_neg c_2).symm.trans hf
    refine lv_aload_n S.1 S.2.1 dX8_tellOfThing_19 rfl (lv_at hl 0 rfl) ?_
    refine gf_X8_12 S hw 0 rfl dX8_tellOfThing_20 ?_
    refine gf_X8_52 S hw 1 rfl dX8_tellOfThing_23 ?_
    refine lv_iload_n S.1 S.2.1 dX8_tellOfThing_26 rfl (lv_at hl 2 rfl) ?_
    obtain ⟨u_3, e_u_3, hf⟩ := ob hf
    refine k_X1_holderOfThing S (S.2.2.2.2.wd wd469 rfl) hw e_u_3 [2] rfl (by decide) rfl ⟨rfl, rfl, Nat.le_of_ble_eq_true rfl, Nat.le_of_ble_eq_true rfl⟩ hl.1 (Nat.le_of_ble_eq_true rfl) dX8_tellOfThing_27 ⟨Nat.zero_le _, Nat.zero_le _⟩ (fun H locs hw => ?_)
    have hw : PW D A s.heap [pX8 o0 w0, pX7 (w0 0) w1, pX1 cy (w1 0) q2 σ2] H locs := hw
    cases hf
    exact hJ_v_1 _ _ hw
  · replace hf := (if_pos c_2).symm.trans hf
    refine lv_aload_n S.1 S.2.1 dX8_tellOfThing_5 rfl (lv_at hl 0 rfl) ?_
    refine gf_X8_12 S hw 0 rfl dX8_tellOfThing_6 ?_
    refine gf_X8_52 S hw 1 rfl dX8_tellOfThing_9 ?_
    refine lv_iload_n S.1 S.2.1 dX8_tellOfThing_12 rfl (lv_at hl 2 rfl) ?_
    obtain ⟨u_4, e_u_4, hf⟩ := ob hf
    refine k_X1_cornerOfThing S (S.2.2.2.2.wd wd311 rfl) hw e_u_4 [2] rfl (by decide) rfl ⟨rfl, rfl, Nat.le_of_ble_eq_true rfl, Nat.le_of_ble_eq_true rfl⟩ hl.1 (Nat.le_of_ble_eq_true rfl) dX8_tellOfThing_13 ⟨Nat.zero_le _, Nat.zero_le _⟩ (fun H locs hw => ?_)
    have hw : PW D A s.heap [pX8 o0 w0, pX7 (w0 0) w1, pX1 cy (w1 0) q2 σ2] H locs := hw
    refine lv_goto (tgt := 30) S.1 S.2.1 dX8_tellOfThing_16 (by decide) ?_
    cases hf
    exact hJ_v_1 _ _ hw
section
variable {p : Program} {l : Launch} {e : Env} {R : Room} {s : State} {m : MethodId} {args : Array Value} {below : List Frame} {meth : Method} {c : Code} {H : Heap} {locs : List Loc} {cells slots : Nat} {Q : State → Prop} {cc : ByteArray} {pc nL : Nat} {ls : Array Slot} {rest : List Value} {D : va_G} {cy : Nat → ClassId} {A : Nat → Prop} {H0 : Heap} {own : String} {Ps : List va_W}
set_option maxRecDepth 100000 in
theorem k_X8_tellOfThing {o0 : Nat} {w0 : Nat → Nat} {w1 : Nat → Nat} {q2 : Nat → Nat} {x1 : Int32} {x2 : Int32} {σ2 : pStt} {u : Int32} {index : Nat} (S : CX p m c cc nL s args own D cy) (hl : (Cond.methodLink own index yX8_tellOfThing).before args s = true) (hw : PW D A H0 Ps H locs) (hf : f_X8_tellOfThing x1 x2 σ2 = some u) (js : List Nat) (hC : js.map (fun j => Ps[j]?) = [some (pX8 o0 w0), some (pX7 (w0 0) w1), some (pX1 cy (w1 0) q2 σ2)]) (hnd : js.Nodup) (hlen : js.length = 3) (hR : RMok rmX8_tellOfThing R 3) (hsize : ls.size = nL) (hrest : (rest.map fun v => v.category).sum ≤ 8) (hdg : decode cc pc = .ok (.invokevirtual index, 3)) (hcs : cells ≤ R.cells ∧ slots ≤ R.slots)
    (kk : ∀ (H1 : Heap) (locs1 : List Loc), PW D A H0 (setAll Ps js [pX8 o0 w0, pX7 (w0 0) w1, pX1 cy (w1 0) q2 σ2]) H1 locs1 → W p l e R s m args below meth c H1 locs1 cells slots Q (F0 m (pc + 3) ls (.int u :: rest))) : W p l e R s m args below meth c H locs cells slots Q (F0 m pc ls (.int x2 :: .int x1 :: .ref o0 :: rest)) :=
  w_callV (n := 2) (ov := (some (.int u))) (As := [.int x1, .int x2]) (Cs := [pX8 o0 w0, pX7 (w0 0) w1, pX1 cy (w1 0) q2 σ2]) (Cs' := [pX8 o0 w0, pX7 (w0 0) w1, pX1 cy (w1 0) q2 σ2]) S hw (c_X8_tellOfThing l D cy o0 w0 w1 q2 x1 x2 σ2 u hf) (MF.of S.2.2.2.2 wd690 wd70 (by decide)) (S.2.2.2.2.wd wd689 rfl) (S.2.2.2.2.wd wd19 rfl) hl hR js hC hnd hlen rfl rfl rfl rfl hsize rfl hrest hdg hcs kk
end
abbrev rmX8_told : Room := { frames := 4, cells := 0, slots := 0, locals := 85 }
def f_X8_told (x1 : Int32) (σ2 : pStt) (σ3 : pStt) (σ4 : pStt) (σ5 : pStt) : Option (Int32) := (f_X8_isWithin x1 0 69).bind (fun u_1 => if u_1 = 0 then some ((-2)) else if (x1 / 10) = 0 then (f_X8_tellOfAll ((x1 - x1 / 10 * 10)) σ2 σ3 σ4 σ5).bind (fun u_18 => some u_18) else if 3 < (x1 / 10) then if 5 < (x1 / 10) then (f_X8_isCorner ((x1 - x1 / 10 * 10))).bind (fun u_6 => (if u_6 = 0 then some ((-2)) else (ld (σ4.2 0) 8 ((x1 - x1 / 10 * 10))).bind (fun x_9 => some x_9) : Option Int32).bind (fun v_7 => some v_7)) else (f_X8_isThing ((x1 - x1 / 10 * 10))).bind (fun u_10 => (if u_10 = 0 then some ((-2)) else (f_X8_tellOfThing ((x1 / 10)) ((x1 - x1 / 10 * 10)) σ4).bind (fun u_13 => some u_13) : Option Int32).bind (fun v_11 => some v_11)) else (f_X8_isPerson ((x1 - x1 / 10 * 10))).bind (fun u_14 => (if u_14 = 0 then some ((-2)) else (f_X8_tellOfPerson ((x1 / 10)) ((x1 - x1 / 10 * 10)) σ4).bind (fun u_17 => some u_17) : Option Int32).bind (fun v_15 => some v_15)))
set_option maxHeartbeats 4000000 in
set_option maxRecDepth 100000 in
theorem c_X8_told (l : Launch) (D : va_G) (cy : Nat → ClassId) (o0 : Nat) (w0 : Nat → Nat) (w1 : Nat → Nat) (q2 : Nat → Nat) (q3 : Nat → Nat) (q4 : Nat → Nat) (q5 : Nat → Nat) (x1 : Int32) (σ2 : pStt) (σ3 : pStt) (σ4 : pStt) (σ5 : pStt) (u : Int32) (hf : f_X8_told x1 σ2 σ3 σ4 σ5 = some u) : CT l yX8_told cX8_told 4 (some .int) rmX8_told D cy [.ref o0, .int x1] [pX8 o0 w0, pX7 (w0 0) w1, pX5 cy (w1 2) q2 σ2, pX4 cy (w1 1) q3 σ3, pX1 cy (w1 0) q4 σ4, pX3 cy (w0 2) q5 σ5] (some (.int u)) [pX8 o0 w0, pX7 (w0 0) w1, pX5 cy (w1 2) q2 σ2, pX4 cy (w1 1) q3 σ3, pX1 cy (w1 0) q4 σ4, pX3 cy (w0 2) q5 σ5] := by
  refine CT.of (by decide) (Nat.le_of_ble_eq_true rfl) (fun p e s m args below meth c ls A Q hA hQ S hr hlk hl hw => ?_)
  have hl : lv_has ls 4 [(0, .ref o0), (1, .int x1)] := hl
  rw [f_X8_told] at hf
  refine lv_iload_n S.1 S.2.1 dX8_told_0 rfl (lv_at hl 1 rfl) ?_
  refine lv_iconst (v := 0) S.1 S.2.1 dX8_told_1 (by decide) ?_
  refine lv_bipush (v := 69) S.1 S.2.1 dX8_told_2 (by decide) ?_
  obtain ⟨u_1, e_u_1, hf⟩ := ob hf
  refine k_X8_isWithin S (S.2.2.2.2.wd wd287 rfl) hw e_u_1 [] rfl (by decide) rfl ⟨rfl, rfl, Nat.le_of_ble_eq_true rfl, Nat.le_of_ble_eq_true rfl⟩ hl.1 (Nat.le_of_ble_eq_true rfl) dX8_told_4 ⟨Nat.zero_le _, Nat.zero_le _⟩ (fun H locs hw => ?_)
  have hw : PW D A s.heap [pX8 o0 w0, pX7 (w0 0) w1, pX5 cy (w1 2) q2 σ2, pX4 cy (w1 1) q3 σ3, pX1 cy (w1 0) q4 σ4, pX3 cy (w0 2) q5 σ5] H locs := hw
  refine lv_if_ne (tgt := 13) S.1 S.2.1 dX8_told_7 (by decide) (fun c_2 => ?_) (fun c_2 => ?_)
  · replace hf := (if_neg c_2).symm.trans hf
    refine lv_iload_n S.1 S.2.1 dX8_told_13 rfl (lv_at hl 1 rfl) ?_
    refine lv_bipush (v := 10) S.1 S.2.1 dX8_told_14 (by decide) ?_
    refine lv_irem S.1 S.2.1 dX8_told_16 (by decide) ?_
    refine lv_istore_n (lv' := [(2, .int ((x1 - x1 / 10 * 10))), (0, .ref o0), (1, .int x1)]) S.1 S.2.1 dX8_told_17 rfl hl (by decide) rfl (fun ls hl => ?_)
    refine lv_iload_n S.1 S.2.1 dX8_told_18 rfl (lv_at hl 2 rfl) ?_
    refine lv_bipush (v := 10) S.1 S.2.1 dX8_told_19 (by decide) ?_
    refine lv_idiv S.1 S.2.1 dX8_told_21 (by decide) ?_
    refine lv_istore_n (lv' := [(3, .int ((x1 / 10))), (2, .int ((x1 - x1 / 10 * 10))), (0, .ref o0), (1, .int x1)]) S.1 S.2.1 dX8_told_22 rfl hl (by decide) rfl (fun ls hl => ?_)
    refine lv_iload_n S.1 S.2.1 dX8_told_23 rfl (lv_at hl 0 rfl) ?_
    refine lv_if_ne (tgt := 33) S.1 S.2.1 dX8_told_24 (by decide) (fun c_3 => ?_) (fun c_3 => ?_)
    · replace hf := (if_neg c_3).symm.trans hf
      refine lv_iload_n S.1 S.2.1 dX8_told_33 rfl (lv_at hl 0 rfl) ?_
      refine lv_iconst (v := 3) S.1 S.2.1 dX8_told_34 (by decide) ?_
      refine lv_icmp_gt (tgt := 57) S.1 S.2.1 dX8_told_35 (by decide) (fun c_4 => ?_) (fun c_4 => ?_)
      · replace hf := (if_pos c_4).symm.trans hf
        refine lv_iload_n S.1 S.2.1 dX8_told_57 rfl (lv_at hl 0 rfl) ?_
        refine lv_iconst (v := 5) S.1 S.2.1 dX8_told_58 (by decide) ?_
        refine lv_icmp_gt (tgt := 81) S.1 S.2.1 dX8_told_59 (by decide) (fun c_5 => ?_) (fun c_5 => ?_)
        · replace hf := (if_pos c_5).symm.trans hf
          refine lv_iload_n S.1 S.2.1 dX8_told_81 rfl (lv_at hl 1 rfl) ?_
          obtain ⟨u_6, e_u_6, hf⟩ := ob hf
          refine k_X8_isCorner S (S.2.2.2.2.wd wd284 rfl) hw e_u_6 [] rfl (by decide) rfl ⟨rfl, rfl, Nat.le_of_ble_eq_true rfl, Nat.le_of_ble_eq_true rfl⟩ hl.1 (Nat.le_of_ble_eq_true rfl) dX8_told_82 ⟨Nat.zero_le _, Nat.zero_le _⟩ (fun H locs hw => ?_)
          have hw : PW D A s.heap [pX8 o0 w0, pX7 (w0 0) w1, pX5 cy (w1 2) q2 σ2, pX4 cy (w1 1) q3 σ3, pX1 cy (w1 0) q4 σ4, pX3 cy (w0 2) q5 σ5] H locs := hw
          obtain ⟨v_7, e_v_7, hf⟩ := ob hf
          have hJ_v_7 : ∀ (H : Heap) (locs : List Loc), PW D A s.heap [pX8 o0 w0, pX7 (w0 0) w1, pX5 cy (w1 2) q2 σ2, pX4 cy (w1 1) q3 σ3, pX1 cy (w1 0) q4 σ4, pX3 cy (w0 2) q5 σ5] H locs → W p l e rmX8_told s m args below meth c H locs 0 0 Q (F0 m 105 ls [.int v_7]) := by
            intro H locs hw
            cases hf
            exact w_iret S hr hlk hA hQ hw dX8_told_105
          replace hf := e_v_7
          clear e_v_7
          refine lv_if_eq (tgt := 103) S.1 S.2.1 dX8_told_85 (by decide) (fun c_8 => ?_) (fun c_8 => ?_)
          · replace hf := (if_pos c_8).symm.trans hf
            refine lv_bipush (v := (-2)) S.1 S.2.1 dX8_told_103 (by decide) ?_
            cases hf
            exact hJ_v_7 _ _ hw
          · replace hf := (if_neg c_8).symm.trans hf
            refine lv_aload_n S.1 S.2.1 dX8_told_88 rfl (lv_at hl 2 rfl) ?_
            refine gf_X8_12 S hw 0 rfl dX8_told_89 ?_
            refine gf_X8_52 S hw 1 rfl dX8_told_92 ?_
            refine gf_X8_212 S hw 4 rfl dX8_told_95 ?_
            refine lv_iload_n S.1 S.2.1 dX8_told_98 rfl (lv_at hl 1 rfl) ?_
            obtain ⟨x_9, e_x_9, hf⟩ := ob hf
            refine al_X1_0 S hw 4 rfl e_x_9 dX8_told_99 ?_
            refine lv_goto (tgt := 105) S.1 S.2.1 dX8_told_100 (by decide) ?_
            cases hf
            exact hJ_v_7 _ _ hw
        · replace hf := (if_neg c_5).symm.trans hf
          refine lv_iload_n S.1 S.2.1 dX8_told_62 rfl (lv_at hl 1 rfl) ?_
          obtain ⟨u_10, e_u_10, hf⟩ := ob hf
          refine k_X8_isThing S (S.2.2.2.2.wd wd308 rfl) hw e_u_10 [] rfl (by decide) rfl ⟨rfl, rfl, Nat.le_of_ble_eq_true rfl, Nat.le_of_ble_eq_true rfl⟩ hl.1 (Nat.le_of_ble_eq_true rfl) dX8_told_63 ⟨Nat.zero_le _, Nat.zero_le _⟩ (fun H locs hw => ?_)
          have hw : PW D A s.heap [pX8 o0 w0, pX7 (w0 0) w1, pX5 cy (w1 2) q2 σ2, pX4 cy (w1 1) q3 σ3, pX1 cy (w1 0) q4 σ4, pX3 cy (w0 2) q5 σ5] H locs := hw
          obtain ⟨v_11, e_v_11, hf⟩ := ob hf
          have hJ_v_11 : ∀ (H : Heap) (locs : List Loc), PW D A s.heap [pX8 o0 w0, pX7 (w0 0) w1, pX5 cy (w1 2) q2 σ2, pX4 cy (w1 1) q3 σ3, pX1 cy (w1 0) q4 σ4, pX3 cy (w0 2) q5 σ5] H locs → W p l e rmX8_told s m args below meth c H locs 0 0 Q (F0 m 80 ls [.int v_11]) := by
            intro H locs hw
            cases hf
            exact w_iret S hr hlk hA hQ hw dX8_told_80
          replace hf := e_v_11
          clear e_v_11
          refine lv_if_eq (tgt := 78) S.1 S.2.1 dX8_told_66 (by decide) (fun c_12 => ?_) (fun c_12 => ?_)
          · replace hf := (if_pos c_12).symm.trans hf
            refine lv_bipush (v := (-2)) S.1 S.2.1 dX8_told_78 (by decide) ?_
            cases hf
            exact hJ_v_11 _ _ hw
          · replace hf := (if_neg c_12).symm.trans hf
            refine lv_aload_n S.1 S.2.1 dX8_told_69 rfl (lv_at hl 2 rfl) ?_
            refine lv_iload_n S.1 S.2.1 dX8_told_70 rfl (lv_at hl 0 rfl) ?_
            refine lv_iload_n S.1 S.2.1 dX8_told_71 rfl (lv_at hl 1 rfl) ?_
            obtain ⟨u_13, e_u_13, hf⟩ := ob hf
            refine k_X8_tellOfThing S (S.2.2.2.2.wd wd687 rfl) hw e_u_13 [0, 1, 4] rfl (by decide) rfl ⟨rfl, rfl, Nat.le_of_ble_eq_true rfl, Nat.le_of_ble_eq_true rfl⟩ hl.1 (Nat.le_of_ble_eq_true rfl) dX8_told_72 ⟨Nat.zero_le _, Nat.zero_le _⟩ (fun H locs hw => ?_)
            have hw : PW D A s.heap [pX8 o0 w0, pX7 (w0 0) w1, pX5 cy (w1 2) q2 σ2, pX4 cy (w1 1) q3 σ3, pX1 cy (w1 0) q4 σ4, pX3 cy (w0 2) q5 σ5] H locs := hw
            refine lv_goto (tgt := 80) S.1 S.2.1 dX8_told_75 (by decide) ?_
            cases hf
            exact hJ_v_11 _ _ hw
      · replace hf := (if_neg c_4).symm.trans hf
        refine lv_iload_n S.1 S.2.1 dX8_told_38 rfl (lv_at hl 1 rfl) ?_
        obtain ⟨u_14, e_u_14, hf⟩ := ob hf
        refine k_X8_isPerson S (S.2.2.2.2.wd wd320 rfl) hw e_u_14 [] rfl (by decide) rfl ⟨rfl, rfl, Nat.le_of_ble_eq_true rfl, Nat.le_of_ble_eq_true rfl⟩ hl.1 (Nat.le_of_ble_eq_true rfl) dX8_told_39 ⟨Nat.zero_le _, Nat.zero_le _⟩ (fun H locs hw => ?_)
        have hw : PW D A s.heap [pX8 o0 w0, pX7 (w0 0) w1, pX5 cy (w1 2) q2 σ2, pX4 cy (w1 1) q3 σ3, pX1 cy (w1 0) q4 σ4, pX3 cy (w0 2) q5 σ5] H locs := hw
        obtain ⟨v_15, e_v_15, hf⟩ := ob hf
        have hJ_v_15 : ∀ (H : Heap) (locs : List Loc), PW D A s.heap [pX8 o0 w0, pX7 (w0 0) w1, pX5 cy (w1 2) q2 σ2, pX4 cy (w1 1) q3 σ3, pX1 cy (w1 0) q4 σ4, pX3 cy (w0 2) q5 σ5] H locs → W p l e rmX8_told s m args below meth c H locs 0 0 Q (F0 m 56 ls [.int v_15]) := by
          intro H locs hw
          cases hf
          exact w_iret S hr hlk hA hQ hw dX8_told_56
        replace hf := e_v_15
        clear e_v_15
        refine lv_if_eq (tgt := 54) S.1 S.2.1 dX8_told_42 (by decide) (fun c_16 => ?_) (fun c_16 => ?_)
        · replace hf := (if_pos c_16).symm.trans hf
          refine lv_bipush (v := (-2)) S.1 S.2.1 dX8_told_54 (by decide) ?_
          cases hf
          exact hJ_v_15 _ _ hw
        · replace hf := (if_neg c_16).symm.trans hf
          refine lv_aload_n S.1 S.2.1 dX8_told_45 rfl (lv_at hl 2 rfl) ?_
          refine lv_iload_n S.1 S.2.1 dX8_told_46 rfl (lv_at hl 0 rfl) ?_
          refine lv_iload_n S.1 S.2.1 dX8_told_47 rfl (lv_at hl 1 rfl) ?_
          obtain ⟨u_17, e_u_17, hf⟩ := ob hf
          refine k_X8_tellOfPerson S (S.2.2.2.2.wd wd683 rfl) hw e_u_17 [0, 1, 4] rfl (by decide) rfl ⟨rfl, rfl, Nat.le_of_ble_eq_true rfl, Nat.le_of_ble_eq_true rfl⟩ hl.1 (Nat.le_of_ble_eq_true rfl) dX8_told_48 ⟨Nat.zero_le _, Nat.zero_le _⟩ (fun H locs hw => ?_)
          have hw : PW D A s.heap [pX8 o0 w0, pX7 (w0 0) w1, pX5 cy (w1 2) q2 σ2, pX4 cy (w1 1) q3 σ3, pX1 cy (w1 0) q4 σ4, pX3 cy (w0 2) q5 σ5] H locs := hw
          refine lv_goto (tgt := 56) S.1 S.2.1 dX8_told_51 (by decide) ?_
          cases hf
          exact hJ_v_15 _ _ hw
    · replace hf := (if_pos c_3).symm.trans hf
      refine lv_aload_n S.1 S.2.1 dX8_told_27 rfl (lv_at hl 2 rfl) ?_
      refine lv_iload_n S.1 S.2.1 dX8_told_28 rfl (lv_at hl 1 rfl) ?_
      obtain ⟨u_18, e_u_18, hf⟩ := ob hf
      refine k_X8_tellOfAll S (S.2.2.2.2.wd wd679 rfl) hw e_u_18 [0, 1, 2, 3, 4, 5] rfl (by decide) rfl ⟨rfl, rfl, Nat.le_of_ble_eq_true rfl, Nat.le_of_ble_eq_true rfl⟩ hl.1 (Nat.le_of_ble_eq_true rfl) dX8_told_29 ⟨Nat.zero_le _, Nat.zero_le _⟩ (fun H locs hw => ?_)
      have hw : PW D A s.heap [pX8 o0 w0, pX7 (w0 0) w1, pX5 cy (w1 2) q2 σ2, pX4 cy (w1 1) q3 σ3, pX1 cy (w1 0) q4 σ4, pX3 cy (w0 2) q5 σ5] H locs := hw
      cases hf
      exact w_iret S hr hlk hA hQ hw dX8_told_32
  · replace hf := (if_pos c_2).symm.trans hf
    refine lv_bipush (v := (-2)) S.1 S.2.1 dX8_told_10 (by decide) ?_
    cases hf
    exact w_iret S hr hlk hA hQ hw dX8_told_12
section
variable {p : Program} {l : Launch} {e : Env} {R : Room} {s : State} {m : MethodId} {args : Array Value} {below : List Frame} {meth : Method} {c : Code} {H : Heap} {locs : List Loc} {cells slots : Nat} {Q : State → Prop} {cc : ByteArray} {pc nL : Nat} {ls : Array Slot} {rest : List Value} {D : va_G} {cy : Nat → ClassId} {A : Nat → Prop} {H0 : Heap} {own : String} {Ps : List va_W}
set_option maxRecDepth 100000 in
theorem k_X8_told {o0 : Nat} {w0 : Nat → Nat} {w1 : Nat → Nat} {q2 : Nat → Nat} {q3 : Nat → Nat} {q4 : Nat → Nat} {q5 : Nat → Nat} {x1 : Int32} {σ2 : pStt} {σ3 : pStt} {σ4 : pStt} {σ5 : pStt} {u : Int32} {index : Nat} (S : CX p m c cc nL s args own D cy) (hl : (Cond.methodLink own index yX8_told).before args s = true) (hw : PW D A H0 Ps H locs) (hf : f_X8_told x1 σ2 σ3 σ4 σ5 = some u) (js : List Nat) (hC : js.map (fun j => Ps[j]?) = [some (pX8 o0 w0), some (pX7 (w0 0) w1), some (pX5 cy (w1 2) q2 σ2), some (pX4 cy (w1 1) q3 σ3), some (pX1 cy (w1 0) q4 σ4), some (pX3 cy (w0 2) q5 σ5)]) (hnd : js.Nodup) (hlen : js.length = 6) (hR : RMok rmX8_told R 4) (hsize : ls.size = nL) (hrest : (rest.map fun v => v.category).sum ≤ 8) (hdg : decode cc pc = .ok (.invokevirtual index, 3)) (hcs : cells ≤ R.cells ∧ slots ≤ R.slots)
    (kk : ∀ (H1 : Heap) (locs1 : List Loc), PW D A H0 (setAll Ps js [pX8 o0 w0, pX7 (w0 0) w1, pX5 cy (w1 2) q2 σ2, pX4 cy (w1 1) q3 σ3, pX1 cy (w1 0) q4 σ4, pX3 cy (w0 2) q5 σ5]) H1 locs1 → W p l e R s m args below meth c H1 locs1 cells slots Q (F0 m (pc + 3) ls (.int u :: rest))) : W p l e R s m args below meth c H locs cells slots Q (F0 m pc ls (.int x1 :: .ref o0 :: rest)) :=
  w_callV (n := 1) (ov := (some (.int u))) (As := [.int x1]) (Cs := [pX8 o0 w0, pX7 (w0 0) w1, pX5 cy (w1 2) q2 σ2, pX4 cy (w1 1) q3 σ3, pX1 cy (w1 0) q4 σ4, pX3 cy (w0 2) q5 σ5]) (Cs' := [pX8 o0 w0, pX7 (w0 0) w1, pX5 cy (w1 2) q2 σ2, pX4 cy (w1 1) q3 σ3, pX1 cy (w1 0) q4 σ4, pX3 cy (w0 2) q5 σ5]) S hw (c_X8_told l D cy o0 w0 w1 q2 q3 q4 q5 x1 σ2 σ3 σ4 σ5 u hf) (MF.of S.2.2.2.2 wd678 wd70 (by decide)) (S.2.2.2.2.wd wd676 rfl) (S.2.2.2.2.wd wd677 rfl) hl hR js hC hnd hlen rfl rfl rfl rfl hsize rfl hrest hdg hcs kk
end
