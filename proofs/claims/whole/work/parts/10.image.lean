set_option maxRecDepth 100000 in
theorem wd656 : Cond.methodLink RX8 242 yX7_copyFrom ∈ lw_tbl := List.mem_of_getElem? (i := 656) (by decide +kernel)
section
variable {p : Program} {l : Launch} {e : Env} {R : Room} {s : State} {m : MethodId} {args : Array Value} {below : List Frame} {meth : Method} {c : Code} {H : Heap} {locs : List Loc} {cells slots : Nat} {Q : State → Prop} {cc : ByteArray} {pc nL : Nat} {ls : Array Slot} {rest : List Value} {D : va_G} {cy : Nat → ClassId} {A : Nat → Prop} {H0 : Heap} {own : String} {Ps : List va_W}
variable {a : Nat}
set_option maxRecDepth 100000 in
theorem gf_X8_16 {w : Nat → Nat} (S : CX p m c cc nL s args RX8 D cy) (hw : PW D A H0 Ps H locs) (j : Nat) (hj : Ps[j]? = some (pX8 a w)) (hdg : decode cc pc = .ok (.getfield 16, 3)) (kk : W p l e R s m args below meth c H locs cells slots Q (F0 m (pc + 3) ls (.ref (w 1) :: rest))) : W p l e R s m args below meth c H locs cells slots Q (F0 m pc ls (.ref a :: rest)) :=
  w_get S hw j 0 hj rfl rfl (lay_X8 S.2.2.2.2) 1 (by decide) (S.2.2.2.2.wd wd262 rfl) rfl rfl hdg kk
end
abbrev rmX8_imageN : Room := { frames := 3, cells := 11, slots := 75, locals := 82 }
abbrev rmX8_imageS : Room := { frames := 3, cells := 0, slots := 0, locals := 82 }
set_option maxHeartbeats 4000000 in
set_option maxRecDepth 100000 in
theorem c_X8_imageO (l : Launch) (D : va_G) (cy : Nat → ClassId) (o0 : Nat) (w0 : Nat → Nat) (x1 : Int32) (hiw : f_X8_isWithin x1 0 1 = some 0) : CT l yX8_image cX8_image 3 (some .int) rmX8_imageS D cy [.ref o0, .int x1] [pX8 o0 w0] (some (.int (-2))) [pX8 o0 w0] := by
  refine CT.of (by decide) (Nat.le_of_ble_eq_true rfl) (fun p e s m args below meth c ls A Q hA hQ S hr hlk hl hw => ?_)
  have hl : lv_has ls 3 [(0, .ref o0), (1, .int x1)] := hl
  refine lv_iload_n S.1 S.2.1 dX8_image_0 rfl (lv_at hl 1 rfl) ?_
  refine lv_iconst (v := 0) S.1 S.2.1 dX8_image_1 (by decide) ?_
  refine lv_iconst (v := 1) S.1 S.2.1 dX8_image_2 (by decide) ?_
  refine k_X8_isWithin S (S.2.2.2.2.wd wd287 rfl) hw hiw [] rfl (by decide) rfl ⟨rfl, rfl, Nat.le_of_ble_eq_true rfl, Nat.le_of_ble_eq_true rfl⟩ hl.1 (Nat.le_of_ble_eq_true rfl) dX8_image_3 ⟨Nat.zero_le _, Nat.zero_le _⟩ (fun H locs hw => ?_)
  have hw : PW D A s.heap [pX8 o0 w0] H locs := hw
  refine lv_if_ne (tgt := 12) S.1 S.2.1 dX8_image_6 (by decide) (fun c => absurd rfl c) (fun c => ?_)
  refine lv_bipush (v := (-2)) S.1 S.2.1 dX8_image_9 (by decide) ?_
  exact w_iret S hr hlk hA hQ hw dX8_image_11
set_option maxHeartbeats 4000000 in
set_option maxRecDepth 100000 in
theorem c_X8_restoreO (l : Launch) (D : va_G) (cy : Nat → ClassId) (o0 : Nat) (w0 : Nat → Nat) (x1 : Int32) (hiw : f_X8_isWithin x1 0 1 = some 0) : CT l yX8_restore cX8_restore 3 (some .int) rmX8_imageS D cy [.ref o0, .int x1] [pX8 o0 w0] (some (.int (-2))) [pX8 o0 w0] := by
  refine CT.of (by decide) (Nat.le_of_ble_eq_true rfl) (fun p e s m args below meth c ls A Q hA hQ S hr hlk hl hw => ?_)
  have hl : lv_has ls 3 [(0, .ref o0), (1, .int x1)] := hl
  refine lv_iload_n S.1 S.2.1 dX8_restore_0 rfl (lv_at hl 1 rfl) ?_
  refine lv_iconst (v := 0) S.1 S.2.1 dX8_restore_1 (by decide) ?_
  refine lv_iconst (v := 1) S.1 S.2.1 dX8_restore_2 (by decide) ?_
  refine k_X8_isWithin S (S.2.2.2.2.wd wd287 rfl) hw hiw [] rfl (by decide) rfl ⟨rfl, rfl, Nat.le_of_ble_eq_true rfl, Nat.le_of_ble_eq_true rfl⟩ hl.1 (Nat.le_of_ble_eq_true rfl) dX8_restore_3 ⟨Nat.zero_le _, Nat.zero_le _⟩ (fun H locs hw => ?_)
  have hw : PW D A s.heap [pX8 o0 w0] H locs := hw
  refine lv_if_ne (tgt := 12) S.1 S.2.1 dX8_restore_6 (by decide) (fun c => absurd rfl c) (fun c => ?_)
  refine lv_bipush (v := (-2)) S.1 S.2.1 dX8_restore_9 (by decide) ?_
  exact w_iret S hr hlk hA hQ hw dX8_restore_11
set_option maxHeartbeats 4000000 in
set_option maxRecDepth 100000 in
theorem c_X8_imageN (l : Launch) (D : va_G) (cy : Nat → ClassId) (o0 : Nat) (w0 w1 q1 q4 q5 : Nat → Nat) (σ1 σ4 σ5 : pStt) (r : Nat → Option Nat) (x1 : Int32) (hk : x1 = 0 ∨ x1 = 1) (hr0 : r x1.toNatClampNeg = none) (uX1 : pStt) (huX1 : f_X1_init (sI zS 1 1) = some uX1) (u : pStt × pStt × pStt) (hu : f_X7_copyFrom uX1 σ1 zS σ4 zS σ5 = some u) : CTX l yX8_image cX8_image 3 (some .int) rmX8_imageN D cy [.ref o0, .int x1] [pX8 o0 w0, pX1 cy (w1 0) q1 σ1, pX4 cy (w1 1) q4 σ4, pX5 cy (w1 2) q5 σ5, pX7 (w0 0) w1, pIm cy (w0 1) r, [], [], [], []] (some (.int 1)) (fun x => [pX8 o0 w0, pX1 cy (w1 0) q1 σ1, pX4 cy (w1 1) q4 σ4, pX5 cy (w1 2) q5 σ5, pX7 (w0 0) w1, pIm cy (w0 1) (va_up r x1.toNatClampNeg (some (x 4 0))), pX1 cy (x 0 0) (x 1) u.1, pX4 cy (x 0 1) (x 2) u.2.1, pX5 cy (x 0 2) (x 3) u.2.2, pX7 (x 4 0) (x 0)]) 11 75 := by
  refine CTX.of (by decide) (Nat.le_of_ble_eq_true rfl) (fun p e s m args below meth c ls A Q hA hQ S hr hlk hnm hl hw => ?_)
  have hl : lv_has ls 3 [(0, .ref o0), (1, .int x1)] := hl
  have hiw : f_X8_isWithin x1 0 1 = some 1 := by rcases hk with rfl | rfl <;> decide
  have hi2 : vp_in x1 2 := by rcases hk with rfl | rfl <;> exact vp_in_iff.mpr (by decide)
  refine lv_iload_n S.1 S.2.1 dX8_image_0 rfl (lv_at hl 1 rfl) ?_
  refine lv_iconst (v := 0) S.1 S.2.1 dX8_image_1 (by decide) ?_
  refine lv_iconst (v := 1) S.1 S.2.1 dX8_image_2 (by decide) ?_
  refine k_X8_isWithin S (S.2.2.2.2.wd wd287 rfl) hw hiw [] rfl (by decide) rfl ⟨rfl, rfl, Nat.le_of_ble_eq_true rfl, Nat.le_of_ble_eq_true rfl⟩ hl.1 (Nat.le_of_ble_eq_true rfl) dX8_image_3 ⟨Nat.zero_le _, Nat.zero_le _⟩ (fun H locs hw => ?_)
  have hw : PW D A s.heap [pX8 o0 w0, pX1 cy (w1 0) q1 σ1, pX4 cy (w1 1) q4 σ4, pX5 cy (w1 2) q5 σ5, pX7 (w0 0) w1, pIm cy (w0 1) r, [], [], [], []] H locs := hw
  refine lv_if_ne (tgt := 12) S.1 S.2.1 dX8_image_6 (by decide) (fun c => ?_) (fun c => absurd c (by decide))
  refine lv_aload_n S.1 S.2.1 dX8_image_12 rfl (lv_at hl 0 rfl) ?_
  refine gf_X8_16 S hw 0 rfl dX8_image_13 ?_
  refine lv_iload_n S.1 S.2.1 dX8_image_16 rfl (lv_at hl 1 rfl) ?_
  refine x_aldW S hw 5 rfl hi2 dX8_image_17 ?_
  rw [hr0]
  refine lv_astore_nN (lv' := [(2, .null), (0, .ref o0), (1, .int x1)]) S.1 S.2.1 dX8_image_18 rfl hl (by decide) rfl (fun ls hl => ?_)
  refine lv_aload_nN S.1 S.2.1 dX8_image_19 rfl (lv_at hl 0 rfl) ?_
  refine lv_ifnonnullN S.1 S.2.1 dX8_image_20 ?_
  refine x_new (ci := 7) (fs := [.null, .null, .null]) S hw rfl (lay_X7 S.2.2.2.2) tyX7 tyX7_ok (S.2.2.2.2.wd wd91 rfl) (S.2.2.2.2.wd wd92 rfl) (S.2.2.2.2.wd wd71 rfl) (fun j hj => by rcases (show j = 0 ∨ j = 1 ∨ j = 2 by omega) with rfl | rfl | rfl <;> rfl) (Nat.le_of_ble_eq_true rfl) (Nat.le_of_ble_eq_true rfl) dX8_image_23 (fun a H hw => ?_)
  have hw : PW D A s.heap [pX8 o0 w0, pX1 cy (w1 0) q1 σ1, pX4 cy (w1 1) q4 σ4, pX5 cy (w1 2) q5 σ5, pX7 (w0 0) w1, pIm cy (w0 1) r, [], [], [], [], [(a, .inr (7, [.null, .null, .null]))]] H _ := hw
  refine lv_dup S.1 S.2.1 dX8_image_26 rfl ?_
  refine x_callIN (host := "SwornLane") (n := 0) (As := []) S hw (c_X7_init l D cy a uX1 huX1) (MF.of S.2.2.2.2 wd95 wd71 (by decide)) (S.2.2.2.2.wd wd94 rfl) rfl (S.2.2.2.2.wd wd93 rfl) ⟨rfl, rfl, Nat.le_of_ble_eq_true rfl, Nat.le_of_ble_eq_true rfl⟩ [10, 6, 7, 8] rfl (by decide) (fun _ => rfl) rfl hl.1 rfl (Nat.le_of_ble_eq_true rfl) dX8_image_27 ⟨Nat.le_of_ble_eq_true rfl, Nat.le_of_ble_eq_true rfl⟩ (fun x H locs hw => ?_)
  have hw : PW D A s.heap [pX8 o0 w0, pX1 cy (w1 0) q1 σ1, pX4 cy (w1 1) q4 σ4, pX5 cy (w1 2) q5 σ5, pX7 (w0 0) w1, pIm cy (w0 1) r, pX1 cy (x 0 0) (x 1) uX1, pX4 cy (x 0 1) (x 2) zS, pX5 cy (x 0 2) (x 3) zS, [], pX7 a (x 0)] H locs := hw
  refine lv_astore_n (lv' := [(2, .ref a), (0, .ref o0), (1, .int x1)]) S.1 S.2.1 dX8_image_30 rfl hl (by decide) rfl (fun ls hl => ?_)
  refine lv_aload_n S.1 S.2.1 dX8_image_31 rfl (lv_at hl 1 rfl) ?_
  refine gf_X8_16 S hw 0 rfl dX8_image_32 ?_
  refine lv_iload_n S.1 S.2.1 dX8_image_35 rfl (lv_at hl 2 rfl) ?_
  refine lv_aload_n S.1 S.2.1 dX8_image_36 rfl (lv_at hl 0 rfl) ?_
  refine x_astW (j2 := 10) S hw 5 rfl rfl hi2 dX8_image_37 (fun H locs hw => ?_)
  have hw : PW D A s.heap [pX8 o0 w0, pX1 cy (w1 0) q1 σ1, pX4 cy (w1 1) q4 σ4, pX5 cy (w1 2) q5 σ5, pX7 (w0 0) w1, pIm cy (w0 1) (va_up r x1.toNatClampNeg (some a)), pX1 cy (x 0 0) (x 1) uX1, pX4 cy (x 0 1) (x 2) zS, pX5 cy (x 0 2) (x 3) zS, [], pX7 a (x 0)] H locs := hw
  refine lv_aload_n S.1 S.2.1 dX8_image_38 rfl (lv_at hl 0 rfl) ?_
  refine lv_aload_n S.1 S.2.1 dX8_image_39 rfl (lv_at hl 1 rfl) ?_
  refine gf_X8_12 S hw 0 rfl dX8_image_40 ?_
  refine k_X7_copyFrom S (S.2.2.2.2.wd wd656 rfl) hw hu [10, 4, 6, 1, 7, 2, 8, 3] rfl (by decide) rfl ⟨rfl, rfl, Nat.le_of_ble_eq_true rfl, Nat.le_of_ble_eq_true rfl⟩ hl.1 (Nat.le_of_ble_eq_true rfl) dX8_image_43 ⟨Nat.le_of_ble_eq_true rfl, Nat.le_of_ble_eq_true rfl⟩ (fun H locs hw => ?_)
  have hw : PW D A s.heap [pX8 o0 w0, pX1 cy (w1 0) q1 σ1, pX4 cy (w1 1) q4 σ4, pX5 cy (w1 2) q5 σ5, pX7 (w0 0) w1, pIm cy (w0 1) (va_up r x1.toNatClampNeg (some a)), pX1 cy (x 0 0) (x 1) u.1, pX4 cy (x 0 1) (x 2) u.2.1, pX5 cy (x 0 2) (x 3) u.2.2, [], pX7 a (x 0)] H locs := hw
  refine lv_iconst (v := 1) S.1 S.2.1 dX8_image_46 (by decide) ?_
  exact x_iret (xf [x 0, x 1, x 2, x 3, qf [a]]) S hr hlk hA hQ (pw_cast hw rfl) dX8_image_47
set_option maxHeartbeats 4000000 in
set_option maxRecDepth 100000 in
theorem c_X8_imageS (l : Launch) (D : va_G) (cy : Nat → ClassId) (o0 : Nat) (w0 w1 q1 q4 q5 : Nat → Nat) (σ1 σ4 σ5 : pStt) (r : Nat → Option Nat) (x1 : Int32) (a : Nat) (w2 p1 p4 p5 : Nat → Nat) (τ1 τ4 τ5 : pStt) (hk : x1 = 0 ∨ x1 = 1) (hr0 : r x1.toNatClampNeg = some a) (u : pStt × pStt × pStt) (hu : f_X7_copyFrom τ1 σ1 τ4 σ4 τ5 σ5 = some u) : CT l yX8_image cX8_image 3 (some .int) rmX8_imageS D cy [.ref o0, .int x1] [pX8 o0 w0, pX1 cy (w1 0) q1 σ1, pX4 cy (w1 1) q4 σ4, pX5 cy (w1 2) q5 σ5, pX7 (w0 0) w1, pIm cy (w0 1) r, pX1 cy (w2 0) p1 τ1, pX4 cy (w2 1) p4 τ4, pX5 cy (w2 2) p5 τ5, pX7 a w2] (some (.int 1)) [pX8 o0 w0, pX1 cy (w1 0) q1 σ1, pX4 cy (w1 1) q4 σ4, pX5 cy (w1 2) q5 σ5, pX7 (w0 0) w1, pIm cy (w0 1) r, pX1 cy (w2 0) p1 u.1, pX4 cy (w2 1) p4 u.2.1, pX5 cy (w2 2) p5 u.2.2, pX7 a w2] := by
  refine CT.of (by decide) (Nat.le_of_ble_eq_true rfl) (fun p e s m args below meth c ls A Q hA hQ S hr hlk hl hw => ?_)
  have hl : lv_has ls 3 [(0, .ref o0), (1, .int x1)] := hl
  have hiw : f_X8_isWithin x1 0 1 = some 1 := by rcases hk with rfl | rfl <;> decide
  have hi2 : vp_in x1 2 := by rcases hk with rfl | rfl <;> exact vp_in_iff.mpr (by decide)
  refine lv_iload_n S.1 S.2.1 dX8_image_0 rfl (lv_at hl 1 rfl) ?_
  refine lv_iconst (v := 0) S.1 S.2.1 dX8_image_1 (by decide) ?_
  refine lv_iconst (v := 1) S.1 S.2.1 dX8_image_2 (by decide) ?_
  refine k_X8_isWithin S (S.2.2.2.2.wd wd287 rfl) hw hiw [] rfl (by decide) rfl ⟨rfl, rfl, Nat.le_of_ble_eq_true rfl, Nat.le_of_ble_eq_true rfl⟩ hl.1 (Nat.le_of_ble_eq_true rfl) dX8_image_3 ⟨Nat.zero_le _, Nat.zero_le _⟩ (fun H locs hw => ?_)
  have hw : PW D A s.heap [pX8 o0 w0, pX1 cy (w1 0) q1 σ1, pX4 cy (w1 1) q4 σ4, pX5 cy (w1 2) q5 σ5, pX7 (w0 0) w1, pIm cy (w0 1) r, pX1 cy (w2 0) p1 τ1, pX4 cy (w2 1) p4 τ4, pX5 cy (w2 2) p5 τ5, pX7 a w2] H locs := hw
  refine lv_if_ne (tgt := 12) S.1 S.2.1 dX8_image_6 (by decide) (fun c => ?_) (fun c => absurd c (by decide))
  refine lv_aload_n S.1 S.2.1 dX8_image_12 rfl (lv_at hl 0 rfl) ?_
  refine gf_X8_16 S hw 0 rfl dX8_image_13 ?_
  refine lv_iload_n S.1 S.2.1 dX8_image_16 rfl (lv_at hl 1 rfl) ?_
  refine x_aldW S hw 5 rfl hi2 dX8_image_17 ?_
  rw [hr0]
  refine lv_astore_n (x := a) (lv' := [(2, .ref a), (0, .ref o0), (1, .int x1)]) S.1 S.2.1 dX8_image_18 rfl hl (by decide) rfl (fun ls hl => ?_)
  refine lv_aload_n S.1 S.2.1 dX8_image_19 rfl (lv_at hl 0 rfl) ?_
  refine lv_ifnonnull (tgt := 38) S.1 S.2.1 dX8_image_20 (by decide) ?_
  refine lv_aload_n S.1 S.2.1 dX8_image_38 rfl (lv_at hl 0 rfl) ?_
  refine lv_aload_n S.1 S.2.1 dX8_image_39 rfl (lv_at hl 1 rfl) ?_
  refine gf_X8_12 S hw 0 rfl dX8_image_40 ?_
  refine k_X7_copyFrom S (S.2.2.2.2.wd wd656 rfl) hw hu [9, 4, 6, 1, 7, 2, 8, 3] rfl (by decide) rfl ⟨rfl, rfl, Nat.le_of_ble_eq_true rfl, Nat.le_of_ble_eq_true rfl⟩ hl.1 (Nat.le_of_ble_eq_true rfl) dX8_image_43 ⟨Nat.zero_le _, Nat.zero_le _⟩ (fun H locs hw => ?_)
  have hw : PW D A s.heap [pX8 o0 w0, pX1 cy (w1 0) q1 σ1, pX4 cy (w1 1) q4 σ4, pX5 cy (w1 2) q5 σ5, pX7 (w0 0) w1, pIm cy (w0 1) r, pX1 cy (w2 0) p1 u.1, pX4 cy (w2 1) p4 u.2.1, pX5 cy (w2 2) p5 u.2.2, pX7 a w2] H locs := hw
  refine lv_iconst (v := 1) S.1 S.2.1 dX8_image_46 (by decide) ?_
  exact w_iret S hr hlk hA hQ hw dX8_image_47
set_option maxHeartbeats 4000000 in
set_option maxRecDepth 100000 in
theorem c_X8_restoreN (l : Launch) (D : va_G) (cy : Nat → ClassId) (o0 : Nat) (w0 : Nat → Nat) (r : Nat → Option Nat) (x1 : Int32) (hk : x1 = 0 ∨ x1 = 1) (hr0 : r x1.toNatClampNeg = none) : CT l yX8_restore cX8_restore 3 (some .int) rmX8_imageS D cy [.ref o0, .int x1] [pX8 o0 w0, pIm cy (w0 1) r] (some (.int (-3))) [pX8 o0 w0, pIm cy (w0 1) r] := by
  refine CT.of (by decide) (Nat.le_of_ble_eq_true rfl) (fun p e s m args below meth c ls A Q hA hQ S hr hlk hl hw => ?_)
  have hl : lv_has ls 3 [(0, .ref o0), (1, .int x1)] := hl
  have hiw : f_X8_isWithin x1 0 1 = some 1 := by rcases hk with rfl | rfl <;> decide
  have hi2 : vp_in x1 2 := by rcases hk with rfl | rfl <;> exact vp_in_iff.mpr (by decide)
  refine lv_iload_n S.1 S.2.1 dX8_restore_0 rfl (lv_at hl 1 rfl) ?_
  refine lv_iconst (v := 0) S.1 S.2.1 dX8_restore_1 (by decide) ?_
  refine lv_iconst (v := 1) S.1 S.2.1 dX8_restore_2 (by decide) ?_
  refine k_X8_isWithin S (S.2.2.2.2.wd wd287 rfl) hw hiw [] rfl (by decide) rfl ⟨rfl, rfl, Nat.le_of_ble_eq_true rfl, Nat.le_of_ble_eq_true rfl⟩ hl.1 (Nat.le_of_ble_eq_true rfl) dX8_restore_3 ⟨Nat.zero_le _, Nat.zero_le _⟩ (fun H locs hw => ?_)
  have hw : PW D A s.heap [pX8 o0 w0, pIm cy (w0 1) r] H locs := hw
  refine lv_if_ne (tgt := 12) S.1 S.2.1 dX8_restore_6 (by decide) (fun c => ?_) (fun c => absurd c (by decide))
  refine lv_aload_n S.1 S.2.1 dX8_restore_12 rfl (lv_at hl 0 rfl) ?_
  refine gf_X8_16 S hw 0 rfl dX8_restore_13 ?_
  refine lv_iload_n S.1 S.2.1 dX8_restore_16 rfl (lv_at hl 1 rfl) ?_
  refine x_aldW S hw 1 rfl hi2 dX8_restore_17 ?_
  rw [hr0]
  refine lv_astore_nN (lv' := [(2, .null), (0, .ref o0), (1, .int x1)]) S.1 S.2.1 dX8_restore_18 rfl hl (by decide) rfl (fun ls hl => ?_)
  refine lv_aload_nN S.1 S.2.1 dX8_restore_19 rfl (lv_at hl 0 rfl) ?_
  refine lv_ifnonnullN S.1 S.2.1 dX8_restore_20 ?_
  refine lv_bipush (v := (-3)) S.1 S.2.1 dX8_restore_23 (by decide) ?_
  exact w_iret S hr hlk hA hQ hw dX8_restore_25
set_option maxHeartbeats 4000000 in
set_option maxRecDepth 100000 in
theorem c_X8_restoreS (l : Launch) (D : va_G) (cy : Nat → ClassId) (o0 : Nat) (w0 w1 q1 q4 q5 : Nat → Nat) (σ1 σ4 σ5 : pStt) (r : Nat → Option Nat) (x1 : Int32) (a : Nat) (w2 p1 p4 p5 : Nat → Nat) (τ1 τ4 τ5 : pStt) (hk : x1 = 0 ∨ x1 = 1) (hr0 : r x1.toNatClampNeg = some a) (u : pStt × pStt × pStt) (hu : f_X7_copyFrom σ1 τ1 σ4 τ4 σ5 τ5 = some u) : CT l yX8_restore cX8_restore 3 (some .int) rmX8_imageS D cy [.ref o0, .int x1] [pX8 o0 w0, pX1 cy (w1 0) q1 σ1, pX4 cy (w1 1) q4 σ4, pX5 cy (w1 2) q5 σ5, pX7 (w0 0) w1, pIm cy (w0 1) r, pX1 cy (w2 0) p1 τ1, pX4 cy (w2 1) p4 τ4, pX5 cy (w2 2) p5 τ5, pX7 a w2] (some (.int 1)) [pX8 o0 w0, pX1 cy (w1 0) q1 u.1, pX4 cy (w1 1) q4 u.2.1, pX5 cy (w1 2) q5 u.2.2, pX7 (w0 0) w1, pIm cy (w0 1) r, pX1 cy (w2 0) p1 τ1, pX4 cy (w2 1) p4 τ4, pX5 cy (w2 2) p5 τ5, pX7 a w2] := by
  refine CT.of (by decide) (Nat.le_of_ble_eq_true rfl) (fun p e s m args below meth c ls A Q hA hQ S hr hlk hl hw => ?_)
  have hl : lv_has ls 3 [(0, .ref o0), (1, .int x1)] := hl
  have hiw : f_X8_isWithin x1 0 1 = some 1 := by rcases hk with rfl | rfl <;> decide
  have hi2 : vp_in x1 2 := by rcases hk with rfl | rfl <;> exact vp_in_iff.mpr (by decide)
  refine lv_iload_n S.1 S.2.1 dX8_restore_0 rfl (lv_at hl 1 rfl) ?_
  refine lv_iconst (v := 0) S.1 S.2.1 dX8_restore_1 (by decide) ?_
  refine lv_iconst (v := 1) S.1 S.2.1 dX8_restore_2 (by decide) ?_
  refine k_X8_isWithin S (S.2.2.2.2.wd wd287 rfl) hw hiw [] rfl (by decide) rfl ⟨rfl, rfl, Nat.le_of_ble_eq_true rfl, Nat.le_of_ble_eq_true rfl⟩ hl.1 (Nat.le_of_ble_eq_true rfl) dX8_restore_3 ⟨Nat.zero_le _, Nat.zero_le _⟩ (fun H locs hw => ?_)
  have hw : PW D A s.heap [pX8 o0 w0, pX1 cy (w1 0) q1 σ1, pX4 cy (w1 1) q4 σ4, pX5 cy (w1 2) q5 σ5, pX7 (w0 0) w1, pIm cy (w0 1) r, pX1 cy (w2 0) p1 τ1, pX4 cy (w2 1) p4 τ4, pX5 cy (w2 2) p5 τ5, pX7 a w2] H locs := hw
  refine lv_if_ne (tgt := 12) S.1 S.2.1 dX8_restore_6 (by decide) (fun c => ?_) (fun c => absurd c (by decide))
  refine lv_aload_n S.1 S.2.1 dX8_restore_12 rfl (lv_at hl 0 rfl) ?_
  refine gf_X8_16 S hw 0 rfl dX8_restore_13 ?_
  refine lv_iload_n S.1 S.2.1 dX8_restore_16 rfl (lv_at hl 1 rfl) ?_
  refine x_aldW S hw 5 rfl hi2 dX8_restore_17 ?_
  rw [hr0]
  refine lv_astore_n (x := a) (lv' := [(2, .ref a), (0, .ref o0), (1, .int x1)]) S.1 S.2.1 dX8_restore_18 rfl hl (by decide) rfl (fun ls hl => ?_)
  refine lv_aload_n S.1 S.2.1 dX8_restore_19 rfl (lv_at hl 0 rfl) ?_
  refine lv_ifnonnull (tgt := 26) S.1 S.2.1 dX8_restore_20 (by decide) ?_
  refine lv_aload_n S.1 S.2.1 dX8_restore_26 rfl (lv_at hl 1 rfl) ?_
  refine gf_X8_12 S hw 0 rfl dX8_restore_27 ?_
  refine lv_aload_n S.1 S.2.1 dX8_restore_30 rfl (lv_at hl 0 rfl) ?_
  refine k_X7_copyFrom S (S.2.2.2.2.wd wd656 rfl) hw hu [4, 9, 1, 6, 2, 7, 3, 8] rfl (by decide) rfl ⟨rfl, rfl, Nat.le_of_ble_eq_true rfl, Nat.le_of_ble_eq_true rfl⟩ hl.1 (Nat.le_of_ble_eq_true rfl) dX8_restore_31 ⟨Nat.zero_le _, Nat.zero_le _⟩ (fun H locs hw => ?_)
  have hw : PW D A s.heap [pX8 o0 w0, pX1 cy (w1 0) q1 u.1, pX4 cy (w1 1) q4 u.2.1, pX5 cy (w1 2) q5 u.2.2, pX7 (w0 0) w1, pIm cy (w0 1) r, pX1 cy (w2 0) p1 τ1, pX4 cy (w2 1) p4 τ4, pX5 cy (w2 2) p5 τ5, pX7 a w2] H locs := hw
  refine lv_iconst (v := 1) S.1 S.2.1 dX8_restore_34 (by decide) ?_
  exact w_iret S hr hlk hA hQ hw dX8_restore_35
