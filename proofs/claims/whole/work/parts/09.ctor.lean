def xf (l : List (Nat → Nat)) : Nat → Nat → Nat := fun i => l.getD i (fun _ => 0)
set_option maxRecDepth 100000 in
theorem wd_objc : Cond.code Lib.objectInit ⟨#[0xb1]⟩ 1 none ∈ lw_tbl := List.mem_of_getElem? (i := 90) (by decide +kernel)
set_option maxRecDepth 100000 in
theorem wd_ao_W : Cond.arrayOver (.object "SwornLane$World") ∈ lw_tbl := by decide +kernel
set_option maxRecDepth 100000 in
theorem wd_ac_int : Cond.arrayClass .int ∈ lw_tbl := by decide +kernel
set_option maxRecDepth 100000 in
theorem wd_ac_boolean : Cond.arrayClass .boolean ∈ lw_tbl := by decide +kernel
set_option maxRecDepth 100000 in
theorem wd_ac_long : Cond.arrayClass .long ∈ lw_tbl := by decide +kernel
set_option maxRecDepth 100000 in
theorem wd88 : Cond.methodLink RX8 3 ⟨"java/lang/Object", "<init>", "()V"⟩ ∈ lw_tbl := List.mem_of_getElem? (i := 88) (by decide +kernel)
set_option maxRecDepth 100000 in
theorem wd89 : Cond.instanceMethod ⟨"java/lang/Object", "<init>", "()V"⟩ ∈ lw_tbl := List.mem_of_getElem? (i := 89) (by decide +kernel)
set_option maxRecDepth 100000 in
theorem wd91 : Cond.classLink RX8 9 RX7 ∈ lw_tbl := List.mem_of_getElem? (i := 91) (by decide +kernel)
set_option maxRecDepth 100000 in
theorem wd92 : Cond.instantiable RX7 3 ∈ lw_tbl := List.mem_of_getElem? (i := 92) (by decide +kernel)
set_option maxRecDepth 100000 in
theorem wd93 : Cond.methodLinkNest RX8 11 yX7_init "SwornLane" ∈ lw_tbl := List.mem_of_getElem? (i := 93) (by decide +kernel)
set_option maxRecDepth 100000 in
theorem wd94 : Cond.instanceMethod yX7_init ∈ lw_tbl := List.mem_of_getElem? (i := 94) (by decide +kernel)
set_option maxRecDepth 100000 in
theorem wd95 : Cond.code yX7_init cX7_init 1 none ∈ lw_tbl := List.mem_of_getElem? (i := 95) (by decide +kernel)
set_option maxRecDepth 100000 in
theorem wd96 : Cond.methodLink RX7 1 ⟨"java/lang/Object", "<init>", "()V"⟩ ∈ lw_tbl := List.mem_of_getElem? (i := 96) (by decide +kernel)
set_option maxRecDepth 100000 in
theorem wd97 : Cond.classLink RX7 7 RX1 ∈ lw_tbl := List.mem_of_getElem? (i := 97) (by decide +kernel)
set_option maxRecDepth 100000 in
theorem wd98 : Cond.instantiable RX1 7 ∈ lw_tbl := List.mem_of_getElem? (i := 98) (by decide +kernel)
set_option maxRecDepth 100000 in
theorem wd99 : Cond.methodLink RX7 9 yX1_init ∈ lw_tbl := List.mem_of_getElem? (i := 99) (by decide +kernel)
set_option maxRecDepth 100000 in
theorem wd100 : Cond.instanceMethod yX1_init ∈ lw_tbl := List.mem_of_getElem? (i := 100) (by decide +kernel)
set_option maxRecDepth 100000 in
theorem wd101 : Cond.code yX1_init cX1_init 2 none ∈ lw_tbl := List.mem_of_getElem? (i := 101) (by decide +kernel)
set_option maxRecDepth 100000 in
theorem wd102 : Cond.methodLink RX1 3 ⟨"java/lang/Object", "<init>", "()V"⟩ ∈ lw_tbl := List.mem_of_getElem? (i := 102) (by decide +kernel)
set_option maxRecDepth 100000 in
theorem wd133 : Cond.classLink RX7 16 RX4 ∈ lw_tbl := List.mem_of_getElem? (i := 133) (by decide +kernel)
set_option maxRecDepth 100000 in
theorem wd134 : Cond.instantiable RX4 3 ∈ lw_tbl := List.mem_of_getElem? (i := 134) (by decide +kernel)
set_option maxRecDepth 100000 in
theorem wd135 : Cond.methodLinkNest RX7 18 yX4_init "SwornLane" ∈ lw_tbl := List.mem_of_getElem? (i := 135) (by decide +kernel)
set_option maxRecDepth 100000 in
theorem wd136 : Cond.instanceMethod yX4_init ∈ lw_tbl := List.mem_of_getElem? (i := 136) (by decide +kernel)
set_option maxRecDepth 100000 in
theorem wd137 : Cond.code yX4_init cX4_init 1 none ∈ lw_tbl := List.mem_of_getElem? (i := 137) (by decide +kernel)
set_option maxRecDepth 100000 in
theorem wd138 : Cond.methodLink RX4 3 ⟨"java/lang/Object", "<init>", "()V"⟩ ∈ lw_tbl := List.mem_of_getElem? (i := 138) (by decide +kernel)
set_option maxRecDepth 100000 in
theorem wd150 : Cond.classLink RX7 23 RX5 ∈ lw_tbl := List.mem_of_getElem? (i := 150) (by decide +kernel)
set_option maxRecDepth 100000 in
theorem wd151 : Cond.instantiable RX5 2 ∈ lw_tbl := List.mem_of_getElem? (i := 151) (by decide +kernel)
set_option maxRecDepth 100000 in
theorem wd152 : Cond.methodLinkNest RX7 25 yX5_init "SwornLane" ∈ lw_tbl := List.mem_of_getElem? (i := 152) (by decide +kernel)
set_option maxRecDepth 100000 in
theorem wd153 : Cond.instanceMethod yX5_init ∈ lw_tbl := List.mem_of_getElem? (i := 153) (by decide +kernel)
set_option maxRecDepth 100000 in
theorem wd154 : Cond.code yX5_init cX5_init 1 none ∈ lw_tbl := List.mem_of_getElem? (i := 154) (by decide +kernel)
set_option maxRecDepth 100000 in
theorem wd155 : Cond.methodLink RX5 3 ⟨"java/lang/Object", "<init>", "()V"⟩ ∈ lw_tbl := List.mem_of_getElem? (i := 155) (by decide +kernel)
set_option maxRecDepth 100000 in
theorem wd178 : Cond.classLink RX8 20 RX3 ∈ lw_tbl := List.mem_of_getElem? (i := 178) (by decide +kernel)
set_option maxRecDepth 100000 in
theorem wd179 : Cond.instantiable RX3 6 ∈ lw_tbl := List.mem_of_getElem? (i := 179) (by decide +kernel)
set_option maxRecDepth 100000 in
theorem wd180 : Cond.methodLinkNest RX8 22 yX3_init "SwornLane" ∈ lw_tbl := List.mem_of_getElem? (i := 180) (by decide +kernel)
set_option maxRecDepth 100000 in
theorem wd181 : Cond.instanceMethod yX3_init ∈ lw_tbl := List.mem_of_getElem? (i := 181) (by decide +kernel)
set_option maxRecDepth 100000 in
theorem wd182 : Cond.code yX3_init cX3_init 1 none ∈ lw_tbl := List.mem_of_getElem? (i := 182) (by decide +kernel)
set_option maxRecDepth 100000 in
theorem wd183 : Cond.methodLink RX3 3 ⟨"java/lang/Object", "<init>", "()V"⟩ ∈ lw_tbl := List.mem_of_getElem? (i := 183) (by decide +kernel)
set_option maxRecDepth 100000 in
theorem wd207 : Cond.classLink RX8 27 RX6 ∈ lw_tbl := List.mem_of_getElem? (i := 207) (by decide +kernel)
set_option maxRecDepth 100000 in
theorem wd208 : Cond.instantiable RX6 6 ∈ lw_tbl := List.mem_of_getElem? (i := 208) (by decide +kernel)
set_option maxRecDepth 100000 in
theorem wd209 : Cond.methodLinkNest RX8 29 yX6_init "SwornLane" ∈ lw_tbl := List.mem_of_getElem? (i := 209) (by decide +kernel)
set_option maxRecDepth 100000 in
theorem wd210 : Cond.instanceMethod yX6_init ∈ lw_tbl := List.mem_of_getElem? (i := 210) (by decide +kernel)
set_option maxRecDepth 100000 in
theorem wd211 : Cond.code yX6_init cX6_init 1 none ∈ lw_tbl := List.mem_of_getElem? (i := 211) (by decide +kernel)
set_option maxRecDepth 100000 in
theorem wd212 : Cond.methodLink RX6 3 ⟨"java/lang/Object", "<init>", "()V"⟩ ∈ lw_tbl := List.mem_of_getElem? (i := 212) (by decide +kernel)
set_option maxRecDepth 100000 in
theorem wd213 : Cond.classLink RX6 9 RX1 ∈ lw_tbl := List.mem_of_getElem? (i := 213) (by decide +kernel)
set_option maxRecDepth 100000 in
theorem wd214 : Cond.methodLink RX6 11 yX1_init ∈ lw_tbl := List.mem_of_getElem? (i := 214) (by decide +kernel)
set_option maxRecDepth 100000 in
theorem wd240 : Cond.classLink RX8 34 RX2 ∈ lw_tbl := List.mem_of_getElem? (i := 240) (by decide +kernel)
set_option maxRecDepth 100000 in
theorem wd241 : Cond.instantiable RX2 1 ∈ lw_tbl := List.mem_of_getElem? (i := 241) (by decide +kernel)
set_option maxRecDepth 100000 in
theorem wd242 : Cond.methodLinkNest RX8 36 yX2_init "SwornLane" ∈ lw_tbl := List.mem_of_getElem? (i := 242) (by decide +kernel)
set_option maxRecDepth 100000 in
theorem wd243 : Cond.instanceMethod yX2_init ∈ lw_tbl := List.mem_of_getElem? (i := 243) (by decide +kernel)
set_option maxRecDepth 100000 in
theorem wd244 : Cond.code yX2_init cX2_init 1 none ∈ lw_tbl := List.mem_of_getElem? (i := 244) (by decide +kernel)
set_option maxRecDepth 100000 in
theorem wd245 : Cond.methodLink RX2 3 ⟨"java/lang/Object", "<init>", "()V"⟩ ∈ lw_tbl := List.mem_of_getElem? (i := 245) (by decide +kernel)
set_option maxRecDepth 100000 in
theorem wd250 : Cond.classLink RX8 41 RX0 ∈ lw_tbl := List.mem_of_getElem? (i := 250) (by decide +kernel)
set_option maxRecDepth 100000 in
theorem wd251 : Cond.instantiable RX0 1 ∈ lw_tbl := List.mem_of_getElem? (i := 251) (by decide +kernel)
set_option maxRecDepth 100000 in
theorem wd252 : Cond.methodLinkNest RX8 43 yX0_init "SwornLane" ∈ lw_tbl := List.mem_of_getElem? (i := 252) (by decide +kernel)
set_option maxRecDepth 100000 in
theorem wd253 : Cond.instanceMethod yX0_init ∈ lw_tbl := List.mem_of_getElem? (i := 253) (by decide +kernel)
set_option maxRecDepth 100000 in
theorem wd254 : Cond.code yX0_init cX0_init 1 none ∈ lw_tbl := List.mem_of_getElem? (i := 254) (by decide +kernel)
set_option maxRecDepth 100000 in
theorem wd255 : Cond.methodLink RX0 3 ⟨"java/lang/Object", "<init>", "()V"⟩ ∈ lw_tbl := List.mem_of_getElem? (i := 255) (by decide +kernel)
set_option maxRecDepth 100000 in
theorem wd262 : Cond.fieldLink RX8 16 "SwornLane" "images" "[LSwornLane$World;" ∈ lw_tbl := List.mem_of_getElem? (i := 262) (by decide +kernel)
set_option maxRecDepth 100000 in
theorem wd696 : Cond.methodLink RX9 1 ⟨"java/lang/Object", "<init>", "()V"⟩ ∈ lw_tbl := List.mem_of_getElem? (i := 696) (by decide +kernel)
abbrev rmX0_init : Room := { frames := 1, cells := 1, slots := 6, locals := 12 }
set_option maxHeartbeats 4000000 in
set_option maxRecDepth 100000 in
theorem c_X0_init (l : Launch) (D : va_G) (cy : Nat → ClassId) (o0 : Nat)  : CTX l yX0_init cX0_init 1 none rmX0_init D cy [.ref o0] [[(o0, .inr (0, [.null]))]] none (fun x => [pX0 cy o0 (x 0) (fun _ => 0)]) 1 6 := by
  refine CTX.of (by decide) (Nat.le_of_ble_eq_true rfl) (fun p e s m args below meth c ls A Q hA hQ S hr hlk hin hl hw => ?_)
  have hl : lv_has ls 1 [(0, .ref o0)] := hl
  refine lv_aload_n S.1 S.2.1 dX0_init_0 rfl (lv_at hl 0 rfl) ?_
  refine x_objI S (S.2.2.2.2.wd wd255 rfl) (S.2.2.2.2.wd wd89 rfl) (S.2.2.2.2.wd wd_objc rfl) hl.1 (Nat.le_of_ble_eq_true rfl) (Nat.le_of_ble_eq_true rfl) dX0_init_1 ?_
  refine lv_aload_n S.1 S.2.1 dX0_init_4 rfl (lv_at hl 0 rfl) ?_
  refine lv_bipush (v := 6) S.1 S.2.1 dX0_init_5 (by decide) ?_
  refine x_newL (N' := 6) S hw (S.2.2.2.2.wd wd_ac_long rfl) (by decide) (by decide) (by decide) (Nat.le_of_ble_eq_true rfl) (Nat.le_of_ble_eq_true rfl) dX0_init_7 (fun a_1 H hw => ?_)
  have hw : PW D A s.heap [[(o0, .inr (0, [.null]))], [(a_1, .inl (cy 2, 6, .inr (.inl (fun _ => 0))))]] H _ := hw
  refine x_putF S hw hin 0 0 rfl rfl rfl (lay_X0 S.2.2.2.2) tyX0 tyX0_ok nmX0 0 (by decide) (S.2.2.2.2.wd wd256 rfl) rfl rfl rfl rfl rfl (Nat.le_of_ble_eq_true rfl) dX0_init_9 (fun H locs hw => ?_)
  have hw : PW D A s.heap [[(o0, .inr (0, [.ref a_1]))], [(a_1, .inl (cy 2, 6, .inr (.inl (fun _ => 0))))]] H _ := hw
  exact x_vret (xf [(qf [a_1])]) S hr hlk hA hQ (pw_cast hw rfl) dX0_init_12
abbrev rmX2_init : Room := { frames := 1, cells := 1, slots := 256, locals := 12 }
set_option maxHeartbeats 4000000 in
set_option maxRecDepth 100000 in
theorem c_X2_init (l : Launch) (D : va_G) (cy : Nat → ClassId) (o0 : Nat)  : CTX l yX2_init cX2_init 1 none rmX2_init D cy [.ref o0] [[(o0, .inr (2, [.null]))]] none (fun x => [pX2 cy o0 (x 0) zS]) 1 256 := by
  refine CTX.of (by decide) (Nat.le_of_ble_eq_true rfl) (fun p e s m args below meth c ls A Q hA hQ S hr hlk hin hl hw => ?_)
  have hl : lv_has ls 1 [(0, .ref o0)] := hl
  refine lv_aload_n S.1 S.2.1 dX2_init_0 rfl (lv_at hl 0 rfl) ?_
  refine x_objI S (S.2.2.2.2.wd wd245 rfl) (S.2.2.2.2.wd wd89 rfl) (S.2.2.2.2.wd wd_objc rfl) hl.1 (Nat.le_of_ble_eq_true rfl) (Nat.le_of_ble_eq_true rfl) dX2_init_1 ?_
  refine lv_aload_n S.1 S.2.1 dX2_init_4 rfl (lv_at hl 0 rfl) ?_
  refine lv_sipush (v := 256) S.1 S.2.1 dX2_init_5 (by decide) ?_
  refine x_newI (N' := 256) S hw (S.2.2.2.2.wd wd_ac_int rfl) (by decide) (by decide) (by decide) (Nat.le_of_ble_eq_true rfl) (Nat.le_of_ble_eq_true rfl) dX2_init_8 (fun a_1 H hw => ?_)
  have hw : PW D A s.heap [[(o0, .inr (2, [.null]))], [(a_1, .inl (cy 0, 256, .inl (fun _ => 0)))]] H _ := hw
  refine x_putF S hw hin 0 0 rfl rfl rfl (lay_X2 S.2.2.2.2) tyX2 tyX2_ok nmX2 0 (by decide) (S.2.2.2.2.wd wd246 rfl) rfl rfl rfl rfl rfl (Nat.le_of_ble_eq_true rfl) dX2_init_10 (fun H locs hw => ?_)
  have hw : PW D A s.heap [[(o0, .inr (2, [.ref a_1]))], [(a_1, .inl (cy 0, 256, .inl (fun _ => 0)))]] H _ := hw
  exact x_vret (xf [(qf [a_1])]) S hr hlk hA hQ (pw_cast hw rfl) dX2_init_13
abbrev rmX3_init : Room := { frames := 1, cells := 1, slots := 60, locals := 12 }
set_option maxHeartbeats 4000000 in
set_option maxRecDepth 100000 in
theorem c_X3_init (l : Launch) (D : va_G) (cy : Nat → ClassId) (o0 : Nat)  : CTX l yX3_init cX3_init 1 none rmX3_init D cy [.ref o0] [[(o0, .inr (3, [.null, .int 0, .int 0, .int 0, .int 0, .int 0]))]] none (fun x => [pX3 cy o0 (x 0) zS]) 1 60 := by
  refine CTX.of (by decide) (Nat.le_of_ble_eq_true rfl) (fun p e s m args below meth c ls A Q hA hQ S hr hlk hin hl hw => ?_)
  have hl : lv_has ls 1 [(0, .ref o0)] := hl
  refine lv_aload_n S.1 S.2.1 dX3_init_0 rfl (lv_at hl 0 rfl) ?_
  refine x_objI S (S.2.2.2.2.wd wd183 rfl) (S.2.2.2.2.wd wd89 rfl) (S.2.2.2.2.wd wd_objc rfl) hl.1 (Nat.le_of_ble_eq_true rfl) (Nat.le_of_ble_eq_true rfl) dX3_init_1 ?_
  refine lv_aload_n S.1 S.2.1 dX3_init_4 rfl (lv_at hl 0 rfl) ?_
  refine lv_bipush (v := 60) S.1 S.2.1 dX3_init_5 (by decide) ?_
  refine x_newI (N' := 60) S hw (S.2.2.2.2.wd wd_ac_int rfl) (by decide) (by decide) (by decide) (Nat.le_of_ble_eq_true rfl) (Nat.le_of_ble_eq_true rfl) dX3_init_7 (fun a_1 H hw => ?_)
  have hw : PW D A s.heap [[(o0, .inr (3, [.null, .int 0, .int 0, .int 0, .int 0, .int 0]))], [(a_1, .inl (cy 0, 60, .inl (fun _ => 0)))]] H _ := hw
  refine x_putF S hw hin 0 0 rfl rfl rfl (lay_X3 S.2.2.2.2) tyX3 tyX3_ok nmX3 0 (by decide) (S.2.2.2.2.wd wd184 rfl) rfl rfl rfl rfl rfl (Nat.le_of_ble_eq_true rfl) dX3_init_9 (fun H locs hw => ?_)
  have hw : PW D A s.heap [[(o0, .inr (3, [.ref a_1, .int 0, .int 0, .int 0, .int 0, .int 0]))], [(a_1, .inl (cy 0, 60, .inl (fun _ => 0)))]] H _ := hw
  exact x_vret (xf [(qf [a_1])]) S hr hlk hA hQ (pw_cast hw rfl) dX3_init_12
abbrev rmX4_init : Room := { frames := 1, cells := 2, slots := 24, locals := 12 }
set_option maxHeartbeats 4000000 in
set_option maxRecDepth 100000 in
theorem c_X4_init (l : Launch) (D : va_G) (cy : Nat → ClassId) (o0 : Nat)  : CTX l yX4_init cX4_init 1 none rmX4_init D cy [.ref o0] [[(o0, .inr (4, [.null, .null, .int 0]))]] none (fun x => [pX4 cy o0 (x 0) zS]) 2 24 := by
  refine CTX.of (by decide) (Nat.le_of_ble_eq_true rfl) (fun p e s m args below meth c ls A Q hA hQ S hr hlk hin hl hw => ?_)
  have hl : lv_has ls 1 [(0, .ref o0)] := hl
  refine lv_aload_n S.1 S.2.1 dX4_init_0 rfl (lv_at hl 0 rfl) ?_
  refine x_objI S (S.2.2.2.2.wd wd138 rfl) (S.2.2.2.2.wd wd89 rfl) (S.2.2.2.2.wd wd_objc rfl) hl.1 (Nat.le_of_ble_eq_true rfl) (Nat.le_of_ble_eq_true rfl) dX4_init_1 ?_
  refine lv_aload_n S.1 S.2.1 dX4_init_4 rfl (lv_at hl 0 rfl) ?_
  refine lv_bipush (v := 12) S.1 S.2.1 dX4_init_5 (by decide) ?_
  refine x_newI (N' := 12) S hw (S.2.2.2.2.wd wd_ac_int rfl) (by decide) (by decide) (by decide) (Nat.le_of_ble_eq_true rfl) (Nat.le_of_ble_eq_true rfl) dX4_init_7 (fun a_1 H hw => ?_)
  have hw : PW D A s.heap [[(o0, .inr (4, [.null, .null, .int 0]))], [(a_1, .inl (cy 0, 12, .inl (fun _ => 0)))]] H _ := hw
  refine x_putF S hw hin 0 0 rfl rfl rfl (lay_X4 S.2.2.2.2) tyX4 tyX4_ok nmX4 0 (by decide) (S.2.2.2.2.wd wd139 rfl) rfl rfl rfl rfl rfl (Nat.le_of_ble_eq_true rfl) dX4_init_9 (fun H locs hw => ?_)
  have hw : PW D A s.heap [[(o0, .inr (4, [.ref a_1, .null, .int 0]))], [(a_1, .inl (cy 0, 12, .inl (fun _ => 0)))]] H _ := hw
  refine lv_aload_n S.1 S.2.1 dX4_init_12 rfl (lv_at hl 0 rfl) ?_
  refine lv_bipush (v := 12) S.1 S.2.1 dX4_init_13 (by decide) ?_
  refine x_newI (N' := 12) S hw (S.2.2.2.2.wd wd_ac_int rfl) (by decide) (by decide) (by decide) (Nat.le_of_ble_eq_true rfl) (Nat.le_of_ble_eq_true rfl) dX4_init_15 (fun a_2 H hw => ?_)
  have hw : PW D A s.heap [[(o0, .inr (4, [.ref a_1, .null, .int 0]))], [(a_1, .inl (cy 0, 12, .inl (fun _ => 0)))], [(a_2, .inl (cy 0, 12, .inl (fun _ => 0)))]] H _ := hw
  refine x_putF S hw hin 0 0 rfl rfl rfl (lay_X4 S.2.2.2.2) tyX4 tyX4_ok nmX4 1 (by decide) (S.2.2.2.2.wd wd140 rfl) rfl rfl rfl rfl rfl (Nat.le_of_ble_eq_true rfl) dX4_init_17 (fun H locs hw => ?_)
  have hw : PW D A s.heap [[(o0, .inr (4, [.ref a_1, .ref a_2, .int 0]))], [(a_1, .inl (cy 0, 12, .inl (fun _ => 0)))], [(a_2, .inl (cy 0, 12, .inl (fun _ => 0)))]] H _ := hw
  exact x_vret (xf [(qf [a_1, a_2])]) S hr hlk hA hQ (pw_cast hw rfl) dX4_init_20
abbrev rmX5_init : Room := { frames := 1, cells := 1, slots := 8, locals := 12 }
set_option maxHeartbeats 4000000 in
set_option maxRecDepth 100000 in
theorem c_X5_init (l : Launch) (D : va_G) (cy : Nat → ClassId) (o0 : Nat)  : CTX l yX5_init cX5_init 1 none rmX5_init D cy [.ref o0] [[(o0, .inr (5, [.null, .int 0]))]] none (fun x => [pX5 cy o0 (x 0) zS]) 1 8 := by
  refine CTX.of (by decide) (Nat.le_of_ble_eq_true rfl) (fun p e s m args below meth c ls A Q hA hQ S hr hlk hin hl hw => ?_)
  have hl : lv_has ls 1 [(0, .ref o0)] := hl
  refine lv_aload_n S.1 S.2.1 dX5_init_0 rfl (lv_at hl 0 rfl) ?_
  refine x_objI S (S.2.2.2.2.wd wd155 rfl) (S.2.2.2.2.wd wd89 rfl) (S.2.2.2.2.wd wd_objc rfl) hl.1 (Nat.le_of_ble_eq_true rfl) (Nat.le_of_ble_eq_true rfl) dX5_init_1 ?_
  refine lv_aload_n S.1 S.2.1 dX5_init_4 rfl (lv_at hl 0 rfl) ?_
  refine lv_bipush (v := 8) S.1 S.2.1 dX5_init_5 (by decide) ?_
  refine x_newI (N' := 8) S hw (S.2.2.2.2.wd wd_ac_int rfl) (by decide) (by decide) (by decide) (Nat.le_of_ble_eq_true rfl) (Nat.le_of_ble_eq_true rfl) dX5_init_7 (fun a_1 H hw => ?_)
  have hw : PW D A s.heap [[(o0, .inr (5, [.null, .int 0]))], [(a_1, .inl (cy 0, 8, .inl (fun _ => 0)))]] H _ := hw
  refine x_putF S hw hin 0 0 rfl rfl rfl (lay_X5 S.2.2.2.2) tyX5 tyX5_ok nmX5 0 (by decide) (S.2.2.2.2.wd wd156 rfl) rfl rfl rfl rfl rfl (Nat.le_of_ble_eq_true rfl) dX5_init_9 (fun H locs hw => ?_)
  have hw : PW D A s.heap [[(o0, .inr (5, [.ref a_1, .int 0]))], [(a_1, .inl (cy 0, 8, .inl (fun _ => 0)))]] H _ := hw
  exact x_vret (xf [(qf [a_1])]) S hr hlk hA hQ (pw_cast hw rfl) dX5_init_12
abbrev rmX1_init : Room := { frames := 1, cells := 4, slots := 28, locals := 12 }
def fl_X1_init_43   : Nat → Int32 → pStt → Option (pStt)
  | 0, _, _ => none
  | n + 1, y1, σ0 => if 8 ≤ y1 then some σ0 else (stA σ0 1 8 y1 ((-1))).bind (fun σ_2 => fl_X1_init_43 n ((y1 + 1)) σ_2)
def fl_X1_init_64   : Nat → Int32 → pStt → Option (pStt)
  | 0, _, _ => none
  | n + 1, y1, σ0 => if 6 ≤ y1 then some σ0 else (stA σ0 2 6 y1 ((-1))).bind (fun σ_5 => fl_X1_init_64 n ((y1 + 1)) σ_5)
def f_X1_init (σ0 : pStt) : Option pStt := (fl_X1_init_43 2000 0 σ0).bind (fun u_3 => (fl_X1_init_64 2000 0 u_3).bind (fun u_6 => some u_6))
section
variable {p : Program} {l : Launch} {e : Env} {s : State} {m : MethodId} {args : Array Value} {below : List Frame} {meth : Method} {c : Code} {Q : State → Prop} {D : va_G} {cy : Nat → ClassId} {A : Nat → Prop} {H0 : Heap} {cells slots : Nat}
set_option maxHeartbeats 4000000 in
set_option maxRecDepth 100000 in
theorem lp_X1_init_43 (S : CX p m c cX1_init 2 s args RX1 D cy) {o0 : Nat} {q0 : Nat → Nat}   : ∀ (n : Nat) (y1 : Int32) (σ0 : pStt) (H : Heap) (locs : List Loc) (ls : Array Slot) (u : pStt), PW D A H0 [pX1 cy o0 q0 σ0] H locs → lv_has ls 2 [(0, .ref o0), (1, .int y1)] → fl_X1_init_43 n y1 σ0 = some u → (∀ (H : Heap) (locs : List Loc) (ls : Array Slot), PW D A H0 [pX1 cy o0 q0 u] H locs → lv_has ls 2 [(0, .ref o0)] → W p l e rmX1_init s m args below meth c H locs cells slots Q (F0 m 62 ls [])) → W p l e rmX1_init s m args below meth c H locs cells slots Q (F0 m 43 ls []) := by
  intro n
  induction n with
  | zero =>
    intro y1 σ0 H locs ls u hw hl hf K0
    rw [fl_X1_init_43] at hf
    cases hf
  | succ n ih =>
    intro y1 σ0 H locs ls u hw hl hf K0
    rw [fl_X1_init_43] at hf
    refine lv_iload_n S.1 S.2.1 dX1_init_43 rfl (lv_at hl 1 rfl) ?_
    refine lv_bipush (v := 8) S.1 S.2.1 dX1_init_44 (by decide) ?_
    refine lv_icmp_ge (tgt := 62) S.1 S.2.1 dX1_init_46 (by decide) (fun c_1 => ?_) (fun c_1 => ?_)
    · replace hf := (if_pos c_1).symm.trans hf
      cases hf
      exact K0 _ _ _ hw (lv_sub hl [0] rfl)
    · replace hf := (if_neg c_1).symm.trans hf
      refine lv_aload_n S.1 S.2.1 dX1_init_49 rfl (lv_at hl 0 rfl) ?_
      refine gf_X1_15 S hw 0 rfl dX1_init_50 ?_
      refine lv_iload_n S.1 S.2.1 dX1_init_53 rfl (lv_at hl 1 rfl) ?_
      refine lv_iconst (v := (-1)) S.1 S.2.1 dX1_init_54 (by decide) ?_
      obtain ⟨σ_2, e_σ_2, hf⟩ := ob hf
      refine as_X1_1 S hw 0 rfl e_σ_2 dX1_init_55 (fun H locs hw => ?_)
      have hw : PW D A H0 [pX1 cy o0 q0 σ_2] H locs := hw
      refine lv_iinc (v := (y1 + 1)) (lv' := [(1, .int ((y1 + 1))), (0, .ref o0)]) S.1 S.2.1 dX1_init_56 hl (k := 1) rfl rfl (by decide) rfl (fun ls hl => ?_)
      refine lv_goto (tgt := 43) S.1 S.2.1 dX1_init_59 (by decide) ?_
      exact ih _ _ _ _ _ _ hw (lv_sub hl [1, 0] rfl) hf K0
set_option maxHeartbeats 4000000 in
set_option maxRecDepth 100000 in
theorem lp_X1_init_64 (S : CX p m c cX1_init 2 s args RX1 D cy) {o0 : Nat} {q0 : Nat → Nat}   : ∀ (n : Nat) (y1 : Int32) (σ0 : pStt) (H : Heap) (locs : List Loc) (ls : Array Slot) (u : pStt), PW D A H0 [pX1 cy o0 q0 σ0] H locs → lv_has ls 2 [(0, .ref o0), (1, .int y1)] → fl_X1_init_64 n y1 σ0 = some u → (∀ (H : Heap) (locs : List Loc) (ls : Array Slot), PW D A H0 [pX1 cy o0 q0 u] H locs → lv_has ls 2 [] → W p l e rmX1_init s m args below meth c H locs cells slots Q (F0 m 83 ls [])) → W p l e rmX1_init s m args below meth c H locs cells slots Q (F0 m 64 ls []) := by
  intro n
  induction n with
  | zero =>
    intro y1 σ0 H locs ls u hw hl hf K0
    rw [fl_X1_init_64] at hf
    cases hf
  | succ n ih =>
    intro y1 σ0 H locs ls u hw hl hf K0
    rw [fl_X1_init_64] at hf
    refine lv_iload_n S.1 S.2.1 dX1_init_64 rfl (lv_at hl 1 rfl) ?_
    refine lv_bipush (v := 6) S.1 S.2.1 dX1_init_65 (by decide) ?_
    refine lv_icmp_ge (tgt := 83) S.1 S.2.1 dX1_init_67 (by decide) (fun c_4 => ?_) (fun c_4 => ?_)
    · replace hf := (if_pos c_4).symm.trans hf
      cases hf
      exact K0 _ _ _ hw (lv_sub hl [] rfl)
    · replace hf := (if_neg c_4).symm.trans hf
      refine lv_aload_n S.1 S.2.1 dX1_init_70 rfl (lv_at hl 0 rfl) ?_
      refine gf_X1_18 S hw 0 rfl dX1_init_71 ?_
      refine lv_iload_n S.1 S.2.1 dX1_init_74 rfl (lv_at hl 1 rfl) ?_
      refine lv_iconst (v := (-1)) S.1 S.2.1 dX1_init_75 (by decide) ?_
      obtain ⟨σ_5, e_σ_5, hf⟩ := ob hf
      refine as_X1_2 S hw 0 rfl e_σ_5 dX1_init_76 (fun H locs hw => ?_)
      have hw : PW D A H0 [pX1 cy o0 q0 σ_5] H locs := hw
      refine lv_iinc (v := (y1 + 1)) (lv' := [(1, .int ((y1 + 1))), (0, .ref o0)]) S.1 S.2.1 dX1_init_77 hl (k := 1) rfl rfl (by decide) rfl (fun ls hl => ?_)
      refine lv_goto (tgt := 64) S.1 S.2.1 dX1_init_80 (by decide) ?_
      exact ih _ _ _ _ _ _ hw (lv_sub hl [1, 0] rfl) hf K0
set_option maxHeartbeats 4000000 in
set_option maxRecDepth 100000 in
theorem tl_X1_init (S : CX p m c cX1_init 2 s args RX1 D cy) {o0 : Nat} {q0 : Nat → Nat} {σ0 : pStt} {H : Heap} {locs : List Loc} {ls : Array Slot} (hw : PW D A H0 [pX1 cy o0 q0 σ0] H locs) (hl : lv_has ls 2 [(0, .ref o0)]) {u : pStt} (hf : f_X1_init σ0 = some u) (K : ∀ (H : Heap) (locs : List Loc) (ls : Array Slot), PW D A H0 [pX1 cy o0 q0 u] H locs → W p l e rmX1_init s m args below meth c H locs cells slots Q (F0 m 83 ls [])) : W p l e rmX1_init s m args below meth c H locs cells slots Q (F0 m 41 ls []) := by
  rw [f_X1_init] at hf
  refine lv_iconst (v := 0) S.1 S.2.1 dX1_init_41 (by decide) ?_
  refine lv_istore_n (lv' := [(1, .int 0), (0, .ref o0)]) S.1 S.2.1 dX1_init_42 rfl hl (by decide) rfl (fun ls hl => ?_)
  obtain ⟨u_3, e_u_3, hf⟩ := ob hf
  refine lp_X1_init_43 S 2000 _ _ _ _ _ _ hw (lv_sub hl [1, 0] rfl) e_u_3 ?_
  · intro H locs ls hw hl
    refine lv_iconst (v := 0) S.1 S.2.1 dX1_init_62 (by decide) ?_
    refine lv_istore_n (lv' := [(1, .int 0), (0, .ref o0)]) S.1 S.2.1 dX1_init_63 rfl hl (by decide) rfl (fun ls hl => ?_)
    obtain ⟨u_6, e_u_6, hf⟩ := ob hf
    refine lp_X1_init_64 S 2000 _ _ _ _ _ _ hw (lv_sub hl [1, 0] rfl) e_u_6 ?_
    · intro H locs ls hw hl
      cases hf
      exact K _ _ _ hw
end
set_option maxHeartbeats 4000000 in
set_option maxRecDepth 100000 in
theorem c_X1_init (l : Launch) (D : va_G) (cy : Nat → ClassId) (o0 : Nat) (uX1 : pStt) (huX1 : f_X1_init (sI zS 1 1) = some uX1) : CTX l yX1_init cX1_init 2 none rmX1_init D cy [.ref o0] [[(o0, .inr (1, [.null, .null, .null, .null, .int 0, .int 0, .int 0]))]] none (fun x => [pX1 cy o0 (x 0) uX1]) 4 28 := by
  refine CTX.of (by decide) (Nat.le_of_ble_eq_true rfl) (fun p e s m args below meth c ls A Q hA hQ S hr hlk hin hl hw => ?_)
  have hl : lv_has ls 2 [(0, .ref o0)] := hl
  have hf := huX1
  refine lv_aload_n S.1 S.2.1 dX1_init_0 rfl (lv_at hl 0 rfl) ?_
  refine x_objI S (S.2.2.2.2.wd wd102 rfl) (S.2.2.2.2.wd wd89 rfl) (S.2.2.2.2.wd wd_objc rfl) hl.1 (Nat.le_of_ble_eq_true rfl) (Nat.le_of_ble_eq_true rfl) dX1_init_1 ?_
  refine lv_aload_n S.1 S.2.1 dX1_init_4 rfl (lv_at hl 0 rfl) ?_
  refine lv_bipush (v := 8) S.1 S.2.1 dX1_init_5 (by decide) ?_
  refine x_newI (N' := 8) S hw (S.2.2.2.2.wd wd_ac_int rfl) (by decide) (by decide) (by decide) (Nat.le_of_ble_eq_true rfl) (Nat.le_of_ble_eq_true rfl) dX1_init_7 (fun a_1 H hw => ?_)
  have hw : PW D A s.heap [[(o0, .inr (1, [.null, .null, .null, .null, .int 0, .int 0, .int 0]))], [(a_1, .inl (cy 0, 8, .inl (fun _ => 0)))]] H _ := hw
  refine x_putF S hw hin 0 0 rfl rfl rfl (lay_X1 S.2.2.2.2) tyX1 tyX1_ok nmX1 0 (by decide) (S.2.2.2.2.wd wd103 rfl) rfl rfl rfl rfl rfl (Nat.le_of_ble_eq_true rfl) dX1_init_9 (fun H locs hw => ?_)
  have hw : PW D A s.heap [[(o0, .inr (1, [.ref a_1, .null, .null, .null, .int 0, .int 0, .int 0]))], [(a_1, .inl (cy 0, 8, .inl (fun _ => 0)))]] H _ := hw
  refine lv_aload_n S.1 S.2.1 dX1_init_12 rfl (lv_at hl 0 rfl) ?_
  refine lv_bipush (v := 8) S.1 S.2.1 dX1_init_13 (by decide) ?_
  refine x_newI (N' := 8) S hw (S.2.2.2.2.wd wd_ac_int rfl) (by decide) (by decide) (by decide) (Nat.le_of_ble_eq_true rfl) (Nat.le_of_ble_eq_true rfl) dX1_init_15 (fun a_2 H hw => ?_)
  have hw : PW D A s.heap [[(o0, .inr (1, [.ref a_1, .null, .null, .null, .int 0, .int 0, .int 0]))], [(a_1, .inl (cy 0, 8, .inl (fun _ => 0)))], [(a_2, .inl (cy 0, 8, .inl (fun _ => 0)))]] H _ := hw
  refine x_putF S hw hin 0 0 rfl rfl rfl (lay_X1 S.2.2.2.2) tyX1 tyX1_ok nmX1 1 (by decide) (S.2.2.2.2.wd wd105 rfl) rfl rfl rfl rfl rfl (Nat.le_of_ble_eq_true rfl) dX1_init_17 (fun H locs hw => ?_)
  have hw : PW D A s.heap [[(o0, .inr (1, [.ref a_1, .ref a_2, .null, .null, .int 0, .int 0, .int 0]))], [(a_1, .inl (cy 0, 8, .inl (fun _ => 0)))], [(a_2, .inl (cy 0, 8, .inl (fun _ => 0)))]] H _ := hw
  refine lv_aload_n S.1 S.2.1 dX1_init_20 rfl (lv_at hl 0 rfl) ?_
  refine lv_bipush (v := 6) S.1 S.2.1 dX1_init_21 (by decide) ?_
  refine x_newI (N' := 6) S hw (S.2.2.2.2.wd wd_ac_int rfl) (by decide) (by decide) (by decide) (Nat.le_of_ble_eq_true rfl) (Nat.le_of_ble_eq_true rfl) dX1_init_23 (fun a_3 H hw => ?_)
  have hw : PW D A s.heap [[(o0, .inr (1, [.ref a_1, .ref a_2, .null, .null, .int 0, .int 0, .int 0]))], [(a_1, .inl (cy 0, 8, .inl (fun _ => 0)))], [(a_2, .inl (cy 0, 8, .inl (fun _ => 0)))], [(a_3, .inl (cy 0, 6, .inl (fun _ => 0)))]] H _ := hw
  refine x_putF S hw hin 0 0 rfl rfl rfl (lay_X1 S.2.2.2.2) tyX1 tyX1_ok nmX1 2 (by decide) (S.2.2.2.2.wd wd107 rfl) rfl rfl rfl rfl rfl (Nat.le_of_ble_eq_true rfl) dX1_init_25 (fun H locs hw => ?_)
  have hw : PW D A s.heap [[(o0, .inr (1, [.ref a_1, .ref a_2, .ref a_3, .null, .int 0, .int 0, .int 0]))], [(a_1, .inl (cy 0, 8, .inl (fun _ => 0)))], [(a_2, .inl (cy 0, 8, .inl (fun _ => 0)))], [(a_3, .inl (cy 0, 6, .inl (fun _ => 0)))]] H _ := hw
  refine lv_aload_n S.1 S.2.1 dX1_init_28 rfl (lv_at hl 0 rfl) ?_
  refine lv_bipush (v := 6) S.1 S.2.1 dX1_init_29 (by decide) ?_
  refine x_newI (N' := 6) S hw (S.2.2.2.2.wd wd_ac_int rfl) (by decide) (by decide) (by decide) (Nat.le_of_ble_eq_true rfl) (Nat.le_of_ble_eq_true rfl) dX1_init_31 (fun a_4 H hw => ?_)
  have hw : PW D A s.heap [[(o0, .inr (1, [.ref a_1, .ref a_2, .ref a_3, .null, .int 0, .int 0, .int 0]))], [(a_1, .inl (cy 0, 8, .inl (fun _ => 0)))], [(a_2, .inl (cy 0, 8, .inl (fun _ => 0)))], [(a_3, .inl (cy 0, 6, .inl (fun _ => 0)))], [(a_4, .inl (cy 0, 6, .inl (fun _ => 0)))]] H _ := hw
  refine x_putF S hw hin 0 0 rfl rfl rfl (lay_X1 S.2.2.2.2) tyX1 tyX1_ok nmX1 3 (by decide) (S.2.2.2.2.wd wd108 rfl) rfl rfl rfl rfl rfl (Nat.le_of_ble_eq_true rfl) dX1_init_33 (fun H locs hw => ?_)
  have hw : PW D A s.heap [[(o0, .inr (1, [.ref a_1, .ref a_2, .ref a_3, .ref a_4, .int 0, .int 0, .int 0]))], [(a_1, .inl (cy 0, 8, .inl (fun _ => 0)))], [(a_2, .inl (cy 0, 8, .inl (fun _ => 0)))], [(a_3, .inl (cy 0, 6, .inl (fun _ => 0)))], [(a_4, .inl (cy 0, 6, .inl (fun _ => 0)))]] H _ := hw
  refine lv_aload_n S.1 S.2.1 dX1_init_36 rfl (lv_at hl 0 rfl) ?_
  refine lv_iconst (v := 1) S.1 S.2.1 dX1_init_37 (by decide) ?_
  refine w_put S hw 0 0 rfl rfl rfl (lay_X1 S.2.2.2.2) tyX1 tyX1_ok nmX1 5 (by decide) (S.2.2.2.2.wd wd113 rfl) rfl rfl rfl (by decide) (by decide) (Nat.le_of_ble_eq_true rfl) dX1_init_38 (fun H locs hw => ?_)
  have hw : PW D A s.heap [[(o0, .inr (1, [.ref a_1, .ref a_2, .ref a_3, .ref a_4, .int 0, .int 1, .int 0]))], [(a_1, .inl (cy 0, 8, .inl (fun _ => 0)))], [(a_2, .inl (cy 0, 8, .inl (fun _ => 0)))], [(a_3, .inl (cy 0, 6, .inl (fun _ => 0)))], [(a_4, .inl (cy 0, 6, .inl (fun _ => 0)))]] H _ := hw
  replace hw := pw_cast (Ps' := [pX1 cy o0 (qf [a_1, a_2, a_3, a_4]) (sI zS 1 1)]) hw rfl
  refine tl_X1_init S hw (lv_sub hl [0] rfl) hf (fun H locs ls hw => ?_)
  exact x_vret (xf [(qf [a_1, a_2, a_3, a_4])]) S hr hlk hA hQ (pw_cast hw rfl) dX1_init_83
abbrev rmX9_init : Room := { frames := 1, cells := 21, slots := 2653, locals := 12 }
def fl_X9_init_174   : Nat → Int32 → pStt → Option (pStt)
  | 0, _, _ => none
  | n + 1, y1, σ0 => if 8 ≤ y1 then some σ0 else (stA σ0 1 8 y1 ((-6))).bind (fun σ_2 => fl_X9_init_174 n ((y1 + 1)) σ_2)
def fl_X9_init_196   : Nat → Int32 → pStt → Option (pStt)
  | 0, _, _ => none
  | n + 1, y1, σ0 => if 6 ≤ y1 then some σ0 else (stA σ0 2 6 y1 ((-6))).bind (fun σ_5 => fl_X9_init_196 n ((y1 + 1)) σ_5)
def f_X9_init (σ0 : pStt) : Option pStt := (fl_X9_init_174 2000 0 σ0).bind (fun u_3 => (fl_X9_init_196 2000 0 u_3).bind (fun u_6 => (some (sI u_6 0 1)).bind (fun σ_7 => some σ_7)))
section
variable {p : Program} {l : Launch} {e : Env} {s : State} {m : MethodId} {args : Array Value} {below : List Frame} {meth : Method} {c : Code} {Q : State → Prop} {D : va_G} {cy : Nat → ClassId} {A : Nat → Prop} {H0 : Heap} {cells slots : Nat}
set_option maxHeartbeats 4000000 in
set_option maxRecDepth 100000 in
theorem lp_X9_init_174 (S : CX p m c cX9_init 2 s args RX9 D cy) {o0 : Nat} {q0 : Nat → Nat}   : ∀ (n : Nat) (y1 : Int32) (σ0 : pStt) (H : Heap) (locs : List Loc) (ls : Array Slot) (u : pStt), PW D A H0 [pX9 cy o0 q0 σ0] H locs → lv_has ls 2 [(0, .ref o0), (1, .int y1)] → fl_X9_init_174 n y1 σ0 = some u → (∀ (H : Heap) (locs : List Loc) (ls : Array Slot), PW D A H0 [pX9 cy o0 q0 u] H locs → lv_has ls 2 [(0, .ref o0)] → W p l e rmX9_init s m args below meth c H locs cells slots Q (F0 m 194 ls [])) → W p l e rmX9_init s m args below meth c H locs cells slots Q (F0 m 174 ls []) := by
  intro n
  induction n with
  | zero =>
    intro y1 σ0 H locs ls u hw hl hf K0
    rw [fl_X9_init_174] at hf
    cases hf
  | succ n ih =>
    intro y1 σ0 H locs ls u hw hl hf K0
    rw [fl_X9_init_174] at hf
    refine lv_iload_n S.1 S.2.1 dX9_init_174 rfl (lv_at hl 1 rfl) ?_
    refine lv_bipush (v := 8) S.1 S.2.1 dX9_init_175 (by decide) ?_
    refine lv_icmp_ge (tgt := 194) S.1 S.2.1 dX9_init_177 (by decide) (fun c_1 => ?_) (fun c_1 => ?_)
    · replace hf := (if_pos c_1).symm.trans hf
      cases hf
      exact K0 _ _ _ hw (lv_sub hl [0] rfl)
    · replace hf := (if_neg c_1).symm.trans hf
      refine lv_aload_n S.1 S.2.1 dX9_init_180 rfl (lv_at hl 0 rfl) ?_
      refine gf_X9_13 S hw 0 rfl dX9_init_181 ?_
      refine lv_iload_n S.1 S.2.1 dX9_init_184 rfl (lv_at hl 1 rfl) ?_
      refine lv_bipush (v := (-6)) S.1 S.2.1 dX9_init_185 (by decide) ?_
      obtain ⟨σ_2, e_σ_2, hf⟩ := ob hf
      refine as_X9_1 S hw 0 rfl e_σ_2 dX9_init_187 (fun H locs hw => ?_)
      have hw : PW D A H0 [pX9 cy o0 q0 σ_2] H locs := hw
      refine lv_iinc (v := (y1 + 1)) (lv' := [(1, .int ((y1 + 1))), (0, .ref o0)]) S.1 S.2.1 dX9_init_188 hl (k := 1) rfl rfl (by decide) rfl (fun ls hl => ?_)
      refine lv_goto (tgt := 174) S.1 S.2.1 dX9_init_191 (by decide) ?_
      exact ih _ _ _ _ _ _ hw (lv_sub hl [1, 0] rfl) hf K0
set_option maxHeartbeats 4000000 in
set_option maxRecDepth 100000 in
theorem lp_X9_init_196 (S : CX p m c cX9_init 2 s args RX9 D cy) {o0 : Nat} {q0 : Nat → Nat}   : ∀ (n : Nat) (y1 : Int32) (σ0 : pStt) (H : Heap) (locs : List Loc) (ls : Array Slot) (u : pStt), PW D A H0 [pX9 cy o0 q0 σ0] H locs → lv_has ls 2 [(0, .ref o0), (1, .int y1)] → fl_X9_init_196 n y1 σ0 = some u → (∀ (H : Heap) (locs : List Loc) (ls : Array Slot), PW D A H0 [pX9 cy o0 q0 u] H locs → lv_has ls 2 [(0, .ref o0)] → W p l e rmX9_init s m args below meth c H locs cells slots Q (F0 m 216 ls [])) → W p l e rmX9_init s m args below meth c H locs cells slots Q (F0 m 196 ls []) := by
  intro n
  induction n with
  | zero =>
    intro y1 σ0 H locs ls u hw hl hf K0
    rw [fl_X9_init_196] at hf
    cases hf
  | succ n ih =>
    intro y1 σ0 H locs ls u hw hl hf K0
    rw [fl_X9_init_196] at hf
    refine lv_iload_n S.1 S.2.1 dX9_init_196 rfl (lv_at hl 1 rfl) ?_
    refine lv_bipush (v := 6) S.1 S.2.1 dX9_init_197 (by decide) ?_
    refine lv_icmp_ge (tgt := 216) S.1 S.2.1 dX9_init_199 (by decide) (fun c_4 => ?_) (fun c_4 => ?_)
    · replace hf := (if_pos c_4).symm.trans hf
      cases hf
      exact K0 _ _ _ hw (lv_sub hl [0] rfl)
    · replace hf := (if_neg c_4).symm.trans hf
      refine lv_aload_n S.1 S.2.1 dX9_init_202 rfl (lv_at hl 0 rfl) ?_
      refine gf_X9_16 S hw 0 rfl dX9_init_203 ?_
      refine lv_iload_n S.1 S.2.1 dX9_init_206 rfl (lv_at hl 1 rfl) ?_
      refine lv_bipush (v := (-6)) S.1 S.2.1 dX9_init_207 (by decide) ?_
      obtain ⟨σ_5, e_σ_5, hf⟩ := ob hf
      refine as_X9_2 S hw 0 rfl e_σ_5 dX9_init_209 (fun H locs hw => ?_)
      have hw : PW D A H0 [pX9 cy o0 q0 σ_5] H locs := hw
      refine lv_iinc (v := (y1 + 1)) (lv' := [(1, .int ((y1 + 1))), (0, .ref o0)]) S.1 S.2.1 dX9_init_210 hl (k := 1) rfl rfl (by decide) rfl (fun ls hl => ?_)
      refine lv_goto (tgt := 196) S.1 S.2.1 dX9_init_213 (by decide) ?_
      exact ih _ _ _ _ _ _ hw (lv_sub hl [1, 0] rfl) hf K0
set_option maxHeartbeats 4000000 in
set_option maxRecDepth 100000 in
theorem tl_X9_init (S : CX p m c cX9_init 2 s args RX9 D cy) {o0 : Nat} {q0 : Nat → Nat} {σ0 : pStt} {H : Heap} {locs : List Loc} {ls : Array Slot} (hw : PW D A H0 [pX9 cy o0 q0 σ0] H locs) (hl : lv_has ls 2 [(0, .ref o0)]) {u : pStt} (hf : f_X9_init σ0 = some u) (K : ∀ (H : Heap) (locs : List Loc) (ls : Array Slot), PW D A H0 [pX9 cy o0 q0 u] H locs → W p l e rmX9_init s m args below meth c H locs cells slots Q (F0 m 221 ls [])) : W p l e rmX9_init s m args below meth c H locs cells slots Q (F0 m 172 ls []) := by
  rw [f_X9_init] at hf
  refine lv_iconst (v := 0) S.1 S.2.1 dX9_init_172 (by decide) ?_
  refine lv_istore_n (lv' := [(1, .int 0), (0, .ref o0)]) S.1 S.2.1 dX9_init_173 rfl hl (by decide) rfl (fun ls hl => ?_)
  obtain ⟨u_3, e_u_3, hf⟩ := ob hf
  refine lp_X9_init_174 S 2000 _ _ _ _ _ _ hw (lv_sub hl [1, 0] rfl) e_u_3 ?_
  · intro H locs ls hw hl
    refine lv_iconst (v := 0) S.1 S.2.1 dX9_init_194 (by decide) ?_
    refine lv_istore_n (lv' := [(1, .int 0), (0, .ref o0)]) S.1 S.2.1 dX9_init_195 rfl hl (by decide) rfl (fun ls hl => ?_)
    obtain ⟨u_6, e_u_6, hf⟩ := ob hf
    refine lp_X9_init_196 S 2000 _ _ _ _ _ _ hw (lv_sub hl [1, 0] rfl) e_u_6 ?_
    · intro H locs ls hw hl
      refine lv_aload_n S.1 S.2.1 dX9_init_216 rfl (lv_at hl 0 rfl) ?_
      refine lv_iconst (v := 1) S.1 S.2.1 dX9_init_217 (by decide) ?_
      obtain ⟨σ_7, e_σ_7, hf⟩ := ob hf
      refine pf_X9_74 S hw 0 rfl e_σ_7 dX9_init_218 (fun H locs hw => ?_)
      have hw : PW D A H0 [pX9 cy o0 q0 σ_7] H locs := hw
      cases hf
      exact K _ _ _ hw
end
set_option maxHeartbeats 4000000 in
set_option maxRecDepth 100000 in
theorem c_X9_init (l : Launch) (D : va_G) (cy : Nat → ClassId) (o0 : Nat) (uX9 : pStt) (huX9 : f_X9_init zS = some uX9) : CTX l yX9_init cX9_init 2 none rmX9_init D cy [.ref o0] [[(o0, .inr (9, [.null, .null, .null, .null, .null, .int 0, .int 0, .null, .null, .null, .int 0, .null, .null, .null, .null, .int 0, .null, .int 0, .null, .null, .null, .int 0, .int 0, .int 0, .null, .int 0, .int 0, .int 0, .int 0, .int 0, .int 0, .null, .null, .null, .null, .int 0, .int 0]))]] none (fun x => [pX9 cy o0 (x 0) uX9]) 21 2653 := by
  refine CTX.of (by decide) (Nat.le_of_ble_eq_true rfl) (fun p e s m args below meth c ls A Q hA hQ S hr hlk hin hl hw => ?_)
  have hl : lv_has ls 2 [(0, .ref o0)] := hl
  have hf := huX9
  refine lv_aload_n S.1 S.2.1 dX9_init_0 rfl (lv_at hl 0 rfl) ?_
  refine x_objI S (S.2.2.2.2.wd wd696 rfl) (S.2.2.2.2.wd wd89 rfl) (S.2.2.2.2.wd wd_objc rfl) hl.1 (Nat.le_of_ble_eq_true rfl) (Nat.le_of_ble_eq_true rfl) dX9_init_1 ?_
  refine lv_aload_n S.1 S.2.1 dX9_init_4 rfl (lv_at hl 0 rfl) ?_
  refine lv_bipush (v := 8) S.1 S.2.1 dX9_init_5 (by decide) ?_
  refine x_newI (N' := 8) S hw (S.2.2.2.2.wd wd_ac_int rfl) (by decide) (by decide) (by decide) (Nat.le_of_ble_eq_true rfl) (Nat.le_of_ble_eq_true rfl) dX9_init_7 (fun a_1 H hw => ?_)
  have hw : PW D A s.heap [[(o0, .inr (9, [.null, .null, .null, .null, .null, .int 0, .int 0, .null, .null, .null, .int 0, .null, .null, .null, .null, .int 0, .null, .int 0, .null, .null, .null, .int 0, .int 0, .int 0, .null, .int 0, .int 0, .int 0, .int 0, .int 0, .int 0, .null, .null, .null, .null, .int 0, .int 0]))], [(a_1, .inl (cy 0, 8, .inl (fun _ => 0)))]] H _ := hw
  refine x_putF S hw hin 0 0 rfl rfl rfl (lay_X9 S.2.2.2.2) tyX9 tyX9_ok nmX9 0 (by decide) (S.2.2.2.2.wd wd697 rfl) rfl rfl rfl rfl rfl (Nat.le_of_ble_eq_true rfl) dX9_init_9 (fun H locs hw => ?_)
  have hw : PW D A s.heap [[(o0, .inr (9, [.ref a_1, .null, .null, .null, .null, .int 0, .int 0, .null, .null, .null, .int 0, .null, .null, .null, .null, .int 0, .null, .int 0, .null, .null, .null, .int 0, .int 0, .int 0, .null, .int 0, .int 0, .int 0, .int 0, .int 0, .int 0, .null, .null, .null, .null, .int 0, .int 0]))], [(a_1, .inl (cy 0, 8, .inl (fun _ => 0)))]] H _ := hw
  refine lv_aload_n S.1 S.2.1 dX9_init_12 rfl (lv_at hl 0 rfl) ?_
  refine lv_bipush (v := 8) S.1 S.2.1 dX9_init_13 (by decide) ?_
  refine x_newI (N' := 8) S hw (S.2.2.2.2.wd wd_ac_int rfl) (by decide) (by decide) (by decide) (Nat.le_of_ble_eq_true rfl) (Nat.le_of_ble_eq_true rfl) dX9_init_15 (fun a_2 H hw => ?_)
  have hw : PW D A s.heap [[(o0, .inr (9, [.ref a_1, .null, .null, .null, .null, .int 0, .int 0, .null, .null, .null, .int 0, .null, .null, .null, .null, .int 0, .null, .int 0, .null, .null, .null, .int 0, .int 0, .int 0, .null, .int 0, .int 0, .int 0, .int 0, .int 0, .int 0, .null, .null, .null, .null, .int 0, .int 0]))], [(a_1, .inl (cy 0, 8, .inl (fun _ => 0)))], [(a_2, .inl (cy 0, 8, .inl (fun _ => 0)))]] H _ := hw
  refine x_putF S hw hin 0 0 rfl rfl rfl (lay_X9 S.2.2.2.2) tyX9 tyX9_ok nmX9 1 (by decide) (S.2.2.2.2.wd wd698 rfl) rfl rfl rfl rfl rfl (Nat.le_of_ble_eq_true rfl) dX9_init_17 (fun H locs hw => ?_)
  have hw : PW D A s.heap [[(o0, .inr (9, [.ref a_1, .ref a_2, .null, .null, .null, .int 0, .int 0, .null, .null, .null, .int 0, .null, .null, .null, .null, .int 0, .null, .int 0, .null, .null, .null, .int 0, .int 0, .int 0, .null, .int 0, .int 0, .int 0, .int 0, .int 0, .int 0, .null, .null, .null, .null, .int 0, .int 0]))], [(a_1, .inl (cy 0, 8, .inl (fun _ => 0)))], [(a_2, .inl (cy 0, 8, .inl (fun _ => 0)))]] H _ := hw
  refine lv_aload_n S.1 S.2.1 dX9_init_20 rfl (lv_at hl 0 rfl) ?_
  refine lv_bipush (v := 6) S.1 S.2.1 dX9_init_21 (by decide) ?_
  refine x_newI (N' := 6) S hw (S.2.2.2.2.wd wd_ac_int rfl) (by decide) (by decide) (by decide) (Nat.le_of_ble_eq_true rfl) (Nat.le_of_ble_eq_true rfl) dX9_init_23 (fun a_3 H hw => ?_)
  have hw : PW D A s.heap [[(o0, .inr (9, [.ref a_1, .ref a_2, .null, .null, .null, .int 0, .int 0, .null, .null, .null, .int 0, .null, .null, .null, .null, .int 0, .null, .int 0, .null, .null, .null, .int 0, .int 0, .int 0, .null, .int 0, .int 0, .int 0, .int 0, .int 0, .int 0, .null, .null, .null, .null, .int 0, .int 0]))], [(a_1, .inl (cy 0, 8, .inl (fun _ => 0)))], [(a_2, .inl (cy 0, 8, .inl (fun _ => 0)))], [(a_3, .inl (cy 0, 6, .inl (fun _ => 0)))]] H _ := hw
  refine x_putF S hw hin 0 0 rfl rfl rfl (lay_X9 S.2.2.2.2) tyX9 tyX9_ok nmX9 2 (by decide) (S.2.2.2.2.wd wd699 rfl) rfl rfl rfl rfl rfl (Nat.le_of_ble_eq_true rfl) dX9_init_25 (fun H locs hw => ?_)
  have hw : PW D A s.heap [[(o0, .inr (9, [.ref a_1, .ref a_2, .ref a_3, .null, .null, .int 0, .int 0, .null, .null, .null, .int 0, .null, .null, .null, .null, .int 0, .null, .int 0, .null, .null, .null, .int 0, .int 0, .int 0, .null, .int 0, .int 0, .int 0, .int 0, .int 0, .int 0, .null, .null, .null, .null, .int 0, .int 0]))], [(a_1, .inl (cy 0, 8, .inl (fun _ => 0)))], [(a_2, .inl (cy 0, 8, .inl (fun _ => 0)))], [(a_3, .inl (cy 0, 6, .inl (fun _ => 0)))]] H _ := hw
  refine lv_aload_n S.1 S.2.1 dX9_init_28 rfl (lv_at hl 0 rfl) ?_
  refine lv_bipush (v := 6) S.1 S.2.1 dX9_init_29 (by decide) ?_
  refine x_newI (N' := 6) S hw (S.2.2.2.2.wd wd_ac_int rfl) (by decide) (by decide) (by decide) (Nat.le_of_ble_eq_true rfl) (Nat.le_of_ble_eq_true rfl) dX9_init_31 (fun a_4 H hw => ?_)
  have hw : PW D A s.heap [[(o0, .inr (9, [.ref a_1, .ref a_2, .ref a_3, .null, .null, .int 0, .int 0, .null, .null, .null, .int 0, .null, .null, .null, .null, .int 0, .null, .int 0, .null, .null, .null, .int 0, .int 0, .int 0, .null, .int 0, .int 0, .int 0, .int 0, .int 0, .int 0, .null, .null, .null, .null, .int 0, .int 0]))], [(a_1, .inl (cy 0, 8, .inl (fun _ => 0)))], [(a_2, .inl (cy 0, 8, .inl (fun _ => 0)))], [(a_3, .inl (cy 0, 6, .inl (fun _ => 0)))], [(a_4, .inl (cy 0, 6, .inl (fun _ => 0)))]] H _ := hw
  refine x_putF S hw hin 0 0 rfl rfl rfl (lay_X9 S.2.2.2.2) tyX9 tyX9_ok nmX9 3 (by decide) (S.2.2.2.2.wd wd700 rfl) rfl rfl rfl rfl rfl (Nat.le_of_ble_eq_true rfl) dX9_init_33 (fun H locs hw => ?_)
  have hw : PW D A s.heap [[(o0, .inr (9, [.ref a_1, .ref a_2, .ref a_3, .ref a_4, .null, .int 0, .int 0, .null, .null, .null, .int 0, .null, .null, .null, .null, .int 0, .null, .int 0, .null, .null, .null, .int 0, .int 0, .int 0, .null, .int 0, .int 0, .int 0, .int 0, .int 0, .int 0, .null, .null, .null, .null, .int 0, .int 0]))], [(a_1, .inl (cy 0, 8, .inl (fun _ => 0)))], [(a_2, .inl (cy 0, 8, .inl (fun _ => 0)))], [(a_3, .inl (cy 0, 6, .inl (fun _ => 0)))], [(a_4, .inl (cy 0, 6, .inl (fun _ => 0)))]] H _ := hw
  refine lv_aload_n S.1 S.2.1 dX9_init_36 rfl (lv_at hl 0 rfl) ?_
  refine lv_bipush (v := 6) S.1 S.2.1 dX9_init_37 (by decide) ?_
  refine x_newI (N' := 6) S hw (S.2.2.2.2.wd wd_ac_int rfl) (by decide) (by decide) (by decide) (Nat.le_of_ble_eq_true rfl) (Nat.le_of_ble_eq_true rfl) dX9_init_39 (fun a_5 H hw => ?_)
  have hw : PW D A s.heap [[(o0, .inr (9, [.ref a_1, .ref a_2, .ref a_3, .ref a_4, .null, .int 0, .int 0, .null, .null, .null, .int 0, .null, .null, .null, .null, .int 0, .null, .int 0, .null, .null, .null, .int 0, .int 0, .int 0, .null, .int 0, .int 0, .int 0, .int 0, .int 0, .int 0, .null, .null, .null, .null, .int 0, .int 0]))], [(a_1, .inl (cy 0, 8, .inl (fun _ => 0)))], [(a_2, .inl (cy 0, 8, .inl (fun _ => 0)))], [(a_3, .inl (cy 0, 6, .inl (fun _ => 0)))], [(a_4, .inl (cy 0, 6, .inl (fun _ => 0)))], [(a_5, .inl (cy 0, 6, .inl (fun _ => 0)))]] H _ := hw
  refine x_putF S hw hin 0 0 rfl rfl rfl (lay_X9 S.2.2.2.2) tyX9 tyX9_ok nmX9 4 (by decide) (S.2.2.2.2.wd wd701 rfl) rfl rfl rfl rfl rfl (Nat.le_of_ble_eq_true rfl) dX9_init_41 (fun H locs hw => ?_)
  have hw : PW D A s.heap [[(o0, .inr (9, [.ref a_1, .ref a_2, .ref a_3, .ref a_4, .ref a_5, .int 0, .int 0, .null, .null, .null, .int 0, .null, .null, .null, .null, .int 0, .null, .int 0, .null, .null, .null, .int 0, .int 0, .int 0, .null, .int 0, .int 0, .int 0, .int 0, .int 0, .int 0, .null, .null, .null, .null, .int 0, .int 0]))], [(a_1, .inl (cy 0, 8, .inl (fun _ => 0)))], [(a_2, .inl (cy 0, 8, .inl (fun _ => 0)))], [(a_3, .inl (cy 0, 6, .inl (fun _ => 0)))], [(a_4, .inl (cy 0, 6, .inl (fun _ => 0)))], [(a_5, .inl (cy 0, 6, .inl (fun _ => 0)))]] H _ := hw
  refine lv_aload_n S.1 S.2.1 dX9_init_44 rfl (lv_at hl 0 rfl) ?_
  refine lv_bipush (v := 12) S.1 S.2.1 dX9_init_45 (by decide) ?_
  refine x_newI (N' := 12) S hw (S.2.2.2.2.wd wd_ac_int rfl) (by decide) (by decide) (by decide) (Nat.le_of_ble_eq_true rfl) (Nat.le_of_ble_eq_true rfl) dX9_init_47 (fun a_6 H hw => ?_)
  have hw : PW D A s.heap [[(o0, .inr (9, [.ref a_1, .ref a_2, .ref a_3, .ref a_4, .ref a_5, .int 0, .int 0, .null, .null, .null, .int 0, .null, .null, .null, .null, .int 0, .null, .int 0, .null, .null, .null, .int 0, .int 0, .int 0, .null, .int 0, .int 0, .int 0, .int 0, .int 0, .int 0, .null, .null, .null, .null, .int 0, .int 0]))], [(a_1, .inl (cy 0, 8, .inl (fun _ => 0)))], [(a_2, .inl (cy 0, 8, .inl (fun _ => 0)))], [(a_3, .inl (cy 0, 6, .inl (fun _ => 0)))], [(a_4, .inl (cy 0, 6, .inl (fun _ => 0)))], [(a_5, .inl (cy 0, 6, .inl (fun _ => 0)))], [(a_6, .inl (cy 0, 12, .inl (fun _ => 0)))]] H _ := hw
  refine x_putF S hw hin 0 0 rfl rfl rfl (lay_X9 S.2.2.2.2) tyX9 tyX9_ok nmX9 7 (by decide) (S.2.2.2.2.wd wd704 rfl) rfl rfl rfl rfl rfl (Nat.le_of_ble_eq_true rfl) dX9_init_49 (fun H locs hw => ?_)
  have hw : PW D A s.heap [[(o0, .inr (9, [.ref a_1, .ref a_2, .ref a_3, .ref a_4, .ref a_5, .int 0, .int 0, .ref a_6, .null, .null, .int 0, .null, .null, .null, .null, .int 0, .null, .int 0, .null, .null, .null, .int 0, .int 0, .int 0, .null, .int 0, .int 0, .int 0, .int 0, .int 0, .int 0, .null, .null, .null, .null, .int 0, .int 0]))], [(a_1, .inl (cy 0, 8, .inl (fun _ => 0)))], [(a_2, .inl (cy 0, 8, .inl (fun _ => 0)))], [(a_3, .inl (cy 0, 6, .inl (fun _ => 0)))], [(a_4, .inl (cy 0, 6, .inl (fun _ => 0)))], [(a_5, .inl (cy 0, 6, .inl (fun _ => 0)))], [(a_6, .inl (cy 0, 12, .inl (fun _ => 0)))]] H _ := hw
  refine lv_aload_n S.1 S.2.1 dX9_init_52 rfl (lv_at hl 0 rfl) ?_
  refine lv_bipush (v := 12) S.1 S.2.1 dX9_init_53 (by decide) ?_
  refine x_newI (N' := 12) S hw (S.2.2.2.2.wd wd_ac_int rfl) (by decide) (by decide) (by decide) (Nat.le_of_ble_eq_true rfl) (Nat.le_of_ble_eq_true rfl) dX9_init_55 (fun a_7 H hw => ?_)
  have hw : PW D A s.heap [[(o0, .inr (9, [.ref a_1, .ref a_2, .ref a_3, .ref a_4, .ref a_5, .int 0, .int 0, .ref a_6, .null, .null, .int 0, .null, .null, .null, .null, .int 0, .null, .int 0, .null, .null, .null, .int 0, .int 0, .int 0, .null, .int 0, .int 0, .int 0, .int 0, .int 0, .int 0, .null, .null, .null, .null, .int 0, .int 0]))], [(a_1, .inl (cy 0, 8, .inl (fun _ => 0)))], [(a_2, .inl (cy 0, 8, .inl (fun _ => 0)))], [(a_3, .inl (cy 0, 6, .inl (fun _ => 0)))], [(a_4, .inl (cy 0, 6, .inl (fun _ => 0)))], [(a_5, .inl (cy 0, 6, .inl (fun _ => 0)))], [(a_6, .inl (cy 0, 12, .inl (fun _ => 0)))], [(a_7, .inl (cy 0, 12, .inl (fun _ => 0)))]] H _ := hw
  refine x_putF S hw hin 0 0 rfl rfl rfl (lay_X9 S.2.2.2.2) tyX9 tyX9_ok nmX9 8 (by decide) (S.2.2.2.2.wd wd705 rfl) rfl rfl rfl rfl rfl (Nat.le_of_ble_eq_true rfl) dX9_init_57 (fun H locs hw => ?_)
  have hw : PW D A s.heap [[(o0, .inr (9, [.ref a_1, .ref a_2, .ref a_3, .ref a_4, .ref a_5, .int 0, .int 0, .ref a_6, .ref a_7, .null, .int 0, .null, .null, .null, .null, .int 0, .null, .int 0, .null, .null, .null, .int 0, .int 0, .int 0, .null, .int 0, .int 0, .int 0, .int 0, .int 0, .int 0, .null, .null, .null, .null, .int 0, .int 0]))], [(a_1, .inl (cy 0, 8, .inl (fun _ => 0)))], [(a_2, .inl (cy 0, 8, .inl (fun _ => 0)))], [(a_3, .inl (cy 0, 6, .inl (fun _ => 0)))], [(a_4, .inl (cy 0, 6, .inl (fun _ => 0)))], [(a_5, .inl (cy 0, 6, .inl (fun _ => 0)))], [(a_6, .inl (cy 0, 12, .inl (fun _ => 0)))], [(a_7, .inl (cy 0, 12, .inl (fun _ => 0)))]] H _ := hw
  refine lv_aload_n S.1 S.2.1 dX9_init_60 rfl (lv_at hl 0 rfl) ?_
  refine lv_bipush (v := 12) S.1 S.2.1 dX9_init_61 (by decide) ?_
  refine x_newI (N' := 12) S hw (S.2.2.2.2.wd wd_ac_int rfl) (by decide) (by decide) (by decide) (Nat.le_of_ble_eq_true rfl) (Nat.le_of_ble_eq_true rfl) dX9_init_63 (fun a_8 H hw => ?_)
  have hw : PW D A s.heap [[(o0, .inr (9, [.ref a_1, .ref a_2, .ref a_3, .ref a_4, .ref a_5, .int 0, .int 0, .ref a_6, .ref a_7, .null, .int 0, .null, .null, .null, .null, .int 0, .null, .int 0, .null, .null, .null, .int 0, .int 0, .int 0, .null, .int 0, .int 0, .int 0, .int 0, .int 0, .int 0, .null, .null, .null, .null, .int 0, .int 0]))], [(a_1, .inl (cy 0, 8, .inl (fun _ => 0)))], [(a_2, .inl (cy 0, 8, .inl (fun _ => 0)))], [(a_3, .inl (cy 0, 6, .inl (fun _ => 0)))], [(a_4, .inl (cy 0, 6, .inl (fun _ => 0)))], [(a_5, .inl (cy 0, 6, .inl (fun _ => 0)))], [(a_6, .inl (cy 0, 12, .inl (fun _ => 0)))], [(a_7, .inl (cy 0, 12, .inl (fun _ => 0)))], [(a_8, .inl (cy 0, 12, .inl (fun _ => 0)))]] H _ := hw
  refine x_putF S hw hin 0 0 rfl rfl rfl (lay_X9 S.2.2.2.2) tyX9 tyX9_ok nmX9 9 (by decide) (S.2.2.2.2.wd wd706 rfl) rfl rfl rfl rfl rfl (Nat.le_of_ble_eq_true rfl) dX9_init_65 (fun H locs hw => ?_)
  have hw : PW D A s.heap [[(o0, .inr (9, [.ref a_1, .ref a_2, .ref a_3, .ref a_4, .ref a_5, .int 0, .int 0, .ref a_6, .ref a_7, .ref a_8, .int 0, .null, .null, .null, .null, .int 0, .null, .int 0, .null, .null, .null, .int 0, .int 0, .int 0, .null, .int 0, .int 0, .int 0, .int 0, .int 0, .int 0, .null, .null, .null, .null, .int 0, .int 0]))], [(a_1, .inl (cy 0, 8, .inl (fun _ => 0)))], [(a_2, .inl (cy 0, 8, .inl (fun _ => 0)))], [(a_3, .inl (cy 0, 6, .inl (fun _ => 0)))], [(a_4, .inl (cy 0, 6, .inl (fun _ => 0)))], [(a_5, .inl (cy 0, 6, .inl (fun _ => 0)))], [(a_6, .inl (cy 0, 12, .inl (fun _ => 0)))], [(a_7, .inl (cy 0, 12, .inl (fun _ => 0)))], [(a_8, .inl (cy 0, 12, .inl (fun _ => 0)))]] H _ := hw
  refine lv_aload_n S.1 S.2.1 dX9_init_68 rfl (lv_at hl 0 rfl) ?_
  refine lv_bipush (v := 8) S.1 S.2.1 dX9_init_69 (by decide) ?_
  refine x_newI (N' := 8) S hw (S.2.2.2.2.wd wd_ac_int rfl) (by decide) (by decide) (by decide) (Nat.le_of_ble_eq_true rfl) (Nat.le_of_ble_eq_true rfl) dX9_init_71 (fun a_9 H hw => ?_)
  have hw : PW D A s.heap [[(o0, .inr (9, [.ref a_1, .ref a_2, .ref a_3, .ref a_4, .ref a_5, .int 0, .int 0, .ref a_6, .ref a_7, .ref a_8, .int 0, .null, .null, .null, .null, .int 0, .null, .int 0, .null, .null, .null, .int 0, .int 0, .int 0, .null, .int 0, .int 0, .int 0, .int 0, .int 0, .int 0, .null, .null, .null, .null, .int 0, .int 0]))], [(a_1, .inl (cy 0, 8, .inl (fun _ => 0)))], [(a_2, .inl (cy 0, 8, .inl (fun _ => 0)))], [(a_3, .inl (cy 0, 6, .inl (fun _ => 0)))], [(a_4, .inl (cy 0, 6, .inl (fun _ => 0)))], [(a_5, .inl (cy 0, 6, .inl (fun _ => 0)))], [(a_6, .inl (cy 0, 12, .inl (fun _ => 0)))], [(a_7, .inl (cy 0, 12, .inl (fun _ => 0)))], [(a_8, .inl (cy 0, 12, .inl (fun _ => 0)))], [(a_9, .inl (cy 0, 8, .inl (fun _ => 0)))]] H _ := hw
  refine x_putF S hw hin 0 0 rfl rfl rfl (lay_X9 S.2.2.2.2) tyX9 tyX9_ok nmX9 11 (by decide) (S.2.2.2.2.wd wd708 rfl) rfl rfl rfl rfl rfl (Nat.le_of_ble_eq_true rfl) dX9_init_73 (fun H locs hw => ?_)
  have hw : PW D A s.heap [[(o0, .inr (9, [.ref a_1, .ref a_2, .ref a_3, .ref a_4, .ref a_5, .int 0, .int 0, .ref a_6, .ref a_7, .ref a_8, .int 0, .ref a_9, .null, .null, .null, .int 0, .null, .int 0, .null, .null, .null, .int 0, .int 0, .int 0, .null, .int 0, .int 0, .int 0, .int 0, .int 0, .int 0, .null, .null, .null, .null, .int 0, .int 0]))], [(a_1, .inl (cy 0, 8, .inl (fun _ => 0)))], [(a_2, .inl (cy 0, 8, .inl (fun _ => 0)))], [(a_3, .inl (cy 0, 6, .inl (fun _ => 0)))], [(a_4, .inl (cy 0, 6, .inl (fun _ => 0)))], [(a_5, .inl (cy 0, 6, .inl (fun _ => 0)))], [(a_6, .inl (cy 0, 12, .inl (fun _ => 0)))], [(a_7, .inl (cy 0, 12, .inl (fun _ => 0)))], [(a_8, .inl (cy 0, 12, .inl (fun _ => 0)))], [(a_9, .inl (cy 0, 8, .inl (fun _ => 0)))]] H _ := hw
  refine lv_aload_n S.1 S.2.1 dX9_init_76 rfl (lv_at hl 0 rfl) ?_
  refine lv_bipush (v := 8) S.1 S.2.1 dX9_init_77 (by decide) ?_
  refine x_newI (N' := 8) S hw (S.2.2.2.2.wd wd_ac_int rfl) (by decide) (by decide) (by decide) (Nat.le_of_ble_eq_true rfl) (Nat.le_of_ble_eq_true rfl) dX9_init_79 (fun a_10 H hw => ?_)
  have hw : PW D A s.heap [[(o0, .inr (9, [.ref a_1, .ref a_2, .ref a_3, .ref a_4, .ref a_5, .int 0, .int 0, .ref a_6, .ref a_7, .ref a_8, .int 0, .ref a_9, .null, .null, .null, .int 0, .null, .int 0, .null, .null, .null, .int 0, .int 0, .int 0, .null, .int 0, .int 0, .int 0, .int 0, .int 0, .int 0, .null, .null, .null, .null, .int 0, .int 0]))], [(a_1, .inl (cy 0, 8, .inl (fun _ => 0)))], [(a_2, .inl (cy 0, 8, .inl (fun _ => 0)))], [(a_3, .inl (cy 0, 6, .inl (fun _ => 0)))], [(a_4, .inl (cy 0, 6, .inl (fun _ => 0)))], [(a_5, .inl (cy 0, 6, .inl (fun _ => 0)))], [(a_6, .inl (cy 0, 12, .inl (fun _ => 0)))], [(a_7, .inl (cy 0, 12, .inl (fun _ => 0)))], [(a_8, .inl (cy 0, 12, .inl (fun _ => 0)))], [(a_9, .inl (cy 0, 8, .inl (fun _ => 0)))], [(a_10, .inl (cy 0, 8, .inl (fun _ => 0)))]] H _ := hw
  refine x_putF S hw hin 0 0 rfl rfl rfl (lay_X9 S.2.2.2.2) tyX9 tyX9_ok nmX9 12 (by decide) (S.2.2.2.2.wd wd709 rfl) rfl rfl rfl rfl rfl (Nat.le_of_ble_eq_true rfl) dX9_init_81 (fun H locs hw => ?_)
  have hw : PW D A s.heap [[(o0, .inr (9, [.ref a_1, .ref a_2, .ref a_3, .ref a_4, .ref a_5, .int 0, .int 0, .ref a_6, .ref a_7, .ref a_8, .int 0, .ref a_9, .ref a_10, .null, .null, .int 0, .null, .int 0, .null, .null, .null, .int 0, .int 0, .int 0, .null, .int 0, .int 0, .int 0, .int 0, .int 0, .int 0, .null, .null, .null, .null, .int 0, .int 0]))], [(a_1, .inl (cy 0, 8, .inl (fun _ => 0)))], [(a_2, .inl (cy 0, 8, .inl (fun _ => 0)))], [(a_3, .inl (cy 0, 6, .inl (fun _ => 0)))], [(a_4, .inl (cy 0, 6, .inl (fun _ => 0)))], [(a_5, .inl (cy 0, 6, .inl (fun _ => 0)))], [(a_6, .inl (cy 0, 12, .inl (fun _ => 0)))], [(a_7, .inl (cy 0, 12, .inl (fun _ => 0)))], [(a_8, .inl (cy 0, 12, .inl (fun _ => 0)))], [(a_9, .inl (cy 0, 8, .inl (fun _ => 0)))], [(a_10, .inl (cy 0, 8, .inl (fun _ => 0)))]] H _ := hw
  refine lv_aload_n S.1 S.2.1 dX9_init_84 rfl (lv_at hl 0 rfl) ?_
  refine lv_bipush (v := 8) S.1 S.2.1 dX9_init_85 (by decide) ?_
  refine x_newI (N' := 8) S hw (S.2.2.2.2.wd wd_ac_int rfl) (by decide) (by decide) (by decide) (Nat.le_of_ble_eq_true rfl) (Nat.le_of_ble_eq_true rfl) dX9_init_87 (fun a_11 H hw => ?_)
  have hw : PW D A s.heap [[(o0, .inr (9, [.ref a_1, .ref a_2, .ref a_3, .ref a_4, .ref a_5, .int 0, .int 0, .ref a_6, .ref a_7, .ref a_8, .int 0, .ref a_9, .ref a_10, .null, .null, .int 0, .null, .int 0, .null, .null, .null, .int 0, .int 0, .int 0, .null, .int 0, .int 0, .int 0, .int 0, .int 0, .int 0, .null, .null, .null, .null, .int 0, .int 0]))], [(a_1, .inl (cy 0, 8, .inl (fun _ => 0)))], [(a_2, .inl (cy 0, 8, .inl (fun _ => 0)))], [(a_3, .inl (cy 0, 6, .inl (fun _ => 0)))], [(a_4, .inl (cy 0, 6, .inl (fun _ => 0)))], [(a_5, .inl (cy 0, 6, .inl (fun _ => 0)))], [(a_6, .inl (cy 0, 12, .inl (fun _ => 0)))], [(a_7, .inl (cy 0, 12, .inl (fun _ => 0)))], [(a_8, .inl (cy 0, 12, .inl (fun _ => 0)))], [(a_9, .inl (cy 0, 8, .inl (fun _ => 0)))], [(a_10, .inl (cy 0, 8, .inl (fun _ => 0)))], [(a_11, .inl (cy 0, 8, .inl (fun _ => 0)))]] H _ := hw
  refine x_putF S hw hin 0 0 rfl rfl rfl (lay_X9 S.2.2.2.2) tyX9 tyX9_ok nmX9 13 (by decide) (S.2.2.2.2.wd wd710 rfl) rfl rfl rfl rfl rfl (Nat.le_of_ble_eq_true rfl) dX9_init_89 (fun H locs hw => ?_)
  have hw : PW D A s.heap [[(o0, .inr (9, [.ref a_1, .ref a_2, .ref a_3, .ref a_4, .ref a_5, .int 0, .int 0, .ref a_6, .ref a_7, .ref a_8, .int 0, .ref a_9, .ref a_10, .ref a_11, .null, .int 0, .null, .int 0, .null, .null, .null, .int 0, .int 0, .int 0, .null, .int 0, .int 0, .int 0, .int 0, .int 0, .int 0, .null, .null, .null, .null, .int 0, .int 0]))], [(a_1, .inl (cy 0, 8, .inl (fun _ => 0)))], [(a_2, .inl (cy 0, 8, .inl (fun _ => 0)))], [(a_3, .inl (cy 0, 6, .inl (fun _ => 0)))], [(a_4, .inl (cy 0, 6, .inl (fun _ => 0)))], [(a_5, .inl (cy 0, 6, .inl (fun _ => 0)))], [(a_6, .inl (cy 0, 12, .inl (fun _ => 0)))], [(a_7, .inl (cy 0, 12, .inl (fun _ => 0)))], [(a_8, .inl (cy 0, 12, .inl (fun _ => 0)))], [(a_9, .inl (cy 0, 8, .inl (fun _ => 0)))], [(a_10, .inl (cy 0, 8, .inl (fun _ => 0)))], [(a_11, .inl (cy 0, 8, .inl (fun _ => 0)))]] H _ := hw
  refine lv_aload_n S.1 S.2.1 dX9_init_92 rfl (lv_at hl 0 rfl) ?_
  refine lv_bipush (v := 8) S.1 S.2.1 dX9_init_93 (by decide) ?_
  refine x_newI (N' := 8) S hw (S.2.2.2.2.wd wd_ac_int rfl) (by decide) (by decide) (by decide) (Nat.le_of_ble_eq_true rfl) (Nat.le_of_ble_eq_true rfl) dX9_init_95 (fun a_12 H hw => ?_)
  have hw : PW D A s.heap [[(o0, .inr (9, [.ref a_1, .ref a_2, .ref a_3, .ref a_4, .ref a_5, .int 0, .int 0, .ref a_6, .ref a_7, .ref a_8, .int 0, .ref a_9, .ref a_10, .ref a_11, .null, .int 0, .null, .int 0, .null, .null, .null, .int 0, .int 0, .int 0, .null, .int 0, .int 0, .int 0, .int 0, .int 0, .int 0, .null, .null, .null, .null, .int 0, .int 0]))], [(a_1, .inl (cy 0, 8, .inl (fun _ => 0)))], [(a_2, .inl (cy 0, 8, .inl (fun _ => 0)))], [(a_3, .inl (cy 0, 6, .inl (fun _ => 0)))], [(a_4, .inl (cy 0, 6, .inl (fun _ => 0)))], [(a_5, .inl (cy 0, 6, .inl (fun _ => 0)))], [(a_6, .inl (cy 0, 12, .inl (fun _ => 0)))], [(a_7, .inl (cy 0, 12, .inl (fun _ => 0)))], [(a_8, .inl (cy 0, 12, .inl (fun _ => 0)))], [(a_9, .inl (cy 0, 8, .inl (fun _ => 0)))], [(a_10, .inl (cy 0, 8, .inl (fun _ => 0)))], [(a_11, .inl (cy 0, 8, .inl (fun _ => 0)))], [(a_12, .inl (cy 0, 8, .inl (fun _ => 0)))]] H _ := hw
  refine x_putF S hw hin 0 0 rfl rfl rfl (lay_X9 S.2.2.2.2) tyX9 tyX9_ok nmX9 14 (by decide) (S.2.2.2.2.wd wd711 rfl) rfl rfl rfl rfl rfl (Nat.le_of_ble_eq_true rfl) dX9_init_97 (fun H locs hw => ?_)
  have hw : PW D A s.heap [[(o0, .inr (9, [.ref a_1, .ref a_2, .ref a_3, .ref a_4, .ref a_5, .int 0, .int 0, .ref a_6, .ref a_7, .ref a_8, .int 0, .ref a_9, .ref a_10, .ref a_11, .ref a_12, .int 0, .null, .int 0, .null, .null, .null, .int 0, .int 0, .int 0, .null, .int 0, .int 0, .int 0, .int 0, .int 0, .int 0, .null, .null, .null, .null, .int 0, .int 0]))], [(a_1, .inl (cy 0, 8, .inl (fun _ => 0)))], [(a_2, .inl (cy 0, 8, .inl (fun _ => 0)))], [(a_3, .inl (cy 0, 6, .inl (fun _ => 0)))], [(a_4, .inl (cy 0, 6, .inl (fun _ => 0)))], [(a_5, .inl (cy 0, 6, .inl (fun _ => 0)))], [(a_6, .inl (cy 0, 12, .inl (fun _ => 0)))], [(a_7, .inl (cy 0, 12, .inl (fun _ => 0)))], [(a_8, .inl (cy 0, 12, .inl (fun _ => 0)))], [(a_9, .inl (cy 0, 8, .inl (fun _ => 0)))], [(a_10, .inl (cy 0, 8, .inl (fun _ => 0)))], [(a_11, .inl (cy 0, 8, .inl (fun _ => 0)))], [(a_12, .inl (cy 0, 8, .inl (fun _ => 0)))]] H _ := hw
  refine lv_aload_n S.1 S.2.1 dX9_init_100 rfl (lv_at hl 0 rfl) ?_
  refine lv_bipush (v := 60) S.1 S.2.1 dX9_init_101 (by decide) ?_
  refine x_newI (N' := 60) S hw (S.2.2.2.2.wd wd_ac_int rfl) (by decide) (by decide) (by decide) (Nat.le_of_ble_eq_true rfl) (Nat.le_of_ble_eq_true rfl) dX9_init_103 (fun a_13 H hw => ?_)
  have hw : PW D A s.heap [[(o0, .inr (9, [.ref a_1, .ref a_2, .ref a_3, .ref a_4, .ref a_5, .int 0, .int 0, .ref a_6, .ref a_7, .ref a_8, .int 0, .ref a_9, .ref a_10, .ref a_11, .ref a_12, .int 0, .null, .int 0, .null, .null, .null, .int 0, .int 0, .int 0, .null, .int 0, .int 0, .int 0, .int 0, .int 0, .int 0, .null, .null, .null, .null, .int 0, .int 0]))], [(a_1, .inl (cy 0, 8, .inl (fun _ => 0)))], [(a_2, .inl (cy 0, 8, .inl (fun _ => 0)))], [(a_3, .inl (cy 0, 6, .inl (fun _ => 0)))], [(a_4, .inl (cy 0, 6, .inl (fun _ => 0)))], [(a_5, .inl (cy 0, 6, .inl (fun _ => 0)))], [(a_6, .inl (cy 0, 12, .inl (fun _ => 0)))], [(a_7, .inl (cy 0, 12, .inl (fun _ => 0)))], [(a_8, .inl (cy 0, 12, .inl (fun _ => 0)))], [(a_9, .inl (cy 0, 8, .inl (fun _ => 0)))], [(a_10, .inl (cy 0, 8, .inl (fun _ => 0)))], [(a_11, .inl (cy 0, 8, .inl (fun _ => 0)))], [(a_12, .inl (cy 0, 8, .inl (fun _ => 0)))], [(a_13, .inl (cy 0, 60, .inl (fun _ => 0)))]] H _ := hw
  refine x_putF S hw hin 0 0 rfl rfl rfl (lay_X9 S.2.2.2.2) tyX9 tyX9_ok nmX9 16 (by decide) (S.2.2.2.2.wd wd713 rfl) rfl rfl rfl rfl rfl (Nat.le_of_ble_eq_true rfl) dX9_init_105 (fun H locs hw => ?_)
  have hw : PW D A s.heap [[(o0, .inr (9, [.ref a_1, .ref a_2, .ref a_3, .ref a_4, .ref a_5, .int 0, .int 0, .ref a_6, .ref a_7, .ref a_8, .int 0, .ref a_9, .ref a_10, .ref a_11, .ref a_12, .int 0, .ref a_13, .int 0, .null, .null, .null, .int 0, .int 0, .int 0, .null, .int 0, .int 0, .int 0, .int 0, .int 0, .int 0, .null, .null, .null, .null, .int 0, .int 0]))], [(a_1, .inl (cy 0, 8, .inl (fun _ => 0)))], [(a_2, .inl (cy 0, 8, .inl (fun _ => 0)))], [(a_3, .inl (cy 0, 6, .inl (fun _ => 0)))], [(a_4, .inl (cy 0, 6, .inl (fun _ => 0)))], [(a_5, .inl (cy 0, 6, .inl (fun _ => 0)))], [(a_6, .inl (cy 0, 12, .inl (fun _ => 0)))], [(a_7, .inl (cy 0, 12, .inl (fun _ => 0)))], [(a_8, .inl (cy 0, 12, .inl (fun _ => 0)))], [(a_9, .inl (cy 0, 8, .inl (fun _ => 0)))], [(a_10, .inl (cy 0, 8, .inl (fun _ => 0)))], [(a_11, .inl (cy 0, 8, .inl (fun _ => 0)))], [(a_12, .inl (cy 0, 8, .inl (fun _ => 0)))], [(a_13, .inl (cy 0, 60, .inl (fun _ => 0)))]] H _ := hw
  refine lv_aload_n S.1 S.2.1 dX9_init_108 rfl (lv_at hl 0 rfl) ?_
  refine lv_bipush (v := 60) S.1 S.2.1 dX9_init_109 (by decide) ?_
  refine x_newI (N' := 60) S hw (S.2.2.2.2.wd wd_ac_int rfl) (by decide) (by decide) (by decide) (Nat.le_of_ble_eq_true rfl) (Nat.le_of_ble_eq_true rfl) dX9_init_111 (fun a_14 H hw => ?_)
  have hw : PW D A s.heap [[(o0, .inr (9, [.ref a_1, .ref a_2, .ref a_3, .ref a_4, .ref a_5, .int 0, .int 0, .ref a_6, .ref a_7, .ref a_8, .int 0, .ref a_9, .ref a_10, .ref a_11, .ref a_12, .int 0, .ref a_13, .int 0, .null, .null, .null, .int 0, .int 0, .int 0, .null, .int 0, .int 0, .int 0, .int 0, .int 0, .int 0, .null, .null, .null, .null, .int 0, .int 0]))], [(a_1, .inl (cy 0, 8, .inl (fun _ => 0)))], [(a_2, .inl (cy 0, 8, .inl (fun _ => 0)))], [(a_3, .inl (cy 0, 6, .inl (fun _ => 0)))], [(a_4, .inl (cy 0, 6, .inl (fun _ => 0)))], [(a_5, .inl (cy 0, 6, .inl (fun _ => 0)))], [(a_6, .inl (cy 0, 12, .inl (fun _ => 0)))], [(a_7, .inl (cy 0, 12, .inl (fun _ => 0)))], [(a_8, .inl (cy 0, 12, .inl (fun _ => 0)))], [(a_9, .inl (cy 0, 8, .inl (fun _ => 0)))], [(a_10, .inl (cy 0, 8, .inl (fun _ => 0)))], [(a_11, .inl (cy 0, 8, .inl (fun _ => 0)))], [(a_12, .inl (cy 0, 8, .inl (fun _ => 0)))], [(a_13, .inl (cy 0, 60, .inl (fun _ => 0)))], [(a_14, .inl (cy 0, 60, .inl (fun _ => 0)))]] H _ := hw
  refine x_putF S hw hin 0 0 rfl rfl rfl (lay_X9 S.2.2.2.2) tyX9 tyX9_ok nmX9 18 (by decide) (S.2.2.2.2.wd wd715 rfl) rfl rfl rfl rfl rfl (Nat.le_of_ble_eq_true rfl) dX9_init_113 (fun H locs hw => ?_)
  have hw : PW D A s.heap [[(o0, .inr (9, [.ref a_1, .ref a_2, .ref a_3, .ref a_4, .ref a_5, .int 0, .int 0, .ref a_6, .ref a_7, .ref a_8, .int 0, .ref a_9, .ref a_10, .ref a_11, .ref a_12, .int 0, .ref a_13, .int 0, .ref a_14, .null, .null, .int 0, .int 0, .int 0, .null, .int 0, .int 0, .int 0, .int 0, .int 0, .int 0, .null, .null, .null, .null, .int 0, .int 0]))], [(a_1, .inl (cy 0, 8, .inl (fun _ => 0)))], [(a_2, .inl (cy 0, 8, .inl (fun _ => 0)))], [(a_3, .inl (cy 0, 6, .inl (fun _ => 0)))], [(a_4, .inl (cy 0, 6, .inl (fun _ => 0)))], [(a_5, .inl (cy 0, 6, .inl (fun _ => 0)))], [(a_6, .inl (cy 0, 12, .inl (fun _ => 0)))], [(a_7, .inl (cy 0, 12, .inl (fun _ => 0)))], [(a_8, .inl (cy 0, 12, .inl (fun _ => 0)))], [(a_9, .inl (cy 0, 8, .inl (fun _ => 0)))], [(a_10, .inl (cy 0, 8, .inl (fun _ => 0)))], [(a_11, .inl (cy 0, 8, .inl (fun _ => 0)))], [(a_12, .inl (cy 0, 8, .inl (fun _ => 0)))], [(a_13, .inl (cy 0, 60, .inl (fun _ => 0)))], [(a_14, .inl (cy 0, 60, .inl (fun _ => 0)))]] H _ := hw
  refine lv_aload_n S.1 S.2.1 dX9_init_116 rfl (lv_at hl 0 rfl) ?_
  refine lv_bipush (v := 60) S.1 S.2.1 dX9_init_117 (by decide) ?_
  refine x_newI (N' := 60) S hw (S.2.2.2.2.wd wd_ac_int rfl) (by decide) (by decide) (by decide) (Nat.le_of_ble_eq_true rfl) (Nat.le_of_ble_eq_true rfl) dX9_init_119 (fun a_15 H hw => ?_)
  have hw : PW D A s.heap [[(o0, .inr (9, [.ref a_1, .ref a_2, .ref a_3, .ref a_4, .ref a_5, .int 0, .int 0, .ref a_6, .ref a_7, .ref a_8, .int 0, .ref a_9, .ref a_10, .ref a_11, .ref a_12, .int 0, .ref a_13, .int 0, .ref a_14, .null, .null, .int 0, .int 0, .int 0, .null, .int 0, .int 0, .int 0, .int 0, .int 0, .int 0, .null, .null, .null, .null, .int 0, .int 0]))], [(a_1, .inl (cy 0, 8, .inl (fun _ => 0)))], [(a_2, .inl (cy 0, 8, .inl (fun _ => 0)))], [(a_3, .inl (cy 0, 6, .inl (fun _ => 0)))], [(a_4, .inl (cy 0, 6, .inl (fun _ => 0)))], [(a_5, .inl (cy 0, 6, .inl (fun _ => 0)))], [(a_6, .inl (cy 0, 12, .inl (fun _ => 0)))], [(a_7, .inl (cy 0, 12, .inl (fun _ => 0)))], [(a_8, .inl (cy 0, 12, .inl (fun _ => 0)))], [(a_9, .inl (cy 0, 8, .inl (fun _ => 0)))], [(a_10, .inl (cy 0, 8, .inl (fun _ => 0)))], [(a_11, .inl (cy 0, 8, .inl (fun _ => 0)))], [(a_12, .inl (cy 0, 8, .inl (fun _ => 0)))], [(a_13, .inl (cy 0, 60, .inl (fun _ => 0)))], [(a_14, .inl (cy 0, 60, .inl (fun _ => 0)))], [(a_15, .inl (cy 0, 60, .inl (fun _ => 0)))]] H _ := hw
  refine x_putF S hw hin 0 0 rfl rfl rfl (lay_X9 S.2.2.2.2) tyX9 tyX9_ok nmX9 19 (by decide) (S.2.2.2.2.wd wd716 rfl) rfl rfl rfl rfl rfl (Nat.le_of_ble_eq_true rfl) dX9_init_121 (fun H locs hw => ?_)
  have hw : PW D A s.heap [[(o0, .inr (9, [.ref a_1, .ref a_2, .ref a_3, .ref a_4, .ref a_5, .int 0, .int 0, .ref a_6, .ref a_7, .ref a_8, .int 0, .ref a_9, .ref a_10, .ref a_11, .ref a_12, .int 0, .ref a_13, .int 0, .ref a_14, .ref a_15, .null, .int 0, .int 0, .int 0, .null, .int 0, .int 0, .int 0, .int 0, .int 0, .int 0, .null, .null, .null, .null, .int 0, .int 0]))], [(a_1, .inl (cy 0, 8, .inl (fun _ => 0)))], [(a_2, .inl (cy 0, 8, .inl (fun _ => 0)))], [(a_3, .inl (cy 0, 6, .inl (fun _ => 0)))], [(a_4, .inl (cy 0, 6, .inl (fun _ => 0)))], [(a_5, .inl (cy 0, 6, .inl (fun _ => 0)))], [(a_6, .inl (cy 0, 12, .inl (fun _ => 0)))], [(a_7, .inl (cy 0, 12, .inl (fun _ => 0)))], [(a_8, .inl (cy 0, 12, .inl (fun _ => 0)))], [(a_9, .inl (cy 0, 8, .inl (fun _ => 0)))], [(a_10, .inl (cy 0, 8, .inl (fun _ => 0)))], [(a_11, .inl (cy 0, 8, .inl (fun _ => 0)))], [(a_12, .inl (cy 0, 8, .inl (fun _ => 0)))], [(a_13, .inl (cy 0, 60, .inl (fun _ => 0)))], [(a_14, .inl (cy 0, 60, .inl (fun _ => 0)))], [(a_15, .inl (cy 0, 60, .inl (fun _ => 0)))]] H _ := hw
  refine lv_aload_n S.1 S.2.1 dX9_init_124 rfl (lv_at hl 0 rfl) ?_
  refine lv_bipush (v := 60) S.1 S.2.1 dX9_init_125 (by decide) ?_
  refine x_newI (N' := 60) S hw (S.2.2.2.2.wd wd_ac_int rfl) (by decide) (by decide) (by decide) (Nat.le_of_ble_eq_true rfl) (Nat.le_of_ble_eq_true rfl) dX9_init_127 (fun a_16 H hw => ?_)
  have hw : PW D A s.heap [[(o0, .inr (9, [.ref a_1, .ref a_2, .ref a_3, .ref a_4, .ref a_5, .int 0, .int 0, .ref a_6, .ref a_7, .ref a_8, .int 0, .ref a_9, .ref a_10, .ref a_11, .ref a_12, .int 0, .ref a_13, .int 0, .ref a_14, .ref a_15, .null, .int 0, .int 0, .int 0, .null, .int 0, .int 0, .int 0, .int 0, .int 0, .int 0, .null, .null, .null, .null, .int 0, .int 0]))], [(a_1, .inl (cy 0, 8, .inl (fun _ => 0)))], [(a_2, .inl (cy 0, 8, .inl (fun _ => 0)))], [(a_3, .inl (cy 0, 6, .inl (fun _ => 0)))], [(a_4, .inl (cy 0, 6, .inl (fun _ => 0)))], [(a_5, .inl (cy 0, 6, .inl (fun _ => 0)))], [(a_6, .inl (cy 0, 12, .inl (fun _ => 0)))], [(a_7, .inl (cy 0, 12, .inl (fun _ => 0)))], [(a_8, .inl (cy 0, 12, .inl (fun _ => 0)))], [(a_9, .inl (cy 0, 8, .inl (fun _ => 0)))], [(a_10, .inl (cy 0, 8, .inl (fun _ => 0)))], [(a_11, .inl (cy 0, 8, .inl (fun _ => 0)))], [(a_12, .inl (cy 0, 8, .inl (fun _ => 0)))], [(a_13, .inl (cy 0, 60, .inl (fun _ => 0)))], [(a_14, .inl (cy 0, 60, .inl (fun _ => 0)))], [(a_15, .inl (cy 0, 60, .inl (fun _ => 0)))], [(a_16, .inl (cy 0, 60, .inl (fun _ => 0)))]] H _ := hw
  refine x_putF S hw hin 0 0 rfl rfl rfl (lay_X9 S.2.2.2.2) tyX9 tyX9_ok nmX9 20 (by decide) (S.2.2.2.2.wd wd717 rfl) rfl rfl rfl rfl rfl (Nat.le_of_ble_eq_true rfl) dX9_init_129 (fun H locs hw => ?_)
  have hw : PW D A s.heap [[(o0, .inr (9, [.ref a_1, .ref a_2, .ref a_3, .ref a_4, .ref a_5, .int 0, .int 0, .ref a_6, .ref a_7, .ref a_8, .int 0, .ref a_9, .ref a_10, .ref a_11, .ref a_12, .int 0, .ref a_13, .int 0, .ref a_14, .ref a_15, .ref a_16, .int 0, .int 0, .int 0, .null, .int 0, .int 0, .int 0, .int 0, .int 0, .int 0, .null, .null, .null, .null, .int 0, .int 0]))], [(a_1, .inl (cy 0, 8, .inl (fun _ => 0)))], [(a_2, .inl (cy 0, 8, .inl (fun _ => 0)))], [(a_3, .inl (cy 0, 6, .inl (fun _ => 0)))], [(a_4, .inl (cy 0, 6, .inl (fun _ => 0)))], [(a_5, .inl (cy 0, 6, .inl (fun _ => 0)))], [(a_6, .inl (cy 0, 12, .inl (fun _ => 0)))], [(a_7, .inl (cy 0, 12, .inl (fun _ => 0)))], [(a_8, .inl (cy 0, 12, .inl (fun _ => 0)))], [(a_9, .inl (cy 0, 8, .inl (fun _ => 0)))], [(a_10, .inl (cy 0, 8, .inl (fun _ => 0)))], [(a_11, .inl (cy 0, 8, .inl (fun _ => 0)))], [(a_12, .inl (cy 0, 8, .inl (fun _ => 0)))], [(a_13, .inl (cy 0, 60, .inl (fun _ => 0)))], [(a_14, .inl (cy 0, 60, .inl (fun _ => 0)))], [(a_15, .inl (cy 0, 60, .inl (fun _ => 0)))], [(a_16, .inl (cy 0, 60, .inl (fun _ => 0)))]] H _ := hw
  refine lv_aload_n S.1 S.2.1 dX9_init_132 rfl (lv_at hl 0 rfl) ?_
  refine lv_bipush (v := 36) S.1 S.2.1 dX9_init_133 (by decide) ?_
  refine x_newI (N' := 36) S hw (S.2.2.2.2.wd wd_ac_int rfl) (by decide) (by decide) (by decide) (Nat.le_of_ble_eq_true rfl) (Nat.le_of_ble_eq_true rfl) dX9_init_135 (fun a_17 H hw => ?_)
  have hw : PW D A s.heap [[(o0, .inr (9, [.ref a_1, .ref a_2, .ref a_3, .ref a_4, .ref a_5, .int 0, .int 0, .ref a_6, .ref a_7, .ref a_8, .int 0, .ref a_9, .ref a_10, .ref a_11, .ref a_12, .int 0, .ref a_13, .int 0, .ref a_14, .ref a_15, .ref a_16, .int 0, .int 0, .int 0, .null, .int 0, .int 0, .int 0, .int 0, .int 0, .int 0, .null, .null, .null, .null, .int 0, .int 0]))], [(a_1, .inl (cy 0, 8, .inl (fun _ => 0)))], [(a_2, .inl (cy 0, 8, .inl (fun _ => 0)))], [(a_3, .inl (cy 0, 6, .inl (fun _ => 0)))], [(a_4, .inl (cy 0, 6, .inl (fun _ => 0)))], [(a_5, .inl (cy 0, 6, .inl (fun _ => 0)))], [(a_6, .inl (cy 0, 12, .inl (fun _ => 0)))], [(a_7, .inl (cy 0, 12, .inl (fun _ => 0)))], [(a_8, .inl (cy 0, 12, .inl (fun _ => 0)))], [(a_9, .inl (cy 0, 8, .inl (fun _ => 0)))], [(a_10, .inl (cy 0, 8, .inl (fun _ => 0)))], [(a_11, .inl (cy 0, 8, .inl (fun _ => 0)))], [(a_12, .inl (cy 0, 8, .inl (fun _ => 0)))], [(a_13, .inl (cy 0, 60, .inl (fun _ => 0)))], [(a_14, .inl (cy 0, 60, .inl (fun _ => 0)))], [(a_15, .inl (cy 0, 60, .inl (fun _ => 0)))], [(a_16, .inl (cy 0, 60, .inl (fun _ => 0)))], [(a_17, .inl (cy 0, 36, .inl (fun _ => 0)))]] H _ := hw
  refine x_putF S hw hin 0 0 rfl rfl rfl (lay_X9 S.2.2.2.2) tyX9 tyX9_ok nmX9 24 (by decide) (S.2.2.2.2.wd wd721 rfl) rfl rfl rfl rfl rfl (Nat.le_of_ble_eq_true rfl) dX9_init_137 (fun H locs hw => ?_)
  have hw : PW D A s.heap [[(o0, .inr (9, [.ref a_1, .ref a_2, .ref a_3, .ref a_4, .ref a_5, .int 0, .int 0, .ref a_6, .ref a_7, .ref a_8, .int 0, .ref a_9, .ref a_10, .ref a_11, .ref a_12, .int 0, .ref a_13, .int 0, .ref a_14, .ref a_15, .ref a_16, .int 0, .int 0, .int 0, .ref a_17, .int 0, .int 0, .int 0, .int 0, .int 0, .int 0, .null, .null, .null, .null, .int 0, .int 0]))], [(a_1, .inl (cy 0, 8, .inl (fun _ => 0)))], [(a_2, .inl (cy 0, 8, .inl (fun _ => 0)))], [(a_3, .inl (cy 0, 6, .inl (fun _ => 0)))], [(a_4, .inl (cy 0, 6, .inl (fun _ => 0)))], [(a_5, .inl (cy 0, 6, .inl (fun _ => 0)))], [(a_6, .inl (cy 0, 12, .inl (fun _ => 0)))], [(a_7, .inl (cy 0, 12, .inl (fun _ => 0)))], [(a_8, .inl (cy 0, 12, .inl (fun _ => 0)))], [(a_9, .inl (cy 0, 8, .inl (fun _ => 0)))], [(a_10, .inl (cy 0, 8, .inl (fun _ => 0)))], [(a_11, .inl (cy 0, 8, .inl (fun _ => 0)))], [(a_12, .inl (cy 0, 8, .inl (fun _ => 0)))], [(a_13, .inl (cy 0, 60, .inl (fun _ => 0)))], [(a_14, .inl (cy 0, 60, .inl (fun _ => 0)))], [(a_15, .inl (cy 0, 60, .inl (fun _ => 0)))], [(a_16, .inl (cy 0, 60, .inl (fun _ => 0)))], [(a_17, .inl (cy 0, 36, .inl (fun _ => 0)))]] H _ := hw
  refine lv_aload_n S.1 S.2.1 dX9_init_140 rfl (lv_at hl 0 rfl) ?_
  refine lv_sipush (v := 2048) S.1 S.2.1 dX9_init_141 (by decide) ?_
  refine x_newZ (N' := 2048) S hw (S.2.2.2.2.wd wd_ac_boolean rfl) (by decide) (by decide) (by decide) (Nat.le_of_ble_eq_true rfl) (Nat.le_of_ble_eq_true rfl) dX9_init_144 (fun a_18 H hw => ?_)
  have hw : PW D A s.heap [[(o0, .inr (9, [.ref a_1, .ref a_2, .ref a_3, .ref a_4, .ref a_5, .int 0, .int 0, .ref a_6, .ref a_7, .ref a_8, .int 0, .ref a_9, .ref a_10, .ref a_11, .ref a_12, .int 0, .ref a_13, .int 0, .ref a_14, .ref a_15, .ref a_16, .int 0, .int 0, .int 0, .ref a_17, .int 0, .int 0, .int 0, .int 0, .int 0, .int 0, .null, .null, .null, .null, .int 0, .int 0]))], [(a_1, .inl (cy 0, 8, .inl (fun _ => 0)))], [(a_2, .inl (cy 0, 8, .inl (fun _ => 0)))], [(a_3, .inl (cy 0, 6, .inl (fun _ => 0)))], [(a_4, .inl (cy 0, 6, .inl (fun _ => 0)))], [(a_5, .inl (cy 0, 6, .inl (fun _ => 0)))], [(a_6, .inl (cy 0, 12, .inl (fun _ => 0)))], [(a_7, .inl (cy 0, 12, .inl (fun _ => 0)))], [(a_8, .inl (cy 0, 12, .inl (fun _ => 0)))], [(a_9, .inl (cy 0, 8, .inl (fun _ => 0)))], [(a_10, .inl (cy 0, 8, .inl (fun _ => 0)))], [(a_11, .inl (cy 0, 8, .inl (fun _ => 0)))], [(a_12, .inl (cy 0, 8, .inl (fun _ => 0)))], [(a_13, .inl (cy 0, 60, .inl (fun _ => 0)))], [(a_14, .inl (cy 0, 60, .inl (fun _ => 0)))], [(a_15, .inl (cy 0, 60, .inl (fun _ => 0)))], [(a_16, .inl (cy 0, 60, .inl (fun _ => 0)))], [(a_17, .inl (cy 0, 36, .inl (fun _ => 0)))], [(a_18, .inl (cy 1, 2048, .inl (fun _ => 0)))]] H _ := hw
  refine x_putF S hw hin 0 0 rfl rfl rfl (lay_X9 S.2.2.2.2) tyX9 tyX9_ok nmX9 31 (by decide) (S.2.2.2.2.wd wd728 rfl) rfl rfl rfl rfl rfl (Nat.le_of_ble_eq_true rfl) dX9_init_146 (fun H locs hw => ?_)
  have hw : PW D A s.heap [[(o0, .inr (9, [.ref a_1, .ref a_2, .ref a_3, .ref a_4, .ref a_5, .int 0, .int 0, .ref a_6, .ref a_7, .ref a_8, .int 0, .ref a_9, .ref a_10, .ref a_11, .ref a_12, .int 0, .ref a_13, .int 0, .ref a_14, .ref a_15, .ref a_16, .int 0, .int 0, .int 0, .ref a_17, .int 0, .int 0, .int 0, .int 0, .int 0, .int 0, .ref a_18, .null, .null, .null, .int 0, .int 0]))], [(a_1, .inl (cy 0, 8, .inl (fun _ => 0)))], [(a_2, .inl (cy 0, 8, .inl (fun _ => 0)))], [(a_3, .inl (cy 0, 6, .inl (fun _ => 0)))], [(a_4, .inl (cy 0, 6, .inl (fun _ => 0)))], [(a_5, .inl (cy 0, 6, .inl (fun _ => 0)))], [(a_6, .inl (cy 0, 12, .inl (fun _ => 0)))], [(a_7, .inl (cy 0, 12, .inl (fun _ => 0)))], [(a_8, .inl (cy 0, 12, .inl (fun _ => 0)))], [(a_9, .inl (cy 0, 8, .inl (fun _ => 0)))], [(a_10, .inl (cy 0, 8, .inl (fun _ => 0)))], [(a_11, .inl (cy 0, 8, .inl (fun _ => 0)))], [(a_12, .inl (cy 0, 8, .inl (fun _ => 0)))], [(a_13, .inl (cy 0, 60, .inl (fun _ => 0)))], [(a_14, .inl (cy 0, 60, .inl (fun _ => 0)))], [(a_15, .inl (cy 0, 60, .inl (fun _ => 0)))], [(a_16, .inl (cy 0, 60, .inl (fun _ => 0)))], [(a_17, .inl (cy 0, 36, .inl (fun _ => 0)))], [(a_18, .inl (cy 1, 2048, .inl (fun _ => 0)))]] H _ := hw
  refine lv_aload_n S.1 S.2.1 dX9_init_149 rfl (lv_at hl 0 rfl) ?_
  refine lv_iconst (v := 5) S.1 S.2.1 dX9_init_150 (by decide) ?_
  refine x_newI (N' := 5) S hw (S.2.2.2.2.wd wd_ac_int rfl) (by decide) (by decide) (by decide) (Nat.le_of_ble_eq_true rfl) (Nat.le_of_ble_eq_true rfl) dX9_init_151 (fun a_19 H hw => ?_)
  have hw : PW D A s.heap [[(o0, .inr (9, [.ref a_1, .ref a_2, .ref a_3, .ref a_4, .ref a_5, .int 0, .int 0, .ref a_6, .ref a_7, .ref a_8, .int 0, .ref a_9, .ref a_10, .ref a_11, .ref a_12, .int 0, .ref a_13, .int 0, .ref a_14, .ref a_15, .ref a_16, .int 0, .int 0, .int 0, .ref a_17, .int 0, .int 0, .int 0, .int 0, .int 0, .int 0, .ref a_18, .null, .null, .null, .int 0, .int 0]))], [(a_1, .inl (cy 0, 8, .inl (fun _ => 0)))], [(a_2, .inl (cy 0, 8, .inl (fun _ => 0)))], [(a_3, .inl (cy 0, 6, .inl (fun _ => 0)))], [(a_4, .inl (cy 0, 6, .inl (fun _ => 0)))], [(a_5, .inl (cy 0, 6, .inl (fun _ => 0)))], [(a_6, .inl (cy 0, 12, .inl (fun _ => 0)))], [(a_7, .inl (cy 0, 12, .inl (fun _ => 0)))], [(a_8, .inl (cy 0, 12, .inl (fun _ => 0)))], [(a_9, .inl (cy 0, 8, .inl (fun _ => 0)))], [(a_10, .inl (cy 0, 8, .inl (fun _ => 0)))], [(a_11, .inl (cy 0, 8, .inl (fun _ => 0)))], [(a_12, .inl (cy 0, 8, .inl (fun _ => 0)))], [(a_13, .inl (cy 0, 60, .inl (fun _ => 0)))], [(a_14, .inl (cy 0, 60, .inl (fun _ => 0)))], [(a_15, .inl (cy 0, 60, .inl (fun _ => 0)))], [(a_16, .inl (cy 0, 60, .inl (fun _ => 0)))], [(a_17, .inl (cy 0, 36, .inl (fun _ => 0)))], [(a_18, .inl (cy 1, 2048, .inl (fun _ => 0)))], [(a_19, .inl (cy 0, 5, .inl (fun _ => 0)))]] H _ := hw
  refine x_putF S hw hin 0 0 rfl rfl rfl (lay_X9 S.2.2.2.2) tyX9 tyX9_ok nmX9 32 (by decide) (S.2.2.2.2.wd wd729 rfl) rfl rfl rfl rfl rfl (Nat.le_of_ble_eq_true rfl) dX9_init_153 (fun H locs hw => ?_)
  have hw : PW D A s.heap [[(o0, .inr (9, [.ref a_1, .ref a_2, .ref a_3, .ref a_4, .ref a_5, .int 0, .int 0, .ref a_6, .ref a_7, .ref a_8, .int 0, .ref a_9, .ref a_10, .ref a_11, .ref a_12, .int 0, .ref a_13, .int 0, .ref a_14, .ref a_15, .ref a_16, .int 0, .int 0, .int 0, .ref a_17, .int 0, .int 0, .int 0, .int 0, .int 0, .int 0, .ref a_18, .ref a_19, .null, .null, .int 0, .int 0]))], [(a_1, .inl (cy 0, 8, .inl (fun _ => 0)))], [(a_2, .inl (cy 0, 8, .inl (fun _ => 0)))], [(a_3, .inl (cy 0, 6, .inl (fun _ => 0)))], [(a_4, .inl (cy 0, 6, .inl (fun _ => 0)))], [(a_5, .inl (cy 0, 6, .inl (fun _ => 0)))], [(a_6, .inl (cy 0, 12, .inl (fun _ => 0)))], [(a_7, .inl (cy 0, 12, .inl (fun _ => 0)))], [(a_8, .inl (cy 0, 12, .inl (fun _ => 0)))], [(a_9, .inl (cy 0, 8, .inl (fun _ => 0)))], [(a_10, .inl (cy 0, 8, .inl (fun _ => 0)))], [(a_11, .inl (cy 0, 8, .inl (fun _ => 0)))], [(a_12, .inl (cy 0, 8, .inl (fun _ => 0)))], [(a_13, .inl (cy 0, 60, .inl (fun _ => 0)))], [(a_14, .inl (cy 0, 60, .inl (fun _ => 0)))], [(a_15, .inl (cy 0, 60, .inl (fun _ => 0)))], [(a_16, .inl (cy 0, 60, .inl (fun _ => 0)))], [(a_17, .inl (cy 0, 36, .inl (fun _ => 0)))], [(a_18, .inl (cy 1, 2048, .inl (fun _ => 0)))], [(a_19, .inl (cy 0, 5, .inl (fun _ => 0)))]] H _ := hw
  refine lv_aload_n S.1 S.2.1 dX9_init_156 rfl (lv_at hl 0 rfl) ?_
  refine lv_sipush (v := 220) S.1 S.2.1 dX9_init_157 (by decide) ?_
  refine x_newI (N' := 220) S hw (S.2.2.2.2.wd wd_ac_int rfl) (by decide) (by decide) (by decide) (Nat.le_of_ble_eq_true rfl) (Nat.le_of_ble_eq_true rfl) dX9_init_160 (fun a_20 H hw => ?_)
  have hw : PW D A s.heap [[(o0, .inr (9, [.ref a_1, .ref a_2, .ref a_3, .ref a_4, .ref a_5, .int 0, .int 0, .ref a_6, .ref a_7, .ref a_8, .int 0, .ref a_9, .ref a_10, .ref a_11, .ref a_12, .int 0, .ref a_13, .int 0, .ref a_14, .ref a_15, .ref a_16, .int 0, .int 0, .int 0, .ref a_17, .int 0, .int 0, .int 0, .int 0, .int 0, .int 0, .ref a_18, .ref a_19, .null, .null, .int 0, .int 0]))], [(a_1, .inl (cy 0, 8, .inl (fun _ => 0)))], [(a_2, .inl (cy 0, 8, .inl (fun _ => 0)))], [(a_3, .inl (cy 0, 6, .inl (fun _ => 0)))], [(a_4, .inl (cy 0, 6, .inl (fun _ => 0)))], [(a_5, .inl (cy 0, 6, .inl (fun _ => 0)))], [(a_6, .inl (cy 0, 12, .inl (fun _ => 0)))], [(a_7, .inl (cy 0, 12, .inl (fun _ => 0)))], [(a_8, .inl (cy 0, 12, .inl (fun _ => 0)))], [(a_9, .inl (cy 0, 8, .inl (fun _ => 0)))], [(a_10, .inl (cy 0, 8, .inl (fun _ => 0)))], [(a_11, .inl (cy 0, 8, .inl (fun _ => 0)))], [(a_12, .inl (cy 0, 8, .inl (fun _ => 0)))], [(a_13, .inl (cy 0, 60, .inl (fun _ => 0)))], [(a_14, .inl (cy 0, 60, .inl (fun _ => 0)))], [(a_15, .inl (cy 0, 60, .inl (fun _ => 0)))], [(a_16, .inl (cy 0, 60, .inl (fun _ => 0)))], [(a_17, .inl (cy 0, 36, .inl (fun _ => 0)))], [(a_18, .inl (cy 1, 2048, .inl (fun _ => 0)))], [(a_19, .inl (cy 0, 5, .inl (fun _ => 0)))], [(a_20, .inl (cy 0, 220, .inl (fun _ => 0)))]] H _ := hw
  refine x_putF S hw hin 0 0 rfl rfl rfl (lay_X9 S.2.2.2.2) tyX9 tyX9_ok nmX9 33 (by decide) (S.2.2.2.2.wd wd730 rfl) rfl rfl rfl rfl rfl (Nat.le_of_ble_eq_true rfl) dX9_init_162 (fun H locs hw => ?_)
  have hw : PW D A s.heap [[(o0, .inr (9, [.ref a_1, .ref a_2, .ref a_3, .ref a_4, .ref a_5, .int 0, .int 0, .ref a_6, .ref a_7, .ref a_8, .int 0, .ref a_9, .ref a_10, .ref a_11, .ref a_12, .int 0, .ref a_13, .int 0, .ref a_14, .ref a_15, .ref a_16, .int 0, .int 0, .int 0, .ref a_17, .int 0, .int 0, .int 0, .int 0, .int 0, .int 0, .ref a_18, .ref a_19, .ref a_20, .null, .int 0, .int 0]))], [(a_1, .inl (cy 0, 8, .inl (fun _ => 0)))], [(a_2, .inl (cy 0, 8, .inl (fun _ => 0)))], [(a_3, .inl (cy 0, 6, .inl (fun _ => 0)))], [(a_4, .inl (cy 0, 6, .inl (fun _ => 0)))], [(a_5, .inl (cy 0, 6, .inl (fun _ => 0)))], [(a_6, .inl (cy 0, 12, .inl (fun _ => 0)))], [(a_7, .inl (cy 0, 12, .inl (fun _ => 0)))], [(a_8, .inl (cy 0, 12, .inl (fun _ => 0)))], [(a_9, .inl (cy 0, 8, .inl (fun _ => 0)))], [(a_10, .inl (cy 0, 8, .inl (fun _ => 0)))], [(a_11, .inl (cy 0, 8, .inl (fun _ => 0)))], [(a_12, .inl (cy 0, 8, .inl (fun _ => 0)))], [(a_13, .inl (cy 0, 60, .inl (fun _ => 0)))], [(a_14, .inl (cy 0, 60, .inl (fun _ => 0)))], [(a_15, .inl (cy 0, 60, .inl (fun _ => 0)))], [(a_16, .inl (cy 0, 60, .inl (fun _ => 0)))], [(a_17, .inl (cy 0, 36, .inl (fun _ => 0)))], [(a_18, .inl (cy 1, 2048, .inl (fun _ => 0)))], [(a_19, .inl (cy 0, 5, .inl (fun _ => 0)))], [(a_20, .inl (cy 0, 220, .inl (fun _ => 0)))]] H _ := hw
  refine lv_aload_n S.1 S.2.1 dX9_init_165 rfl (lv_at hl 0 rfl) ?_
  refine lv_iconst (v := 2) S.1 S.2.1 dX9_init_166 (by decide) ?_
  refine x_newZ (N' := 2) S hw (S.2.2.2.2.wd wd_ac_boolean rfl) (by decide) (by decide) (by decide) (Nat.le_of_ble_eq_true rfl) (Nat.le_of_ble_eq_true rfl) dX9_init_167 (fun a_21 H hw => ?_)
  have hw : PW D A s.heap [[(o0, .inr (9, [.ref a_1, .ref a_2, .ref a_3, .ref a_4, .ref a_5, .int 0, .int 0, .ref a_6, .ref a_7, .ref a_8, .int 0, .ref a_9, .ref a_10, .ref a_11, .ref a_12, .int 0, .ref a_13, .int 0, .ref a_14, .ref a_15, .ref a_16, .int 0, .int 0, .int 0, .ref a_17, .int 0, .int 0, .int 0, .int 0, .int 0, .int 0, .ref a_18, .ref a_19, .ref a_20, .null, .int 0, .int 0]))], [(a_1, .inl (cy 0, 8, .inl (fun _ => 0)))], [(a_2, .inl (cy 0, 8, .inl (fun _ => 0)))], [(a_3, .inl (cy 0, 6, .inl (fun _ => 0)))], [(a_4, .inl (cy 0, 6, .inl (fun _ => 0)))], [(a_5, .inl (cy 0, 6, .inl (fun _ => 0)))], [(a_6, .inl (cy 0, 12, .inl (fun _ => 0)))], [(a_7, .inl (cy 0, 12, .inl (fun _ => 0)))], [(a_8, .inl (cy 0, 12, .inl (fun _ => 0)))], [(a_9, .inl (cy 0, 8, .inl (fun _ => 0)))], [(a_10, .inl (cy 0, 8, .inl (fun _ => 0)))], [(a_11, .inl (cy 0, 8, .inl (fun _ => 0)))], [(a_12, .inl (cy 0, 8, .inl (fun _ => 0)))], [(a_13, .inl (cy 0, 60, .inl (fun _ => 0)))], [(a_14, .inl (cy 0, 60, .inl (fun _ => 0)))], [(a_15, .inl (cy 0, 60, .inl (fun _ => 0)))], [(a_16, .inl (cy 0, 60, .inl (fun _ => 0)))], [(a_17, .inl (cy 0, 36, .inl (fun _ => 0)))], [(a_18, .inl (cy 1, 2048, .inl (fun _ => 0)))], [(a_19, .inl (cy 0, 5, .inl (fun _ => 0)))], [(a_20, .inl (cy 0, 220, .inl (fun _ => 0)))], [(a_21, .inl (cy 1, 2, .inl (fun _ => 0)))]] H _ := hw
  refine x_putF S hw hin 0 0 rfl rfl rfl (lay_X9 S.2.2.2.2) tyX9 tyX9_ok nmX9 34 (by decide) (S.2.2.2.2.wd wd731 rfl) rfl rfl rfl rfl rfl (Nat.le_of_ble_eq_true rfl) dX9_init_169 (fun H locs hw => ?_)
  have hw : PW D A s.heap [[(o0, .inr (9, [.ref a_1, .ref a_2, .ref a_3, .ref a_4, .ref a_5, .int 0, .int 0, .ref a_6, .ref a_7, .ref a_8, .int 0, .ref a_9, .ref a_10, .ref a_11, .ref a_12, .int 0, .ref a_13, .int 0, .ref a_14, .ref a_15, .ref a_16, .int 0, .int 0, .int 0, .ref a_17, .int 0, .int 0, .int 0, .int 0, .int 0, .int 0, .ref a_18, .ref a_19, .ref a_20, .ref a_21, .int 0, .int 0]))], [(a_1, .inl (cy 0, 8, .inl (fun _ => 0)))], [(a_2, .inl (cy 0, 8, .inl (fun _ => 0)))], [(a_3, .inl (cy 0, 6, .inl (fun _ => 0)))], [(a_4, .inl (cy 0, 6, .inl (fun _ => 0)))], [(a_5, .inl (cy 0, 6, .inl (fun _ => 0)))], [(a_6, .inl (cy 0, 12, .inl (fun _ => 0)))], [(a_7, .inl (cy 0, 12, .inl (fun _ => 0)))], [(a_8, .inl (cy 0, 12, .inl (fun _ => 0)))], [(a_9, .inl (cy 0, 8, .inl (fun _ => 0)))], [(a_10, .inl (cy 0, 8, .inl (fun _ => 0)))], [(a_11, .inl (cy 0, 8, .inl (fun _ => 0)))], [(a_12, .inl (cy 0, 8, .inl (fun _ => 0)))], [(a_13, .inl (cy 0, 60, .inl (fun _ => 0)))], [(a_14, .inl (cy 0, 60, .inl (fun _ => 0)))], [(a_15, .inl (cy 0, 60, .inl (fun _ => 0)))], [(a_16, .inl (cy 0, 60, .inl (fun _ => 0)))], [(a_17, .inl (cy 0, 36, .inl (fun _ => 0)))], [(a_18, .inl (cy 1, 2048, .inl (fun _ => 0)))], [(a_19, .inl (cy 0, 5, .inl (fun _ => 0)))], [(a_20, .inl (cy 0, 220, .inl (fun _ => 0)))], [(a_21, .inl (cy 1, 2, .inl (fun _ => 0)))]] H _ := hw
  replace hw := pw_cast (Ps' := [pX9 cy o0 (qf [a_1, a_2, a_3, a_4, a_5, a_6, a_7, a_8, a_9, a_10, a_11, a_12, a_13, a_14, a_15, a_16, a_17, a_18, a_19, a_20, a_21]) zS]) hw rfl
  refine tl_X9_init S hw (lv_sub hl [0] rfl) hf (fun H locs ls hw => ?_)
  exact x_vret (xf [(qf [a_1, a_2, a_3, a_4, a_5, a_6, a_7, a_8, a_9, a_10, a_11, a_12, a_13, a_14, a_15, a_16, a_17, a_18, a_19, a_20, a_21])]) S hr hlk hA hQ (pw_cast hw rfl) dX9_init_221
abbrev rmX6_init : Room := { frames := 2, cells := 5, slots := 35, locals := 33 }
set_option maxHeartbeats 4000000 in
set_option maxRecDepth 100000 in
theorem c_X6_init (l : Launch) (D : va_G) (cy : Nat → ClassId) (o0 : Nat) (uX1 : pStt) (huX1 : f_X1_init (sI zS 1 1) = some uX1) : CTX l yX6_init cX6_init 1 none rmX6_init D cy [.ref o0] [[(o0, .inr (6, [.null, .int 0, .int 0, .int 0, .int 0, .int 0]))], []] none (fun x => [pX6 o0 (x 0) zS, pX1 cy (x 0 0) (x 1) uX1]) 5 35 := by
  refine CTX.of (by decide) (Nat.le_of_ble_eq_true rfl) (fun p e s m args below meth c ls A Q hA hQ S hr hlk hin hl hw => ?_)
  have hl : lv_has ls 1 [(0, .ref o0)] := hl
  refine lv_aload_n S.1 S.2.1 dX6_init_0 rfl (lv_at hl 0 rfl) ?_
  refine x_objI S (S.2.2.2.2.wd wd212 rfl) (S.2.2.2.2.wd wd89 rfl) (S.2.2.2.2.wd wd_objc rfl) hl.1 (Nat.le_of_ble_eq_true rfl) (Nat.le_of_ble_eq_true rfl) dX6_init_1 ?_
  refine lv_aload_n S.1 S.2.1 dX6_init_4 rfl (lv_at hl 0 rfl) ?_
  refine x_new (ci := 1) (fs := [.null, .null, .null, .null, .int 0, .int 0, .int 0]) S hw rfl (lay_X1 S.2.2.2.2) tyX1 tyX1_ok (S.2.2.2.2.wd wd213 rfl) (S.2.2.2.2.wd wd98 rfl) (S.2.2.2.2.wd wd72 rfl) (fun j hj => by rcases (show j = 0 ∨ j = 1 ∨ j = 2 ∨ j = 3 ∨ j = 4 ∨ j = 5 ∨ j = 6 by omega) with rfl | rfl | rfl | rfl | rfl | rfl | rfl <;> rfl) (Nat.le_of_ble_eq_true rfl) (Nat.le_of_ble_eq_true rfl) dX6_init_5 (fun a_1 H hw => ?_)
  have hw : PW D A s.heap [[(o0, .inr (6, [.null, .int 0, .int 0, .int 0, .int 0, .int 0]))], [], [(a_1, .inr (1, [.null, .null, .null, .null, .int 0, .int 0, .int 0]))]] H _ := hw
  refine lv_dup S.1 S.2.1 dX6_init_8 rfl ?_
  refine x_callI (n := 0) (As := []) S hw (c_X1_init l D cy a_1 uX1 huX1) (MF.of S.2.2.2.2 wd101 wd72 (by decide)) (S.2.2.2.2.wd wd100 rfl) rfl (S.2.2.2.2.wd wd214 rfl) ⟨rfl, rfl, Nat.le_of_ble_eq_true rfl, Nat.le_of_ble_eq_true rfl⟩ [2] rfl (by decide) (fun _ => rfl) rfl hl.1 rfl (Nat.le_of_ble_eq_true rfl) dX6_init_9 ⟨Nat.le_of_ble_eq_true rfl, Nat.le_of_ble_eq_true rfl⟩ (fun x_2 H locs hw => ?_)
  have hw : PW D A s.heap [[(o0, .inr (6, [.null, .int 0, .int 0, .int 0, .int 0, .int 0]))], [], pX1 cy a_1 (x_2 0) uX1] H _ := hw
  refine x_putF S hw hin 0 0 rfl rfl rfl (lay_X6 S.2.2.2.2) tyX6 tyX6_ok nmX6 0 (by decide) (S.2.2.2.2.wd wd215 rfl) rfl rfl rfl rfl rfl (Nat.le_of_ble_eq_true rfl) dX6_init_12 (fun H locs hw => ?_)
  have hw : PW D A s.heap [[(o0, .inr (6, [.ref a_1, .int 0, .int 0, .int 0, .int 0, .int 0]))], [], pX1 cy a_1 (x_2 0) uX1] H _ := hw
  exact x_vret (xf [(qf [a_1]), (x_2 0)]) S hr hlk hA hQ (pw_cast hw rfl) dX6_init_15
abbrev rmX7_init : Room := { frames := 2, cells := 10, slots := 72, locals := 33 }
set_option maxHeartbeats 4000000 in
set_option maxRecDepth 100000 in
theorem c_X7_init (l : Launch) (D : va_G) (cy : Nat → ClassId) (o0 : Nat) (uX1 : pStt) (huX1 : f_X1_init (sI zS 1 1) = some uX1) : CTX l yX7_init cX7_init 1 none rmX7_init D cy [.ref o0] [[(o0, .inr (7, [.null, .null, .null]))], [], [], []] none (fun x => [pX7 o0 (x 0), pX1 cy (x 0 0) (x 1) uX1, pX4 cy (x 0 1) (x 2) zS, pX5 cy (x 0 2) (x 3) zS]) 10 72 := by
  refine CTX.of (by decide) (Nat.le_of_ble_eq_true rfl) (fun p e s m args below meth c ls A Q hA hQ S hr hlk hin hl hw => ?_)
  have hl : lv_has ls 1 [(0, .ref o0)] := hl
  refine lv_aload_n S.1 S.2.1 dX7_init_0 rfl (lv_at hl 0 rfl) ?_
  refine x_objI S (S.2.2.2.2.wd wd96 rfl) (S.2.2.2.2.wd wd89 rfl) (S.2.2.2.2.wd wd_objc rfl) hl.1 (Nat.le_of_ble_eq_true rfl) (Nat.le_of_ble_eq_true rfl) dX7_init_1 ?_
  refine lv_aload_n S.1 S.2.1 dX7_init_4 rfl (lv_at hl 0 rfl) ?_
  refine x_new (ci := 1) (fs := [.null, .null, .null, .null, .int 0, .int 0, .int 0]) S hw rfl (lay_X1 S.2.2.2.2) tyX1 tyX1_ok (S.2.2.2.2.wd wd97 rfl) (S.2.2.2.2.wd wd98 rfl) (S.2.2.2.2.wd wd72 rfl) (fun j hj => by rcases (show j = 0 ∨ j = 1 ∨ j = 2 ∨ j = 3 ∨ j = 4 ∨ j = 5 ∨ j = 6 by omega) with rfl | rfl | rfl | rfl | rfl | rfl | rfl <;> rfl) (Nat.le_of_ble_eq_true rfl) (Nat.le_of_ble_eq_true rfl) dX7_init_5 (fun a_1 H hw => ?_)
  have hw : PW D A s.heap [[(o0, .inr (7, [.null, .null, .null]))], [], [], [], [(a_1, .inr (1, [.null, .null, .null, .null, .int 0, .int 0, .int 0]))]] H _ := hw
  refine lv_dup S.1 S.2.1 dX7_init_8 rfl ?_
  refine x_callI (n := 0) (As := []) S hw (c_X1_init l D cy a_1 uX1 huX1) (MF.of S.2.2.2.2 wd101 wd72 (by decide)) (S.2.2.2.2.wd wd100 rfl) rfl (S.2.2.2.2.wd wd99 rfl) ⟨rfl, rfl, Nat.le_of_ble_eq_true rfl, Nat.le_of_ble_eq_true rfl⟩ [4] rfl (by decide) (fun _ => rfl) rfl hl.1 rfl (Nat.le_of_ble_eq_true rfl) dX7_init_9 ⟨Nat.le_of_ble_eq_true rfl, Nat.le_of_ble_eq_true rfl⟩ (fun x_2 H locs hw => ?_)
  have hw : PW D A s.heap [[(o0, .inr (7, [.null, .null, .null]))], [], [], [], pX1 cy a_1 (x_2 0) uX1] H _ := hw
  refine x_putF S hw hin 0 0 rfl rfl rfl (lay_X7 S.2.2.2.2) tyX7 tyX7_ok nmX7 0 (by decide) (S.2.2.2.2.wd wd164 rfl) rfl rfl rfl rfl rfl (Nat.le_of_ble_eq_true rfl) dX7_init_12 (fun H locs hw => ?_)
  have hw : PW D A s.heap [[(o0, .inr (7, [.ref a_1, .null, .null]))], [], [], [], pX1 cy a_1 (x_2 0) uX1] H _ := hw
  refine lv_aload_n S.1 S.2.1 dX7_init_15 rfl (lv_at hl 0 rfl) ?_
  refine x_new (ci := 4) (fs := [.null, .null, .int 0]) S hw rfl (lay_X4 S.2.2.2.2) tyX4 tyX4_ok (S.2.2.2.2.wd wd133 rfl) (S.2.2.2.2.wd wd134 rfl) (S.2.2.2.2.wd wd73 rfl) (fun j hj => by rcases (show j = 0 ∨ j = 1 ∨ j = 2 by omega) with rfl | rfl | rfl <;> rfl) (Nat.le_of_ble_eq_true rfl) (Nat.le_of_ble_eq_true rfl) dX7_init_16 (fun a_3 H hw => ?_)
  have hw : PW D A s.heap [[(o0, .inr (7, [.ref a_1, .null, .null]))], [], [], [], pX1 cy a_1 (x_2 0) uX1, [(a_3, .inr (4, [.null, .null, .int 0]))]] H _ := hw
  refine lv_dup S.1 S.2.1 dX7_init_19 rfl ?_
  refine x_callIN (host := "SwornLane") (n := 0) (As := []) S hw (c_X4_init l D cy a_3 ) (MF.of S.2.2.2.2 wd137 wd73 (by decide)) (S.2.2.2.2.wd wd136 rfl) rfl (S.2.2.2.2.wd wd135 rfl) ⟨rfl, rfl, Nat.le_of_ble_eq_true rfl, Nat.le_of_ble_eq_true rfl⟩ [5] rfl (by decide) (fun _ => rfl) rfl hl.1 rfl (Nat.le_of_ble_eq_true rfl) dX7_init_20 ⟨Nat.le_of_ble_eq_true rfl, Nat.le_of_ble_eq_true rfl⟩ (fun x_4 H locs hw => ?_)
  have hw : PW D A s.heap [[(o0, .inr (7, [.ref a_1, .null, .null]))], [], [], [], pX1 cy a_1 (x_2 0) uX1, pX4 cy a_3 (x_4 0) zS] H _ := hw
  refine x_putF S hw hin 0 0 rfl rfl rfl (lay_X7 S.2.2.2.2) tyX7 tyX7_ok nmX7 1 (by decide) (S.2.2.2.2.wd wd166 rfl) rfl rfl rfl rfl rfl (Nat.le_of_ble_eq_true rfl) dX7_init_23 (fun H locs hw => ?_)
  have hw : PW D A s.heap [[(o0, .inr (7, [.ref a_1, .ref a_3, .null]))], [], [], [], pX1 cy a_1 (x_2 0) uX1, pX4 cy a_3 (x_4 0) zS] H _ := hw
  refine lv_aload_n S.1 S.2.1 dX7_init_26 rfl (lv_at hl 0 rfl) ?_
  refine x_new (ci := 5) (fs := [.null, .int 0]) S hw rfl (lay_X5 S.2.2.2.2) tyX5 tyX5_ok (S.2.2.2.2.wd wd150 rfl) (S.2.2.2.2.wd wd151 rfl) (S.2.2.2.2.wd wd74 rfl) (fun j hj => by rcases (show j = 0 ∨ j = 1 by omega) with rfl | rfl <;> rfl) (Nat.le_of_ble_eq_true rfl) (Nat.le_of_ble_eq_true rfl) dX7_init_27 (fun a_5 H hw => ?_)
  have hw : PW D A s.heap [[(o0, .inr (7, [.ref a_1, .ref a_3, .null]))], [], [], [], pX1 cy a_1 (x_2 0) uX1, pX4 cy a_3 (x_4 0) zS, [(a_5, .inr (5, [.null, .int 0]))]] H _ := hw
  refine lv_dup S.1 S.2.1 dX7_init_30 rfl ?_
  refine x_callIN (host := "SwornLane") (n := 0) (As := []) S hw (c_X5_init l D cy a_5 ) (MF.of S.2.2.2.2 wd154 wd74 (by decide)) (S.2.2.2.2.wd wd153 rfl) rfl (S.2.2.2.2.wd wd152 rfl) ⟨rfl, rfl, Nat.le_of_ble_eq_true rfl, Nat.le_of_ble_eq_true rfl⟩ [6] rfl (by decide) (fun _ => rfl) rfl hl.1 rfl (Nat.le_of_ble_eq_true rfl) dX7_init_31 ⟨Nat.le_of_ble_eq_true rfl, Nat.le_of_ble_eq_true rfl⟩ (fun x_6 H locs hw => ?_)
  have hw : PW D A s.heap [[(o0, .inr (7, [.ref a_1, .ref a_3, .null]))], [], [], [], pX1 cy a_1 (x_2 0) uX1, pX4 cy a_3 (x_4 0) zS, pX5 cy a_5 (x_6 0) zS] H _ := hw
  refine x_putF S hw hin 0 0 rfl rfl rfl (lay_X7 S.2.2.2.2) tyX7 tyX7_ok nmX7 2 (by decide) (S.2.2.2.2.wd wd168 rfl) rfl rfl rfl rfl rfl (Nat.le_of_ble_eq_true rfl) dX7_init_34 (fun H locs hw => ?_)
  have hw : PW D A s.heap [[(o0, .inr (7, [.ref a_1, .ref a_3, .ref a_5]))], [], [], [], pX1 cy a_1 (x_2 0) uX1, pX4 cy a_3 (x_4 0) zS, pX5 cy a_5 (x_6 0) zS] H _ := hw
  exact x_vret (xf [(qf [a_1, a_3, a_5]), (x_2 0), (x_4 0), (x_6 0)]) S hr hlk hA hQ (pw_cast hw rfl) dX7_init_37
abbrev rmX8_init : Room := { frames := 3, cells := 24, slots := 448, locals := 53 }
set_option maxHeartbeats 4000000 in
set_option maxRecDepth 100000 in
theorem c_X8_init (l : Launch) (D : va_G) (cy : Nat → ClassId) (o0 : Nat) (uX1 : pStt) (huX1 : f_X1_init (sI zS 1 1) = some uX1) : CTX l yX8_init cX8_init 1 none rmX8_init D cy [.ref o0] [[(o0, .inr (8, [.null, .null, .null, .null, .null, .null]))], [], [], [], [], [], [], [], [], [], []] none (fun x => [pX8 o0 (x 0), pX1 cy (x 5 0) (x 1) uX1, pX4 cy (x 5 1) (x 2) zS, pX5 cy (x 5 2) (x 3) zS, pX1 cy (x 7 0) (x 4) uX1, pX7 (x 0 0) (x 5), pIm cy (x 0 1) (fun _ => none), pX3 cy (x 0 2) (x 6) zS, pX6 (x 0 3) (x 7) zS, pX2 cy (x 0 4) (x 8) zS, pX0 cy (x 0 5) (x 9) (fun _ => 0)]) 24 448 := by
  refine CTX.of (by decide) (Nat.le_of_ble_eq_true rfl) (fun p e s m args below meth c ls A Q hA hQ S hr hlk hin hl hw => ?_)
  have hl : lv_has ls 1 [(0, .ref o0)] := hl
  refine lv_aload_n S.1 S.2.1 dX8_init_0 rfl (lv_at hl 0 rfl) ?_
  refine x_objI S (S.2.2.2.2.wd wd88 rfl) (S.2.2.2.2.wd wd89 rfl) (S.2.2.2.2.wd wd_objc rfl) hl.1 (Nat.le_of_ble_eq_true rfl) (Nat.le_of_ble_eq_true rfl) dX8_init_1 ?_
  refine lv_aload_n S.1 S.2.1 dX8_init_4 rfl (lv_at hl 0 rfl) ?_
  refine x_new (ci := 7) (fs := [.null, .null, .null]) S hw rfl (lay_X7 S.2.2.2.2) tyX7 tyX7_ok (S.2.2.2.2.wd wd91 rfl) (S.2.2.2.2.wd wd92 rfl) (S.2.2.2.2.wd wd71 rfl) (fun j hj => by rcases (show j = 0 ∨ j = 1 ∨ j = 2 by omega) with rfl | rfl | rfl <;> rfl) (Nat.le_of_ble_eq_true rfl) (Nat.le_of_ble_eq_true rfl) dX8_init_5 (fun a_1 H hw => ?_)
  have hw : PW D A s.heap [[(o0, .inr (8, [.null, .null, .null, .null, .null, .null]))], [], [], [], [], [], [], [], [], [], [], [(a_1, .inr (7, [.null, .null, .null]))]] H _ := hw
  refine lv_dup S.1 S.2.1 dX8_init_8 rfl ?_
  refine x_callIN (host := "SwornLane") (n := 0) (As := []) S hw (c_X7_init l D cy a_1 uX1 huX1) (MF.of S.2.2.2.2 wd95 wd71 (by decide)) (S.2.2.2.2.wd wd94 rfl) rfl (S.2.2.2.2.wd wd93 rfl) ⟨rfl, rfl, Nat.le_of_ble_eq_true rfl, Nat.le_of_ble_eq_true rfl⟩ [11, 1, 2, 3] rfl (by decide) (fun _ => rfl) rfl hl.1 rfl (Nat.le_of_ble_eq_true rfl) dX8_init_9 ⟨Nat.le_of_ble_eq_true rfl, Nat.le_of_ble_eq_true rfl⟩ (fun x_2 H locs hw => ?_)
  have hw : PW D A s.heap [[(o0, .inr (8, [.null, .null, .null, .null, .null, .null]))], pX1 cy (x_2 0 0) (x_2 1) uX1, pX4 cy (x_2 0 1) (x_2 2) zS, pX5 cy (x_2 0 2) (x_2 3) zS, [], [], [], [], [], [], [], pX7 a_1 (x_2 0)] H _ := hw
  refine x_putF S hw hin 0 0 rfl rfl rfl (lay_X8 S.2.2.2.2) tyX8 tyX8_ok nmX8 0 (by decide) (S.2.2.2.2.wd wd261 rfl) rfl rfl rfl rfl rfl (Nat.le_of_ble_eq_true rfl) dX8_init_12 (fun H locs hw => ?_)
  have hw : PW D A s.heap [[(o0, .inr (8, [.ref a_1, .null, .null, .null, .null, .null]))], pX1 cy (x_2 0 0) (x_2 1) uX1, pX4 cy (x_2 0 1) (x_2 2) zS, pX5 cy (x_2 0 2) (x_2 3) zS, [], [], [], [], [], [], [], pX7 a_1 (x_2 0)] H _ := hw
  refine lv_aload_n S.1 S.2.1 dX8_init_15 rfl (lv_at hl 0 rfl) ?_
  refine lv_iconst (v := 2) S.1 S.2.1 dX8_init_16 (by decide) ?_
  refine x_newW (N' := 2) S hw (S.2.2.2.2.wd wd91 rfl) (S.2.2.2.2.wd wd_ao_W rfl) (by decide) (by decide) (by decide) (Nat.le_of_ble_eq_true rfl) (Nat.le_of_ble_eq_true rfl) dX8_init_17 (fun a_3 H hw => ?_)
  have hw : PW D A s.heap [[(o0, .inr (8, [.ref a_1, .null, .null, .null, .null, .null]))], pX1 cy (x_2 0 0) (x_2 1) uX1, pX4 cy (x_2 0 1) (x_2 2) zS, pX5 cy (x_2 0 2) (x_2 3) zS, [], [], [], [], [], [], [], pX7 a_1 (x_2 0), pIm cy a_3 (fun _ => none)] H _ := hw
  refine x_putF S hw hin 0 0 rfl rfl rfl (lay_X8 S.2.2.2.2) tyX8 tyX8_ok nmX8 1 (by decide) (S.2.2.2.2.wd wd262 rfl) rfl rfl rfl rfl rfl (Nat.le_of_ble_eq_true rfl) dX8_init_20 (fun H locs hw => ?_)
  have hw : PW D A s.heap [[(o0, .inr (8, [.ref a_1, .ref a_3, .null, .null, .null, .null]))], pX1 cy (x_2 0 0) (x_2 1) uX1, pX4 cy (x_2 0 1) (x_2 2) zS, pX5 cy (x_2 0 2) (x_2 3) zS, [], [], [], [], [], [], [], pX7 a_1 (x_2 0), pIm cy a_3 (fun _ => none)] H _ := hw
  refine lv_aload_n S.1 S.2.1 dX8_init_23 rfl (lv_at hl 0 rfl) ?_
  refine x_new (ci := 3) (fs := [.null, .int 0, .int 0, .int 0, .int 0, .int 0]) S hw rfl (lay_X3 S.2.2.2.2) tyX3 tyX3_ok (S.2.2.2.2.wd wd178 rfl) (S.2.2.2.2.wd wd179 rfl) (S.2.2.2.2.wd wd75 rfl) (fun j hj => by rcases (show j = 0 ∨ j = 1 ∨ j = 2 ∨ j = 3 ∨ j = 4 ∨ j = 5 by omega) with rfl | rfl | rfl | rfl | rfl | rfl <;> rfl) (Nat.le_of_ble_eq_true rfl) (Nat.le_of_ble_eq_true rfl) dX8_init_24 (fun a_4 H hw => ?_)
  have hw : PW D A s.heap [[(o0, .inr (8, [.ref a_1, .ref a_3, .null, .null, .null, .null]))], pX1 cy (x_2 0 0) (x_2 1) uX1, pX4 cy (x_2 0 1) (x_2 2) zS, pX5 cy (x_2 0 2) (x_2 3) zS, [], [], [], [], [], [], [], pX7 a_1 (x_2 0), pIm cy a_3 (fun _ => none), [(a_4, .inr (3, [.null, .int 0, .int 0, .int 0, .int 0, .int 0]))]] H _ := hw
  refine lv_dup S.1 S.2.1 dX8_init_27 rfl ?_
  refine x_callIN (host := "SwornLane") (n := 0) (As := []) S hw (c_X3_init l D cy a_4 ) (MF.of S.2.2.2.2 wd182 wd75 (by decide)) (S.2.2.2.2.wd wd181 rfl) rfl (S.2.2.2.2.wd wd180 rfl) ⟨rfl, rfl, Nat.le_of_ble_eq_true rfl, Nat.le_of_ble_eq_true rfl⟩ [13] rfl (by decide) (fun _ => rfl) rfl hl.1 rfl (Nat.le_of_ble_eq_true rfl) dX8_init_28 ⟨Nat.le_of_ble_eq_true rfl, Nat.le_of_ble_eq_true rfl⟩ (fun x_5 H locs hw => ?_)
  have hw : PW D A s.heap [[(o0, .inr (8, [.ref a_1, .ref a_3, .null, .null, .null, .null]))], pX1 cy (x_2 0 0) (x_2 1) uX1, pX4 cy (x_2 0 1) (x_2 2) zS, pX5 cy (x_2 0 2) (x_2 3) zS, [], [], [], [], [], [], [], pX7 a_1 (x_2 0), pIm cy a_3 (fun _ => none), pX3 cy a_4 (x_5 0) zS] H _ := hw
  refine x_putF S hw hin 0 0 rfl rfl rfl (lay_X8 S.2.2.2.2) tyX8 tyX8_ok nmX8 2 (by decide) (S.2.2.2.2.wd wd263 rfl) rfl rfl rfl rfl rfl (Nat.le_of_ble_eq_true rfl) dX8_init_31 (fun H locs hw => ?_)
  have hw : PW D A s.heap [[(o0, .inr (8, [.ref a_1, .ref a_3, .ref a_4, .null, .null, .null]))], pX1 cy (x_2 0 0) (x_2 1) uX1, pX4 cy (x_2 0 1) (x_2 2) zS, pX5 cy (x_2 0 2) (x_2 3) zS, [], [], [], [], [], [], [], pX7 a_1 (x_2 0), pIm cy a_3 (fun _ => none), pX3 cy a_4 (x_5 0) zS] H _ := hw
  refine lv_aload_n S.1 S.2.1 dX8_init_34 rfl (lv_at hl 0 rfl) ?_
  refine x_new (ci := 6) (fs := [.null, .int 0, .int 0, .int 0, .int 0, .int 0]) S hw rfl (lay_X6 S.2.2.2.2) tyX6 tyX6_ok (S.2.2.2.2.wd wd207 rfl) (S.2.2.2.2.wd wd208 rfl) (S.2.2.2.2.wd wd76 rfl) (fun j hj => by rcases (show j = 0 ∨ j = 1 ∨ j = 2 ∨ j = 3 ∨ j = 4 ∨ j = 5 by omega) with rfl | rfl | rfl | rfl | rfl | rfl <;> rfl) (Nat.le_of_ble_eq_true rfl) (Nat.le_of_ble_eq_true rfl) dX8_init_35 (fun a_6 H hw => ?_)
  have hw : PW D A s.heap [[(o0, .inr (8, [.ref a_1, .ref a_3, .ref a_4, .null, .null, .null]))], pX1 cy (x_2 0 0) (x_2 1) uX1, pX4 cy (x_2 0 1) (x_2 2) zS, pX5 cy (x_2 0 2) (x_2 3) zS, [], [], [], [], [], [], [], pX7 a_1 (x_2 0), pIm cy a_3 (fun _ => none), pX3 cy a_4 (x_5 0) zS, [(a_6, .inr (6, [.null, .int 0, .int 0, .int 0, .int 0, .int 0]))]] H _ := hw
  refine lv_dup S.1 S.2.1 dX8_init_38 rfl ?_
  refine x_callIN (host := "SwornLane") (n := 0) (As := []) S hw (c_X6_init l D cy a_6 uX1 huX1) (MF.of S.2.2.2.2 wd211 wd76 (by decide)) (S.2.2.2.2.wd wd210 rfl) rfl (S.2.2.2.2.wd wd209 rfl) ⟨rfl, rfl, Nat.le_of_ble_eq_true rfl, Nat.le_of_ble_eq_true rfl⟩ [14, 4] rfl (by decide) (fun _ => rfl) rfl hl.1 rfl (Nat.le_of_ble_eq_true rfl) dX8_init_39 ⟨Nat.le_of_ble_eq_true rfl, Nat.le_of_ble_eq_true rfl⟩ (fun x_7 H locs hw => ?_)
  have hw : PW D A s.heap [[(o0, .inr (8, [.ref a_1, .ref a_3, .ref a_4, .null, .null, .null]))], pX1 cy (x_2 0 0) (x_2 1) uX1, pX4 cy (x_2 0 1) (x_2 2) zS, pX5 cy (x_2 0 2) (x_2 3) zS, pX1 cy (x_7 0 0) (x_7 1) uX1, [], [], [], [], [], [], pX7 a_1 (x_2 0), pIm cy a_3 (fun _ => none), pX3 cy a_4 (x_5 0) zS, pX6 a_6 (x_7 0) zS] H _ := hw
  refine x_putF S hw hin 0 0 rfl rfl rfl (lay_X8 S.2.2.2.2) tyX8 tyX8_ok nmX8 3 (by decide) (S.2.2.2.2.wd wd264 rfl) rfl rfl rfl rfl rfl (Nat.le_of_ble_eq_true rfl) dX8_init_42 (fun H locs hw => ?_)
  have hw : PW D A s.heap [[(o0, .inr (8, [.ref a_1, .ref a_3, .ref a_4, .ref a_6, .null, .null]))], pX1 cy (x_2 0 0) (x_2 1) uX1, pX4 cy (x_2 0 1) (x_2 2) zS, pX5 cy (x_2 0 2) (x_2 3) zS, pX1 cy (x_7 0 0) (x_7 1) uX1, [], [], [], [], [], [], pX7 a_1 (x_2 0), pIm cy a_3 (fun _ => none), pX3 cy a_4 (x_5 0) zS, pX6 a_6 (x_7 0) zS] H _ := hw
  refine lv_aload_n S.1 S.2.1 dX8_init_45 rfl (lv_at hl 0 rfl) ?_
  refine x_new (ci := 2) (fs := [.null]) S hw rfl (lay_X2 S.2.2.2.2) tyX2 tyX2_ok (S.2.2.2.2.wd wd240 rfl) (S.2.2.2.2.wd wd241 rfl) (S.2.2.2.2.wd wd77 rfl) (fun j hj => by rcases (show j = 0 by omega) with rfl <;> rfl) (Nat.le_of_ble_eq_true rfl) (Nat.le_of_ble_eq_true rfl) dX8_init_46 (fun a_8 H hw => ?_)
  have hw : PW D A s.heap [[(o0, .inr (8, [.ref a_1, .ref a_3, .ref a_4, .ref a_6, .null, .null]))], pX1 cy (x_2 0 0) (x_2 1) uX1, pX4 cy (x_2 0 1) (x_2 2) zS, pX5 cy (x_2 0 2) (x_2 3) zS, pX1 cy (x_7 0 0) (x_7 1) uX1, [], [], [], [], [], [], pX7 a_1 (x_2 0), pIm cy a_3 (fun _ => none), pX3 cy a_4 (x_5 0) zS, pX6 a_6 (x_7 0) zS, [(a_8, .inr (2, [.null]))]] H _ := hw
  refine lv_dup S.1 S.2.1 dX8_init_49 rfl ?_
  refine x_callIN (host := "SwornLane") (n := 0) (As := []) S hw (c_X2_init l D cy a_8 ) (MF.of S.2.2.2.2 wd244 wd77 (by decide)) (S.2.2.2.2.wd wd243 rfl) rfl (S.2.2.2.2.wd wd242 rfl) ⟨rfl, rfl, Nat.le_of_ble_eq_true rfl, Nat.le_of_ble_eq_true rfl⟩ [15] rfl (by decide) (fun _ => rfl) rfl hl.1 rfl (Nat.le_of_ble_eq_true rfl) dX8_init_50 ⟨Nat.le_of_ble_eq_true rfl, Nat.le_of_ble_eq_true rfl⟩ (fun x_9 H locs hw => ?_)
  have hw : PW D A s.heap [[(o0, .inr (8, [.ref a_1, .ref a_3, .ref a_4, .ref a_6, .null, .null]))], pX1 cy (x_2 0 0) (x_2 1) uX1, pX4 cy (x_2 0 1) (x_2 2) zS, pX5 cy (x_2 0 2) (x_2 3) zS, pX1 cy (x_7 0 0) (x_7 1) uX1, [], [], [], [], [], [], pX7 a_1 (x_2 0), pIm cy a_3 (fun _ => none), pX3 cy a_4 (x_5 0) zS, pX6 a_6 (x_7 0) zS, pX2 cy a_8 (x_9 0) zS] H _ := hw
  refine x_putF S hw hin 0 0 rfl rfl rfl (lay_X8 S.2.2.2.2) tyX8 tyX8_ok nmX8 4 (by decide) (S.2.2.2.2.wd wd265 rfl) rfl rfl rfl rfl rfl (Nat.le_of_ble_eq_true rfl) dX8_init_53 (fun H locs hw => ?_)
  have hw : PW D A s.heap [[(o0, .inr (8, [.ref a_1, .ref a_3, .ref a_4, .ref a_6, .ref a_8, .null]))], pX1 cy (x_2 0 0) (x_2 1) uX1, pX4 cy (x_2 0 1) (x_2 2) zS, pX5 cy (x_2 0 2) (x_2 3) zS, pX1 cy (x_7 0 0) (x_7 1) uX1, [], [], [], [], [], [], pX7 a_1 (x_2 0), pIm cy a_3 (fun _ => none), pX3 cy a_4 (x_5 0) zS, pX6 a_6 (x_7 0) zS, pX2 cy a_8 (x_9 0) zS] H _ := hw
  refine lv_aload_n S.1 S.2.1 dX8_init_56 rfl (lv_at hl 0 rfl) ?_
  refine x_new (ci := 0) (fs := [.null]) S hw rfl (lay_X0 S.2.2.2.2) tyX0 tyX0_ok (S.2.2.2.2.wd wd250 rfl) (S.2.2.2.2.wd wd251 rfl) (S.2.2.2.2.wd wd78 rfl) (fun j hj => by rcases (show j = 0 by omega) with rfl <;> rfl) (Nat.le_of_ble_eq_true rfl) (Nat.le_of_ble_eq_true rfl) dX8_init_57 (fun a_10 H hw => ?_)
  have hw : PW D A s.heap [[(o0, .inr (8, [.ref a_1, .ref a_3, .ref a_4, .ref a_6, .ref a_8, .null]))], pX1 cy (x_2 0 0) (x_2 1) uX1, pX4 cy (x_2 0 1) (x_2 2) zS, pX5 cy (x_2 0 2) (x_2 3) zS, pX1 cy (x_7 0 0) (x_7 1) uX1, [], [], [], [], [], [], pX7 a_1 (x_2 0), pIm cy a_3 (fun _ => none), pX3 cy a_4 (x_5 0) zS, pX6 a_6 (x_7 0) zS, pX2 cy a_8 (x_9 0) zS, [(a_10, .inr (0, [.null]))]] H _ := hw
  refine lv_dup S.1 S.2.1 dX8_init_60 rfl ?_
  refine x_callIN (host := "SwornLane") (n := 0) (As := []) S hw (c_X0_init l D cy a_10 ) (MF.of S.2.2.2.2 wd254 wd78 (by decide)) (S.2.2.2.2.wd wd253 rfl) rfl (S.2.2.2.2.wd wd252 rfl) ⟨rfl, rfl, Nat.le_of_ble_eq_true rfl, Nat.le_of_ble_eq_true rfl⟩ [16] rfl (by decide) (fun _ => rfl) rfl hl.1 rfl (Nat.le_of_ble_eq_true rfl) dX8_init_61 ⟨Nat.le_of_ble_eq_true rfl, Nat.le_of_ble_eq_true rfl⟩ (fun x_11 H locs hw => ?_)
  have hw : PW D A s.heap [[(o0, .inr (8, [.ref a_1, .ref a_3, .ref a_4, .ref a_6, .ref a_8, .null]))], pX1 cy (x_2 0 0) (x_2 1) uX1, pX4 cy (x_2 0 1) (x_2 2) zS, pX5 cy (x_2 0 2) (x_2 3) zS, pX1 cy (x_7 0 0) (x_7 1) uX1, [], [], [], [], [], [], pX7 a_1 (x_2 0), pIm cy a_3 (fun _ => none), pX3 cy a_4 (x_5 0) zS, pX6 a_6 (x_7 0) zS, pX2 cy a_8 (x_9 0) zS, pX0 cy a_10 (x_11 0) (fun _ => 0)] H _ := hw
  refine x_putF S hw hin 0 0 rfl rfl rfl (lay_X8 S.2.2.2.2) tyX8 tyX8_ok nmX8 5 (by decide) (S.2.2.2.2.wd wd266 rfl) rfl rfl rfl rfl rfl (Nat.le_of_ble_eq_true rfl) dX8_init_64 (fun H locs hw => ?_)
  have hw : PW D A s.heap [[(o0, .inr (8, [.ref a_1, .ref a_3, .ref a_4, .ref a_6, .ref a_8, .ref a_10]))], pX1 cy (x_2 0 0) (x_2 1) uX1, pX4 cy (x_2 0 1) (x_2 2) zS, pX5 cy (x_2 0 2) (x_2 3) zS, pX1 cy (x_7 0 0) (x_7 1) uX1, [], [], [], [], [], [], pX7 a_1 (x_2 0), pIm cy a_3 (fun _ => none), pX3 cy a_4 (x_5 0) zS, pX6 a_6 (x_7 0) zS, pX2 cy a_8 (x_9 0) zS, pX0 cy a_10 (x_11 0) (fun _ => 0)] H _ := hw
  exact x_vret (xf [(qf [a_1, a_3, a_4, a_6, a_8, a_10]), (x_2 1), (x_2 2), (x_2 3), (x_7 1), (x_2 0), (x_5 0), (x_7 0), (x_9 0), (x_11 0)]) S hr hlk hA hQ (pw_cast hw rfl) dX8_init_67
