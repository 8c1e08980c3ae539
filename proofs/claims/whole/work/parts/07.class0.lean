abbrev rmJ6_bitCount_0f7a4 : Room := { frames := 0, cells := 0, slots := 0, locals := 0 }
def f_J6_bitCount_0f7a4 (x1 : Int32) : Option (Int32) := some (((((((((x1 - ((x1.toUInt32 >>> ((1 : Int32).toUInt32 &&& Int32.toUInt32 31)).toInt32 &&& (1431655765 : Int32))) &&& (858993459 : Int32)) + ((((x1 - ((x1.toUInt32 >>> ((1 : Int32).toUInt32 &&& Int32.toUInt32 31)).toInt32 &&& (1431655765 : Int32)))).toUInt32 >>> ((2 : Int32).toUInt32 &&& Int32.toUInt32 31)).toInt32 &&& (858993459 : Int32))) + (((((x1 - ((x1.toUInt32 >>> ((1 : Int32).toUInt32 &&& Int32.toUInt32 31)).toInt32 &&& (1431655765 : Int32))) &&& (858993459 : Int32)) + ((((x1 - ((x1.toUInt32 >>> ((1 : Int32).toUInt32 &&& Int32.toUInt32 31)).toInt32 &&& (1431655765 : Int32)))).toUInt32 >>> ((2 : Int32).toUInt32 &&& Int32.toUInt32 31)).toInt32 &&& (858993459 : Int32)))).toUInt32 >>> ((4 : Int32).toUInt32 &&& Int32.toUInt32 31)).toInt32) &&& (252645135 : Int32)) + (((((((x1 - ((x1.toUInt32 >>> ((1 : Int32).toUInt32 &&& Int32.toUInt32 31)).toInt32 &&& (1431655765 : Int32))) &&& (858993459 : Int32)) + ((((x1 - ((x1.toUInt32 >>> ((1 : Int32).toUInt32 &&& Int32.toUInt32 31)).toInt32 &&& (1431655765 : Int32)))).toUInt32 >>> ((2 : Int32).toUInt32 &&& Int32.toUInt32 31)).toInt32 &&& (858993459 : Int32))) + (((((x1 - ((x1.toUInt32 >>> ((1 : Int32).toUInt32 &&& Int32.toUInt32 31)).toInt32 &&& (1431655765 : Int32))) &&& (858993459 : Int32)) + ((((x1 - ((x1.toUInt32 >>> ((1 : Int32).toUInt32 &&& Int32.toUInt32 31)).toInt32 &&& (1431655765 : Int32)))).toUInt32 >>> ((2 : Int32).toUInt32 &&& Int32.toUInt32 31)).toInt32 &&& (858993459 : Int32)))).toUInt32 >>> ((4 : Int32).toUInt32 &&& Int32.toUInt32 31)).toInt32) &&& (252645135 : Int32))).toUInt32 >>> ((8 : Int32).toUInt32 &&& Int32.toUInt32 31)).toInt32) + ((((((((x1 - ((x1.toUInt32 >>> ((1 : Int32).toUInt32 &&& Int32.toUInt32 31)).toInt32 &&& (1431655765 : Int32))) &&& (858993459 : Int32)) + ((((x1 - ((x1.toUInt32 >>> ((1 : Int32).toUInt32 &&& Int32.toUInt32 31)).toInt32 &&& (1431655765 : Int32)))).toUInt32 >>> ((2 : Int32).toUInt32 &&& Int32.toUInt32 31)).toInt32 &&& (858993459 : Int32))) + (((((x1 - ((x1.toUInt32 >>> ((1 : Int32).toUInt32 &&& Int32.toUInt32 31)).toInt32 &&& (1431655765 : Int32))) &&& (858993459 : Int32)) + ((((x1 - ((x1.toUInt32 >>> ((1 : Int32).toUInt32 &&& Int32.toUInt32 31)).toInt32 &&& (1431655765 : Int32)))).toUInt32 >>> ((2 : Int32).toUInt32 &&& Int32.toUInt32 31)).toInt32 &&& (858993459 : Int32)))).toUInt32 >>> ((4 : Int32).toUInt32 &&& Int32.toUInt32 31)).toInt32) &&& (252645135 : Int32)) + (((((((x1 - ((x1.toUInt32 >>> ((1 : Int32).toUInt32 &&& Int32.toUInt32 31)).toInt32 &&& (1431655765 : Int32))) &&& (858993459 : Int32)) + ((((x1 - ((x1.toUInt32 >>> ((1 : Int32).toUInt32 &&& Int32.toUInt32 31)).toInt32 &&& (1431655765 : Int32)))).toUInt32 >>> ((2 : Int32).toUInt32 &&& Int32.toUInt32 31)).toInt32 &&& (858993459 : Int32))) + (((((x1 - ((x1.toUInt32 >>> ((1 : Int32).toUInt32 &&& Int32.toUInt32 31)).toInt32 &&& (1431655765 : Int32))) &&& (858993459 : Int32)) + ((((x1 - ((x1.toUInt32 >>> ((1 : Int32).toUInt32 &&& Int32.toUInt32 31)).toInt32 &&& (1431655765 : Int32)))).toUInt32 >>> ((2 : Int32).toUInt32 &&& Int32.toUInt32 31)).toInt32 &&& (858993459 : Int32)))).toUInt32 >>> ((4 : Int32).toUInt32 &&& Int32.toUInt32 31)).toInt32) &&& (252645135 : Int32))).toUInt32 >>> ((8 : Int32).toUInt32 &&& Int32.toUInt32 31)).toInt32)).toUInt32 >>> ((16 : Int32).toUInt32 &&& Int32.toUInt32 31)).toInt32) &&& (63 : Int32)))
set_option maxHeartbeats 4000000 in
set_option maxRecDepth 100000 in
theorem c_J6_bitCount_0f7a4 (l : Launch) (D : va_G) (cy : Nat → ClassId)  (x1 : Int32) (u : Int32) (hf : f_J6_bitCount_0f7a4 x1 = some u) : CT l yJ6_bitCount_0f7a4 cJ6_bitCount_0f7a4 1 (some .int) rmJ6_bitCount_0f7a4 D cy [.int x1] [] (some (.int u)) [] := by
  refine CT.of (by decide) (Nat.le_of_ble_eq_true rfl) (fun p e s m args below meth c ls A Q hA hQ S hr hlk hl hw => ?_)
  have hl : lv_has ls 1 [(0, .int x1)] := hl
  rw [f_J6_bitCount_0f7a4] at hf
  refine lv_iload_n S.1 S.2.1 dJ6_bitCount_0f7a4_0 rfl (lv_at hl 0 rfl) ?_
  refine lv_iload_n S.1 S.2.1 dJ6_bitCount_0f7a4_1 rfl (lv_at hl 0 rfl) ?_
  refine lv_iconst (v := 1) S.1 S.2.1 dJ6_bitCount_0f7a4_2 (by decide) ?_
  refine lv_iushr (v := (x1.toUInt32 >>> ((1 : Int32).toUInt32 &&& Int32.toUInt32 31)).toInt32) S.1 S.2.1 dJ6_bitCount_0f7a4_3 rfl ?_
  refine w_ldcw (v := 1431655765) S.1 S.2.1 S.2.2.2.1 (S.2.2.2.2.wd wd301 rfl) dJ6_bitCount_0f7a4_4 ?_
  refine lv_iand S.1 S.2.1 dJ6_bitCount_0f7a4_7 ?_
  refine lv_isub S.1 S.2.1 dJ6_bitCount_0f7a4_8 ?_
  refine lv_istore_n (lv' := [(0, .int ((x1 - ((x1.toUInt32 >>> ((1 : Int32).toUInt32 &&& Int32.toUInt32 31)).toInt32 &&& (1431655765 : Int32)))))]) S.1 S.2.1 dJ6_bitCount_0f7a4_9 rfl hl (by decide) rfl (fun ls hl => ?_)
  refine lv_iload_n S.1 S.2.1 dJ6_bitCount_0f7a4_10 rfl (lv_at hl 0 rfl) ?_
  refine w_ldcw (v := 858993459) S.1 S.2.1 S.2.2.2.1 (S.2.2.2.2.wd wd302 rfl) dJ6_bitCount_0f7a4_11 ?_
  refine lv_iand S.1 S.2.1 dJ6_bitCount_0f7a4_14 ?_
  refine lv_iload_n S.1 S.2.1 dJ6_bitCount_0f7a4_15 rfl (lv_at hl 0 rfl) ?_
  refine lv_iconst (v := 2) S.1 S.2.1 dJ6_bitCount_0f7a4_16 (by decide) ?_
  refine lv_iushr (v := (((x1 - ((x1.toUInt32 >>> ((1 : Int32).toUInt32 &&& Int32.toUInt32 31)).toInt32 &&& (1431655765 : Int32)))).toUInt32 >>> ((2 : Int32).toUInt32 &&& Int32.toUInt32 31)).toInt32) S.1 S.2.1 dJ6_bitCount_0f7a4_17 rfl ?_
  refine w_ldcw (v := 858993459) S.1 S.2.1 S.2.2.2.1 (S.2.2.2.2.wd wd302 rfl) dJ6_bitCount_0f7a4_18 ?_
  refine lv_iand S.1 S.2.1 dJ6_bitCount_0f7a4_21 ?_
  refine lv_iadd S.1 S.2.1 dJ6_bitCount_0f7a4_22 ?_
  refine lv_istore_n (lv' := [(0, .int ((((x1 - ((x1.toUInt32 >>> ((1 : Int32).toUInt32 &&& Int32.toUInt32 31)).toInt32 &&& (1431655765 : Int32))) &&& (858993459 : Int32)) + ((((x1 - ((x1.toUInt32 >>> ((1 : Int32).toUInt32 &&& Int32.toUInt32 31)).toInt32 &&& (1431655765 : Int32)))).toUInt32 >>> ((2 : Int32).toUInt32 &&& Int32.toUInt32 31)).toInt32 &&& (858993459 : Int32)))))]) S.1 S.2.1 dJ6_bitCount_0f7a4_23 rfl hl (by decide) rfl (fun ls hl => ?_)
  refine lv_iload_n S.1 S.2.1 dJ6_bitCount_0f7a4_24 rfl (lv_at hl 0 rfl) ?_
  refine lv_iload_n S.1 S.2.1 dJ6_bitCount_0f7a4_25 rfl (lv_at hl 0 rfl) ?_
  refine lv_iconst (v := 4) S.1 S.2.1 dJ6_bitCount_0f7a4_26 (by decide) ?_
  refine lv_iushr (v := (((((x1 - ((x1.toUInt32 >>> ((1 : Int32).toUInt32 &&& Int32.toUInt32 31)).toInt32 &&& (1431655765 : Int32))) &&& (858993459 : Int32)) + ((((x1 - ((x1.toUInt32 >>> ((1 : Int32).toUInt32 &&& Int32.toUInt32 31)).toInt32 &&& (1431655765 : Int32)))).toUInt32 >>> ((2 : Int32).toUInt32 &&& Int32.toUInt32 31)).toInt32 &&& (858993459 : Int32)))).toUInt32 >>> ((4 : Int32).toUInt32 &&& Int32.toUInt32 31)).toInt32) S.1 S.2.1 dJ6_bitCount_0f7a4_27 rfl ?_
  refine lv_iadd S.1 S.2.1 dJ6_bitCount_0f7a4_28 ?_
  refine w_ldcw (v := 252645135) S.1 S.2.1 S.2.2.2.1 (S.2.2.2.2.wd wd303 rfl) dJ6_bitCount_0f7a4_29 ?_
  refine lv_iand S.1 S.2.1 dJ6_bitCount_0f7a4_32 ?_
  refine lv_istore_n (lv' := [(0, .int ((((((x1 - ((x1.toUInt32 >>> ((1 : Int32).toUInt32 &&& Int32.toUInt32 31)).toInt32 &&& (1431655765 : Int32))) &&& (858993459 : Int32)) + ((((x1 - ((x1.toUInt32 >>> ((1 : Int32).toUInt32 &&& Int32.toUInt32 31)).toInt32 &&& (1431655765 : Int32)))).toUInt32 >>> ((2 : Int32).toUInt32 &&& Int32.toUInt32 31)).toInt32 &&& (858993459 : Int32))) + (((((x1 - ((x1.toUInt32 >>> ((1 : Int32).toUInt32 &&& Int32.toUInt32 31)).toInt32 &&& (1431655765 : Int32))) &&& (858993459 : Int32)) + ((((x1 - ((x1.toUInt32 >>> ((1 : Int32).toUInt32 &&& Int32.toUInt32 31)).toInt32 &&& (1431655765 : Int32)))).toUInt32 >>> ((2 : Int32).toUInt32 &&& Int32.toUInt32 31)).toInt32 &&& (858993459 : Int32)))).toUInt32 >>> ((4 : Int32).toUInt32 &&& Int32.toUInt32 31)).toInt32) &&& (252645135 : Int32))))]) S.1 S.2.1 dJ6_bitCount_0f7a4_33 rfl hl (by decide) rfl (fun ls hl => ?_)
  refine lv_iload_n S.1 S.2.1 dJ6_bitCount_0f7a4_34 rfl (lv_at hl 0 rfl) ?_
  refine lv_iload_n S.1 S.2.1 dJ6_bitCount_0f7a4_35 rfl (lv_at hl 0 rfl) ?_
  refine lv_bipush (v := 8) S.1 S.2.1 dJ6_bitCount_0f7a4_36 (by decide) ?_
  refine lv_iushr (v := (((((((x1 - ((x1.toUInt32 >>> ((1 : Int32).toUInt32 &&& Int32.toUInt32 31)).toInt32 &&& (1431655765 : Int32))) &&& (858993459 : Int32)) + ((((x1 - ((x1.toUInt32 >>> ((1 : Int32).toUInt32 &&& Int32.toUInt32 31)).toInt32 &&& (1431655765 : Int32)))).toUInt32 >>> ((2 : Int32).toUInt32 &&& Int32.toUInt32 31)).toInt32 &&& (858993459 : Int32))) + (((((x1 - ((x1.toUInt32 >>> ((1 : Int32).toUInt32 &&& Int32.toUInt32 31)).toInt32 &&& (1431655765 : Int32))) &&& (858993459 : Int32)) + ((((x1 - ((x1.toUInt32 >>> ((1 : Int32).toUInt32 &&& Int32.toUInt32 31)).toInt32 &&& (1431655765 : Int32)))).toUInt32 >>> ((2 : Int32).toUInt32 &&& Int32.toUInt32 31)).toInt32 &&& (858993459 : Int32)))).toUInt32 >>> ((4 : Int32).toUInt32 &&& Int32.toUInt32 31)).toInt32) &&& (252645135 : Int32))).toUInt32 >>> ((8 : Int32).toUInt32 &&& Int32.toUInt32 31)).toInt32) S.1 S.2.1 dJ6_bitCount_0f7a4_38 rfl ?_
  refine lv_iadd S.1 S.2.1 dJ6_bitCount_0f7a4_39 ?_
  refine lv_istore_n (lv' := [(0, .int (((((((x1 - ((x1.toUInt32 >>> ((1 : Int32).toUInt32 &&& Int32.toUInt32 31)).toInt32 &&& (1431655765 : Int32))) &&& (858993459 : Int32)) + ((((x1 - ((x1.toUInt32 >>> ((1 : Int32).toUInt32 &&& Int32.toUInt32 31)).toInt32 &&& (1431655765 : Int32)))).toUInt32 >>> ((2 : Int32).toUInt32 &&& Int32.toUInt32 31)).toInt32 &&& (858993459 : Int32))) + (((((x1 - ((x1.toUInt32 >>> ((1 : Int32).toUInt32 &&& Int32.toUInt32 31)).toInt32 &&& (1431655765 : Int32))) &&& (858993459 : Int32)) + ((((x1 - ((x1.toUInt32 >>> ((1 : Int32).toUInt32 &&& Int32.toUInt32 31)).toInt32 &&& (1431655765 : Int32)))).toUInt32 >>> ((2 : Int32).toUInt32 &&& Int32.toUInt32 31)).toInt32 &&& (858993459 : Int32)))).toUInt32 >>> ((4 : Int32).toUInt32 &&& Int32.toUInt32 31)).toInt32) &&& (252645135 : Int32)) + (((((((x1 - ((x1.toUInt32 >>> ((1 : Int32).toUInt32 &&& Int32.toUInt32 31)).toInt32 &&& (1431655765 : Int32))) &&& (858993459 : Int32)) + ((((x1 - ((x1.toUInt32 >>> ((1 : Int32).toUInt32 &&& Int32.toUInt32 31)).toInt32 &&& (1431655765 : Int32)))).toUInt32 >>> ((2 : Int32).toUInt32 &&& Int32.toUInt32 31)).toInt32 &&& (858993459 : Int32))) + (((((x1 - ((x1.toUInt32 >>> ((1 : Int32).toUInt32 &&& Int32.toUInt32 31)).toInt32 &&& (1431655765 : Int32))) &&& (858993459 : Int32)) + ((((x1 - ((x1.toUInt32 >>> ((1 : Int32).toUInt32 &&& Int32.toUInt32 31)).toInt32 &&& (1431655765 : Int32)))).toUInt32 >>> ((2 : Int32).toUInt32 &&& Int32.toUInt32 31)).toInt32 &&& (858993459 : Int32)))).toUInt32 >>> ((4 : Int32).toUInt32 &&& Int32.toUInt32 31)).toInt32) &&& (252645135 : Int32))).toUInt32 >>> ((8 : Int32).toUInt32 &&& Int32.toUInt32 31)).toInt32)))]) S.1 S.2.1 dJ6_bitCount_0f7a4_40 rfl hl (by decide) rfl (fun ls hl => ?_)
  refine lv_iload_n S.1 S.2.1 dJ6_bitCount_0f7a4_41 rfl (lv_at hl 0 rfl) ?_
  refine lv_iload_n S.1 S.2.1 dJ6_bitCount_0f7a4_42 rfl (lv_at hl 0 rfl) ?_
  refine lv_bipush (v := 16) S.1 S.2.1 dJ6_bitCount_0f7a4_43 (by decide) ?_
  refine lv_iushr (v := ((((((((x1 - ((x1.toUInt32 >>> ((1 : Int32).toUInt32 &&& Int32.toUInt32 31)).toInt32 &&& (1431655765 : Int32))) &&& (858993459 : Int32)) + ((((x1 - ((x1.toUInt32 >>> ((1 : Int32).toUInt32 &&& Int32.toUInt32 31)).toInt32 &&& (1431655765 : Int32)))).toUInt32 >>> ((2 : Int32).toUInt32 &&& Int32.toUInt32 31)).toInt32 &&& (858993459 : Int32))) + (((((x1 - ((x1.toUInt32 >>> ((1 : Int32).toUInt32 &&& Int32.toUInt32 31)).toInt32 &&& (1431655765 : Int32))) &&& (858993459 : Int32)) + ((((x1 - ((x1.toUInt32 >>> ((1 : Int32).toUInt32 &&& Int32.toUInt32 31)).toInt32 &&& (1431655765 : Int32)))).toUInt32 >>> ((2 : Int32).toUInt32 &&& Int32.toUInt32 31)).toInt32 &&& (858993459 : Int32)))).toUInt32 >>> ((4 : Int32).toUInt32 &&& Int32.toUInt32 31)).toInt32) &&& (252645135 : Int32)) + (((((((x1 - ((x1.toUInt32 >>> ((1 : Int32).toUInt32 &&& Int32.toUInt32 31)).toInt32 &&& (1431655765 : Int32))) &&& (858993459 : Int32)) + ((((x1 - ((x1.toUInt32 >>> ((1 : Int32).toUInt32 &&& Int32.toUInt32 31)).toInt32 &&& (1431655765 : Int32)))).toUInt32 >>> ((2 : Int32).toUInt32 &&& Int32.toUInt32 31)).toInt32 &&& (858993459 : Int32))) + (((((x1 - ((x1.toUInt32 >>> ((1 : Int32).toUInt32 &&& Int32.toUInt32 31)).toInt32 &&& (1431655765 : Int32))) &&& (858993459 : Int32)) + ((((x1 - ((x1.toUInt32 >>> ((1 : Int32).toUInt32 &&& Int32.toUInt32 31)).toInt32 &&& (1431655765 : Int32)))).toUInt32 >>> ((2 : Int32).toUInt32 &&& Int32.toUInt32 31)).toInt32 &&& (858993459 : Int32)))).toUInt32 >>> ((4 : Int32).toUInt32 &&& Int32.toUInt32 31)).toInt32) &&& (252645135 : Int32))).toUInt32 >>> ((8 : Int32).toUInt32 &&& Int32.toUInt32 31)).toInt32)).toUInt32 >>> ((16 : Int32).toUInt32 &&& Int32.toUInt32 31)).toInt32) S.1 S.2.1 dJ6_bitCount_0f7a4_45 rfl ?_
  refine lv_iadd S.1 S.2.1 dJ6_bitCount_0f7a4_46 ?_
  refine lv_istore_n (lv' := [(0, .int ((((((((x1 - ((x1.toUInt32 >>> ((1 : Int32).toUInt32 &&& Int32.toUInt32 31)).toInt32 &&& (1431655765 : Int32))) &&& (858993459 : Int32)) + ((((x1 - ((x1.toUInt32 >>> ((1 : Int32).toUInt32 &&& Int32.toUInt32 31)).toInt32 &&& (1431655765 : Int32)))).toUInt32 >>> ((2 : Int32).toUInt32 &&& Int32.toUInt32 31)).toInt32 &&& (858993459 : Int32))) + (((((x1 - ((x1.toUInt32 >>> ((1 : Int32).toUInt32 &&& Int32.toUInt32 31)).toInt32 &&& (1431655765 : Int32))) &&& (858993459 : Int32)) + ((((x1 - ((x1.toUInt32 >>> ((1 : Int32).toUInt32 &&& Int32.toUInt32 31)).toInt32 &&& (1431655765 : Int32)))).toUInt32 >>> ((2 : Int32).toUInt32 &&& Int32.toUInt32 31)).toInt32 &&& (858993459 : Int32)))).toUInt32 >>> ((4 : Int32).toUInt32 &&& Int32.toUInt32 31)).toInt32) &&& (252645135 : Int32)) + (((((((x1 - ((x1.toUInt32 >>> ((1 : Int32).toUInt32 &&& Int32.toUInt32 31)).toInt32 &&& (1431655765 : Int32))) &&& (858993459 : Int32)) + ((((x1 - ((x1.toUInt32 >>> ((1 : Int32).toUInt32 &&& Int32.toUInt32 31)).toInt32 &&& (1431655765 : Int32)))).toUInt32 >>> ((2 : Int32).toUInt32 &&& Int32.toUInt32 31)).toInt32 &&& (858993459 : Int32))) + (((((x1 - ((x1.toUInt32 >>> ((1 : Int32).toUInt32 &&& Int32.toUInt32 31)).toInt32 &&& (1431655765 : Int32))) &&& (858993459 : Int32)) + ((((x1 - ((x1.toUInt32 >>> ((1 : Int32).toUInt32 &&& Int32.toUInt32 31)).toInt32 &&& (1431655765 : Int32)))).toUInt32 >>> ((2 : Int32).toUInt32 &&& Int32.toUInt32 31)).toInt32 &&& (858993459 : Int32)))).toUInt32 >>> ((4 : Int32).toUInt32 &&& Int32.toUInt32 31)).toInt32) &&& (252645135 : Int32))).toUInt32 >>> ((8 : Int32).toUInt32 &&& Int32.toUInt32 31)).toInt32) + ((((((((x1 - ((x1.toUInt32 >>> ((1 : Int32).toUInt32 &&& Int32.toUInt32 31)).toInt32 &&& (1431655765 : Int32))) &&& (858993459 : Int32)) + ((((x1 - ((x1.toUInt32 >>> ((1 : Int32).toUInt32 &&& Int32.toUInt32 31)).toInt32 &&& (1431655765 : Int32)))).toUInt32 >>> ((2 : Int32).toUInt32 &&& Int32.toUInt32 31)).toInt32 &&& (858993459 : Int32))) + (((((x1 - ((x1.toUInt32 >>> ((1 : Int32).toUInt32 &&& Int32.toUInt32 31)).toInt32 &&& (1431655765 : Int32))) &&& (858993459 : Int32)) + ((((x1 - ((x1.toUInt32 >>> ((1 : Int32).toUInt32 &&& Int32.toUInt32 31)).toInt32 &&& (1431655765 : Int32)))).toUInt32 >>> ((2 : Int32).toUInt32 &&& Int32.toUInt32 31)).toInt32 &&& (858993459 : Int32)))).toUInt32 >>> ((4 : Int32).toUInt32 &&& Int32.toUInt32 31)).toInt32) &&& (252645135 : Int32)) + (((((((x1 - ((x1.toUInt32 >>> ((1 : Int32).toUInt32 &&& Int32.toUInt32 31)).toInt32 &&& (1431655765 : Int32))) &&& (858993459 : Int32)) + ((((x1 - ((x1.toUInt32 >>> ((1 : Int32).toUInt32 &&& Int32.toUInt32 31)).toInt32 &&& (1431655765 : Int32)))).toUInt32 >>> ((2 : Int32).toUInt32 &&& Int32.toUInt32 31)).toInt32 &&& (858993459 : Int32))) + (((((x1 - ((x1.toUInt32 >>> ((1 : Int32).toUInt32 &&& Int32.toUInt32 31)).toInt32 &&& (1431655765 : Int32))) &&& (858993459 : Int32)) + ((((x1 - ((x1.toUInt32 >>> ((1 : Int32).toUInt32 &&& Int32.toUInt32 31)).toInt32 &&& (1431655765 : Int32)))).toUInt32 >>> ((2 : Int32).toUInt32 &&& Int32.toUInt32 31)).toInt32 &&& (858993459 : Int32)))).toUInt32 >>> ((4 : Int32).toUInt32 &&& Int32.toUInt32 31)).toInt32) &&& (252645135 : Int32))).toUInt32 >>> ((8 : Int32).toUInt32 &&& Int32.toUInt32 31)).toInt32)).toUInt32 >>> ((16 : Int32).toUInt32 &&& Int32.toUInt32 31)).toInt32)))]) S.1 S.2.1 dJ6_bitCount_0f7a4_47 rfl hl (by decide) rfl (fun ls hl => ?_)
  refine lv_iload_n S.1 S.2.1 dJ6_bitCount_0f7a4_48 rfl (lv_at hl 0 rfl) ?_
  refine lv_bipush (v := 63) S.1 S.2.1 dJ6_bitCount_0f7a4_49 (by decide) ?_
  refine lv_iand S.1 S.2.1 dJ6_bitCount_0f7a4_51 ?_
  cases hf
  exact w_iret S hr hlk hA hQ hw dJ6_bitCount_0f7a4_52
section
variable {p : Program} {l : Launch} {e : Env} {R : Room} {s : State} {m : MethodId} {args : Array Value} {below : List Frame} {meth : Method} {c : Code} {H : Heap} {locs : List Loc} {cells slots : Nat} {Q : State → Prop} {cc : ByteArray} {pc nL : Nat} {ls : Array Slot} {rest : List Value} {D : va_G} {cy : Nat → ClassId} {A : Nat → Prop} {H0 : Heap} {own : String} {Ps : List va_W}
set_option maxRecDepth 100000 in
theorem k_J6_bitCount_0f7a4  {x1 : Int32}  {u : Int32} {index : Nat} (S : CX p m c cc nL s args own D cy) (hl : (Cond.methodLink own index yJ6_bitCount_0f7a4).before args s = true) (hw : PW D A H0 Ps H locs) (hf : f_J6_bitCount_0f7a4 x1 = some u) (js : List Nat) (hC : js.map (fun j => Ps[j]?) = []) (hnd : js.Nodup) (hlen : js.length = 0) (hR : RMok rmJ6_bitCount_0f7a4 R 1) (hsize : ls.size = nL) (hrest : (rest.map fun v => v.category).sum ≤ 8) (hdg : decode cc pc = .ok (.invokestatic index, 3)) (hcs : cells ≤ R.cells ∧ slots ≤ R.slots)
    (kk : ∀ (H1 : Heap) (locs1 : List Loc), PW D A H0 (setAll Ps js []) H1 locs1 → W p l e R s m args below meth c H1 locs1 cells slots Q (F0 m (pc + 3) ls (.int u :: rest))) : W p l e R s m args below meth c H locs cells slots Q (F0 m pc ls (.int x1 :: rest)) :=
  w_callS (n := 1) (ov := (some (.int u))) (As := [.int x1]) (Cs := []) (Cs' := []) S hw (c_J6_bitCount_0f7a4 l D cy  x1 u hf) (MF.of S.2.2.2.2 wd300 wd80 (by decide)) (S.2.2.2.2.wd wd299 rfl) hl hR js hC hnd hlen rfl hsize rfl hrest hdg hcs kk
end
abbrev rmX8_isWithin : Room := { frames := 0, cells := 0, slots := 0, locals := 0 }
def f_X8_isWithin (x1 : Int32) (x2 : Int32) (x3 : Int32) : Option (Int32) := (if x1 < x2 then some 0 else if x3 < x1 then some 0 else some 1 : Option Int32).bind (fun v_1 => (asB v_1).bind (fun b_2 => some b_2))
set_option maxHeartbeats 4000000 in
set_option maxRecDepth 100000 in
theorem c_X8_isWithin (l : Launch) (D : va_G) (cy : Nat → ClassId)  (x1 : Int32) (x2 : Int32) (x3 : Int32) (u : Int32) (hf : f_X8_isWithin x1 x2 x3 = some u) : CT l yX8_isWithin cX8_isWithin 3 (some .boolean) rmX8_isWithin D cy [.int x1, .int x2, .int x3] [] (some (.int u)) [] := by
  refine CT.of (by decide) (Nat.le_of_ble_eq_true rfl) (fun p e s m args below meth c ls A Q hA hQ S hr hlk hl hw => ?_)
  have hl : lv_has ls 3 [(0, .int x1), (1, .int x2), (2, .int x3)] := hl
  rw [f_X8_isWithin] at hf
  refine lv_iload_n S.1 S.2.1 dX8_isWithin_0 rfl (lv_at hl 0 rfl) ?_
  refine lv_iload_n S.1 S.2.1 dX8_isWithin_1 rfl (lv_at hl 1 rfl) ?_
  obtain ⟨v_1, e_v_1, hf⟩ := ob hf
  have hJ_v_1 : ∀ (H : Heap) (locs : List Loc), PW D A s.heap [] H locs → W p l e rmX8_isWithin s m args below meth c H locs 0 0 Q (F0 m 15 ls [.int v_1]) := by
    intro H locs hw
    obtain ⟨b_2, e_b_2, hf⟩ := ob hf
    obtain ⟨-, -, h_b_2⟩ := asB_inv e_b_2
    subst h_b_2
    cases hf
    exact w_zret S hr (asB_inv e_b_2).1 hlk hA hQ hw dX8_isWithin_15
  replace hf := e_v_1
  clear e_v_1
  refine lv_icmp_lt (tgt := 14) S.1 S.2.1 dX8_isWithin_2 (by decide) (fun c_3 => ?_) (fun c_3 => ?_)
  · replace hf := (if_pos c_3).symm.trans hf
    refine lv_iconst (v := 0) S.1 S.2.1 dX8_isWithin_14 (by decide) ?_
    cases hf
    exact hJ_v_1 _ _ hw
  · replace hf := (if_neg c_3).symm.trans hf
    refine lv_iload_n S.1 S.2.1 dX8_isWithin_5 rfl (lv_at hl 0 rfl) ?_
    refine lv_iload_n S.1 S.2.1 dX8_isWithin_6 rfl (lv_at hl 2 rfl) ?_
    refine lv_icmp_gt (tgt := 14) S.1 S.2.1 dX8_isWithin_7 (by decide) (fun c_4 => ?_) (fun c_4 => ?_)
    · replace hf := (if_pos c_4).symm.trans hf
      refine lv_iconst (v := 0) S.1 S.2.1 dX8_isWithin_14 (by decide) ?_
      cases hf
      exact hJ_v_1 _ _ hw
    · replace hf := (if_neg c_4).symm.trans hf
      refine lv_iconst (v := 1) S.1 S.2.1 dX8_isWithin_10 (by decide) ?_
      refine lv_goto (tgt := 15) S.1 S.2.1 dX8_isWithin_11 (by decide) ?_
      cases hf
      exact hJ_v_1 _ _ hw
section
variable {p : Program} {l : Launch} {e : Env} {R : Room} {s : State} {m : MethodId} {args : Array Value} {below : List Frame} {meth : Method} {c : Code} {H : Heap} {locs : List Loc} {cells slots : Nat} {Q : State → Prop} {cc : ByteArray} {pc nL : Nat} {ls : Array Slot} {rest : List Value} {D : va_G} {cy : Nat → ClassId} {A : Nat → Prop} {H0 : Heap} {own : String} {Ps : List va_W}
set_option maxRecDepth 100000 in
theorem k_X8_isWithin  {x1 : Int32} {x2 : Int32} {x3 : Int32}  {u : Int32} {index : Nat} (S : CX p m c cc nL s args own D cy) (hl : (Cond.methodLink own index yX8_isWithin).before args s = true) (hw : PW D A H0 Ps H locs) (hf : f_X8_isWithin x1 x2 x3 = some u) (js : List Nat) (hC : js.map (fun j => Ps[j]?) = []) (hnd : js.Nodup) (hlen : js.length = 0) (hR : RMok rmX8_isWithin R 3) (hsize : ls.size = nL) (hrest : (rest.map fun v => v.category).sum ≤ 8) (hdg : decode cc pc = .ok (.invokestatic index, 3)) (hcs : cells ≤ R.cells ∧ slots ≤ R.slots)
    (kk : ∀ (H1 : Heap) (locs1 : List Loc), PW D A H0 (setAll Ps js []) H1 locs1 → W p l e R s m args below meth c H1 locs1 cells slots Q (F0 m (pc + 3) ls (.int u :: rest))) : W p l e R s m args below meth c H locs cells slots Q (F0 m pc ls (.int x3 :: .int x2 :: .int x1 :: rest)) :=
  w_callS (n := 3) (ov := (some (.int u))) (As := [.int x1, .int x2, .int x3]) (Cs := []) (Cs' := []) S hw (c_X8_isWithin l D cy  x1 x2 x3 u hf) (MF.of S.2.2.2.2 wd289 wd70 (by decide)) (S.2.2.2.2.wd wd288 rfl) hl hR js hC hnd hlen rfl hsize rfl hrest hdg hcs kk
end
abbrev rmX8_isCorner : Room := { frames := 1, cells := 0, slots := 0, locals := 22 }
def f_X8_isCorner (x1 : Int32) : Option (Int32) := (f_X8_isWithin x1 0 7).bind (fun u_1 => (asB u_1).bind (fun b_2 => some b_2))
set_option maxHeartbeats 4000000 in
set_option maxRecDepth 100000 in
theorem c_X8_isCorner (l : Launch) (D : va_G) (cy : Nat → ClassId)  (x1 : Int32) (u : Int32) (hf : f_X8_isCorner x1 = some u) : CT l yX8_isCorner cX8_isCorner 1 (some .boolean) rmX8_isCorner D cy [.int x1] [] (some (.int u)) [] := by
  refine CT.of (by decide) (Nat.le_of_ble_eq_true rfl) (fun p e s m args below meth c ls A Q hA hQ S hr hlk hl hw => ?_)
  have hl : lv_has ls 1 [(0, .int x1)] := hl
  rw [f_X8_isCorner] at hf
  refine lv_iload_n S.1 S.2.1 dX8_isCorner_0 rfl (lv_at hl 0 rfl) ?_
  refine lv_iconst (v := 0) S.1 S.2.1 dX8_isCorner_1 (by decide) ?_
  refine lv_bipush (v := 7) S.1 S.2.1 dX8_isCorner_2 (by decide) ?_
  obtain ⟨u_1, e_u_1, hf⟩ := ob hf
  refine k_X8_isWithin S (S.2.2.2.2.wd wd287 rfl) hw e_u_1 [] rfl (by decide) rfl ⟨rfl, rfl, Nat.le_of_ble_eq_true rfl, Nat.le_of_ble_eq_true rfl⟩ hl.1 (Nat.le_of_ble_eq_true rfl) dX8_isCorner_4 ⟨Nat.zero_le _, Nat.zero_le _⟩ (fun H locs hw => ?_)
  have hw : PW D A s.heap [] H locs := hw
  obtain ⟨b_2, e_b_2, hf⟩ := ob hf
  obtain ⟨-, -, h_b_2⟩ := asB_inv e_b_2
  subst h_b_2
  cases hf
  exact w_zret S hr (asB_inv e_b_2).1 hlk hA hQ hw dX8_isCorner_7
section
variable {p : Program} {l : Launch} {e : Env} {R : Room} {s : State} {m : MethodId} {args : Array Value} {below : List Frame} {meth : Method} {c : Code} {H : Heap} {locs : List Loc} {cells slots : Nat} {Q : State → Prop} {cc : ByteArray} {pc nL : Nat} {ls : Array Slot} {rest : List Value} {D : va_G} {cy : Nat → ClassId} {A : Nat → Prop} {H0 : Heap} {own : String} {Ps : List va_W}
set_option maxRecDepth 100000 in
theorem k_X8_isCorner  {x1 : Int32}  {u : Int32} {index : Nat} (S : CX p m c cc nL s args own D cy) (hl : (Cond.methodLink own index yX8_isCorner).before args s = true) (hw : PW D A H0 Ps H locs) (hf : f_X8_isCorner x1 = some u) (js : List Nat) (hC : js.map (fun j => Ps[j]?) = []) (hnd : js.Nodup) (hlen : js.length = 0) (hR : RMok rmX8_isCorner R 1) (hsize : ls.size = nL) (hrest : (rest.map fun v => v.category).sum ≤ 8) (hdg : decode cc pc = .ok (.invokestatic index, 3)) (hcs : cells ≤ R.cells ∧ slots ≤ R.slots)
    (kk : ∀ (H1 : Heap) (locs1 : List Loc), PW D A H0 (setAll Ps js []) H1 locs1 → W p l e R s m args below meth c H1 locs1 cells slots Q (F0 m (pc + 3) ls (.int u :: rest))) : W p l e R s m args below meth c H locs cells slots Q (F0 m pc ls (.int x1 :: rest)) :=
  w_callS (n := 1) (ov := (some (.int u))) (As := [.int x1]) (Cs := []) (Cs' := []) S hw (c_X8_isCorner l D cy  x1 u hf) (MF.of S.2.2.2.2 wd286 wd70 (by decide)) (S.2.2.2.2.wd wd285 rfl) hl hR js hC hnd hlen rfl hsize rfl hrest hdg hcs kk
end
section
variable {p : Program} {l : Launch} {e : Env} {R : Room} {s : State} {m : MethodId} {args : Array Value} {below : List Frame} {meth : Method} {c : Code} {H : Heap} {locs : List Loc} {cells slots : Nat} {Q : State → Prop} {cc : ByteArray} {pc nL : Nat} {ls : Array Slot} {rest : List Value} {D : va_G} {cy : Nat → ClassId} {A : Nat → Prop} {H0 : Heap} {own : String} {Ps : List va_W}
set_option maxRecDepth 100000 in
theorem kn_X8_isCorner  {x1 : Int32}  {u : Int32} {index : Nat} (S : CX p m c cc nL s args own D cy) (hl : (Cond.methodLinkNest own index yX8_isCorner "SwornLane").before args s = true) (hw : PW D A H0 Ps H locs) (hf : f_X8_isCorner x1 = some u) (js : List Nat) (hC : js.map (fun j => Ps[j]?) = []) (hnd : js.Nodup) (hlen : js.length = 0) (hR : RMok rmX8_isCorner R 1) (hsize : ls.size = nL) (hrest : (rest.map fun v => v.category).sum ≤ 8) (hdg : decode cc pc = .ok (.invokestatic index, 3)) (hcs : cells ≤ R.cells ∧ slots ≤ R.slots)
    (kk : ∀ (H1 : Heap) (locs1 : List Loc), PW D A H0 (setAll Ps js []) H1 locs1 → W p l e R s m args below meth c H1 locs1 cells slots Q (F0 m (pc + 3) ls (.int u :: rest))) : W p l e R s m args below meth c H locs cells slots Q (F0 m pc ls (.int x1 :: rest)) :=
  w_callSN (n := 1) (ov := (some (.int u))) (As := [.int x1]) (Cs := []) (Cs' := []) S hw (c_X8_isCorner l D cy  x1 u hf) (MF.of S.2.2.2.2 wd286 wd70 (by decide)) (S.2.2.2.2.wd wd285 rfl) hl hR js hC hnd hlen rfl hsize rfl hrest hdg hcs kk
end
abbrev rmX8_isThing : Room := { frames := 1, cells := 0, slots := 0, locals := 22 }
def f_X8_isThing (x1 : Int32) : Option (Int32) := (f_X8_isWithin x1 0 7).bind (fun u_1 => (asB u_1).bind (fun b_2 => some b_2))
set_option maxHeartbeats 4000000 in
set_option maxRecDepth 100000 in
theorem c_X8_isThing (l : Launch) (D : va_G) (cy : Nat → ClassId)  (x1 : Int32) (u : Int32) (hf : f_X8_isThing x1 = some u) : CT l yX8_isThing cX8_isThing 1 (some .boolean) rmX8_isThing D cy [.int x1] [] (some (.int u)) [] := by
  refine CT.of (by decide) (Nat.le_of_ble_eq_true rfl) (fun p e s m args below meth c ls A Q hA hQ S hr hlk hl hw => ?_)
  have hl : lv_has ls 1 [(0, .int x1)] := hl
  rw [f_X8_isThing] at hf
  refine lv_iload_n S.1 S.2.1 dX8_isThing_0 rfl (lv_at hl 0 rfl) ?_
  refine lv_iconst (v := 0) S.1 S.2.1 dX8_isThing_1 (by decide) ?_
  refine lv_bipush (v := 7) S.1 S.2.1 dX8_isThing_2 (by decide) ?_
  obtain ⟨u_1, e_u_1, hf⟩ := ob hf
  refine k_X8_isWithin S (S.2.2.2.2.wd wd287 rfl) hw e_u_1 [] rfl (by decide) rfl ⟨rfl, rfl, Nat.le_of_ble_eq_true rfl, Nat.le_of_ble_eq_true rfl⟩ hl.1 (Nat.le_of_ble_eq_true rfl) dX8_isThing_4 ⟨Nat.zero_le _, Nat.zero_le _⟩ (fun H locs hw => ?_)
  have hw : PW D A s.heap [] H locs := hw
  obtain ⟨b_2, e_b_2, hf⟩ := ob hf
  obtain ⟨-, -, h_b_2⟩ := asB_inv e_b_2
  subst h_b_2
  cases hf
  exact w_zret S hr (asB_inv e_b_2).1 hlk hA hQ hw dX8_isThing_7
section
variable {p : Program} {l : Launch} {e : Env} {R : Room} {s : State} {m : MethodId} {args : Array Value} {below : List Frame} {meth : Method} {c : Code} {H : Heap} {locs : List Loc} {cells slots : Nat} {Q : State → Prop} {cc : ByteArray} {pc nL : Nat} {ls : Array Slot} {rest : List Value} {D : va_G} {cy : Nat → ClassId} {A : Nat → Prop} {H0 : Heap} {own : String} {Ps : List va_W}
set_option maxRecDepth 100000 in
theorem k_X8_isThing  {x1 : Int32}  {u : Int32} {index : Nat} (S : CX p m c cc nL s args own D cy) (hl : (Cond.methodLink own index yX8_isThing).before args s = true) (hw : PW D A H0 Ps H locs) (hf : f_X8_isThing x1 = some u) (js : List Nat) (hC : js.map (fun j => Ps[j]?) = []) (hnd : js.Nodup) (hlen : js.length = 0) (hR : RMok rmX8_isThing R 1) (hsize : ls.size = nL) (hrest : (rest.map fun v => v.category).sum ≤ 8) (hdg : decode cc pc = .ok (.invokestatic index, 3)) (hcs : cells ≤ R.cells ∧ slots ≤ R.slots)
    (kk : ∀ (H1 : Heap) (locs1 : List Loc), PW D A H0 (setAll Ps js []) H1 locs1 → W p l e R s m args below meth c H1 locs1 cells slots Q (F0 m (pc + 3) ls (.int u :: rest))) : W p l e R s m args below meth c H locs cells slots Q (F0 m pc ls (.int x1 :: rest)) :=
  w_callS (n := 1) (ov := (some (.int u))) (As := [.int x1]) (Cs := []) (Cs' := []) S hw (c_X8_isThing l D cy  x1 u hf) (MF.of S.2.2.2.2 wd310 wd70 (by decide)) (S.2.2.2.2.wd wd309 rfl) hl hR js hC hnd hlen rfl hsize rfl hrest hdg hcs kk
end
abbrev rmX8_isPerson : Room := { frames := 1, cells := 0, slots := 0, locals := 22 }
def f_X8_isPerson (x1 : Int32) : Option (Int32) := (f_X8_isWithin x1 0 5).bind (fun u_1 => (asB u_1).bind (fun b_2 => some b_2))
set_option maxHeartbeats 4000000 in
set_option maxRecDepth 100000 in
theorem c_X8_isPerson (l : Launch) (D : va_G) (cy : Nat → ClassId)  (x1 : Int32) (u : Int32) (hf : f_X8_isPerson x1 = some u) : CT l yX8_isPerson cX8_isPerson 1 (some .boolean) rmX8_isPerson D cy [.int x1] [] (some (.int u)) [] := by
  refine CT.of (by decide) (Nat.le_of_ble_eq_true rfl) (fun p e s m args below meth c ls A Q hA hQ S hr hlk hl hw => ?_)
  have hl : lv_has ls 1 [(0, .int x1)] := hl
  rw [f_X8_isPerson] at hf
  refine lv_iload_n S.1 S.2.1 dX8_isPerson_0 rfl (lv_at hl 0 rfl) ?_
  refine lv_iconst (v := 0) S.1 S.2.1 dX8_isPerson_1 (by decide) ?_
  refine lv_iconst (v := 5) S.1 S.2.1 dX8_isPerson_2 (by decide) ?_
  obtain ⟨u_1, e_u_1, hf⟩ := ob hf
  refine k_X8_isWithin S (S.2.2.2.2.wd wd287 rfl) hw e_u_1 [] rfl (by decide) rfl ⟨rfl, rfl, Nat.le_of_ble_eq_true rfl, Nat.le_of_ble_eq_true rfl⟩ hl.1 (Nat.le_of_ble_eq_true rfl) dX8_isPerson_3 ⟨Nat.zero_le _, Nat.zero_le _⟩ (fun H locs hw => ?_)
  have hw : PW D A s.heap [] H locs := hw
  obtain ⟨b_2, e_b_2, hf⟩ := ob hf
  obtain ⟨-, -, h_b_2⟩ := asB_inv e_b_2
  subst h_b_2
  cases hf
  exact w_zret S hr (asB_inv e_b_2).1 hlk hA hQ hw dX8_isPerson_6
section
variable {p : Program} {l : Launch} {e : Env} {R : Room} {s : State} {m : MethodId} {args : Array Value} {below : List Frame} {meth : Method} {c : Code} {H : Heap} {locs : List Loc} {cells slots : Nat} {Q : State → Prop} {cc : ByteArray} {pc nL : Nat} {ls : Array Slot} {rest : List Value} {D : va_G} {cy : Nat → ClassId} {A : Nat → Prop} {H0 : Heap} {own : String} {Ps : List va_W}
set_option maxRecDepth 100000 in
theorem k_X8_isPerson  {x1 : Int32}  {u : Int32} {index : Nat} (S : CX p m c cc nL s args own D cy) (hl : (Cond.methodLink own index yX8_isPerson).before args s = true) (hw : PW D A H0 Ps H locs) (hf : f_X8_isPerson x1 = some u) (js : List Nat) (hC : js.map (fun j => Ps[j]?) = []) (hnd : js.Nodup) (hlen : js.length = 0) (hR : RMok rmX8_isPerson R 1) (hsize : ls.size = nL) (hrest : (rest.map fun v => v.category).sum ≤ 8) (hdg : decode cc pc = .ok (.invokestatic index, 3)) (hcs : cells ≤ R.cells ∧ slots ≤ R.slots)
    (kk : ∀ (H1 : Heap) (locs1 : List Loc), PW D A H0 (setAll Ps js []) H1 locs1 → W p l e R s m args below meth c H1 locs1 cells slots Q (F0 m (pc + 3) ls (.int u :: rest))) : W p l e R s m args below meth c H locs cells slots Q (F0 m pc ls (.int x1 :: rest)) :=
  w_callS (n := 1) (ov := (some (.int u))) (As := [.int x1]) (Cs := []) (Cs' := []) S hw (c_X8_isPerson l D cy  x1 u hf) (MF.of S.2.2.2.2 wd322 wd70 (by decide)) (S.2.2.2.2.wd wd321 rfl) hl hR js hC hnd hlen rfl hsize rfl hrest hdg hcs kk
end
abbrev rmX8_isClaim : Room := { frames := 1, cells := 0, slots := 0, locals := 22 }
def f_X8_isClaim (x1 : Int32) : Option (Int32) := (f_X8_isWithin x1 0 9).bind (fun u_1 => (asB u_1).bind (fun b_2 => some b_2))
set_option maxHeartbeats 4000000 in
set_option maxRecDepth 100000 in
theorem c_X8_isClaim (l : Launch) (D : va_G) (cy : Nat → ClassId)  (x1 : Int32) (u : Int32) (hf : f_X8_isClaim x1 = some u) : CT l yX8_isClaim cX8_isClaim 1 (some .boolean) rmX8_isClaim D cy [.int x1] [] (some (.int u)) [] := by
  refine CT.of (by decide) (Nat.le_of_ble_eq_true rfl) (fun p e s m args below meth c ls A Q hA hQ S hr hlk hl hw => ?_)
  have hl : lv_has ls 1 [(0, .int x1)] := hl
  rw [f_X8_isClaim] at hf
  refine lv_iload_n S.1 S.2.1 dX8_isClaim_0 rfl (lv_at hl 0 rfl) ?_
  refine lv_iconst (v := 0) S.1 S.2.1 dX8_isClaim_1 (by decide) ?_
  refine lv_bipush (v := 9) S.1 S.2.1 dX8_isClaim_2 (by decide) ?_
  obtain ⟨u_1, e_u_1, hf⟩ := ob hf
  refine k_X8_isWithin S (S.2.2.2.2.wd wd287 rfl) hw e_u_1 [] rfl (by decide) rfl ⟨rfl, rfl, Nat.le_of_ble_eq_true rfl, Nat.le_of_ble_eq_true rfl⟩ hl.1 (Nat.le_of_ble_eq_true rfl) dX8_isClaim_4 ⟨Nat.zero_le _, Nat.zero_le _⟩ (fun H locs hw => ?_)
  have hw : PW D A s.heap [] H locs := hw
  obtain ⟨b_2, e_b_2, hf⟩ := ob hf
  obtain ⟨-, -, h_b_2⟩ := asB_inv e_b_2
  subst h_b_2
  cases hf
  exact w_zret S hr (asB_inv e_b_2).1 hlk hA hQ hw dX8_isClaim_7
section
variable {p : Program} {l : Launch} {e : Env} {R : Room} {s : State} {m : MethodId} {args : Array Value} {below : List Frame} {meth : Method} {c : Code} {H : Heap} {locs : List Loc} {cells slots : Nat} {Q : State → Prop} {cc : ByteArray} {pc nL : Nat} {ls : Array Slot} {rest : List Value} {D : va_G} {cy : Nat → ClassId} {A : Nat → Prop} {H0 : Heap} {own : String} {Ps : List va_W}
set_option maxRecDepth 100000 in
theorem k_X8_isClaim  {x1 : Int32}  {u : Int32} {index : Nat} (S : CX p m c cc nL s args own D cy) (hl : (Cond.methodLink own index yX8_isClaim).before args s = true) (hw : PW D A H0 Ps H locs) (hf : f_X8_isClaim x1 = some u) (js : List Nat) (hC : js.map (fun j => Ps[j]?) = []) (hnd : js.Nodup) (hlen : js.length = 0) (hR : RMok rmX8_isClaim R 1) (hsize : ls.size = nL) (hrest : (rest.map fun v => v.category).sum ≤ 8) (hdg : decode cc pc = .ok (.invokestatic index, 3)) (hcs : cells ≤ R.cells ∧ slots ≤ R.slots)
    (kk : ∀ (H1 : Heap) (locs1 : List Loc), PW D A H0 (setAll Ps js []) H1 locs1 → W p l e R s m args below meth c H1 locs1 cells slots Q (F0 m (pc + 3) ls (.int u :: rest))) : W p l e R s m args below meth c H locs cells slots Q (F0 m pc ls (.int x1 :: rest)) :=
  w_callS (n := 1) (ov := (some (.int u))) (As := [.int x1]) (Cs := []) (Cs' := []) S hw (c_X8_isClaim l D cy  x1 u hf) (MF.of S.2.2.2.2 wd521 wd70 (by decide)) (S.2.2.2.2.wd wd520 rfl) hl hR js hC hnd hlen rfl hsize rfl hrest hdg hcs kk
end
abbrev rmX8_isQuestion : Room := { frames := 1, cells := 0, slots := 0, locals := 22 }
def f_X8_isQuestion (x1 : Int32) (x2 : Int32) (x3 : Int32) : Option (Int32) := (f_X8_isWithin x1 0 4).bind (fun u_1 => (if u_1 = 0 then some 0 else (f_X8_isWithin x2 0 2).bind (fun u_5 => if u_5 = 0 then some 0 else (if x2 = 2 then some 5 else some 4 : Option Int32).bind (fun v_7 => (f_X8_isWithin x3 0 v_7).bind (fun u_8 => if u_8 = 0 then some 0 else some 1))) : Option Int32).bind (fun v_2 => (asB v_2).bind (fun b_3 => some b_3)))
set_option maxHeartbeats 4000000 in
set_option maxRecDepth 100000 in
theorem c_X8_isQuestion (l : Launch) (D : va_G) (cy : Nat → ClassId)  (x1 : Int32) (x2 : Int32) (x3 : Int32) (u : Int32) (hf : f_X8_isQuestion x1 x2 x3 = some u) : CT l yX8_isQuestion cX8_isQuestion 3 (some .boolean) rmX8_isQuestion D cy [.int x1, .int x2, .int x3] [] (some (.int u)) [] := by
  refine CT.of (by decide) (Nat.le_of_ble_eq_true rfl) (fun p e s m args below meth c ls A Q hA hQ S hr hlk hl hw => ?_)
  have hl : lv_has ls 3 [(0, .int x1), (1, .int x2), (2, .int x3)] := hl
  rw [f_X8_isQuestion] at hf
  refine lv_iload_n S.1 S.2.1 dX8_isQuestion_0 rfl (lv_at hl 0 rfl) ?_
  refine lv_iconst (v := 0) S.1 S.2.1 dX8_isQuestion_1 (by decide) ?_
  refine lv_iconst (v := 4) S.1 S.2.1 dX8_isQuestion_2 (by decide) ?_
  obtain ⟨u_1, e_u_1, hf⟩ := ob hf
  refine k_X8_isWithin S (S.2.2.2.2.wd wd287 rfl) hw e_u_1 [] rfl (by decide) rfl ⟨rfl, rfl, Nat.le_of_ble_eq_true rfl, Nat.le_of_ble_eq_true rfl⟩ hl.1 (Nat.le_of_ble_eq_true rfl) dX8_isQuestion_3 ⟨Nat.zero_le _, Nat.zero_le _⟩ (fun H locs hw => ?_)
  have hw : PW D A s.heap [] H locs := hw
  obtain ⟨v_2, e_v_2, hf⟩ := ob hf
  have hJ_v_2 : ∀ (H : Heap) (locs : List Loc), PW D A s.heap [] H locs → W p l e rmX8_isQuestion s m args below meth c H locs 0 0 Q (F0 m 41 ls [.int v_2]) := by
    intro H locs hw
    obtain ⟨b_3, e_b_3, hf⟩ := ob hf
    obtain ⟨-, -, h_b_3⟩ := asB_inv e_b_3
    subst h_b_3
    cases hf
    exact w_zret S hr (asB_inv e_b_3).1 hlk hA hQ hw dX8_isQuestion_41
  replace hf := e_v_2
  clear e_v_2
  refine lv_if_eq (tgt := 40) S.1 S.2.1 dX8_isQuestion_6 (by decide) (fun c_4 => ?_) (fun c_4 => ?_)
  · replace hf := (if_pos c_4).symm.trans hf
    refine lv_iconst (v := 0) S.1 S.2.1 dX8_isQuestion_40 (by decide) ?_
    cases hf
    exact hJ_v_2 _ _ hw
  · replace hf := (if_neg c_4).symm.trans hf
    refine lv_iload_n S.1 S.2.1 dX8_isQuestion_9 rfl (lv_at hl 1 rfl) ?_
    refine lv_iconst (v := 0) S.1 S.2.1 dX8_isQuestion_10 (by decide) ?_
    refine lv_iconst (v := 2) S.1 S.2.1 dX8_isQuestion_11 (by decide) ?_
    obtain ⟨u_5, e_u_5, hf⟩ := ob hf
    refine k_X8_isWithin S (S.2.2.2.2.wd wd287 rfl) hw e_u_5 [] rfl (by decide) rfl ⟨rfl, rfl, Nat.le_of_ble_eq_true rfl, Nat.le_of_ble_eq_true rfl⟩ hl.1 (Nat.le_of_ble_eq_true rfl) dX8_isQuestion_12 ⟨Nat.zero_le _, Nat.zero_le _⟩ (fun H locs hw => ?_)
    have hw : PW D A s.heap [] H locs := hw
    refine lv_if_eq (tgt := 40) S.1 S.2.1 dX8_isQuestion_15 (by decide) (fun c_6 => ?_) (fun c_6 => ?_)
    · replace hf := (if_pos c_6).symm.trans hf
      refine lv_iconst (v := 0) S.1 S.2.1 dX8_isQuestion_40 (by decide) ?_
      cases hf
      exact hJ_v_2 _ _ hw
    · replace hf := (if_neg c_6).symm.trans hf
      refine lv_iload_n S.1 S.2.1 dX8_isQuestion_18 rfl (lv_at hl 2 rfl) ?_
      refine lv_iconst (v := 0) S.1 S.2.1 dX8_isQuestion_19 (by decide) ?_
      refine lv_iload_n S.1 S.2.1 dX8_isQuestion_20 rfl (lv_at hl 1 rfl) ?_
      refine lv_iconst (v := 2) S.1 S.2.1 dX8_isQuestion_21 (by decide) ?_
      obtain ⟨v_7, e_v_7, hf⟩ := ob hf
      have hJ_v_7 : ∀ (H : Heap) (locs : List Loc), PW D A s.heap [] H locs → W p l e rmX8_isQuestion s m args below meth c H locs 0 0 Q (F0 m 30 ls [.int v_7, .int 0, .int x3]) := by
        intro H locs hw
        obtain ⟨u_8, e_u_8, hf⟩ := ob hf
        refine k_X8_isWithin S (S.2.2.2.2.wd wd287 rfl) hw e_u_8 [] rfl (by decide) rfl ⟨rfl, rfl, Nat.le_of_ble_eq_true rfl, Nat.le_of_ble_eq_true rfl⟩ hl.1 (Nat.le_of_ble_eq_true rfl) dX8_isQuestion_30 ⟨Nat.zero_le _, Nat.zero_le _⟩ (fun H locs hw => ?_)
        have hw : PW D A s.heap [] H locs := hw
        refine lv_if_eq (tgt := 40) S.1 S.2.1 dX8_isQuestion_33 (by decide) (fun c_9 => ?_) (fun c_9 => ?_)
        · replace hf := (if_pos c_9).symm.trans hf
          refine lv_iconst (v := 0) S.1 S.2.1 dX8_isQuestion_40 (by decide) ?_
          cases hf
          exact hJ_v_2 _ _ hw
        · replace hf := (if_neg c_9).symm.trans hf
          refine lv_iconst (v := 1) S.1 S.2.1 dX8_isQuestion_36 (by decide) ?_
          refine lv_goto (tgt := 41) S.1 S.2.1 dX8_isQuestion_37 (by decide) ?_
          cases hf
          exact hJ_v_2 _ _ hw
      replace hf := e_v_7
      clear e_v_7
      refine lv_icmp_ne (tgt := 29) S.1 S.2.1 dX8_isQuestion_22 (by decide) (fun c_10 => ?_) (fun c_10 => ?_)
      · replace hf := (if_neg c_10).symm.trans hf
        refine lv_iconst (v := 4) S.1 S.2.1 dX8_isQuestion_29 (by decide) ?_
        cases hf
        exact hJ_v_7 _ _ hw
      · replace hf := (if_pos c_10).symm.trans hf
        refine lv_iconst (v := 5) S.1 S.2.1 dX8_isQuestion_25 (by decide) ?_
        refine lv_goto (tgt := 30) S.1 S.2.1 dX8_isQuestion_26 (by decide) ?_
        cases hf
        exact hJ_v_7 _ _ hw
section
variable {p : Program} {l : Launch} {e : Env} {R : Room} {s : State} {m : MethodId} {args : Array Value} {below : List Frame} {meth : Method} {c : Code} {H : Heap} {locs : List Loc} {cells slots : Nat} {Q : State → Prop} {cc : ByteArray} {pc nL : Nat} {ls : Array Slot} {rest : List Value} {D : va_G} {cy : Nat → ClassId} {A : Nat → Prop} {H0 : Heap} {own : String} {Ps : List va_W}
set_option maxRecDepth 100000 in
theorem k_X8_isQuestion  {x1 : Int32} {x2 : Int32} {x3 : Int32}  {u : Int32} {index : Nat} (S : CX p m c cc nL s args own D cy) (hl : (Cond.methodLink own index yX8_isQuestion).before args s = true) (hw : PW D A H0 Ps H locs) (hf : f_X8_isQuestion x1 x2 x3 = some u) (js : List Nat) (hC : js.map (fun j => Ps[j]?) = []) (hnd : js.Nodup) (hlen : js.length = 0) (hR : RMok rmX8_isQuestion R 3) (hsize : ls.size = nL) (hrest : (rest.map fun v => v.category).sum ≤ 8) (hdg : decode cc pc = .ok (.invokestatic index, 3)) (hcs : cells ≤ R.cells ∧ slots ≤ R.slots)
    (kk : ∀ (H1 : Heap) (locs1 : List Loc), PW D A H0 (setAll Ps js []) H1 locs1 → W p l e R s m args below meth c H1 locs1 cells slots Q (F0 m (pc + 3) ls (.int u :: rest))) : W p l e R s m args below meth c H locs cells slots Q (F0 m pc ls (.int x3 :: .int x2 :: .int x1 :: rest)) :=
  w_callS (n := 3) (ov := (some (.int u))) (As := [.int x1, .int x2, .int x3]) (Cs := []) (Cs' := []) S hw (c_X8_isQuestion l D cy  x1 x2 x3 u hf) (MF.of S.2.2.2.2 wd556 wd70 (by decide)) (S.2.2.2.2.wd wd555 rfl) hl hR js hC hnd hlen rfl hsize rfl hrest hdg hcs kk
end
abbrev rmX8_holds : Room := { frames := 0, cells := 0, slots := 0, locals := 0 }
def f_X8_holds (x1 : Int32) (x2 : Int32) : Option (Int32) := (if ((x1 >>> (x2 &&& 31)) &&& (1 : Int32)) = 0 then some 0 else some 1 : Option Int32).bind (fun v_1 => (asB v_1).bind (fun b_2 => some b_2))
set_option maxHeartbeats 4000000 in
set_option maxRecDepth 100000 in
theorem c_X8_holds (l : Launch) (D : va_G) (cy : Nat → ClassId)  (x1 : Int32) (x2 : Int32) (u : Int32) (hf : f_X8_holds x1 x2 = some u) : CT l yX8_holds cX8_holds 2 (some .boolean) rmX8_holds D cy [.int x1, .int x2] [] (some (.int u)) [] := by
  refine CT.of (by decide) (Nat.le_of_ble_eq_true rfl) (fun p e s m args below meth c ls A Q hA hQ S hr hlk hl hw => ?_)
  have hl : lv_has ls 2 [(0, .int x1), (1, .int x2)] := hl
  rw [f_X8_holds] at hf
  refine lv_iload_n S.1 S.2.1 dX8_holds_0 rfl (lv_at hl 0 rfl) ?_
  refine lv_iload_n S.1 S.2.1 dX8_holds_1 rfl (lv_at hl 1 rfl) ?_
  refine lv_ishr S.1 S.2.1 dX8_holds_2 ?_
  refine lv_iconst (v := 1) S.1 S.2.1 dX8_holds_3 (by decide) ?_
  refine lv_iand S.1 S.2.1 dX8_holds_4 ?_
  obtain ⟨v_1, e_v_1, hf⟩ := ob hf
  have hJ_v_1 : ∀ (H : Heap) (locs : List Loc), PW D A s.heap [] H locs → W p l e rmX8_holds s m args below meth c H locs 0 0 Q (F0 m 13 ls [.int v_1]) := by
    intro H locs hw
    obtain ⟨b_2, e_b_2, hf⟩ := ob hf
    obtain ⟨-, -, h_b_2⟩ := asB_inv e_b_2
    subst h_b_2
    cases hf
    exact w_zret S hr (asB_inv e_b_2).1 hlk hA hQ hw dX8_holds_13
  replace hf := e_v_1
  clear e_v_1
  refine lv_if_eq (tgt := 12) S.1 S.2.1 dX8_holds_5 (by decide) (fun c_3 => ?_) (fun c_3 => ?_)
  · replace hf := (if_pos c_3).symm.trans hf
    refine lv_iconst (v := 0) S.1 S.2.1 dX8_holds_12 (by decide) ?_
    cases hf
    exact hJ_v_1 _ _ hw
  · replace hf := (if_neg c_3).symm.trans hf
    refine lv_iconst (v := 1) S.1 S.2.1 dX8_holds_8 (by decide) ?_
    refine lv_goto (tgt := 13) S.1 S.2.1 dX8_holds_9 (by decide) ?_
    cases hf
    exact hJ_v_1 _ _ hw
section
variable {p : Program} {l : Launch} {e : Env} {R : Room} {s : State} {m : MethodId} {args : Array Value} {below : List Frame} {meth : Method} {c : Code} {H : Heap} {locs : List Loc} {cells slots : Nat} {Q : State → Prop} {cc : ByteArray} {pc nL : Nat} {ls : Array Slot} {rest : List Value} {D : va_G} {cy : Nat → ClassId} {A : Nat → Prop} {H0 : Heap} {own : String} {Ps : List va_W}
set_option maxRecDepth 100000 in
theorem k_X8_holds  {x1 : Int32} {x2 : Int32}  {u : Int32} {index : Nat} (S : CX p m c cc nL s args own D cy) (hl : (Cond.methodLink own index yX8_holds).before args s = true) (hw : PW D A H0 Ps H locs) (hf : f_X8_holds x1 x2 = some u) (js : List Nat) (hC : js.map (fun j => Ps[j]?) = []) (hnd : js.Nodup) (hlen : js.length = 0) (hR : RMok rmX8_holds R 2) (hsize : ls.size = nL) (hrest : (rest.map fun v => v.category).sum ≤ 8) (hdg : decode cc pc = .ok (.invokestatic index, 3)) (hcs : cells ≤ R.cells ∧ slots ≤ R.slots)
    (kk : ∀ (H1 : Heap) (locs1 : List Loc), PW D A H0 (setAll Ps js []) H1 locs1 → W p l e R s m args below meth c H1 locs1 cells slots Q (F0 m (pc + 3) ls (.int u :: rest))) : W p l e R s m args below meth c H locs cells slots Q (F0 m pc ls (.int x2 :: .int x1 :: rest)) :=
  w_callS (n := 2) (ov := (some (.int u))) (As := [.int x1, .int x2]) (Cs := []) (Cs' := []) S hw (c_X8_holds l D cy  x1 x2 u hf) (MF.of S.2.2.2.2 wd422 wd70 (by decide)) (S.2.2.2.2.wd wd421 rfl) hl hR js hC hnd hlen rfl hsize rfl hrest hdg hcs kk
end
section
variable {p : Program} {l : Launch} {e : Env} {R : Room} {s : State} {m : MethodId} {args : Array Value} {below : List Frame} {meth : Method} {c : Code} {H : Heap} {locs : List Loc} {cells slots : Nat} {Q : State → Prop} {cc : ByteArray} {pc nL : Nat} {ls : Array Slot} {rest : List Value} {D : va_G} {cy : Nat → ClassId} {A : Nat → Prop} {H0 : Heap} {own : String} {Ps : List va_W}
set_option maxRecDepth 100000 in
theorem kn_X8_holds  {x1 : Int32} {x2 : Int32}  {u : Int32} {index : Nat} (S : CX p m c cc nL s args own D cy) (hl : (Cond.methodLinkNest own index yX8_holds "SwornLane").before args s = true) (hw : PW D A H0 Ps H locs) (hf : f_X8_holds x1 x2 = some u) (js : List Nat) (hC : js.map (fun j => Ps[j]?) = []) (hnd : js.Nodup) (hlen : js.length = 0) (hR : RMok rmX8_holds R 2) (hsize : ls.size = nL) (hrest : (rest.map fun v => v.category).sum ≤ 8) (hdg : decode cc pc = .ok (.invokestatic index, 3)) (hcs : cells ≤ R.cells ∧ slots ≤ R.slots)
    (kk : ∀ (H1 : Heap) (locs1 : List Loc), PW D A H0 (setAll Ps js []) H1 locs1 → W p l e R s m args below meth c H1 locs1 cells slots Q (F0 m (pc + 3) ls (.int u :: rest))) : W p l e R s m args below meth c H locs cells slots Q (F0 m pc ls (.int x2 :: .int x1 :: rest)) :=
  w_callSN (n := 2) (ov := (some (.int u))) (As := [.int x1, .int x2]) (Cs := []) (Cs' := []) S hw (c_X8_holds l D cy  x1 x2 u hf) (MF.of S.2.2.2.2 wd422 wd70 (by decide)) (S.2.2.2.2.wd wd421 rfl) hl hR js hC hnd hlen rfl hsize rfl hrest hdg hcs kk
end
abbrev rmX8_isTrue : Room := { frames := 1, cells := 0, slots := 0, locals := 21 }
def f_X8_isTrue (x1 : Int32) (x2 : Int32) (x3 : Int32) : Option (Int32) := if x2 = 0 then (f_X8_holds x1 x3).bind (fun u_2 => (if u_2 = 0 then some 1 else some 0 : Option Int32).bind (fun v_3 => (asB v_3).bind (fun b_4 => some b_4))) else if x2 = 1 then (f_X8_holds x1 x3).bind (fun u_7 => (asB u_7).bind (fun b_8 => some b_8)) else (f_J6_bitCount_0f7a4 x1).bind (fun u_9 => (if u_9 = x3 then some 1 else some 0 : Option Int32).bind (fun v_10 => (asB v_10).bind (fun b_11 => some b_11)))
set_option maxHeartbeats 4000000 in
set_option maxRecDepth 100000 in
theorem c_X8_isTrue (l : Launch) (D : va_G) (cy : Nat → ClassId)  (x1 : Int32) (x2 : Int32) (x3 : Int32) (u : Int32) (hf : f_X8_isTrue x1 x2 x3 = some u) : CT l yX8_isTrue cX8_isTrue 3 (some .boolean) rmX8_isTrue D cy [.int x1, .int x2, .int x3] [] (some (.int u)) [] := by
  refine CT.of (by decide) (Nat.le_of_ble_eq_true rfl) (fun p e s m args below meth c ls A Q hA hQ S hr hlk hl hw => ?_)
  have hl : lv_has ls 3 [(0, .int x1), (1, .int x2), (2, .int x3)] := hl
  rw [f_X8_isTrue] at hf
  refine lv_iload_n S.1 S.2.1 dX8_isTrue_0 rfl (lv_at hl 1 rfl) ?_
  by_cases c_1 : x2 = 0
  · replace hf := (if_pos c_1).symm.trans hf
    refine lv_lookup (off := 27) (tgt := 28) S.1 S.2.1 dX8_isTrue_1 (by decide) (by rw [c_1]; rfl) (by decide) ?_
    refine lv_iload_n S.1 S.2.1 dX8_isTrue_28 rfl (lv_at hl 0 rfl) ?_
    refine lv_iload_n S.1 S.2.1 dX8_isTrue_29 rfl (lv_at hl 2 rfl) ?_
    obtain ⟨u_2, e_u_2, hf⟩ := ob hf
    refine k_X8_holds S (S.2.2.2.2.wd wd451 rfl) hw e_u_2 [] rfl (by decide) rfl ⟨rfl, rfl, Nat.le_of_ble_eq_true rfl, Nat.le_of_ble_eq_true rfl⟩ hl.1 (Nat.le_of_ble_eq_true rfl) dX8_isTrue_30 ⟨Nat.zero_le _, Nat.zero_le _⟩ (fun H locs hw => ?_)
    have hw : PW D A s.heap [] H locs := hw
    obtain ⟨v_3, e_v_3, hf⟩ := ob hf
    have hJ_v_3 : ∀ (H : Heap) (locs : List Loc), PW D A s.heap [] H locs → W p l e rmX8_isTrue s m args below meth c H locs 0 0 Q (F0 m 41 ls [.int v_3]) := by
      intro H locs hw
      obtain ⟨b_4, e_b_4, hf⟩ := ob hf
      obtain ⟨-, -, h_b_4⟩ := asB_inv e_b_4
      subst h_b_4
      cases hf
      exact w_zret S hr (asB_inv e_b_4).1 hlk hA hQ hw dX8_isTrue_41
    replace hf := e_v_3
    clear e_v_3
    refine lv_if_ne (tgt := 40) S.1 S.2.1 dX8_isTrue_33 (by decide) (fun c_5 => ?_) (fun c_5 => ?_)
    · replace hf := (if_neg c_5).symm.trans hf
      refine lv_iconst (v := 0) S.1 S.2.1 dX8_isTrue_40 (by decide) ?_
      cases hf
      exact hJ_v_3 _ _ hw
    · replace hf := (if_pos c_5).symm.trans hf
      refine lv_iconst (v := 1) S.1 S.2.1 dX8_isTrue_36 (by decide) ?_
      refine lv_goto (tgt := 41) S.1 S.2.1 dX8_isTrue_37 (by decide) ?_
      cases hf
      exact hJ_v_3 _ _ hw
  · replace hf := (if_neg c_1).symm.trans hf
    by_cases c_6 : x2 = 1
    · replace hf := (if_pos c_6).symm.trans hf
      refine lv_lookup (off := 41) (tgt := 42) S.1 S.2.1 dX8_isTrue_1 (by decide) (by rw [c_6]; rfl) (by decide) ?_
      refine lv_iload_n S.1 S.2.1 dX8_isTrue_42 rfl (lv_at hl 0 rfl) ?_
      refine lv_iload_n S.1 S.2.1 dX8_isTrue_43 rfl (lv_at hl 2 rfl) ?_
      obtain ⟨u_7, e_u_7, hf⟩ := ob hf
      refine k_X8_holds S (S.2.2.2.2.wd wd451 rfl) hw e_u_7 [] rfl (by decide) rfl ⟨rfl, rfl, Nat.le_of_ble_eq_true rfl, Nat.le_of_ble_eq_true rfl⟩ hl.1 (Nat.le_of_ble_eq_true rfl) dX8_isTrue_44 ⟨Nat.zero_le _, Nat.zero_le _⟩ (fun H locs hw => ?_)
      have hw : PW D A s.heap [] H locs := hw
      obtain ⟨b_8, e_b_8, hf⟩ := ob hf
      obtain ⟨-, -, h_b_8⟩ := asB_inv e_b_8
      subst h_b_8
      cases hf
      exact w_zret S hr (asB_inv e_b_8).1 hlk hA hQ hw dX8_isTrue_47
    · replace hf := (if_neg c_6).symm.trans hf
      have t_c_1 := ne_toInt (k := 0) c_1 (by decide)
      have t_c_6 := ne_toInt (k := 1) c_6 (by decide)
      refine lv_lookup (off := 47) (tgt := 48) S.1 S.2.1 dX8_isTrue_1 (by decide) (by simp [Op.lookupswitch.offset, Ne.symm t_c_1, Ne.symm t_c_6]) (by decide) ?_
      refine lv_iload_n S.1 S.2.1 dX8_isTrue_48 rfl (lv_at hl 0 rfl) ?_
      obtain ⟨u_9, e_u_9, hf⟩ := ob hf
      refine k_J6_bitCount_0f7a4 S (S.2.2.2.2.wd wd549 rfl) hw e_u_9 [] rfl (by decide) rfl ⟨rfl, rfl, Nat.le_of_ble_eq_true rfl, Nat.le_of_ble_eq_true rfl⟩ hl.1 (Nat.le_of_ble_eq_true rfl) dX8_isTrue_49 ⟨Nat.zero_le _, Nat.zero_le _⟩ (fun H locs hw => ?_)
      have hw : PW D A s.heap [] H locs := hw
      refine lv_iload_n S.1 S.2.1 dX8_isTrue_52 rfl (lv_at hl 2 rfl) ?_
      obtain ⟨v_10, e_v_10, hf⟩ := ob hf
      have hJ_v_10 : ∀ (H : Heap) (locs : List Loc), PW D A s.heap [] H locs → W p l e rmX8_isTrue s m args below meth c H locs 0 0 Q (F0 m 61 ls [.int v_10]) := by
        intro H locs hw
        obtain ⟨b_11, e_b_11, hf⟩ := ob hf
        obtain ⟨-, -, h_b_11⟩ := asB_inv e_b_11
        subst h_b_11
        cases hf
        exact w_zret S hr (asB_inv e_b_11).1 hlk hA hQ hw dX8_isTrue_61
      replace hf := e_v_10
      clear e_v_10
      refine lv_icmp_ne (tgt := 60) S.1 S.2.1 dX8_isTrue_53 (by decide) (fun c_12 => ?_) (fun c_12 => ?_)
      · replace hf := (if_neg c_12).symm.trans hf
        refine lv_iconst (v := 0) S.1 S.2.1 dX8_isTrue_60 (by decide) ?_
        cases hf
        exact hJ_v_10 _ _ hw
      · replace hf := (if_pos c_12).symm.trans hf
        refine lv_iconst (v := 1) S.1 S.2.1 dX8_isTrue_56 (by decide) ?_
        refine lv_goto (tgt := 61) S.1 S.2.1 dX8_isTrue_57 (by decide) ?_
        cases hf
        exact hJ_v_10 _ _ hw
section
variable {p : Program} {l : Launch} {e : Env} {R : Room} {s : State} {m : MethodId} {args : Array Value} {below : List Frame} {meth : Method} {c : Code} {H : Heap} {locs : List Loc} {cells slots : Nat} {Q : State → Prop} {cc : ByteArray} {pc nL : Nat} {ls : Array Slot} {rest : List Value} {D : va_G} {cy : Nat → ClassId} {A : Nat → Prop} {H0 : Heap} {own : String} {Ps : List va_W}
set_option maxRecDepth 100000 in
theorem k_X8_isTrue  {x1 : Int32} {x2 : Int32} {x3 : Int32}  {u : Int32} {index : Nat} (S : CX p m c cc nL s args own D cy) (hl : (Cond.methodLink own index yX8_isTrue).before args s = true) (hw : PW D A H0 Ps H locs) (hf : f_X8_isTrue x1 x2 x3 = some u) (js : List Nat) (hC : js.map (fun j => Ps[j]?) = []) (hnd : js.Nodup) (hlen : js.length = 0) (hR : RMok rmX8_isTrue R 3) (hsize : ls.size = nL) (hrest : (rest.map fun v => v.category).sum ≤ 8) (hdg : decode cc pc = .ok (.invokestatic index, 3)) (hcs : cells ≤ R.cells ∧ slots ≤ R.slots)
    (kk : ∀ (H1 : Heap) (locs1 : List Loc), PW D A H0 (setAll Ps js []) H1 locs1 → W p l e R s m args below meth c H1 locs1 cells slots Q (F0 m (pc + 3) ls (.int u :: rest))) : W p l e R s m args below meth c H locs cells slots Q (F0 m pc ls (.int x3 :: .int x2 :: .int x1 :: rest)) :=
  w_callS (n := 3) (ov := (some (.int u))) (As := [.int x1, .int x2, .int x3]) (Cs := []) (Cs' := []) S hw (c_X8_isTrue l D cy  x1 x2 x3 u hf) (MF.of S.2.2.2.2 wd562 wd70 (by decide)) (S.2.2.2.2.wd wd561 rfl) hl hR js hC hnd hlen rfl hsize rfl hrest hdg hcs kk
end
abbrev rmX8_setsOfYes : Room := { frames := 2, cells := 0, slots := 0, locals := 43 }
def fl_X8_setsOfYes_5 (y0 : Int32) (y1 : Int32) (y2 : Int32)  : Nat → Int32 → Int32 → Option (Int32)
  | 0, _, _ => none
  | n + 1, y3, y4 => if 32 ≤ y4 then some y3 else (f_X8_isTrue y4 y1 y2).bind (fun u_2 => (f_X8_holds y4 y0).bind (fun u_3 => if u_2 = u_3 then fl_X8_setsOfYes_5 y0 y1 y2 n y3 ((y4 + 1)) else fl_X8_setsOfYes_5 y0 y1 y2 n ((y3 ||| ((1 : Int32) <<< (y4 &&& 31)))) ((y4 + 1))))
def f_X8_setsOfYes (x1 : Int32) (x2 : Int32) (x3 : Int32) : Option (Int32) := (fl_X8_setsOfYes_5 x1 x2 x3 2000 0 0).bind (fun u_5 => some u_5)
section
variable {p : Program} {l : Launch} {e : Env} {s : State} {m : MethodId} {args : Array Value} {below : List Frame} {meth : Method} {c : Code} {Q : State → Prop} {D : va_G} {cy : Nat → ClassId} {A : Nat → Prop} {H0 : Heap}
set_option maxHeartbeats 4000000 in
set_option maxRecDepth 100000 in
theorem lp_X8_setsOfYes_5 (S : CX p m c cX8_setsOfYes 5 s args RX8 D cy)   {y0 : Int32} {y1 : Int32} {y2 : Int32} : ∀ (n : Nat) (y3 : Int32) (y4 : Int32) (H : Heap) (locs : List Loc) (ls : Array Slot) (u : Int32), PW D A H0 [] H locs → lv_has ls 5 [(0, .int y0), (1, .int y1), (2, .int y2), (3, .int y3), (4, .int y4)] → fl_X8_setsOfYes_5 y0 y1 y2 n y3 y4 = some u → (∀ (H : Heap) (locs : List Loc) (ls : Array Slot), PW D A H0 [] H locs → lv_has ls 5 [(3, .int u)] → W p l e rmX8_setsOfYes s m args below meth c H locs 0 0 Q (F0 m 41 ls [])) → W p l e rmX8_setsOfYes s m args below meth c H locs 0 0 Q (F0 m 5 ls []) := by
  intro n
  induction n with
  | zero =>
    intro y3 y4 H locs ls u hw hl hf K0
    rw [fl_X8_setsOfYes_5] at hf
    cases hf
  | succ n ih =>
    intro y3 y4 H locs ls u hw hl hf K0
    rw [fl_X8_setsOfYes_5] at hf
    refine lv_iload S.1 S.2.1 dX8_setsOfYes_5 (lv_at hl 4 rfl) ?_
    refine lv_bipush (v := 32) S.1 S.2.1 dX8_setsOfYes_7 (by decide) ?_
    refine lv_icmp_ge (tgt := 41) S.1 S.2.1 dX8_setsOfYes_9 (by decide) (fun c_1 => ?_) (fun c_1 => ?_)
    · replace hf := (if_pos c_1).symm.trans hf
      cases hf
      exact K0 _ _ _ hw (lv_sub hl [3] rfl)
    · replace hf := (if_neg c_1).symm.trans hf
      refine lv_iload S.1 S.2.1 dX8_setsOfYes_12 (lv_at hl 4 rfl) ?_
      refine lv_iload_n S.1 S.2.1 dX8_setsOfYes_14 rfl (lv_at hl 1 rfl) ?_
      refine lv_iload_n S.1 S.2.1 dX8_setsOfYes_15 rfl (lv_at hl 2 rfl) ?_
      obtain ⟨u_2, e_u_2, hf⟩ := ob hf
      refine k_X8_isTrue S (S.2.2.2.2.wd wd560 rfl) hw e_u_2 [] rfl (by decide) rfl ⟨rfl, rfl, Nat.le_of_ble_eq_true rfl, Nat.le_of_ble_eq_true rfl⟩ hl.1 (Nat.le_of_ble_eq_true rfl) dX8_setsOfYes_16 ⟨Nat.zero_le _, Nat.zero_le _⟩ (fun H locs hw => ?_)
      have hw : PW D A H0 [] H locs := hw
      refine lv_iload S.1 S.2.1 dX8_setsOfYes_19 (lv_at hl 4 rfl) ?_
      refine lv_iload_n S.1 S.2.1 dX8_setsOfYes_21 rfl (lv_at hl 0 rfl) ?_
      obtain ⟨u_3, e_u_3, hf⟩ := ob hf
      refine k_X8_holds S (S.2.2.2.2.wd wd451 rfl) hw e_u_3 [] rfl (by decide) rfl ⟨rfl, rfl, Nat.le_of_ble_eq_true rfl, Nat.le_of_ble_eq_true rfl⟩ hl.1 (Nat.le_of_ble_eq_true rfl) dX8_setsOfYes_22 ⟨Nat.zero_le _, Nat.zero_le _⟩ (fun H locs hw => ?_)
      have hw : PW D A H0 [] H locs := hw
      refine lv_icmp_eq (tgt := 35) S.1 S.2.1 dX8_setsOfYes_25 (by decide) (fun c_4 => ?_) (fun c_4 => ?_)
      · replace hf := (if_pos c_4).symm.trans hf
        refine lv_iinc (v := (y4 + 1)) (lv' := [(4, .int ((y4 + 1))), (0, .int y0), (1, .int y1), (2, .int y2), (3, .int y3)]) S.1 S.2.1 dX8_setsOfYes_35 hl (k := 4) rfl rfl (by decide) rfl (fun ls hl => ?_)
        refine lv_goto (tgt := 5) S.1 S.2.1 dX8_setsOfYes_38 (by decide) ?_
        exact ih _ _ _ _ _ _ hw (lv_sub hl [1, 2, 3, 4, 0] rfl) hf K0
      · replace hf := (if_neg c_4).symm.trans hf
        refine lv_iload_n S.1 S.2.1 dX8_setsOfYes_28 rfl (lv_at hl 3 rfl) ?_
        refine lv_iconst (v := 1) S.1 S.2.1 dX8_setsOfYes_29 (by decide) ?_
        refine lv_iload S.1 S.2.1 dX8_setsOfYes_30 (lv_at hl 4 rfl) ?_
        refine lv_ishl S.1 S.2.1 dX8_setsOfYes_32 ?_
        refine lv_ior S.1 S.2.1 dX8_setsOfYes_33 ?_
        refine lv_istore_n (lv' := [(3, .int ((y3 ||| ((1 : Int32) <<< (y4 &&& 31))))), (0, .int y0), (1, .int y1), (2, .int y2), (4, .int y4)]) S.1 S.2.1 dX8_setsOfYes_34 rfl hl (by decide) rfl (fun ls hl => ?_)
        refine lv_iinc (v := (y4 + 1)) (lv' := [(4, .int ((y4 + 1))), (3, .int ((y3 ||| ((1 : Int32) <<< (y4 &&& 31))))), (0, .int y0), (1, .int y1), (2, .int y2)]) S.1 S.2.1 dX8_setsOfYes_35 hl (k := 4) rfl rfl (by decide) rfl (fun ls hl => ?_)
        refine lv_goto (tgt := 5) S.1 S.2.1 dX8_setsOfYes_38 (by decide) ?_
        exact ih _ _ _ _ _ _ hw (lv_sub hl [2, 3, 4, 1, 0] rfl) hf K0
end
set_option maxHeartbeats 4000000 in
set_option maxRecDepth 100000 in
theorem c_X8_setsOfYes (l : Launch) (D : va_G) (cy : Nat → ClassId)  (x1 : Int32) (x2 : Int32) (x3 : Int32) (u : Int32) (hf : f_X8_setsOfYes x1 x2 x3 = some u) : CT l yX8_setsOfYes cX8_setsOfYes 5 (some .int) rmX8_setsOfYes D cy [.int x1, .int x2, .int x3] [] (some (.int u)) [] := by
  refine CT.of (by decide) (Nat.le_of_ble_eq_true rfl) (fun p e s m args below meth c ls A Q hA hQ S hr hlk hl hw => ?_)
  have hl : lv_has ls 5 [(0, .int x1), (1, .int x2), (2, .int x3)] := hl
  rw [f_X8_setsOfYes] at hf
  refine lv_iconst (v := 0) S.1 S.2.1 dX8_setsOfYes_0 (by decide) ?_
  refine lv_istore_n (lv' := [(3, .int 0), (0, .int x1), (1, .int x2), (2, .int x3)]) S.1 S.2.1 dX8_setsOfYes_1 rfl hl (by decide) rfl (fun ls hl => ?_)
  refine lv_iconst (v := 0) S.1 S.2.1 dX8_setsOfYes_2 (by decide) ?_
  refine lv_istore (lv' := [(4, .int 0), (3, .int 0), (0, .int x1), (1, .int x2), (2, .int x3)]) S.1 S.2.1 dX8_setsOfYes_3 hl (by decide) rfl (fun ls hl => ?_)
  obtain ⟨u_5, e_u_5, hf⟩ := ob hf
  refine lp_X8_setsOfYes_5 S 2000 _ _ _ _ _ _ hw (lv_sub hl [2, 3, 4, 1, 0] rfl) e_u_5 ?_
  · intro H locs ls hw hl
    refine lv_iload_n S.1 S.2.1 dX8_setsOfYes_41 rfl (lv_at hl 0 rfl) ?_
    cases hf
    exact w_iret S hr hlk hA hQ hw dX8_setsOfYes_42
section
variable {p : Program} {l : Launch} {e : Env} {R : Room} {s : State} {m : MethodId} {args : Array Value} {below : List Frame} {meth : Method} {c : Code} {H : Heap} {locs : List Loc} {cells slots : Nat} {Q : State → Prop} {cc : ByteArray} {pc nL : Nat} {ls : Array Slot} {rest : List Value} {D : va_G} {cy : Nat → ClassId} {A : Nat → Prop} {H0 : Heap} {own : String} {Ps : List va_W}
set_option maxRecDepth 100000 in
theorem k_X8_setsOfYes  {x1 : Int32} {x2 : Int32} {x3 : Int32}  {u : Int32} {index : Nat} (S : CX p m c cc nL s args own D cy) (hl : (Cond.methodLink own index yX8_setsOfYes).before args s = true) (hw : PW D A H0 Ps H locs) (hf : f_X8_setsOfYes x1 x2 x3 = some u) (js : List Nat) (hC : js.map (fun j => Ps[j]?) = []) (hnd : js.Nodup) (hlen : js.length = 0) (hR : RMok rmX8_setsOfYes R 5) (hsize : ls.size = nL) (hrest : (rest.map fun v => v.category).sum ≤ 8) (hdg : decode cc pc = .ok (.invokestatic index, 3)) (hcs : cells ≤ R.cells ∧ slots ≤ R.slots)
    (kk : ∀ (H1 : Heap) (locs1 : List Loc), PW D A H0 (setAll Ps js []) H1 locs1 → W p l e R s m args below meth c H1 locs1 cells slots Q (F0 m (pc + 3) ls (.int u :: rest))) : W p l e R s m args below meth c H locs cells slots Q (F0 m pc ls (.int x3 :: .int x2 :: .int x1 :: rest)) :=
  w_callS (n := 3) (ov := (some (.int u))) (As := [.int x1, .int x2, .int x3]) (Cs := []) (Cs' := []) S hw (c_X8_setsOfYes l D cy  x1 x2 x3 u hf) (MF.of S.2.2.2.2 wd559 wd70 (by decide)) (S.2.2.2.2.wd wd558 rfl) hl hR js hC hnd hlen rfl hsize rfl hrest hdg hcs kk
end
abbrev rmX8_placeOfBit : Room := { frames := 1, cells := 0, slots := 0, locals := 21 }
def fl_X8_placeOfBit_4 (y0 : Int32) (y1 : Int32)  : Nat → Int32 → Int32 → Option ((Int32) ⊕ (Unit))
  | 0, _, _ => none
  | n + 1, y2, y3 => if 32 ≤ y3 then some (.inr (())) else (f_X8_holds y0 y3).bind (fun u_2 => if u_2 = 0 then fl_X8_placeOfBit_4 y0 y1 n y2 ((y3 + 1)) else if y2 = y1 then some (.inl y3) else fl_X8_placeOfBit_4 y0 y1 n ((y2 + 1)) ((y3 + 1)))
def f_X8_placeOfBit (x1 : Int32) (x2 : Int32) : Option (Int32) := (fl_X8_placeOfBit_4 x1 x2 2000 0 0).bind (fun u_5 => sm (fun a_6 => some a_6) (fun a_7 => some ((-6))) u_5)
section
variable {p : Program} {l : Launch} {e : Env} {s : State} {m : MethodId} {args : Array Value} {below : List Frame} {meth : Method} {c : Code} {Q : State → Prop} {D : va_G} {cy : Nat → ClassId} {A : Nat → Prop} {H0 : Heap}
set_option maxHeartbeats 4000000 in
set_option maxRecDepth 100000 in
theorem lp_X8_placeOfBit_4 (S : CX p m c cX8_placeOfBit 4 s args RX8 D cy)   {y0 : Int32} {y1 : Int32} : ∀ (n : Nat) (y2 : Int32) (y3 : Int32) (H : Heap) (locs : List Loc) (ls : Array Slot) (u : (Int32) ⊕ (Unit)), PW D A H0 [] H locs → lv_has ls 4 [(0, .int y0), (1, .int y1), (2, .int y2), (3, .int y3)] → fl_X8_placeOfBit_4 y0 y1 n y2 y3 = some u → (∀ a, u = .inl a → ∀ (H : Heap) (locs : List Loc) (ls : Array Slot), PW D A H0 [] H locs → lv_has ls 4 [(3, .int a)] → W p l e rmX8_placeOfBit s m args below meth c H locs 0 0 Q (F0 m 23 ls [])) → (∀ a, u = .inr a → ∀ (H : Heap) (locs : List Loc) (ls : Array Slot), PW D A H0 [] H locs → lv_has ls 4 [] → W p l e rmX8_placeOfBit s m args below meth c H locs 0 0 Q (F0 m 34 ls [])) → W p l e rmX8_placeOfBit s m args below meth c H locs 0 0 Q (F0 m 4 ls []) := by
  intro n
  induction n with
  | zero =>
    intro y2 y3 H locs ls u hw hl hf K0 K1
    rw [fl_X8_placeOfBit_4] at hf
    cases hf
  | succ n ih =>
    intro y2 y3 H locs ls u hw hl hf K0 K1
    rw [fl_X8_placeOfBit_4] at hf
    refine lv_iload_n S.1 S.2.1 dX8_placeOfBit_4 rfl (lv_at hl 3 rfl) ?_
    refine lv_bipush (v := 32) S.1 S.2.1 dX8_placeOfBit_5 (by decide) ?_
    refine lv_icmp_ge (tgt := 34) S.1 S.2.1 dX8_placeOfBit_7 (by decide) (fun c_1 => ?_) (fun c_1 => ?_)
    · replace hf := (if_pos c_1).symm.trans hf
      cases hf
      exact K1 _ rfl _ _ _ hw (lv_sub hl [] rfl)
    · replace hf := (if_neg c_1).symm.trans hf
      refine lv_iload_n S.1 S.2.1 dX8_placeOfBit_10 rfl (lv_at hl 0 rfl) ?_
      refine lv_iload_n S.1 S.2.1 dX8_placeOfBit_11 rfl (lv_at hl 3 rfl) ?_
      obtain ⟨u_2, e_u_2, hf⟩ := ob hf
      refine k_X8_holds S (S.2.2.2.2.wd wd451 rfl) hw e_u_2 [] rfl (by decide) rfl ⟨rfl, rfl, Nat.le_of_ble_eq_true rfl, Nat.le_of_ble_eq_true rfl⟩ hl.1 (Nat.le_of_ble_eq_true rfl) dX8_placeOfBit_12 ⟨Nat.zero_le _, Nat.zero_le _⟩ (fun H locs hw => ?_)
      have hw : PW D A H0 [] H locs := hw
      refine lv_if_eq (tgt := 28) S.1 S.2.1 dX8_placeOfBit_15 (by decide) (fun c_3 => ?_) (fun c_3 => ?_)
      · replace hf := (if_pos c_3).symm.trans hf
        refine lv_iinc (v := (y3 + 1)) (lv' := [(3, .int ((y3 + 1))), (0, .int y0), (1, .int y1), (2, .int y2)]) S.1 S.2.1 dX8_placeOfBit_28 hl (k := 3) rfl rfl (by decide) rfl (fun ls hl => ?_)
        refine lv_goto (tgt := 4) S.1 S.2.1 dX8_placeOfBit_31 (by decide) ?_
        exact ih _ _ _ _ _ _ hw (lv_sub hl [1, 2, 3, 0] rfl) hf K0 K1
      · replace hf := (if_neg c_3).symm.trans hf
        refine lv_iload_n S.1 S.2.1 dX8_placeOfBit_18 rfl (lv_at hl 2 rfl) ?_
        refine lv_iload_n S.1 S.2.1 dX8_placeOfBit_19 rfl (lv_at hl 1 rfl) ?_
        refine lv_icmp_ne (tgt := 25) S.1 S.2.1 dX8_placeOfBit_20 (by decide) (fun c_4 => ?_) (fun c_4 => ?_)
        · replace hf := (if_neg c_4).symm.trans hf
          refine lv_iinc (v := (y2 + 1)) (lv' := [(2, .int ((y2 + 1))), (0, .int y0), (1, .int y1), (3, .int y3)]) S.1 S.2.1 dX8_placeOfBit_25 hl (k := 2) rfl rfl (by decide) rfl (fun ls hl => ?_)
          refine lv_iinc (v := (y3 + 1)) (lv' := [(3, .int ((y3 + 1))), (2, .int ((y2 + 1))), (0, .int y0), (1, .int y1)]) S.1 S.2.1 dX8_placeOfBit_28 hl (k := 3) rfl rfl (by decide) rfl (fun ls hl => ?_)
          refine lv_goto (tgt := 4) S.1 S.2.1 dX8_placeOfBit_31 (by decide) ?_
          exact ih _ _ _ _ _ _ hw (lv_sub hl [2, 3, 1, 0] rfl) hf K0 K1
        · replace hf := (if_pos c_4).symm.trans hf
          cases hf
          exact K0 _ rfl _ _ _ hw (lv_sub hl [3] rfl)
end
set_option maxHeartbeats 4000000 in
set_option maxRecDepth 100000 in
theorem c_X8_placeOfBit (l : Launch) (D : va_G) (cy : Nat → ClassId)  (x1 : Int32) (x2 : Int32) (u : Int32) (hf : f_X8_placeOfBit x1 x2 = some u) : CT l yX8_placeOfBit cX8_placeOfBit 4 (some .int) rmX8_placeOfBit D cy [.int x1, .int x2] [] (some (.int u)) [] := by
  refine CT.of (by decide) (Nat.le_of_ble_eq_true rfl) (fun p e s m args below meth c ls A Q hA hQ S hr hlk hl hw => ?_)
  have hl : lv_has ls 4 [(0, .int x1), (1, .int x2)] := hl
  rw [f_X8_placeOfBit] at hf
  refine lv_iconst (v := 0) S.1 S.2.1 dX8_placeOfBit_0 (by decide) ?_
  refine lv_istore_n (lv' := [(2, .int 0), (0, .int x1), (1, .int x2)]) S.1 S.2.1 dX8_placeOfBit_1 rfl hl (by decide) rfl (fun ls hl => ?_)
  refine lv_iconst (v := 0) S.1 S.2.1 dX8_placeOfBit_2 (by decide) ?_
  refine lv_istore_n (lv' := [(3, .int 0), (2, .int 0), (0, .int x1), (1, .int x2)]) S.1 S.2.1 dX8_placeOfBit_3 rfl hl (by decide) rfl (fun ls hl => ?_)
  obtain ⟨u_5, e_u_5, hf⟩ := ob hf
  refine lp_X8_placeOfBit_4 S 2000 _ _ _ _ _ _ hw (lv_sub hl [2, 3, 1, 0] rfl) e_u_5 ?_ ?_
  · intro a_6 h_a_6 H locs ls hw hl
    subst h_a_6
    replace hf := (sm_l _ _ _).symm.trans hf
    refine lv_iload_n S.1 S.2.1 dX8_placeOfBit_23 rfl (lv_at hl 0 rfl) ?_
    cases hf
    exact w_iret S hr hlk hA hQ hw dX8_placeOfBit_24
  · intro a_7 h_a_7 H locs ls hw hl
    subst h_a_7
    replace hf := (sm_r _ _ _).symm.trans hf
    refine lv_bipush (v := (-6)) S.1 S.2.1 dX8_placeOfBit_34 (by decide) ?_
    cases hf
    exact w_iret S hr hlk hA hQ hw dX8_placeOfBit_36
section
variable {p : Program} {l : Launch} {e : Env} {R : Room} {s : State} {m : MethodId} {args : Array Value} {below : List Frame} {meth : Method} {c : Code} {H : Heap} {locs : List Loc} {cells slots : Nat} {Q : State → Prop} {cc : ByteArray} {pc nL : Nat} {ls : Array Slot} {rest : List Value} {D : va_G} {cy : Nat → ClassId} {A : Nat → Prop} {H0 : Heap} {own : String} {Ps : List va_W}
set_option maxRecDepth 100000 in
theorem k_X8_placeOfBit  {x1 : Int32} {x2 : Int32}  {u : Int32} {index : Nat} (S : CX p m c cc nL s args own D cy) (hl : (Cond.methodLink own index yX8_placeOfBit).before args s = true) (hw : PW D A H0 Ps H locs) (hf : f_X8_placeOfBit x1 x2 = some u) (js : List Nat) (hC : js.map (fun j => Ps[j]?) = []) (hnd : js.Nodup) (hlen : js.length = 0) (hR : RMok rmX8_placeOfBit R 4) (hsize : ls.size = nL) (hrest : (rest.map fun v => v.category).sum ≤ 8) (hdg : decode cc pc = .ok (.invokestatic index, 3)) (hcs : cells ≤ R.cells ∧ slots ≤ R.slots)
    (kk : ∀ (H1 : Heap) (locs1 : List Loc), PW D A H0 (setAll Ps js []) H1 locs1 → W p l e R s m args below meth c H1 locs1 cells slots Q (F0 m (pc + 3) ls (.int u :: rest))) : W p l e R s m args below meth c H locs cells slots Q (F0 m pc ls (.int x2 :: .int x1 :: rest)) :=
  w_callS (n := 2) (ov := (some (.int u))) (As := [.int x1, .int x2]) (Cs := []) (Cs' := []) S hw (c_X8_placeOfBit l D cy  x1 x2 u hf) (MF.of S.2.2.2.2 wd450 wd70 (by decide)) (S.2.2.2.2.wd wd449 rfl) hl hR js hC hnd hlen rfl hsize rfl hrest hdg hcs kk
end
section
variable {p : Program} {l : Launch} {e : Env} {R : Room} {s : State} {m : MethodId} {args : Array Value} {below : List Frame} {meth : Method} {c : Code} {H : Heap} {locs : List Loc} {cells slots : Nat} {Q : State → Prop} {cc : ByteArray} {pc nL : Nat} {ls : Array Slot} {rest : List Value} {D : va_G} {cy : Nat → ClassId} {A : Nat → Prop} {H0 : Heap} {own : String} {Ps : List va_W}
set_option maxRecDepth 100000 in
theorem kn_X8_placeOfBit  {x1 : Int32} {x2 : Int32}  {u : Int32} {index : Nat} (S : CX p m c cc nL s args own D cy) (hl : (Cond.methodLinkNest own index yX8_placeOfBit "SwornLane").before args s = true) (hw : PW D A H0 Ps H locs) (hf : f_X8_placeOfBit x1 x2 = some u) (js : List Nat) (hC : js.map (fun j => Ps[j]?) = []) (hnd : js.Nodup) (hlen : js.length = 0) (hR : RMok rmX8_placeOfBit R 4) (hsize : ls.size = nL) (hrest : (rest.map fun v => v.category).sum ≤ 8) (hdg : decode cc pc = .ok (.invokestatic index, 3)) (hcs : cells ≤ R.cells ∧ slots ≤ R.slots)
    (kk : ∀ (H1 : Heap) (locs1 : List Loc), PW D A H0 (setAll Ps js []) H1 locs1 → W p l e R s m args below meth c H1 locs1 cells slots Q (F0 m (pc + 3) ls (.int u :: rest))) : W p l e R s m args below meth c H locs cells slots Q (F0 m pc ls (.int x2 :: .int x1 :: rest)) :=
  w_callSN (n := 2) (ov := (some (.int u))) (As := [.int x1, .int x2]) (Cs := []) (Cs' := []) S hw (c_X8_placeOfBit l D cy  x1 x2 u hf) (MF.of S.2.2.2.2 wd450 wd70 (by decide)) (S.2.2.2.2.wd wd449 rfl) hl hR js hC hnd hlen rfl hsize rfl hrest hdg hcs kk
end
abbrev rmX8_mostLeft : Room := { frames := 3, cells := 0, slots := 0, locals := 67 }
def f_X8_mostLeft (x1 : Int32) (x2 : Int32) : Option (Int32) := (f_X8_setsOfYes ((x2 / 100)) (((x2 / 10) - (x2 / 10) / 10 * 10)) ((x2 - x2 / 10 * 10))).bind (fun u_1 => (f_J6_bitCount_0f7a4 ((x1 &&& u_1))).bind (fun u_2 => (f_J6_bitCount_0f7a4 ((x1 &&& (u_1 ^^^ (-1 : Int32))))).bind (fun u_3 => some ((if u_2 < u_3 then u_3 else u_2)))))
set_option maxHeartbeats 4000000 in
set_option maxRecDepth 100000 in
theorem c_X8_mostLeft (l : Launch) (D : va_G) (cy : Nat → ClassId)  (x1 : Int32) (x2 : Int32) (u : Int32) (hf : f_X8_mostLeft x1 x2 = some u) : CT l yX8_mostLeft cX8_mostLeft 3 (some .int) rmX8_mostLeft D cy [.int x1, .int x2] [] (some (.int u)) [] := by
  refine CT.of (by decide) (Nat.le_of_ble_eq_true rfl) (fun p e s m args below meth c ls A Q hA hQ S hr hlk hl hw => ?_)
  have hl : lv_has ls 3 [(0, .int x1), (1, .int x2)] := hl
  rw [f_X8_mostLeft] at hf
  refine lv_iload_n S.1 S.2.1 dX8_mostLeft_0 rfl (lv_at hl 1 rfl) ?_
  refine lv_bipush (v := 100) S.1 S.2.1 dX8_mostLeft_1 (by decide) ?_
  refine lv_idiv S.1 S.2.1 dX8_mostLeft_3 (by decide) ?_
  refine lv_iload_n S.1 S.2.1 dX8_mostLeft_4 rfl (lv_at hl 1 rfl) ?_
  refine lv_bipush (v := 10) S.1 S.2.1 dX8_mostLeft_5 (by decide) ?_
  refine lv_idiv S.1 S.2.1 dX8_mostLeft_7 (by decide) ?_
  refine lv_bipush (v := 10) S.1 S.2.1 dX8_mostLeft_8 (by decide) ?_
  refine lv_irem S.1 S.2.1 dX8_mostLeft_10 (by decide) ?_
  refine lv_iload_n S.1 S.2.1 dX8_mostLeft_11 rfl (lv_at hl 1 rfl) ?_
  refine lv_bipush (v := 10) S.1 S.2.1 dX8_mostLeft_12 (by decide) ?_
  refine lv_irem S.1 S.2.1 dX8_mostLeft_14 (by decide) ?_
  obtain ⟨u_1, e_u_1, hf⟩ := ob hf
  refine k_X8_setsOfYes S (S.2.2.2.2.wd wd557 rfl) hw e_u_1 [] rfl (by decide) rfl ⟨rfl, rfl, Nat.le_of_ble_eq_true rfl, Nat.le_of_ble_eq_true rfl⟩ hl.1 (Nat.le_of_ble_eq_true rfl) dX8_mostLeft_15 ⟨Nat.zero_le _, Nat.zero_le _⟩ (fun H locs hw => ?_)
  have hw : PW D A s.heap [] H locs := hw
  refine lv_istore_n (lv' := [(2, .int u_1), (0, .int x1), (1, .int x2)]) S.1 S.2.1 dX8_mostLeft_18 rfl hl (by decide) rfl (fun ls hl => ?_)
  refine lv_iload_n S.1 S.2.1 dX8_mostLeft_19 rfl (lv_at hl 1 rfl) ?_
  refine lv_iload_n S.1 S.2.1 dX8_mostLeft_20 rfl (lv_at hl 0 rfl) ?_
  refine lv_iand S.1 S.2.1 dX8_mostLeft_21 ?_
  obtain ⟨u_2, e_u_2, hf⟩ := ob hf
  refine k_J6_bitCount_0f7a4 S (S.2.2.2.2.wd wd549 rfl) hw e_u_2 [] rfl (by decide) rfl ⟨rfl, rfl, Nat.le_of_ble_eq_true rfl, Nat.le_of_ble_eq_true rfl⟩ hl.1 (Nat.le_of_ble_eq_true rfl) dX8_mostLeft_22 ⟨Nat.zero_le _, Nat.zero_le _⟩ (fun H locs hw => ?_)
  have hw : PW D A s.heap [] H locs := hw
  refine lv_iload_n S.1 S.2.1 dX8_mostLeft_25 rfl (lv_at hl 1 rfl) ?_
  refine lv_iload_n S.1 S.2.1 dX8_mostLeft_26 rfl (lv_at hl 0 rfl) ?_
  refine lv_iconst (v := (-1)) S.1 S.2.1 dX8_mostLeft_27 (by decide) ?_
  refine lv_ixor S.1 S.2.1 dX8_mostLeft_28 ?_
  refine lv_iand S.1 S.2.1 dX8_mostLeft_29 ?_
  obtain ⟨u_3, e_u_3, hf⟩ := ob hf
  refine k_J6_bitCount_0f7a4 S (S.2.2.2.2.wd wd549 rfl) hw e_u_3 [] rfl (by decide) rfl ⟨rfl, rfl, Nat.le_of_ble_eq_true rfl, Nat.le_of_ble_eq_true rfl⟩ hl.1 (Nat.le_of_ble_eq_true rfl) dX8_mostLeft_30 ⟨Nat.zero_le _, Nat.zero_le _⟩ (fun H locs hw => ?_)
  have hw : PW D A s.heap [] H locs := hw
  refine va_mmax S.1 S.2.1 (S.2.2.1.trans hl.1.symm) S.2.2.2.1 (S.2.2.2.2.wd wd590 rfl) (S.2.2.2.2.wd wd591 rfl) (S.2.2.2.2.wd wd82 rfl) (S.2.2.2.2.wd wd_mmax rfl) (Nat.le_of_ble_eq_true rfl) (Nat.le_of_ble_eq_true rfl) (Nat.zero_le _) (Nat.zero_le _) dX8_mostLeft_33 ?_
  cases hf
  exact w_iret S hr hlk hA hQ hw dX8_mostLeft_36
section
variable {p : Program} {l : Launch} {e : Env} {R : Room} {s : State} {m : MethodId} {args : Array Value} {below : List Frame} {meth : Method} {c : Code} {H : Heap} {locs : List Loc} {cells slots : Nat} {Q : State → Prop} {cc : ByteArray} {pc nL : Nat} {ls : Array Slot} {rest : List Value} {D : va_G} {cy : Nat → ClassId} {A : Nat → Prop} {H0 : Heap} {own : String} {Ps : List va_W}
set_option maxRecDepth 100000 in
theorem k_X8_mostLeft  {x1 : Int32} {x2 : Int32}  {u : Int32} {index : Nat} (S : CX p m c cc nL s args own D cy) (hl : (Cond.methodLink own index yX8_mostLeft).before args s = true) (hw : PW D A H0 Ps H locs) (hf : f_X8_mostLeft x1 x2 = some u) (js : List Nat) (hC : js.map (fun j => Ps[j]?) = []) (hnd : js.Nodup) (hlen : js.length = 0) (hR : RMok rmX8_mostLeft R 3) (hsize : ls.size = nL) (hrest : (rest.map fun v => v.category).sum ≤ 8) (hdg : decode cc pc = .ok (.invokestatic index, 3)) (hcs : cells ≤ R.cells ∧ slots ≤ R.slots)
    (kk : ∀ (H1 : Heap) (locs1 : List Loc), PW D A H0 (setAll Ps js []) H1 locs1 → W p l e R s m args below meth c H1 locs1 cells slots Q (F0 m (pc + 3) ls (.int u :: rest))) : W p l e R s m args below meth c H locs cells slots Q (F0 m pc ls (.int x2 :: .int x1 :: rest)) :=
  w_callS (n := 2) (ov := (some (.int u))) (As := [.int x1, .int x2]) (Cs := []) (Cs' := []) S hw (c_X8_mostLeft l D cy  x1 x2 u hf) (MF.of S.2.2.2.2 wd589 wd70 (by decide)) (S.2.2.2.2.wd wd588 rfl) hl hR js hC hnd hlen rfl hsize rfl hrest hdg hcs kk
end
abbrev rmX8_bestQuestion : Room := { frames := 4, cells := 0, slots := 0, locals := 89 }
def fl_X8_bestQuestion_10 (y0 : Int32)  : Nat → Int32 → Int32 → Int32 → Option (Int32)
  | 0, _, _, _ => none
  | n + 1, y1, y2, y3 => if 500 ≤ y3 then some y1 else (f_X8_isQuestion ((y3 / 100)) (((y3 / 10) - (y3 / 10) / 10 * 10)) ((y3 - y3 / 10 * 10))).bind (fun u_3 => if u_3 = 0 then fl_X8_bestQuestion_10 y0 n y1 y2 ((y3 + 1)) else (f_X8_mostLeft y0 y3).bind (fun u_5 => if y2 ≤ u_5 then fl_X8_bestQuestion_10 y0 n y1 y2 ((y3 + 1)) else fl_X8_bestQuestion_10 y0 n y3 u_5 ((y3 + 1))))
def f_X8_bestQuestion (x1 : Int32) : Option (Int32) := (f_X8_mostLeft x1 0).bind (fun u_1 => (fl_X8_bestQuestion_10 x1 2000 0 u_1 1).bind (fun u_7 => some u_7))
section
variable {p : Program} {l : Launch} {e : Env} {s : State} {m : MethodId} {args : Array Value} {below : List Frame} {meth : Method} {c : Code} {Q : State → Prop} {D : va_G} {cy : Nat → ClassId} {A : Nat → Prop} {H0 : Heap}
set_option maxHeartbeats 4000000 in
set_option maxRecDepth 100000 in
theorem lp_X8_bestQuestion_10 (S : CX p m c cX8_bestQuestion 5 s args RX8 D cy)   {y0 : Int32} : ∀ (n : Nat) (y1 : Int32) (y2 : Int32) (y3 : Int32) (H : Heap) (locs : List Loc) (ls : Array Slot) (u : Int32), PW D A H0 [] H locs → lv_has ls 5 [(0, .int y0), (1, .int y1), (2, .int y2), (3, .int y3)] → fl_X8_bestQuestion_10 y0 n y1 y2 y3 = some u → (∀ (H : Heap) (locs : List Loc) (ls : Array Slot), PW D A H0 [] H locs → lv_has ls 5 [(1, .int u)] → W p l e rmX8_bestQuestion s m args below meth c H locs 0 0 Q (F0 m 62 ls [])) → W p l e rmX8_bestQuestion s m args below meth c H locs 0 0 Q (F0 m 10 ls []) := by
  intro n
  induction n with
  | zero =>
    intro y1 y2 y3 H locs ls u hw hl hf K0
    rw [fl_X8_bestQuestion_10] at hf
    cases hf
  | succ n ih =>
    intro y1 y2 y3 H locs ls u hw hl hf K0
    rw [fl_X8_bestQuestion_10] at hf
    refine lv_iload_n S.1 S.2.1 dX8_bestQuestion_10 rfl (lv_at hl 3 rfl) ?_
    refine lv_sipush (v := 500) S.1 S.2.1 dX8_bestQuestion_11 (by decide) ?_
    refine lv_icmp_ge (tgt := 62) S.1 S.2.1 dX8_bestQuestion_14 (by decide) (fun c_2 => ?_) (fun c_2 => ?_)
    · replace hf := (if_pos c_2).symm.trans hf
      cases hf
      exact K0 _ _ _ hw (lv_sub hl [1] rfl)
    · replace hf := (if_neg c_2).symm.trans hf
      refine lv_iload_n S.1 S.2.1 dX8_bestQuestion_17 rfl (lv_at hl 3 rfl) ?_
      refine lv_bipush (v := 100) S.1 S.2.1 dX8_bestQuestion_18 (by decide) ?_
      refine lv_idiv S.1 S.2.1 dX8_bestQuestion_20 (by decide) ?_
      refine lv_iload_n S.1 S.2.1 dX8_bestQuestion_21 rfl (lv_at hl 3 rfl) ?_
      refine lv_bipush (v := 10) S.1 S.2.1 dX8_bestQuestion_22 (by decide) ?_
      refine lv_idiv S.1 S.2.1 dX8_bestQuestion_24 (by decide) ?_
      refine lv_bipush (v := 10) S.1 S.2.1 dX8_bestQuestion_25 (by decide) ?_
      refine lv_irem S.1 S.2.1 dX8_bestQuestion_27 (by decide) ?_
      refine lv_iload_n S.1 S.2.1 dX8_bestQuestion_28 rfl (lv_at hl 3 rfl) ?_
      refine lv_bipush (v := 10) S.1 S.2.1 dX8_bestQuestion_29 (by decide) ?_
      refine lv_irem S.1 S.2.1 dX8_bestQuestion_31 (by decide) ?_
      obtain ⟨u_3, e_u_3, hf⟩ := ob hf
      refine k_X8_isQuestion S (S.2.2.2.2.wd wd554 rfl) hw e_u_3 [] rfl (by decide) rfl ⟨rfl, rfl, Nat.le_of_ble_eq_true rfl, Nat.le_of_ble_eq_true rfl⟩ hl.1 (Nat.le_of_ble_eq_true rfl) dX8_bestQuestion_32 ⟨Nat.zero_le _, Nat.zero_le _⟩ (fun H locs hw => ?_)
      have hw : PW D A H0 [] H locs := hw
      refine lv_if_eq (tgt := 56) S.1 S.2.1 dX8_bestQuestion_35 (by decide) (fun c_4 => ?_) (fun c_4 => ?_)
      · replace hf := (if_pos c_4).symm.trans hf
        refine lv_iinc (v := (y3 + 1)) (lv' := [(3, .int ((y3 + 1))), (0, .int y0), (1, .int y1), (2, .int y2)]) S.1 S.2.1 dX8_bestQuestion_56 hl (k := 3) rfl rfl (by decide) rfl (fun ls hl => ?_)
        refine lv_goto (tgt := 10) S.1 S.2.1 dX8_bestQuestion_59 (by decide) ?_
        exact ih _ _ _ _ _ _ _ hw (lv_sub hl [1, 2, 3, 0] rfl) hf K0
      · replace hf := (if_neg c_4).symm.trans hf
        refine lv_iload_n S.1 S.2.1 dX8_bestQuestion_38 rfl (lv_at hl 0 rfl) ?_
        refine lv_iload_n S.1 S.2.1 dX8_bestQuestion_39 rfl (lv_at hl 3 rfl) ?_
        obtain ⟨u_5, e_u_5, hf⟩ := ob hf
        refine k_X8_mostLeft S (S.2.2.2.2.wd wd587 rfl) hw e_u_5 [] rfl (by decide) rfl ⟨rfl, rfl, Nat.le_of_ble_eq_true rfl, Nat.le_of_ble_eq_true rfl⟩ hl.1 (Nat.le_of_ble_eq_true rfl) dX8_bestQuestion_40 ⟨Nat.zero_le _, Nat.zero_le _⟩ (fun H locs hw => ?_)
        have hw : PW D A H0 [] H locs := hw
        refine lv_istore (lv' := [(4, .int u_5), (0, .int y0), (1, .int y1), (2, .int y2), (3, .int y3)]) S.1 S.2.1 dX8_bestQuestion_43 hl (by decide) rfl (fun ls hl => ?_)
        refine lv_iload S.1 S.2.1 dX8_bestQuestion_45 (lv_at hl 0 rfl) ?_
        refine lv_iload_n S.1 S.2.1 dX8_bestQuestion_47 rfl (lv_at hl 3 rfl) ?_
        refine lv_icmp_ge (tgt := 56) S.1 S.2.1 dX8_bestQuestion_48 (by decide) (fun c_6 => ?_) (fun c_6 => ?_)
        · replace hf := (if_pos c_6).symm.trans hf
          refine lv_iinc (v := (y3 + 1)) (lv' := [(3, .int ((y3 + 1))), (4, .int u_5), (0, .int y0), (1, .int y1), (2, .int y2)]) S.1 S.2.1 dX8_bestQuestion_56 hl (k := 4) rfl rfl (by decide) rfl (fun ls hl => ?_)
          refine lv_goto (tgt := 10) S.1 S.2.1 dX8_bestQuestion_59 (by decide) ?_
          exact ih _ _ _ _ _ _ _ hw (lv_sub hl [2, 3, 4, 0] rfl) hf K0
        · replace hf := (if_neg c_6).symm.trans hf
          refine lv_iload S.1 S.2.1 dX8_bestQuestion_51 (lv_at hl 0 rfl) ?_
          refine lv_istore_n (lv' := [(2, .int u_5), (4, .int u_5), (0, .int y0), (1, .int y1), (3, .int y3)]) S.1 S.2.1 dX8_bestQuestion_53 rfl hl (by decide) rfl (fun ls hl => ?_)
          refine lv_iload_n S.1 S.2.1 dX8_bestQuestion_54 rfl (lv_at hl 4 rfl) ?_
          refine lv_istore_n (lv' := [(1, .int y3), (2, .int u_5), (4, .int u_5), (0, .int y0), (3, .int y3)]) S.1 S.2.1 dX8_bestQuestion_55 rfl hl (by decide) rfl (fun ls hl => ?_)
          refine lv_iinc (v := (y3 + 1)) (lv' := [(3, .int ((y3 + 1))), (1, .int y3), (2, .int u_5), (4, .int u_5), (0, .int y0)]) S.1 S.2.1 dX8_bestQuestion_56 hl (k := 4) rfl rfl (by decide) rfl (fun ls hl => ?_)
          refine lv_goto (tgt := 10) S.1 S.2.1 dX8_bestQuestion_59 (by decide) ?_
          exact ih _ _ _ _ _ _ _ hw (lv_sub hl [4, 1, 2, 0] rfl) hf K0
end
set_option maxHeartbeats 4000000 in
set_option maxRecDepth 100000 in
theorem c_X8_bestQuestion (l : Launch) (D : va_G) (cy : Nat → ClassId)  (x1 : Int32) (u : Int32) (hf : f_X8_bestQuestion x1 = some u) : CT l yX8_bestQuestion cX8_bestQuestion 5 (some .int) rmX8_bestQuestion D cy [.int x1] [] (some (.int u)) [] := by
  refine CT.of (by decide) (Nat.le_of_ble_eq_true rfl) (fun p e s m args below meth c ls A Q hA hQ S hr hlk hl hw => ?_)
  have hl : lv_has ls 5 [(0, .int x1)] := hl
  rw [f_X8_bestQuestion] at hf
  refine lv_iconst (v := 0) S.1 S.2.1 dX8_bestQuestion_0 (by decide) ?_
  refine lv_istore_n (lv' := [(1, .int 0), (0, .int x1)]) S.1 S.2.1 dX8_bestQuestion_1 rfl hl (by decide) rfl (fun ls hl => ?_)
  refine lv_iload_n S.1 S.2.1 dX8_bestQuestion_2 rfl (lv_at hl 1 rfl) ?_
  refine lv_iload_n S.1 S.2.1 dX8_bestQuestion_3 rfl (lv_at hl 0 rfl) ?_
  obtain ⟨u_1, e_u_1, hf⟩ := ob hf
  refine k_X8_mostLeft S (S.2.2.2.2.wd wd587 rfl) hw e_u_1 [] rfl (by decide) rfl ⟨rfl, rfl, Nat.le_of_ble_eq_true rfl, Nat.le_of_ble_eq_true rfl⟩ hl.1 (Nat.le_of_ble_eq_true rfl) dX8_bestQuestion_4 ⟨Nat.zero_le _, Nat.zero_le _⟩ (fun H locs hw => ?_)
  have hw : PW D A s.heap [] H locs := hw
  refine lv_istore_n (lv' := [(2, .int u_1), (1, .int 0), (0, .int x1)]) S.1 S.2.1 dX8_bestQuestion_7 rfl hl (by decide) rfl (fun ls hl => ?_)
  refine lv_iconst (v := 1) S.1 S.2.1 dX8_bestQuestion_8 (by decide) ?_
  refine lv_istore_n (lv' := [(3, .int 1), (2, .int u_1), (1, .int 0), (0, .int x1)]) S.1 S.2.1 dX8_bestQuestion_9 rfl hl (by decide) rfl (fun ls hl => ?_)
  obtain ⟨u_7, e_u_7, hf⟩ := ob hf
  refine lp_X8_bestQuestion_10 S 2000 _ _ _ _ _ _ _ hw (lv_sub hl [3, 2, 1, 0] rfl) e_u_7 ?_
  · intro H locs ls hw hl
    refine lv_iload_n S.1 S.2.1 dX8_bestQuestion_62 rfl (lv_at hl 0 rfl) ?_
    cases hf
    exact w_iret S hr hlk hA hQ hw dX8_bestQuestion_63
section
variable {p : Program} {l : Launch} {e : Env} {R : Room} {s : State} {m : MethodId} {args : Array Value} {below : List Frame} {meth : Method} {c : Code} {H : Heap} {locs : List Loc} {cells slots : Nat} {Q : State → Prop} {cc : ByteArray} {pc nL : Nat} {ls : Array Slot} {rest : List Value} {D : va_G} {cy : Nat → ClassId} {A : Nat → Prop} {H0 : Heap} {own : String} {Ps : List va_W}
set_option maxRecDepth 100000 in
theorem k_X8_bestQuestion  {x1 : Int32}  {u : Int32} {index : Nat} (S : CX p m c cc nL s args own D cy) (hl : (Cond.methodLink own index yX8_bestQuestion).before args s = true) (hw : PW D A H0 Ps H locs) (hf : f_X8_bestQuestion x1 = some u) (js : List Nat) (hC : js.map (fun j => Ps[j]?) = []) (hnd : js.Nodup) (hlen : js.length = 0) (hR : RMok rmX8_bestQuestion R 5) (hsize : ls.size = nL) (hrest : (rest.map fun v => v.category).sum ≤ 8) (hdg : decode cc pc = .ok (.invokestatic index, 3)) (hcs : cells ≤ R.cells ∧ slots ≤ R.slots)
    (kk : ∀ (H1 : Heap) (locs1 : List Loc), PW D A H0 (setAll Ps js []) H1 locs1 → W p l e R s m args below meth c H1 locs1 cells slots Q (F0 m (pc + 3) ls (.int u :: rest))) : W p l e R s m args below meth c H locs cells slots Q (F0 m pc ls (.int x1 :: rest)) :=
  w_callS (n := 1) (ov := (some (.int u))) (As := [.int x1]) (Cs := []) (Cs' := []) S hw (c_X8_bestQuestion l D cy  x1 u hf) (MF.of S.2.2.2.2 wd586 wd70 (by decide)) (S.2.2.2.2.wd wd585 rfl) hl hR js hC hnd hlen rfl hsize rfl hrest hdg hcs kk
end
abbrev rmX8_pairs : Room := { frames := 0, cells := 0, slots := 0, locals := 0 }
def f_X8_pairs (x1 : Int32) : Option (Int32) := some (((x1 * (x1 - (1 : Int32))) / 2))
set_option maxHeartbeats 4000000 in
set_option maxRecDepth 100000 in
theorem c_X8_pairs (l : Launch) (D : va_G) (cy : Nat → ClassId)  (x1 : Int32) (u : Int32) (hf : f_X8_pairs x1 = some u) : CT l yX8_pairs cX8_pairs 1 (some .int) rmX8_pairs D cy [.int x1] [] (some (.int u)) [] := by
  refine CT.of (by decide) (Nat.le_of_ble_eq_true rfl) (fun p e s m args below meth c ls A Q hA hQ S hr hlk hl hw => ?_)
  have hl : lv_has ls 1 [(0, .int x1)] := hl
  rw [f_X8_pairs] at hf
  refine lv_iload_n S.1 S.2.1 dX8_pairs_0 rfl (lv_at hl 0 rfl) ?_
  refine lv_iload_n S.1 S.2.1 dX8_pairs_1 rfl (lv_at hl 0 rfl) ?_
  refine lv_iconst (v := 1) S.1 S.2.1 dX8_pairs_2 (by decide) ?_
  refine lv_isub S.1 S.2.1 dX8_pairs_3 ?_
  refine lv_imul S.1 S.2.1 dX8_pairs_4 ?_
  refine lv_iconst (v := 2) S.1 S.2.1 dX8_pairs_5 (by decide) ?_
  refine lv_idiv S.1 S.2.1 dX8_pairs_6 (by decide) ?_
  cases hf
  exact w_iret S hr hlk hA hQ hw dX8_pairs_7
section
variable {p : Program} {l : Launch} {e : Env} {R : Room} {s : State} {m : MethodId} {args : Array Value} {below : List Frame} {meth : Method} {c : Code} {H : Heap} {locs : List Loc} {cells slots : Nat} {Q : State → Prop} {cc : ByteArray} {pc nL : Nat} {ls : Array Slot} {rest : List Value} {D : va_G} {cy : Nat → ClassId} {A : Nat → Prop} {H0 : Heap} {own : String} {Ps : List va_W}
set_option maxRecDepth 100000 in
theorem k_X8_pairs  {x1 : Int32}  {u : Int32} {index : Nat} (S : CX p m c cc nL s args own D cy) (hl : (Cond.methodLink own index yX8_pairs).before args s = true) (hw : PW D A H0 Ps H locs) (hf : f_X8_pairs x1 = some u) (js : List Nat) (hC : js.map (fun j => Ps[j]?) = []) (hnd : js.Nodup) (hlen : js.length = 0) (hR : RMok rmX8_pairs R 1) (hsize : ls.size = nL) (hrest : (rest.map fun v => v.category).sum ≤ 8) (hdg : decode cc pc = .ok (.invokestatic index, 3)) (hcs : cells ≤ R.cells ∧ slots ≤ R.slots)
    (kk : ∀ (H1 : Heap) (locs1 : List Loc), PW D A H0 (setAll Ps js []) H1 locs1 → W p l e R s m args below meth c H1 locs1 cells slots Q (F0 m (pc + 3) ls (.int u :: rest))) : W p l e R s m args below meth c H locs cells slots Q (F0 m pc ls (.int x1 :: rest)) :=
  w_callS (n := 1) (ov := (some (.int u))) (As := [.int x1]) (Cs := []) (Cs' := []) S hw (c_X8_pairs l D cy  x1 u hf) (MF.of S.2.2.2.2 wd622 wd70 (by decide)) (S.2.2.2.2.wd wd621 rfl) hl hR js hC hnd hlen rfl hsize rfl hrest hdg hcs kk
end
section
variable {p : Program} {l : Launch} {e : Env} {R : Room} {s : State} {m : MethodId} {args : Array Value} {below : List Frame} {meth : Method} {c : Code} {H : Heap} {locs : List Loc} {cells slots : Nat} {Q : State → Prop} {cc : ByteArray} {pc nL : Nat} {ls : Array Slot} {rest : List Value} {D : va_G} {cy : Nat → ClassId} {A : Nat → Prop} {H0 : Heap} {own : String} {Ps : List va_W}
set_option maxRecDepth 100000 in
theorem kn_X8_pairs  {x1 : Int32}  {u : Int32} {index : Nat} (S : CX p m c cc nL s args own D cy) (hl : (Cond.methodLinkNest own index yX8_pairs "SwornLane").before args s = true) (hw : PW D A H0 Ps H locs) (hf : f_X8_pairs x1 = some u) (js : List Nat) (hC : js.map (fun j => Ps[j]?) = []) (hnd : js.Nodup) (hlen : js.length = 0) (hR : RMok rmX8_pairs R 1) (hsize : ls.size = nL) (hrest : (rest.map fun v => v.category).sum ≤ 8) (hdg : decode cc pc = .ok (.invokestatic index, 3)) (hcs : cells ≤ R.cells ∧ slots ≤ R.slots)
    (kk : ∀ (H1 : Heap) (locs1 : List Loc), PW D A H0 (setAll Ps js []) H1 locs1 → W p l e R s m args below meth c H1 locs1 cells slots Q (F0 m (pc + 3) ls (.int u :: rest))) : W p l e R s m args below meth c H locs cells slots Q (F0 m pc ls (.int x1 :: rest)) :=
  w_callSN (n := 1) (ov := (some (.int u))) (As := [.int x1]) (Cs := []) (Cs' := []) S hw (c_X8_pairs l D cy  x1 u hf) (MF.of S.2.2.2.2 wd622 wd70 (by decide)) (S.2.2.2.2.wd wd621 rfl) hl hR js hC hnd hlen rfl hsize rfl hrest hdg hcs kk
end
abbrev rmX8_commonDivisor : Room := { frames := 0, cells := 0, slots := 0, locals := 0 }
def fl_X8_commonDivisor_9   : Nat → Int64 → Int64 → Int32 → Option (Int64)
  | 0, _, _, _ => none
  | n + 1, y4, y6, y8 => if 100 ≤ y8 then some y4 else if (lg_cmp y6 0) = 0 then some y4 else (nzL y6).bind (fun z_3 => fl_X8_commonDivisor_9 n y6 ((y4 - y4 / y6 * y6)) ((y8 + 1)))
def f_X8_commonDivisor (x1 : Int64) (x2 : Int64) : Option (Int64) := (fl_X8_commonDivisor_9 2000 x1 x2 0).bind (fun u_4 => some u_4)
section
variable {p : Program} {l : Launch} {e : Env} {s : State} {m : MethodId} {args : Array Value} {below : List Frame} {meth : Method} {c : Code} {Q : State → Prop} {D : va_G} {cy : Nat → ClassId} {A : Nat → Prop} {H0 : Heap}
set_option maxHeartbeats 4000000 in
set_option maxRecDepth 100000 in
theorem lp_X8_commonDivisor_9 (S : CX p m c cX8_commonDivisor 11 s args RX8 D cy)    : ∀ (n : Nat) (y4 : Int64) (y6 : Int64) (y8 : Int32) (H : Heap) (locs : List Loc) (ls : Array Slot) (u : Int64), PW D A H0 [] H locs → lv_has ls 11 [(4, .long y4), (6, .long y6), (8, .int y8)] → fl_X8_commonDivisor_9 n y4 y6 y8 = some u → (∀ (H : Heap) (locs : List Loc) (ls : Array Slot), PW D A H0 [] H locs → lv_has ls 11 [(4, .long u)] → W p l e rmX8_commonDivisor s m args below meth c H locs 0 0 Q (F0 m 44 ls [])) → W p l e rmX8_commonDivisor s m args below meth c H locs 0 0 Q (F0 m 9 ls []) := by
  intro n
  induction n with
  | zero =>
    intro y4 y6 y8 H locs ls u hw hl hf K0
    rw [fl_X8_commonDivisor_9] at hf
    cases hf
  | succ n ih =>
    intro y4 y6 y8 H locs ls u hw hl hf K0
    rw [fl_X8_commonDivisor_9] at hf
    refine lv_iload S.1 S.2.1 dX8_commonDivisor_9 (lv_at hl 2 rfl) ?_
    refine lv_bipush (v := 100) S.1 S.2.1 dX8_commonDivisor_11 (by decide) ?_
    refine lv_icmp_ge (tgt := 44) S.1 S.2.1 dX8_commonDivisor_13 (by decide) (fun c_1 => ?_) (fun c_1 => ?_)
    · replace hf := (if_pos c_1).symm.trans hf
      cases hf
      exact K0 _ _ _ hw (lv_sub hl [0] rfl)
    · replace hf := (if_neg c_1).symm.trans hf
      refine lv_lload S.1 S.2.1 dX8_commonDivisor_16 (lv_at hl 1 rfl) ?_
      refine lv_lconst (v := 0) S.1 S.2.1 dX8_commonDivisor_18 (by decide) ?_
      refine W.lcmp S.1 S.2.1 dX8_commonDivisor_19 ?_
      refine lv_if_eq (tgt := 44) S.1 S.2.1 dX8_commonDivisor_20 (by decide) (fun c_2 => ?_) (fun c_2 => ?_)
      · replace hf := (if_pos c_2).symm.trans hf
        cases hf
        exact K0 _ _ _ hw (lv_sub hl [0] rfl)
      · replace hf := (if_neg c_2).symm.trans hf
        refine lv_lload S.1 S.2.1 dX8_commonDivisor_23 (lv_at hl 0 rfl) ?_
        refine lv_lload S.1 S.2.1 dX8_commonDivisor_25 (lv_at hl 1 rfl) ?_
        obtain ⟨z_3, e_z_3, hf⟩ := ob hf
        refine lv_lrem S.1 S.2.1 dX8_commonDivisor_27 (nzL_inv e_z_3) ?_
        refine lv_lstore (lv' := [(9, .long ((y4 - y4 / y6 * y6))), (4, .long y4), (6, .long y6), (8, .int y8)]) S.1 S.2.1 dX8_commonDivisor_28 hl (by decide) rfl (fun ls hl => ?_)
        refine lv_lload S.1 S.2.1 dX8_commonDivisor_30 (lv_at hl 2 rfl) ?_
        refine lv_lstore (lv' := [(4, .long y6), (9, .long ((y4 - y4 / y6 * y6))), (6, .long y6), (8, .int y8)]) S.1 S.2.1 dX8_commonDivisor_32 hl (by decide) rfl (fun ls hl => ?_)
        refine lv_lload S.1 S.2.1 dX8_commonDivisor_34 (lv_at hl 1 rfl) ?_
        refine lv_lstore (lv' := [(6, .long ((y4 - y4 / y6 * y6))), (4, .long y6), (9, .long ((y4 - y4 / y6 * y6))), (8, .int y8)]) S.1 S.2.1 dX8_commonDivisor_36 hl (by decide) rfl (fun ls hl => ?_)
        refine lv_iinc (v := (y8 + 1)) (lv' := [(8, .int ((y8 + 1))), (6, .long ((y4 - y4 / y6 * y6))), (4, .long y6), (9, .long ((y4 - y4 / y6 * y6)))]) S.1 S.2.1 dX8_commonDivisor_38 hl (k := 3) rfl rfl (by decide) rfl (fun ls hl => ?_)
        refine lv_goto (tgt := 9) S.1 S.2.1 dX8_commonDivisor_41 (by decide) ?_
        exact ih _ _ _ _ _ _ _ hw (lv_sub hl [2, 1, 0] rfl) hf K0
end
set_option maxHeartbeats 4000000 in
set_option maxRecDepth 100000 in
theorem c_X8_commonDivisor (l : Launch) (D : va_G) (cy : Nat → ClassId)  (x1 : Int64) (x2 : Int64) (u : Int64) (hf : f_X8_commonDivisor x1 x2 = some u) : CT l yX8_commonDivisor cX8_commonDivisor 11 (some .long) rmX8_commonDivisor D cy [.long x1, .long x2] [] (some (.long u)) [] := by
  refine CT.of (by decide) (Nat.le_of_ble_eq_true rfl) (fun p e s m args below meth c ls A Q hA hQ S hr hlk hl hw => ?_)
  have hl : lv_has ls 11 [(0, .long x1), (2, .long x2)] := hl
  rw [f_X8_commonDivisor] at hf
  refine lv_lload_n S.1 S.2.1 dX8_commonDivisor_0 rfl (lv_at hl 0 rfl) ?_
  refine lv_lstore (lv' := [(4, .long x1), (0, .long x1), (2, .long x2)]) S.1 S.2.1 dX8_commonDivisor_1 hl (by decide) rfl (fun ls hl => ?_)
  refine lv_lload_n S.1 S.2.1 dX8_commonDivisor_3 rfl (lv_at hl 2 rfl) ?_
  refine lv_lstore (lv' := [(6, .long x2), (4, .long x1), (0, .long x1), (2, .long x2)]) S.1 S.2.1 dX8_commonDivisor_4 hl (by decide) rfl (fun ls hl => ?_)
  refine lv_iconst (v := 0) S.1 S.2.1 dX8_commonDivisor_6 (by decide) ?_
  refine lv_istore (lv' := [(8, .int 0), (6, .long x2), (4, .long x1), (0, .long x1), (2, .long x2)]) S.1 S.2.1 dX8_commonDivisor_7 hl (by decide) rfl (fun ls hl => ?_)
  obtain ⟨u_4, e_u_4, hf⟩ := ob hf
  refine lp_X8_commonDivisor_9 S 2000 _ _ _ _ _ _ _ hw (lv_sub hl [2, 1, 0] rfl) e_u_4 ?_
  · intro H locs ls hw hl
    refine lv_lload S.1 S.2.1 dX8_commonDivisor_44 (lv_at hl 0 rfl) ?_
    cases hf
    exact w_lret S hr hlk hA hQ hw dX8_commonDivisor_46
section
variable {p : Program} {l : Launch} {e : Env} {R : Room} {s : State} {m : MethodId} {args : Array Value} {below : List Frame} {meth : Method} {c : Code} {H : Heap} {locs : List Loc} {cells slots : Nat} {Q : State → Prop} {cc : ByteArray} {pc nL : Nat} {ls : Array Slot} {rest : List Value} {D : va_G} {cy : Nat → ClassId} {A : Nat → Prop} {H0 : Heap} {own : String} {Ps : List va_W}
set_option maxRecDepth 100000 in
theorem k_X8_commonDivisor  {x1 : Int64} {x2 : Int64}  {u : Int64} {index : Nat} (S : CX p m c cc nL s args own D cy) (hl : (Cond.methodLink own index yX8_commonDivisor).before args s = true) (hw : PW D A H0 Ps H locs) (hf : f_X8_commonDivisor x1 x2 = some u) (js : List Nat) (hC : js.map (fun j => Ps[j]?) = []) (hnd : js.Nodup) (hlen : js.length = 0) (hR : RMok rmX8_commonDivisor R 11) (hsize : ls.size = nL) (hrest : (rest.map fun v => v.category).sum ≤ 8) (hdg : decode cc pc = .ok (.invokestatic index, 3)) (hcs : cells ≤ R.cells ∧ slots ≤ R.slots)
    (kk : ∀ (H1 : Heap) (locs1 : List Loc), PW D A H0 (setAll Ps js []) H1 locs1 → W p l e R s m args below meth c H1 locs1 cells slots Q (F0 m (pc + 3) ls (.long u :: rest))) : W p l e R s m args below meth c H locs cells slots Q (F0 m pc ls (.long x2 :: .long x1 :: rest)) :=
  w_callS (n := 2) (ov := (some (.long u))) (As := [.long x1, .long x2]) (Cs := []) (Cs' := []) S hw (c_X8_commonDivisor l D cy  x1 x2 u hf) (MF.of S.2.2.2.2 wd638 wd70 (by decide)) (S.2.2.2.2.wd wd637 rfl) hl hR js hC hnd hlen rfl hsize rfl hrest hdg hcs kk
end
abbrev rmX8_partOf : Room := { frames := 1, cells := 0, slots := 0, locals := 30 }
def f_X8_partOf (x1 : Int64) (x2 : Int64) (x3 : Int32) : Option (Int64) := (f_X8_commonDivisor x1 x2).bind (fun u_1 => if (lg_cmp u_1 0) = 0 then some ((-1000000000000000002)) else (if x3 = 0 then (nzL u_1).bind (fun z_6 => some ((x1 / u_1))) else (nzL u_1).bind (fun z_5 => some ((x2 / u_1))) : Option Int64).bind (fun v_3 => some v_3))
set_option maxHeartbeats 4000000 in
set_option maxRecDepth 100000 in
theorem c_X8_partOf (l : Launch) (D : va_G) (cy : Nat → ClassId)  (x1 : Int64) (x2 : Int64) (x3 : Int32) (u : Int64) (hf : f_X8_partOf x1 x2 x3 = some u) : CT l yX8_partOf cX8_partOf 7 (some .long) rmX8_partOf D cy [.long x1, .long x2, .int x3] [] (some (.long u)) [] := by
  refine CT.of (by decide) (Nat.le_of_ble_eq_true rfl) (fun p e s m args below meth c ls A Q hA hQ S hr hlk hl hw => ?_)
  have hl : lv_has ls 7 [(0, .long x1), (2, .long x2), (4, .int x3)] := hl
  rw [f_X8_partOf] at hf
  refine lv_lload_n S.1 S.2.1 dX8_partOf_0 rfl (lv_at hl 0 rfl) ?_
  refine lv_lload_n S.1 S.2.1 dX8_partOf_1 rfl (lv_at hl 1 rfl) ?_
  obtain ⟨u_1, e_u_1, hf⟩ := ob hf
  refine k_X8_commonDivisor S (S.2.2.2.2.wd wd636 rfl) hw e_u_1 [] rfl (by decide) rfl ⟨rfl, rfl, Nat.le_of_ble_eq_true rfl, Nat.le_of_ble_eq_true rfl⟩ hl.1 (Nat.le_of_ble_eq_true rfl) dX8_partOf_2 ⟨Nat.zero_le _, Nat.zero_le _⟩ (fun H locs hw => ?_)
  have hw : PW D A s.heap [] H locs := hw
  refine lv_lstore (lv' := [(5, .long u_1), (0, .long x1), (2, .long x2), (4, .int x3)]) S.1 S.2.1 dX8_partOf_5 hl (by decide) rfl (fun ls hl => ?_)
  refine lv_lload S.1 S.2.1 dX8_partOf_7 (lv_at hl 0 rfl) ?_
  refine lv_lconst (v := 0) S.1 S.2.1 dX8_partOf_9 (by decide) ?_
  refine W.lcmp S.1 S.2.1 dX8_partOf_10 ?_
  refine lv_if_ne (tgt := 18) S.1 S.2.1 dX8_partOf_11 (by decide) (fun c_2 => ?_) (fun c_2 => ?_)
  · replace hf := (if_neg c_2).symm.trans hf
    refine lv_iload S.1 S.2.1 dX8_partOf_18 (lv_at hl 3 rfl) ?_
    obtain ⟨v_3, e_v_3, hf⟩ := ob hf
    have hJ_v_3 : ∀ (H : Heap) (locs : List Loc), PW D A s.heap [] H locs → W p l e rmX8_partOf s m args below meth c H locs 0 0 Q (F0 m 34 ls [.long v_3]) := by
      intro H locs hw
      cases hf
      exact w_lret S hr hlk hA hQ hw dX8_partOf_34
    replace hf := e_v_3
    clear e_v_3
    refine lv_if_ne (tgt := 30) S.1 S.2.1 dX8_partOf_20 (by decide) (fun c_4 => ?_) (fun c_4 => ?_)
    · replace hf := (if_neg c_4).symm.trans hf
      refine lv_lload_n S.1 S.2.1 dX8_partOf_30 rfl (lv_at hl 2 rfl) ?_
      refine lv_lload S.1 S.2.1 dX8_partOf_31 (lv_at hl 0 rfl) ?_
      obtain ⟨z_5, e_z_5, hf⟩ := ob hf
      refine lv_ldiv S.1 S.2.1 dX8_partOf_33 (nzL_inv e_z_5) ?_
      cases hf
      exact hJ_v_3 _ _ hw
    · replace hf := (if_pos c_4).symm.trans hf
      refine lv_lload_n S.1 S.2.1 dX8_partOf_23 rfl (lv_at hl 1 rfl) ?_
      refine lv_lload S.1 S.2.1 dX8_partOf_24 (lv_at hl 0 rfl) ?_
      obtain ⟨z_6, e_z_6, hf⟩ := ob hf
      refine lv_ldiv S.1 S.2.1 dX8_partOf_26 (nzL_inv e_z_6) ?_
      refine lv_goto (tgt := 34) S.1 S.2.1 dX8_partOf_27 (by decide) ?_
      cases hf
      exact hJ_v_3 _ _ hw
  · replace hf := (if_pos c_2).symm.trans hf
    refine lv_ldc2 (v := (-1000000000000000002)) S.1 S.2.1 S.2.2.2.1 (S.2.2.2.2.wd wd614 rfl) dX8_partOf_14 ?_
    cases hf
    exact w_lret S hr hlk hA hQ hw dX8_partOf_17
section
variable {p : Program} {l : Launch} {e : Env} {R : Room} {s : State} {m : MethodId} {args : Array Value} {below : List Frame} {meth : Method} {c : Code} {H : Heap} {locs : List Loc} {cells slots : Nat} {Q : State → Prop} {cc : ByteArray} {pc nL : Nat} {ls : Array Slot} {rest : List Value} {D : va_G} {cy : Nat → ClassId} {A : Nat → Prop} {H0 : Heap} {own : String} {Ps : List va_W}
set_option maxRecDepth 100000 in
theorem k_X8_partOf  {x1 : Int64} {x2 : Int64} {x3 : Int32}  {u : Int64} {index : Nat} (S : CX p m c cc nL s args own D cy) (hl : (Cond.methodLink own index yX8_partOf).before args s = true) (hw : PW D A H0 Ps H locs) (hf : f_X8_partOf x1 x2 x3 = some u) (js : List Nat) (hC : js.map (fun j => Ps[j]?) = []) (hnd : js.Nodup) (hlen : js.length = 0) (hR : RMok rmX8_partOf R 7) (hsize : ls.size = nL) (hrest : (rest.map fun v => v.category).sum ≤ 8) (hdg : decode cc pc = .ok (.invokestatic index, 3)) (hcs : cells ≤ R.cells ∧ slots ≤ R.slots)
    (kk : ∀ (H1 : Heap) (locs1 : List Loc), PW D A H0 (setAll Ps js []) H1 locs1 → W p l e R s m args below meth c H1 locs1 cells slots Q (F0 m (pc + 3) ls (.long u :: rest))) : W p l e R s m args below meth c H locs cells slots Q (F0 m pc ls (.int x3 :: .long x2 :: .long x1 :: rest)) :=
  w_callS (n := 3) (ov := (some (.long u))) (As := [.long x1, .long x2, .int x3]) (Cs := []) (Cs' := []) S hw (c_X8_partOf l D cy  x1 x2 x3 u hf) (MF.of S.2.2.2.2 wd635 wd70 (by decide)) (S.2.2.2.2.wd wd634 rfl) hl hR js hC hnd hlen rfl hsize rfl hrest hdg hcs kk
end
abbrev rmX8_power : Room := { frames := 0, cells := 0, slots := 0, locals := 0 }
def fl_X8_power_5 (y0 : Int64) (y2 : Int32)  : Nat → Int64 → Int32 → Option (Int64)
  | 0, _, _ => none
  | n + 1, y3, y5 => if y2 ≤ y5 then some y3 else fl_X8_power_5 y0 y2 n ((y3 * y0)) ((y5 + 1))
def f_X8_power (x1 : Int64) (x2 : Int32) : Option (Int64) := (fl_X8_power_5 x1 x2 2000 1 0).bind (fun u_2 => some u_2)
section
variable {p : Program} {l : Launch} {e : Env} {s : State} {m : MethodId} {args : Array Value} {below : List Frame} {meth : Method} {c : Code} {Q : State → Prop} {D : va_G} {cy : Nat → ClassId} {A : Nat → Prop} {H0 : Heap}
set_option maxHeartbeats 4000000 in
set_option maxRecDepth 100000 in
theorem lp_X8_power_5 (S : CX p m c cX8_power 6 s args RX8 D cy)   {y0 : Int64} {y2 : Int32} : ∀ (n : Nat) (y3 : Int64) (y5 : Int32) (H : Heap) (locs : List Loc) (ls : Array Slot) (u : Int64), PW D A H0 [] H locs → lv_has ls 6 [(0, .long y0), (2, .int y2), (3, .long y3), (5, .int y5)] → fl_X8_power_5 y0 y2 n y3 y5 = some u → (∀ (H : Heap) (locs : List Loc) (ls : Array Slot), PW D A H0 [] H locs → lv_has ls 6 [(3, .long u)] → W p l e rmX8_power s m args below meth c H locs 0 0 Q (F0 m 21 ls [])) → W p l e rmX8_power s m args below meth c H locs 0 0 Q (F0 m 5 ls []) := by
  intro n
  induction n with
  | zero =>
    intro y3 y5 H locs ls u hw hl hf K0
    rw [fl_X8_power_5] at hf
    cases hf
  | succ n ih =>
    intro y3 y5 H locs ls u hw hl hf K0
    rw [fl_X8_power_5] at hf
    refine lv_iload S.1 S.2.1 dX8_power_5 (lv_at hl 3 rfl) ?_
    refine lv_iload_n S.1 S.2.1 dX8_power_7 rfl (lv_at hl 1 rfl) ?_
    refine lv_icmp_ge (tgt := 21) S.1 S.2.1 dX8_power_8 (by decide) (fun c_1 => ?_) (fun c_1 => ?_)
    · replace hf := (if_pos c_1).symm.trans hf
      cases hf
      exact K0 _ _ _ hw (lv_sub hl [2] rfl)
    · replace hf := (if_neg c_1).symm.trans hf
      refine lv_lload_n S.1 S.2.1 dX8_power_11 rfl (lv_at hl 2 rfl) ?_
      refine lv_lload_n S.1 S.2.1 dX8_power_12 rfl (lv_at hl 0 rfl) ?_
      refine lv_lmul S.1 S.2.1 dX8_power_13 ?_
      refine lv_lstore_n (lv' := [(3, .long ((y3 * y0))), (0, .long y0), (2, .int y2), (5, .int y5)]) S.1 S.2.1 dX8_power_14 rfl hl (by decide) rfl (fun ls hl => ?_)
      refine lv_iinc (v := (y5 + 1)) (lv' := [(5, .int ((y5 + 1))), (3, .long ((y3 * y0))), (0, .long y0), (2, .int y2)]) S.1 S.2.1 dX8_power_15 hl (k := 3) rfl rfl (by decide) rfl (fun ls hl => ?_)
      refine lv_goto (tgt := 5) S.1 S.2.1 dX8_power_18 (by decide) ?_
      exact ih _ _ _ _ _ _ hw (lv_sub hl [2, 3, 1, 0] rfl) hf K0
end
set_option maxHeartbeats 4000000 in
set_option maxRecDepth 100000 in
theorem c_X8_power (l : Launch) (D : va_G) (cy : Nat → ClassId)  (x1 : Int64) (x2 : Int32) (u : Int64) (hf : f_X8_power x1 x2 = some u) : CT l yX8_power cX8_power 6 (some .long) rmX8_power D cy [.long x1, .int x2] [] (some (.long u)) [] := by
  refine CT.of (by decide) (Nat.le_of_ble_eq_true rfl) (fun p e s m args below meth c ls A Q hA hQ S hr hlk hl hw => ?_)
  have hl : lv_has ls 6 [(0, .long x1), (2, .int x2)] := hl
  rw [f_X8_power] at hf
  refine lv_lconst (v := 1) S.1 S.2.1 dX8_power_0 (by decide) ?_
  refine lv_lstore_n (lv' := [(3, .long 1), (0, .long x1), (2, .int x2)]) S.1 S.2.1 dX8_power_1 rfl hl (by decide) rfl (fun ls hl => ?_)
  refine lv_iconst (v := 0) S.1 S.2.1 dX8_power_2 (by decide) ?_
  refine lv_istore (lv' := [(5, .int 0), (3, .long 1), (0, .long x1), (2, .int x2)]) S.1 S.2.1 dX8_power_3 hl (by decide) rfl (fun ls hl => ?_)
  obtain ⟨u_2, e_u_2, hf⟩ := ob hf
  refine lp_X8_power_5 S 2000 _ _ _ _ _ _ hw (lv_sub hl [2, 3, 1, 0] rfl) e_u_2 ?_
  · intro H locs ls hw hl
    refine lv_lload_n S.1 S.2.1 dX8_power_21 rfl (lv_at hl 0 rfl) ?_
    cases hf
    exact w_lret S hr hlk hA hQ hw dX8_power_22
section
variable {p : Program} {l : Launch} {e : Env} {R : Room} {s : State} {m : MethodId} {args : Array Value} {below : List Frame} {meth : Method} {c : Code} {H : Heap} {locs : List Loc} {cells slots : Nat} {Q : State → Prop} {cc : ByteArray} {pc nL : Nat} {ls : Array Slot} {rest : List Value} {D : va_G} {cy : Nat → ClassId} {A : Nat → Prop} {H0 : Heap} {own : String} {Ps : List va_W}
set_option maxRecDepth 100000 in
theorem k_X8_power  {x1 : Int64} {x2 : Int32}  {u : Int64} {index : Nat} (S : CX p m c cc nL s args own D cy) (hl : (Cond.methodLink own index yX8_power).before args s = true) (hw : PW D A H0 Ps H locs) (hf : f_X8_power x1 x2 = some u) (js : List Nat) (hC : js.map (fun j => Ps[j]?) = []) (hnd : js.Nodup) (hlen : js.length = 0) (hR : RMok rmX8_power R 6) (hsize : ls.size = nL) (hrest : (rest.map fun v => v.category).sum ≤ 8) (hdg : decode cc pc = .ok (.invokestatic index, 3)) (hcs : cells ≤ R.cells ∧ slots ≤ R.slots)
    (kk : ∀ (H1 : Heap) (locs1 : List Loc), PW D A H0 (setAll Ps js []) H1 locs1 → W p l e R s m args below meth c H1 locs1 cells slots Q (F0 m (pc + 3) ls (.long u :: rest))) : W p l e R s m args below meth c H locs cells slots Q (F0 m pc ls (.int x2 :: .long x1 :: rest)) :=
  w_callS (n := 2) (ov := (some (.long u))) (As := [.long x1, .int x2]) (Cs := []) (Cs' := []) S hw (c_X8_power l D cy  x1 x2 u hf) (MF.of S.2.2.2.2 wd625 wd70 (by decide)) (S.2.2.2.2.wd wd624 rfl) hl hR js hC hnd hlen rfl hsize rfl hrest hdg hcs kk
end
section
variable {p : Program} {l : Launch} {e : Env} {R : Room} {s : State} {m : MethodId} {args : Array Value} {below : List Frame} {meth : Method} {c : Code} {H : Heap} {locs : List Loc} {cells slots : Nat} {Q : State → Prop} {cc : ByteArray} {pc nL : Nat} {ls : Array Slot} {rest : List Value} {D : va_G} {cy : Nat → ClassId} {A : Nat → Prop} {H0 : Heap} {own : String} {Ps : List va_W}
set_option maxRecDepth 100000 in
theorem kn_X8_power  {x1 : Int64} {x2 : Int32}  {u : Int64} {index : Nat} (S : CX p m c cc nL s args own D cy) (hl : (Cond.methodLinkNest own index yX8_power "SwornLane").before args s = true) (hw : PW D A H0 Ps H locs) (hf : f_X8_power x1 x2 = some u) (js : List Nat) (hC : js.map (fun j => Ps[j]?) = []) (hnd : js.Nodup) (hlen : js.length = 0) (hR : RMok rmX8_power R 6) (hsize : ls.size = nL) (hrest : (rest.map fun v => v.category).sum ≤ 8) (hdg : decode cc pc = .ok (.invokestatic index, 3)) (hcs : cells ≤ R.cells ∧ slots ≤ R.slots)
    (kk : ∀ (H1 : Heap) (locs1 : List Loc), PW D A H0 (setAll Ps js []) H1 locs1 → W p l e R s m args below meth c H1 locs1 cells slots Q (F0 m (pc + 3) ls (.long u :: rest))) : W p l e R s m args below meth c H locs cells slots Q (F0 m pc ls (.int x2 :: .long x1 :: rest)) :=
  w_callSN (n := 2) (ov := (some (.long u))) (As := [.long x1, .int x2]) (Cs := []) (Cs' := []) S hw (c_X8_power l D cy  x1 x2 u hf) (MF.of S.2.2.2.2 wd625 wd70 (by decide)) (S.2.2.2.2.wd wd624 rfl) hl hR js hC hnd hlen rfl hsize rfl hrest hdg hcs kk
end
abbrev rmX1_copyFrom : Room := { frames := 1, cells := 0, slots := 0, locals := 40 }
def f_X1_copyFrom (σ0 : pStt) (σ1 : pStt) : Option (pStt) := (some (sA σ0 0 (va_cpy (σ1.2 0) (σ0.2 0) 0 0 8))).bind (fun σ_1 => (some (sA σ_1 1 (va_cpy (σ1.2 1) (σ_1.2 1) 0 0 8))).bind (fun σ_2 => (some (sA σ_2 2 (va_cpy (σ1.2 2) (σ_2.2 2) 0 0 6))).bind (fun σ_3 => (some (sA σ_3 3 (va_cpy (σ1.2 3) (σ_3.2 3) 0 0 6))).bind (fun σ_4 => (some (sI σ_4 0 ((σ1.1 0)))).bind (fun σ_5 => (asB ((σ1.1 1))).bind (fun b_6 => (some (sI σ_5 1 b_6)).bind (fun σ_7 => (some (sI σ_7 2 ((σ1.1 2)))).bind (fun σ_8 => some σ_8))))))))
set_option maxHeartbeats 4000000 in
set_option maxRecDepth 100000 in
theorem c_X1_copyFrom (l : Launch) (D : va_G) (cy : Nat → ClassId) (o0 : Nat) (q0 : Nat → Nat) (o1 : Nat) (q1 : Nat → Nat) (σ0 : pStt) (σ1 : pStt) (u : pStt) (hf : f_X1_copyFrom σ0 σ1 = some u) : CT l yX1_copyFrom cX1_copyFrom 2 none rmX1_copyFrom D cy [.ref o0, .ref o1] [pX1 cy o0 q0 σ0, pX1 cy o1 q1 σ1] none [pX1 cy o0 q0 u, pX1 cy o1 q1 σ1] := by
  refine CT.of (by decide) (Nat.le_of_ble_eq_true rfl) (fun p e s m args below meth c ls A Q hA hQ S hr hlk hl hw => ?_)
  have hl : lv_has ls 2 [(0, .ref o0), (1, .ref o1)] := hl
  rw [f_X1_copyFrom] at hf
  refine lv_aload_n S.1 S.2.1 dX1_copyFrom_0 rfl (lv_at hl 1 rfl) ?_
  refine gf_X1_9 S hw 1 rfl dX1_copyFrom_1 ?_
  refine lv_iconst (v := 0) S.1 S.2.1 dX1_copyFrom_4 (by decide) ?_
  refine lv_aload_n S.1 S.2.1 dX1_copyFrom_5 rfl (lv_at hl 0 rfl) ?_
  refine gf_X1_9 S hw 0 rfl dX1_copyFrom_6 ?_
  refine lv_iconst (v := 0) S.1 S.2.1 dX1_copyFrom_9 (by decide) ?_
  refine lv_bipush (v := 8) S.1 S.2.1 dX1_copyFrom_10 (by decide) ?_
  obtain ⟨σ_1, e_σ_1, hf⟩ := ob hf
  refine w_copyi S hw hl.1 (S.2.2.2.2.wd wd403 rfl) (S.2.2.2.2.wd wd405 rfl) (S.2.2.2.2.wd wd404 rfl) (S.2.2.2.2.wd wd81 rfl) 1 1 0 1 rfl rfl rfl rfl (by decide) (by decide) (by decide) (by decide) (by decide) (Nat.le_of_ble_eq_true rfl) (Nat.le_of_ble_eq_true rfl) dX1_copyFrom_12 (fun H locs hw => ?_)
  replace hw : PW D A s.heap [pX1 cy o0 q0 σ_1, pX1 cy o1 q1 σ1] H locs := by cases e_σ_1; exact hw
  refine lv_aload_n S.1 S.2.1 dX1_copyFrom_15 rfl (lv_at hl 1 rfl) ?_
  refine gf_X1_15 S hw 1 rfl dX1_copyFrom_16 ?_
  refine lv_iconst (v := 0) S.1 S.2.1 dX1_copyFrom_19 (by decide) ?_
  refine lv_aload_n S.1 S.2.1 dX1_copyFrom_20 rfl (lv_at hl 0 rfl) ?_
  refine gf_X1_15 S hw 0 rfl dX1_copyFrom_21 ?_
  refine lv_iconst (v := 0) S.1 S.2.1 dX1_copyFrom_24 (by decide) ?_
  refine lv_bipush (v := 8) S.1 S.2.1 dX1_copyFrom_25 (by decide) ?_
  obtain ⟨σ_2, e_σ_2, hf⟩ := ob hf
  refine w_copyi S hw hl.1 (S.2.2.2.2.wd wd403 rfl) (S.2.2.2.2.wd wd405 rfl) (S.2.2.2.2.wd wd404 rfl) (S.2.2.2.2.wd wd81 rfl) 1 2 0 2 rfl rfl rfl rfl (by decide) (by decide) (by decide) (by decide) (by decide) (Nat.le_of_ble_eq_true rfl) (Nat.le_of_ble_eq_true rfl) dX1_copyFrom_27 (fun H locs hw => ?_)
  replace hw : PW D A s.heap [pX1 cy o0 q0 σ_2, pX1 cy o1 q1 σ1] H locs := by cases e_σ_2; exact hw
  refine lv_aload_n S.1 S.2.1 dX1_copyFrom_30 rfl (lv_at hl 1 rfl) ?_
  refine gf_X1_18 S hw 1 rfl dX1_copyFrom_31 ?_
  refine lv_iconst (v := 0) S.1 S.2.1 dX1_copyFrom_34 (by decide) ?_
  refine lv_aload_n S.1 S.2.1 dX1_copyFrom_35 rfl (lv_at hl 0 rfl) ?_
  refine gf_X1_18 S hw 0 rfl dX1_copyFrom_36 ?_
  refine lv_iconst (v := 0) S.1 S.2.1 dX1_copyFrom_39 (by decide) ?_
  refine lv_bipush (v := 6) S.1 S.2.1 dX1_copyFrom_40 (by decide) ?_
  obtain ⟨σ_3, e_σ_3, hf⟩ := ob hf
  refine w_copyi S hw hl.1 (S.2.2.2.2.wd wd403 rfl) (S.2.2.2.2.wd wd405 rfl) (S.2.2.2.2.wd wd404 rfl) (S.2.2.2.2.wd wd81 rfl) 1 3 0 3 rfl rfl rfl rfl (by decide) (by decide) (by decide) (by decide) (by decide) (Nat.le_of_ble_eq_true rfl) (Nat.le_of_ble_eq_true rfl) dX1_copyFrom_42 (fun H locs hw => ?_)
  replace hw : PW D A s.heap [pX1 cy o0 q0 σ_3, pX1 cy o1 q1 σ1] H locs := by cases e_σ_3; exact hw
  refine lv_aload_n S.1 S.2.1 dX1_copyFrom_45 rfl (lv_at hl 1 rfl) ?_
  refine gf_X1_21 S hw 1 rfl dX1_copyFrom_46 ?_
  refine lv_iconst (v := 0) S.1 S.2.1 dX1_copyFrom_49 (by decide) ?_
  refine lv_aload_n S.1 S.2.1 dX1_copyFrom_50 rfl (lv_at hl 0 rfl) ?_
  refine gf_X1_21 S hw 0 rfl dX1_copyFrom_51 ?_
  refine lv_iconst (v := 0) S.1 S.2.1 dX1_copyFrom_54 (by decide) ?_
  refine lv_bipush (v := 6) S.1 S.2.1 dX1_copyFrom_55 (by decide) ?_
  obtain ⟨σ_4, e_σ_4, hf⟩ := ob hf
  refine w_copyi S hw hl.1 (S.2.2.2.2.wd wd403 rfl) (S.2.2.2.2.wd wd405 rfl) (S.2.2.2.2.wd wd404 rfl) (S.2.2.2.2.wd wd81 rfl) 1 4 0 4 rfl rfl rfl rfl (by decide) (by decide) (by decide) (by decide) (by decide) (Nat.le_of_ble_eq_true rfl) (Nat.le_of_ble_eq_true rfl) dX1_copyFrom_57 (fun H locs hw => ?_)
  replace hw : PW D A s.heap [pX1 cy o0 q0 σ_4, pX1 cy o1 q1 σ1] H locs := by cases e_σ_4; exact hw
  refine lv_aload_n S.1 S.2.1 dX1_copyFrom_60 rfl (lv_at hl 0 rfl) ?_
  refine lv_aload_n S.1 S.2.1 dX1_copyFrom_61 rfl (lv_at hl 1 rfl) ?_
  refine gf_X1_34 S hw 1 rfl dX1_copyFrom_62 ?_
  obtain ⟨σ_5, e_σ_5, hf⟩ := ob hf
  refine pf_X1_34 S hw 0 rfl e_σ_5 dX1_copyFrom_65 (fun H locs hw => ?_)
  have hw : PW D A s.heap [pX1 cy o0 q0 σ_5, pX1 cy o1 q1 σ1] H locs := hw
  refine lv_aload_n S.1 S.2.1 dX1_copyFrom_68 rfl (lv_at hl 0 rfl) ?_
  refine lv_aload_n S.1 S.2.1 dX1_copyFrom_69 rfl (lv_at hl 1 rfl) ?_
  refine gf_X1_24 S hw 1 rfl dX1_copyFrom_70 ?_
  obtain ⟨b_6, e_b_6, hf⟩ := ob hf
  obtain ⟨σ_7, e_σ_7, hf⟩ := ob hf
  refine pf_X1_24 S hw 0 rfl e_b_6 e_σ_7 dX1_copyFrom_73 (fun H locs hw => ?_)
  have hw : PW D A s.heap [pX1 cy o0 q0 σ_7, pX1 cy o1 q1 σ1] H locs := hw
  refine lv_aload_n S.1 S.2.1 dX1_copyFrom_76 rfl (lv_at hl 0 rfl) ?_
  refine lv_aload_n S.1 S.2.1 dX1_copyFrom_77 rfl (lv_at hl 1 rfl) ?_
  refine gf_X1_38 S hw 1 rfl dX1_copyFrom_78 ?_
  obtain ⟨σ_8, e_σ_8, hf⟩ := ob hf
  refine pf_X1_38 S hw 0 rfl e_σ_8 dX1_copyFrom_81 (fun H locs hw => ?_)
  have hw : PW D A s.heap [pX1 cy o0 q0 σ_8, pX1 cy o1 q1 σ1] H locs := hw
  cases hf
  exact w_vret S hr hlk hA hQ hw dX1_copyFrom_84
section
variable {p : Program} {l : Launch} {e : Env} {R : Room} {s : State} {m : MethodId} {args : Array Value} {below : List Frame} {meth : Method} {c : Code} {H : Heap} {locs : List Loc} {cells slots : Nat} {Q : State → Prop} {cc : ByteArray} {pc nL : Nat} {ls : Array Slot} {rest : List Value} {D : va_G} {cy : Nat → ClassId} {A : Nat → Prop} {H0 : Heap} {own : String} {Ps : List va_W}
set_option maxRecDepth 100000 in
theorem k_X1_copyFrom {o0 : Nat} {q0 : Nat → Nat} {o1 : Nat} {q1 : Nat → Nat}  {σ0 : pStt} {σ1 : pStt} {u : pStt} {index : Nat} (S : CX p m c cc nL s args own D cy) (hl : (Cond.methodLink own index yX1_copyFrom).before args s = true) (hw : PW D A H0 Ps H locs) (hf : f_X1_copyFrom σ0 σ1 = some u) (js : List Nat) (hC : js.map (fun j => Ps[j]?) = [some (pX1 cy o0 q0 σ0), some (pX1 cy o1 q1 σ1)]) (hnd : js.Nodup) (hlen : js.length = 2) (hR : RMok rmX1_copyFrom R 2) (hsize : ls.size = nL) (hrest : (rest.map fun v => v.category).sum ≤ 8) (hdg : decode cc pc = .ok (.invokevirtual index, 3)) (hcs : cells ≤ R.cells ∧ slots ≤ R.slots)
    (kk : ∀ (H1 : Heap) (locs1 : List Loc), PW D A H0 (setAll Ps js [pX1 cy o0 q0 u, pX1 cy o1 q1 σ1]) H1 locs1 → W p l e R s m args below meth c H1 locs1 cells slots Q (F0 m (pc + 3) ls (rest))) : W p l e R s m args below meth c H locs cells slots Q (F0 m pc ls (.ref o1 :: .ref o0 :: rest)) :=
  w_callV (n := 1) (ov := none) (As := [.ref o1]) (Cs := [pX1 cy o0 q0 σ0, pX1 cy o1 q1 σ1]) (Cs' := [pX1 cy o0 q0 u, pX1 cy o1 q1 σ1]) S hw (c_X1_copyFrom l D cy o0 q0 o1 q1 σ0 σ1 u hf) (MF.of S.2.2.2.2 wd402 wd72 (by decide)) (S.2.2.2.2.wd wd400 rfl) (S.2.2.2.2.wd wd401 rfl) hl hR js hC hnd hlen rfl rfl rfl rfl hsize rfl hrest hdg hcs kk
end
abbrev rmX1_countWays : Room := { frames := 1, cells := 0, slots := 0, locals := 20 }
def fl_X1_countWays_4  (σ0 : pStt) : Nat → Int32 → Int32 → Option (Int32)
  | 0, _, _ => none
  | n + 1, y1, y2 => if 8 ≤ y2 then some y1 else (ld (σ0.2 0) 8 y2).bind (fun x_2 => (f_J6_bitCount_0f7a4 x_2).bind (fun u_3 => fl_X1_countWays_4 σ0 n ((y1 + u_3)) ((y2 + 1))))
def f_X1_countWays (σ0 : pStt) : Option (Int32) := (fl_X1_countWays_4 σ0 2000 0 0).bind (fun u_4 => some ((u_4 / 2)))
section
variable {p : Program} {l : Launch} {e : Env} {s : State} {m : MethodId} {args : Array Value} {below : List Frame} {meth : Method} {c : Code} {Q : State → Prop} {D : va_G} {cy : Nat → ClassId} {A : Nat → Prop} {H0 : Heap}
set_option maxHeartbeats 4000000 in
set_option maxRecDepth 100000 in
theorem lp_X1_countWays_4 (S : CX p m c cX1_countWays 3 s args RX1 D cy) {o0 : Nat} {q0 : Nat → Nat} {σ0 : pStt}  : ∀ (n : Nat) (y1 : Int32) (y2 : Int32) (H : Heap) (locs : List Loc) (ls : Array Slot) (u : Int32), PW D A H0 [pX1 cy o0 q0 σ0] H locs → lv_has ls 3 [(0, .ref o0), (1, .int y1), (2, .int y2)] → fl_X1_countWays_4 σ0 n y1 y2 = some u → (∀ (H : Heap) (locs : List Loc) (ls : Array Slot), PW D A H0 [pX1 cy o0 q0 σ0] H locs → lv_has ls 3 [(1, .int u)] → W p l e rmX1_countWays s m args below meth c H locs 0 0 Q (F0 m 28 ls [])) → W p l e rmX1_countWays s m args below meth c H locs 0 0 Q (F0 m 4 ls []) := by
  intro n
  induction n with
  | zero =>
    intro y1 y2 H locs ls u hw hl hf K0
    rw [fl_X1_countWays_4] at hf
    cases hf
  | succ n ih =>
    intro y1 y2 H locs ls u hw hl hf K0
    rw [fl_X1_countWays_4] at hf
    refine lv_iload_n S.1 S.2.1 dX1_countWays_4 rfl (lv_at hl 2 rfl) ?_
    refine lv_bipush (v := 8) S.1 S.2.1 dX1_countWays_5 (by decide) ?_
    refine lv_icmp_ge (tgt := 28) S.1 S.2.1 dX1_countWays_7 (by decide) (fun c_1 => ?_) (fun c_1 => ?_)
    · replace hf := (if_pos c_1).symm.trans hf
      cases hf
      exact K0 _ _ _ hw (lv_sub hl [1] rfl)
    · replace hf := (if_neg c_1).symm.trans hf
      refine lv_iload_n S.1 S.2.1 dX1_countWays_10 rfl (lv_at hl 1 rfl) ?_
      refine lv_aload_n S.1 S.2.1 dX1_countWays_11 rfl (lv_at hl 0 rfl) ?_
      refine gf_X1_9 S hw 0 rfl dX1_countWays_12 ?_
      refine lv_iload_n S.1 S.2.1 dX1_countWays_15 rfl (lv_at hl 2 rfl) ?_
      obtain ⟨x_2, e_x_2, hf⟩ := ob hf
      refine al_X1_0 S hw 0 rfl e_x_2 dX1_countWays_16 ?_
      obtain ⟨u_3, e_u_3, hf⟩ := ob hf
      refine k_J6_bitCount_0f7a4 S (S.2.2.2.2.wd wd298 rfl) hw e_u_3 [] rfl (by decide) rfl ⟨rfl, rfl, Nat.le_of_ble_eq_true rfl, Nat.le_of_ble_eq_true rfl⟩ hl.1 (Nat.le_of_ble_eq_true rfl) dX1_countWays_17 ⟨Nat.zero_le _, Nat.zero_le _⟩ (fun H locs hw => ?_)
      have hw : PW D A H0 [pX1 cy o0 q0 σ0] H locs := hw
      refine lv_iadd S.1 S.2.1 dX1_countWays_20 ?_
      refine lv_istore_n (lv' := [(1, .int ((y1 + u_3))), (0, .ref o0), (2, .int y2)]) S.1 S.2.1 dX1_countWays_21 rfl hl (by decide) rfl (fun ls hl => ?_)
      refine lv_iinc (v := (y2 + 1)) (lv' := [(2, .int ((y2 + 1))), (1, .int ((y1 + u_3))), (0, .ref o0)]) S.1 S.2.1 dX1_countWays_22 hl (k := 2) rfl rfl (by decide) rfl (fun ls hl => ?_)
      refine lv_goto (tgt := 4) S.1 S.2.1 dX1_countWays_25 (by decide) ?_
      exact ih _ _ _ _ _ _ hw (lv_sub hl [2, 1, 0] rfl) hf K0
end
set_option maxHeartbeats 4000000 in
set_option maxRecDepth 100000 in
theorem c_X1_countWays (l : Launch) (D : va_G) (cy : Nat → ClassId) (o0 : Nat) (q0 : Nat → Nat) (σ0 : pStt) (u : Int32) (hf : f_X1_countWays σ0 = some u) : CT l yX1_countWays cX1_countWays 3 (some .int) rmX1_countWays D cy [.ref o0] [pX1 cy o0 q0 σ0] (some (.int u)) [pX1 cy o0 q0 σ0] := by
  refine CT.of (by decide) (Nat.le_of_ble_eq_true rfl) (fun p e s m args below meth c ls A Q hA hQ S hr hlk hl hw => ?_)
  have hl : lv_has ls 3 [(0, .ref o0)] := hl
  rw [f_X1_countWays] at hf
  refine lv_iconst (v := 0) S.1 S.2.1 dX1_countWays_0 (by decide) ?_
  refine lv_istore_n (lv' := [(1, .int 0), (0, .ref o0)]) S.1 S.2.1 dX1_countWays_1 rfl hl (by decide) rfl (fun ls hl => ?_)
  refine lv_iconst (v := 0) S.1 S.2.1 dX1_countWays_2 (by decide) ?_
  refine lv_istore_n (lv' := [(2, .int 0), (1, .int 0), (0, .ref o0)]) S.1 S.2.1 dX1_countWays_3 rfl hl (by decide) rfl (fun ls hl => ?_)
  obtain ⟨u_4, e_u_4, hf⟩ := ob hf
  refine lp_X1_countWays_4 S 2000 _ _ _ _ _ _ hw (lv_sub hl [2, 1, 0] rfl) e_u_4 ?_
  · intro H locs ls hw hl
    refine lv_iload_n S.1 S.2.1 dX1_countWays_28 rfl (lv_at hl 0 rfl) ?_
    refine lv_iconst (v := 2) S.1 S.2.1 dX1_countWays_29 (by decide) ?_
    refine lv_idiv S.1 S.2.1 dX1_countWays_30 (by decide) ?_
    cases hf
    exact w_iret S hr hlk hA hQ hw dX1_countWays_31
section
variable {p : Program} {l : Launch} {e : Env} {R : Room} {s : State} {m : MethodId} {args : Array Value} {below : List Frame} {meth : Method} {c : Code} {H : Heap} {locs : List Loc} {cells slots : Nat} {Q : State → Prop} {cc : ByteArray} {pc nL : Nat} {ls : Array Slot} {rest : List Value} {D : va_G} {cy : Nat → ClassId} {A : Nat → Prop} {H0 : Heap} {own : String} {Ps : List va_W}
set_option maxRecDepth 100000 in
theorem k_X1_countWays {o0 : Nat} {q0 : Nat → Nat}  {σ0 : pStt} {u : Int32} {index : Nat} (S : CX p m c cc nL s args own D cy) (hl : (Cond.methodLink own index yX1_countWays).before args s = true) (hw : PW D A H0 Ps H locs) (hf : f_X1_countWays σ0 = some u) (js : List Nat) (hC : js.map (fun j => Ps[j]?) = [some (pX1 cy o0 q0 σ0)]) (hnd : js.Nodup) (hlen : js.length = 1) (hR : RMok rmX1_countWays R 3) (hsize : ls.size = nL) (hrest : (rest.map fun v => v.category).sum ≤ 8) (hdg : decode cc pc = .ok (.invokevirtual index, 3)) (hcs : cells ≤ R.cells ∧ slots ≤ R.slots)
    (kk : ∀ (H1 : Heap) (locs1 : List Loc), PW D A H0 (setAll Ps js [pX1 cy o0 q0 σ0]) H1 locs1 → W p l e R s m args below meth c H1 locs1 cells slots Q (F0 m (pc + 3) ls (.int u :: rest))) : W p l e R s m args below meth c H locs cells slots Q (F0 m pc ls (.ref o0 :: rest)) :=
  w_callV (n := 0) (ov := (some (.int u))) (As := []) (Cs := [pX1 cy o0 q0 σ0]) (Cs' := [pX1 cy o0 q0 σ0]) S hw (c_X1_countWays l D cy o0 q0 σ0 u hf) (MF.of S.2.2.2.2 wd297 wd72 (by decide)) (S.2.2.2.2.wd wd295 rfl) (S.2.2.2.2.wd wd296 rfl) hl hR js hC hnd hlen rfl rfl rfl rfl hsize rfl hrest hdg hcs kk
end
abbrev rmX1_setWay : Room := { frames := 0, cells := 0, slots := 0, locals := 0 }
def f_X1_setWay (x1 : Int32) (x2 : Int32) (x3 : Int32) (σ0 : pStt) : Option (pStt) := if x3 = 0 then (ld (σ0.2 0) 8 x1).bind (fun x_2 => (stA σ0 0 8 x1 ((x_2 &&& (((1 : Int32) <<< (x2 &&& 31)) ^^^ (-1 : Int32))))).bind (fun σ_3 => (ld (σ_3.2 0) 8 x2).bind (fun x_4 => (stA σ_3 0 8 x2 ((x_4 &&& (((1 : Int32) <<< (x1 &&& 31)) ^^^ (-1 : Int32))))).bind (fun σ_5 => some σ_5)))) else (ld (σ0.2 0) 8 x1).bind (fun x_6 => (stA σ0 0 8 x1 ((x_6 ||| ((1 : Int32) <<< (x2 &&& 31))))).bind (fun σ_7 => (ld (σ_7.2 0) 8 x2).bind (fun x_8 => (stA σ_7 0 8 x2 ((x_8 ||| ((1 : Int32) <<< (x1 &&& 31))))).bind (fun σ_9 => some σ_9))))
set_option maxHeartbeats 4000000 in
set_option maxRecDepth 100000 in
theorem c_X1_setWay (l : Launch) (D : va_G) (cy : Nat → ClassId) (o0 : Nat) (q0 : Nat → Nat) (x1 : Int32) (x2 : Int32) (x3 : Int32) (σ0 : pStt) (u : pStt) (hf : f_X1_setWay x1 x2 x3 σ0 = some u) : CT l yX1_setWay cX1_setWay 4 none rmX1_setWay D cy [.ref o0, .int x1, .int x2, .int x3] [pX1 cy o0 q0 σ0] none [pX1 cy o0 q0 u] := by
  refine CT.of (by decide) (Nat.le_of_ble_eq_true rfl) (fun p e s m args below meth c ls A Q hA hQ S hr hlk hl hw => ?_)
  have hl : lv_has ls 4 [(0, .ref o0), (1, .int x1), (2, .int x2), (3, .int x3)] := hl
  rw [f_X1_setWay] at hf
  refine lv_iload_n S.1 S.2.1 dX1_setWay_0 rfl (lv_at hl 3 rfl) ?_
  refine lv_if_eq (tgt := 31) S.1 S.2.1 dX1_setWay_1 (by decide) (fun c_1 => ?_) (fun c_1 => ?_)
  · replace hf := (if_pos c_1).symm.trans hf
    refine lv_aload_n S.1 S.2.1 dX1_setWay_31 rfl (lv_at hl 0 rfl) ?_
    refine gf_X1_9 S hw 0 rfl dX1_setWay_32 ?_
    refine lv_iload_n S.1 S.2.1 dX1_setWay_35 rfl (lv_at hl 1 rfl) ?_
    refine lv_dup2_11 S.1 S.2.1 dX1_setWay_36 rfl rfl ?_
    obtain ⟨x_2, e_x_2, hf⟩ := ob hf
    refine al_X1_0 S hw 0 rfl e_x_2 dX1_setWay_37 ?_
    refine lv_iconst (v := 1) S.1 S.2.1 dX1_setWay_38 (by decide) ?_
    refine lv_iload_n S.1 S.2.1 dX1_setWay_39 rfl (lv_at hl 2 rfl) ?_
    refine lv_ishl S.1 S.2.1 dX1_setWay_40 ?_
    refine lv_iconst (v := (-1)) S.1 S.2.1 dX1_setWay_41 (by decide) ?_
    refine lv_ixor S.1 S.2.1 dX1_setWay_42 ?_
    refine lv_iand S.1 S.2.1 dX1_setWay_43 ?_
    obtain ⟨σ_3, e_σ_3, hf⟩ := ob hf
    refine as_X1_0 S hw 0 rfl e_σ_3 dX1_setWay_44 (fun H locs hw => ?_)
    have hw : PW D A s.heap [pX1 cy o0 q0 σ_3] H locs := hw
    refine lv_aload_n S.1 S.2.1 dX1_setWay_45 rfl (lv_at hl 0 rfl) ?_
    refine gf_X1_9 S hw 0 rfl dX1_setWay_46 ?_
    refine lv_iload_n S.1 S.2.1 dX1_setWay_49 rfl (lv_at hl 2 rfl) ?_
    refine lv_dup2_11 S.1 S.2.1 dX1_setWay_50 rfl rfl ?_
    obtain ⟨x_4, e_x_4, hf⟩ := ob hf
    refine al_X1_0 S hw 0 rfl e_x_4 dX1_setWay_51 ?_
    refine lv_iconst (v := 1) S.1 S.2.1 dX1_setWay_52 (by decide) ?_
    refine lv_iload_n S.1 S.2.1 dX1_setWay_53 rfl (lv_at hl 1 rfl) ?_
    refine lv_ishl S.1 S.2.1 dX1_setWay_54 ?_
    refine lv_iconst (v := (-1)) S.1 S.2.1 dX1_setWay_55 (by decide) ?_
    refine lv_ixor S.1 S.2.1 dX1_setWay_56 ?_
    refine lv_iand S.1 S.2.1 dX1_setWay_57 ?_
    obtain ⟨σ_5, e_σ_5, hf⟩ := ob hf
    refine as_X1_0 S hw 0 rfl e_σ_5 dX1_setWay_58 (fun H locs hw => ?_)
    have hw : PW D A s.heap [pX1 cy o0 q0 σ_5] H locs := hw
    cases hf
    exact w_vret S hr hlk hA hQ hw dX1_setWay_59
  · replace hf := (if_neg c_1).symm.trans hf
    refine lv_aload_n S.1 S.2.1 dX1_setWay_4 rfl (lv_at hl 0 rfl) ?_
    refine gf_X1_9 S hw 0 rfl dX1_setWay_5 ?_
    refine lv_iload_n S.1 S.2.1 dX1_setWay_8 rfl (lv_at hl 1 rfl) ?_
    refine lv_dup2_11 S.1 S.2.1 dX1_setWay_9 rfl rfl ?_
    obtain ⟨x_6, e_x_6, hf⟩ := ob hf
    refine al_X1_0 S hw 0 rfl e_x_6 dX1_setWay_10 ?_
    refine lv_iconst (v := 1) S.1 S.2.1 dX1_setWay_11 (by decide) ?_
    refine lv_iload_n S.1 S.2.1 dX1_setWay_12 rfl (lv_at hl 2 rfl) ?_
    refine lv_ishl S.1 S.2.1 dX1_setWay_13 ?_
    refine lv_ior S.1 S.2.1 dX1_setWay_14 ?_
    obtain ⟨σ_7, e_σ_7, hf⟩ := ob hf
    refine as_X1_0 S hw 0 rfl e_σ_7 dX1_setWay_15 (fun H locs hw => ?_)
    have hw : PW D A s.heap [pX1 cy o0 q0 σ_7] H locs := hw
    refine lv_aload_n S.1 S.2.1 dX1_setWay_16 rfl (lv_at hl 0 rfl) ?_
    refine gf_X1_9 S hw 0 rfl dX1_setWay_17 ?_
    refine lv_iload_n S.1 S.2.1 dX1_setWay_20 rfl (lv_at hl 2 rfl) ?_
    refine lv_dup2_11 S.1 S.2.1 dX1_setWay_21 rfl rfl ?_
    obtain ⟨x_8, e_x_8, hf⟩ := ob hf
    refine al_X1_0 S hw 0 rfl e_x_8 dX1_setWay_22 ?_
    refine lv_iconst (v := 1) S.1 S.2.1 dX1_setWay_23 (by decide) ?_
    refine lv_iload_n S.1 S.2.1 dX1_setWay_24 rfl (lv_at hl 1 rfl) ?_
    refine lv_ishl S.1 S.2.1 dX1_setWay_25 ?_
    refine lv_ior S.1 S.2.1 dX1_setWay_26 ?_
    obtain ⟨σ_9, e_σ_9, hf⟩ := ob hf
    refine as_X1_0 S hw 0 rfl e_σ_9 dX1_setWay_27 (fun H locs hw => ?_)
    have hw : PW D A s.heap [pX1 cy o0 q0 σ_9] H locs := hw
    refine lv_goto (tgt := 59) S.1 S.2.1 dX1_setWay_28 (by decide) ?_
    cases hf
    exact w_vret S hr hlk hA hQ hw dX1_setWay_59
section
variable {p : Program} {l : Launch} {e : Env} {R : Room} {s : State} {m : MethodId} {args : Array Value} {below : List Frame} {meth : Method} {c : Code} {H : Heap} {locs : List Loc} {cells slots : Nat} {Q : State → Prop} {cc : ByteArray} {pc nL : Nat} {ls : Array Slot} {rest : List Value} {D : va_G} {cy : Nat → ClassId} {A : Nat → Prop} {H0 : Heap} {own : String} {Ps : List va_W}
set_option maxRecDepth 100000 in
theorem k_X1_setWay {o0 : Nat} {q0 : Nat → Nat} {x1 : Int32} {x2 : Int32} {x3 : Int32} {σ0 : pStt} {u : pStt} {index : Nat} (S : CX p m c cc nL s args own D cy) (hl : (Cond.methodLink own index yX1_setWay).before args s = true) (hw : PW D A H0 Ps H locs) (hf : f_X1_setWay x1 x2 x3 σ0 = some u) (js : List Nat) (hC : js.map (fun j => Ps[j]?) = [some (pX1 cy o0 q0 σ0)]) (hnd : js.Nodup) (hlen : js.length = 1) (hR : RMok rmX1_setWay R 4) (hsize : ls.size = nL) (hrest : (rest.map fun v => v.category).sum ≤ 8) (hdg : decode cc pc = .ok (.invokevirtual index, 3)) (hcs : cells ≤ R.cells ∧ slots ≤ R.slots)
    (kk : ∀ (H1 : Heap) (locs1 : List Loc), PW D A H0 (setAll Ps js [pX1 cy o0 q0 u]) H1 locs1 → W p l e R s m args below meth c H1 locs1 cells slots Q (F0 m (pc + 3) ls (rest))) : W p l e R s m args below meth c H locs cells slots Q (F0 m pc ls (.int x3 :: .int x2 :: .int x1 :: .ref o0 :: rest)) :=
  w_callV (n := 3) (ov := none) (As := [.int x1, .int x2, .int x3]) (Cs := [pX1 cy o0 q0 σ0]) (Cs' := [pX1 cy o0 q0 u]) S hw (c_X1_setWay l D cy o0 q0 x1 x2 x3 σ0 u hf) (MF.of S.2.2.2.2 wd293 wd72 (by decide)) (S.2.2.2.2.wd wd291 rfl) (S.2.2.2.2.wd wd292 rfl) hl hR js hC hnd hlen rfl rfl rfl rfl hsize rfl hrest hdg hcs kk
end
abbrev rmX1_cornerOfThing : Room := { frames := 2, cells := 0, slots := 0, locals := 42 }
def f_X1_cornerOfThing (x1 : Int32) (σ0 : pStt) : Option (Int32) := (ld (σ0.2 1) 8 x1).bind (fun x_1 => (f_X8_isCorner x_1).bind (fun u_2 => (if u_2 = 0 then some ((-6)) else (ld (σ0.2 1) 8 x1).bind (fun x_5 => some x_5) : Option Int32).bind (fun v_3 => some v_3)))
set_option maxHeartbeats 4000000 in
set_option maxRecDepth 100000 in
theorem c_X1_cornerOfThing (l : Launch) (D : va_G) (cy : Nat → ClassId) (o0 : Nat) (q0 : Nat → Nat) (x1 : Int32) (σ0 : pStt) (u : Int32) (hf : f_X1_cornerOfThing x1 σ0 = some u) : CT l yX1_cornerOfThing cX1_cornerOfThing 2 (some .int) rmX1_cornerOfThing D cy [.ref o0, .int x1] [pX1 cy o0 q0 σ0] (some (.int u)) [pX1 cy o0 q0 σ0] := by
  refine CT.of (by decide) (Nat.le_of_ble_eq_true rfl) (fun p e s m args below meth c ls A Q hA hQ S hr hlk hl hw => ?_)
  have hl : lv_has ls 2 [(0, .ref o0), (1, .int x1)] := hl
  rw [f_X1_cornerOfThing] at hf
  refine lv_aload_n S.1 S.2.1 dX1_cornerOfThing_0 rfl (lv_at hl 0 rfl) ?_
  refine gf_X1_15 S hw 0 rfl dX1_cornerOfThing_1 ?_
  refine lv_iload_n S.1 S.2.1 dX1_cornerOfThing_4 rfl (lv_at hl 1 rfl) ?_
  obtain ⟨x_1, e_x_1, hf⟩ := ob hf
  refine al_X1_1 S hw 0 rfl e_x_1 dX1_cornerOfThing_5 ?_
  obtain ⟨u_2, e_u_2, hf⟩ := ob hf
  refine kn_X8_isCorner S (S.2.2.2.2.wd wd315 rfl) hw e_u_2 [] rfl (by decide) rfl ⟨rfl, rfl, Nat.le_of_ble_eq_true rfl, Nat.le_of_ble_eq_true rfl⟩ hl.1 (Nat.le_of_ble_eq_true rfl) dX1_cornerOfThing_6 ⟨Nat.zero_le _, Nat.zero_le _⟩ (fun H locs hw => ?_)
  have hw : PW D A s.heap [pX1 cy o0 q0 σ0] H locs := hw
  obtain ⟨v_3, e_v_3, hf⟩ := ob hf
  have hJ_v_3 : ∀ (H : Heap) (locs : List Loc), PW D A s.heap [pX1 cy o0 q0 σ0] H locs → W p l e rmX1_cornerOfThing s m args below meth c H locs 0 0 Q (F0 m 23 ls [.int v_3]) := by
    intro H locs hw
    cases hf
    exact w_iret S hr hlk hA hQ hw dX1_cornerOfThing_23
  replace hf := e_v_3
  clear e_v_3
  refine lv_if_eq (tgt := 21) S.1 S.2.1 dX1_cornerOfThing_9 (by decide) (fun c_4 => ?_) (fun c_4 => ?_)
  · replace hf := (if_pos c_4).symm.trans hf
    refine lv_bipush (v := (-6)) S.1 S.2.1 dX1_cornerOfThing_21 (by decide) ?_
    cases hf
    exact hJ_v_3 _ _ hw
  · replace hf := (if_neg c_4).symm.trans hf
    refine lv_aload_n S.1 S.2.1 dX1_cornerOfThing_12 rfl (lv_at hl 0 rfl) ?_
    refine gf_X1_15 S hw 0 rfl dX1_cornerOfThing_13 ?_
    refine lv_iload_n S.1 S.2.1 dX1_cornerOfThing_16 rfl (lv_at hl 1 rfl) ?_
    obtain ⟨x_5, e_x_5, hf⟩ := ob hf
    refine al_X1_1 S hw 0 rfl e_x_5 dX1_cornerOfThing_17 ?_
    refine lv_goto (tgt := 23) S.1 S.2.1 dX1_cornerOfThing_18 (by decide) ?_
    cases hf
    exact hJ_v_3 _ _ hw
section
variable {p : Program} {l : Launch} {e : Env} {R : Room} {s : State} {m : MethodId} {args : Array Value} {below : List Frame} {meth : Method} {c : Code} {H : Heap} {locs : List Loc} {cells slots : Nat} {Q : State → Prop} {cc : ByteArray} {pc nL : Nat} {ls : Array Slot} {rest : List Value} {D : va_G} {cy : Nat → ClassId} {A : Nat → Prop} {H0 : Heap} {own : String} {Ps : List va_W}
set_option maxRecDepth 100000 in
theorem k_X1_cornerOfThing {o0 : Nat} {q0 : Nat → Nat} {x1 : Int32} {σ0 : pStt} {u : Int32} {index : Nat} (S : CX p m c cc nL s args own D cy) (hl : (Cond.methodLink own index yX1_cornerOfThing).before args s = true) (hw : PW D A H0 Ps H locs) (hf : f_X1_cornerOfThing x1 σ0 = some u) (js : List Nat) (hC : js.map (fun j => Ps[j]?) = [some (pX1 cy o0 q0 σ0)]) (hnd : js.Nodup) (hlen : js.length = 1) (hR : RMok rmX1_cornerOfThing R 2) (hsize : ls.size = nL) (hrest : (rest.map fun v => v.category).sum ≤ 8) (hdg : decode cc pc = .ok (.invokevirtual index, 3)) (hcs : cells ≤ R.cells ∧ slots ≤ R.slots)
    (kk : ∀ (H1 : Heap) (locs1 : List Loc), PW D A H0 (setAll Ps js [pX1 cy o0 q0 σ0]) H1 locs1 → W p l e R s m args below meth c H1 locs1 cells slots Q (F0 m (pc + 3) ls (.int u :: rest))) : W p l e R s m args below meth c H locs cells slots Q (F0 m pc ls (.int x1 :: .ref o0 :: rest)) :=
  w_callV (n := 1) (ov := (some (.int u))) (As := [.int x1]) (Cs := [pX1 cy o0 q0 σ0]) (Cs' := [pX1 cy o0 q0 σ0]) S hw (c_X1_cornerOfThing l D cy o0 q0 x1 σ0 u hf) (MF.of S.2.2.2.2 wd314 wd72 (by decide)) (S.2.2.2.2.wd wd312 rfl) (S.2.2.2.2.wd wd313 rfl) hl hR js hC hnd hlen rfl rfl rfl rfl hsize rfl hrest hdg hcs kk
end
abbrev rmX1_holderOfThing : Room := { frames := 0, cells := 0, slots := 0, locals := 0 }
def f_X1_holderOfThing (x1 : Int32) (σ0 : pStt) : Option (Int32) := (ld (σ0.2 1) 8 x1).bind (fun x_1 => (if x_1 < 8 then some ((-6)) else (ld (σ0.2 1) 8 x1).bind (fun x_4 => some ((x_4 - (8 : Int32)))) : Option Int32).bind (fun v_2 => some v_2))
set_option maxHeartbeats 4000000 in
set_option maxRecDepth 100000 in
theorem c_X1_holderOfThing (l : Launch) (D : va_G) (cy : Nat → ClassId) (o0 : Nat) (q0 : Nat → Nat) (x1 : Int32) (σ0 : pStt) (u : Int32) (hf : f_X1_holderOfThing x1 σ0 = some u) : CT l yX1_holderOfThing cX1_holderOfThing 2 (some .int) rmX1_holderOfThing D cy [.ref o0, .int x1] [pX1 cy o0 q0 σ0] (some (.int u)) [pX1 cy o0 q0 σ0] := by
  refine CT.of (by decide) (Nat.le_of_ble_eq_true rfl) (fun p e s m args below meth c ls A Q hA hQ S hr hlk hl hw => ?_)
  have hl : lv_has ls 2 [(0, .ref o0), (1, .int x1)] := hl
  rw [f_X1_holderOfThing] at hf
  refine lv_aload_n S.1 S.2.1 dX1_holderOfThing_0 rfl (lv_at hl 0 rfl) ?_
  refine gf_X1_15 S hw 0 rfl dX1_holderOfThing_1 ?_
  refine lv_iload_n S.1 S.2.1 dX1_holderOfThing_4 rfl (lv_at hl 1 rfl) ?_
  obtain ⟨x_1, e_x_1, hf⟩ := ob hf
  refine al_X1_1 S hw 0 rfl e_x_1 dX1_holderOfThing_5 ?_
  refine lv_bipush (v := 8) S.1 S.2.1 dX1_holderOfThing_6 (by decide) ?_
  obtain ⟨v_2, e_v_2, hf⟩ := ob hf
  have hJ_v_2 : ∀ (H : Heap) (locs : List Loc), PW D A s.heap [pX1 cy o0 q0 σ0] H locs → W p l e rmX1_holderOfThing s m args below meth c H locs 0 0 Q (F0 m 25 ls [.int v_2]) := by
    intro H locs hw
    cases hf
    exact w_iret S hr hlk hA hQ hw dX1_holderOfThing_25
  replace hf := e_v_2
  clear e_v_2
  refine lv_icmp_lt (tgt := 23) S.1 S.2.1 dX1_holderOfThing_8 (by decide) (fun c_3 => ?_) (fun c_3 => ?_)
  · replace hf := (if_pos c_3).symm.trans hf
    refine lv_bipush (v := (-6)) S.1 S.2.1 dX1_holderOfThing_23 (by decide) ?_
    cases hf
    exact hJ_v_2 _ _ hw
  · replace hf := (if_neg c_3).symm.trans hf
    refine lv_aload_n S.1 S.2.1 dX1_holderOfThing_11 rfl (lv_at hl 0 rfl) ?_
    refine gf_X1_15 S hw 0 rfl dX1_holderOfThing_12 ?_
    refine lv_iload_n S.1 S.2.1 dX1_holderOfThing_15 rfl (lv_at hl 1 rfl) ?_
    obtain ⟨x_4, e_x_4, hf⟩ := ob hf
    refine al_X1_1 S hw 0 rfl e_x_4 dX1_holderOfThing_16 ?_
    refine lv_bipush (v := 8) S.1 S.2.1 dX1_holderOfThing_17 (by decide) ?_
    refine lv_isub S.1 S.2.1 dX1_holderOfThing_19 ?_
    refine lv_goto (tgt := 25) S.1 S.2.1 dX1_holderOfThing_20 (by decide) ?_
    cases hf
    exact hJ_v_2 _ _ hw
section
variable {p : Program} {l : Launch} {e : Env} {R : Room} {s : State} {m : MethodId} {args : Array Value} {below : List Frame} {meth : Method} {c : Code} {H : Heap} {locs : List Loc} {cells slots : Nat} {Q : State → Prop} {cc : ByteArray} {pc nL : Nat} {ls : Array Slot} {rest : List Value} {D : va_G} {cy : Nat → ClassId} {A : Nat → Prop} {H0 : Heap} {own : String} {Ps : List va_W}
set_option maxRecDepth 100000 in
theorem k_X1_holderOfThing {o0 : Nat} {q0 : Nat → Nat} {x1 : Int32} {σ0 : pStt} {u : Int32} {index : Nat} (S : CX p m c cc nL s args own D cy) (hl : (Cond.methodLink own index yX1_holderOfThing).before args s = true) (hw : PW D A H0 Ps H locs) (hf : f_X1_holderOfThing x1 σ0 = some u) (js : List Nat) (hC : js.map (fun j => Ps[j]?) = [some (pX1 cy o0 q0 σ0)]) (hnd : js.Nodup) (hlen : js.length = 1) (hR : RMok rmX1_holderOfThing R 2) (hsize : ls.size = nL) (hrest : (rest.map fun v => v.category).sum ≤ 8) (hdg : decode cc pc = .ok (.invokevirtual index, 3)) (hcs : cells ≤ R.cells ∧ slots ≤ R.slots)
    (kk : ∀ (H1 : Heap) (locs1 : List Loc), PW D A H0 (setAll Ps js [pX1 cy o0 q0 σ0]) H1 locs1 → W p l e R s m args below meth c H1 locs1 cells slots Q (F0 m (pc + 3) ls (.int u :: rest))) : W p l e R s m args below meth c H locs cells slots Q (F0 m pc ls (.int x1 :: .ref o0 :: rest)) :=
  w_callV (n := 1) (ov := (some (.int u))) (As := [.int x1]) (Cs := [pX1 cy o0 q0 σ0]) (Cs' := [pX1 cy o0 q0 σ0]) S hw (c_X1_holderOfThing l D cy o0 q0 x1 σ0 u hf) (MF.of S.2.2.2.2 wd472 wd72 (by decide)) (S.2.2.2.2.wd wd470 rfl) (S.2.2.2.2.wd wd471 rfl) hl hR js hC hnd hlen rfl rfl rfl rfl hsize rfl hrest hdg hcs kk
end
abbrev rmX1_carriedBy : Room := { frames := 0, cells := 0, slots := 0, locals := 0 }
def fl_X1_carriedBy_4 (y1 : Int32) (σ0 : pStt) : Nat → Int32 → Int32 → Option (Int32)
  | 0, _, _ => none
  | n + 1, y2, y3 => if 8 ≤ y3 then some y2 else (ld (σ0.2 1) 8 y3).bind (fun x_2 => if x_2 = ((8 : Int32) + y1) then fl_X1_carriedBy_4 y1 σ0 n ((y2 ||| ((1 : Int32) <<< (y3 &&& 31)))) ((y3 + 1)) else fl_X1_carriedBy_4 y1 σ0 n y2 ((y3 + 1)))
def f_X1_carriedBy (x1 : Int32) (σ0 : pStt) : Option (Int32) := (fl_X1_carriedBy_4 x1 σ0 2000 0 0).bind (fun u_4 => some u_4)
section
variable {p : Program} {l : Launch} {e : Env} {s : State} {m : MethodId} {args : Array Value} {below : List Frame} {meth : Method} {c : Code} {Q : State → Prop} {D : va_G} {cy : Nat → ClassId} {A : Nat → Prop} {H0 : Heap}
set_option maxHeartbeats 4000000 in
set_option maxRecDepth 100000 in
theorem lp_X1_carriedBy_4 (S : CX p m c cX1_carriedBy 4 s args RX1 D cy) {o0 : Nat} {q0 : Nat → Nat} {σ0 : pStt} {y1 : Int32} : ∀ (n : Nat) (y2 : Int32) (y3 : Int32) (H : Heap) (locs : List Loc) (ls : Array Slot) (u : Int32), PW D A H0 [pX1 cy o0 q0 σ0] H locs → lv_has ls 4 [(0, .ref o0), (1, .int y1), (2, .int y2), (3, .int y3)] → fl_X1_carriedBy_4 y1 σ0 n y2 y3 = some u → (∀ (H : Heap) (locs : List Loc) (ls : Array Slot), PW D A H0 [pX1 cy o0 q0 σ0] H locs → lv_has ls 4 [(2, .int u)] → W p l e rmX1_carriedBy s m args below meth c H locs 0 0 Q (F0 m 35 ls [])) → W p l e rmX1_carriedBy s m args below meth c H locs 0 0 Q (F0 m 4 ls []) := by
  intro n
  induction n with
  | zero =>
    intro y2 y3 H locs ls u hw hl hf K0
    rw [fl_X1_carriedBy_4] at hf
    cases hf
  | succ n ih =>
    intro y2 y3 H locs ls u hw hl hf K0
    rw [fl_X1_carriedBy_4] at hf
    refine lv_iload_n S.1 S.2.1 dX1_carriedBy_4 rfl (lv_at hl 3 rfl) ?_
    refine lv_bipush (v := 8) S.1 S.2.1 dX1_carriedBy_5 (by decide) ?_
    refine lv_icmp_ge (tgt := 35) S.1 S.2.1 dX1_carriedBy_7 (by decide) (fun c_1 => ?_) (fun c_1 => ?_)
    · replace hf := (if_pos c_1).symm.trans hf
      cases hf
      exact K0 _ _ _ hw (lv_sub hl [2] rfl)
    · replace hf := (if_neg c_1).symm.trans hf
      refine lv_aload_n S.1 S.2.1 dX1_carriedBy_10 rfl (lv_at hl 0 rfl) ?_
      refine gf_X1_15 S hw 0 rfl dX1_carriedBy_11 ?_
      refine lv_iload_n S.1 S.2.1 dX1_carriedBy_14 rfl (lv_at hl 3 rfl) ?_
      obtain ⟨x_2, e_x_2, hf⟩ := ob hf
      refine al_X1_1 S hw 0 rfl e_x_2 dX1_carriedBy_15 ?_
      refine lv_bipush (v := 8) S.1 S.2.1 dX1_carriedBy_16 (by decide) ?_
      refine lv_iload_n S.1 S.2.1 dX1_carriedBy_18 rfl (lv_at hl 1 rfl) ?_
      refine lv_iadd S.1 S.2.1 dX1_carriedBy_19 ?_
      refine lv_icmp_ne (tgt := 29) S.1 S.2.1 dX1_carriedBy_20 (by decide) (fun c_3 => ?_) (fun c_3 => ?_)
      · replace hf := (if_neg c_3).symm.trans hf
        refine lv_iinc (v := (y3 + 1)) (lv' := [(3, .int ((y3 + 1))), (0, .ref o0), (1, .int y1), (2, .int y2)]) S.1 S.2.1 dX1_carriedBy_29 hl (k := 3) rfl rfl (by decide) rfl (fun ls hl => ?_)
        refine lv_goto (tgt := 4) S.1 S.2.1 dX1_carriedBy_32 (by decide) ?_
        exact ih _ _ _ _ _ _ hw (lv_sub hl [1, 2, 3, 0] rfl) hf K0
      · replace hf := (if_pos c_3).symm.trans hf
        refine lv_iload_n S.1 S.2.1 dX1_carriedBy_23 rfl (lv_at hl 2 rfl) ?_
        refine lv_iconst (v := 1) S.1 S.2.1 dX1_carriedBy_24 (by decide) ?_
        refine lv_iload_n S.1 S.2.1 dX1_carriedBy_25 rfl (lv_at hl 3 rfl) ?_
        refine lv_ishl S.1 S.2.1 dX1_carriedBy_26 ?_
        refine lv_ior S.1 S.2.1 dX1_carriedBy_27 ?_
        refine lv_istore_n (lv' := [(2, .int ((y2 ||| ((1 : Int32) <<< (y3 &&& 31))))), (0, .ref o0), (1, .int y1), (3, .int y3)]) S.1 S.2.1 dX1_carriedBy_28 rfl hl (by decide) rfl (fun ls hl => ?_)
        refine lv_iinc (v := (y3 + 1)) (lv' := [(3, .int ((y3 + 1))), (2, .int ((y2 ||| ((1 : Int32) <<< (y3 &&& 31))))), (0, .ref o0), (1, .int y1)]) S.1 S.2.1 dX1_carriedBy_29 hl (k := 3) rfl rfl (by decide) rfl (fun ls hl => ?_)
        refine lv_goto (tgt := 4) S.1 S.2.1 dX1_carriedBy_32 (by decide) ?_
        exact ih _ _ _ _ _ _ hw (lv_sub hl [2, 3, 1, 0] rfl) hf K0
end
set_option maxHeartbeats 4000000 in
set_option maxRecDepth 100000 in
theorem c_X1_carriedBy (l : Launch) (D : va_G) (cy : Nat → ClassId) (o0 : Nat) (q0 : Nat → Nat) (x1 : Int32) (σ0 : pStt) (u : Int32) (hf : f_X1_carriedBy x1 σ0 = some u) : CT l yX1_carriedBy cX1_carriedBy 4 (some .int) rmX1_carriedBy D cy [.ref o0, .int x1] [pX1 cy o0 q0 σ0] (some (.int u)) [pX1 cy o0 q0 σ0] := by
  refine CT.of (by decide) (Nat.le_of_ble_eq_true rfl) (fun p e s m args below meth c ls A Q hA hQ S hr hlk hl hw => ?_)
  have hl : lv_has ls 4 [(0, .ref o0), (1, .int x1)] := hl
  rw [f_X1_carriedBy] at hf
  refine lv_iconst (v := 0) S.1 S.2.1 dX1_carriedBy_0 (by decide) ?_
  refine lv_istore_n (lv' := [(2, .int 0), (0, .ref o0), (1, .int x1)]) S.1 S.2.1 dX1_carriedBy_1 rfl hl (by decide) rfl (fun ls hl => ?_)
  refine lv_iconst (v := 0) S.1 S.2.1 dX1_carriedBy_2 (by decide) ?_
  refine lv_istore_n (lv' := [(3, .int 0), (2, .int 0), (0, .ref o0), (1, .int x1)]) S.1 S.2.1 dX1_carriedBy_3 rfl hl (by decide) rfl (fun ls hl => ?_)
  obtain ⟨u_4, e_u_4, hf⟩ := ob hf
  refine lp_X1_carriedBy_4 S 2000 _ _ _ _ _ _ hw (lv_sub hl [2, 3, 1, 0] rfl) e_u_4 ?_
  · intro H locs ls hw hl
    refine lv_iload_n S.1 S.2.1 dX1_carriedBy_35 rfl (lv_at hl 0 rfl) ?_
    cases hf
    exact w_iret S hr hlk hA hQ hw dX1_carriedBy_36
section
variable {p : Program} {l : Launch} {e : Env} {R : Room} {s : State} {m : MethodId} {args : Array Value} {below : List Frame} {meth : Method} {c : Code} {H : Heap} {locs : List Loc} {cells slots : Nat} {Q : State → Prop} {cc : ByteArray} {pc nL : Nat} {ls : Array Slot} {rest : List Value} {D : va_G} {cy : Nat → ClassId} {A : Nat → Prop} {H0 : Heap} {own : String} {Ps : List va_W}
set_option maxRecDepth 100000 in
theorem k_X1_carriedBy {o0 : Nat} {q0 : Nat → Nat} {x1 : Int32} {σ0 : pStt} {u : Int32} {index : Nat} (S : CX p m c cc nL s args own D cy) (hl : (Cond.methodLink own index yX1_carriedBy).before args s = true) (hw : PW D A H0 Ps H locs) (hf : f_X1_carriedBy x1 σ0 = some u) (js : List Nat) (hC : js.map (fun j => Ps[j]?) = [some (pX1 cy o0 q0 σ0)]) (hnd : js.Nodup) (hlen : js.length = 1) (hR : RMok rmX1_carriedBy R 4) (hsize : ls.size = nL) (hrest : (rest.map fun v => v.category).sum ≤ 8) (hdg : decode cc pc = .ok (.invokevirtual index, 3)) (hcs : cells ≤ R.cells ∧ slots ≤ R.slots)
    (kk : ∀ (H1 : Heap) (locs1 : List Loc), PW D A H0 (setAll Ps js [pX1 cy o0 q0 σ0]) H1 locs1 → W p l e R s m args below meth c H1 locs1 cells slots Q (F0 m (pc + 3) ls (.int u :: rest))) : W p l e R s m args below meth c H locs cells slots Q (F0 m pc ls (.int x1 :: .ref o0 :: rest)) :=
  w_callV (n := 1) (ov := (some (.int u))) (As := [.int x1]) (Cs := [pX1 cy o0 q0 σ0]) (Cs' := [pX1 cy o0 q0 σ0]) S hw (c_X1_carriedBy l D cy o0 q0 x1 σ0 u hf) (MF.of S.2.2.2.2 wd464 wd72 (by decide)) (S.2.2.2.2.wd wd462 rfl) (S.2.2.2.2.wd wd463 rfl) hl hR js hC hnd hlen rfl rfl rfl rfl hsize rfl hrest hdg hcs kk
end
abbrev rmX1_cornerOfPerson : Room := { frames := 0, cells := 0, slots := 0, locals := 0 }
def f_X1_cornerOfPerson (x1 : Int32) (σ0 : pStt) : Option (Int32) := (ld (σ0.2 2) 6 x1).bind (fun x_1 => (if x_1 = (-1) then some ((-6)) else (ld (σ0.2 2) 6 x1).bind (fun x_4 => some x_4) : Option Int32).bind (fun v_2 => some v_2))
set_option maxHeartbeats 4000000 in
set_option maxRecDepth 100000 in
theorem c_X1_cornerOfPerson (l : Launch) (D : va_G) (cy : Nat → ClassId) (o0 : Nat) (q0 : Nat → Nat) (x1 : Int32) (σ0 : pStt) (u : Int32) (hf : f_X1_cornerOfPerson x1 σ0 = some u) : CT l yX1_cornerOfPerson cX1_cornerOfPerson 2 (some .int) rmX1_cornerOfPerson D cy [.ref o0, .int x1] [pX1 cy o0 q0 σ0] (some (.int u)) [pX1 cy o0 q0 σ0] := by
  refine CT.of (by decide) (Nat.le_of_ble_eq_true rfl) (fun p e s m args below meth c ls A Q hA hQ S hr hlk hl hw => ?_)
  have hl : lv_has ls 2 [(0, .ref o0), (1, .int x1)] := hl
  rw [f_X1_cornerOfPerson] at hf
  refine lv_aload_n S.1 S.2.1 dX1_cornerOfPerson_0 rfl (lv_at hl 0 rfl) ?_
  refine gf_X1_18 S hw 0 rfl dX1_cornerOfPerson_1 ?_
  refine lv_iload_n S.1 S.2.1 dX1_cornerOfPerson_4 rfl (lv_at hl 1 rfl) ?_
  obtain ⟨x_1, e_x_1, hf⟩ := ob hf
  refine al_X1_2 S hw 0 rfl e_x_1 dX1_cornerOfPerson_5 ?_
  refine lv_iconst (v := (-1)) S.1 S.2.1 dX1_cornerOfPerson_6 (by decide) ?_
  obtain ⟨v_2, e_v_2, hf⟩ := ob hf
  have hJ_v_2 : ∀ (H : Heap) (locs : List Loc), PW D A s.heap [pX1 cy o0 q0 σ0] H locs → W p l e rmX1_cornerOfPerson s m args below meth c H locs 0 0 Q (F0 m 21 ls [.int v_2]) := by
    intro H locs hw
    cases hf
    exact w_iret S hr hlk hA hQ hw dX1_cornerOfPerson_21
  replace hf := e_v_2
  clear e_v_2
  refine lv_icmp_ne (tgt := 15) S.1 S.2.1 dX1_cornerOfPerson_7 (by decide) (fun c_3 => ?_) (fun c_3 => ?_)
  · replace hf := (if_neg c_3).symm.trans hf
    refine lv_aload_n S.1 S.2.1 dX1_cornerOfPerson_15 rfl (lv_at hl 0 rfl) ?_
    refine gf_X1_18 S hw 0 rfl dX1_cornerOfPerson_16 ?_
    refine lv_iload_n S.1 S.2.1 dX1_cornerOfPerson_19 rfl (lv_at hl 1 rfl) ?_
    obtain ⟨x_4, e_x_4, hf⟩ := ob hf
    refine al_X1_2 S hw 0 rfl e_x_4 dX1_cornerOfPerson_20 ?_
    cases hf
    exact hJ_v_2 _ _ hw
  · replace hf := (if_pos c_3).symm.trans hf
    refine lv_bipush (v := (-6)) S.1 S.2.1 dX1_cornerOfPerson_10 (by decide) ?_
    refine lv_goto (tgt := 21) S.1 S.2.1 dX1_cornerOfPerson_12 (by decide) ?_
    cases hf
    exact hJ_v_2 _ _ hw
section
variable {p : Program} {l : Launch} {e : Env} {R : Room} {s : State} {m : MethodId} {args : Array Value} {below : List Frame} {meth : Method} {c : Code} {H : Heap} {locs : List Loc} {cells slots : Nat} {Q : State → Prop} {cc : ByteArray} {pc nL : Nat} {ls : Array Slot} {rest : List Value} {D : va_G} {cy : Nat → ClassId} {A : Nat → Prop} {H0 : Heap} {own : String} {Ps : List va_W}
set_option maxRecDepth 100000 in
theorem k_X1_cornerOfPerson {o0 : Nat} {q0 : Nat → Nat} {x1 : Int32} {σ0 : pStt} {u : Int32} {index : Nat} (S : CX p m c cc nL s args own D cy) (hl : (Cond.methodLink own index yX1_cornerOfPerson).before args s = true) (hw : PW D A H0 Ps H locs) (hf : f_X1_cornerOfPerson x1 σ0 = some u) (js : List Nat) (hC : js.map (fun j => Ps[j]?) = [some (pX1 cy o0 q0 σ0)]) (hnd : js.Nodup) (hlen : js.length = 1) (hR : RMok rmX1_cornerOfPerson R 2) (hsize : ls.size = nL) (hrest : (rest.map fun v => v.category).sum ≤ 8) (hdg : decode cc pc = .ok (.invokevirtual index, 3)) (hcs : cells ≤ R.cells ∧ slots ≤ R.slots)
    (kk : ∀ (H1 : Heap) (locs1 : List Loc), PW D A H0 (setAll Ps js [pX1 cy o0 q0 σ0]) H1 locs1 → W p l e R s m args below meth c H1 locs1 cells slots Q (F0 m (pc + 3) ls (.int u :: rest))) : W p l e R s m args below meth c H locs cells slots Q (F0 m pc ls (.int x1 :: .ref o0 :: rest)) :=
  w_callV (n := 1) (ov := (some (.int u))) (As := [.int x1]) (Cs := [pX1 cy o0 q0 σ0]) (Cs' := [pX1 cy o0 q0 σ0]) S hw (c_X1_cornerOfPerson l D cy o0 q0 x1 σ0 u hf) (MF.of S.2.2.2.2 wd326 wd72 (by decide)) (S.2.2.2.2.wd wd324 rfl) (S.2.2.2.2.wd wd325 rfl) hl hR js hC hnd hlen rfl rfl rfl rfl hsize rfl hrest hdg hcs kk
end
abbrev rmX1_sitsAsNumber : Room := { frames := 1, cells := 0, slots := 0, locals := 21 }
def f_X1_sitsAsNumber (x1 : Int32) (σ0 : pStt) : Option (Int32) := (f_X8_holds ((σ0.1 0)) x1).bind (fun u_1 => (if u_1 = 0 then some 0 else some 1 : Option Int32).bind (fun v_2 => some v_2))
set_option maxHeartbeats 4000000 in
set_option maxRecDepth 100000 in
theorem c_X1_sitsAsNumber (l : Launch) (D : va_G) (cy : Nat → ClassId) (o0 : Nat) (q0 : Nat → Nat) (x1 : Int32) (σ0 : pStt) (u : Int32) (hf : f_X1_sitsAsNumber x1 σ0 = some u) : CT l yX1_sitsAsNumber cX1_sitsAsNumber 2 (some .int) rmX1_sitsAsNumber D cy [.ref o0, .int x1] [pX1 cy o0 q0 σ0] (some (.int u)) [pX1 cy o0 q0 σ0] := by
  refine CT.of (by decide) (Nat.le_of_ble_eq_true rfl) (fun p e s m args below meth c ls A Q hA hQ S hr hlk hl hw => ?_)
  have hl : lv_has ls 2 [(0, .ref o0), (1, .int x1)] := hl
  rw [f_X1_sitsAsNumber] at hf
  refine lv_aload_n S.1 S.2.1 dX1_sitsAsNumber_0 rfl (lv_at hl 0 rfl) ?_
  refine gf_X1_34 S hw 0 rfl dX1_sitsAsNumber_1 ?_
  refine lv_iload_n S.1 S.2.1 dX1_sitsAsNumber_4 rfl (lv_at hl 1 rfl) ?_
  obtain ⟨u_1, e_u_1, hf⟩ := ob hf
  refine kn_X8_holds S (S.2.2.2.2.wd wd420 rfl) hw e_u_1 [] rfl (by decide) rfl ⟨rfl, rfl, Nat.le_of_ble_eq_true rfl, Nat.le_of_ble_eq_true rfl⟩ hl.1 (Nat.le_of_ble_eq_true rfl) dX1_sitsAsNumber_5 ⟨Nat.zero_le _, Nat.zero_le _⟩ (fun H locs hw => ?_)
  have hw : PW D A s.heap [pX1 cy o0 q0 σ0] H locs := hw
  obtain ⟨v_2, e_v_2, hf⟩ := ob hf
  have hJ_v_2 : ∀ (H : Heap) (locs : List Loc), PW D A s.heap [pX1 cy o0 q0 σ0] H locs → W p l e rmX1_sitsAsNumber s m args below meth c H locs 0 0 Q (F0 m 16 ls [.int v_2]) := by
    intro H locs hw
    cases hf
    exact w_iret S hr hlk hA hQ hw dX1_sitsAsNumber_16
  replace hf := e_v_2
  clear e_v_2
  refine lv_if_eq (tgt := 15) S.1 S.2.1 dX1_sitsAsNumber_8 (by decide) (fun c_3 => ?_) (fun c_3 => ?_)
  · replace hf := (if_pos c_3).symm.trans hf
    refine lv_iconst (v := 0) S.1 S.2.1 dX1_sitsAsNumber_15 (by decide) ?_
    cases hf
    exact hJ_v_2 _ _ hw
  · replace hf := (if_neg c_3).symm.trans hf
    refine lv_iconst (v := 1) S.1 S.2.1 dX1_sitsAsNumber_11 (by decide) ?_
    refine lv_goto (tgt := 16) S.1 S.2.1 dX1_sitsAsNumber_12 (by decide) ?_
    cases hf
    exact hJ_v_2 _ _ hw
section
variable {p : Program} {l : Launch} {e : Env} {R : Room} {s : State} {m : MethodId} {args : Array Value} {below : List Frame} {meth : Method} {c : Code} {H : Heap} {locs : List Loc} {cells slots : Nat} {Q : State → Prop} {cc : ByteArray} {pc nL : Nat} {ls : Array Slot} {rest : List Value} {D : va_G} {cy : Nat → ClassId} {A : Nat → Prop} {H0 : Heap} {own : String} {Ps : List va_W}
set_option maxRecDepth 100000 in
theorem k_X1_sitsAsNumber {o0 : Nat} {q0 : Nat → Nat} {x1 : Int32} {σ0 : pStt} {u : Int32} {index : Nat} (S : CX p m c cc nL s args own D cy) (hl : (Cond.methodLink own index yX1_sitsAsNumber).before args s = true) (hw : PW D A H0 Ps H locs) (hf : f_X1_sitsAsNumber x1 σ0 = some u) (js : List Nat) (hC : js.map (fun j => Ps[j]?) = [some (pX1 cy o0 q0 σ0)]) (hnd : js.Nodup) (hlen : js.length = 1) (hR : RMok rmX1_sitsAsNumber R 2) (hsize : ls.size = nL) (hrest : (rest.map fun v => v.category).sum ≤ 8) (hdg : decode cc pc = .ok (.invokevirtual index, 3)) (hcs : cells ≤ R.cells ∧ slots ≤ R.slots)
    (kk : ∀ (H1 : Heap) (locs1 : List Loc), PW D A H0 (setAll Ps js [pX1 cy o0 q0 σ0]) H1 locs1 → W p l e R s m args below meth c H1 locs1 cells slots Q (F0 m (pc + 3) ls (.int u :: rest))) : W p l e R s m args below meth c H locs cells slots Q (F0 m pc ls (.int x1 :: .ref o0 :: rest)) :=
  w_callV (n := 1) (ov := (some (.int u))) (As := [.int x1]) (Cs := [pX1 cy o0 q0 σ0]) (Cs' := [pX1 cy o0 q0 σ0]) S hw (c_X1_sitsAsNumber l D cy o0 q0 x1 σ0 u hf) (MF.of S.2.2.2.2 wd460 wd72 (by decide)) (S.2.2.2.2.wd wd458 rfl) (S.2.2.2.2.wd wd459 rfl) hl hR js hC hnd hlen rfl rfl rfl rfl hsize rfl hrest hdg hcs kk
end
