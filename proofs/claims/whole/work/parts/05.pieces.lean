set_option maxRecDepth 100000 in
theorem wd_mmax : Cond.code Lib.Math.max.name Lib.Math.max.code 2 (some .int) ∈ lw_tbl := List.mem_of_getElem? (i := 592) (by decide +kernel)
set_option maxRecDepth 100000 in
theorem wd_mmin : Cond.code Lib.Math.min.name Lib.Math.min.code 2 (some .int) ∈ lw_tbl := List.mem_of_getElem? (i := 442) (by decide +kernel)
theorem w_ldcw {p : Program} {l : Launch} {e : Env} {R : Room} {s : State} {m : MethodId} {args : Array Value} {below : List Frame} {meth : Method} {c : Code} {H : Heap} {locs : List Loc} {cells slots : Nat} {Q : State → Prop} {cc : ByteArray} {pc : Nat} {ls : Array Slot} {rest : List Value} (hexec : p.tables.exec = Jvm.exec) (hb : c.code = cc) {own : String} {index : Nat} {v : Int32} (hown : s.vm.findClass own = some m.cls) (hconst : (Cond.constant own index v).before args s = true) (hdg : decode cc pc = .ok (.ldc_w index, 3)) (k : W p l e R s m args below meth c H locs cells slots Q (F0 m (pc + 3) ls (.int v :: rest))) : W p l e R s m args below meth c H locs cells slots Q (F0 m pc ls rest) := by
  intro T hT X
  obtain ⟨t, a, b⟩ := k T hT X
  exact ⟨t, va_ldcwI X hexec hown hconst (g := F0 m pc ls rest) rfl (by rw [hb]; exact hdg) t a, b⟩
theorem ne_toInt {x y : Int32} {k : Int} (h : ¬ x = y) (hy : y.toInt = k) : ¬ x.toInt = k := fun e => h (Int32.toInt_inj.mp (e.trans hy.symm))
def sm {α β γ : Type} (f : α → γ) (g : β → γ) : α ⊕ β → γ
  | .inl a => f a
  | .inr b => g b
theorem sm_l {α β γ : Type} (f : α → γ) (g : β → γ) (a : α) : sm f g (.inl a) = f a := rfl
theorem sm_r {α β γ : Type} (f : α → γ) (g : β → γ) (b : β) : sm f g (.inr b) = g b := rfl
theorem w_tabD {p : Program} {l : Launch} {e : Env} {R : Room} {s : State} {m : MethodId} {args : Array Value} {below : List Frame} {meth : Method} {c : Code} {H : Heap} {locs : List Loc} {cells slots : Nat} {Q : State → Prop} {cc : ByteArray} {pc : Nat} {ls : Array Slot} {rest : List Value} (hexec : p.tables.exec = Jvm.exec) (hb : c.code = cc) {dflt lo hi : Int} {offs : Array Int} {len : Nat} {x : Int32} {tgt : Nat} (hdg : decode cc pc = .ok (.tableswitch dflt lo hi offs, len)) (h : (x.toInt < lo ∨ hi < x.toInt) ∨ (¬ x.toInt < lo ∧ ¬ hi < x.toInt ∧ offs[(x.toInt - lo).toNat]? = some dflt)) (ht : (pc : Int) + dflt = (tgt : Int))
    (k : W p l e R s m args below meth c H locs cells slots Q (F0 m tgt ls rest)) : W p l e R s m args below meth c H locs cells slots Q (F0 m pc ls (.int x :: rest)) := by
  rcases h with h | ⟨h1, h2, h3⟩
  · exact lv_tableOut hexec hb hdg h ht k
  · exact lv_tableIn hexec hb hdg h1 h2 h3 ht k
def pX0 (cy : Nat → ClassId) (o : Nat) (q : Nat → Nat) (σ : Nat → Int64) : va_W := [(o, .inr (0, [.ref (q 0)])), (q 0, .inl (cy 2, 6, .inr (.inl σ)))]
set_option maxRecDepth 100000 in
theorem inl_X0 : (wsX00.all (fun w => decide (w ∈ lw_tbl) && tb_ok w)) = true := by decide +kernel
theorem lay_X0 {D : va_G} {cy : Nat → ClassId} {s : State} {args : Array Value} (h : KX D cy s) : ∀ w ∈ u_ws RX0 TX0 1, w.before args s = true := fun w hw => by
  have h1 := List.all_eq_true.mp inl_X0 w hw
  simp only [Bool.and_eq_true, decide_eq_true_eq] at h1
  exact h.wd h1.1 h1.2
def pX1 (cy : Nat → ClassId) (o : Nat) (q : Nat → Nat) (σ : pStt) : va_W := [(o, .inr (1, [.ref (q 0), .ref (q 1), .ref (q 2), .ref (q 3), .int (σ.1 0), .int (σ.1 1), .int (σ.1 2)])), (q 0, .inl (cy 0, 8, .inl (σ.2 0))), (q 1, .inl (cy 0, 8, .inl (σ.2 1))), (q 2, .inl (cy 0, 6, .inl (σ.2 2))), (q 3, .inl (cy 0, 6, .inl (σ.2 3)))]
set_option maxRecDepth 100000 in
theorem inl_X1 : (wsX10.all (fun w => decide (w ∈ lw_tbl) && tb_ok w)) = true := by decide +kernel
theorem lay_X1 {D : va_G} {cy : Nat → ClassId} {s : State} {args : Array Value} (h : KX D cy s) : ∀ w ∈ u_ws RX1 TX1 7, w.before args s = true := fun w hw => by
  have h1 := List.all_eq_true.mp inl_X1 w hw
  simp only [Bool.and_eq_true, decide_eq_true_eq] at h1
  exact h.wd h1.1 h1.2
def pX2 (cy : Nat → ClassId) (o : Nat) (q : Nat → Nat) (σ : pStt) : va_W := [(o, .inr (2, [.ref (q 0)])), (q 0, .inl (cy 0, 256, .inl (σ.2 0)))]
set_option maxRecDepth 100000 in
theorem inl_X2 : (wsX20.all (fun w => decide (w ∈ lw_tbl) && tb_ok w)) = true := by decide +kernel
theorem lay_X2 {D : va_G} {cy : Nat → ClassId} {s : State} {args : Array Value} (h : KX D cy s) : ∀ w ∈ u_ws RX2 TX2 1, w.before args s = true := fun w hw => by
  have h1 := List.all_eq_true.mp inl_X2 w hw
  simp only [Bool.and_eq_true, decide_eq_true_eq] at h1
  exact h.wd h1.1 h1.2
def pX3 (cy : Nat → ClassId) (o : Nat) (q : Nat → Nat) (σ : pStt) : va_W := [(o, .inr (3, [.ref (q 0), .int (σ.1 0), .int (σ.1 1), .int (σ.1 2), .int (σ.1 3), .int (σ.1 4)])), (q 0, .inl (cy 0, 60, .inl (σ.2 0)))]
set_option maxRecDepth 100000 in
theorem inl_X3 : (wsX30.all (fun w => decide (w ∈ lw_tbl) && tb_ok w)) = true := by decide +kernel
theorem lay_X3 {D : va_G} {cy : Nat → ClassId} {s : State} {args : Array Value} (h : KX D cy s) : ∀ w ∈ u_ws RX3 TX3 6, w.before args s = true := fun w hw => by
  have h1 := List.all_eq_true.mp inl_X3 w hw
  simp only [Bool.and_eq_true, decide_eq_true_eq] at h1
  exact h.wd h1.1 h1.2
def pX4 (cy : Nat → ClassId) (o : Nat) (q : Nat → Nat) (σ : pStt) : va_W := [(o, .inr (4, [.ref (q 0), .ref (q 1), .int (σ.1 0)])), (q 0, .inl (cy 0, 12, .inl (σ.2 0))), (q 1, .inl (cy 0, 12, .inl (σ.2 1)))]
set_option maxRecDepth 100000 in
theorem inl_X4 : (wsX40.all (fun w => decide (w ∈ lw_tbl) && tb_ok w)) = true := by decide +kernel
theorem lay_X4 {D : va_G} {cy : Nat → ClassId} {s : State} {args : Array Value} (h : KX D cy s) : ∀ w ∈ u_ws RX4 TX4 3, w.before args s = true := fun w hw => by
  have h1 := List.all_eq_true.mp inl_X4 w hw
  simp only [Bool.and_eq_true, decide_eq_true_eq] at h1
  exact h.wd h1.1 h1.2
def pX5 (cy : Nat → ClassId) (o : Nat) (q : Nat → Nat) (σ : pStt) : va_W := [(o, .inr (5, [.ref (q 0), .int (σ.1 0)])), (q 0, .inl (cy 0, 8, .inl (σ.2 0)))]
set_option maxRecDepth 100000 in
theorem inl_X5 : (wsX50.all (fun w => decide (w ∈ lw_tbl) && tb_ok w)) = true := by decide +kernel
theorem lay_X5 {D : va_G} {cy : Nat → ClassId} {s : State} {args : Array Value} (h : KX D cy s) : ∀ w ∈ u_ws RX5 TX5 2, w.before args s = true := fun w hw => by
  have h1 := List.all_eq_true.mp inl_X5 w hw
  simp only [Bool.and_eq_true, decide_eq_true_eq] at h1
  exact h.wd h1.1 h1.2
def pX6 (o : Nat) (w : Nat → Nat) (σ : pStt) : va_W := [(o, .inr (6, [.ref (w 0), .int (σ.1 0), .int (σ.1 1), .int (σ.1 2), .int (σ.1 3), .int (σ.1 4)]))]
set_option maxRecDepth 100000 in
theorem inl_X6 : (wsX60.all (fun w => decide (w ∈ lw_tbl) && tb_ok w)) = true := by decide +kernel
theorem lay_X6 {D : va_G} {cy : Nat → ClassId} {s : State} {args : Array Value} (h : KX D cy s) : ∀ w ∈ u_ws RX6 TX6 6, w.before args s = true := fun w hw => by
  have h1 := List.all_eq_true.mp inl_X6 w hw
  simp only [Bool.and_eq_true, decide_eq_true_eq] at h1
  exact h.wd h1.1 h1.2
def pX7 (o : Nat) (w : Nat → Nat) : va_W := [(o, .inr (7, [.ref (w 0), .ref (w 1), .ref (w 2)]))]
set_option maxRecDepth 100000 in
theorem inl_X7 : (wsX70.all (fun w => decide (w ∈ lw_tbl) && tb_ok w)) = true := by decide +kernel
theorem lay_X7 {D : va_G} {cy : Nat → ClassId} {s : State} {args : Array Value} (h : KX D cy s) : ∀ w ∈ u_ws RX7 TX7 3, w.before args s = true := fun w hw => by
  have h1 := List.all_eq_true.mp inl_X7 w hw
  simp only [Bool.and_eq_true, decide_eq_true_eq] at h1
  exact h.wd h1.1 h1.2
def pX8 (o : Nat) (w : Nat → Nat) : va_W := [(o, .inr (8, [.ref (w 0), .ref (w 1), .ref (w 2), .ref (w 3), .ref (w 4), .ref (w 5)]))]
set_option maxRecDepth 100000 in
theorem inl_X8 : (wsX80.all (fun w => decide (w ∈ lw_tbl) && tb_ok w)) = true := by decide +kernel
theorem lay_X8 {D : va_G} {cy : Nat → ClassId} {s : State} {args : Array Value} (h : KX D cy s) : ∀ w ∈ u_ws RX8 TX8 6, w.before args s = true := fun w hw => by
  have h1 := List.all_eq_true.mp inl_X8 w hw
  simp only [Bool.and_eq_true, decide_eq_true_eq] at h1
  exact h.wd h1.1 h1.2
def pX9 (cy : Nat → ClassId) (o : Nat) (q : Nat → Nat) (σ : pStt) : va_W := [(o, .inr (9, [.ref (q 0), .ref (q 1), .ref (q 2), .ref (q 3), .ref (q 4), .int (σ.1 0), .int (σ.1 1), .ref (q 5), .ref (q 6), .ref (q 7), .int (σ.1 2), .ref (q 8), .ref (q 9), .ref (q 10), .ref (q 11), .int (σ.1 3), .ref (q 12), .int (σ.1 4), .ref (q 13), .ref (q 14), .ref (q 15), .int (σ.1 5), .int (σ.1 6), .int (σ.1 7), .ref (q 16), .int (σ.1 8), .int (σ.1 9), .int (σ.1 10), .int (σ.1 11), .int (σ.1 12), .int (σ.1 13), .ref (q 17), .ref (q 18), .ref (q 19), .ref (q 20), .int (σ.1 14), .int (σ.1 15)])), (q 0, .inl (cy 0, 8, .inl (σ.2 0))), (q 1, .inl (cy 0, 8, .inl (σ.2 1))), (q 2, .inl (cy 0, 6, .inl (σ.2 2))), (q 3, .inl (cy 0, 6, .inl (σ.2 3))), (q 4, .inl (cy 0, 6, .inl (σ.2 4))), (q 5, .inl (cy 0, 12, .inl (σ.2 5))), (q 6, .inl (cy 0, 12, .inl (σ.2 6))), (q 7, .inl (cy 0, 12, .inl (σ.2 7))), (q 8, .inl (cy 0, 8, .inl (σ.2 8))), (q 9, .inl (cy 0, 8, .inl (σ.2 9))), (q 10, .inl (cy 0, 8, .inl (σ.2 10))), (q 11, .inl (cy 0, 8, .inl (σ.2 11))), (q 12, .inl (cy 0, 60, .inl (σ.2 12))), (q 13, .inl (cy 0, 60, .inl (σ.2 13))), (q 14, .inl (cy 0, 60, .inl (σ.2 14))), (q 15, .inl (cy 0, 60, .inl (σ.2 15))), (q 16, .inl (cy 0, 36, .inl (σ.2 16))), (q 17, .inl (cy 1, 2048, .inl (σ.2 17))), (q 18, .inl (cy 0, 5, .inl (σ.2 18))), (q 19, .inl (cy 0, 220, .inl (σ.2 19))), (q 20, .inl (cy 1, 2, .inl (σ.2 20)))]
set_option maxRecDepth 100000 in
theorem inl_X9 : (wsX90.all (fun w => decide (w ∈ lw_tbl) && tb_ok w)) = true := by decide +kernel
theorem lay_X9 {D : va_G} {cy : Nat → ClassId} {s : State} {args : Array Value} (h : KX D cy s) : ∀ w ∈ u_ws RX9 TX9 37, w.before args s = true := fun w hw => by
  have h1 := List.all_eq_true.mp inl_X9 w hw
  simp only [Bool.and_eq_true, decide_eq_true_eq] at h1
  exact h.wd h1.1 h1.2
set_option maxRecDepth 100000 in
theorem wd0 : Cond.selects RX3 yX3_take yX3_take ∈ lw_tbl := List.mem_of_getElem? (i := 0) (by decide +kernel)
set_option maxRecDepth 100000 in
theorem wd1 : Cond.selects RX3 yX3_signHere yX3_signHere ∈ lw_tbl := List.mem_of_getElem? (i := 1) (by decide +kernel)
set_option maxRecDepth 100000 in
theorem wd2 : Cond.selects RX3 yX3_readDeed yX3_readDeed ∈ lw_tbl := List.mem_of_getElem? (i := 2) (by decide +kernel)
set_option maxRecDepth 100000 in
theorem wd3 : Cond.selects RX3 yX3_readLone yX3_readLone ∈ lw_tbl := List.mem_of_getElem? (i := 3) (by decide +kernel)
set_option maxRecDepth 100000 in
theorem wd4 : Cond.selects RX3 yX3_readPair yX3_readPair ∈ lw_tbl := List.mem_of_getElem? (i := 4) (by decide +kernel)
set_option maxRecDepth 100000 in
theorem wd5 : Cond.selects RX8 yX8_playSession yX8_playSession ∈ lw_tbl := List.mem_of_getElem? (i := 5) (by decide +kernel)
set_option maxRecDepth 100000 in
theorem wd6 : Cond.selects RX1 yX1_whyNoWay yX1_whyNoWay ∈ lw_tbl := List.mem_of_getElem? (i := 6) (by decide +kernel)
set_option maxRecDepth 100000 in
theorem wd7 : Cond.selects RX1 yX1_whyNotOver yX1_whyNotOver ∈ lw_tbl := List.mem_of_getElem? (i := 7) (by decide +kernel)
set_option maxRecDepth 100000 in
theorem wd8 : Cond.selects RX1 yX1_whyNotThere yX1_whyNotThere ∈ lw_tbl := List.mem_of_getElem? (i := 8) (by decide +kernel)
set_option maxRecDepth 100000 in
theorem wd9 : Cond.selects RX1 yX1_passHour yX1_passHour ∈ lw_tbl := List.mem_of_getElem? (i := 9) (by decide +kernel)
set_option maxRecDepth 100000 in
theorem wd10 : Cond.selects RX6 yX6_noteSitters yX6_noteSitters ∈ lw_tbl := List.mem_of_getElem? (i := 10) (by decide +kernel)
set_option maxRecDepth 100000 in
theorem wd11 : Cond.selects RX1 yX1_neighboursOf yX1_neighboursOf ∈ lw_tbl := List.mem_of_getElem? (i := 11) (by decide +kernel)
set_option maxRecDepth 100000 in
theorem wd12 : Cond.selects RX2 yX2_winningFrom yX2_winningFrom ∈ lw_tbl := List.mem_of_getElem? (i := 12) (by decide +kernel)
set_option maxRecDepth 100000 in
theorem wd13 : Cond.selects RX2 yX2_winningStep yX2_winningStep ∈ lw_tbl := List.mem_of_getElem? (i := 13) (by decide +kernel)
set_option maxRecDepth 100000 in
theorem wd14 : Cond.selects RX0 yX0_apart yX0_apart ∈ lw_tbl := List.mem_of_getElem? (i := 14) (by decide +kernel)
set_option maxRecDepth 100000 in
theorem wd15 : Cond.selects RX8 yX8_liveYear yX8_liveYear ∈ lw_tbl := List.mem_of_getElem? (i := 15) (by decide +kernel)
set_option maxRecDepth 100000 in
theorem wd16 : Cond.selects RX8 yX8_attemptDrawn yX8_attemptDrawn ∈ lw_tbl := List.mem_of_getElem? (i := 16) (by decide +kernel)
set_option maxRecDepth 100000 in
theorem wd17 : Cond.selects RX8 yX8_tellOfAll yX8_tellOfAll ∈ lw_tbl := List.mem_of_getElem? (i := 17) (by decide +kernel)
set_option maxRecDepth 100000 in
theorem wd18 : Cond.selects RX8 yX8_tellOfPerson yX8_tellOfPerson ∈ lw_tbl := List.mem_of_getElem? (i := 18) (by decide +kernel)
set_option maxRecDepth 100000 in
theorem wd19 : Cond.selects RX8 yX8_tellOfThing yX8_tellOfThing ∈ lw_tbl := List.mem_of_getElem? (i := 19) (by decide +kernel)
set_option maxRecDepth 100000 in
theorem wd20 : Cond.selects RX9 yX9_layWay yX9_layWay ∈ lw_tbl := List.mem_of_getElem? (i := 20) (by decide +kernel)
set_option maxRecDepth 100000 in
theorem wd21 : Cond.selects RX9 yX9_waysAll yX9_waysAll ∈ lw_tbl := List.mem_of_getElem? (i := 21) (by decide +kernel)
set_option maxRecDepth 100000 in
theorem wd22 : Cond.selects RX9 yX9_cornerOf yX9_cornerOf ∈ lw_tbl := List.mem_of_getElem? (i := 22) (by decide +kernel)
set_option maxRecDepth 100000 in
theorem wd23 : Cond.selects RX9 yX9_drop yX9_drop ∈ lw_tbl := List.mem_of_getElem? (i := 23) (by decide +kernel)
set_option maxRecDepth 100000 in
theorem wd24 : Cond.selects RX9 yX9_carrierOf yX9_carrierOf ∈ lw_tbl := List.mem_of_getElem? (i := 24) (by decide +kernel)
set_option maxRecDepth 100000 in
theorem wd25 : Cond.selects RX9 yX9_readOn yX9_readOn ∈ lw_tbl := List.mem_of_getElem? (i := 25) (by decide +kernel)
set_option maxRecDepth 100000 in
theorem wd26 : Cond.selects RX9 yX9_begin yX9_begin ∈ lw_tbl := List.mem_of_getElem? (i := 26) (by decide +kernel)
set_option maxRecDepth 100000 in
theorem wd27 : Cond.selects RX9 yX9_opens yX9_opens ∈ lw_tbl := List.mem_of_getElem? (i := 27) (by decide +kernel)
set_option maxRecDepth 100000 in
theorem wd28 : Cond.selects RX9 yX9_ends yX9_ends ∈ lw_tbl := List.mem_of_getElem? (i := 28) (by decide +kernel)
set_option maxRecDepth 100000 in
theorem wd29 : Cond.selects RX9 yX9_begun yX9_begun ∈ lw_tbl := List.mem_of_getElem? (i := 29) (by decide +kernel)
set_option maxRecDepth 100000 in
theorem wd30 : Cond.selects RX9 yX9_deed yX9_deed ∈ lw_tbl := List.mem_of_getElem? (i := 30) (by decide +kernel)
set_option maxRecDepth 100000 in
theorem wd31 : Cond.selects RX9 yX9_refusal yX9_refusal ∈ lw_tbl := List.mem_of_getElem? (i := 31) (by decide +kernel)
set_option maxRecDepth 100000 in
theorem wd32 : Cond.selects RX9 yX9_carryAll yX9_carryAll ∈ lw_tbl := List.mem_of_getElem? (i := 32) (by decide +kernel)
set_option maxRecDepth 100000 in
theorem wd33 : Cond.selects RX9 yX9_carry yX9_carry ∈ lw_tbl := List.mem_of_getElem? (i := 33) (by decide +kernel)
set_option maxRecDepth 100000 in
theorem wd34 : Cond.selects RX9 yX9_carryRow yX9_carryRow ∈ lw_tbl := List.mem_of_getElem? (i := 34) (by decide +kernel)
set_option maxRecDepth 100000 in
theorem wd35 : Cond.selects RX9 yX9_goSessions yX9_goSessions ∈ lw_tbl := List.mem_of_getElem? (i := 35) (by decide +kernel)
set_option maxRecDepth 100000 in
theorem wd36 : Cond.selects RX9 yX9_whyNot yX9_whyNot ∈ lw_tbl := List.mem_of_getElem? (i := 36) (by decide +kernel)
set_option maxRecDepth 100000 in
theorem wd37 : Cond.selects RX9 yX9_whyNoWay yX9_whyNoWay ∈ lw_tbl := List.mem_of_getElem? (i := 37) (by decide +kernel)
set_option maxRecDepth 100000 in
theorem wd38 : Cond.selects RX9 yX9_whyNotDeed yX9_whyNotDeed ∈ lw_tbl := List.mem_of_getElem? (i := 38) (by decide +kernel)
set_option maxRecDepth 100000 in
theorem wd39 : Cond.selects RX9 yX9_whyNotBack yX9_whyNotBack ∈ lw_tbl := List.mem_of_getElem? (i := 39) (by decide +kernel)
set_option maxRecDepth 100000 in
theorem wd40 : Cond.selects RX9 yX9_goOne yX9_goOne ∈ lw_tbl := List.mem_of_getElem? (i := 40) (by decide +kernel)
set_option maxRecDepth 100000 in
theorem wd41 : Cond.selects RX9 yX9_happen yX9_happen ∈ lw_tbl := List.mem_of_getElem? (i := 41) (by decide +kernel)
set_option maxRecDepth 100000 in
theorem wd42 : Cond.selects RX9 yX9_passHour yX9_passHour ∈ lw_tbl := List.mem_of_getElem? (i := 42) (by decide +kernel)
set_option maxRecDepth 100000 in
theorem wd43 : Cond.selects RX9 yX9_fade yX9_fade ∈ lw_tbl := List.mem_of_getElem? (i := 43) (by decide +kernel)
set_option maxRecDepth 100000 in
theorem wd44 : Cond.selects RX9 yX9_sit yX9_sit ∈ lw_tbl := List.mem_of_getElem? (i := 44) (by decide +kernel)
set_option maxRecDepth 100000 in
theorem wd45 : Cond.selects RX9 yX9_happenToOne yX9_happenToOne ∈ lw_tbl := List.mem_of_getElem? (i := 45) (by decide +kernel)
set_option maxRecDepth 100000 in
theorem wd46 : Cond.selects RX9 yX9_comeBack yX9_comeBack ∈ lw_tbl := List.mem_of_getElem? (i := 46) (by decide +kernel)
set_option maxRecDepth 100000 in
theorem wd47 : Cond.selects RX9 yX9_back yX9_back ∈ lw_tbl := List.mem_of_getElem? (i := 47) (by decide +kernel)
set_option maxRecDepth 100000 in
theorem wd48 : Cond.selects RX9 yX9_ofPerson yX9_ofPerson ∈ lw_tbl := List.mem_of_getElem? (i := 48) (by decide +kernel)
set_option maxRecDepth 100000 in
theorem wd49 : Cond.selects RX9 yX9_carriedBy yX9_carriedBy ∈ lw_tbl := List.mem_of_getElem? (i := 49) (by decide +kernel)
set_option maxRecDepth 100000 in
theorem wd50 : Cond.selects RX9 yX9_ofAll yX9_ofAll ∈ lw_tbl := List.mem_of_getElem? (i := 50) (by decide +kernel)
set_option maxRecDepth 100000 in
theorem wd51 : Cond.selects RX9 yX9_whoIsThere yX9_whoIsThere ∈ lw_tbl := List.mem_of_getElem? (i := 51) (by decide +kernel)
set_option maxRecDepth 100000 in
theorem wd52 : Cond.selects RX9 yX9_whoSits yX9_whoSits ∈ lw_tbl := List.mem_of_getElem? (i := 52) (by decide +kernel)
set_option maxRecDepth 100000 in
theorem wd53 : Cond.selects RX9 yX9_besideAll yX9_besideAll ∈ lw_tbl := List.mem_of_getElem? (i := 53) (by decide +kernel)
set_option maxRecDepth 100000 in
theorem wd54 : Cond.selects RX9 yX9_waysOut yX9_waysOut ∈ lw_tbl := List.mem_of_getElem? (i := 54) (by decide +kernel)
set_option maxRecDepth 100000 in
theorem wd55 : Cond.selects RX9 yX9_closedOf yX9_closedOf ∈ lw_tbl := List.mem_of_getElem? (i := 55) (by decide +kernel)
set_option maxRecDepth 100000 in
theorem wd56 : Cond.selects RX9 yX9_onceMore yX9_onceMore ∈ lw_tbl := List.mem_of_getElem? (i := 56) (by decide +kernel)
set_option maxRecDepth 100000 in
theorem wd57 : Cond.selects RX9 yX9_isFit yX9_isFit ∈ lw_tbl := List.mem_of_getElem? (i := 57) (by decide +kernel)
set_option maxRecDepth 100000 in
theorem wd58 : Cond.selects RX9 yX9_mostLeft yX9_mostLeft ∈ lw_tbl := List.mem_of_getElem? (i := 58) (by decide +kernel)
set_option maxRecDepth 100000 in
theorem wd59 : Cond.selects RX9 yX9_leastGo yX9_leastGo ∈ lw_tbl := List.mem_of_getElem? (i := 59) (by decide +kernel)
set_option maxRecDepth 100000 in
theorem wd60 : Cond.selects RX9 yX9_layNet yX9_layNet ∈ lw_tbl := List.mem_of_getElem? (i := 60) (by decide +kernel)
set_option maxRecDepth 100000 in
theorem wd61 : Cond.selects RX9 yX9_hangs yX9_hangs ∈ lw_tbl := List.mem_of_getElem? (i := 61) (by decide +kernel)
set_option maxRecDepth 100000 in
theorem wd62 : Cond.selects RX9 yX9_drawn yX9_drawn ∈ lw_tbl := List.mem_of_getElem? (i := 62) (by decide +kernel)
set_option maxRecDepth 100000 in
theorem wd63 : Cond.selects RX9 yX9_passAll yX9_passAll ∈ lw_tbl := List.mem_of_getElem? (i := 63) (by decide +kernel)
set_option maxRecDepth 100000 in
theorem wd64 : Cond.selects RX9 yX9_pass yX9_pass ∈ lw_tbl := List.mem_of_getElem? (i := 64) (by decide +kernel)
set_option maxRecDepth 100000 in
theorem wd65 : Cond.selects RX9 yX9_passRow yX9_passRow ∈ lw_tbl := List.mem_of_getElem? (i := 65) (by decide +kernel)
set_option maxRecDepth 100000 in
theorem wd66 : Cond.selects RX9 yX9_toldOfPerson yX9_toldOfPerson ∈ lw_tbl := List.mem_of_getElem? (i := 66) (by decide +kernel)
set_option maxRecDepth 100000 in
theorem wd67 : Cond.selects RX9 yX9_toldOfOther yX9_toldOfOther ∈ lw_tbl := List.mem_of_getElem? (i := 67) (by decide +kernel)
set_option maxRecDepth 100000 in
theorem wd68 : Cond.selects RX9 yX9_toldOfAll yX9_toldOfAll ∈ lw_tbl := List.mem_of_getElem? (i := 68) (by decide +kernel)
set_option maxRecDepth 100000 in
theorem wd70 : Cond.initialized RX8 ∈ lw_tbl := List.mem_of_getElem? (i := 70) (by decide +kernel)
set_option maxRecDepth 100000 in
theorem wd71 : Cond.initialized RX7 ∈ lw_tbl := List.mem_of_getElem? (i := 71) (by decide +kernel)
set_option maxRecDepth 100000 in
theorem wd72 : Cond.initialized RX1 ∈ lw_tbl := List.mem_of_getElem? (i := 72) (by decide +kernel)
set_option maxRecDepth 100000 in
theorem wd73 : Cond.initialized RX4 ∈ lw_tbl := List.mem_of_getElem? (i := 73) (by decide +kernel)
set_option maxRecDepth 100000 in
theorem wd74 : Cond.initialized RX5 ∈ lw_tbl := List.mem_of_getElem? (i := 74) (by decide +kernel)
set_option maxRecDepth 100000 in
theorem wd75 : Cond.initialized RX3 ∈ lw_tbl := List.mem_of_getElem? (i := 75) (by decide +kernel)
set_option maxRecDepth 100000 in
theorem wd76 : Cond.initialized RX6 ∈ lw_tbl := List.mem_of_getElem? (i := 76) (by decide +kernel)
set_option maxRecDepth 100000 in
theorem wd77 : Cond.initialized RX2 ∈ lw_tbl := List.mem_of_getElem? (i := 77) (by decide +kernel)
set_option maxRecDepth 100000 in
theorem wd78 : Cond.initialized RX0 ∈ lw_tbl := List.mem_of_getElem? (i := 78) (by decide +kernel)
set_option maxRecDepth 100000 in
theorem wd79 : Cond.initialized RX9 ∈ lw_tbl := List.mem_of_getElem? (i := 79) (by decide +kernel)
set_option maxRecDepth 100000 in
theorem wd80 : Cond.initialized RJ6 ∈ lw_tbl := List.mem_of_getElem? (i := 80) (by decide +kernel)
set_option maxRecDepth 100000 in
theorem wd81 : Cond.initialized RJ10 ∈ lw_tbl := List.mem_of_getElem? (i := 81) (by decide +kernel)
set_option maxRecDepth 100000 in
theorem wd82 : Cond.initialized RJ9 ∈ lw_tbl := List.mem_of_getElem? (i := 82) (by decide +kernel)
set_option maxRecDepth 100000 in
theorem wd103 : Cond.fieldLink RX1 9 "SwornLane$Country" "ways" "[I" ∈ lw_tbl := List.mem_of_getElem? (i := 103) (by decide +kernel)
set_option maxRecDepth 100000 in
theorem wd104 : Cond.fieldLink RX8 212 "SwornLane$Country" "ways" "[I" ∈ lw_tbl := List.mem_of_getElem? (i := 104) (by decide +kernel)
set_option maxRecDepth 100000 in
theorem wd105 : Cond.fieldLink RX1 15 "SwornLane$Country" "thingAt" "[I" ∈ lw_tbl := List.mem_of_getElem? (i := 105) (by decide +kernel)
set_option maxRecDepth 100000 in
theorem wd106 : Cond.fieldLink RX8 73 "SwornLane$Country" "thingAt" "[I" ∈ lw_tbl := List.mem_of_getElem? (i := 106) (by decide +kernel)
set_option maxRecDepth 100000 in
theorem wd107 : Cond.fieldLink RX1 18 "SwornLane$Country" "personAt" "[I" ∈ lw_tbl := List.mem_of_getElem? (i := 107) (by decide +kernel)
set_option maxRecDepth 100000 in
theorem wd108 : Cond.fieldLink RX1 21 "SwornLane$Country" "faint" "[I" ∈ lw_tbl := List.mem_of_getElem? (i := 108) (by decide +kernel)
set_option maxRecDepth 100000 in
theorem wd109 : Cond.fieldLink RX8 121 "SwornLane$Country" "faint" "[I" ∈ lw_tbl := List.mem_of_getElem? (i := 109) (by decide +kernel)
set_option maxRecDepth 100000 in
theorem wd110 : Cond.fieldLink RX1 34 "SwornLane$Country" "sitting" "I" ∈ lw_tbl := List.mem_of_getElem? (i := 110) (by decide +kernel)
set_option maxRecDepth 100000 in
theorem wd111 : Cond.fieldLink RX6 42 "SwornLane$Country" "sitting" "I" ∈ lw_tbl := List.mem_of_getElem? (i := 111) (by decide +kernel)
set_option maxRecDepth 100000 in
theorem wd112 : Cond.fieldLink RX8 136 "SwornLane$Country" "sitting" "I" ∈ lw_tbl := List.mem_of_getElem? (i := 112) (by decide +kernel)
set_option maxRecDepth 100000 in
theorem wd113 : Cond.fieldLink RX1 24 "SwornLane$Country" "poleUp" "Z" ∈ lw_tbl := List.mem_of_getElem? (i := 113) (by decide +kernel)
set_option maxRecDepth 100000 in
theorem wd114 : Cond.fieldLink RX8 94 "SwornLane$Country" "poleUp" "Z" ∈ lw_tbl := List.mem_of_getElem? (i := 114) (by decide +kernel)
set_option maxRecDepth 100000 in
theorem wd115 : Cond.fieldLink RX1 38 "SwornLane$Country" "hour" "I" ∈ lw_tbl := List.mem_of_getElem? (i := 115) (by decide +kernel)
set_option maxRecDepth 100000 in
theorem wd116 : Cond.fieldLink RX8 139 "SwornLane$Country" "hour" "I" ∈ lw_tbl := List.mem_of_getElem? (i := 116) (by decide +kernel)
set_option maxRecDepth 100000 in
theorem wd139 : Cond.fieldLink RX4 9 "SwornLane$Rules" "grounds" "[I" ∈ lw_tbl := List.mem_of_getElem? (i := 139) (by decide +kernel)
set_option maxRecDepth 100000 in
theorem wd140 : Cond.fieldLink RX4 15 "SwornLane$Rules" "claims" "[I" ∈ lw_tbl := List.mem_of_getElem? (i := 140) (by decide +kernel)
set_option maxRecDepth 100000 in
theorem wd141 : Cond.fieldLink RX4 24 "SwornLane$Rules" "count" "I" ∈ lw_tbl := List.mem_of_getElem? (i := 141) (by decide +kernel)
set_option maxRecDepth 100000 in
theorem wd142 : Cond.fieldLink RX8 173 "SwornLane$Rules" "count" "I" ∈ lw_tbl := List.mem_of_getElem? (i := 142) (by decide +kernel)
set_option maxRecDepth 100000 in
theorem wd156 : Cond.fieldLink RX5 9 "SwornLane$Sights" "sets" "[I" ∈ lw_tbl := List.mem_of_getElem? (i := 156) (by decide +kernel)
set_option maxRecDepth 100000 in
theorem wd157 : Cond.fieldLink RX5 21 "SwornLane$Sights" "count" "I" ∈ lw_tbl := List.mem_of_getElem? (i := 157) (by decide +kernel)
set_option maxRecDepth 100000 in
theorem wd158 : Cond.fieldLink RX8 199 "SwornLane$Sights" "count" "I" ∈ lw_tbl := List.mem_of_getElem? (i := 158) (by decide +kernel)
set_option maxRecDepth 100000 in
theorem wd164 : Cond.fieldLink RX7 10 "SwornLane$World" "country" "LSwornLane$Country;" ∈ lw_tbl := List.mem_of_getElem? (i := 164) (by decide +kernel)
set_option maxRecDepth 100000 in
theorem wd165 : Cond.fieldLink RX8 52 "SwornLane$World" "country" "LSwornLane$Country;" ∈ lw_tbl := List.mem_of_getElem? (i := 165) (by decide +kernel)
set_option maxRecDepth 100000 in
theorem wd166 : Cond.fieldLink RX7 19 "SwornLane$World" "rules" "LSwornLane$Rules;" ∈ lw_tbl := List.mem_of_getElem? (i := 166) (by decide +kernel)
set_option maxRecDepth 100000 in
theorem wd167 : Cond.fieldLink RX8 165 "SwornLane$World" "rules" "LSwornLane$Rules;" ∈ lw_tbl := List.mem_of_getElem? (i := 167) (by decide +kernel)
set_option maxRecDepth 100000 in
theorem wd168 : Cond.fieldLink RX7 26 "SwornLane$World" "sights" "LSwornLane$Sights;" ∈ lw_tbl := List.mem_of_getElem? (i := 168) (by decide +kernel)
set_option maxRecDepth 100000 in
theorem wd169 : Cond.fieldLink RX8 192 "SwornLane$World" "sights" "LSwornLane$Sights;" ∈ lw_tbl := List.mem_of_getElem? (i := 169) (by decide +kernel)
set_option maxRecDepth 100000 in
theorem wd184 : Cond.fieldLink RX3 9 "SwornLane$Pad" "signs" "[I" ∈ lw_tbl := List.mem_of_getElem? (i := 184) (by decide +kernel)
set_option maxRecDepth 100000 in
theorem wd185 : Cond.fieldLink RX3 15 "SwornLane$Pad" "count" "I" ∈ lw_tbl := List.mem_of_getElem? (i := 185) (by decide +kernel)
set_option maxRecDepth 100000 in
theorem wd186 : Cond.fieldLink RX8 101 "SwornLane$Pad" "count" "I" ∈ lw_tbl := List.mem_of_getElem? (i := 186) (by decide +kernel)
set_option maxRecDepth 100000 in
theorem wd187 : Cond.fieldLink RX3 19 "SwornLane$Pad" "place" "I" ∈ lw_tbl := List.mem_of_getElem? (i := 187) (by decide +kernel)
set_option maxRecDepth 100000 in
theorem wd188 : Cond.fieldLink RX3 54 "SwornLane$Pad" "kind" "I" ∈ lw_tbl := List.mem_of_getElem? (i := 188) (by decide +kernel)
set_option maxRecDepth 100000 in
theorem wd189 : Cond.fieldLink RX8 264 "SwornLane$Pad" "kind" "I" ∈ lw_tbl := List.mem_of_getElem? (i := 189) (by decide +kernel)
set_option maxRecDepth 100000 in
theorem wd190 : Cond.fieldLink RX3 33 "SwornLane$Pad" "one" "I" ∈ lw_tbl := List.mem_of_getElem? (i := 190) (by decide +kernel)
set_option maxRecDepth 100000 in
theorem wd191 : Cond.fieldLink RX8 267 "SwornLane$Pad" "one" "I" ∈ lw_tbl := List.mem_of_getElem? (i := 191) (by decide +kernel)
set_option maxRecDepth 100000 in
theorem wd192 : Cond.fieldLink RX3 51 "SwornLane$Pad" "other" "I" ∈ lw_tbl := List.mem_of_getElem? (i := 192) (by decide +kernel)
set_option maxRecDepth 100000 in
theorem wd193 : Cond.fieldLink RX8 270 "SwornLane$Pad" "other" "I" ∈ lw_tbl := List.mem_of_getElem? (i := 193) (by decide +kernel)
set_option maxRecDepth 100000 in
theorem wd215 : Cond.fieldLink RX6 12 "SwornLane$Trial" "country" "LSwornLane$Country;" ∈ lw_tbl := List.mem_of_getElem? (i := 215) (by decide +kernel)
set_option maxRecDepth 100000 in
theorem wd216 : Cond.fieldLink RX8 120 "SwornLane$Trial" "country" "LSwornLane$Country;" ∈ lw_tbl := List.mem_of_getElem? (i := 216) (by decide +kernel)
set_option maxRecDepth 100000 in
theorem wd217 : Cond.fieldLink RX6 22 "SwornLane$Trial" "acts" "I" ∈ lw_tbl := List.mem_of_getElem? (i := 217) (by decide +kernel)
set_option maxRecDepth 100000 in
theorem wd218 : Cond.fieldLink RX8 114 "SwornLane$Trial" "acts" "I" ∈ lw_tbl := List.mem_of_getElem? (i := 218) (by decide +kernel)
set_option maxRecDepth 100000 in
theorem wd219 : Cond.fieldLink RX6 26 "SwornLane$Trial" "why" "I" ∈ lw_tbl := List.mem_of_getElem? (i := 219) (by decide +kernel)
set_option maxRecDepth 100000 in
theorem wd220 : Cond.fieldLink RX8 111 "SwornLane$Trial" "why" "I" ∈ lw_tbl := List.mem_of_getElem? (i := 220) (by decide +kernel)
set_option maxRecDepth 100000 in
theorem wd221 : Cond.fieldLink RX6 29 "SwornLane$Trial" "sat" "I" ∈ lw_tbl := List.mem_of_getElem? (i := 221) (by decide +kernel)
set_option maxRecDepth 100000 in
theorem wd222 : Cond.fieldLink RX8 117 "SwornLane$Trial" "sat" "I" ∈ lw_tbl := List.mem_of_getElem? (i := 222) (by decide +kernel)
set_option maxRecDepth 100000 in
theorem wd223 : Cond.fieldLink RX6 32 "SwornLane$Trial" "firstAct" "I" ∈ lw_tbl := List.mem_of_getElem? (i := 223) (by decide +kernel)
set_option maxRecDepth 100000 in
theorem wd224 : Cond.fieldLink RX8 142 "SwornLane$Trial" "firstAct" "I" ∈ lw_tbl := List.mem_of_getElem? (i := 224) (by decide +kernel)
set_option maxRecDepth 100000 in
theorem wd225 : Cond.fieldLink RX6 35 "SwornLane$Trial" "firstWho" "I" ∈ lw_tbl := List.mem_of_getElem? (i := 225) (by decide +kernel)
set_option maxRecDepth 100000 in
theorem wd226 : Cond.fieldLink RX8 145 "SwornLane$Trial" "firstWho" "I" ∈ lw_tbl := List.mem_of_getElem? (i := 226) (by decide +kernel)
set_option maxRecDepth 100000 in
theorem wd246 : Cond.fieldLink RX2 9 "SwornLane$Game" "winning" "[I" ∈ lw_tbl := List.mem_of_getElem? (i := 246) (by decide +kernel)
set_option maxRecDepth 100000 in
theorem wd256 : Cond.fieldLink RX0 9 "SwornLane$Chance" "together" "[J" ∈ lw_tbl := List.mem_of_getElem? (i := 256) (by decide +kernel)
set_option maxRecDepth 100000 in
theorem wd261 : Cond.fieldLink RX8 12 "SwornLane" "now" "LSwornLane$World;" ∈ lw_tbl := List.mem_of_getElem? (i := 261) (by decide +kernel)
set_option maxRecDepth 100000 in
theorem wd263 : Cond.fieldLink RX8 23 "SwornLane" "pad" "LSwornLane$Pad;" ∈ lw_tbl := List.mem_of_getElem? (i := 263) (by decide +kernel)
set_option maxRecDepth 100000 in
theorem wd264 : Cond.fieldLink RX8 30 "SwornLane" "trial" "LSwornLane$Trial;" ∈ lw_tbl := List.mem_of_getElem? (i := 264) (by decide +kernel)
set_option maxRecDepth 100000 in
theorem wd265 : Cond.fieldLink RX8 37 "SwornLane" "game" "LSwornLane$Game;" ∈ lw_tbl := List.mem_of_getElem? (i := 265) (by decide +kernel)
set_option maxRecDepth 100000 in
theorem wd266 : Cond.fieldLink RX8 44 "SwornLane" "chance" "LSwornLane$Chance;" ∈ lw_tbl := List.mem_of_getElem? (i := 266) (by decide +kernel)
set_option maxRecDepth 100000 in
theorem wd281 : Cond.instanceMethod yX8_way ∈ lw_tbl := List.mem_of_getElem? (i := 281) (by decide +kernel)
set_option maxRecDepth 100000 in
theorem wd282 : Cond.selects RX8 yX8_way yX8_way ∈ lw_tbl := List.mem_of_getElem? (i := 282) (by decide +kernel)
set_option maxRecDepth 100000 in
theorem wd283 : Cond.code yX8_way cX8_way 4 (some .int) ∈ lw_tbl := List.mem_of_getElem? (i := 283) (by decide +kernel)
set_option maxRecDepth 100000 in
theorem wd284 : Cond.methodLink RX8 48 yX8_isCorner ∈ lw_tbl := List.mem_of_getElem? (i := 284) (by decide +kernel)
set_option maxRecDepth 100000 in
theorem wd285 : Cond.static yX8_isCorner ∈ lw_tbl := List.mem_of_getElem? (i := 285) (by decide +kernel)
set_option maxRecDepth 100000 in
theorem wd286 : Cond.code yX8_isCorner cX8_isCorner 1 (some .boolean) ∈ lw_tbl := List.mem_of_getElem? (i := 286) (by decide +kernel)
set_option maxRecDepth 100000 in
theorem wd287 : Cond.methodLink RX8 80 yX8_isWithin ∈ lw_tbl := List.mem_of_getElem? (i := 287) (by decide +kernel)
set_option maxRecDepth 100000 in
theorem wd288 : Cond.static yX8_isWithin ∈ lw_tbl := List.mem_of_getElem? (i := 288) (by decide +kernel)
set_option maxRecDepth 100000 in
theorem wd289 : Cond.code yX8_isWithin cX8_isWithin 3 (some .boolean) ∈ lw_tbl := List.mem_of_getElem? (i := 289) (by decide +kernel)
set_option maxRecDepth 100000 in
theorem wd290 : Cond.methodLink RX8 56 yX1_setWay ∈ lw_tbl := List.mem_of_getElem? (i := 290) (by decide +kernel)
set_option maxRecDepth 100000 in
theorem wd291 : Cond.instanceMethod yX1_setWay ∈ lw_tbl := List.mem_of_getElem? (i := 291) (by decide +kernel)
set_option maxRecDepth 100000 in
theorem wd292 : Cond.selects RX1 yX1_setWay yX1_setWay ∈ lw_tbl := List.mem_of_getElem? (i := 292) (by decide +kernel)
set_option maxRecDepth 100000 in
theorem wd293 : Cond.code yX1_setWay cX1_setWay 4 none ∈ lw_tbl := List.mem_of_getElem? (i := 293) (by decide +kernel)
set_option maxRecDepth 100000 in
theorem wd294 : Cond.methodLink RX8 62 yX1_countWays ∈ lw_tbl := List.mem_of_getElem? (i := 294) (by decide +kernel)
set_option maxRecDepth 100000 in
theorem wd295 : Cond.instanceMethod yX1_countWays ∈ lw_tbl := List.mem_of_getElem? (i := 295) (by decide +kernel)
set_option maxRecDepth 100000 in
theorem wd296 : Cond.selects RX1 yX1_countWays yX1_countWays ∈ lw_tbl := List.mem_of_getElem? (i := 296) (by decide +kernel)
set_option maxRecDepth 100000 in
theorem wd297 : Cond.code yX1_countWays cX1_countWays 3 (some .int) ∈ lw_tbl := List.mem_of_getElem? (i := 297) (by decide +kernel)
set_option maxRecDepth 100000 in
theorem wd298 : Cond.methodLink RX1 41 yJ6_bitCount_0f7a4 ∈ lw_tbl := List.mem_of_getElem? (i := 298) (by decide +kernel)
set_option maxRecDepth 100000 in
theorem wd299 : Cond.static yJ6_bitCount_0f7a4 ∈ lw_tbl := List.mem_of_getElem? (i := 299) (by decide +kernel)
set_option maxRecDepth 100000 in
theorem wd300 : Cond.code yJ6_bitCount_0f7a4 cJ6_bitCount_0f7a4 1 (some .int) ∈ lw_tbl := List.mem_of_getElem? (i := 300) (by decide +kernel)
set_option maxRecDepth 100000 in
theorem wd301 : Cond.constant RJ6 265 (1431655765) ∈ lw_tbl := List.mem_of_getElem? (i := 301) (by decide +kernel)
set_option maxRecDepth 100000 in
theorem wd302 : Cond.constant RJ6 266 (858993459) ∈ lw_tbl := List.mem_of_getElem? (i := 302) (by decide +kernel)
set_option maxRecDepth 100000 in
theorem wd303 : Cond.constant RJ6 267 (252645135) ∈ lw_tbl := List.mem_of_getElem? (i := 303) (by decide +kernel)
set_option maxRecDepth 100000 in
theorem wd305 : Cond.instanceMethod yX8_thing ∈ lw_tbl := List.mem_of_getElem? (i := 305) (by decide +kernel)
set_option maxRecDepth 100000 in
theorem wd306 : Cond.selects RX8 yX8_thing yX8_thing ∈ lw_tbl := List.mem_of_getElem? (i := 306) (by decide +kernel)
set_option maxRecDepth 100000 in
theorem wd307 : Cond.code yX8_thing cX8_thing 4 (some .int) ∈ lw_tbl := List.mem_of_getElem? (i := 307) (by decide +kernel)
set_option maxRecDepth 100000 in
theorem wd308 : Cond.methodLink RX8 66 yX8_isThing ∈ lw_tbl := List.mem_of_getElem? (i := 308) (by decide +kernel)
set_option maxRecDepth 100000 in
theorem wd309 : Cond.static yX8_isThing ∈ lw_tbl := List.mem_of_getElem? (i := 309) (by decide +kernel)
set_option maxRecDepth 100000 in
theorem wd310 : Cond.code yX8_isThing cX8_isThing 1 (some .boolean) ∈ lw_tbl := List.mem_of_getElem? (i := 310) (by decide +kernel)
set_option maxRecDepth 100000 in
theorem wd311 : Cond.methodLink RX8 69 yX1_cornerOfThing ∈ lw_tbl := List.mem_of_getElem? (i := 311) (by decide +kernel)
set_option maxRecDepth 100000 in
theorem wd312 : Cond.instanceMethod yX1_cornerOfThing ∈ lw_tbl := List.mem_of_getElem? (i := 312) (by decide +kernel)
set_option maxRecDepth 100000 in
theorem wd313 : Cond.selects RX1 yX1_cornerOfThing yX1_cornerOfThing ∈ lw_tbl := List.mem_of_getElem? (i := 313) (by decide +kernel)
set_option maxRecDepth 100000 in
theorem wd314 : Cond.code yX1_cornerOfThing cX1_cornerOfThing 2 (some .int) ∈ lw_tbl := List.mem_of_getElem? (i := 314) (by decide +kernel)
set_option maxRecDepth 100000 in
theorem wd315 : Cond.methodLinkNest RX1 47 yX8_isCorner "SwornLane" ∈ lw_tbl := List.mem_of_getElem? (i := 315) (by decide +kernel)
set_option maxRecDepth 100000 in
theorem wd317 : Cond.instanceMethod yX8_person ∈ lw_tbl := List.mem_of_getElem? (i := 317) (by decide +kernel)
set_option maxRecDepth 100000 in
theorem wd318 : Cond.selects RX8 yX8_person yX8_person ∈ lw_tbl := List.mem_of_getElem? (i := 318) (by decide +kernel)
set_option maxRecDepth 100000 in
theorem wd319 : Cond.code yX8_person cX8_person 5 (some .int) ∈ lw_tbl := List.mem_of_getElem? (i := 319) (by decide +kernel)
set_option maxRecDepth 100000 in
theorem wd320 : Cond.methodLink RX8 77 yX8_isPerson ∈ lw_tbl := List.mem_of_getElem? (i := 320) (by decide +kernel)
set_option maxRecDepth 100000 in
theorem wd321 : Cond.static yX8_isPerson ∈ lw_tbl := List.mem_of_getElem? (i := 321) (by decide +kernel)
set_option maxRecDepth 100000 in
theorem wd322 : Cond.code yX8_isPerson cX8_isPerson 1 (some .boolean) ∈ lw_tbl := List.mem_of_getElem? (i := 322) (by decide +kernel)
set_option maxRecDepth 100000 in
theorem wd323 : Cond.methodLink RX8 84 yX1_cornerOfPerson ∈ lw_tbl := List.mem_of_getElem? (i := 323) (by decide +kernel)
set_option maxRecDepth 100000 in
theorem wd324 : Cond.instanceMethod yX1_cornerOfPerson ∈ lw_tbl := List.mem_of_getElem? (i := 324) (by decide +kernel)
set_option maxRecDepth 100000 in
theorem wd325 : Cond.selects RX1 yX1_cornerOfPerson yX1_cornerOfPerson ∈ lw_tbl := List.mem_of_getElem? (i := 325) (by decide +kernel)
set_option maxRecDepth 100000 in
theorem wd326 : Cond.code yX1_cornerOfPerson cX1_cornerOfPerson 2 (some .int) ∈ lw_tbl := List.mem_of_getElem? (i := 326) (by decide +kernel)
set_option maxRecDepth 100000 in
theorem wd327 : Cond.methodLink RX8 87 yX1_put ∈ lw_tbl := List.mem_of_getElem? (i := 327) (by decide +kernel)
set_option maxRecDepth 100000 in
theorem wd328 : Cond.instanceMethod yX1_put ∈ lw_tbl := List.mem_of_getElem? (i := 328) (by decide +kernel)
set_option maxRecDepth 100000 in
theorem wd329 : Cond.selects RX1 yX1_put yX1_put ∈ lw_tbl := List.mem_of_getElem? (i := 329) (by decide +kernel)
set_option maxRecDepth 100000 in
theorem wd330 : Cond.code yX1_put cX1_put 5 none ∈ lw_tbl := List.mem_of_getElem? (i := 330) (by decide +kernel)
set_option maxRecDepth 100000 in
theorem wd332 : Cond.instanceMethod yX8_pole ∈ lw_tbl := List.mem_of_getElem? (i := 332) (by decide +kernel)
set_option maxRecDepth 100000 in
theorem wd333 : Cond.selects RX8 yX8_pole yX8_pole ∈ lw_tbl := List.mem_of_getElem? (i := 333) (by decide +kernel)
set_option maxRecDepth 100000 in
theorem wd334 : Cond.code yX8_pole cX8_pole 3 (some .int) ∈ lw_tbl := List.mem_of_getElem? (i := 334) (by decide +kernel)
set_option maxRecDepth 100000 in
theorem wd335 : Cond.methodLink RX8 91 yX1_poleAsNumber ∈ lw_tbl := List.mem_of_getElem? (i := 335) (by decide +kernel)
set_option maxRecDepth 100000 in
theorem wd336 : Cond.instanceMethod yX1_poleAsNumber ∈ lw_tbl := List.mem_of_getElem? (i := 336) (by decide +kernel)
set_option maxRecDepth 100000 in
theorem wd337 : Cond.selects RX1 yX1_poleAsNumber yX1_poleAsNumber ∈ lw_tbl := List.mem_of_getElem? (i := 337) (by decide +kernel)
set_option maxRecDepth 100000 in
theorem wd338 : Cond.code yX1_poleAsNumber cX1_poleAsNumber 1 (some .int) ∈ lw_tbl := List.mem_of_getElem? (i := 338) (by decide +kernel)
set_option maxRecDepth 100000 in
theorem wd340 : Cond.instanceMethod yX8_say ∈ lw_tbl := List.mem_of_getElem? (i := 340) (by decide +kernel)
set_option maxRecDepth 100000 in
theorem wd341 : Cond.selects RX8 yX8_say yX8_say ∈ lw_tbl := List.mem_of_getElem? (i := 341) (by decide +kernel)
set_option maxRecDepth 100000 in
theorem wd342 : Cond.code yX8_say cX8_say 2 (some .int) ∈ lw_tbl := List.mem_of_getElem? (i := 342) (by decide +kernel)
set_option maxRecDepth 100000 in
theorem wd343 : Cond.methodLink RX8 98 yX3_add ∈ lw_tbl := List.mem_of_getElem? (i := 343) (by decide +kernel)
set_option maxRecDepth 100000 in
theorem wd344 : Cond.instanceMethod yX3_add ∈ lw_tbl := List.mem_of_getElem? (i := 344) (by decide +kernel)
set_option maxRecDepth 100000 in
theorem wd345 : Cond.selects RX3 yX3_add yX3_add ∈ lw_tbl := List.mem_of_getElem? (i := 345) (by decide +kernel)
set_option maxRecDepth 100000 in
theorem wd346 : Cond.code yX3_add cX3_add 2 (some .boolean) ∈ lw_tbl := List.mem_of_getElem? (i := 346) (by decide +kernel)
set_option maxRecDepth 100000 in
theorem wd348 : Cond.instanceMethod yX8_wipe ∈ lw_tbl := List.mem_of_getElem? (i := 348) (by decide +kernel)
set_option maxRecDepth 100000 in
theorem wd349 : Cond.selects RX8 yX8_wipe yX8_wipe ∈ lw_tbl := List.mem_of_getElem? (i := 349) (by decide +kernel)
set_option maxRecDepth 100000 in
theorem wd350 : Cond.code yX8_wipe cX8_wipe 2 (some .int) ∈ lw_tbl := List.mem_of_getElem? (i := 350) (by decide +kernel)
set_option maxRecDepth 100000 in
theorem wd352 : Cond.instanceMethod yX8_fault ∈ lw_tbl := List.mem_of_getElem? (i := 352) (by decide +kernel)
set_option maxRecDepth 100000 in
theorem wd353 : Cond.selects RX8 yX8_fault yX8_fault ∈ lw_tbl := List.mem_of_getElem? (i := 353) (by decide +kernel)
set_option maxRecDepth 100000 in
theorem wd354 : Cond.code yX8_fault cX8_fault 1 (some .int) ∈ lw_tbl := List.mem_of_getElem? (i := 354) (by decide +kernel)
set_option maxRecDepth 100000 in
theorem wd355 : Cond.methodLink RX8 105 yX3_findFault ∈ lw_tbl := List.mem_of_getElem? (i := 355) (by decide +kernel)
set_option maxRecDepth 100000 in
theorem wd356 : Cond.instanceMethod yX3_findFault ∈ lw_tbl := List.mem_of_getElem? (i := 356) (by decide +kernel)
set_option maxRecDepth 100000 in
theorem wd357 : Cond.selects RX3 yX3_findFault yX3_findFault ∈ lw_tbl := List.mem_of_getElem? (i := 357) (by decide +kernel)
set_option maxRecDepth 100000 in
theorem wd358 : Cond.code yX3_findFault cX3_findFault 2 (some .int) ∈ lw_tbl := List.mem_of_getElem? (i := 358) (by decide +kernel)
set_option maxRecDepth 100000 in
theorem wd359 : Cond.methodLink RX3 22 yX3_rewind ∈ lw_tbl := List.mem_of_getElem? (i := 359) (by decide +kernel)
set_option maxRecDepth 100000 in
theorem wd360 : Cond.instanceMethod yX3_rewind ∈ lw_tbl := List.mem_of_getElem? (i := 360) (by decide +kernel)
set_option maxRecDepth 100000 in
theorem wd361 : Cond.selects RX3 yX3_rewind yX3_rewind ∈ lw_tbl := List.mem_of_getElem? (i := 361) (by decide +kernel)
set_option maxRecDepth 100000 in
theorem wd362 : Cond.code yX3_rewind cX3_rewind 1 none ∈ lw_tbl := List.mem_of_getElem? (i := 362) (by decide +kernel)
set_option maxRecDepth 100000 in
theorem wd363 : Cond.methodLink RX3 25 yX3_readAct ∈ lw_tbl := List.mem_of_getElem? (i := 363) (by decide +kernel)
set_option maxRecDepth 100000 in
theorem wd364 : Cond.instanceMethod yX3_readAct ∈ lw_tbl := List.mem_of_getElem? (i := 364) (by decide +kernel)
set_option maxRecDepth 100000 in
theorem wd365 : Cond.selects RX3 yX3_readAct yX3_readAct ∈ lw_tbl := List.mem_of_getElem? (i := 365) (by decide +kernel)
set_option maxRecDepth 100000 in
theorem wd366 : Cond.code yX3_readAct cX3_readAct 1 (some .boolean) ∈ lw_tbl := List.mem_of_getElem? (i := 366) (by decide +kernel)
set_option maxRecDepth 100000 in
theorem wd367 : Cond.methodLink RX3 29 yX3_take ∈ lw_tbl := List.mem_of_getElem? (i := 367) (by decide +kernel)
set_option maxRecDepth 100000 in
theorem wd369 : Cond.instanceMethod yX3_take ∈ lw_tbl := List.mem_of_getElem? (i := 369) (by decide +kernel)
set_option maxRecDepth 100000 in
theorem wd370 : Cond.code yX3_take cX3_take 4 (some .int) ∈ lw_tbl := List.mem_of_getElem? (i := 370) (by decide +kernel)
set_option maxRecDepth 100000 in
theorem wd371 : Cond.methodLink RX3 39 yX3_signHere ∈ lw_tbl := List.mem_of_getElem? (i := 371) (by decide +kernel)
set_option maxRecDepth 100000 in
theorem wd373 : Cond.instanceMethod yX3_signHere ∈ lw_tbl := List.mem_of_getElem? (i := 373) (by decide +kernel)
set_option maxRecDepth 100000 in
theorem wd374 : Cond.code yX3_signHere cX3_signHere 1 (some .int) ∈ lw_tbl := List.mem_of_getElem? (i := 374) (by decide +kernel)
set_option maxRecDepth 100000 in
theorem wd375 : Cond.methodLink RX3 36 yX3_readDeed ∈ lw_tbl := List.mem_of_getElem? (i := 375) (by decide +kernel)
set_option maxRecDepth 100000 in
theorem wd377 : Cond.instanceMethod yX3_readDeed ∈ lw_tbl := List.mem_of_getElem? (i := 377) (by decide +kernel)
set_option maxRecDepth 100000 in
theorem wd378 : Cond.code yX3_readDeed cX3_readDeed 1 (some .boolean) ∈ lw_tbl := List.mem_of_getElem? (i := 378) (by decide +kernel)
set_option maxRecDepth 100000 in
theorem wd379 : Cond.methodLink RX3 47 yX3_readLone ∈ lw_tbl := List.mem_of_getElem? (i := 379) (by decide +kernel)
set_option maxRecDepth 100000 in
theorem wd381 : Cond.instanceMethod yX3_readLone ∈ lw_tbl := List.mem_of_getElem? (i := 381) (by decide +kernel)
set_option maxRecDepth 100000 in
theorem wd382 : Cond.code yX3_readLone cX3_readLone 2 (some .boolean) ∈ lw_tbl := List.mem_of_getElem? (i := 382) (by decide +kernel)
set_option maxRecDepth 100000 in
theorem wd383 : Cond.methodLink RX3 43 yX3_readPair ∈ lw_tbl := List.mem_of_getElem? (i := 383) (by decide +kernel)
set_option maxRecDepth 100000 in
theorem wd385 : Cond.instanceMethod yX3_readPair ∈ lw_tbl := List.mem_of_getElem? (i := 385) (by decide +kernel)
set_option maxRecDepth 100000 in
theorem wd386 : Cond.code yX3_readPair cX3_readPair 4 (some .boolean) ∈ lw_tbl := List.mem_of_getElem? (i := 386) (by decide +kernel)
set_option maxRecDepth 100000 in
theorem wd388 : Cond.instanceMethod yX8_judge ∈ lw_tbl := List.mem_of_getElem? (i := 388) (by decide +kernel)
set_option maxRecDepth 100000 in
theorem wd389 : Cond.selects RX8 yX8_judge yX8_judge ∈ lw_tbl := List.mem_of_getElem? (i := 389) (by decide +kernel)
set_option maxRecDepth 100000 in
theorem wd390 : Cond.code yX8_judge cX8_judge 3 (some .int) ∈ lw_tbl := List.mem_of_getElem? (i := 390) (by decide +kernel)
set_option maxRecDepth 100000 in
theorem wd391 : Cond.methodLink RX8 108 yX8_playSession ∈ lw_tbl := List.mem_of_getElem? (i := 391) (by decide +kernel)
set_option maxRecDepth 100000 in
theorem wd393 : Cond.instanceMethod yX8_playSession ∈ lw_tbl := List.mem_of_getElem? (i := 393) (by decide +kernel)
set_option maxRecDepth 100000 in
theorem wd394 : Cond.code yX8_playSession cX8_playSession 2 (some .int) ∈ lw_tbl := List.mem_of_getElem? (i := 394) (by decide +kernel)
set_option maxRecDepth 100000 in
theorem wd395 : Cond.methodLink RX8 254 yX6_begin ∈ lw_tbl := List.mem_of_getElem? (i := 395) (by decide +kernel)
set_option maxRecDepth 100000 in
theorem wd396 : Cond.instanceMethod yX6_begin ∈ lw_tbl := List.mem_of_getElem? (i := 396) (by decide +kernel)
set_option maxRecDepth 100000 in
theorem wd397 : Cond.selects RX6 yX6_begin yX6_begin ∈ lw_tbl := List.mem_of_getElem? (i := 397) (by decide +kernel)
set_option maxRecDepth 100000 in
theorem wd398 : Cond.code yX6_begin cX6_begin 2 none ∈ lw_tbl := List.mem_of_getElem? (i := 398) (by decide +kernel)
set_option maxRecDepth 100000 in
theorem wd399 : Cond.methodLink RX6 18 yX1_copyFrom ∈ lw_tbl := List.mem_of_getElem? (i := 399) (by decide +kernel)
set_option maxRecDepth 100000 in
theorem wd400 : Cond.instanceMethod yX1_copyFrom ∈ lw_tbl := List.mem_of_getElem? (i := 400) (by decide +kernel)
set_option maxRecDepth 100000 in
theorem wd401 : Cond.selects RX1 yX1_copyFrom yX1_copyFrom ∈ lw_tbl := List.mem_of_getElem? (i := 401) (by decide +kernel)
set_option maxRecDepth 100000 in
theorem wd402 : Cond.code yX1_copyFrom cX1_copyFrom 2 none ∈ lw_tbl := List.mem_of_getElem? (i := 402) (by decide +kernel)
set_option maxRecDepth 100000 in
theorem wd403 : Cond.methodLink RX1 28 ⟨"java/lang/System", "arraycopy", "(Ljava/lang/Object;ILjava/lang/Object;II)V"⟩ ∈ lw_tbl := List.mem_of_getElem? (i := 403) (by decide +kernel)
set_option maxRecDepth 100000 in
theorem wd404 : Cond.static ⟨"java/lang/System", "arraycopy", "(Ljava/lang/Object;ILjava/lang/Object;II)V"⟩ ∈ lw_tbl := List.mem_of_getElem? (i := 404) (by decide +kernel)
set_option maxRecDepth 100000 in
theorem wd405 : Cond.native ⟨"java/lang/System", "arraycopy", "(Ljava/lang/Object;ILjava/lang/Object;II)V"⟩ ∈ lw_tbl := List.mem_of_getElem? (i := 405) (by decide +kernel)
set_option maxRecDepth 100000 in
theorem wd406 : Cond.methodLink RX8 257 yX3_rewind ∈ lw_tbl := List.mem_of_getElem? (i := 406) (by decide +kernel)
set_option maxRecDepth 100000 in
theorem wd407 : Cond.methodLink RX8 260 yX3_readAct ∈ lw_tbl := List.mem_of_getElem? (i := 407) (by decide +kernel)
set_option maxRecDepth 100000 in
theorem wd408 : Cond.methodLink RX8 273 yX6_attempt ∈ lw_tbl := List.mem_of_getElem? (i := 408) (by decide +kernel)
set_option maxRecDepth 100000 in
theorem wd409 : Cond.instanceMethod yX6_attempt ∈ lw_tbl := List.mem_of_getElem? (i := 409) (by decide +kernel)
set_option maxRecDepth 100000 in
theorem wd410 : Cond.selects RX6 yX6_attempt yX6_attempt ∈ lw_tbl := List.mem_of_getElem? (i := 410) (by decide +kernel)
set_option maxRecDepth 100000 in
theorem wd411 : Cond.code yX6_attempt cX6_attempt 5 (some .boolean) ∈ lw_tbl := List.mem_of_getElem? (i := 411) (by decide +kernel)
set_option maxRecDepth 100000 in
theorem wd412 : Cond.methodLink RX6 38 yX1_whyNot ∈ lw_tbl := List.mem_of_getElem? (i := 412) (by decide +kernel)
set_option maxRecDepth 100000 in
theorem wd413 : Cond.instanceMethod yX1_whyNot ∈ lw_tbl := List.mem_of_getElem? (i := 413) (by decide +kernel)
set_option maxRecDepth 100000 in
theorem wd414 : Cond.selects RX1 yX1_whyNot yX1_whyNot ∈ lw_tbl := List.mem_of_getElem? (i := 414) (by decide +kernel)
set_option maxRecDepth 100000 in
theorem wd415 : Cond.code yX1_whyNot cX1_whyNot 4 (some .int) ∈ lw_tbl := List.mem_of_getElem? (i := 415) (by decide +kernel)
set_option maxRecDepth 100000 in
theorem wd416 : Cond.methodLink RX1 55 yX1_whyNoWay ∈ lw_tbl := List.mem_of_getElem? (i := 416) (by decide +kernel)
set_option maxRecDepth 100000 in
theorem wd418 : Cond.instanceMethod yX1_whyNoWay ∈ lw_tbl := List.mem_of_getElem? (i := 418) (by decide +kernel)
set_option maxRecDepth 100000 in
theorem wd419 : Cond.code yX1_whyNoWay cX1_whyNoWay 4 (some .int) ∈ lw_tbl := List.mem_of_getElem? (i := 419) (by decide +kernel)
set_option maxRecDepth 100000 in
theorem wd420 : Cond.methodLinkNest RX1 51 yX8_holds "SwornLane" ∈ lw_tbl := List.mem_of_getElem? (i := 420) (by decide +kernel)
set_option maxRecDepth 100000 in
theorem wd421 : Cond.static yX8_holds ∈ lw_tbl := List.mem_of_getElem? (i := 421) (by decide +kernel)
set_option maxRecDepth 100000 in
theorem wd422 : Cond.code yX8_holds cX8_holds 2 (some .boolean) ∈ lw_tbl := List.mem_of_getElem? (i := 422) (by decide +kernel)
set_option maxRecDepth 100000 in
theorem wd423 : Cond.methodLink RX1 59 yX1_whyNotOver ∈ lw_tbl := List.mem_of_getElem? (i := 423) (by decide +kernel)
set_option maxRecDepth 100000 in
theorem wd425 : Cond.instanceMethod yX1_whyNotOver ∈ lw_tbl := List.mem_of_getElem? (i := 425) (by decide +kernel)
set_option maxRecDepth 100000 in
theorem wd426 : Cond.code yX1_whyNotOver cX1_whyNotOver 2 (some .int) ∈ lw_tbl := List.mem_of_getElem? (i := 426) (by decide +kernel)
set_option maxRecDepth 100000 in
theorem wd427 : Cond.methodLink RX1 62 yX1_whyNotThere ∈ lw_tbl := List.mem_of_getElem? (i := 427) (by decide +kernel)
set_option maxRecDepth 100000 in
theorem wd429 : Cond.instanceMethod yX1_whyNotThere ∈ lw_tbl := List.mem_of_getElem? (i := 429) (by decide +kernel)
set_option maxRecDepth 100000 in
theorem wd430 : Cond.code yX1_whyNotThere cX1_whyNotThere 5 (some .int) ∈ lw_tbl := List.mem_of_getElem? (i := 430) (by decide +kernel)
set_option maxRecDepth 100000 in
theorem wd431 : Cond.methodLink RX6 45 yX1_perform ∈ lw_tbl := List.mem_of_getElem? (i := 431) (by decide +kernel)
set_option maxRecDepth 100000 in
theorem wd432 : Cond.instanceMethod yX1_perform ∈ lw_tbl := List.mem_of_getElem? (i := 432) (by decide +kernel)
set_option maxRecDepth 100000 in
theorem wd433 : Cond.selects RX1 yX1_perform yX1_perform ∈ lw_tbl := List.mem_of_getElem? (i := 433) (by decide +kernel)
set_option maxRecDepth 100000 in
theorem wd434 : Cond.code yX1_perform cX1_perform 4 none ∈ lw_tbl := List.mem_of_getElem? (i := 434) (by decide +kernel)
set_option maxRecDepth 100000 in
theorem wd435 : Cond.methodLink RX1 66 yX1_setWay ∈ lw_tbl := List.mem_of_getElem? (i := 435) (by decide +kernel)
set_option maxRecDepth 100000 in
theorem wd436 : Cond.methodLink RX1 70 yX1_passHour ∈ lw_tbl := List.mem_of_getElem? (i := 436) (by decide +kernel)
set_option maxRecDepth 100000 in
theorem wd438 : Cond.instanceMethod yX1_passHour ∈ lw_tbl := List.mem_of_getElem? (i := 438) (by decide +kernel)
set_option maxRecDepth 100000 in
theorem wd439 : Cond.code yX1_passHour cX1_passHour 2 none ∈ lw_tbl := List.mem_of_getElem? (i := 439) (by decide +kernel)
set_option maxRecDepth 100000 in
theorem wd440 : Cond.methodLink RX1 77 yJ9_min_7cf53 ∈ lw_tbl := List.mem_of_getElem? (i := 440) (by decide +kernel)
set_option maxRecDepth 100000 in
theorem wd441 : Cond.static yJ9_min_7cf53 ∈ lw_tbl := List.mem_of_getElem? (i := 441) (by decide +kernel)
set_option maxRecDepth 100000 in
theorem wd443 : Cond.methodLink RX1 73 yX1_put ∈ lw_tbl := List.mem_of_getElem? (i := 443) (by decide +kernel)
set_option maxRecDepth 100000 in
theorem wd444 : Cond.methodLink RX6 49 yX6_noteSitters ∈ lw_tbl := List.mem_of_getElem? (i := 444) (by decide +kernel)
set_option maxRecDepth 100000 in
theorem wd446 : Cond.instanceMethod yX6_noteSitters ∈ lw_tbl := List.mem_of_getElem? (i := 446) (by decide +kernel)
set_option maxRecDepth 100000 in
theorem wd447 : Cond.code yX6_noteSitters cX6_noteSitters 2 none ∈ lw_tbl := List.mem_of_getElem? (i := 447) (by decide +kernel)
set_option maxRecDepth 100000 in
theorem wd448 : Cond.methodLinkNest RX6 53 yX8_placeOfBit "SwornLane" ∈ lw_tbl := List.mem_of_getElem? (i := 448) (by decide +kernel)
set_option maxRecDepth 100000 in
theorem wd449 : Cond.static yX8_placeOfBit ∈ lw_tbl := List.mem_of_getElem? (i := 449) (by decide +kernel)
set_option maxRecDepth 100000 in
theorem wd450 : Cond.code yX8_placeOfBit cX8_placeOfBit 4 (some .int) ∈ lw_tbl := List.mem_of_getElem? (i := 450) (by decide +kernel)
set_option maxRecDepth 100000 in
theorem wd451 : Cond.methodLink RX8 283 yX8_holds ∈ lw_tbl := List.mem_of_getElem? (i := 451) (by decide +kernel)
set_option maxRecDepth 100000 in
theorem wd452 : Cond.methodLink RX6 57 yJ6_bitCount_0f7a4 ∈ lw_tbl := List.mem_of_getElem? (i := 452) (by decide +kernel)
set_option maxRecDepth 100000 in
theorem wd454 : Cond.instanceMethod yX8_behind ∈ lw_tbl := List.mem_of_getElem? (i := 454) (by decide +kernel)
set_option maxRecDepth 100000 in
theorem wd455 : Cond.selects RX8 yX8_behind yX8_behind ∈ lw_tbl := List.mem_of_getElem? (i := 455) (by decide +kernel)
set_option maxRecDepth 100000 in
theorem wd456 : Cond.code yX8_behind cX8_behind 5 (some .int) ∈ lw_tbl := List.mem_of_getElem? (i := 456) (by decide +kernel)
set_option maxRecDepth 100000 in
theorem wd457 : Cond.methodLink RX8 124 yX1_sitsAsNumber ∈ lw_tbl := List.mem_of_getElem? (i := 457) (by decide +kernel)
set_option maxRecDepth 100000 in
theorem wd458 : Cond.instanceMethod yX1_sitsAsNumber ∈ lw_tbl := List.mem_of_getElem? (i := 458) (by decide +kernel)
set_option maxRecDepth 100000 in
theorem wd459 : Cond.selects RX1 yX1_sitsAsNumber yX1_sitsAsNumber ∈ lw_tbl := List.mem_of_getElem? (i := 459) (by decide +kernel)
set_option maxRecDepth 100000 in
theorem wd460 : Cond.code yX1_sitsAsNumber cX1_sitsAsNumber 2 (some .int) ∈ lw_tbl := List.mem_of_getElem? (i := 460) (by decide +kernel)
set_option maxRecDepth 100000 in
theorem wd461 : Cond.methodLink RX8 127 yX1_carriedBy ∈ lw_tbl := List.mem_of_getElem? (i := 461) (by decide +kernel)
set_option maxRecDepth 100000 in
theorem wd462 : Cond.instanceMethod yX1_carriedBy ∈ lw_tbl := List.mem_of_getElem? (i := 462) (by decide +kernel)
set_option maxRecDepth 100000 in
theorem wd463 : Cond.selects RX1 yX1_carriedBy yX1_carriedBy ∈ lw_tbl := List.mem_of_getElem? (i := 463) (by decide +kernel)
set_option maxRecDepth 100000 in
theorem wd464 : Cond.code yX1_carriedBy cX1_carriedBy 4 (some .int) ∈ lw_tbl := List.mem_of_getElem? (i := 464) (by decide +kernel)
set_option maxRecDepth 100000 in
theorem wd466 : Cond.instanceMethod yX8_lies ∈ lw_tbl := List.mem_of_getElem? (i := 466) (by decide +kernel)
set_option maxRecDepth 100000 in
theorem wd467 : Cond.selects RX8 yX8_lies yX8_lies ∈ lw_tbl := List.mem_of_getElem? (i := 467) (by decide +kernel)
set_option maxRecDepth 100000 in
theorem wd468 : Cond.code yX8_lies cX8_lies 4 (some .int) ∈ lw_tbl := List.mem_of_getElem? (i := 468) (by decide +kernel)
set_option maxRecDepth 100000 in
theorem wd469 : Cond.methodLink RX8 130 yX1_holderOfThing ∈ lw_tbl := List.mem_of_getElem? (i := 469) (by decide +kernel)
set_option maxRecDepth 100000 in
theorem wd470 : Cond.instanceMethod yX1_holderOfThing ∈ lw_tbl := List.mem_of_getElem? (i := 470) (by decide +kernel)
set_option maxRecDepth 100000 in
theorem wd471 : Cond.selects RX1 yX1_holderOfThing yX1_holderOfThing ∈ lw_tbl := List.mem_of_getElem? (i := 471) (by decide +kernel)
set_option maxRecDepth 100000 in
theorem wd472 : Cond.code yX1_holderOfThing cX1_holderOfThing 2 (some .int) ∈ lw_tbl := List.mem_of_getElem? (i := 472) (by decide +kernel)
set_option maxRecDepth 100000 in
theorem wd474 : Cond.instanceMethod yX8_there ∈ lw_tbl := List.mem_of_getElem? (i := 474) (by decide +kernel)
set_option maxRecDepth 100000 in
theorem wd475 : Cond.selects RX8 yX8_there yX8_there ∈ lw_tbl := List.mem_of_getElem? (i := 475) (by decide +kernel)
set_option maxRecDepth 100000 in
theorem wd476 : Cond.code yX8_there cX8_there 4 (some .int) ∈ lw_tbl := List.mem_of_getElem? (i := 476) (by decide +kernel)
set_option maxRecDepth 100000 in
theorem wd477 : Cond.methodLink RX8 133 yX1_whoIsThere ∈ lw_tbl := List.mem_of_getElem? (i := 477) (by decide +kernel)
set_option maxRecDepth 100000 in
theorem wd478 : Cond.instanceMethod yX1_whoIsThere ∈ lw_tbl := List.mem_of_getElem? (i := 478) (by decide +kernel)
set_option maxRecDepth 100000 in
theorem wd479 : Cond.selects RX1 yX1_whoIsThere yX1_whoIsThere ∈ lw_tbl := List.mem_of_getElem? (i := 479) (by decide +kernel)
set_option maxRecDepth 100000 in
theorem wd480 : Cond.code yX1_whoIsThere cX1_whoIsThere 3 (some .int) ∈ lw_tbl := List.mem_of_getElem? (i := 480) (by decide +kernel)
set_option maxRecDepth 100000 in
theorem wd482 : Cond.instanceMethod yX8_first ∈ lw_tbl := List.mem_of_getElem? (i := 482) (by decide +kernel)
set_option maxRecDepth 100000 in
theorem wd483 : Cond.selects RX8 yX8_first yX8_first ∈ lw_tbl := List.mem_of_getElem? (i := 483) (by decide +kernel)
set_option maxRecDepth 100000 in
theorem wd484 : Cond.code yX8_first cX8_first 3 (some .int) ∈ lw_tbl := List.mem_of_getElem? (i := 484) (by decide +kernel)
set_option maxRecDepth 100000 in
theorem wd486 : Cond.instanceMethod yX8_done ∈ lw_tbl := List.mem_of_getElem? (i := 486) (by decide +kernel)
set_option maxRecDepth 100000 in
theorem wd487 : Cond.selects RX8 yX8_done yX8_done ∈ lw_tbl := List.mem_of_getElem? (i := 487) (by decide +kernel)
set_option maxRecDepth 100000 in
theorem wd488 : Cond.code yX8_done cX8_done 2 (some .int) ∈ lw_tbl := List.mem_of_getElem? (i := 488) (by decide +kernel)
set_option maxRecDepth 100000 in
theorem wd489 : Cond.methodLink RX8 148 yX1_copyFrom ∈ lw_tbl := List.mem_of_getElem? (i := 489) (by decide +kernel)
set_option maxRecDepth 100000 in
theorem wd491 : Cond.instanceMethod yX8_join ∈ lw_tbl := List.mem_of_getElem? (i := 491) (by decide +kernel)
set_option maxRecDepth 100000 in
theorem wd492 : Cond.selects RX8 yX8_join yX8_join ∈ lw_tbl := List.mem_of_getElem? (i := 492) (by decide +kernel)
set_option maxRecDepth 100000 in
theorem wd493 : Cond.code yX8_join cX8_join 3 (some .int) ∈ lw_tbl := List.mem_of_getElem? (i := 493) (by decide +kernel)
set_option maxRecDepth 100000 in
theorem wd494 : Cond.methodLink RX8 152 yX1_fewestWays ∈ lw_tbl := List.mem_of_getElem? (i := 494) (by decide +kernel)
set_option maxRecDepth 100000 in
theorem wd495 : Cond.instanceMethod yX1_fewestWays ∈ lw_tbl := List.mem_of_getElem? (i := 495) (by decide +kernel)
set_option maxRecDepth 100000 in
theorem wd496 : Cond.selects RX1 yX1_fewestWays yX1_fewestWays ∈ lw_tbl := List.mem_of_getElem? (i := 496) (by decide +kernel)
set_option maxRecDepth 100000 in
theorem wd497 : Cond.code yX1_fewestWays cX1_fewestWays 5 (some .int) ∈ lw_tbl := List.mem_of_getElem? (i := 497) (by decide +kernel)
set_option maxRecDepth 100000 in
theorem wd498 : Cond.methodLink RX1 83 yX1_neighboursOf ∈ lw_tbl := List.mem_of_getElem? (i := 498) (by decide +kernel)
set_option maxRecDepth 100000 in
theorem wd500 : Cond.instanceMethod yX1_neighboursOf ∈ lw_tbl := List.mem_of_getElem? (i := 500) (by decide +kernel)
set_option maxRecDepth 100000 in
theorem wd501 : Cond.code yX1_neighboursOf cX1_neighboursOf 4 (some .int) ∈ lw_tbl := List.mem_of_getElem? (i := 501) (by decide +kernel)
set_option maxRecDepth 100000 in
theorem wd503 : Cond.instanceMethod yX8_cut ∈ lw_tbl := List.mem_of_getElem? (i := 503) (by decide +kernel)
set_option maxRecDepth 100000 in
theorem wd504 : Cond.selects RX8 yX8_cut yX8_cut ∈ lw_tbl := List.mem_of_getElem? (i := 504) (by decide +kernel)
set_option maxRecDepth 100000 in
theorem wd505 : Cond.code yX8_cut cX8_cut 5 (some .int) ∈ lw_tbl := List.mem_of_getElem? (i := 505) (by decide +kernel)
set_option maxRecDepth 100000 in
theorem wd506 : Cond.methodLink RX8 156 yX1_leastCut ∈ lw_tbl := List.mem_of_getElem? (i := 506) (by decide +kernel)
set_option maxRecDepth 100000 in
theorem wd507 : Cond.instanceMethod yX1_leastCut ∈ lw_tbl := List.mem_of_getElem? (i := 507) (by decide +kernel)
set_option maxRecDepth 100000 in
theorem wd508 : Cond.selects RX1 yX1_leastCut yX1_leastCut ∈ lw_tbl := List.mem_of_getElem? (i := 508) (by decide +kernel)
set_option maxRecDepth 100000 in
theorem wd509 : Cond.code yX1_leastCut cX1_leastCut 7 (some .int) ∈ lw_tbl := List.mem_of_getElem? (i := 509) (by decide +kernel)
set_option maxRecDepth 100000 in
theorem wd510 : Cond.methodLink RX1 86 yX1_waysOutOf ∈ lw_tbl := List.mem_of_getElem? (i := 510) (by decide +kernel)
set_option maxRecDepth 100000 in
theorem wd511 : Cond.instanceMethod yX1_waysOutOf ∈ lw_tbl := List.mem_of_getElem? (i := 511) (by decide +kernel)
set_option maxRecDepth 100000 in
theorem wd512 : Cond.selects RX1 yX1_waysOutOf yX1_waysOutOf ∈ lw_tbl := List.mem_of_getElem? (i := 512) (by decide +kernel)
set_option maxRecDepth 100000 in
theorem wd513 : Cond.code yX1_waysOutOf cX1_waysOutOf 4 (some .int) ∈ lw_tbl := List.mem_of_getElem? (i := 513) (by decide +kernel)
set_option maxRecDepth 100000 in
theorem wd514 : Cond.methodLink RX8 159 yX1_waysOutOf ∈ lw_tbl := List.mem_of_getElem? (i := 514) (by decide +kernel)
set_option maxRecDepth 100000 in
theorem wd516 : Cond.instanceMethod yX8_rule ∈ lw_tbl := List.mem_of_getElem? (i := 516) (by decide +kernel)
set_option maxRecDepth 100000 in
theorem wd517 : Cond.selects RX8 yX8_rule yX8_rule ∈ lw_tbl := List.mem_of_getElem? (i := 517) (by decide +kernel)
set_option maxRecDepth 100000 in
theorem wd518 : Cond.code yX8_rule cX8_rule 4 (some .int) ∈ lw_tbl := List.mem_of_getElem? (i := 518) (by decide +kernel)
set_option maxRecDepth 100000 in
theorem wd519 : Cond.methodLink RX8 162 yX8_isClaim ∈ lw_tbl := List.mem_of_getElem? (i := 519) (by decide +kernel)
set_option maxRecDepth 100000 in
theorem wd520 : Cond.static yX8_isClaim ∈ lw_tbl := List.mem_of_getElem? (i := 520) (by decide +kernel)
set_option maxRecDepth 100000 in
theorem wd521 : Cond.code yX8_isClaim cX8_isClaim 1 (some .boolean) ∈ lw_tbl := List.mem_of_getElem? (i := 521) (by decide +kernel)
set_option maxRecDepth 100000 in
theorem wd522 : Cond.methodLink RX8 169 yX4_add ∈ lw_tbl := List.mem_of_getElem? (i := 522) (by decide +kernel)
set_option maxRecDepth 100000 in
theorem wd523 : Cond.instanceMethod yX4_add ∈ lw_tbl := List.mem_of_getElem? (i := 523) (by decide +kernel)
set_option maxRecDepth 100000 in
theorem wd524 : Cond.selects RX4 yX4_add yX4_add ∈ lw_tbl := List.mem_of_getElem? (i := 524) (by decide +kernel)
set_option maxRecDepth 100000 in
theorem wd525 : Cond.code yX4_add cX4_add 4 (some .boolean) ∈ lw_tbl := List.mem_of_getElem? (i := 525) (by decide +kernel)
set_option maxRecDepth 100000 in
theorem wd527 : Cond.instanceMethod yX8_unrule ∈ lw_tbl := List.mem_of_getElem? (i := 527) (by decide +kernel)
set_option maxRecDepth 100000 in
theorem wd528 : Cond.selects RX8 yX8_unrule yX8_unrule ∈ lw_tbl := List.mem_of_getElem? (i := 528) (by decide +kernel)
set_option maxRecDepth 100000 in
theorem wd529 : Cond.code yX8_unrule cX8_unrule 2 (some .int) ∈ lw_tbl := List.mem_of_getElem? (i := 529) (by decide +kernel)
set_option maxRecDepth 100000 in
theorem wd531 : Cond.instanceMethod yX8_close ∈ lw_tbl := List.mem_of_getElem? (i := 531) (by decide +kernel)
set_option maxRecDepth 100000 in
theorem wd532 : Cond.selects RX8 yX8_close yX8_close ∈ lw_tbl := List.mem_of_getElem? (i := 532) (by decide +kernel)
set_option maxRecDepth 100000 in
theorem wd533 : Cond.code yX8_close cX8_close 2 (some .int) ∈ lw_tbl := List.mem_of_getElem? (i := 533) (by decide +kernel)
set_option maxRecDepth 100000 in
theorem wd534 : Cond.methodLink RX8 174 yX4_closure ∈ lw_tbl := List.mem_of_getElem? (i := 534) (by decide +kernel)
set_option maxRecDepth 100000 in
theorem wd535 : Cond.instanceMethod yX4_closure ∈ lw_tbl := List.mem_of_getElem? (i := 535) (by decide +kernel)
set_option maxRecDepth 100000 in
theorem wd536 : Cond.selects RX4 yX4_closure yX4_closure ∈ lw_tbl := List.mem_of_getElem? (i := 536) (by decide +kernel)
set_option maxRecDepth 100000 in
theorem wd537 : Cond.code yX4_closure cX4_closure 6 (some .int) ∈ lw_tbl := List.mem_of_getElem? (i := 537) (by decide +kernel)
set_option maxRecDepth 100000 in
theorem wd539 : Cond.instanceMethod yX8_least ∈ lw_tbl := List.mem_of_getElem? (i := 539) (by decide +kernel)
set_option maxRecDepth 100000 in
theorem wd540 : Cond.selects RX8 yX8_least yX8_least ∈ lw_tbl := List.mem_of_getElem? (i := 540) (by decide +kernel)
set_option maxRecDepth 100000 in
theorem wd541 : Cond.code yX8_least cX8_least 4 (some .int) ∈ lw_tbl := List.mem_of_getElem? (i := 541) (by decide +kernel)
set_option maxRecDepth 100000 in
theorem wd542 : Cond.methodLink RX8 177 yX4_leastGrounds ∈ lw_tbl := List.mem_of_getElem? (i := 542) (by decide +kernel)
set_option maxRecDepth 100000 in
theorem wd543 : Cond.instanceMethod yX4_leastGrounds ∈ lw_tbl := List.mem_of_getElem? (i := 543) (by decide +kernel)
set_option maxRecDepth 100000 in
theorem wd544 : Cond.selects RX4 yX4_leastGrounds yX4_leastGrounds ∈ lw_tbl := List.mem_of_getElem? (i := 544) (by decide +kernel)
set_option maxRecDepth 100000 in
theorem wd545 : Cond.code yX4_leastGrounds cX4_leastGrounds 6 (some .int) ∈ lw_tbl := List.mem_of_getElem? (i := 545) (by decide +kernel)
set_option maxRecDepth 100000 in
theorem wd546 : Cond.methodLink RX4 28 yX4_closure ∈ lw_tbl := List.mem_of_getElem? (i := 546) (by decide +kernel)
set_option maxRecDepth 100000 in
theorem wd547 : Cond.methodLinkNest RX4 32 yX8_holds "SwornLane" ∈ lw_tbl := List.mem_of_getElem? (i := 547) (by decide +kernel)
set_option maxRecDepth 100000 in
theorem wd548 : Cond.methodLink RX4 36 yJ6_bitCount_0f7a4 ∈ lw_tbl := List.mem_of_getElem? (i := 548) (by decide +kernel)
set_option maxRecDepth 100000 in
theorem wd549 : Cond.methodLink RX8 180 yJ6_bitCount_0f7a4 ∈ lw_tbl := List.mem_of_getElem? (i := 549) (by decide +kernel)
set_option maxRecDepth 100000 in
theorem wd551 : Cond.instanceMethod yX8_swore ∈ lw_tbl := List.mem_of_getElem? (i := 551) (by decide +kernel)
set_option maxRecDepth 100000 in
theorem wd552 : Cond.selects RX8 yX8_swore yX8_swore ∈ lw_tbl := List.mem_of_getElem? (i := 552) (by decide +kernel)
set_option maxRecDepth 100000 in
theorem wd553 : Cond.code yX8_swore cX8_swore 6 (some .int) ∈ lw_tbl := List.mem_of_getElem? (i := 553) (by decide +kernel)
set_option maxRecDepth 100000 in
theorem wd554 : Cond.methodLink RX8 185 yX8_isQuestion ∈ lw_tbl := List.mem_of_getElem? (i := 554) (by decide +kernel)
set_option maxRecDepth 100000 in
theorem wd555 : Cond.static yX8_isQuestion ∈ lw_tbl := List.mem_of_getElem? (i := 555) (by decide +kernel)
set_option maxRecDepth 100000 in
theorem wd556 : Cond.code yX8_isQuestion cX8_isQuestion 3 (some .boolean) ∈ lw_tbl := List.mem_of_getElem? (i := 556) (by decide +kernel)
set_option maxRecDepth 100000 in
theorem wd557 : Cond.methodLink RX8 188 yX8_setsOfYes ∈ lw_tbl := List.mem_of_getElem? (i := 557) (by decide +kernel)
set_option maxRecDepth 100000 in
theorem wd558 : Cond.static yX8_setsOfYes ∈ lw_tbl := List.mem_of_getElem? (i := 558) (by decide +kernel)
set_option maxRecDepth 100000 in
theorem wd559 : Cond.code yX8_setsOfYes cX8_setsOfYes 5 (some .int) ∈ lw_tbl := List.mem_of_getElem? (i := 559) (by decide +kernel)
set_option maxRecDepth 100000 in
theorem wd560 : Cond.methodLink RX8 280 yX8_isTrue ∈ lw_tbl := List.mem_of_getElem? (i := 560) (by decide +kernel)
set_option maxRecDepth 100000 in
theorem wd561 : Cond.static yX8_isTrue ∈ lw_tbl := List.mem_of_getElem? (i := 561) (by decide +kernel)
set_option maxRecDepth 100000 in
theorem wd562 : Cond.code yX8_isTrue cX8_isTrue 3 (some .boolean) ∈ lw_tbl := List.mem_of_getElem? (i := 562) (by decide +kernel)
set_option maxRecDepth 100000 in
theorem wd563 : Cond.methodLink RX8 196 yX5_add ∈ lw_tbl := List.mem_of_getElem? (i := 563) (by decide +kernel)
set_option maxRecDepth 100000 in
theorem wd564 : Cond.instanceMethod yX5_add ∈ lw_tbl := List.mem_of_getElem? (i := 564) (by decide +kernel)
set_option maxRecDepth 100000 in
theorem wd565 : Cond.selects RX5 yX5_add yX5_add ∈ lw_tbl := List.mem_of_getElem? (i := 565) (by decide +kernel)
set_option maxRecDepth 100000 in
theorem wd566 : Cond.code yX5_add cX5_add 2 (some .boolean) ∈ lw_tbl := List.mem_of_getElem? (i := 566) (by decide +kernel)
set_option maxRecDepth 100000 in
theorem wd568 : Cond.instanceMethod yX8_forget ∈ lw_tbl := List.mem_of_getElem? (i := 568) (by decide +kernel)
set_option maxRecDepth 100000 in
theorem wd569 : Cond.selects RX8 yX8_forget yX8_forget ∈ lw_tbl := List.mem_of_getElem? (i := 569) (by decide +kernel)
set_option maxRecDepth 100000 in
theorem wd570 : Cond.code yX8_forget cX8_forget 2 (some .int) ∈ lw_tbl := List.mem_of_getElem? (i := 570) (by decide +kernel)
set_option maxRecDepth 100000 in
theorem wd572 : Cond.instanceMethod yX8_liars ∈ lw_tbl := List.mem_of_getElem? (i := 572) (by decide +kernel)
set_option maxRecDepth 100000 in
theorem wd573 : Cond.selects RX8 yX8_liars yX8_liars ∈ lw_tbl := List.mem_of_getElem? (i := 573) (by decide +kernel)
set_option maxRecDepth 100000 in
theorem wd574 : Cond.code yX8_liars cX8_liars 3 (some .int) ∈ lw_tbl := List.mem_of_getElem? (i := 574) (by decide +kernel)
set_option maxRecDepth 100000 in
theorem wd575 : Cond.methodLink RX8 200 yX5_fitting ∈ lw_tbl := List.mem_of_getElem? (i := 575) (by decide +kernel)
set_option maxRecDepth 100000 in
theorem wd576 : Cond.instanceMethod yX5_fitting ∈ lw_tbl := List.mem_of_getElem? (i := 576) (by decide +kernel)
set_option maxRecDepth 100000 in
theorem wd577 : Cond.selects RX5 yX5_fitting yX5_fitting ∈ lw_tbl := List.mem_of_getElem? (i := 577) (by decide +kernel)
set_option maxRecDepth 100000 in
theorem wd578 : Cond.code yX5_fitting cX5_fitting 3 (some .int) ∈ lw_tbl := List.mem_of_getElem? (i := 578) (by decide +kernel)
set_option maxRecDepth 100000 in
theorem wd579 : Cond.methodLink RX8 203 yX8_placeOfBit ∈ lw_tbl := List.mem_of_getElem? (i := 579) (by decide +kernel)
set_option maxRecDepth 100000 in
theorem wd581 : Cond.instanceMethod yX8_ask ∈ lw_tbl := List.mem_of_getElem? (i := 581) (by decide +kernel)
set_option maxRecDepth 100000 in
theorem wd582 : Cond.selects RX8 yX8_ask yX8_ask ∈ lw_tbl := List.mem_of_getElem? (i := 582) (by decide +kernel)
set_option maxRecDepth 100000 in
theorem wd583 : Cond.code yX8_ask cX8_ask 4 (some .int) ∈ lw_tbl := List.mem_of_getElem? (i := 583) (by decide +kernel)
set_option maxRecDepth 100000 in
theorem wd584 : Cond.methodLink RX8 206 yX8_bestQuestion ∈ lw_tbl := List.mem_of_getElem? (i := 584) (by decide +kernel)
set_option maxRecDepth 100000 in
theorem wd585 : Cond.static yX8_bestQuestion ∈ lw_tbl := List.mem_of_getElem? (i := 585) (by decide +kernel)
set_option maxRecDepth 100000 in
theorem wd586 : Cond.code yX8_bestQuestion cX8_bestQuestion 5 (some .int) ∈ lw_tbl := List.mem_of_getElem? (i := 586) (by decide +kernel)
set_option maxRecDepth 100000 in
theorem wd587 : Cond.methodLink RX8 209 yX8_mostLeft ∈ lw_tbl := List.mem_of_getElem? (i := 587) (by decide +kernel)
set_option maxRecDepth 100000 in
theorem wd588 : Cond.static yX8_mostLeft ∈ lw_tbl := List.mem_of_getElem? (i := 588) (by decide +kernel)
set_option maxRecDepth 100000 in
theorem wd589 : Cond.code yX8_mostLeft cX8_mostLeft 3 (some .int) ∈ lw_tbl := List.mem_of_getElem? (i := 589) (by decide +kernel)
set_option maxRecDepth 100000 in
theorem wd590 : Cond.methodLink RX8 287 yJ9_max_7cf53 ∈ lw_tbl := List.mem_of_getElem? (i := 590) (by decide +kernel)
set_option maxRecDepth 100000 in
theorem wd591 : Cond.static yJ9_max_7cf53 ∈ lw_tbl := List.mem_of_getElem? (i := 591) (by decide +kernel)
set_option maxRecDepth 100000 in
theorem wd594 : Cond.instanceMethod yX8_walk ∈ lw_tbl := List.mem_of_getElem? (i := 594) (by decide +kernel)
set_option maxRecDepth 100000 in
theorem wd595 : Cond.selects RX8 yX8_walk yX8_walk ∈ lw_tbl := List.mem_of_getElem? (i := 595) (by decide +kernel)
set_option maxRecDepth 100000 in
theorem wd596 : Cond.code yX8_walk cX8_walk 4 (some .int) ∈ lw_tbl := List.mem_of_getElem? (i := 596) (by decide +kernel)
set_option maxRecDepth 100000 in
theorem wd597 : Cond.methodLink RX8 215 yX2_firstStep ∈ lw_tbl := List.mem_of_getElem? (i := 597) (by decide +kernel)
set_option maxRecDepth 100000 in
theorem wd598 : Cond.instanceMethod yX2_firstStep ∈ lw_tbl := List.mem_of_getElem? (i := 598) (by decide +kernel)
set_option maxRecDepth 100000 in
theorem wd599 : Cond.selects RX2 yX2_firstStep yX2_firstStep ∈ lw_tbl := List.mem_of_getElem? (i := 599) (by decide +kernel)
set_option maxRecDepth 100000 in
theorem wd600 : Cond.code yX2_firstStep cX2_firstStep 4 (some .int) ∈ lw_tbl := List.mem_of_getElem? (i := 600) (by decide +kernel)
set_option maxRecDepth 100000 in
theorem wd601 : Cond.methodLink RX2 15 yX2_winningFrom ∈ lw_tbl := List.mem_of_getElem? (i := 601) (by decide +kernel)
set_option maxRecDepth 100000 in
theorem wd603 : Cond.instanceMethod yX2_winningFrom ∈ lw_tbl := List.mem_of_getElem? (i := 603) (by decide +kernel)
set_option maxRecDepth 100000 in
theorem wd604 : Cond.code yX2_winningFrom cX2_winningFrom 5 (some .int) ∈ lw_tbl := List.mem_of_getElem? (i := 604) (by decide +kernel)
set_option maxRecDepth 100000 in
theorem wd605 : Cond.methodLinkNest RX2 23 yX8_holds "SwornLane" ∈ lw_tbl := List.mem_of_getElem? (i := 605) (by decide +kernel)
set_option maxRecDepth 100000 in
theorem wd606 : Cond.methodLink RX2 19 yX2_winningStep ∈ lw_tbl := List.mem_of_getElem? (i := 606) (by decide +kernel)
set_option maxRecDepth 100000 in
theorem wd608 : Cond.instanceMethod yX2_winningStep ∈ lw_tbl := List.mem_of_getElem? (i := 608) (by decide +kernel)
set_option maxRecDepth 100000 in
theorem wd609 : Cond.code yX2_winningStep cX2_winningStep 6 (some .int) ∈ lw_tbl := List.mem_of_getElem? (i := 609) (by decide +kernel)
set_option maxRecDepth 100000 in
theorem wd611 : Cond.instanceMethod yX8_hang ∈ lw_tbl := List.mem_of_getElem? (i := 611) (by decide +kernel)
set_option maxRecDepth 100000 in
theorem wd612 : Cond.selects RX8 yX8_hang yX8_hang ∈ lw_tbl := List.mem_of_getElem? (i := 612) (by decide +kernel)
set_option maxRecDepth 100000 in
theorem wd613 : Cond.code yX8_hang cX8_hang 6 (some .long) ∈ lw_tbl := List.mem_of_getElem? (i := 613) (by decide +kernel)
set_option maxRecDepth 100000 in
theorem wd614 : Cond.constantLong RX8 219 (-1000000000000000002) ∈ lw_tbl := List.mem_of_getElem? (i := 614) (by decide +kernel)
set_option maxRecDepth 100000 in
theorem wd615 : Cond.methodLink RX8 221 yX0_hangingTogether ∈ lw_tbl := List.mem_of_getElem? (i := 615) (by decide +kernel)
set_option maxRecDepth 100000 in
theorem wd616 : Cond.instanceMethod yX0_hangingTogether ∈ lw_tbl := List.mem_of_getElem? (i := 616) (by decide +kernel)
set_option maxRecDepth 100000 in
theorem wd617 : Cond.selects RX0 yX0_hangingTogether yX0_hangingTogether ∈ lw_tbl := List.mem_of_getElem? (i := 617) (by decide +kernel)
set_option maxRecDepth 100000 in
theorem wd618 : Cond.code yX0_hangingTogether cX0_hangingTogether 4 (some .long) ∈ lw_tbl := List.mem_of_getElem? (i := 618) (by decide +kernel)
set_option maxRecDepth 100000 in
theorem wd619 : Cond.constantLong RX0 15 (10) ∈ lw_tbl := List.mem_of_getElem? (i := 619) (by decide +kernel)
set_option maxRecDepth 100000 in
theorem wd620 : Cond.methodLinkNest RX0 17 yX8_pairs "SwornLane" ∈ lw_tbl := List.mem_of_getElem? (i := 620) (by decide +kernel)
set_option maxRecDepth 100000 in
theorem wd621 : Cond.static yX8_pairs ∈ lw_tbl := List.mem_of_getElem? (i := 621) (by decide +kernel)
set_option maxRecDepth 100000 in
theorem wd622 : Cond.code yX8_pairs cX8_pairs 1 (some .int) ∈ lw_tbl := List.mem_of_getElem? (i := 622) (by decide +kernel)
set_option maxRecDepth 100000 in
theorem wd623 : Cond.methodLinkNest RX0 21 yX8_power "SwornLane" ∈ lw_tbl := List.mem_of_getElem? (i := 623) (by decide +kernel)
set_option maxRecDepth 100000 in
theorem wd624 : Cond.static yX8_power ∈ lw_tbl := List.mem_of_getElem? (i := 624) (by decide +kernel)
set_option maxRecDepth 100000 in
theorem wd625 : Cond.code yX8_power cX8_power 6 (some .long) ∈ lw_tbl := List.mem_of_getElem? (i := 625) (by decide +kernel)
set_option maxRecDepth 100000 in
theorem wd626 : Cond.methodLink RX0 25 yX0_apart ∈ lw_tbl := List.mem_of_getElem? (i := 626) (by decide +kernel)
set_option maxRecDepth 100000 in
theorem wd628 : Cond.instanceMethod yX0_apart ∈ lw_tbl := List.mem_of_getElem? (i := 628) (by decide +kernel)
set_option maxRecDepth 100000 in
theorem wd629 : Cond.code yX0_apart cX0_apart 9 (some .long) ∈ lw_tbl := List.mem_of_getElem? (i := 629) (by decide +kernel)
set_option maxRecDepth 100000 in
theorem wd630 : Cond.constantLong RX8 225 (10) ∈ lw_tbl := List.mem_of_getElem? (i := 630) (by decide +kernel)
set_option maxRecDepth 100000 in
theorem wd631 : Cond.methodLink RX8 227 yX8_pairs ∈ lw_tbl := List.mem_of_getElem? (i := 631) (by decide +kernel)
set_option maxRecDepth 100000 in
theorem wd632 : Cond.methodLink RX8 230 yX8_power ∈ lw_tbl := List.mem_of_getElem? (i := 632) (by decide +kernel)
set_option maxRecDepth 100000 in
theorem wd633 : Cond.methodLink RX8 234 yX8_partOf ∈ lw_tbl := List.mem_of_getElem? (i := 633) (by decide +kernel)
set_option maxRecDepth 100000 in
theorem wd634 : Cond.static yX8_partOf ∈ lw_tbl := List.mem_of_getElem? (i := 634) (by decide +kernel)
set_option maxRecDepth 100000 in
theorem wd635 : Cond.code yX8_partOf cX8_partOf 7 (some .long) ∈ lw_tbl := List.mem_of_getElem? (i := 635) (by decide +kernel)
set_option maxRecDepth 100000 in
theorem wd636 : Cond.methodLink RX8 292 yX8_commonDivisor ∈ lw_tbl := List.mem_of_getElem? (i := 636) (by decide +kernel)
set_option maxRecDepth 100000 in
theorem wd637 : Cond.static yX8_commonDivisor ∈ lw_tbl := List.mem_of_getElem? (i := 637) (by decide +kernel)
set_option maxRecDepth 100000 in
theorem wd638 : Cond.code yX8_commonDivisor cX8_commonDivisor 11 (some .long) ∈ lw_tbl := List.mem_of_getElem? (i := 638) (by decide +kernel)
set_option maxRecDepth 100000 in
theorem wd640 : Cond.instanceMethod yX8_year ∈ lw_tbl := List.mem_of_getElem? (i := 640) (by decide +kernel)
set_option maxRecDepth 100000 in
theorem wd641 : Cond.selects RX8 yX8_year yX8_year ∈ lw_tbl := List.mem_of_getElem? (i := 641) (by decide +kernel)
set_option maxRecDepth 100000 in
theorem wd642 : Cond.code yX8_year cX8_year 4 (some .int) ∈ lw_tbl := List.mem_of_getElem? (i := 642) (by decide +kernel)
set_option maxRecDepth 100000 in
theorem wd643 : Cond.methodLink RX8 238 yX8_liveYear ∈ lw_tbl := List.mem_of_getElem? (i := 643) (by decide +kernel)
set_option maxRecDepth 100000 in
theorem wd645 : Cond.instanceMethod yX8_liveYear ∈ lw_tbl := List.mem_of_getElem? (i := 645) (by decide +kernel)
set_option maxRecDepth 100000 in
theorem wd646 : Cond.code yX8_liveYear cX8_liveYear 5 none ∈ lw_tbl := List.mem_of_getElem? (i := 646) (by decide +kernel)
set_option maxRecDepth 100000 in
theorem wd647 : Cond.constant RX8 276 (65537) ∈ lw_tbl := List.mem_of_getElem? (i := 647) (by decide +kernel)
set_option maxRecDepth 100000 in
theorem wd648 : Cond.methodLink RX8 277 yX8_attemptDrawn ∈ lw_tbl := List.mem_of_getElem? (i := 648) (by decide +kernel)
set_option maxRecDepth 100000 in
theorem wd650 : Cond.instanceMethod yX8_attemptDrawn ∈ lw_tbl := List.mem_of_getElem? (i := 650) (by decide +kernel)
set_option maxRecDepth 100000 in
theorem wd651 : Cond.code yX8_attemptDrawn cX8_attemptDrawn 4 none ∈ lw_tbl := List.mem_of_getElem? (i := 651) (by decide +kernel)
set_option maxRecDepth 100000 in
theorem wd657 : Cond.instanceMethod yX7_copyFrom ∈ lw_tbl := List.mem_of_getElem? (i := 657) (by decide +kernel)
set_option maxRecDepth 100000 in
theorem wd658 : Cond.selects RX7 yX7_copyFrom yX7_copyFrom ∈ lw_tbl := List.mem_of_getElem? (i := 658) (by decide +kernel)
set_option maxRecDepth 100000 in
theorem wd659 : Cond.code yX7_copyFrom cX7_copyFrom 2 none ∈ lw_tbl := List.mem_of_getElem? (i := 659) (by decide +kernel)
set_option maxRecDepth 100000 in
theorem wd660 : Cond.methodLink RX7 30 yX1_copyFrom ∈ lw_tbl := List.mem_of_getElem? (i := 660) (by decide +kernel)
set_option maxRecDepth 100000 in
theorem wd661 : Cond.methodLink RX7 34 yX4_copyFrom ∈ lw_tbl := List.mem_of_getElem? (i := 661) (by decide +kernel)
set_option maxRecDepth 100000 in
theorem wd662 : Cond.instanceMethod yX4_copyFrom ∈ lw_tbl := List.mem_of_getElem? (i := 662) (by decide +kernel)
set_option maxRecDepth 100000 in
theorem wd663 : Cond.selects RX4 yX4_copyFrom yX4_copyFrom ∈ lw_tbl := List.mem_of_getElem? (i := 663) (by decide +kernel)
set_option maxRecDepth 100000 in
theorem wd664 : Cond.code yX4_copyFrom cX4_copyFrom 2 none ∈ lw_tbl := List.mem_of_getElem? (i := 664) (by decide +kernel)
set_option maxRecDepth 100000 in
theorem wd665 : Cond.methodLink RX4 18 ⟨"java/lang/System", "arraycopy", "(Ljava/lang/Object;ILjava/lang/Object;II)V"⟩ ∈ lw_tbl := List.mem_of_getElem? (i := 665) (by decide +kernel)
set_option maxRecDepth 100000 in
theorem wd666 : Cond.methodLink RX7 37 yX5_copyFrom ∈ lw_tbl := List.mem_of_getElem? (i := 666) (by decide +kernel)
set_option maxRecDepth 100000 in
theorem wd667 : Cond.instanceMethod yX5_copyFrom ∈ lw_tbl := List.mem_of_getElem? (i := 667) (by decide +kernel)
set_option maxRecDepth 100000 in
theorem wd668 : Cond.selects RX5 yX5_copyFrom yX5_copyFrom ∈ lw_tbl := List.mem_of_getElem? (i := 668) (by decide +kernel)
set_option maxRecDepth 100000 in
theorem wd669 : Cond.code yX5_copyFrom cX5_copyFrom 2 none ∈ lw_tbl := List.mem_of_getElem? (i := 669) (by decide +kernel)
set_option maxRecDepth 100000 in
theorem wd670 : Cond.methodLink RX5 15 ⟨"java/lang/System", "arraycopy", "(Ljava/lang/Object;ILjava/lang/Object;II)V"⟩ ∈ lw_tbl := List.mem_of_getElem? (i := 670) (by decide +kernel)
set_option maxRecDepth 100000 in
theorem wd676 : Cond.instanceMethod yX8_told ∈ lw_tbl := List.mem_of_getElem? (i := 676) (by decide +kernel)
set_option maxRecDepth 100000 in
theorem wd677 : Cond.selects RX8 yX8_told yX8_told ∈ lw_tbl := List.mem_of_getElem? (i := 677) (by decide +kernel)
set_option maxRecDepth 100000 in
theorem wd678 : Cond.code yX8_told cX8_told 4 (some .int) ∈ lw_tbl := List.mem_of_getElem? (i := 678) (by decide +kernel)
set_option maxRecDepth 100000 in
theorem wd679 : Cond.methodLink RX8 245 yX8_tellOfAll ∈ lw_tbl := List.mem_of_getElem? (i := 679) (by decide +kernel)
set_option maxRecDepth 100000 in
theorem wd681 : Cond.instanceMethod yX8_tellOfAll ∈ lw_tbl := List.mem_of_getElem? (i := 681) (by decide +kernel)
set_option maxRecDepth 100000 in
theorem wd682 : Cond.code yX8_tellOfAll cX8_tellOfAll 2 (some .int) ∈ lw_tbl := List.mem_of_getElem? (i := 682) (by decide +kernel)
set_option maxRecDepth 100000 in
theorem wd683 : Cond.methodLink RX8 248 yX8_tellOfPerson ∈ lw_tbl := List.mem_of_getElem? (i := 683) (by decide +kernel)
set_option maxRecDepth 100000 in
theorem wd685 : Cond.instanceMethod yX8_tellOfPerson ∈ lw_tbl := List.mem_of_getElem? (i := 685) (by decide +kernel)
set_option maxRecDepth 100000 in
theorem wd686 : Cond.code yX8_tellOfPerson cX8_tellOfPerson 3 (some .int) ∈ lw_tbl := List.mem_of_getElem? (i := 686) (by decide +kernel)
set_option maxRecDepth 100000 in
theorem wd687 : Cond.methodLink RX8 251 yX8_tellOfThing ∈ lw_tbl := List.mem_of_getElem? (i := 687) (by decide +kernel)
set_option maxRecDepth 100000 in
theorem wd689 : Cond.instanceMethod yX8_tellOfThing ∈ lw_tbl := List.mem_of_getElem? (i := 689) (by decide +kernel)
set_option maxRecDepth 100000 in
theorem wd690 : Cond.code yX8_tellOfThing cX8_tellOfThing 3 (some .int) ∈ lw_tbl := List.mem_of_getElem? (i := 690) (by decide +kernel)
set_option maxRecDepth 100000 in
theorem wd697 : Cond.fieldLink RX9 7 "SwornLaneModel" "beside" "[I" ∈ lw_tbl := List.mem_of_getElem? (i := 697) (by decide +kernel)
set_option maxRecDepth 100000 in
theorem wd698 : Cond.fieldLink RX9 13 "SwornLaneModel" "place" "[I" ∈ lw_tbl := List.mem_of_getElem? (i := 698) (by decide +kernel)
set_option maxRecDepth 100000 in
theorem wd699 : Cond.fieldLink RX9 16 "SwornLaneModel" "stands" "[I" ∈ lw_tbl := List.mem_of_getElem? (i := 699) (by decide +kernel)
set_option maxRecDepth 100000 in
theorem wd700 : Cond.fieldLink RX9 19 "SwornLaneModel" "faint" "[I" ∈ lw_tbl := List.mem_of_getElem? (i := 700) (by decide +kernel)
set_option maxRecDepth 100000 in
theorem wd701 : Cond.fieldLink RX9 22 "SwornLaneModel" "sits" "[I" ∈ lw_tbl := List.mem_of_getElem? (i := 701) (by decide +kernel)
set_option maxRecDepth 100000 in
theorem wd702 : Cond.fieldLink RX9 74 "SwornLaneModel" "isUp" "I" ∈ lw_tbl := List.mem_of_getElem? (i := 702) (by decide +kernel)
set_option maxRecDepth 100000 in
theorem wd703 : Cond.fieldLink RX9 174 "SwornLaneModel" "hours" "I" ∈ lw_tbl := List.mem_of_getElem? (i := 703) (by decide +kernel)
set_option maxRecDepth 100000 in
theorem wd704 : Cond.fieldLink RX9 25 "SwornLaneModel" "ruleOne" "[I" ∈ lw_tbl := List.mem_of_getElem? (i := 704) (by decide +kernel)
set_option maxRecDepth 100000 in
theorem wd705 : Cond.fieldLink RX9 28 "SwornLaneModel" "ruleOther" "[I" ∈ lw_tbl := List.mem_of_getElem? (i := 705) (by decide +kernel)
set_option maxRecDepth 100000 in
theorem wd706 : Cond.fieldLink RX9 31 "SwornLaneModel" "ruleThen" "[I" ∈ lw_tbl := List.mem_of_getElem? (i := 706) (by decide +kernel)
set_option maxRecDepth 100000 in
theorem wd707 : Cond.fieldLink RX9 281 "SwornLaneModel" "rules" "I" ∈ lw_tbl := List.mem_of_getElem? (i := 707) (by decide +kernel)
set_option maxRecDepth 100000 in
theorem wd708 : Cond.fieldLink RX9 34 "SwornLaneModel" "sightWho" "[I" ∈ lw_tbl := List.mem_of_getElem? (i := 708) (by decide +kernel)
set_option maxRecDepth 100000 in
theorem wd709 : Cond.fieldLink RX9 37 "SwornLaneModel" "sightWhat" "[I" ∈ lw_tbl := List.mem_of_getElem? (i := 709) (by decide +kernel)
set_option maxRecDepth 100000 in
theorem wd710 : Cond.fieldLink RX9 40 "SwornLaneModel" "sightOf" "[I" ∈ lw_tbl := List.mem_of_getElem? (i := 710) (by decide +kernel)
set_option maxRecDepth 100000 in
theorem wd711 : Cond.fieldLink RX9 43 "SwornLaneModel" "sightYes" "[I" ∈ lw_tbl := List.mem_of_getElem? (i := 711) (by decide +kernel)
set_option maxRecDepth 100000 in
theorem wd712 : Cond.fieldLink RX9 296 "SwornLaneModel" "sights" "I" ∈ lw_tbl := List.mem_of_getElem? (i := 712) (by decide +kernel)
set_option maxRecDepth 100000 in
theorem wd713 : Cond.fieldLink RX9 46 "SwornLaneModel" "pad" "[I" ∈ lw_tbl := List.mem_of_getElem? (i := 713) (by decide +kernel)
set_option maxRecDepth 100000 in
theorem wd714 : Cond.fieldLink RX9 126 "SwornLaneModel" "padMany" "I" ∈ lw_tbl := List.mem_of_getElem? (i := 714) (by decide +kernel)
set_option maxRecDepth 100000 in
theorem wd715 : Cond.fieldLink RX9 49 "SwornLaneModel" "act" "[I" ∈ lw_tbl := List.mem_of_getElem? (i := 715) (by decide +kernel)
set_option maxRecDepth 100000 in
theorem wd716 : Cond.fieldLink RX9 52 "SwornLaneModel" "which" "[I" ∈ lw_tbl := List.mem_of_getElem? (i := 716) (by decide +kernel)
set_option maxRecDepth 100000 in
theorem wd717 : Cond.fieldLink RX9 55 "SwornLaneModel" "other" "[I" ∈ lw_tbl := List.mem_of_getElem? (i := 717) (by decide +kernel)
set_option maxRecDepth 100000 in
theorem wd718 : Cond.fieldLink RX9 129 "SwornLaneModel" "acts" "I" ∈ lw_tbl := List.mem_of_getElem? (i := 718) (by decide +kernel)
set_option maxRecDepth 100000 in
theorem wd719 : Cond.fieldLink RX9 181 "SwornLaneModel" "satAll" "I" ∈ lw_tbl := List.mem_of_getElem? (i := 719) (by decide +kernel)
set_option maxRecDepth 100000 in
theorem wd720 : Cond.fieldLink RX9 184 "SwornLaneModel" "satNow" "I" ∈ lw_tbl := List.mem_of_getElem? (i := 720) (by decide +kernel)
set_option maxRecDepth 100000 in
theorem wd721 : Cond.fieldLink RX9 58 "SwornLaneModel" "had" "[I" ∈ lw_tbl := List.mem_of_getElem? (i := 721) (by decide +kernel)
set_option maxRecDepth 100000 in
theorem wd722 : Cond.fieldLink RX9 207 "SwornLaneModel" "at" "I" ∈ lw_tbl := List.mem_of_getElem? (i := 722) (by decide +kernel)
set_option maxRecDepth 100000 in
theorem wd723 : Cond.fieldLink RX9 203 "SwornLaneModel" "isBack" "Z" ∈ lw_tbl := List.mem_of_getElem? (i := 723) (by decide +kernel)
set_option maxRecDepth 100000 in
theorem wd724 : Cond.fieldLink RX9 230 "SwornLaneModel" "badAct" "I" ∈ lw_tbl := List.mem_of_getElem? (i := 724) (by decide +kernel)
set_option maxRecDepth 100000 in
theorem wd725 : Cond.fieldLink RX9 233 "SwornLaneModel" "badWhy" "I" ∈ lw_tbl := List.mem_of_getElem? (i := 725) (by decide +kernel)
set_option maxRecDepth 100000 in
theorem wd726 : Cond.fieldLink RX9 224 "SwornLaneModel" "satAct" "I" ∈ lw_tbl := List.mem_of_getElem? (i := 726) (by decide +kernel)
set_option maxRecDepth 100000 in
theorem wd727 : Cond.fieldLink RX9 227 "SwornLaneModel" "satWho" "I" ∈ lw_tbl := List.mem_of_getElem? (i := 727) (by decide +kernel)
set_option maxRecDepth 100000 in
theorem wd728 : Cond.fieldLink RX9 61 "SwornLaneModel" "wins" "[Z" ∈ lw_tbl := List.mem_of_getElem? (i := 728) (by decide +kernel)
set_option maxRecDepth 100000 in
theorem wd729 : Cond.fieldLink RX9 65 "SwornLaneModel" "net" "[I" ∈ lw_tbl := List.mem_of_getElem? (i := 729) (by decide +kernel)
set_option maxRecDepth 100000 in
theorem wd730 : Cond.fieldLink RX9 68 "SwornLaneModel" "kept" "[I" ∈ lw_tbl := List.mem_of_getElem? (i := 730) (by decide +kernel)
set_option maxRecDepth 100000 in
theorem wd731 : Cond.fieldLink RX9 71 "SwornLaneModel" "isKept" "[Z" ∈ lw_tbl := List.mem_of_getElem? (i := 731) (by decide +kernel)
set_option maxRecDepth 100000 in
theorem wd732 : Cond.fieldLink RX9 350 "SwornLaneModel" "keptAt" "I" ∈ lw_tbl := List.mem_of_getElem? (i := 732) (by decide +kernel)
set_option maxRecDepth 100000 in
theorem wd733 : Cond.fieldLink RX9 347 "SwornLaneModel" "isWriting" "Z" ∈ lw_tbl := List.mem_of_getElem? (i := 733) (by decide +kernel)
set_option maxRecDepth 100000 in
theorem wd811 : Cond.instanceMethod yX9_way ∈ lw_tbl := List.mem_of_getElem? (i := 811) (by decide +kernel)
set_option maxRecDepth 100000 in
theorem wd812 : Cond.selects RX9 yX9_way yX9_way ∈ lw_tbl := List.mem_of_getElem? (i := 812) (by decide +kernel)
set_option maxRecDepth 100000 in
theorem wd813 : Cond.code yX9_way cX9_way 4 (some .int) ∈ lw_tbl := List.mem_of_getElem? (i := 813) (by decide +kernel)
set_option maxRecDepth 100000 in
theorem wd814 : Cond.methodLink RX9 90 yX9_isCorner ∈ lw_tbl := List.mem_of_getElem? (i := 814) (by decide +kernel)
set_option maxRecDepth 100000 in
theorem wd815 : Cond.static yX9_isCorner ∈ lw_tbl := List.mem_of_getElem? (i := 815) (by decide +kernel)
set_option maxRecDepth 100000 in
theorem wd816 : Cond.code yX9_isCorner cX9_isCorner 1 (some .boolean) ∈ lw_tbl := List.mem_of_getElem? (i := 816) (by decide +kernel)
set_option maxRecDepth 100000 in
theorem wd817 : Cond.constantLong RX9 78 (7) ∈ lw_tbl := List.mem_of_getElem? (i := 817) (by decide +kernel)
set_option maxRecDepth 100000 in
theorem wd818 : Cond.methodLink RX9 80 yX9_in ∈ lw_tbl := List.mem_of_getElem? (i := 818) (by decide +kernel)
set_option maxRecDepth 100000 in
theorem wd819 : Cond.static yX9_in ∈ lw_tbl := List.mem_of_getElem? (i := 819) (by decide +kernel)
set_option maxRecDepth 100000 in
theorem wd820 : Cond.code yX9_in cX9_in 6 (some .boolean) ∈ lw_tbl := List.mem_of_getElem? (i := 820) (by decide +kernel)
set_option maxRecDepth 100000 in
theorem wd821 : Cond.methodLink RX9 94 yX9_layWay ∈ lw_tbl := List.mem_of_getElem? (i := 821) (by decide +kernel)
set_option maxRecDepth 100000 in
theorem wd823 : Cond.instanceMethod yX9_layWay ∈ lw_tbl := List.mem_of_getElem? (i := 823) (by decide +kernel)
set_option maxRecDepth 100000 in
theorem wd824 : Cond.code yX9_layWay cX9_layWay 4 none ∈ lw_tbl := List.mem_of_getElem? (i := 824) (by decide +kernel)
set_option maxRecDepth 100000 in
theorem wd825 : Cond.methodLink RX9 98 yX9_waysAll ∈ lw_tbl := List.mem_of_getElem? (i := 825) (by decide +kernel)
set_option maxRecDepth 100000 in
theorem wd827 : Cond.instanceMethod yX9_waysAll ∈ lw_tbl := List.mem_of_getElem? (i := 827) (by decide +kernel)
set_option maxRecDepth 100000 in
theorem wd828 : Cond.code yX9_waysAll cX9_waysAll 3 (some .int) ∈ lw_tbl := List.mem_of_getElem? (i := 828) (by decide +kernel)
set_option maxRecDepth 100000 in
theorem wd829 : Cond.methodLink RX9 86 yX9_ones ∈ lw_tbl := List.mem_of_getElem? (i := 829) (by decide +kernel)
set_option maxRecDepth 100000 in
theorem wd830 : Cond.static yX9_ones ∈ lw_tbl := List.mem_of_getElem? (i := 830) (by decide +kernel)
set_option maxRecDepth 100000 in
theorem wd831 : Cond.code yX9_ones cX9_ones 3 (some .int) ∈ lw_tbl := List.mem_of_getElem? (i := 831) (by decide +kernel)
set_option maxRecDepth 100000 in
theorem wd833 : Cond.instanceMethod yX9_thing ∈ lw_tbl := List.mem_of_getElem? (i := 833) (by decide +kernel)
set_option maxRecDepth 100000 in
theorem wd834 : Cond.selects RX9 yX9_thing yX9_thing ∈ lw_tbl := List.mem_of_getElem? (i := 834) (by decide +kernel)
set_option maxRecDepth 100000 in
theorem wd835 : Cond.code yX9_thing cX9_thing 4 (some .int) ∈ lw_tbl := List.mem_of_getElem? (i := 835) (by decide +kernel)
set_option maxRecDepth 100000 in
theorem wd836 : Cond.methodLink RX9 102 yX9_isThing ∈ lw_tbl := List.mem_of_getElem? (i := 836) (by decide +kernel)
set_option maxRecDepth 100000 in
theorem wd837 : Cond.static yX9_isThing ∈ lw_tbl := List.mem_of_getElem? (i := 837) (by decide +kernel)
set_option maxRecDepth 100000 in
theorem wd838 : Cond.code yX9_isThing cX9_isThing 1 (some .boolean) ∈ lw_tbl := List.mem_of_getElem? (i := 838) (by decide +kernel)
set_option maxRecDepth 100000 in
theorem wd839 : Cond.constantLong RX9 105 (-1) ∈ lw_tbl := List.mem_of_getElem? (i := 839) (by decide +kernel)
set_option maxRecDepth 100000 in
theorem wd840 : Cond.methodLink RX9 107 yX9_cornerOf ∈ lw_tbl := List.mem_of_getElem? (i := 840) (by decide +kernel)
set_option maxRecDepth 100000 in
theorem wd842 : Cond.instanceMethod yX9_cornerOf ∈ lw_tbl := List.mem_of_getElem? (i := 842) (by decide +kernel)
set_option maxRecDepth 100000 in
theorem wd843 : Cond.code yX9_cornerOf cX9_cornerOf 2 (some .int) ∈ lw_tbl := List.mem_of_getElem? (i := 843) (by decide +kernel)
set_option maxRecDepth 100000 in
theorem wd845 : Cond.instanceMethod yX9_person ∈ lw_tbl := List.mem_of_getElem? (i := 845) (by decide +kernel)
set_option maxRecDepth 100000 in
theorem wd846 : Cond.selects RX9 yX9_person yX9_person ∈ lw_tbl := List.mem_of_getElem? (i := 846) (by decide +kernel)
set_option maxRecDepth 100000 in
theorem wd847 : Cond.code yX9_person cX9_person 5 (some .int) ∈ lw_tbl := List.mem_of_getElem? (i := 847) (by decide +kernel)
set_option maxRecDepth 100000 in
theorem wd848 : Cond.methodLink RX9 113 yX9_isPerson ∈ lw_tbl := List.mem_of_getElem? (i := 848) (by decide +kernel)
set_option maxRecDepth 100000 in
theorem wd849 : Cond.static yX9_isPerson ∈ lw_tbl := List.mem_of_getElem? (i := 849) (by decide +kernel)
set_option maxRecDepth 100000 in
theorem wd850 : Cond.code yX9_isPerson cX9_isPerson 1 (some .boolean) ∈ lw_tbl := List.mem_of_getElem? (i := 850) (by decide +kernel)
set_option maxRecDepth 100000 in
theorem wd851 : Cond.constantLong RX9 84 (5) ∈ lw_tbl := List.mem_of_getElem? (i := 851) (by decide +kernel)
set_option maxRecDepth 100000 in
theorem wd852 : Cond.constantLong RX9 116 (9) ∈ lw_tbl := List.mem_of_getElem? (i := 852) (by decide +kernel)
set_option maxRecDepth 100000 in
theorem wd853 : Cond.methodLink RX9 118 yX9_drop ∈ lw_tbl := List.mem_of_getElem? (i := 853) (by decide +kernel)
set_option maxRecDepth 100000 in
theorem wd855 : Cond.instanceMethod yX9_drop ∈ lw_tbl := List.mem_of_getElem? (i := 855) (by decide +kernel)
set_option maxRecDepth 100000 in
theorem wd856 : Cond.code yX9_drop cX9_drop 3 none ∈ lw_tbl := List.mem_of_getElem? (i := 856) (by decide +kernel)
set_option maxRecDepth 100000 in
theorem wd857 : Cond.methodLink RX9 110 yX9_carrierOf ∈ lw_tbl := List.mem_of_getElem? (i := 857) (by decide +kernel)
set_option maxRecDepth 100000 in
theorem wd859 : Cond.instanceMethod yX9_carrierOf ∈ lw_tbl := List.mem_of_getElem? (i := 859) (by decide +kernel)
set_option maxRecDepth 100000 in
theorem wd860 : Cond.code yX9_carrierOf cX9_carrierOf 2 (some .int) ∈ lw_tbl := List.mem_of_getElem? (i := 860) (by decide +kernel)
set_option maxRecDepth 100000 in
theorem wd862 : Cond.instanceMethod yX9_pole ∈ lw_tbl := List.mem_of_getElem? (i := 862) (by decide +kernel)
set_option maxRecDepth 100000 in
theorem wd863 : Cond.selects RX9 yX9_pole yX9_pole ∈ lw_tbl := List.mem_of_getElem? (i := 863) (by decide +kernel)
set_option maxRecDepth 100000 in
theorem wd864 : Cond.code yX9_pole cX9_pole 3 (some .int) ∈ lw_tbl := List.mem_of_getElem? (i := 864) (by decide +kernel)
set_option maxRecDepth 100000 in
theorem wd866 : Cond.instanceMethod yX9_say ∈ lw_tbl := List.mem_of_getElem? (i := 866) (by decide +kernel)
set_option maxRecDepth 100000 in
theorem wd867 : Cond.selects RX9 yX9_say yX9_say ∈ lw_tbl := List.mem_of_getElem? (i := 867) (by decide +kernel)
set_option maxRecDepth 100000 in
theorem wd868 : Cond.code yX9_say cX9_say 2 (some .int) ∈ lw_tbl := List.mem_of_getElem? (i := 868) (by decide +kernel)
set_option maxRecDepth 100000 in
theorem wd869 : Cond.constantLong RX9 122 (33) ∈ lw_tbl := List.mem_of_getElem? (i := 869) (by decide +kernel)
set_option maxRecDepth 100000 in
theorem wd870 : Cond.constantLong RX9 124 (126) ∈ lw_tbl := List.mem_of_getElem? (i := 870) (by decide +kernel)
set_option maxRecDepth 100000 in
theorem wd872 : Cond.instanceMethod yX9_wipe ∈ lw_tbl := List.mem_of_getElem? (i := 872) (by decide +kernel)
set_option maxRecDepth 100000 in
theorem wd873 : Cond.selects RX9 yX9_wipe yX9_wipe ∈ lw_tbl := List.mem_of_getElem? (i := 873) (by decide +kernel)
set_option maxRecDepth 100000 in
theorem wd874 : Cond.code yX9_wipe cX9_wipe 2 (some .int) ∈ lw_tbl := List.mem_of_getElem? (i := 874) (by decide +kernel)
set_option maxRecDepth 100000 in
theorem wd876 : Cond.instanceMethod yX9_fault ∈ lw_tbl := List.mem_of_getElem? (i := 876) (by decide +kernel)
set_option maxRecDepth 100000 in
theorem wd877 : Cond.selects RX9 yX9_fault yX9_fault ∈ lw_tbl := List.mem_of_getElem? (i := 877) (by decide +kernel)
set_option maxRecDepth 100000 in
theorem wd878 : Cond.code yX9_fault cX9_fault 3 (some .int) ∈ lw_tbl := List.mem_of_getElem? (i := 878) (by decide +kernel)
set_option maxRecDepth 100000 in
theorem wd879 : Cond.methodLink RX9 160 yX9_readOn ∈ lw_tbl := List.mem_of_getElem? (i := 879) (by decide +kernel)
set_option maxRecDepth 100000 in
theorem wd881 : Cond.instanceMethod yX9_readOn ∈ lw_tbl := List.mem_of_getElem? (i := 881) (by decide +kernel)
set_option maxRecDepth 100000 in
theorem wd882 : Cond.code yX9_readOn cX9_readOn 5 (some .int) ∈ lw_tbl := List.mem_of_getElem? (i := 882) (by decide +kernel)
set_option maxRecDepth 100000 in
theorem wd883 : Cond.constantLong RX9 143 (97) ∈ lw_tbl := List.mem_of_getElem? (i := 883) (by decide +kernel)
set_option maxRecDepth 100000 in
theorem wd884 : Cond.constantLong RX9 145 (104) ∈ lw_tbl := List.mem_of_getElem? (i := 884) (by decide +kernel)
set_option maxRecDepth 100000 in
theorem wd885 : Cond.constantLong RX9 147 (48) ∈ lw_tbl := List.mem_of_getElem? (i := 885) (by decide +kernel)
set_option maxRecDepth 100000 in
theorem wd886 : Cond.constantLong RX9 149 (55) ∈ lw_tbl := List.mem_of_getElem? (i := 886) (by decide +kernel)
set_option maxRecDepth 100000 in
theorem wd887 : Cond.methodLink RX9 151 yX9_begin ∈ lw_tbl := List.mem_of_getElem? (i := 887) (by decide +kernel)
set_option maxRecDepth 100000 in
theorem wd889 : Cond.instanceMethod yX9_begin ∈ lw_tbl := List.mem_of_getElem? (i := 889) (by decide +kernel)
set_option maxRecDepth 100000 in
theorem wd890 : Cond.code yX9_begin cX9_begin 2 (some .int) ∈ lw_tbl := List.mem_of_getElem? (i := 890) (by decide +kernel)
set_option maxRecDepth 100000 in
theorem wd891 : Cond.constantLong RX9 132 (65) ∈ lw_tbl := List.mem_of_getElem? (i := 891) (by decide +kernel)
set_option maxRecDepth 100000 in
theorem wd892 : Cond.constantLong RX9 134 (70) ∈ lw_tbl := List.mem_of_getElem? (i := 892) (by decide +kernel)
set_option maxRecDepth 100000 in
theorem wd893 : Cond.methodLink RX9 136 yX9_opens ∈ lw_tbl := List.mem_of_getElem? (i := 893) (by decide +kernel)
set_option maxRecDepth 100000 in
theorem wd895 : Cond.instanceMethod yX9_opens ∈ lw_tbl := List.mem_of_getElem? (i := 895) (by decide +kernel)
set_option maxRecDepth 100000 in
theorem wd896 : Cond.code yX9_opens cX9_opens 3 (some .int) ∈ lw_tbl := List.mem_of_getElem? (i := 896) (by decide +kernel)
set_option maxRecDepth 100000 in
theorem wd897 : Cond.methodLink RX9 140 yX9_ends ∈ lw_tbl := List.mem_of_getElem? (i := 897) (by decide +kernel)
set_option maxRecDepth 100000 in
theorem wd899 : Cond.instanceMethod yX9_ends ∈ lw_tbl := List.mem_of_getElem? (i := 899) (by decide +kernel)
set_option maxRecDepth 100000 in
theorem wd900 : Cond.code yX9_ends cX9_ends 3 (some .int) ∈ lw_tbl := List.mem_of_getElem? (i := 900) (by decide +kernel)
set_option maxRecDepth 100000 in
theorem wd901 : Cond.methodLink RX9 154 yX9_begun ∈ lw_tbl := List.mem_of_getElem? (i := 901) (by decide +kernel)
set_option maxRecDepth 100000 in
theorem wd903 : Cond.instanceMethod yX9_begun ∈ lw_tbl := List.mem_of_getElem? (i := 903) (by decide +kernel)
set_option maxRecDepth 100000 in
theorem wd904 : Cond.code yX9_begun cX9_begun 3 (some .int) ∈ lw_tbl := List.mem_of_getElem? (i := 904) (by decide +kernel)
set_option maxRecDepth 100000 in
theorem wd905 : Cond.methodLink RX9 157 yX9_deed ∈ lw_tbl := List.mem_of_getElem? (i := 905) (by decide +kernel)
set_option maxRecDepth 100000 in
theorem wd907 : Cond.instanceMethod yX9_deed ∈ lw_tbl := List.mem_of_getElem? (i := 907) (by decide +kernel)
set_option maxRecDepth 100000 in
theorem wd908 : Cond.code yX9_deed cX9_deed 2 (some .int) ∈ lw_tbl := List.mem_of_getElem? (i := 908) (by decide +kernel)
set_option maxRecDepth 100000 in
theorem wd910 : Cond.instanceMethod yX9_judge ∈ lw_tbl := List.mem_of_getElem? (i := 910) (by decide +kernel)
set_option maxRecDepth 100000 in
theorem wd911 : Cond.selects RX9 yX9_judge yX9_judge ∈ lw_tbl := List.mem_of_getElem? (i := 911) (by decide +kernel)
set_option maxRecDepth 100000 in
theorem wd912 : Cond.code yX9_judge cX9_judge 3 (some .int) ∈ lw_tbl := List.mem_of_getElem? (i := 912) (by decide +kernel)
set_option maxRecDepth 100000 in
theorem wd913 : Cond.constantLong RX9 248 (2) ∈ lw_tbl := List.mem_of_getElem? (i := 913) (by decide +kernel)
set_option maxRecDepth 100000 in
theorem wd914 : Cond.methodLink RX9 250 yX9_refusal ∈ lw_tbl := List.mem_of_getElem? (i := 914) (by decide +kernel)
set_option maxRecDepth 100000 in
theorem wd916 : Cond.instanceMethod yX9_refusal ∈ lw_tbl := List.mem_of_getElem? (i := 916) (by decide +kernel)
set_option maxRecDepth 100000 in
theorem wd917 : Cond.code yX9_refusal cX9_refusal 1 (some .int) ∈ lw_tbl := List.mem_of_getElem? (i := 917) (by decide +kernel)
set_option maxRecDepth 100000 in
theorem wd918 : Cond.methodLink RX9 217 yX9_carryAll ∈ lw_tbl := List.mem_of_getElem? (i := 918) (by decide +kernel)
set_option maxRecDepth 100000 in
theorem wd920 : Cond.instanceMethod yX9_carryAll ∈ lw_tbl := List.mem_of_getElem? (i := 920) (by decide +kernel)
set_option maxRecDepth 100000 in
theorem wd921 : Cond.code yX9_carryAll cX9_carryAll 2 none ∈ lw_tbl := List.mem_of_getElem? (i := 921) (by decide +kernel)
set_option maxRecDepth 100000 in
theorem wd922 : Cond.methodLink RX9 210 yX9_carry ∈ lw_tbl := List.mem_of_getElem? (i := 922) (by decide +kernel)
set_option maxRecDepth 100000 in
theorem wd924 : Cond.instanceMethod yX9_carry ∈ lw_tbl := List.mem_of_getElem? (i := 924) (by decide +kernel)
set_option maxRecDepth 100000 in
theorem wd925 : Cond.code yX9_carry cX9_carry 3 (some .int) ∈ lw_tbl := List.mem_of_getElem? (i := 925) (by decide +kernel)
set_option maxRecDepth 100000 in
theorem wd926 : Cond.methodLink RX9 213 yX9_carryRow ∈ lw_tbl := List.mem_of_getElem? (i := 926) (by decide +kernel)
set_option maxRecDepth 100000 in
theorem wd928 : Cond.instanceMethod yX9_carryRow ∈ lw_tbl := List.mem_of_getElem? (i := 928) (by decide +kernel)
set_option maxRecDepth 100000 in
theorem wd929 : Cond.code yX9_carryRow cX9_carryRow 4 none ∈ lw_tbl := List.mem_of_getElem? (i := 929) (by decide +kernel)
set_option maxRecDepth 100000 in
theorem wd930 : Cond.methodLink RX9 242 yX9_fault ∈ lw_tbl := List.mem_of_getElem? (i := 930) (by decide +kernel)
set_option maxRecDepth 100000 in
theorem wd931 : Cond.methodLink RX9 245 yX9_goSessions ∈ lw_tbl := List.mem_of_getElem? (i := 931) (by decide +kernel)
set_option maxRecDepth 100000 in
theorem wd933 : Cond.instanceMethod yX9_goSessions ∈ lw_tbl := List.mem_of_getElem? (i := 933) (by decide +kernel)
set_option maxRecDepth 100000 in
theorem wd934 : Cond.code yX9_goSessions cX9_goSessions 3 none ∈ lw_tbl := List.mem_of_getElem? (i := 934) (by decide +kernel)
set_option maxRecDepth 100000 in
theorem wd935 : Cond.methodLink RX9 236 yX9_whyNot ∈ lw_tbl := List.mem_of_getElem? (i := 935) (by decide +kernel)
set_option maxRecDepth 100000 in
theorem wd937 : Cond.instanceMethod yX9_whyNot ∈ lw_tbl := List.mem_of_getElem? (i := 937) (by decide +kernel)
set_option maxRecDepth 100000 in
theorem wd938 : Cond.code yX9_whyNot cX9_whyNot 4 (some .int) ∈ lw_tbl := List.mem_of_getElem? (i := 938) (by decide +kernel)
set_option maxRecDepth 100000 in
theorem wd939 : Cond.methodLink RX9 170 yX9_whyNoWay ∈ lw_tbl := List.mem_of_getElem? (i := 939) (by decide +kernel)
set_option maxRecDepth 100000 in
theorem wd941 : Cond.instanceMethod yX9_whyNoWay ∈ lw_tbl := List.mem_of_getElem? (i := 941) (by decide +kernel)
set_option maxRecDepth 100000 in
theorem wd942 : Cond.code yX9_whyNoWay cX9_whyNoWay 4 (some .int) ∈ lw_tbl := List.mem_of_getElem? (i := 942) (by decide +kernel)
set_option maxRecDepth 100000 in
theorem wd943 : Cond.methodLink RX9 163 yX9_has ∈ lw_tbl := List.mem_of_getElem? (i := 943) (by decide +kernel)
set_option maxRecDepth 100000 in
theorem wd944 : Cond.static yX9_has ∈ lw_tbl := List.mem_of_getElem? (i := 944) (by decide +kernel)
set_option maxRecDepth 100000 in
theorem wd945 : Cond.code yX9_has cX9_has 2 (some .boolean) ∈ lw_tbl := List.mem_of_getElem? (i := 945) (by decide +kernel)
set_option maxRecDepth 100000 in
theorem wd946 : Cond.methodLink RX9 177 yX9_whyNotDeed ∈ lw_tbl := List.mem_of_getElem? (i := 946) (by decide +kernel)
set_option maxRecDepth 100000 in
theorem wd948 : Cond.instanceMethod yX9_whyNotDeed ∈ lw_tbl := List.mem_of_getElem? (i := 948) (by decide +kernel)
set_option maxRecDepth 100000 in
theorem wd949 : Cond.code yX9_whyNotDeed cX9_whyNotDeed 4 (some .int) ∈ lw_tbl := List.mem_of_getElem? (i := 949) (by decide +kernel)
set_option maxRecDepth 100000 in
theorem wd950 : Cond.methodLink RX9 167 yX9_whyNotBack ∈ lw_tbl := List.mem_of_getElem? (i := 950) (by decide +kernel)
set_option maxRecDepth 100000 in
theorem wd952 : Cond.instanceMethod yX9_whyNotBack ∈ lw_tbl := List.mem_of_getElem? (i := 952) (by decide +kernel)
set_option maxRecDepth 100000 in
theorem wd953 : Cond.code yX9_whyNotBack cX9_whyNotBack 2 (some .int) ∈ lw_tbl := List.mem_of_getElem? (i := 953) (by decide +kernel)
set_option maxRecDepth 100000 in
theorem wd954 : Cond.methodLink RX9 239 yX9_goOne ∈ lw_tbl := List.mem_of_getElem? (i := 954) (by decide +kernel)
set_option maxRecDepth 100000 in
theorem wd956 : Cond.instanceMethod yX9_goOne ∈ lw_tbl := List.mem_of_getElem? (i := 956) (by decide +kernel)
set_option maxRecDepth 100000 in
theorem wd957 : Cond.code yX9_goOne cX9_goOne 2 none ∈ lw_tbl := List.mem_of_getElem? (i := 957) (by decide +kernel)
set_option maxRecDepth 100000 in
theorem wd958 : Cond.methodLink RX9 221 yX9_happen ∈ lw_tbl := List.mem_of_getElem? (i := 958) (by decide +kernel)
set_option maxRecDepth 100000 in
theorem wd960 : Cond.instanceMethod yX9_happen ∈ lw_tbl := List.mem_of_getElem? (i := 960) (by decide +kernel)
set_option maxRecDepth 100000 in
theorem wd961 : Cond.code yX9_happen cX9_happen 4 none ∈ lw_tbl := List.mem_of_getElem? (i := 961) (by decide +kernel)
set_option maxRecDepth 100000 in
theorem wd962 : Cond.methodLink RX9 196 yX9_passHour ∈ lw_tbl := List.mem_of_getElem? (i := 962) (by decide +kernel)
set_option maxRecDepth 100000 in
theorem wd964 : Cond.instanceMethod yX9_passHour ∈ lw_tbl := List.mem_of_getElem? (i := 964) (by decide +kernel)
set_option maxRecDepth 100000 in
theorem wd965 : Cond.code yX9_passHour cX9_passHour 2 none ∈ lw_tbl := List.mem_of_getElem? (i := 965) (by decide +kernel)
set_option maxRecDepth 100000 in
theorem wd966 : Cond.methodLink RX9 190 yX9_fade ∈ lw_tbl := List.mem_of_getElem? (i := 966) (by decide +kernel)
set_option maxRecDepth 100000 in
theorem wd968 : Cond.instanceMethod yX9_fade ∈ lw_tbl := List.mem_of_getElem? (i := 968) (by decide +kernel)
set_option maxRecDepth 100000 in
theorem wd969 : Cond.code yX9_fade cX9_fade 2 none ∈ lw_tbl := List.mem_of_getElem? (i := 969) (by decide +kernel)
set_option maxRecDepth 100000 in
theorem wd970 : Cond.methodLink RX9 187 yX9_sit ∈ lw_tbl := List.mem_of_getElem? (i := 970) (by decide +kernel)
set_option maxRecDepth 100000 in
theorem wd972 : Cond.instanceMethod yX9_sit ∈ lw_tbl := List.mem_of_getElem? (i := 972) (by decide +kernel)
set_option maxRecDepth 100000 in
theorem wd973 : Cond.code yX9_sit cX9_sit 2 none ∈ lw_tbl := List.mem_of_getElem? (i := 973) (by decide +kernel)
set_option maxRecDepth 100000 in
theorem wd974 : Cond.methodLink RX9 199 yX9_happenToOne ∈ lw_tbl := List.mem_of_getElem? (i := 974) (by decide +kernel)
set_option maxRecDepth 100000 in
theorem wd976 : Cond.instanceMethod yX9_happenToOne ∈ lw_tbl := List.mem_of_getElem? (i := 976) (by decide +kernel)
set_option maxRecDepth 100000 in
theorem wd977 : Cond.code yX9_happenToOne cX9_happenToOne 4 none ∈ lw_tbl := List.mem_of_getElem? (i := 977) (by decide +kernel)
set_option maxRecDepth 100000 in
theorem wd978 : Cond.methodLink RX9 193 yX9_comeBack ∈ lw_tbl := List.mem_of_getElem? (i := 978) (by decide +kernel)
set_option maxRecDepth 100000 in
theorem wd980 : Cond.instanceMethod yX9_comeBack ∈ lw_tbl := List.mem_of_getElem? (i := 980) (by decide +kernel)
set_option maxRecDepth 100000 in
theorem wd981 : Cond.code yX9_comeBack cX9_comeBack 2 none ∈ lw_tbl := List.mem_of_getElem? (i := 981) (by decide +kernel)
set_option maxRecDepth 100000 in
theorem wd982 : Cond.methodLink RX9 253 yX9_back ∈ lw_tbl := List.mem_of_getElem? (i := 982) (by decide +kernel)
set_option maxRecDepth 100000 in
theorem wd984 : Cond.instanceMethod yX9_back ∈ lw_tbl := List.mem_of_getElem? (i := 984) (by decide +kernel)
set_option maxRecDepth 100000 in
theorem wd985 : Cond.code yX9_back cX9_back 2 (some .int) ∈ lw_tbl := List.mem_of_getElem? (i := 985) (by decide +kernel)
set_option maxRecDepth 100000 in
theorem wd987 : Cond.instanceMethod yX9_behind ∈ lw_tbl := List.mem_of_getElem? (i := 987) (by decide +kernel)
set_option maxRecDepth 100000 in
theorem wd988 : Cond.selects RX9 yX9_behind yX9_behind ∈ lw_tbl := List.mem_of_getElem? (i := 988) (by decide +kernel)
set_option maxRecDepth 100000 in
theorem wd989 : Cond.code yX9_behind cX9_behind 4 (some .int) ∈ lw_tbl := List.mem_of_getElem? (i := 989) (by decide +kernel)
set_option maxRecDepth 100000 in
theorem wd990 : Cond.constantLong RX9 259 (3) ∈ lw_tbl := List.mem_of_getElem? (i := 990) (by decide +kernel)
set_option maxRecDepth 100000 in
theorem wd991 : Cond.methodLink RX9 261 yX9_ofPerson ∈ lw_tbl := List.mem_of_getElem? (i := 991) (by decide +kernel)
set_option maxRecDepth 100000 in
theorem wd993 : Cond.instanceMethod yX9_ofPerson ∈ lw_tbl := List.mem_of_getElem? (i := 993) (by decide +kernel)
set_option maxRecDepth 100000 in
theorem wd994 : Cond.code yX9_ofPerson cX9_ofPerson 3 (some .int) ∈ lw_tbl := List.mem_of_getElem? (i := 994) (by decide +kernel)
set_option maxRecDepth 100000 in
theorem wd995 : Cond.methodLink RX9 256 yX9_carriedBy ∈ lw_tbl := List.mem_of_getElem? (i := 995) (by decide +kernel)
set_option maxRecDepth 100000 in
theorem wd997 : Cond.instanceMethod yX9_carriedBy ∈ lw_tbl := List.mem_of_getElem? (i := 997) (by decide +kernel)
set_option maxRecDepth 100000 in
theorem wd998 : Cond.code yX9_carriedBy cX9_carriedBy 4 (some .int) ∈ lw_tbl := List.mem_of_getElem? (i := 998) (by decide +kernel)
set_option maxRecDepth 100000 in
theorem wd1000 : Cond.instanceMethod yX9_lies ∈ lw_tbl := List.mem_of_getElem? (i := 1000) (by decide +kernel)
set_option maxRecDepth 100000 in
theorem wd1001 : Cond.selects RX9 yX9_lies yX9_lies ∈ lw_tbl := List.mem_of_getElem? (i := 1001) (by decide +kernel)
set_option maxRecDepth 100000 in
theorem wd1002 : Cond.code yX9_lies cX9_lies 4 (some .int) ∈ lw_tbl := List.mem_of_getElem? (i := 1002) (by decide +kernel)
set_option maxRecDepth 100000 in
theorem wd1004 : Cond.instanceMethod yX9_there ∈ lw_tbl := List.mem_of_getElem? (i := 1004) (by decide +kernel)
set_option maxRecDepth 100000 in
theorem wd1005 : Cond.selects RX9 yX9_there yX9_there ∈ lw_tbl := List.mem_of_getElem? (i := 1005) (by decide +kernel)
set_option maxRecDepth 100000 in
theorem wd1006 : Cond.code yX9_there cX9_there 3 (some .int) ∈ lw_tbl := List.mem_of_getElem? (i := 1006) (by decide +kernel)
set_option maxRecDepth 100000 in
theorem wd1007 : Cond.constantLong RX9 270 (4) ∈ lw_tbl := List.mem_of_getElem? (i := 1007) (by decide +kernel)
set_option maxRecDepth 100000 in
theorem wd1008 : Cond.methodLink RX9 272 yX9_ofAll ∈ lw_tbl := List.mem_of_getElem? (i := 1008) (by decide +kernel)
set_option maxRecDepth 100000 in
theorem wd1010 : Cond.instanceMethod yX9_ofAll ∈ lw_tbl := List.mem_of_getElem? (i := 1010) (by decide +kernel)
set_option maxRecDepth 100000 in
theorem wd1011 : Cond.code yX9_ofAll cX9_ofAll 2 (some .int) ∈ lw_tbl := List.mem_of_getElem? (i := 1011) (by decide +kernel)
set_option maxRecDepth 100000 in
theorem wd1012 : Cond.methodLink RX9 264 yX9_whoIsThere ∈ lw_tbl := List.mem_of_getElem? (i := 1012) (by decide +kernel)
set_option maxRecDepth 100000 in
theorem wd1014 : Cond.instanceMethod yX9_whoIsThere ∈ lw_tbl := List.mem_of_getElem? (i := 1014) (by decide +kernel)
set_option maxRecDepth 100000 in
theorem wd1015 : Cond.code yX9_whoIsThere cX9_whoIsThere 3 (some .int) ∈ lw_tbl := List.mem_of_getElem? (i := 1015) (by decide +kernel)
set_option maxRecDepth 100000 in
theorem wd1016 : Cond.methodLink RX9 267 yX9_whoSits ∈ lw_tbl := List.mem_of_getElem? (i := 1016) (by decide +kernel)
set_option maxRecDepth 100000 in
theorem wd1018 : Cond.instanceMethod yX9_whoSits ∈ lw_tbl := List.mem_of_getElem? (i := 1018) (by decide +kernel)
set_option maxRecDepth 100000 in
theorem wd1019 : Cond.code yX9_whoSits cX9_whoSits 3 (some .int) ∈ lw_tbl := List.mem_of_getElem? (i := 1019) (by decide +kernel)
set_option maxRecDepth 100000 in
theorem wd1021 : Cond.instanceMethod yX9_first ∈ lw_tbl := List.mem_of_getElem? (i := 1021) (by decide +kernel)
set_option maxRecDepth 100000 in
theorem wd1022 : Cond.selects RX9 yX9_first yX9_first ∈ lw_tbl := List.mem_of_getElem? (i := 1022) (by decide +kernel)
set_option maxRecDepth 100000 in
theorem wd1023 : Cond.code yX9_first cX9_first 3 (some .int) ∈ lw_tbl := List.mem_of_getElem? (i := 1023) (by decide +kernel)
set_option maxRecDepth 100000 in
theorem wd1025 : Cond.instanceMethod yX9_done ∈ lw_tbl := List.mem_of_getElem? (i := 1025) (by decide +kernel)
set_option maxRecDepth 100000 in
theorem wd1026 : Cond.selects RX9 yX9_done yX9_done ∈ lw_tbl := List.mem_of_getElem? (i := 1026) (by decide +kernel)
set_option maxRecDepth 100000 in
theorem wd1027 : Cond.code yX9_done cX9_done 2 (some .int) ∈ lw_tbl := List.mem_of_getElem? (i := 1027) (by decide +kernel)
set_option maxRecDepth 100000 in
theorem wd1029 : Cond.instanceMethod yX9_join ∈ lw_tbl := List.mem_of_getElem? (i := 1029) (by decide +kernel)
set_option maxRecDepth 100000 in
theorem wd1030 : Cond.selects RX9 yX9_join yX9_join ∈ lw_tbl := List.mem_of_getElem? (i := 1030) (by decide +kernel)
set_option maxRecDepth 100000 in
theorem wd1031 : Cond.code yX9_join cX9_join 5 (some .int) ∈ lw_tbl := List.mem_of_getElem? (i := 1031) (by decide +kernel)
set_option maxRecDepth 100000 in
theorem wd1032 : Cond.methodLink RX9 275 yX9_besideAll ∈ lw_tbl := List.mem_of_getElem? (i := 1032) (by decide +kernel)
set_option maxRecDepth 100000 in
theorem wd1034 : Cond.instanceMethod yX9_besideAll ∈ lw_tbl := List.mem_of_getElem? (i := 1034) (by decide +kernel)
set_option maxRecDepth 100000 in
theorem wd1035 : Cond.code yX9_besideAll cX9_besideAll 4 (some .int) ∈ lw_tbl := List.mem_of_getElem? (i := 1035) (by decide +kernel)
set_option maxRecDepth 100000 in
theorem wd1037 : Cond.instanceMethod yX9_cut ∈ lw_tbl := List.mem_of_getElem? (i := 1037) (by decide +kernel)
set_option maxRecDepth 100000 in
theorem wd1038 : Cond.selects RX9 yX9_cut yX9_cut ∈ lw_tbl := List.mem_of_getElem? (i := 1038) (by decide +kernel)
set_option maxRecDepth 100000 in
theorem wd1039 : Cond.code yX9_cut cX9_cut 7 (some .int) ∈ lw_tbl := List.mem_of_getElem? (i := 1039) (by decide +kernel)
set_option maxRecDepth 100000 in
theorem wd1040 : Cond.methodLink RX9 278 yX9_waysOut ∈ lw_tbl := List.mem_of_getElem? (i := 1040) (by decide +kernel)
set_option maxRecDepth 100000 in
theorem wd1042 : Cond.instanceMethod yX9_waysOut ∈ lw_tbl := List.mem_of_getElem? (i := 1042) (by decide +kernel)
set_option maxRecDepth 100000 in
theorem wd1043 : Cond.code yX9_waysOut cX9_waysOut 4 (some .int) ∈ lw_tbl := List.mem_of_getElem? (i := 1043) (by decide +kernel)
set_option maxRecDepth 100000 in
theorem wd1045 : Cond.instanceMethod yX9_rule ∈ lw_tbl := List.mem_of_getElem? (i := 1045) (by decide +kernel)
set_option maxRecDepth 100000 in
theorem wd1046 : Cond.selects RX9 yX9_rule yX9_rule ∈ lw_tbl := List.mem_of_getElem? (i := 1046) (by decide +kernel)
set_option maxRecDepth 100000 in
theorem wd1047 : Cond.code yX9_rule cX9_rule 4 (some .int) ∈ lw_tbl := List.mem_of_getElem? (i := 1047) (by decide +kernel)
set_option maxRecDepth 100000 in
theorem wd1049 : Cond.instanceMethod yX9_unrule ∈ lw_tbl := List.mem_of_getElem? (i := 1049) (by decide +kernel)
set_option maxRecDepth 100000 in
theorem wd1050 : Cond.selects RX9 yX9_unrule yX9_unrule ∈ lw_tbl := List.mem_of_getElem? (i := 1050) (by decide +kernel)
set_option maxRecDepth 100000 in
theorem wd1051 : Cond.code yX9_unrule cX9_unrule 2 (some .int) ∈ lw_tbl := List.mem_of_getElem? (i := 1051) (by decide +kernel)
set_option maxRecDepth 100000 in
theorem wd1053 : Cond.instanceMethod yX9_close ∈ lw_tbl := List.mem_of_getElem? (i := 1053) (by decide +kernel)
set_option maxRecDepth 100000 in
theorem wd1054 : Cond.selects RX9 yX9_close yX9_close ∈ lw_tbl := List.mem_of_getElem? (i := 1054) (by decide +kernel)
set_option maxRecDepth 100000 in
theorem wd1055 : Cond.code yX9_close cX9_close 2 (some .int) ∈ lw_tbl := List.mem_of_getElem? (i := 1055) (by decide +kernel)
set_option maxRecDepth 100000 in
theorem wd1056 : Cond.constantLong RX9 287 (1023) ∈ lw_tbl := List.mem_of_getElem? (i := 1056) (by decide +kernel)
set_option maxRecDepth 100000 in
theorem wd1057 : Cond.methodLink RX9 289 yX9_closedOf ∈ lw_tbl := List.mem_of_getElem? (i := 1057) (by decide +kernel)
set_option maxRecDepth 100000 in
theorem wd1059 : Cond.instanceMethod yX9_closedOf ∈ lw_tbl := List.mem_of_getElem? (i := 1059) (by decide +kernel)
set_option maxRecDepth 100000 in
theorem wd1060 : Cond.code yX9_closedOf cX9_closedOf 4 (some .int) ∈ lw_tbl := List.mem_of_getElem? (i := 1060) (by decide +kernel)
set_option maxRecDepth 100000 in
theorem wd1061 : Cond.methodLink RX9 284 yX9_onceMore ∈ lw_tbl := List.mem_of_getElem? (i := 1061) (by decide +kernel)
set_option maxRecDepth 100000 in
theorem wd1063 : Cond.instanceMethod yX9_onceMore ∈ lw_tbl := List.mem_of_getElem? (i := 1063) (by decide +kernel)
set_option maxRecDepth 100000 in
theorem wd1064 : Cond.code yX9_onceMore cX9_onceMore 4 (some .int) ∈ lw_tbl := List.mem_of_getElem? (i := 1064) (by decide +kernel)
set_option maxRecDepth 100000 in
theorem wd1066 : Cond.instanceMethod yX9_least ∈ lw_tbl := List.mem_of_getElem? (i := 1066) (by decide +kernel)
set_option maxRecDepth 100000 in
theorem wd1067 : Cond.selects RX9 yX9_least yX9_least ∈ lw_tbl := List.mem_of_getElem? (i := 1067) (by decide +kernel)
set_option maxRecDepth 100000 in
theorem wd1068 : Cond.code yX9_least cX9_least 6 (some .int) ∈ lw_tbl := List.mem_of_getElem? (i := 1068) (by decide +kernel)
set_option maxRecDepth 100000 in
theorem wd1070 : Cond.instanceMethod yX9_swore ∈ lw_tbl := List.mem_of_getElem? (i := 1070) (by decide +kernel)
set_option maxRecDepth 100000 in
theorem wd1071 : Cond.selects RX9 yX9_swore yX9_swore ∈ lw_tbl := List.mem_of_getElem? (i := 1071) (by decide +kernel)
set_option maxRecDepth 100000 in
theorem wd1072 : Cond.code yX9_swore cX9_swore 5 (some .int) ∈ lw_tbl := List.mem_of_getElem? (i := 1072) (by decide +kernel)
set_option maxRecDepth 100000 in
theorem wd1073 : Cond.methodLink RX9 292 yX9_isQuestion ∈ lw_tbl := List.mem_of_getElem? (i := 1073) (by decide +kernel)
set_option maxRecDepth 100000 in
theorem wd1074 : Cond.static yX9_isQuestion ∈ lw_tbl := List.mem_of_getElem? (i := 1074) (by decide +kernel)
set_option maxRecDepth 100000 in
theorem wd1075 : Cond.code yX9_isQuestion cX9_isQuestion 3 (some .boolean) ∈ lw_tbl := List.mem_of_getElem? (i := 1075) (by decide +kernel)
set_option maxRecDepth 100000 in
theorem wd1077 : Cond.instanceMethod yX9_forget ∈ lw_tbl := List.mem_of_getElem? (i := 1077) (by decide +kernel)
set_option maxRecDepth 100000 in
theorem wd1078 : Cond.selects RX9 yX9_forget yX9_forget ∈ lw_tbl := List.mem_of_getElem? (i := 1078) (by decide +kernel)
set_option maxRecDepth 100000 in
theorem wd1079 : Cond.code yX9_forget cX9_forget 2 (some .int) ∈ lw_tbl := List.mem_of_getElem? (i := 1079) (by decide +kernel)
set_option maxRecDepth 100000 in
theorem wd1081 : Cond.instanceMethod yX9_liars ∈ lw_tbl := List.mem_of_getElem? (i := 1081) (by decide +kernel)
set_option maxRecDepth 100000 in
theorem wd1082 : Cond.selects RX9 yX9_liars yX9_liars ∈ lw_tbl := List.mem_of_getElem? (i := 1082) (by decide +kernel)
set_option maxRecDepth 100000 in
theorem wd1083 : Cond.code yX9_liars cX9_liars 4 (some .int) ∈ lw_tbl := List.mem_of_getElem? (i := 1083) (by decide +kernel)
set_option maxRecDepth 100000 in
theorem wd1084 : Cond.methodLink RX9 303 yX9_isFit ∈ lw_tbl := List.mem_of_getElem? (i := 1084) (by decide +kernel)
set_option maxRecDepth 100000 in
theorem wd1086 : Cond.instanceMethod yX9_isFit ∈ lw_tbl := List.mem_of_getElem? (i := 1086) (by decide +kernel)
set_option maxRecDepth 100000 in
theorem wd1087 : Cond.code yX9_isFit cX9_isFit 4 (some .boolean) ∈ lw_tbl := List.mem_of_getElem? (i := 1087) (by decide +kernel)
set_option maxRecDepth 100000 in
theorem wd1088 : Cond.methodLink RX9 299 yX9_says ∈ lw_tbl := List.mem_of_getElem? (i := 1088) (by decide +kernel)
set_option maxRecDepth 100000 in
theorem wd1089 : Cond.static yX9_says ∈ lw_tbl := List.mem_of_getElem? (i := 1089) (by decide +kernel)
set_option maxRecDepth 100000 in
theorem wd1090 : Cond.code yX9_says cX9_says 5 (some .int) ∈ lw_tbl := List.mem_of_getElem? (i := 1090) (by decide +kernel)
set_option maxRecDepth 100000 in
theorem wd1092 : Cond.instanceMethod yX9_ask ∈ lw_tbl := List.mem_of_getElem? (i := 1092) (by decide +kernel)
set_option maxRecDepth 100000 in
theorem wd1093 : Cond.selects RX9 yX9_ask yX9_ask ∈ lw_tbl := List.mem_of_getElem? (i := 1093) (by decide +kernel)
set_option maxRecDepth 100000 in
theorem wd1094 : Cond.code yX9_ask cX9_ask 7 (some .int) ∈ lw_tbl := List.mem_of_getElem? (i := 1094) (by decide +kernel)
set_option maxRecDepth 100000 in
theorem wd1095 : Cond.methodLink RX9 306 yX9_mostLeft ∈ lw_tbl := List.mem_of_getElem? (i := 1095) (by decide +kernel)
set_option maxRecDepth 100000 in
theorem wd1097 : Cond.instanceMethod yX9_mostLeft ∈ lw_tbl := List.mem_of_getElem? (i := 1097) (by decide +kernel)
set_option maxRecDepth 100000 in
theorem wd1098 : Cond.code yX9_mostLeft cX9_mostLeft 8 (some .int) ∈ lw_tbl := List.mem_of_getElem? (i := 1098) (by decide +kernel)
set_option maxRecDepth 100000 in
theorem wd1100 : Cond.instanceMethod yX9_walk ∈ lw_tbl := List.mem_of_getElem? (i := 1100) (by decide +kernel)
set_option maxRecDepth 100000 in
theorem wd1101 : Cond.selects RX9 yX9_walk yX9_walk ∈ lw_tbl := List.mem_of_getElem? (i := 1101) (by decide +kernel)
set_option maxRecDepth 100000 in
theorem wd1102 : Cond.code yX9_walk cX9_walk 5 (some .int) ∈ lw_tbl := List.mem_of_getElem? (i := 1102) (by decide +kernel)
set_option maxRecDepth 100000 in
theorem wd1103 : Cond.methodLink RX9 309 yX9_leastGo ∈ lw_tbl := List.mem_of_getElem? (i := 1103) (by decide +kernel)
set_option maxRecDepth 100000 in
theorem wd1105 : Cond.instanceMethod yX9_leastGo ∈ lw_tbl := List.mem_of_getElem? (i := 1105) (by decide +kernel)
set_option maxRecDepth 100000 in
theorem wd1106 : Cond.code yX9_leastGo cX9_leastGo 6 (some .int) ∈ lw_tbl := List.mem_of_getElem? (i := 1106) (by decide +kernel)
set_option maxRecDepth 100000 in
theorem wd1108 : Cond.instanceMethod yX9_hang ∈ lw_tbl := List.mem_of_getElem? (i := 1108) (by decide +kernel)
set_option maxRecDepth 100000 in
theorem wd1109 : Cond.selects RX9 yX9_hang yX9_hang ∈ lw_tbl := List.mem_of_getElem? (i := 1109) (by decide +kernel)
set_option maxRecDepth 100000 in
theorem wd1110 : Cond.code yX9_hang cX9_hang 9 (some .long) ∈ lw_tbl := List.mem_of_getElem? (i := 1110) (by decide +kernel)
set_option maxRecDepth 100000 in
theorem wd1111 : Cond.constantLong RX9 312 (10) ∈ lw_tbl := List.mem_of_getElem? (i := 1111) (by decide +kernel)
set_option maxRecDepth 100000 in
theorem wd1112 : Cond.constantLong RX9 314 (-1000000000000000002) ∈ lw_tbl := List.mem_of_getElem? (i := 1112) (by decide +kernel)
set_option maxRecDepth 100000 in
theorem wd1113 : Cond.methodLink RX9 316 yX9_lowest ∈ lw_tbl := List.mem_of_getElem? (i := 1113) (by decide +kernel)
set_option maxRecDepth 100000 in
theorem wd1114 : Cond.static yX9_lowest ∈ lw_tbl := List.mem_of_getElem? (i := 1114) (by decide +kernel)
set_option maxRecDepth 100000 in
theorem wd1115 : Cond.code yX9_lowest cX9_lowest 11 (some .long) ∈ lw_tbl := List.mem_of_getElem? (i := 1115) (by decide +kernel)
set_option maxRecDepth 100000 in
theorem wd1116 : Cond.methodLink RX9 320 yX9_layNet ∈ lw_tbl := List.mem_of_getElem? (i := 1116) (by decide +kernel)
set_option maxRecDepth 100000 in
theorem wd1118 : Cond.instanceMethod yX9_layNet ∈ lw_tbl := List.mem_of_getElem? (i := 1118) (by decide +kernel)
set_option maxRecDepth 100000 in
theorem wd1119 : Cond.code yX9_layNet cX9_layNet 6 none ∈ lw_tbl := List.mem_of_getElem? (i := 1119) (by decide +kernel)
set_option maxRecDepth 100000 in
theorem wd1120 : Cond.methodLink RX9 324 yX9_hangs ∈ lw_tbl := List.mem_of_getElem? (i := 1120) (by decide +kernel)
set_option maxRecDepth 100000 in
theorem wd1122 : Cond.instanceMethod yX9_hangs ∈ lw_tbl := List.mem_of_getElem? (i := 1122) (by decide +kernel)
set_option maxRecDepth 100000 in
theorem wd1123 : Cond.code yX9_hangs cX9_hangs 5 (some .boolean) ∈ lw_tbl := List.mem_of_getElem? (i := 1123) (by decide +kernel)
set_option maxRecDepth 100000 in
theorem wd1124 : Cond.methodLink RX9 327 yX9_power ∈ lw_tbl := List.mem_of_getElem? (i := 1124) (by decide +kernel)
set_option maxRecDepth 100000 in
theorem wd1125 : Cond.static yX9_power ∈ lw_tbl := List.mem_of_getElem? (i := 1125) (by decide +kernel)
set_option maxRecDepth 100000 in
theorem wd1126 : Cond.code yX9_power cX9_power 6 (some .long) ∈ lw_tbl := List.mem_of_getElem? (i := 1126) (by decide +kernel)
set_option maxRecDepth 100000 in
theorem wd1128 : Cond.instanceMethod yX9_year ∈ lw_tbl := List.mem_of_getElem? (i := 1128) (by decide +kernel)
set_option maxRecDepth 100000 in
theorem wd1129 : Cond.selects RX9 yX9_year yX9_year ∈ lw_tbl := List.mem_of_getElem? (i := 1129) (by decide +kernel)
set_option maxRecDepth 100000 in
theorem wd1130 : Cond.code yX9_year cX9_year 6 (some .int) ∈ lw_tbl := List.mem_of_getElem? (i := 1130) (by decide +kernel)
set_option maxRecDepth 100000 in
theorem wd1131 : Cond.constantLong RX9 334 (9999) ∈ lw_tbl := List.mem_of_getElem? (i := 1131) (by decide +kernel)
set_option maxRecDepth 100000 in
theorem wd1132 : Cond.constantLong RX9 336 (99) ∈ lw_tbl := List.mem_of_getElem? (i := 1132) (by decide +kernel)
set_option maxRecDepth 100000 in
theorem wd1133 : Cond.constantLong RX9 338 (75) ∈ lw_tbl := List.mem_of_getElem? (i := 1133) (by decide +kernel)
set_option maxRecDepth 100000 in
theorem wd1134 : Cond.constantLong RX9 340 (74) ∈ lw_tbl := List.mem_of_getElem? (i := 1134) (by decide +kernel)
set_option maxRecDepth 100000 in
theorem wd1135 : Cond.constantLong RX9 342 (65537) ∈ lw_tbl := List.mem_of_getElem? (i := 1135) (by decide +kernel)
set_option maxRecDepth 100000 in
theorem wd1136 : Cond.methodLink RX9 344 yX9_drawn ∈ lw_tbl := List.mem_of_getElem? (i := 1136) (by decide +kernel)
set_option maxRecDepth 100000 in
theorem wd1138 : Cond.instanceMethod yX9_drawn ∈ lw_tbl := List.mem_of_getElem? (i := 1138) (by decide +kernel)
set_option maxRecDepth 100000 in
theorem wd1139 : Cond.code yX9_drawn cX9_drawn 6 none ∈ lw_tbl := List.mem_of_getElem? (i := 1139) (by decide +kernel)
set_option maxRecDepth 100000 in
theorem wd1140 : Cond.methodLink RX9 331 yX9_actBy ∈ lw_tbl := List.mem_of_getElem? (i := 1140) (by decide +kernel)
set_option maxRecDepth 100000 in
theorem wd1141 : Cond.static yX9_actBy ∈ lw_tbl := List.mem_of_getElem? (i := 1141) (by decide +kernel)
set_option maxRecDepth 100000 in
theorem wd1142 : Cond.code yX9_actBy cX9_actBy 2 (some .int) ∈ lw_tbl := List.mem_of_getElem? (i := 1142) (by decide +kernel)
set_option maxRecDepth 100000 in
theorem wd1144 : Cond.instanceMethod yX9_image ∈ lw_tbl := List.mem_of_getElem? (i := 1144) (by decide +kernel)
set_option maxRecDepth 100000 in
theorem wd1145 : Cond.selects RX9 yX9_image yX9_image ∈ lw_tbl := List.mem_of_getElem? (i := 1145) (by decide +kernel)
set_option maxRecDepth 100000 in
theorem wd1146 : Cond.code yX9_image cX9_image 2 (some .int) ∈ lw_tbl := List.mem_of_getElem? (i := 1146) (by decide +kernel)
set_option maxRecDepth 100000 in
theorem wd1147 : Cond.methodLink RX9 359 yX9_passAll ∈ lw_tbl := List.mem_of_getElem? (i := 1147) (by decide +kernel)
set_option maxRecDepth 100000 in
theorem wd1149 : Cond.instanceMethod yX9_passAll ∈ lw_tbl := List.mem_of_getElem? (i := 1149) (by decide +kernel)
set_option maxRecDepth 100000 in
theorem wd1150 : Cond.code yX9_passAll cX9_passAll 1 none ∈ lw_tbl := List.mem_of_getElem? (i := 1150) (by decide +kernel)
set_option maxRecDepth 100000 in
theorem wd1151 : Cond.methodLink RX9 353 yX9_pass ∈ lw_tbl := List.mem_of_getElem? (i := 1151) (by decide +kernel)
set_option maxRecDepth 100000 in
theorem wd1153 : Cond.instanceMethod yX9_pass ∈ lw_tbl := List.mem_of_getElem? (i := 1153) (by decide +kernel)
set_option maxRecDepth 100000 in
theorem wd1154 : Cond.code yX9_pass cX9_pass 3 (some .int) ∈ lw_tbl := List.mem_of_getElem? (i := 1154) (by decide +kernel)
set_option maxRecDepth 100000 in
theorem wd1155 : Cond.methodLink RX9 356 yX9_passRow ∈ lw_tbl := List.mem_of_getElem? (i := 1155) (by decide +kernel)
set_option maxRecDepth 100000 in
theorem wd1157 : Cond.instanceMethod yX9_passRow ∈ lw_tbl := List.mem_of_getElem? (i := 1157) (by decide +kernel)
set_option maxRecDepth 100000 in
theorem wd1158 : Cond.code yX9_passRow cX9_passRow 4 none ∈ lw_tbl := List.mem_of_getElem? (i := 1158) (by decide +kernel)
set_option maxRecDepth 100000 in
theorem wd1160 : Cond.instanceMethod yX9_restore ∈ lw_tbl := List.mem_of_getElem? (i := 1160) (by decide +kernel)
set_option maxRecDepth 100000 in
theorem wd1161 : Cond.selects RX9 yX9_restore yX9_restore ∈ lw_tbl := List.mem_of_getElem? (i := 1161) (by decide +kernel)
set_option maxRecDepth 100000 in
theorem wd1162 : Cond.code yX9_restore cX9_restore 2 (some .int) ∈ lw_tbl := List.mem_of_getElem? (i := 1162) (by decide +kernel)
set_option maxRecDepth 100000 in
theorem wd1164 : Cond.instanceMethod yX9_told ∈ lw_tbl := List.mem_of_getElem? (i := 1164) (by decide +kernel)
set_option maxRecDepth 100000 in
theorem wd1165 : Cond.selects RX9 yX9_told yX9_told ∈ lw_tbl := List.mem_of_getElem? (i := 1165) (by decide +kernel)
set_option maxRecDepth 100000 in
theorem wd1166 : Cond.code yX9_told cX9_told 2 (some .int) ∈ lw_tbl := List.mem_of_getElem? (i := 1166) (by decide +kernel)
set_option maxRecDepth 100000 in
theorem wd1167 : Cond.constantLong RX9 362 (39) ∈ lw_tbl := List.mem_of_getElem? (i := 1167) (by decide +kernel)
set_option maxRecDepth 100000 in
theorem wd1168 : Cond.methodLink RX9 364 yX9_toldOfPerson ∈ lw_tbl := List.mem_of_getElem? (i := 1168) (by decide +kernel)
set_option maxRecDepth 100000 in
theorem wd1170 : Cond.instanceMethod yX9_toldOfPerson ∈ lw_tbl := List.mem_of_getElem? (i := 1170) (by decide +kernel)
set_option maxRecDepth 100000 in
theorem wd1171 : Cond.code yX9_toldOfPerson cX9_toldOfPerson 3 (some .int) ∈ lw_tbl := List.mem_of_getElem? (i := 1171) (by decide +kernel)
set_option maxRecDepth 100000 in
theorem wd1172 : Cond.constantLong RX9 367 (40) ∈ lw_tbl := List.mem_of_getElem? (i := 1172) (by decide +kernel)
set_option maxRecDepth 100000 in
theorem wd1173 : Cond.constantLong RX9 369 (69) ∈ lw_tbl := List.mem_of_getElem? (i := 1173) (by decide +kernel)
set_option maxRecDepth 100000 in
theorem wd1174 : Cond.methodLink RX9 371 yX9_toldOfOther ∈ lw_tbl := List.mem_of_getElem? (i := 1174) (by decide +kernel)
set_option maxRecDepth 100000 in
theorem wd1176 : Cond.instanceMethod yX9_toldOfOther ∈ lw_tbl := List.mem_of_getElem? (i := 1176) (by decide +kernel)
set_option maxRecDepth 100000 in
theorem wd1177 : Cond.code yX9_toldOfOther cX9_toldOfOther 3 (some .int) ∈ lw_tbl := List.mem_of_getElem? (i := 1177) (by decide +kernel)
set_option maxRecDepth 100000 in
theorem wd1178 : Cond.methodLink RX9 374 yX9_toldOfAll ∈ lw_tbl := List.mem_of_getElem? (i := 1178) (by decide +kernel)
set_option maxRecDepth 100000 in
theorem wd1180 : Cond.instanceMethod yX9_toldOfAll ∈ lw_tbl := List.mem_of_getElem? (i := 1180) (by decide +kernel)
set_option maxRecDepth 100000 in
theorem wd1181 : Cond.code yX9_toldOfAll cX9_toldOfAll 2 (some .int) ∈ lw_tbl := List.mem_of_getElem? (i := 1181) (by decide +kernel)
section
variable {p : Program} {l : Launch} {e : Env} {R : Room} {s : State} {m : MethodId} {args : Array Value} {below : List Frame} {meth : Method} {c : Code} {H : Heap} {locs : List Loc} {cells slots : Nat} {Q : State → Prop} {cc : ByteArray} {pc nL : Nat} {ls : Array Slot} {rest : List Value} {D : va_G} {cy : Nat → ClassId} {A : Nat → Prop} {H0 : Heap} {own : String} {Ps : List va_W}
variable {a : Nat}
set_option maxRecDepth 100000 in
theorem gf_X0_9 {q : Nat → Nat} {σ : Nat → Int64} (S : CX p m c cc nL s args RX0 D cy) (hw : PW D A H0 Ps H locs) (j : Nat) (hj : Ps[j]? = some (pX0 cy a q σ)) (hdg : decode cc pc = .ok (.getfield 9, 3)) (kk : W p l e R s m args below meth c H locs cells slots Q (F0 m (pc + 3) ls (.ref (q 0) :: rest))) : W p l e R s m args below meth c H locs cells slots Q (F0 m pc ls (.ref a :: rest)) :=
  w_get S hw j 0 hj rfl rfl (lay_X0 S.2.2.2.2) 0 (by decide) (S.2.2.2.2.wd wd256 rfl) rfl rfl hdg kk
set_option maxRecDepth 100000 in
theorem gf_X1_9 {q : Nat → Nat} {σ : pStt} (S : CX p m c cc nL s args RX1 D cy) (hw : PW D A H0 Ps H locs) (j : Nat) (hj : Ps[j]? = some (pX1 cy a q σ)) (hdg : decode cc pc = .ok (.getfield 9, 3)) (kk : W p l e R s m args below meth c H locs cells slots Q (F0 m (pc + 3) ls (.ref (q 0) :: rest))) : W p l e R s m args below meth c H locs cells slots Q (F0 m pc ls (.ref a :: rest)) :=
  w_get S hw j 0 hj rfl rfl (lay_X1 S.2.2.2.2) 0 (by decide) (S.2.2.2.2.wd wd103 rfl) rfl rfl hdg kk
set_option maxRecDepth 100000 in
theorem gf_X1_15 {q : Nat → Nat} {σ : pStt} (S : CX p m c cc nL s args RX1 D cy) (hw : PW D A H0 Ps H locs) (j : Nat) (hj : Ps[j]? = some (pX1 cy a q σ)) (hdg : decode cc pc = .ok (.getfield 15, 3)) (kk : W p l e R s m args below meth c H locs cells slots Q (F0 m (pc + 3) ls (.ref (q 1) :: rest))) : W p l e R s m args below meth c H locs cells slots Q (F0 m pc ls (.ref a :: rest)) :=
  w_get S hw j 0 hj rfl rfl (lay_X1 S.2.2.2.2) 1 (by decide) (S.2.2.2.2.wd wd105 rfl) rfl rfl hdg kk
set_option maxRecDepth 100000 in
theorem gf_X1_18 {q : Nat → Nat} {σ : pStt} (S : CX p m c cc nL s args RX1 D cy) (hw : PW D A H0 Ps H locs) (j : Nat) (hj : Ps[j]? = some (pX1 cy a q σ)) (hdg : decode cc pc = .ok (.getfield 18, 3)) (kk : W p l e R s m args below meth c H locs cells slots Q (F0 m (pc + 3) ls (.ref (q 2) :: rest))) : W p l e R s m args below meth c H locs cells slots Q (F0 m pc ls (.ref a :: rest)) :=
  w_get S hw j 0 hj rfl rfl (lay_X1 S.2.2.2.2) 2 (by decide) (S.2.2.2.2.wd wd107 rfl) rfl rfl hdg kk
set_option maxRecDepth 100000 in
theorem gf_X1_21 {q : Nat → Nat} {σ : pStt} (S : CX p m c cc nL s args RX1 D cy) (hw : PW D A H0 Ps H locs) (j : Nat) (hj : Ps[j]? = some (pX1 cy a q σ)) (hdg : decode cc pc = .ok (.getfield 21, 3)) (kk : W p l e R s m args below meth c H locs cells slots Q (F0 m (pc + 3) ls (.ref (q 3) :: rest))) : W p l e R s m args below meth c H locs cells slots Q (F0 m pc ls (.ref a :: rest)) :=
  w_get S hw j 0 hj rfl rfl (lay_X1 S.2.2.2.2) 3 (by decide) (S.2.2.2.2.wd wd108 rfl) rfl rfl hdg kk
set_option maxRecDepth 100000 in
theorem gf_X1_24 {q : Nat → Nat} {σ : pStt} (S : CX p m c cc nL s args RX1 D cy) (hw : PW D A H0 Ps H locs) (j : Nat) (hj : Ps[j]? = some (pX1 cy a q σ)) (hdg : decode cc pc = .ok (.getfield 24, 3)) (kk : W p l e R s m args below meth c H locs cells slots Q (F0 m (pc + 3) ls (.int (σ.1 1) :: rest))) : W p l e R s m args below meth c H locs cells slots Q (F0 m pc ls (.ref a :: rest)) :=
  w_get S hw j 0 hj rfl rfl (lay_X1 S.2.2.2.2) 5 (by decide) (S.2.2.2.2.wd wd113 rfl) rfl rfl hdg kk
set_option maxRecDepth 100000 in
theorem gf_X1_34 {q : Nat → Nat} {σ : pStt} (S : CX p m c cc nL s args RX1 D cy) (hw : PW D A H0 Ps H locs) (j : Nat) (hj : Ps[j]? = some (pX1 cy a q σ)) (hdg : decode cc pc = .ok (.getfield 34, 3)) (kk : W p l e R s m args below meth c H locs cells slots Q (F0 m (pc + 3) ls (.int (σ.1 0) :: rest))) : W p l e R s m args below meth c H locs cells slots Q (F0 m pc ls (.ref a :: rest)) :=
  w_get S hw j 0 hj rfl rfl (lay_X1 S.2.2.2.2) 4 (by decide) (S.2.2.2.2.wd wd110 rfl) rfl rfl hdg kk
set_option maxRecDepth 100000 in
theorem gf_X1_38 {q : Nat → Nat} {σ : pStt} (S : CX p m c cc nL s args RX1 D cy) (hw : PW D A H0 Ps H locs) (j : Nat) (hj : Ps[j]? = some (pX1 cy a q σ)) (hdg : decode cc pc = .ok (.getfield 38, 3)) (kk : W p l e R s m args below meth c H locs cells slots Q (F0 m (pc + 3) ls (.int (σ.1 2) :: rest))) : W p l e R s m args below meth c H locs cells slots Q (F0 m pc ls (.ref a :: rest)) :=
  w_get S hw j 0 hj rfl rfl (lay_X1 S.2.2.2.2) 6 (by decide) (S.2.2.2.2.wd wd115 rfl) rfl rfl hdg kk
set_option maxRecDepth 100000 in
theorem gf_X2_9 {q : Nat → Nat} {σ : pStt} (S : CX p m c cc nL s args RX2 D cy) (hw : PW D A H0 Ps H locs) (j : Nat) (hj : Ps[j]? = some (pX2 cy a q σ)) (hdg : decode cc pc = .ok (.getfield 9, 3)) (kk : W p l e R s m args below meth c H locs cells slots Q (F0 m (pc + 3) ls (.ref (q 0) :: rest))) : W p l e R s m args below meth c H locs cells slots Q (F0 m pc ls (.ref a :: rest)) :=
  w_get S hw j 0 hj rfl rfl (lay_X2 S.2.2.2.2) 0 (by decide) (S.2.2.2.2.wd wd246 rfl) rfl rfl hdg kk
set_option maxRecDepth 100000 in
theorem gf_X3_9 {q : Nat → Nat} {σ : pStt} (S : CX p m c cc nL s args RX3 D cy) (hw : PW D A H0 Ps H locs) (j : Nat) (hj : Ps[j]? = some (pX3 cy a q σ)) (hdg : decode cc pc = .ok (.getfield 9, 3)) (kk : W p l e R s m args below meth c H locs cells slots Q (F0 m (pc + 3) ls (.ref (q 0) :: rest))) : W p l e R s m args below meth c H locs cells slots Q (F0 m pc ls (.ref a :: rest)) :=
  w_get S hw j 0 hj rfl rfl (lay_X3 S.2.2.2.2) 0 (by decide) (S.2.2.2.2.wd wd184 rfl) rfl rfl hdg kk
set_option maxRecDepth 100000 in
theorem gf_X3_15 {q : Nat → Nat} {σ : pStt} (S : CX p m c cc nL s args RX3 D cy) (hw : PW D A H0 Ps H locs) (j : Nat) (hj : Ps[j]? = some (pX3 cy a q σ)) (hdg : decode cc pc = .ok (.getfield 15, 3)) (kk : W p l e R s m args below meth c H locs cells slots Q (F0 m (pc + 3) ls (.int (σ.1 0) :: rest))) : W p l e R s m args below meth c H locs cells slots Q (F0 m pc ls (.ref a :: rest)) :=
  w_get S hw j 0 hj rfl rfl (lay_X3 S.2.2.2.2) 1 (by decide) (S.2.2.2.2.wd wd185 rfl) rfl rfl hdg kk
set_option maxRecDepth 100000 in
theorem gf_X3_19 {q : Nat → Nat} {σ : pStt} (S : CX p m c cc nL s args RX3 D cy) (hw : PW D A H0 Ps H locs) (j : Nat) (hj : Ps[j]? = some (pX3 cy a q σ)) (hdg : decode cc pc = .ok (.getfield 19, 3)) (kk : W p l e R s m args below meth c H locs cells slots Q (F0 m (pc + 3) ls (.int (σ.1 1) :: rest))) : W p l e R s m args below meth c H locs cells slots Q (F0 m pc ls (.ref a :: rest)) :=
  w_get S hw j 0 hj rfl rfl (lay_X3 S.2.2.2.2) 2 (by decide) (S.2.2.2.2.wd wd187 rfl) rfl rfl hdg kk
set_option maxRecDepth 100000 in
theorem gf_X3_33 {q : Nat → Nat} {σ : pStt} (S : CX p m c cc nL s args RX3 D cy) (hw : PW D A H0 Ps H locs) (j : Nat) (hj : Ps[j]? = some (pX3 cy a q σ)) (hdg : decode cc pc = .ok (.getfield 33, 3)) (kk : W p l e R s m args below meth c H locs cells slots Q (F0 m (pc + 3) ls (.int (σ.1 3) :: rest))) : W p l e R s m args below meth c H locs cells slots Q (F0 m pc ls (.ref a :: rest)) :=
  w_get S hw j 0 hj rfl rfl (lay_X3 S.2.2.2.2) 4 (by decide) (S.2.2.2.2.wd wd190 rfl) rfl rfl hdg kk
set_option maxRecDepth 100000 in
theorem gf_X3_51 {q : Nat → Nat} {σ : pStt} (S : CX p m c cc nL s args RX3 D cy) (hw : PW D A H0 Ps H locs) (j : Nat) (hj : Ps[j]? = some (pX3 cy a q σ)) (hdg : decode cc pc = .ok (.getfield 51, 3)) (kk : W p l e R s m args below meth c H locs cells slots Q (F0 m (pc + 3) ls (.int (σ.1 4) :: rest))) : W p l e R s m args below meth c H locs cells slots Q (F0 m pc ls (.ref a :: rest)) :=
  w_get S hw j 0 hj rfl rfl (lay_X3 S.2.2.2.2) 5 (by decide) (S.2.2.2.2.wd wd192 rfl) rfl rfl hdg kk
set_option maxRecDepth 100000 in
theorem gf_X4_9 {q : Nat → Nat} {σ : pStt} (S : CX p m c cc nL s args RX4 D cy) (hw : PW D A H0 Ps H locs) (j : Nat) (hj : Ps[j]? = some (pX4 cy a q σ)) (hdg : decode cc pc = .ok (.getfield 9, 3)) (kk : W p l e R s m args below meth c H locs cells slots Q (F0 m (pc + 3) ls (.ref (q 0) :: rest))) : W p l e R s m args below meth c H locs cells slots Q (F0 m pc ls (.ref a :: rest)) :=
  w_get S hw j 0 hj rfl rfl (lay_X4 S.2.2.2.2) 0 (by decide) (S.2.2.2.2.wd wd139 rfl) rfl rfl hdg kk
set_option maxRecDepth 100000 in
theorem gf_X4_15 {q : Nat → Nat} {σ : pStt} (S : CX p m c cc nL s args RX4 D cy) (hw : PW D A H0 Ps H locs) (j : Nat) (hj : Ps[j]? = some (pX4 cy a q σ)) (hdg : decode cc pc = .ok (.getfield 15, 3)) (kk : W p l e R s m args below meth c H locs cells slots Q (F0 m (pc + 3) ls (.ref (q 1) :: rest))) : W p l e R s m args below meth c H locs cells slots Q (F0 m pc ls (.ref a :: rest)) :=
  w_get S hw j 0 hj rfl rfl (lay_X4 S.2.2.2.2) 1 (by decide) (S.2.2.2.2.wd wd140 rfl) rfl rfl hdg kk
set_option maxRecDepth 100000 in
theorem gf_X4_24 {q : Nat → Nat} {σ : pStt} (S : CX p m c cc nL s args RX4 D cy) (hw : PW D A H0 Ps H locs) (j : Nat) (hj : Ps[j]? = some (pX4 cy a q σ)) (hdg : decode cc pc = .ok (.getfield 24, 3)) (kk : W p l e R s m args below meth c H locs cells slots Q (F0 m (pc + 3) ls (.int (σ.1 0) :: rest))) : W p l e R s m args below meth c H locs cells slots Q (F0 m pc ls (.ref a :: rest)) :=
  w_get S hw j 0 hj rfl rfl (lay_X4 S.2.2.2.2) 2 (by decide) (S.2.2.2.2.wd wd141 rfl) rfl rfl hdg kk
set_option maxRecDepth 100000 in
theorem gf_X5_9 {q : Nat → Nat} {σ : pStt} (S : CX p m c cc nL s args RX5 D cy) (hw : PW D A H0 Ps H locs) (j : Nat) (hj : Ps[j]? = some (pX5 cy a q σ)) (hdg : decode cc pc = .ok (.getfield 9, 3)) (kk : W p l e R s m args below meth c H locs cells slots Q (F0 m (pc + 3) ls (.ref (q 0) :: rest))) : W p l e R s m args below meth c H locs cells slots Q (F0 m pc ls (.ref a :: rest)) :=
  w_get S hw j 0 hj rfl rfl (lay_X5 S.2.2.2.2) 0 (by decide) (S.2.2.2.2.wd wd156 rfl) rfl rfl hdg kk
set_option maxRecDepth 100000 in
theorem gf_X5_21 {q : Nat → Nat} {σ : pStt} (S : CX p m c cc nL s args RX5 D cy) (hw : PW D A H0 Ps H locs) (j : Nat) (hj : Ps[j]? = some (pX5 cy a q σ)) (hdg : decode cc pc = .ok (.getfield 21, 3)) (kk : W p l e R s m args below meth c H locs cells slots Q (F0 m (pc + 3) ls (.int (σ.1 0) :: rest))) : W p l e R s m args below meth c H locs cells slots Q (F0 m pc ls (.ref a :: rest)) :=
  w_get S hw j 0 hj rfl rfl (lay_X5 S.2.2.2.2) 1 (by decide) (S.2.2.2.2.wd wd157 rfl) rfl rfl hdg kk
set_option maxRecDepth 100000 in
theorem gf_X6_12 {w : Nat → Nat} {σ : pStt} (S : CX p m c cc nL s args RX6 D cy) (hw : PW D A H0 Ps H locs) (j : Nat) (hj : Ps[j]? = some (pX6 a w σ)) (hdg : decode cc pc = .ok (.getfield 12, 3)) (kk : W p l e R s m args below meth c H locs cells slots Q (F0 m (pc + 3) ls (.ref (w 0) :: rest))) : W p l e R s m args below meth c H locs cells slots Q (F0 m pc ls (.ref a :: rest)) :=
  w_get S hw j 0 hj rfl rfl (lay_X6 S.2.2.2.2) 0 (by decide) (S.2.2.2.2.wd wd215 rfl) rfl rfl hdg kk
set_option maxRecDepth 100000 in
theorem gf_X6_22 {w : Nat → Nat} {σ : pStt} (S : CX p m c cc nL s args RX6 D cy) (hw : PW D A H0 Ps H locs) (j : Nat) (hj : Ps[j]? = some (pX6 a w σ)) (hdg : decode cc pc = .ok (.getfield 22, 3)) (kk : W p l e R s m args below meth c H locs cells slots Q (F0 m (pc + 3) ls (.int (σ.1 0) :: rest))) : W p l e R s m args below meth c H locs cells slots Q (F0 m pc ls (.ref a :: rest)) :=
  w_get S hw j 0 hj rfl rfl (lay_X6 S.2.2.2.2) 1 (by decide) (S.2.2.2.2.wd wd217 rfl) rfl rfl hdg kk
set_option maxRecDepth 100000 in
theorem gf_X6_26 {w : Nat → Nat} {σ : pStt} (S : CX p m c cc nL s args RX6 D cy) (hw : PW D A H0 Ps H locs) (j : Nat) (hj : Ps[j]? = some (pX6 a w σ)) (hdg : decode cc pc = .ok (.getfield 26, 3)) (kk : W p l e R s m args below meth c H locs cells slots Q (F0 m (pc + 3) ls (.int (σ.1 1) :: rest))) : W p l e R s m args below meth c H locs cells slots Q (F0 m pc ls (.ref a :: rest)) :=
  w_get S hw j 0 hj rfl rfl (lay_X6 S.2.2.2.2) 2 (by decide) (S.2.2.2.2.wd wd219 rfl) rfl rfl hdg kk
set_option maxRecDepth 100000 in
theorem gf_X6_29 {w : Nat → Nat} {σ : pStt} (S : CX p m c cc nL s args RX6 D cy) (hw : PW D A H0 Ps H locs) (j : Nat) (hj : Ps[j]? = some (pX6 a w σ)) (hdg : decode cc pc = .ok (.getfield 29, 3)) (kk : W p l e R s m args below meth c H locs cells slots Q (F0 m (pc + 3) ls (.int (σ.1 2) :: rest))) : W p l e R s m args below meth c H locs cells slots Q (F0 m pc ls (.ref a :: rest)) :=
  w_get S hw j 0 hj rfl rfl (lay_X6 S.2.2.2.2) 3 (by decide) (S.2.2.2.2.wd wd221 rfl) rfl rfl hdg kk
set_option maxRecDepth 100000 in
theorem gf_X6_42 {q : Nat → Nat} {σ : pStt} (S : CX p m c cc nL s args RX6 D cy) (hw : PW D A H0 Ps H locs) (j : Nat) (hj : Ps[j]? = some (pX1 cy a q σ)) (hdg : decode cc pc = .ok (.getfield 42, 3)) (kk : W p l e R s m args below meth c H locs cells slots Q (F0 m (pc + 3) ls (.int (σ.1 0) :: rest))) : W p l e R s m args below meth c H locs cells slots Q (F0 m pc ls (.ref a :: rest)) :=
  w_get S hw j 0 hj rfl rfl (lay_X1 S.2.2.2.2) 4 (by decide) (S.2.2.2.2.wd wd111 rfl) rfl rfl hdg kk
set_option maxRecDepth 100000 in
theorem gf_X7_10 {w : Nat → Nat} (S : CX p m c cc nL s args RX7 D cy) (hw : PW D A H0 Ps H locs) (j : Nat) (hj : Ps[j]? = some (pX7 a w)) (hdg : decode cc pc = .ok (.getfield 10, 3)) (kk : W p l e R s m args below meth c H locs cells slots Q (F0 m (pc + 3) ls (.ref (w 0) :: rest))) : W p l e R s m args below meth c H locs cells slots Q (F0 m pc ls (.ref a :: rest)) :=
  w_get S hw j 0 hj rfl rfl (lay_X7 S.2.2.2.2) 0 (by decide) (S.2.2.2.2.wd wd164 rfl) rfl rfl hdg kk
set_option maxRecDepth 100000 in
theorem gf_X7_19 {w : Nat → Nat} (S : CX p m c cc nL s args RX7 D cy) (hw : PW D A H0 Ps H locs) (j : Nat) (hj : Ps[j]? = some (pX7 a w)) (hdg : decode cc pc = .ok (.getfield 19, 3)) (kk : W p l e R s m args below meth c H locs cells slots Q (F0 m (pc + 3) ls (.ref (w 1) :: rest))) : W p l e R s m args below meth c H locs cells slots Q (F0 m pc ls (.ref a :: rest)) :=
  w_get S hw j 0 hj rfl rfl (lay_X7 S.2.2.2.2) 1 (by decide) (S.2.2.2.2.wd wd166 rfl) rfl rfl hdg kk
set_option maxRecDepth 100000 in
theorem gf_X7_26 {w : Nat → Nat} (S : CX p m c cc nL s args RX7 D cy) (hw : PW D A H0 Ps H locs) (j : Nat) (hj : Ps[j]? = some (pX7 a w)) (hdg : decode cc pc = .ok (.getfield 26, 3)) (kk : W p l e R s m args below meth c H locs cells slots Q (F0 m (pc + 3) ls (.ref (w 2) :: rest))) : W p l e R s m args below meth c H locs cells slots Q (F0 m pc ls (.ref a :: rest)) :=
  w_get S hw j 0 hj rfl rfl (lay_X7 S.2.2.2.2) 2 (by decide) (S.2.2.2.2.wd wd168 rfl) rfl rfl hdg kk
set_option maxRecDepth 100000 in
theorem gf_X8_12 {w : Nat → Nat} (S : CX p m c cc nL s args RX8 D cy) (hw : PW D A H0 Ps H locs) (j : Nat) (hj : Ps[j]? = some (pX8 a w)) (hdg : decode cc pc = .ok (.getfield 12, 3)) (kk : W p l e R s m args below meth c H locs cells slots Q (F0 m (pc + 3) ls (.ref (w 0) :: rest))) : W p l e R s m args below meth c H locs cells slots Q (F0 m pc ls (.ref a :: rest)) :=
  w_get S hw j 0 hj rfl rfl (lay_X8 S.2.2.2.2) 0 (by decide) (S.2.2.2.2.wd wd261 rfl) rfl rfl hdg kk
set_option maxRecDepth 100000 in
theorem gf_X8_23 {w : Nat → Nat} (S : CX p m c cc nL s args RX8 D cy) (hw : PW D A H0 Ps H locs) (j : Nat) (hj : Ps[j]? = some (pX8 a w)) (hdg : decode cc pc = .ok (.getfield 23, 3)) (kk : W p l e R s m args below meth c H locs cells slots Q (F0 m (pc + 3) ls (.ref (w 2) :: rest))) : W p l e R s m args below meth c H locs cells slots Q (F0 m pc ls (.ref a :: rest)) :=
  w_get S hw j 0 hj rfl rfl (lay_X8 S.2.2.2.2) 2 (by decide) (S.2.2.2.2.wd wd263 rfl) rfl rfl hdg kk
set_option maxRecDepth 100000 in
theorem gf_X8_30 {w : Nat → Nat} (S : CX p m c cc nL s args RX8 D cy) (hw : PW D A H0 Ps H locs) (j : Nat) (hj : Ps[j]? = some (pX8 a w)) (hdg : decode cc pc = .ok (.getfield 30, 3)) (kk : W p l e R s m args below meth c H locs cells slots Q (F0 m (pc + 3) ls (.ref (w 3) :: rest))) : W p l e R s m args below meth c H locs cells slots Q (F0 m pc ls (.ref a :: rest)) :=
  w_get S hw j 0 hj rfl rfl (lay_X8 S.2.2.2.2) 3 (by decide) (S.2.2.2.2.wd wd264 rfl) rfl rfl hdg kk
set_option maxRecDepth 100000 in
theorem gf_X8_37 {w : Nat → Nat} (S : CX p m c cc nL s args RX8 D cy) (hw : PW D A H0 Ps H locs) (j : Nat) (hj : Ps[j]? = some (pX8 a w)) (hdg : decode cc pc = .ok (.getfield 37, 3)) (kk : W p l e R s m args below meth c H locs cells slots Q (F0 m (pc + 3) ls (.ref (w 4) :: rest))) : W p l e R s m args below meth c H locs cells slots Q (F0 m pc ls (.ref a :: rest)) :=
  w_get S hw j 0 hj rfl rfl (lay_X8 S.2.2.2.2) 4 (by decide) (S.2.2.2.2.wd wd265 rfl) rfl rfl hdg kk
set_option maxRecDepth 100000 in
theorem gf_X8_44 {w : Nat → Nat} (S : CX p m c cc nL s args RX8 D cy) (hw : PW D A H0 Ps H locs) (j : Nat) (hj : Ps[j]? = some (pX8 a w)) (hdg : decode cc pc = .ok (.getfield 44, 3)) (kk : W p l e R s m args below meth c H locs cells slots Q (F0 m (pc + 3) ls (.ref (w 5) :: rest))) : W p l e R s m args below meth c H locs cells slots Q (F0 m pc ls (.ref a :: rest)) :=
  w_get S hw j 0 hj rfl rfl (lay_X8 S.2.2.2.2) 5 (by decide) (S.2.2.2.2.wd wd266 rfl) rfl rfl hdg kk
set_option maxRecDepth 100000 in
theorem gf_X8_52 {w : Nat → Nat} (S : CX p m c cc nL s args RX8 D cy) (hw : PW D A H0 Ps H locs) (j : Nat) (hj : Ps[j]? = some (pX7 a w)) (hdg : decode cc pc = .ok (.getfield 52, 3)) (kk : W p l e R s m args below meth c H locs cells slots Q (F0 m (pc + 3) ls (.ref (w 0) :: rest))) : W p l e R s m args below meth c H locs cells slots Q (F0 m pc ls (.ref a :: rest)) :=
  w_get S hw j 0 hj rfl rfl (lay_X7 S.2.2.2.2) 0 (by decide) (S.2.2.2.2.wd wd165 rfl) rfl rfl hdg kk
set_option maxRecDepth 100000 in
theorem gf_X8_73 {q : Nat → Nat} {σ : pStt} (S : CX p m c cc nL s args RX8 D cy) (hw : PW D A H0 Ps H locs) (j : Nat) (hj : Ps[j]? = some (pX1 cy a q σ)) (hdg : decode cc pc = .ok (.getfield 73, 3)) (kk : W p l e R s m args below meth c H locs cells slots Q (F0 m (pc + 3) ls (.ref (q 1) :: rest))) : W p l e R s m args below meth c H locs cells slots Q (F0 m pc ls (.ref a :: rest)) :=
  w_get S hw j 0 hj rfl rfl (lay_X1 S.2.2.2.2) 1 (by decide) (S.2.2.2.2.wd wd106 rfl) rfl rfl hdg kk
set_option maxRecDepth 100000 in
theorem gf_X8_101 {q : Nat → Nat} {σ : pStt} (S : CX p m c cc nL s args RX8 D cy) (hw : PW D A H0 Ps H locs) (j : Nat) (hj : Ps[j]? = some (pX3 cy a q σ)) (hdg : decode cc pc = .ok (.getfield 101, 3)) (kk : W p l e R s m args below meth c H locs cells slots Q (F0 m (pc + 3) ls (.int (σ.1 0) :: rest))) : W p l e R s m args below meth c H locs cells slots Q (F0 m pc ls (.ref a :: rest)) :=
  w_get S hw j 0 hj rfl rfl (lay_X3 S.2.2.2.2) 1 (by decide) (S.2.2.2.2.wd wd186 rfl) rfl rfl hdg kk
set_option maxRecDepth 100000 in
theorem gf_X8_111 {w : Nat → Nat} {σ : pStt} (S : CX p m c cc nL s args RX8 D cy) (hw : PW D A H0 Ps H locs) (j : Nat) (hj : Ps[j]? = some (pX6 a w σ)) (hdg : decode cc pc = .ok (.getfield 111, 3)) (kk : W p l e R s m args below meth c H locs cells slots Q (F0 m (pc + 3) ls (.int (σ.1 1) :: rest))) : W p l e R s m args below meth c H locs cells slots Q (F0 m pc ls (.ref a :: rest)) :=
  w_get S hw j 0 hj rfl rfl (lay_X6 S.2.2.2.2) 2 (by decide) (S.2.2.2.2.wd wd220 rfl) rfl rfl hdg kk
set_option maxRecDepth 100000 in
theorem gf_X8_114 {w : Nat → Nat} {σ : pStt} (S : CX p m c cc nL s args RX8 D cy) (hw : PW D A H0 Ps H locs) (j : Nat) (hj : Ps[j]? = some (pX6 a w σ)) (hdg : decode cc pc = .ok (.getfield 114, 3)) (kk : W p l e R s m args below meth c H locs cells slots Q (F0 m (pc + 3) ls (.int (σ.1 0) :: rest))) : W p l e R s m args below meth c H locs cells slots Q (F0 m pc ls (.ref a :: rest)) :=
  w_get S hw j 0 hj rfl rfl (lay_X6 S.2.2.2.2) 1 (by decide) (S.2.2.2.2.wd wd218 rfl) rfl rfl hdg kk
set_option maxRecDepth 100000 in
theorem gf_X8_117 {w : Nat → Nat} {σ : pStt} (S : CX p m c cc nL s args RX8 D cy) (hw : PW D A H0 Ps H locs) (j : Nat) (hj : Ps[j]? = some (pX6 a w σ)) (hdg : decode cc pc = .ok (.getfield 117, 3)) (kk : W p l e R s m args below meth c H locs cells slots Q (F0 m (pc + 3) ls (.int (σ.1 2) :: rest))) : W p l e R s m args below meth c H locs cells slots Q (F0 m pc ls (.ref a :: rest)) :=
  w_get S hw j 0 hj rfl rfl (lay_X6 S.2.2.2.2) 3 (by decide) (S.2.2.2.2.wd wd222 rfl) rfl rfl hdg kk
set_option maxRecDepth 100000 in
theorem gf_X8_120 {w : Nat → Nat} {σ : pStt} (S : CX p m c cc nL s args RX8 D cy) (hw : PW D A H0 Ps H locs) (j : Nat) (hj : Ps[j]? = some (pX6 a w σ)) (hdg : decode cc pc = .ok (.getfield 120, 3)) (kk : W p l e R s m args below meth c H locs cells slots Q (F0 m (pc + 3) ls (.ref (w 0) :: rest))) : W p l e R s m args below meth c H locs cells slots Q (F0 m pc ls (.ref a :: rest)) :=
  w_get S hw j 0 hj rfl rfl (lay_X6 S.2.2.2.2) 0 (by decide) (S.2.2.2.2.wd wd216 rfl) rfl rfl hdg kk
set_option maxRecDepth 100000 in
theorem gf_X8_121 {q : Nat → Nat} {σ : pStt} (S : CX p m c cc nL s args RX8 D cy) (hw : PW D A H0 Ps H locs) (j : Nat) (hj : Ps[j]? = some (pX1 cy a q σ)) (hdg : decode cc pc = .ok (.getfield 121, 3)) (kk : W p l e R s m args below meth c H locs cells slots Q (F0 m (pc + 3) ls (.ref (q 3) :: rest))) : W p l e R s m args below meth c H locs cells slots Q (F0 m pc ls (.ref a :: rest)) :=
  w_get S hw j 0 hj rfl rfl (lay_X1 S.2.2.2.2) 3 (by decide) (S.2.2.2.2.wd wd109 rfl) rfl rfl hdg kk
set_option maxRecDepth 100000 in
theorem gf_X8_136 {q : Nat → Nat} {σ : pStt} (S : CX p m c cc nL s args RX8 D cy) (hw : PW D A H0 Ps H locs) (j : Nat) (hj : Ps[j]? = some (pX1 cy a q σ)) (hdg : decode cc pc = .ok (.getfield 136, 3)) (kk : W p l e R s m args below meth c H locs cells slots Q (F0 m (pc + 3) ls (.int (σ.1 0) :: rest))) : W p l e R s m args below meth c H locs cells slots Q (F0 m pc ls (.ref a :: rest)) :=
  w_get S hw j 0 hj rfl rfl (lay_X1 S.2.2.2.2) 4 (by decide) (S.2.2.2.2.wd wd112 rfl) rfl rfl hdg kk
set_option maxRecDepth 100000 in
theorem gf_X8_139 {q : Nat → Nat} {σ : pStt} (S : CX p m c cc nL s args RX8 D cy) (hw : PW D A H0 Ps H locs) (j : Nat) (hj : Ps[j]? = some (pX1 cy a q σ)) (hdg : decode cc pc = .ok (.getfield 139, 3)) (kk : W p l e R s m args below meth c H locs cells slots Q (F0 m (pc + 3) ls (.int (σ.1 2) :: rest))) : W p l e R s m args below meth c H locs cells slots Q (F0 m pc ls (.ref a :: rest)) :=
  w_get S hw j 0 hj rfl rfl (lay_X1 S.2.2.2.2) 6 (by decide) (S.2.2.2.2.wd wd116 rfl) rfl rfl hdg kk
set_option maxRecDepth 100000 in
theorem gf_X8_142 {w : Nat → Nat} {σ : pStt} (S : CX p m c cc nL s args RX8 D cy) (hw : PW D A H0 Ps H locs) (j : Nat) (hj : Ps[j]? = some (pX6 a w σ)) (hdg : decode cc pc = .ok (.getfield 142, 3)) (kk : W p l e R s m args below meth c H locs cells slots Q (F0 m (pc + 3) ls (.int (σ.1 3) :: rest))) : W p l e R s m args below meth c H locs cells slots Q (F0 m pc ls (.ref a :: rest)) :=
  w_get S hw j 0 hj rfl rfl (lay_X6 S.2.2.2.2) 4 (by decide) (S.2.2.2.2.wd wd224 rfl) rfl rfl hdg kk
set_option maxRecDepth 100000 in
theorem gf_X8_145 {w : Nat → Nat} {σ : pStt} (S : CX p m c cc nL s args RX8 D cy) (hw : PW D A H0 Ps H locs) (j : Nat) (hj : Ps[j]? = some (pX6 a w σ)) (hdg : decode cc pc = .ok (.getfield 145, 3)) (kk : W p l e R s m args below meth c H locs cells slots Q (F0 m (pc + 3) ls (.int (σ.1 4) :: rest))) : W p l e R s m args below meth c H locs cells slots Q (F0 m pc ls (.ref a :: rest)) :=
  w_get S hw j 0 hj rfl rfl (lay_X6 S.2.2.2.2) 5 (by decide) (S.2.2.2.2.wd wd226 rfl) rfl rfl hdg kk
set_option maxRecDepth 100000 in
theorem gf_X8_165 {w : Nat → Nat} (S : CX p m c cc nL s args RX8 D cy) (hw : PW D A H0 Ps H locs) (j : Nat) (hj : Ps[j]? = some (pX7 a w)) (hdg : decode cc pc = .ok (.getfield 165, 3)) (kk : W p l e R s m args below meth c H locs cells slots Q (F0 m (pc + 3) ls (.ref (w 1) :: rest))) : W p l e R s m args below meth c H locs cells slots Q (F0 m pc ls (.ref a :: rest)) :=
  w_get S hw j 0 hj rfl rfl (lay_X7 S.2.2.2.2) 1 (by decide) (S.2.2.2.2.wd wd167 rfl) rfl rfl hdg kk
set_option maxRecDepth 100000 in
theorem gf_X8_173 {q : Nat → Nat} {σ : pStt} (S : CX p m c cc nL s args RX8 D cy) (hw : PW D A H0 Ps H locs) (j : Nat) (hj : Ps[j]? = some (pX4 cy a q σ)) (hdg : decode cc pc = .ok (.getfield 173, 3)) (kk : W p l e R s m args below meth c H locs cells slots Q (F0 m (pc + 3) ls (.int (σ.1 0) :: rest))) : W p l e R s m args below meth c H locs cells slots Q (F0 m pc ls (.ref a :: rest)) :=
  w_get S hw j 0 hj rfl rfl (lay_X4 S.2.2.2.2) 2 (by decide) (S.2.2.2.2.wd wd142 rfl) rfl rfl hdg kk
set_option maxRecDepth 100000 in
theorem gf_X8_192 {w : Nat → Nat} (S : CX p m c cc nL s args RX8 D cy) (hw : PW D A H0 Ps H locs) (j : Nat) (hj : Ps[j]? = some (pX7 a w)) (hdg : decode cc pc = .ok (.getfield 192, 3)) (kk : W p l e R s m args below meth c H locs cells slots Q (F0 m (pc + 3) ls (.ref (w 2) :: rest))) : W p l e R s m args below meth c H locs cells slots Q (F0 m pc ls (.ref a :: rest)) :=
  w_get S hw j 0 hj rfl rfl (lay_X7 S.2.2.2.2) 2 (by decide) (S.2.2.2.2.wd wd169 rfl) rfl rfl hdg kk
set_option maxRecDepth 100000 in
theorem gf_X8_199 {q : Nat → Nat} {σ : pStt} (S : CX p m c cc nL s args RX8 D cy) (hw : PW D A H0 Ps H locs) (j : Nat) (hj : Ps[j]? = some (pX5 cy a q σ)) (hdg : decode cc pc = .ok (.getfield 199, 3)) (kk : W p l e R s m args below meth c H locs cells slots Q (F0 m (pc + 3) ls (.int (σ.1 0) :: rest))) : W p l e R s m args below meth c H locs cells slots Q (F0 m pc ls (.ref a :: rest)) :=
  w_get S hw j 0 hj rfl rfl (lay_X5 S.2.2.2.2) 1 (by decide) (S.2.2.2.2.wd wd158 rfl) rfl rfl hdg kk
set_option maxRecDepth 100000 in
theorem gf_X8_212 {q : Nat → Nat} {σ : pStt} (S : CX p m c cc nL s args RX8 D cy) (hw : PW D A H0 Ps H locs) (j : Nat) (hj : Ps[j]? = some (pX1 cy a q σ)) (hdg : decode cc pc = .ok (.getfield 212, 3)) (kk : W p l e R s m args below meth c H locs cells slots Q (F0 m (pc + 3) ls (.ref (q 0) :: rest))) : W p l e R s m args below meth c H locs cells slots Q (F0 m pc ls (.ref a :: rest)) :=
  w_get S hw j 0 hj rfl rfl (lay_X1 S.2.2.2.2) 0 (by decide) (S.2.2.2.2.wd wd104 rfl) rfl rfl hdg kk
set_option maxRecDepth 100000 in
theorem gf_X8_264 {q : Nat → Nat} {σ : pStt} (S : CX p m c cc nL s args RX8 D cy) (hw : PW D A H0 Ps H locs) (j : Nat) (hj : Ps[j]? = some (pX3 cy a q σ)) (hdg : decode cc pc = .ok (.getfield 264, 3)) (kk : W p l e R s m args below meth c H locs cells slots Q (F0 m (pc + 3) ls (.int (σ.1 2) :: rest))) : W p l e R s m args below meth c H locs cells slots Q (F0 m pc ls (.ref a :: rest)) :=
  w_get S hw j 0 hj rfl rfl (lay_X3 S.2.2.2.2) 3 (by decide) (S.2.2.2.2.wd wd189 rfl) rfl rfl hdg kk
set_option maxRecDepth 100000 in
theorem gf_X8_267 {q : Nat → Nat} {σ : pStt} (S : CX p m c cc nL s args RX8 D cy) (hw : PW D A H0 Ps H locs) (j : Nat) (hj : Ps[j]? = some (pX3 cy a q σ)) (hdg : decode cc pc = .ok (.getfield 267, 3)) (kk : W p l e R s m args below meth c H locs cells slots Q (F0 m (pc + 3) ls (.int (σ.1 3) :: rest))) : W p l e R s m args below meth c H locs cells slots Q (F0 m pc ls (.ref a :: rest)) :=
  w_get S hw j 0 hj rfl rfl (lay_X3 S.2.2.2.2) 4 (by decide) (S.2.2.2.2.wd wd191 rfl) rfl rfl hdg kk
set_option maxRecDepth 100000 in
theorem gf_X8_270 {q : Nat → Nat} {σ : pStt} (S : CX p m c cc nL s args RX8 D cy) (hw : PW D A H0 Ps H locs) (j : Nat) (hj : Ps[j]? = some (pX3 cy a q σ)) (hdg : decode cc pc = .ok (.getfield 270, 3)) (kk : W p l e R s m args below meth c H locs cells slots Q (F0 m (pc + 3) ls (.int (σ.1 4) :: rest))) : W p l e R s m args below meth c H locs cells slots Q (F0 m pc ls (.ref a :: rest)) :=
  w_get S hw j 0 hj rfl rfl (lay_X3 S.2.2.2.2) 5 (by decide) (S.2.2.2.2.wd wd193 rfl) rfl rfl hdg kk
set_option maxRecDepth 100000 in
theorem gf_X9_7 {q : Nat → Nat} {σ : pStt} (S : CX p m c cc nL s args RX9 D cy) (hw : PW D A H0 Ps H locs) (j : Nat) (hj : Ps[j]? = some (pX9 cy a q σ)) (hdg : decode cc pc = .ok (.getfield 7, 3)) (kk : W p l e R s m args below meth c H locs cells slots Q (F0 m (pc + 3) ls (.ref (q 0) :: rest))) : W p l e R s m args below meth c H locs cells slots Q (F0 m pc ls (.ref a :: rest)) :=
  w_get S hw j 0 hj rfl rfl (lay_X9 S.2.2.2.2) 0 (by decide) (S.2.2.2.2.wd wd697 rfl) rfl rfl hdg kk
set_option maxRecDepth 100000 in
theorem gf_X9_13 {q : Nat → Nat} {σ : pStt} (S : CX p m c cc nL s args RX9 D cy) (hw : PW D A H0 Ps H locs) (j : Nat) (hj : Ps[j]? = some (pX9 cy a q σ)) (hdg : decode cc pc = .ok (.getfield 13, 3)) (kk : W p l e R s m args below meth c H locs cells slots Q (F0 m (pc + 3) ls (.ref (q 1) :: rest))) : W p l e R s m args below meth c H locs cells slots Q (F0 m pc ls (.ref a :: rest)) :=
  w_get S hw j 0 hj rfl rfl (lay_X9 S.2.2.2.2) 1 (by decide) (S.2.2.2.2.wd wd698 rfl) rfl rfl hdg kk
set_option maxRecDepth 100000 in
theorem gf_X9_16 {q : Nat → Nat} {σ : pStt} (S : CX p m c cc nL s args RX9 D cy) (hw : PW D A H0 Ps H locs) (j : Nat) (hj : Ps[j]? = some (pX9 cy a q σ)) (hdg : decode cc pc = .ok (.getfield 16, 3)) (kk : W p l e R s m args below meth c H locs cells slots Q (F0 m (pc + 3) ls (.ref (q 2) :: rest))) : W p l e R s m args below meth c H locs cells slots Q (F0 m pc ls (.ref a :: rest)) :=
  w_get S hw j 0 hj rfl rfl (lay_X9 S.2.2.2.2) 2 (by decide) (S.2.2.2.2.wd wd699 rfl) rfl rfl hdg kk
set_option maxRecDepth 100000 in
theorem gf_X9_19 {q : Nat → Nat} {σ : pStt} (S : CX p m c cc nL s args RX9 D cy) (hw : PW D A H0 Ps H locs) (j : Nat) (hj : Ps[j]? = some (pX9 cy a q σ)) (hdg : decode cc pc = .ok (.getfield 19, 3)) (kk : W p l e R s m args below meth c H locs cells slots Q (F0 m (pc + 3) ls (.ref (q 3) :: rest))) : W p l e R s m args below meth c H locs cells slots Q (F0 m pc ls (.ref a :: rest)) :=
  w_get S hw j 0 hj rfl rfl (lay_X9 S.2.2.2.2) 3 (by decide) (S.2.2.2.2.wd wd700 rfl) rfl rfl hdg kk
set_option maxRecDepth 100000 in
theorem gf_X9_22 {q : Nat → Nat} {σ : pStt} (S : CX p m c cc nL s args RX9 D cy) (hw : PW D A H0 Ps H locs) (j : Nat) (hj : Ps[j]? = some (pX9 cy a q σ)) (hdg : decode cc pc = .ok (.getfield 22, 3)) (kk : W p l e R s m args below meth c H locs cells slots Q (F0 m (pc + 3) ls (.ref (q 4) :: rest))) : W p l e R s m args below meth c H locs cells slots Q (F0 m pc ls (.ref a :: rest)) :=
  w_get S hw j 0 hj rfl rfl (lay_X9 S.2.2.2.2) 4 (by decide) (S.2.2.2.2.wd wd701 rfl) rfl rfl hdg kk
set_option maxRecDepth 100000 in
theorem gf_X9_25 {q : Nat → Nat} {σ : pStt} (S : CX p m c cc nL s args RX9 D cy) (hw : PW D A H0 Ps H locs) (j : Nat) (hj : Ps[j]? = some (pX9 cy a q σ)) (hdg : decode cc pc = .ok (.getfield 25, 3)) (kk : W p l e R s m args below meth c H locs cells slots Q (F0 m (pc + 3) ls (.ref (q 5) :: rest))) : W p l e R s m args below meth c H locs cells slots Q (F0 m pc ls (.ref a :: rest)) :=
  w_get S hw j 0 hj rfl rfl (lay_X9 S.2.2.2.2) 7 (by decide) (S.2.2.2.2.wd wd704 rfl) rfl rfl hdg kk
set_option maxRecDepth 100000 in
theorem gf_X9_28 {q : Nat → Nat} {σ : pStt} (S : CX p m c cc nL s args RX9 D cy) (hw : PW D A H0 Ps H locs) (j : Nat) (hj : Ps[j]? = some (pX9 cy a q σ)) (hdg : decode cc pc = .ok (.getfield 28, 3)) (kk : W p l e R s m args below meth c H locs cells slots Q (F0 m (pc + 3) ls (.ref (q 6) :: rest))) : W p l e R s m args below meth c H locs cells slots Q (F0 m pc ls (.ref a :: rest)) :=
  w_get S hw j 0 hj rfl rfl (lay_X9 S.2.2.2.2) 8 (by decide) (S.2.2.2.2.wd wd705 rfl) rfl rfl hdg kk
set_option maxRecDepth 100000 in
theorem gf_X9_31 {q : Nat → Nat} {σ : pStt} (S : CX p m c cc nL s args RX9 D cy) (hw : PW D A H0 Ps H locs) (j : Nat) (hj : Ps[j]? = some (pX9 cy a q σ)) (hdg : decode cc pc = .ok (.getfield 31, 3)) (kk : W p l e R s m args below meth c H locs cells slots Q (F0 m (pc + 3) ls (.ref (q 7) :: rest))) : W p l e R s m args below meth c H locs cells slots Q (F0 m pc ls (.ref a :: rest)) :=
  w_get S hw j 0 hj rfl rfl (lay_X9 S.2.2.2.2) 9 (by decide) (S.2.2.2.2.wd wd706 rfl) rfl rfl hdg kk
set_option maxRecDepth 100000 in
theorem gf_X9_34 {q : Nat → Nat} {σ : pStt} (S : CX p m c cc nL s args RX9 D cy) (hw : PW D A H0 Ps H locs) (j : Nat) (hj : Ps[j]? = some (pX9 cy a q σ)) (hdg : decode cc pc = .ok (.getfield 34, 3)) (kk : W p l e R s m args below meth c H locs cells slots Q (F0 m (pc + 3) ls (.ref (q 8) :: rest))) : W p l e R s m args below meth c H locs cells slots Q (F0 m pc ls (.ref a :: rest)) :=
  w_get S hw j 0 hj rfl rfl (lay_X9 S.2.2.2.2) 11 (by decide) (S.2.2.2.2.wd wd708 rfl) rfl rfl hdg kk
set_option maxRecDepth 100000 in
theorem gf_X9_37 {q : Nat → Nat} {σ : pStt} (S : CX p m c cc nL s args RX9 D cy) (hw : PW D A H0 Ps H locs) (j : Nat) (hj : Ps[j]? = some (pX9 cy a q σ)) (hdg : decode cc pc = .ok (.getfield 37, 3)) (kk : W p l e R s m args below meth c H locs cells slots Q (F0 m (pc + 3) ls (.ref (q 9) :: rest))) : W p l e R s m args below meth c H locs cells slots Q (F0 m pc ls (.ref a :: rest)) :=
  w_get S hw j 0 hj rfl rfl (lay_X9 S.2.2.2.2) 12 (by decide) (S.2.2.2.2.wd wd709 rfl) rfl rfl hdg kk
set_option maxRecDepth 100000 in
theorem gf_X9_40 {q : Nat → Nat} {σ : pStt} (S : CX p m c cc nL s args RX9 D cy) (hw : PW D A H0 Ps H locs) (j : Nat) (hj : Ps[j]? = some (pX9 cy a q σ)) (hdg : decode cc pc = .ok (.getfield 40, 3)) (kk : W p l e R s m args below meth c H locs cells slots Q (F0 m (pc + 3) ls (.ref (q 10) :: rest))) : W p l e R s m args below meth c H locs cells slots Q (F0 m pc ls (.ref a :: rest)) :=
  w_get S hw j 0 hj rfl rfl (lay_X9 S.2.2.2.2) 13 (by decide) (S.2.2.2.2.wd wd710 rfl) rfl rfl hdg kk
set_option maxRecDepth 100000 in
theorem gf_X9_43 {q : Nat → Nat} {σ : pStt} (S : CX p m c cc nL s args RX9 D cy) (hw : PW D A H0 Ps H locs) (j : Nat) (hj : Ps[j]? = some (pX9 cy a q σ)) (hdg : decode cc pc = .ok (.getfield 43, 3)) (kk : W p l e R s m args below meth c H locs cells slots Q (F0 m (pc + 3) ls (.ref (q 11) :: rest))) : W p l e R s m args below meth c H locs cells slots Q (F0 m pc ls (.ref a :: rest)) :=
  w_get S hw j 0 hj rfl rfl (lay_X9 S.2.2.2.2) 14 (by decide) (S.2.2.2.2.wd wd711 rfl) rfl rfl hdg kk
set_option maxRecDepth 100000 in
theorem gf_X9_46 {q : Nat → Nat} {σ : pStt} (S : CX p m c cc nL s args RX9 D cy) (hw : PW D A H0 Ps H locs) (j : Nat) (hj : Ps[j]? = some (pX9 cy a q σ)) (hdg : decode cc pc = .ok (.getfield 46, 3)) (kk : W p l e R s m args below meth c H locs cells slots Q (F0 m (pc + 3) ls (.ref (q 12) :: rest))) : W p l e R s m args below meth c H locs cells slots Q (F0 m pc ls (.ref a :: rest)) :=
  w_get S hw j 0 hj rfl rfl (lay_X9 S.2.2.2.2) 16 (by decide) (S.2.2.2.2.wd wd713 rfl) rfl rfl hdg kk
set_option maxRecDepth 100000 in
theorem gf_X9_49 {q : Nat → Nat} {σ : pStt} (S : CX p m c cc nL s args RX9 D cy) (hw : PW D A H0 Ps H locs) (j : Nat) (hj : Ps[j]? = some (pX9 cy a q σ)) (hdg : decode cc pc = .ok (.getfield 49, 3)) (kk : W p l e R s m args below meth c H locs cells slots Q (F0 m (pc + 3) ls (.ref (q 13) :: rest))) : W p l e R s m args below meth c H locs cells slots Q (F0 m pc ls (.ref a :: rest)) :=
  w_get S hw j 0 hj rfl rfl (lay_X9 S.2.2.2.2) 18 (by decide) (S.2.2.2.2.wd wd715 rfl) rfl rfl hdg kk
set_option maxRecDepth 100000 in
theorem gf_X9_52 {q : Nat → Nat} {σ : pStt} (S : CX p m c cc nL s args RX9 D cy) (hw : PW D A H0 Ps H locs) (j : Nat) (hj : Ps[j]? = some (pX9 cy a q σ)) (hdg : decode cc pc = .ok (.getfield 52, 3)) (kk : W p l e R s m args below meth c H locs cells slots Q (F0 m (pc + 3) ls (.ref (q 14) :: rest))) : W p l e R s m args below meth c H locs cells slots Q (F0 m pc ls (.ref a :: rest)) :=
  w_get S hw j 0 hj rfl rfl (lay_X9 S.2.2.2.2) 19 (by decide) (S.2.2.2.2.wd wd716 rfl) rfl rfl hdg kk
set_option maxRecDepth 100000 in
theorem gf_X9_55 {q : Nat → Nat} {σ : pStt} (S : CX p m c cc nL s args RX9 D cy) (hw : PW D A H0 Ps H locs) (j : Nat) (hj : Ps[j]? = some (pX9 cy a q σ)) (hdg : decode cc pc = .ok (.getfield 55, 3)) (kk : W p l e R s m args below meth c H locs cells slots Q (F0 m (pc + 3) ls (.ref (q 15) :: rest))) : W p l e R s m args below meth c H locs cells slots Q (F0 m pc ls (.ref a :: rest)) :=
  w_get S hw j 0 hj rfl rfl (lay_X9 S.2.2.2.2) 20 (by decide) (S.2.2.2.2.wd wd717 rfl) rfl rfl hdg kk
set_option maxRecDepth 100000 in
theorem gf_X9_58 {q : Nat → Nat} {σ : pStt} (S : CX p m c cc nL s args RX9 D cy) (hw : PW D A H0 Ps H locs) (j : Nat) (hj : Ps[j]? = some (pX9 cy a q σ)) (hdg : decode cc pc = .ok (.getfield 58, 3)) (kk : W p l e R s m args below meth c H locs cells slots Q (F0 m (pc + 3) ls (.ref (q 16) :: rest))) : W p l e R s m args below meth c H locs cells slots Q (F0 m pc ls (.ref a :: rest)) :=
  w_get S hw j 0 hj rfl rfl (lay_X9 S.2.2.2.2) 24 (by decide) (S.2.2.2.2.wd wd721 rfl) rfl rfl hdg kk
set_option maxRecDepth 100000 in
theorem gf_X9_61 {q : Nat → Nat} {σ : pStt} (S : CX p m c cc nL s args RX9 D cy) (hw : PW D A H0 Ps H locs) (j : Nat) (hj : Ps[j]? = some (pX9 cy a q σ)) (hdg : decode cc pc = .ok (.getfield 61, 3)) (kk : W p l e R s m args below meth c H locs cells slots Q (F0 m (pc + 3) ls (.ref (q 17) :: rest))) : W p l e R s m args below meth c H locs cells slots Q (F0 m pc ls (.ref a :: rest)) :=
  w_get S hw j 0 hj rfl rfl (lay_X9 S.2.2.2.2) 31 (by decide) (S.2.2.2.2.wd wd728 rfl) rfl rfl hdg kk
set_option maxRecDepth 100000 in
theorem gf_X9_65 {q : Nat → Nat} {σ : pStt} (S : CX p m c cc nL s args RX9 D cy) (hw : PW D A H0 Ps H locs) (j : Nat) (hj : Ps[j]? = some (pX9 cy a q σ)) (hdg : decode cc pc = .ok (.getfield 65, 3)) (kk : W p l e R s m args below meth c H locs cells slots Q (F0 m (pc + 3) ls (.ref (q 18) :: rest))) : W p l e R s m args below meth c H locs cells slots Q (F0 m pc ls (.ref a :: rest)) :=
  w_get S hw j 0 hj rfl rfl (lay_X9 S.2.2.2.2) 32 (by decide) (S.2.2.2.2.wd wd729 rfl) rfl rfl hdg kk
set_option maxRecDepth 100000 in
theorem gf_X9_68 {q : Nat → Nat} {σ : pStt} (S : CX p m c cc nL s args RX9 D cy) (hw : PW D A H0 Ps H locs) (j : Nat) (hj : Ps[j]? = some (pX9 cy a q σ)) (hdg : decode cc pc = .ok (.getfield 68, 3)) (kk : W p l e R s m args below meth c H locs cells slots Q (F0 m (pc + 3) ls (.ref (q 19) :: rest))) : W p l e R s m args below meth c H locs cells slots Q (F0 m pc ls (.ref a :: rest)) :=
  w_get S hw j 0 hj rfl rfl (lay_X9 S.2.2.2.2) 33 (by decide) (S.2.2.2.2.wd wd730 rfl) rfl rfl hdg kk
set_option maxRecDepth 100000 in
theorem gf_X9_71 {q : Nat → Nat} {σ : pStt} (S : CX p m c cc nL s args RX9 D cy) (hw : PW D A H0 Ps H locs) (j : Nat) (hj : Ps[j]? = some (pX9 cy a q σ)) (hdg : decode cc pc = .ok (.getfield 71, 3)) (kk : W p l e R s m args below meth c H locs cells slots Q (F0 m (pc + 3) ls (.ref (q 20) :: rest))) : W p l e R s m args below meth c H locs cells slots Q (F0 m pc ls (.ref a :: rest)) :=
  w_get S hw j 0 hj rfl rfl (lay_X9 S.2.2.2.2) 34 (by decide) (S.2.2.2.2.wd wd731 rfl) rfl rfl hdg kk
set_option maxRecDepth 100000 in
theorem gf_X9_74 {q : Nat → Nat} {σ : pStt} (S : CX p m c cc nL s args RX9 D cy) (hw : PW D A H0 Ps H locs) (j : Nat) (hj : Ps[j]? = some (pX9 cy a q σ)) (hdg : decode cc pc = .ok (.getfield 74, 3)) (kk : W p l e R s m args below meth c H locs cells slots Q (F0 m (pc + 3) ls (.int (σ.1 0) :: rest))) : W p l e R s m args below meth c H locs cells slots Q (F0 m pc ls (.ref a :: rest)) :=
  w_get S hw j 0 hj rfl rfl (lay_X9 S.2.2.2.2) 5 (by decide) (S.2.2.2.2.wd wd702 rfl) rfl rfl hdg kk
set_option maxRecDepth 100000 in
theorem gf_X9_126 {q : Nat → Nat} {σ : pStt} (S : CX p m c cc nL s args RX9 D cy) (hw : PW D A H0 Ps H locs) (j : Nat) (hj : Ps[j]? = some (pX9 cy a q σ)) (hdg : decode cc pc = .ok (.getfield 126, 3)) (kk : W p l e R s m args below meth c H locs cells slots Q (F0 m (pc + 3) ls (.int (σ.1 4) :: rest))) : W p l e R s m args below meth c H locs cells slots Q (F0 m pc ls (.ref a :: rest)) :=
  w_get S hw j 0 hj rfl rfl (lay_X9 S.2.2.2.2) 17 (by decide) (S.2.2.2.2.wd wd714 rfl) rfl rfl hdg kk
set_option maxRecDepth 100000 in
theorem gf_X9_129 {q : Nat → Nat} {σ : pStt} (S : CX p m c cc nL s args RX9 D cy) (hw : PW D A H0 Ps H locs) (j : Nat) (hj : Ps[j]? = some (pX9 cy a q σ)) (hdg : decode cc pc = .ok (.getfield 129, 3)) (kk : W p l e R s m args below meth c H locs cells slots Q (F0 m (pc + 3) ls (.int (σ.1 5) :: rest))) : W p l e R s m args below meth c H locs cells slots Q (F0 m pc ls (.ref a :: rest)) :=
  w_get S hw j 0 hj rfl rfl (lay_X9 S.2.2.2.2) 21 (by decide) (S.2.2.2.2.wd wd718 rfl) rfl rfl hdg kk
set_option maxRecDepth 100000 in
theorem gf_X9_174 {q : Nat → Nat} {σ : pStt} (S : CX p m c cc nL s args RX9 D cy) (hw : PW D A H0 Ps H locs) (j : Nat) (hj : Ps[j]? = some (pX9 cy a q σ)) (hdg : decode cc pc = .ok (.getfield 174, 3)) (kk : W p l e R s m args below meth c H locs cells slots Q (F0 m (pc + 3) ls (.int (σ.1 1) :: rest))) : W p l e R s m args below meth c H locs cells slots Q (F0 m pc ls (.ref a :: rest)) :=
  w_get S hw j 0 hj rfl rfl (lay_X9 S.2.2.2.2) 6 (by decide) (S.2.2.2.2.wd wd703 rfl) rfl rfl hdg kk
set_option maxRecDepth 100000 in
theorem gf_X9_181 {q : Nat → Nat} {σ : pStt} (S : CX p m c cc nL s args RX9 D cy) (hw : PW D A H0 Ps H locs) (j : Nat) (hj : Ps[j]? = some (pX9 cy a q σ)) (hdg : decode cc pc = .ok (.getfield 181, 3)) (kk : W p l e R s m args below meth c H locs cells slots Q (F0 m (pc + 3) ls (.int (σ.1 6) :: rest))) : W p l e R s m args below meth c H locs cells slots Q (F0 m pc ls (.ref a :: rest)) :=
  w_get S hw j 0 hj rfl rfl (lay_X9 S.2.2.2.2) 22 (by decide) (S.2.2.2.2.wd wd719 rfl) rfl rfl hdg kk
set_option maxRecDepth 100000 in
theorem gf_X9_184 {q : Nat → Nat} {σ : pStt} (S : CX p m c cc nL s args RX9 D cy) (hw : PW D A H0 Ps H locs) (j : Nat) (hj : Ps[j]? = some (pX9 cy a q σ)) (hdg : decode cc pc = .ok (.getfield 184, 3)) (kk : W p l e R s m args below meth c H locs cells slots Q (F0 m (pc + 3) ls (.int (σ.1 7) :: rest))) : W p l e R s m args below meth c H locs cells slots Q (F0 m pc ls (.ref a :: rest)) :=
  w_get S hw j 0 hj rfl rfl (lay_X9 S.2.2.2.2) 23 (by decide) (S.2.2.2.2.wd wd720 rfl) rfl rfl hdg kk
set_option maxRecDepth 100000 in
theorem gf_X9_203 {q : Nat → Nat} {σ : pStt} (S : CX p m c cc nL s args RX9 D cy) (hw : PW D A H0 Ps H locs) (j : Nat) (hj : Ps[j]? = some (pX9 cy a q σ)) (hdg : decode cc pc = .ok (.getfield 203, 3)) (kk : W p l e R s m args below meth c H locs cells slots Q (F0 m (pc + 3) ls (.int (σ.1 9) :: rest))) : W p l e R s m args below meth c H locs cells slots Q (F0 m pc ls (.ref a :: rest)) :=
  w_get S hw j 0 hj rfl rfl (lay_X9 S.2.2.2.2) 26 (by decide) (S.2.2.2.2.wd wd723 rfl) rfl rfl hdg kk
set_option maxRecDepth 100000 in
theorem gf_X9_207 {q : Nat → Nat} {σ : pStt} (S : CX p m c cc nL s args RX9 D cy) (hw : PW D A H0 Ps H locs) (j : Nat) (hj : Ps[j]? = some (pX9 cy a q σ)) (hdg : decode cc pc = .ok (.getfield 207, 3)) (kk : W p l e R s m args below meth c H locs cells slots Q (F0 m (pc + 3) ls (.int (σ.1 8) :: rest))) : W p l e R s m args below meth c H locs cells slots Q (F0 m pc ls (.ref a :: rest)) :=
  w_get S hw j 0 hj rfl rfl (lay_X9 S.2.2.2.2) 25 (by decide) (S.2.2.2.2.wd wd722 rfl) rfl rfl hdg kk
set_option maxRecDepth 100000 in
theorem gf_X9_224 {q : Nat → Nat} {σ : pStt} (S : CX p m c cc nL s args RX9 D cy) (hw : PW D A H0 Ps H locs) (j : Nat) (hj : Ps[j]? = some (pX9 cy a q σ)) (hdg : decode cc pc = .ok (.getfield 224, 3)) (kk : W p l e R s m args below meth c H locs cells slots Q (F0 m (pc + 3) ls (.int (σ.1 12) :: rest))) : W p l e R s m args below meth c H locs cells slots Q (F0 m pc ls (.ref a :: rest)) :=
  w_get S hw j 0 hj rfl rfl (lay_X9 S.2.2.2.2) 29 (by decide) (S.2.2.2.2.wd wd726 rfl) rfl rfl hdg kk
set_option maxRecDepth 100000 in
theorem gf_X9_227 {q : Nat → Nat} {σ : pStt} (S : CX p m c cc nL s args RX9 D cy) (hw : PW D A H0 Ps H locs) (j : Nat) (hj : Ps[j]? = some (pX9 cy a q σ)) (hdg : decode cc pc = .ok (.getfield 227, 3)) (kk : W p l e R s m args below meth c H locs cells slots Q (F0 m (pc + 3) ls (.int (σ.1 13) :: rest))) : W p l e R s m args below meth c H locs cells slots Q (F0 m pc ls (.ref a :: rest)) :=
  w_get S hw j 0 hj rfl rfl (lay_X9 S.2.2.2.2) 30 (by decide) (S.2.2.2.2.wd wd727 rfl) rfl rfl hdg kk
set_option maxRecDepth 100000 in
theorem gf_X9_230 {q : Nat → Nat} {σ : pStt} (S : CX p m c cc nL s args RX9 D cy) (hw : PW D A H0 Ps H locs) (j : Nat) (hj : Ps[j]? = some (pX9 cy a q σ)) (hdg : decode cc pc = .ok (.getfield 230, 3)) (kk : W p l e R s m args below meth c H locs cells slots Q (F0 m (pc + 3) ls (.int (σ.1 10) :: rest))) : W p l e R s m args below meth c H locs cells slots Q (F0 m pc ls (.ref a :: rest)) :=
  w_get S hw j 0 hj rfl rfl (lay_X9 S.2.2.2.2) 27 (by decide) (S.2.2.2.2.wd wd724 rfl) rfl rfl hdg kk
set_option maxRecDepth 100000 in
theorem gf_X9_233 {q : Nat → Nat} {σ : pStt} (S : CX p m c cc nL s args RX9 D cy) (hw : PW D A H0 Ps H locs) (j : Nat) (hj : Ps[j]? = some (pX9 cy a q σ)) (hdg : decode cc pc = .ok (.getfield 233, 3)) (kk : W p l e R s m args below meth c H locs cells slots Q (F0 m (pc + 3) ls (.int (σ.1 11) :: rest))) : W p l e R s m args below meth c H locs cells slots Q (F0 m pc ls (.ref a :: rest)) :=
  w_get S hw j 0 hj rfl rfl (lay_X9 S.2.2.2.2) 28 (by decide) (S.2.2.2.2.wd wd725 rfl) rfl rfl hdg kk
set_option maxRecDepth 100000 in
theorem gf_X9_281 {q : Nat → Nat} {σ : pStt} (S : CX p m c cc nL s args RX9 D cy) (hw : PW D A H0 Ps H locs) (j : Nat) (hj : Ps[j]? = some (pX9 cy a q σ)) (hdg : decode cc pc = .ok (.getfield 281, 3)) (kk : W p l e R s m args below meth c H locs cells slots Q (F0 m (pc + 3) ls (.int (σ.1 2) :: rest))) : W p l e R s m args below meth c H locs cells slots Q (F0 m pc ls (.ref a :: rest)) :=
  w_get S hw j 0 hj rfl rfl (lay_X9 S.2.2.2.2) 10 (by decide) (S.2.2.2.2.wd wd707 rfl) rfl rfl hdg kk
set_option maxRecDepth 100000 in
theorem gf_X9_296 {q : Nat → Nat} {σ : pStt} (S : CX p m c cc nL s args RX9 D cy) (hw : PW D A H0 Ps H locs) (j : Nat) (hj : Ps[j]? = some (pX9 cy a q σ)) (hdg : decode cc pc = .ok (.getfield 296, 3)) (kk : W p l e R s m args below meth c H locs cells slots Q (F0 m (pc + 3) ls (.int (σ.1 3) :: rest))) : W p l e R s m args below meth c H locs cells slots Q (F0 m pc ls (.ref a :: rest)) :=
  w_get S hw j 0 hj rfl rfl (lay_X9 S.2.2.2.2) 15 (by decide) (S.2.2.2.2.wd wd712 rfl) rfl rfl hdg kk
set_option maxRecDepth 100000 in
theorem gf_X9_347 {q : Nat → Nat} {σ : pStt} (S : CX p m c cc nL s args RX9 D cy) (hw : PW D A H0 Ps H locs) (j : Nat) (hj : Ps[j]? = some (pX9 cy a q σ)) (hdg : decode cc pc = .ok (.getfield 347, 3)) (kk : W p l e R s m args below meth c H locs cells slots Q (F0 m (pc + 3) ls (.int (σ.1 15) :: rest))) : W p l e R s m args below meth c H locs cells slots Q (F0 m pc ls (.ref a :: rest)) :=
  w_get S hw j 0 hj rfl rfl (lay_X9 S.2.2.2.2) 36 (by decide) (S.2.2.2.2.wd wd733 rfl) rfl rfl hdg kk
set_option maxRecDepth 100000 in
theorem gf_X9_350 {q : Nat → Nat} {σ : pStt} (S : CX p m c cc nL s args RX9 D cy) (hw : PW D A H0 Ps H locs) (j : Nat) (hj : Ps[j]? = some (pX9 cy a q σ)) (hdg : decode cc pc = .ok (.getfield 350, 3)) (kk : W p l e R s m args below meth c H locs cells slots Q (F0 m (pc + 3) ls (.int (σ.1 14) :: rest))) : W p l e R s m args below meth c H locs cells slots Q (F0 m pc ls (.ref a :: rest)) :=
  w_get S hw j 0 hj rfl rfl (lay_X9 S.2.2.2.2) 35 (by decide) (S.2.2.2.2.wd wd732 rfl) rfl rfl hdg kk
set_option maxRecDepth 100000 in
theorem pf_X1_24 {q : Nat → Nat} {σ : pStt} {σ' : pStt} {x x' : Int32} (S : CX p m c cc nL s args RX1 D cy) (hw : PW D A H0 Ps H locs) (j : Nat) (hj : Ps[j]? = some (pX1 cy a q σ)) (hz : asB x = some x') (he : some (sI σ 1 x') = some σ') (hdg : decode cc pc = .ok (.putfield 24, 3)) (kk : ∀ (H1 : Heap) (locs1 : List Loc), PW D A H0 (Ps.set j (pX1 cy a q σ')) H1 locs1 → W p l e R s m args below meth c H1 locs1 cells slots Q (F0 m (pc + 3) ls rest)) : W p l e R s m args below meth c H locs cells slots Q (F0 m pc ls (.int x :: .ref a :: rest)) := by
  obtain ⟨h1, h2, rfl⟩ := asB_inv hz
  cases he
  exact w_put S hw j 0 hj rfl rfl (lay_X1 S.2.2.2.2) tyX1 tyX1_ok nmX1 5 (by decide) (S.2.2.2.2.wd wd113 rfl) rfl rfl rfl h1 h2 (Nat.le_of_ble_eq_true rfl) hdg kk
set_option maxRecDepth 100000 in
theorem pf_X1_34 {q : Nat → Nat} {σ : pStt} {σ' : pStt} {x : Int32} (S : CX p m c cc nL s args RX1 D cy) (hw : PW D A H0 Ps H locs) (j : Nat) (hj : Ps[j]? = some (pX1 cy a q σ)) (he : some (sI σ 0 x) = some σ') (hdg : decode cc pc = .ok (.putfield 34, 3)) (kk : ∀ (H1 : Heap) (locs1 : List Loc), PW D A H0 (Ps.set j (pX1 cy a q σ')) H1 locs1 → W p l e R s m args below meth c H1 locs1 cells slots Q (F0 m (pc + 3) ls rest)) : W p l e R s m args below meth c H locs cells slots Q (F0 m pc ls (.int x :: .ref a :: rest)) := by
  cases he
  exact w_put S hw j 0 hj rfl rfl (lay_X1 S.2.2.2.2) tyX1 tyX1_ok nmX1 4 (by decide) (S.2.2.2.2.wd wd110 rfl) rfl rfl rfl rfl rfl (Nat.le_of_ble_eq_true rfl) hdg kk
set_option maxRecDepth 100000 in
theorem pf_X1_38 {q : Nat → Nat} {σ : pStt} {σ' : pStt} {x : Int32} (S : CX p m c cc nL s args RX1 D cy) (hw : PW D A H0 Ps H locs) (j : Nat) (hj : Ps[j]? = some (pX1 cy a q σ)) (he : some (sI σ 2 x) = some σ') (hdg : decode cc pc = .ok (.putfield 38, 3)) (kk : ∀ (H1 : Heap) (locs1 : List Loc), PW D A H0 (Ps.set j (pX1 cy a q σ')) H1 locs1 → W p l e R s m args below meth c H1 locs1 cells slots Q (F0 m (pc + 3) ls rest)) : W p l e R s m args below meth c H locs cells slots Q (F0 m pc ls (.int x :: .ref a :: rest)) := by
  cases he
  exact w_put S hw j 0 hj rfl rfl (lay_X1 S.2.2.2.2) tyX1 tyX1_ok nmX1 6 (by decide) (S.2.2.2.2.wd wd115 rfl) rfl rfl rfl rfl rfl (Nat.le_of_ble_eq_true rfl) hdg kk
set_option maxRecDepth 100000 in
theorem pf_X3_15 {q : Nat → Nat} {σ : pStt} {σ' : pStt} {x : Int32} (S : CX p m c cc nL s args RX3 D cy) (hw : PW D A H0 Ps H locs) (j : Nat) (hj : Ps[j]? = some (pX3 cy a q σ)) (he : some (sI σ 0 x) = some σ') (hdg : decode cc pc = .ok (.putfield 15, 3)) (kk : ∀ (H1 : Heap) (locs1 : List Loc), PW D A H0 (Ps.set j (pX3 cy a q σ')) H1 locs1 → W p l e R s m args below meth c H1 locs1 cells slots Q (F0 m (pc + 3) ls rest)) : W p l e R s m args below meth c H locs cells slots Q (F0 m pc ls (.int x :: .ref a :: rest)) := by
  cases he
  exact w_put S hw j 0 hj rfl rfl (lay_X3 S.2.2.2.2) tyX3 tyX3_ok nmX3 1 (by decide) (S.2.2.2.2.wd wd185 rfl) rfl rfl rfl rfl rfl (Nat.le_of_ble_eq_true rfl) hdg kk
set_option maxRecDepth 100000 in
theorem pf_X3_19 {q : Nat → Nat} {σ : pStt} {σ' : pStt} {x : Int32} (S : CX p m c cc nL s args RX3 D cy) (hw : PW D A H0 Ps H locs) (j : Nat) (hj : Ps[j]? = some (pX3 cy a q σ)) (he : some (sI σ 1 x) = some σ') (hdg : decode cc pc = .ok (.putfield 19, 3)) (kk : ∀ (H1 : Heap) (locs1 : List Loc), PW D A H0 (Ps.set j (pX3 cy a q σ')) H1 locs1 → W p l e R s m args below meth c H1 locs1 cells slots Q (F0 m (pc + 3) ls rest)) : W p l e R s m args below meth c H locs cells slots Q (F0 m pc ls (.int x :: .ref a :: rest)) := by
  cases he
  exact w_put S hw j 0 hj rfl rfl (lay_X3 S.2.2.2.2) tyX3 tyX3_ok nmX3 2 (by decide) (S.2.2.2.2.wd wd187 rfl) rfl rfl rfl rfl rfl (Nat.le_of_ble_eq_true rfl) hdg kk
set_option maxRecDepth 100000 in
theorem pf_X3_33 {q : Nat → Nat} {σ : pStt} {σ' : pStt} {x : Int32} (S : CX p m c cc nL s args RX3 D cy) (hw : PW D A H0 Ps H locs) (j : Nat) (hj : Ps[j]? = some (pX3 cy a q σ)) (he : some (sI σ 3 x) = some σ') (hdg : decode cc pc = .ok (.putfield 33, 3)) (kk : ∀ (H1 : Heap) (locs1 : List Loc), PW D A H0 (Ps.set j (pX3 cy a q σ')) H1 locs1 → W p l e R s m args below meth c H1 locs1 cells slots Q (F0 m (pc + 3) ls rest)) : W p l e R s m args below meth c H locs cells slots Q (F0 m pc ls (.int x :: .ref a :: rest)) := by
  cases he
  exact w_put S hw j 0 hj rfl rfl (lay_X3 S.2.2.2.2) tyX3 tyX3_ok nmX3 4 (by decide) (S.2.2.2.2.wd wd190 rfl) rfl rfl rfl rfl rfl (Nat.le_of_ble_eq_true rfl) hdg kk
set_option maxRecDepth 100000 in
theorem pf_X3_51 {q : Nat → Nat} {σ : pStt} {σ' : pStt} {x : Int32} (S : CX p m c cc nL s args RX3 D cy) (hw : PW D A H0 Ps H locs) (j : Nat) (hj : Ps[j]? = some (pX3 cy a q σ)) (he : some (sI σ 4 x) = some σ') (hdg : decode cc pc = .ok (.putfield 51, 3)) (kk : ∀ (H1 : Heap) (locs1 : List Loc), PW D A H0 (Ps.set j (pX3 cy a q σ')) H1 locs1 → W p l e R s m args below meth c H1 locs1 cells slots Q (F0 m (pc + 3) ls rest)) : W p l e R s m args below meth c H locs cells slots Q (F0 m pc ls (.int x :: .ref a :: rest)) := by
  cases he
  exact w_put S hw j 0 hj rfl rfl (lay_X3 S.2.2.2.2) tyX3 tyX3_ok nmX3 5 (by decide) (S.2.2.2.2.wd wd192 rfl) rfl rfl rfl rfl rfl (Nat.le_of_ble_eq_true rfl) hdg kk
set_option maxRecDepth 100000 in
theorem pf_X3_54 {q : Nat → Nat} {σ : pStt} {σ' : pStt} {x : Int32} (S : CX p m c cc nL s args RX3 D cy) (hw : PW D A H0 Ps H locs) (j : Nat) (hj : Ps[j]? = some (pX3 cy a q σ)) (he : some (sI σ 2 x) = some σ') (hdg : decode cc pc = .ok (.putfield 54, 3)) (kk : ∀ (H1 : Heap) (locs1 : List Loc), PW D A H0 (Ps.set j (pX3 cy a q σ')) H1 locs1 → W p l e R s m args below meth c H1 locs1 cells slots Q (F0 m (pc + 3) ls rest)) : W p l e R s m args below meth c H locs cells slots Q (F0 m pc ls (.int x :: .ref a :: rest)) := by
  cases he
  exact w_put S hw j 0 hj rfl rfl (lay_X3 S.2.2.2.2) tyX3 tyX3_ok nmX3 3 (by decide) (S.2.2.2.2.wd wd188 rfl) rfl rfl rfl rfl rfl (Nat.le_of_ble_eq_true rfl) hdg kk
set_option maxRecDepth 100000 in
theorem pf_X4_24 {q : Nat → Nat} {σ : pStt} {σ' : pStt} {x : Int32} (S : CX p m c cc nL s args RX4 D cy) (hw : PW D A H0 Ps H locs) (j : Nat) (hj : Ps[j]? = some (pX4 cy a q σ)) (he : some (sI σ 0 x) = some σ') (hdg : decode cc pc = .ok (.putfield 24, 3)) (kk : ∀ (H1 : Heap) (locs1 : List Loc), PW D A H0 (Ps.set j (pX4 cy a q σ')) H1 locs1 → W p l e R s m args below meth c H1 locs1 cells slots Q (F0 m (pc + 3) ls rest)) : W p l e R s m args below meth c H locs cells slots Q (F0 m pc ls (.int x :: .ref a :: rest)) := by
  cases he
  exact w_put S hw j 0 hj rfl rfl (lay_X4 S.2.2.2.2) tyX4 tyX4_ok nmX4 2 (by decide) (S.2.2.2.2.wd wd141 rfl) rfl rfl rfl rfl rfl (Nat.le_of_ble_eq_true rfl) hdg kk
set_option maxRecDepth 100000 in
theorem pf_X5_21 {q : Nat → Nat} {σ : pStt} {σ' : pStt} {x : Int32} (S : CX p m c cc nL s args RX5 D cy) (hw : PW D A H0 Ps H locs) (j : Nat) (hj : Ps[j]? = some (pX5 cy a q σ)) (he : some (sI σ 0 x) = some σ') (hdg : decode cc pc = .ok (.putfield 21, 3)) (kk : ∀ (H1 : Heap) (locs1 : List Loc), PW D A H0 (Ps.set j (pX5 cy a q σ')) H1 locs1 → W p l e R s m args below meth c H1 locs1 cells slots Q (F0 m (pc + 3) ls rest)) : W p l e R s m args below meth c H locs cells slots Q (F0 m pc ls (.int x :: .ref a :: rest)) := by
  cases he
  exact w_put S hw j 0 hj rfl rfl (lay_X5 S.2.2.2.2) tyX5 tyX5_ok nmX5 1 (by decide) (S.2.2.2.2.wd wd157 rfl) rfl rfl rfl rfl rfl (Nat.le_of_ble_eq_true rfl) hdg kk
set_option maxRecDepth 100000 in
theorem pf_X6_22 {w : Nat → Nat} {σ : pStt} {σ' : pStt} {x : Int32} (S : CX p m c cc nL s args RX6 D cy) (hw : PW D A H0 Ps H locs) (j : Nat) (hj : Ps[j]? = some (pX6 a w σ)) (he : some (sI σ 0 x) = some σ') (hdg : decode cc pc = .ok (.putfield 22, 3)) (kk : ∀ (H1 : Heap) (locs1 : List Loc), PW D A H0 (Ps.set j (pX6 a w σ')) H1 locs1 → W p l e R s m args below meth c H1 locs1 cells slots Q (F0 m (pc + 3) ls rest)) : W p l e R s m args below meth c H locs cells slots Q (F0 m pc ls (.int x :: .ref a :: rest)) := by
  cases he
  exact w_put S hw j 0 hj rfl rfl (lay_X6 S.2.2.2.2) tyX6 tyX6_ok nmX6 1 (by decide) (S.2.2.2.2.wd wd217 rfl) rfl rfl rfl rfl rfl (Nat.le_of_ble_eq_true rfl) hdg kk
set_option maxRecDepth 100000 in
theorem pf_X6_26 {w : Nat → Nat} {σ : pStt} {σ' : pStt} {x : Int32} (S : CX p m c cc nL s args RX6 D cy) (hw : PW D A H0 Ps H locs) (j : Nat) (hj : Ps[j]? = some (pX6 a w σ)) (he : some (sI σ 1 x) = some σ') (hdg : decode cc pc = .ok (.putfield 26, 3)) (kk : ∀ (H1 : Heap) (locs1 : List Loc), PW D A H0 (Ps.set j (pX6 a w σ')) H1 locs1 → W p l e R s m args below meth c H1 locs1 cells slots Q (F0 m (pc + 3) ls rest)) : W p l e R s m args below meth c H locs cells slots Q (F0 m pc ls (.int x :: .ref a :: rest)) := by
  cases he
  exact w_put S hw j 0 hj rfl rfl (lay_X6 S.2.2.2.2) tyX6 tyX6_ok nmX6 2 (by decide) (S.2.2.2.2.wd wd219 rfl) rfl rfl rfl rfl rfl (Nat.le_of_ble_eq_true rfl) hdg kk
set_option maxRecDepth 100000 in
theorem pf_X6_29 {w : Nat → Nat} {σ : pStt} {σ' : pStt} {x : Int32} (S : CX p m c cc nL s args RX6 D cy) (hw : PW D A H0 Ps H locs) (j : Nat) (hj : Ps[j]? = some (pX6 a w σ)) (he : some (sI σ 2 x) = some σ') (hdg : decode cc pc = .ok (.putfield 29, 3)) (kk : ∀ (H1 : Heap) (locs1 : List Loc), PW D A H0 (Ps.set j (pX6 a w σ')) H1 locs1 → W p l e R s m args below meth c H1 locs1 cells slots Q (F0 m (pc + 3) ls rest)) : W p l e R s m args below meth c H locs cells slots Q (F0 m pc ls (.int x :: .ref a :: rest)) := by
  cases he
  exact w_put S hw j 0 hj rfl rfl (lay_X6 S.2.2.2.2) tyX6 tyX6_ok nmX6 3 (by decide) (S.2.2.2.2.wd wd221 rfl) rfl rfl rfl rfl rfl (Nat.le_of_ble_eq_true rfl) hdg kk
set_option maxRecDepth 100000 in
theorem pf_X6_32 {w : Nat → Nat} {σ : pStt} {σ' : pStt} {x : Int32} (S : CX p m c cc nL s args RX6 D cy) (hw : PW D A H0 Ps H locs) (j : Nat) (hj : Ps[j]? = some (pX6 a w σ)) (he : some (sI σ 3 x) = some σ') (hdg : decode cc pc = .ok (.putfield 32, 3)) (kk : ∀ (H1 : Heap) (locs1 : List Loc), PW D A H0 (Ps.set j (pX6 a w σ')) H1 locs1 → W p l e R s m args below meth c H1 locs1 cells slots Q (F0 m (pc + 3) ls rest)) : W p l e R s m args below meth c H locs cells slots Q (F0 m pc ls (.int x :: .ref a :: rest)) := by
  cases he
  exact w_put S hw j 0 hj rfl rfl (lay_X6 S.2.2.2.2) tyX6 tyX6_ok nmX6 4 (by decide) (S.2.2.2.2.wd wd223 rfl) rfl rfl rfl rfl rfl (Nat.le_of_ble_eq_true rfl) hdg kk
set_option maxRecDepth 100000 in
theorem pf_X6_35 {w : Nat → Nat} {σ : pStt} {σ' : pStt} {x : Int32} (S : CX p m c cc nL s args RX6 D cy) (hw : PW D A H0 Ps H locs) (j : Nat) (hj : Ps[j]? = some (pX6 a w σ)) (he : some (sI σ 4 x) = some σ') (hdg : decode cc pc = .ok (.putfield 35, 3)) (kk : ∀ (H1 : Heap) (locs1 : List Loc), PW D A H0 (Ps.set j (pX6 a w σ')) H1 locs1 → W p l e R s m args below meth c H1 locs1 cells slots Q (F0 m (pc + 3) ls rest)) : W p l e R s m args below meth c H locs cells slots Q (F0 m pc ls (.int x :: .ref a :: rest)) := by
  cases he
  exact w_put S hw j 0 hj rfl rfl (lay_X6 S.2.2.2.2) tyX6 tyX6_ok nmX6 5 (by decide) (S.2.2.2.2.wd wd225 rfl) rfl rfl rfl rfl rfl (Nat.le_of_ble_eq_true rfl) hdg kk
set_option maxRecDepth 100000 in
theorem pf_X8_94 {q : Nat → Nat} {σ : pStt} {σ' : pStt} {x x' : Int32} (S : CX p m c cc nL s args RX8 D cy) (hw : PW D A H0 Ps H locs) (j : Nat) (hj : Ps[j]? = some (pX1 cy a q σ)) (hz : asB x = some x') (he : some (sI σ 1 x') = some σ') (hdg : decode cc pc = .ok (.putfield 94, 3)) (kk : ∀ (H1 : Heap) (locs1 : List Loc), PW D A H0 (Ps.set j (pX1 cy a q σ')) H1 locs1 → W p l e R s m args below meth c H1 locs1 cells slots Q (F0 m (pc + 3) ls rest)) : W p l e R s m args below meth c H locs cells slots Q (F0 m pc ls (.int x :: .ref a :: rest)) := by
  obtain ⟨h1, h2, rfl⟩ := asB_inv hz
  cases he
  exact w_put S hw j 0 hj rfl rfl (lay_X1 S.2.2.2.2) tyX1 tyX1_ok nmX1 5 (by decide) (S.2.2.2.2.wd wd114 rfl) rfl rfl rfl h1 h2 (Nat.le_of_ble_eq_true rfl) hdg kk
set_option maxRecDepth 100000 in
theorem pf_X8_101 {q : Nat → Nat} {σ : pStt} {σ' : pStt} {x : Int32} (S : CX p m c cc nL s args RX8 D cy) (hw : PW D A H0 Ps H locs) (j : Nat) (hj : Ps[j]? = some (pX3 cy a q σ)) (he : some (sI σ 0 x) = some σ') (hdg : decode cc pc = .ok (.putfield 101, 3)) (kk : ∀ (H1 : Heap) (locs1 : List Loc), PW D A H0 (Ps.set j (pX3 cy a q σ')) H1 locs1 → W p l e R s m args below meth c H1 locs1 cells slots Q (F0 m (pc + 3) ls rest)) : W p l e R s m args below meth c H locs cells slots Q (F0 m pc ls (.int x :: .ref a :: rest)) := by
  cases he
  exact w_put S hw j 0 hj rfl rfl (lay_X3 S.2.2.2.2) tyX3 tyX3_ok nmX3 1 (by decide) (S.2.2.2.2.wd wd186 rfl) rfl rfl rfl rfl rfl (Nat.le_of_ble_eq_true rfl) hdg kk
set_option maxRecDepth 100000 in
theorem pf_X8_173 {q : Nat → Nat} {σ : pStt} {σ' : pStt} {x : Int32} (S : CX p m c cc nL s args RX8 D cy) (hw : PW D A H0 Ps H locs) (j : Nat) (hj : Ps[j]? = some (pX4 cy a q σ)) (he : some (sI σ 0 x) = some σ') (hdg : decode cc pc = .ok (.putfield 173, 3)) (kk : ∀ (H1 : Heap) (locs1 : List Loc), PW D A H0 (Ps.set j (pX4 cy a q σ')) H1 locs1 → W p l e R s m args below meth c H1 locs1 cells slots Q (F0 m (pc + 3) ls rest)) : W p l e R s m args below meth c H locs cells slots Q (F0 m pc ls (.int x :: .ref a :: rest)) := by
  cases he
  exact w_put S hw j 0 hj rfl rfl (lay_X4 S.2.2.2.2) tyX4 tyX4_ok nmX4 2 (by decide) (S.2.2.2.2.wd wd142 rfl) rfl rfl rfl rfl rfl (Nat.le_of_ble_eq_true rfl) hdg kk
set_option maxRecDepth 100000 in
theorem pf_X8_199 {q : Nat → Nat} {σ : pStt} {σ' : pStt} {x : Int32} (S : CX p m c cc nL s args RX8 D cy) (hw : PW D A H0 Ps H locs) (j : Nat) (hj : Ps[j]? = some (pX5 cy a q σ)) (he : some (sI σ 0 x) = some σ') (hdg : decode cc pc = .ok (.putfield 199, 3)) (kk : ∀ (H1 : Heap) (locs1 : List Loc), PW D A H0 (Ps.set j (pX5 cy a q σ')) H1 locs1 → W p l e R s m args below meth c H1 locs1 cells slots Q (F0 m (pc + 3) ls rest)) : W p l e R s m args below meth c H locs cells slots Q (F0 m pc ls (.int x :: .ref a :: rest)) := by
  cases he
  exact w_put S hw j 0 hj rfl rfl (lay_X5 S.2.2.2.2) tyX5 tyX5_ok nmX5 1 (by decide) (S.2.2.2.2.wd wd158 rfl) rfl rfl rfl rfl rfl (Nat.le_of_ble_eq_true rfl) hdg kk
set_option maxRecDepth 100000 in
theorem pf_X9_74 {q : Nat → Nat} {σ : pStt} {σ' : pStt} {x : Int32} (S : CX p m c cc nL s args RX9 D cy) (hw : PW D A H0 Ps H locs) (j : Nat) (hj : Ps[j]? = some (pX9 cy a q σ)) (he : some (sI σ 0 x) = some σ') (hdg : decode cc pc = .ok (.putfield 74, 3)) (kk : ∀ (H1 : Heap) (locs1 : List Loc), PW D A H0 (Ps.set j (pX9 cy a q σ')) H1 locs1 → W p l e R s m args below meth c H1 locs1 cells slots Q (F0 m (pc + 3) ls rest)) : W p l e R s m args below meth c H locs cells slots Q (F0 m pc ls (.int x :: .ref a :: rest)) := by
  cases he
  exact w_put S hw j 0 hj rfl rfl (lay_X9 S.2.2.2.2) tyX9 tyX9_ok nmX9 5 (by decide) (S.2.2.2.2.wd wd702 rfl) rfl rfl rfl rfl rfl (Nat.le_of_ble_eq_true rfl) hdg kk
set_option maxRecDepth 100000 in
theorem pf_X9_126 {q : Nat → Nat} {σ : pStt} {σ' : pStt} {x : Int32} (S : CX p m c cc nL s args RX9 D cy) (hw : PW D A H0 Ps H locs) (j : Nat) (hj : Ps[j]? = some (pX9 cy a q σ)) (he : some (sI σ 4 x) = some σ') (hdg : decode cc pc = .ok (.putfield 126, 3)) (kk : ∀ (H1 : Heap) (locs1 : List Loc), PW D A H0 (Ps.set j (pX9 cy a q σ')) H1 locs1 → W p l e R s m args below meth c H1 locs1 cells slots Q (F0 m (pc + 3) ls rest)) : W p l e R s m args below meth c H locs cells slots Q (F0 m pc ls (.int x :: .ref a :: rest)) := by
  cases he
  exact w_put S hw j 0 hj rfl rfl (lay_X9 S.2.2.2.2) tyX9 tyX9_ok nmX9 17 (by decide) (S.2.2.2.2.wd wd714 rfl) rfl rfl rfl rfl rfl (Nat.le_of_ble_eq_true rfl) hdg kk
set_option maxRecDepth 100000 in
theorem pf_X9_129 {q : Nat → Nat} {σ : pStt} {σ' : pStt} {x : Int32} (S : CX p m c cc nL s args RX9 D cy) (hw : PW D A H0 Ps H locs) (j : Nat) (hj : Ps[j]? = some (pX9 cy a q σ)) (he : some (sI σ 5 x) = some σ') (hdg : decode cc pc = .ok (.putfield 129, 3)) (kk : ∀ (H1 : Heap) (locs1 : List Loc), PW D A H0 (Ps.set j (pX9 cy a q σ')) H1 locs1 → W p l e R s m args below meth c H1 locs1 cells slots Q (F0 m (pc + 3) ls rest)) : W p l e R s m args below meth c H locs cells slots Q (F0 m pc ls (.int x :: .ref a :: rest)) := by
  cases he
  exact w_put S hw j 0 hj rfl rfl (lay_X9 S.2.2.2.2) tyX9 tyX9_ok nmX9 21 (by decide) (S.2.2.2.2.wd wd718 rfl) rfl rfl rfl rfl rfl (Nat.le_of_ble_eq_true rfl) hdg kk
set_option maxRecDepth 100000 in
theorem pf_X9_174 {q : Nat → Nat} {σ : pStt} {σ' : pStt} {x : Int32} (S : CX p m c cc nL s args RX9 D cy) (hw : PW D A H0 Ps H locs) (j : Nat) (hj : Ps[j]? = some (pX9 cy a q σ)) (he : some (sI σ 1 x) = some σ') (hdg : decode cc pc = .ok (.putfield 174, 3)) (kk : ∀ (H1 : Heap) (locs1 : List Loc), PW D A H0 (Ps.set j (pX9 cy a q σ')) H1 locs1 → W p l e R s m args below meth c H1 locs1 cells slots Q (F0 m (pc + 3) ls rest)) : W p l e R s m args below meth c H locs cells slots Q (F0 m pc ls (.int x :: .ref a :: rest)) := by
  cases he
  exact w_put S hw j 0 hj rfl rfl (lay_X9 S.2.2.2.2) tyX9 tyX9_ok nmX9 6 (by decide) (S.2.2.2.2.wd wd703 rfl) rfl rfl rfl rfl rfl (Nat.le_of_ble_eq_true rfl) hdg kk
set_option maxRecDepth 100000 in
theorem pf_X9_181 {q : Nat → Nat} {σ : pStt} {σ' : pStt} {x : Int32} (S : CX p m c cc nL s args RX9 D cy) (hw : PW D A H0 Ps H locs) (j : Nat) (hj : Ps[j]? = some (pX9 cy a q σ)) (he : some (sI σ 6 x) = some σ') (hdg : decode cc pc = .ok (.putfield 181, 3)) (kk : ∀ (H1 : Heap) (locs1 : List Loc), PW D A H0 (Ps.set j (pX9 cy a q σ')) H1 locs1 → W p l e R s m args below meth c H1 locs1 cells slots Q (F0 m (pc + 3) ls rest)) : W p l e R s m args below meth c H locs cells slots Q (F0 m pc ls (.int x :: .ref a :: rest)) := by
  cases he
  exact w_put S hw j 0 hj rfl rfl (lay_X9 S.2.2.2.2) tyX9 tyX9_ok nmX9 22 (by decide) (S.2.2.2.2.wd wd719 rfl) rfl rfl rfl rfl rfl (Nat.le_of_ble_eq_true rfl) hdg kk
set_option maxRecDepth 100000 in
theorem pf_X9_184 {q : Nat → Nat} {σ : pStt} {σ' : pStt} {x : Int32} (S : CX p m c cc nL s args RX9 D cy) (hw : PW D A H0 Ps H locs) (j : Nat) (hj : Ps[j]? = some (pX9 cy a q σ)) (he : some (sI σ 7 x) = some σ') (hdg : decode cc pc = .ok (.putfield 184, 3)) (kk : ∀ (H1 : Heap) (locs1 : List Loc), PW D A H0 (Ps.set j (pX9 cy a q σ')) H1 locs1 → W p l e R s m args below meth c H1 locs1 cells slots Q (F0 m (pc + 3) ls rest)) : W p l e R s m args below meth c H locs cells slots Q (F0 m pc ls (.int x :: .ref a :: rest)) := by
  cases he
  exact w_put S hw j 0 hj rfl rfl (lay_X9 S.2.2.2.2) tyX9 tyX9_ok nmX9 23 (by decide) (S.2.2.2.2.wd wd720 rfl) rfl rfl rfl rfl rfl (Nat.le_of_ble_eq_true rfl) hdg kk
set_option maxRecDepth 100000 in
theorem pf_X9_203 {q : Nat → Nat} {σ : pStt} {σ' : pStt} {x x' : Int32} (S : CX p m c cc nL s args RX9 D cy) (hw : PW D A H0 Ps H locs) (j : Nat) (hj : Ps[j]? = some (pX9 cy a q σ)) (hz : asB x = some x') (he : some (sI σ 9 x') = some σ') (hdg : decode cc pc = .ok (.putfield 203, 3)) (kk : ∀ (H1 : Heap) (locs1 : List Loc), PW D A H0 (Ps.set j (pX9 cy a q σ')) H1 locs1 → W p l e R s m args below meth c H1 locs1 cells slots Q (F0 m (pc + 3) ls rest)) : W p l e R s m args below meth c H locs cells slots Q (F0 m pc ls (.int x :: .ref a :: rest)) := by
  obtain ⟨h1, h2, rfl⟩ := asB_inv hz
  cases he
  exact w_put S hw j 0 hj rfl rfl (lay_X9 S.2.2.2.2) tyX9 tyX9_ok nmX9 26 (by decide) (S.2.2.2.2.wd wd723 rfl) rfl rfl rfl h1 h2 (Nat.le_of_ble_eq_true rfl) hdg kk
set_option maxRecDepth 100000 in
theorem pf_X9_207 {q : Nat → Nat} {σ : pStt} {σ' : pStt} {x : Int32} (S : CX p m c cc nL s args RX9 D cy) (hw : PW D A H0 Ps H locs) (j : Nat) (hj : Ps[j]? = some (pX9 cy a q σ)) (he : some (sI σ 8 x) = some σ') (hdg : decode cc pc = .ok (.putfield 207, 3)) (kk : ∀ (H1 : Heap) (locs1 : List Loc), PW D A H0 (Ps.set j (pX9 cy a q σ')) H1 locs1 → W p l e R s m args below meth c H1 locs1 cells slots Q (F0 m (pc + 3) ls rest)) : W p l e R s m args below meth c H locs cells slots Q (F0 m pc ls (.int x :: .ref a :: rest)) := by
  cases he
  exact w_put S hw j 0 hj rfl rfl (lay_X9 S.2.2.2.2) tyX9 tyX9_ok nmX9 25 (by decide) (S.2.2.2.2.wd wd722 rfl) rfl rfl rfl rfl rfl (Nat.le_of_ble_eq_true rfl) hdg kk
set_option maxRecDepth 100000 in
theorem pf_X9_224 {q : Nat → Nat} {σ : pStt} {σ' : pStt} {x : Int32} (S : CX p m c cc nL s args RX9 D cy) (hw : PW D A H0 Ps H locs) (j : Nat) (hj : Ps[j]? = some (pX9 cy a q σ)) (he : some (sI σ 12 x) = some σ') (hdg : decode cc pc = .ok (.putfield 224, 3)) (kk : ∀ (H1 : Heap) (locs1 : List Loc), PW D A H0 (Ps.set j (pX9 cy a q σ')) H1 locs1 → W p l e R s m args below meth c H1 locs1 cells slots Q (F0 m (pc + 3) ls rest)) : W p l e R s m args below meth c H locs cells slots Q (F0 m pc ls (.int x :: .ref a :: rest)) := by
  cases he
  exact w_put S hw j 0 hj rfl rfl (lay_X9 S.2.2.2.2) tyX9 tyX9_ok nmX9 29 (by decide) (S.2.2.2.2.wd wd726 rfl) rfl rfl rfl rfl rfl (Nat.le_of_ble_eq_true rfl) hdg kk
set_option maxRecDepth 100000 in
theorem pf_X9_227 {q : Nat → Nat} {σ : pStt} {σ' : pStt} {x : Int32} (S : CX p m c cc nL s args RX9 D cy) (hw : PW D A H0 Ps H locs) (j : Nat) (hj : Ps[j]? = some (pX9 cy a q σ)) (he : some (sI σ 13 x) = some σ') (hdg : decode cc pc = .ok (.putfield 227, 3)) (kk : ∀ (H1 : Heap) (locs1 : List Loc), PW D A H0 (Ps.set j (pX9 cy a q σ')) H1 locs1 → W p l e R s m args below meth c H1 locs1 cells slots Q (F0 m (pc + 3) ls rest)) : W p l e R s m args below meth c H locs cells slots Q (F0 m pc ls (.int x :: .ref a :: rest)) := by
  cases he
  exact w_put S hw j 0 hj rfl rfl (lay_X9 S.2.2.2.2) tyX9 tyX9_ok nmX9 30 (by decide) (S.2.2.2.2.wd wd727 rfl) rfl rfl rfl rfl rfl (Nat.le_of_ble_eq_true rfl) hdg kk
set_option maxRecDepth 100000 in
theorem pf_X9_230 {q : Nat → Nat} {σ : pStt} {σ' : pStt} {x : Int32} (S : CX p m c cc nL s args RX9 D cy) (hw : PW D A H0 Ps H locs) (j : Nat) (hj : Ps[j]? = some (pX9 cy a q σ)) (he : some (sI σ 10 x) = some σ') (hdg : decode cc pc = .ok (.putfield 230, 3)) (kk : ∀ (H1 : Heap) (locs1 : List Loc), PW D A H0 (Ps.set j (pX9 cy a q σ')) H1 locs1 → W p l e R s m args below meth c H1 locs1 cells slots Q (F0 m (pc + 3) ls rest)) : W p l e R s m args below meth c H locs cells slots Q (F0 m pc ls (.int x :: .ref a :: rest)) := by
  cases he
  exact w_put S hw j 0 hj rfl rfl (lay_X9 S.2.2.2.2) tyX9 tyX9_ok nmX9 27 (by decide) (S.2.2.2.2.wd wd724 rfl) rfl rfl rfl rfl rfl (Nat.le_of_ble_eq_true rfl) hdg kk
set_option maxRecDepth 100000 in
theorem pf_X9_233 {q : Nat → Nat} {σ : pStt} {σ' : pStt} {x : Int32} (S : CX p m c cc nL s args RX9 D cy) (hw : PW D A H0 Ps H locs) (j : Nat) (hj : Ps[j]? = some (pX9 cy a q σ)) (he : some (sI σ 11 x) = some σ') (hdg : decode cc pc = .ok (.putfield 233, 3)) (kk : ∀ (H1 : Heap) (locs1 : List Loc), PW D A H0 (Ps.set j (pX9 cy a q σ')) H1 locs1 → W p l e R s m args below meth c H1 locs1 cells slots Q (F0 m (pc + 3) ls rest)) : W p l e R s m args below meth c H locs cells slots Q (F0 m pc ls (.int x :: .ref a :: rest)) := by
  cases he
  exact w_put S hw j 0 hj rfl rfl (lay_X9 S.2.2.2.2) tyX9 tyX9_ok nmX9 28 (by decide) (S.2.2.2.2.wd wd725 rfl) rfl rfl rfl rfl rfl (Nat.le_of_ble_eq_true rfl) hdg kk
set_option maxRecDepth 100000 in
theorem pf_X9_281 {q : Nat → Nat} {σ : pStt} {σ' : pStt} {x : Int32} (S : CX p m c cc nL s args RX9 D cy) (hw : PW D A H0 Ps H locs) (j : Nat) (hj : Ps[j]? = some (pX9 cy a q σ)) (he : some (sI σ 2 x) = some σ') (hdg : decode cc pc = .ok (.putfield 281, 3)) (kk : ∀ (H1 : Heap) (locs1 : List Loc), PW D A H0 (Ps.set j (pX9 cy a q σ')) H1 locs1 → W p l e R s m args below meth c H1 locs1 cells slots Q (F0 m (pc + 3) ls rest)) : W p l e R s m args below meth c H locs cells slots Q (F0 m pc ls (.int x :: .ref a :: rest)) := by
  cases he
  exact w_put S hw j 0 hj rfl rfl (lay_X9 S.2.2.2.2) tyX9 tyX9_ok nmX9 10 (by decide) (S.2.2.2.2.wd wd707 rfl) rfl rfl rfl rfl rfl (Nat.le_of_ble_eq_true rfl) hdg kk
set_option maxRecDepth 100000 in
theorem pf_X9_296 {q : Nat → Nat} {σ : pStt} {σ' : pStt} {x : Int32} (S : CX p m c cc nL s args RX9 D cy) (hw : PW D A H0 Ps H locs) (j : Nat) (hj : Ps[j]? = some (pX9 cy a q σ)) (he : some (sI σ 3 x) = some σ') (hdg : decode cc pc = .ok (.putfield 296, 3)) (kk : ∀ (H1 : Heap) (locs1 : List Loc), PW D A H0 (Ps.set j (pX9 cy a q σ')) H1 locs1 → W p l e R s m args below meth c H1 locs1 cells slots Q (F0 m (pc + 3) ls rest)) : W p l e R s m args below meth c H locs cells slots Q (F0 m pc ls (.int x :: .ref a :: rest)) := by
  cases he
  exact w_put S hw j 0 hj rfl rfl (lay_X9 S.2.2.2.2) tyX9 tyX9_ok nmX9 15 (by decide) (S.2.2.2.2.wd wd712 rfl) rfl rfl rfl rfl rfl (Nat.le_of_ble_eq_true rfl) hdg kk
set_option maxRecDepth 100000 in
theorem pf_X9_347 {q : Nat → Nat} {σ : pStt} {σ' : pStt} {x x' : Int32} (S : CX p m c cc nL s args RX9 D cy) (hw : PW D A H0 Ps H locs) (j : Nat) (hj : Ps[j]? = some (pX9 cy a q σ)) (hz : asB x = some x') (he : some (sI σ 15 x') = some σ') (hdg : decode cc pc = .ok (.putfield 347, 3)) (kk : ∀ (H1 : Heap) (locs1 : List Loc), PW D A H0 (Ps.set j (pX9 cy a q σ')) H1 locs1 → W p l e R s m args below meth c H1 locs1 cells slots Q (F0 m (pc + 3) ls rest)) : W p l e R s m args below meth c H locs cells slots Q (F0 m pc ls (.int x :: .ref a :: rest)) := by
  obtain ⟨h1, h2, rfl⟩ := asB_inv hz
  cases he
  exact w_put S hw j 0 hj rfl rfl (lay_X9 S.2.2.2.2) tyX9 tyX9_ok nmX9 36 (by decide) (S.2.2.2.2.wd wd733 rfl) rfl rfl rfl h1 h2 (Nat.le_of_ble_eq_true rfl) hdg kk
set_option maxRecDepth 100000 in
theorem pf_X9_350 {q : Nat → Nat} {σ : pStt} {σ' : pStt} {x : Int32} (S : CX p m c cc nL s args RX9 D cy) (hw : PW D A H0 Ps H locs) (j : Nat) (hj : Ps[j]? = some (pX9 cy a q σ)) (he : some (sI σ 14 x) = some σ') (hdg : decode cc pc = .ok (.putfield 350, 3)) (kk : ∀ (H1 : Heap) (locs1 : List Loc), PW D A H0 (Ps.set j (pX9 cy a q σ')) H1 locs1 → W p l e R s m args below meth c H1 locs1 cells slots Q (F0 m (pc + 3) ls rest)) : W p l e R s m args below meth c H locs cells slots Q (F0 m pc ls (.int x :: .ref a :: rest)) := by
  cases he
  exact w_put S hw j 0 hj rfl rfl (lay_X9 S.2.2.2.2) tyX9 tyX9_ok nmX9 35 (by decide) (S.2.2.2.2.wd wd732 rfl) rfl rfl rfl rfl rfl (Nat.le_of_ble_eq_true rfl) hdg kk
set_option maxRecDepth 100000 in
theorem al_X1_0 {o : Nat} {q : Nat → Nat} {σ : pStt} {ix : Int32} {x : Int32} (S : CX p m c cc nL s args own D cy) (hw : PW D A H0 Ps H locs) (j : Nat) (hj : Ps[j]? = some (pX1 cy o q σ)) (hl : ld (σ.2 0) 8 ix = some x) (hdg : decode cc pc = .ok (.iaload, 1)) (kk : W p l e R s m args below meth c H locs cells slots Q (F0 m (pc + 1) ls (.int x :: rest))) : W p l e R s m args below meth c H locs cells slots Q (F0 m pc ls (.int ix :: .ref (q 0) :: rest)) :=
  w_iald S hw j 1 hj rfl hl hdg kk
set_option maxRecDepth 100000 in
theorem as_X1_0 {o : Nat} {q : Nat → Nat} {σ : pStt} {σ' : pStt} {ix x : Int32} (S : CX p m c cc nL s args own D cy) (hw : PW D A H0 Ps H locs) (j : Nat) (hj : Ps[j]? = some (pX1 cy o q σ)) (he : stA σ 0 8 ix x = some σ') (hdg : decode cc pc = .ok (.iastore, 1)) (kk : ∀ (H1 : Heap) (locs1 : List Loc), PW D A H0 (Ps.set j (pX1 cy o q σ')) H1 locs1 → W p l e R s m args below meth c H1 locs1 cells slots Q (F0 m (pc + 1) ls rest)) : W p l e R s m args below meth c H locs cells slots Q (F0 m pc ls (.int x :: .int ix :: .ref (q 0) :: rest)) := by
  obtain ⟨h1, rfl⟩ := stA_inv he
  exact w_iast S hw j 1 hj rfl h1 hdg kk
set_option maxRecDepth 100000 in
theorem al_X1_1 {o : Nat} {q : Nat → Nat} {σ : pStt} {ix : Int32} {x : Int32} (S : CX p m c cc nL s args own D cy) (hw : PW D A H0 Ps H locs) (j : Nat) (hj : Ps[j]? = some (pX1 cy o q σ)) (hl : ld (σ.2 1) 8 ix = some x) (hdg : decode cc pc = .ok (.iaload, 1)) (kk : W p l e R s m args below meth c H locs cells slots Q (F0 m (pc + 1) ls (.int x :: rest))) : W p l e R s m args below meth c H locs cells slots Q (F0 m pc ls (.int ix :: .ref (q 1) :: rest)) :=
  w_iald S hw j 2 hj rfl hl hdg kk
set_option maxRecDepth 100000 in
theorem as_X1_1 {o : Nat} {q : Nat → Nat} {σ : pStt} {σ' : pStt} {ix x : Int32} (S : CX p m c cc nL s args own D cy) (hw : PW D A H0 Ps H locs) (j : Nat) (hj : Ps[j]? = some (pX1 cy o q σ)) (he : stA σ 1 8 ix x = some σ') (hdg : decode cc pc = .ok (.iastore, 1)) (kk : ∀ (H1 : Heap) (locs1 : List Loc), PW D A H0 (Ps.set j (pX1 cy o q σ')) H1 locs1 → W p l e R s m args below meth c H1 locs1 cells slots Q (F0 m (pc + 1) ls rest)) : W p l e R s m args below meth c H locs cells slots Q (F0 m pc ls (.int x :: .int ix :: .ref (q 1) :: rest)) := by
  obtain ⟨h1, rfl⟩ := stA_inv he
  exact w_iast S hw j 2 hj rfl h1 hdg kk
set_option maxRecDepth 100000 in
theorem al_X1_2 {o : Nat} {q : Nat → Nat} {σ : pStt} {ix : Int32} {x : Int32} (S : CX p m c cc nL s args own D cy) (hw : PW D A H0 Ps H locs) (j : Nat) (hj : Ps[j]? = some (pX1 cy o q σ)) (hl : ld (σ.2 2) 6 ix = some x) (hdg : decode cc pc = .ok (.iaload, 1)) (kk : W p l e R s m args below meth c H locs cells slots Q (F0 m (pc + 1) ls (.int x :: rest))) : W p l e R s m args below meth c H locs cells slots Q (F0 m pc ls (.int ix :: .ref (q 2) :: rest)) :=
  w_iald S hw j 3 hj rfl hl hdg kk
set_option maxRecDepth 100000 in
theorem as_X1_2 {o : Nat} {q : Nat → Nat} {σ : pStt} {σ' : pStt} {ix x : Int32} (S : CX p m c cc nL s args own D cy) (hw : PW D A H0 Ps H locs) (j : Nat) (hj : Ps[j]? = some (pX1 cy o q σ)) (he : stA σ 2 6 ix x = some σ') (hdg : decode cc pc = .ok (.iastore, 1)) (kk : ∀ (H1 : Heap) (locs1 : List Loc), PW D A H0 (Ps.set j (pX1 cy o q σ')) H1 locs1 → W p l e R s m args below meth c H1 locs1 cells slots Q (F0 m (pc + 1) ls rest)) : W p l e R s m args below meth c H locs cells slots Q (F0 m pc ls (.int x :: .int ix :: .ref (q 2) :: rest)) := by
  obtain ⟨h1, rfl⟩ := stA_inv he
  exact w_iast S hw j 3 hj rfl h1 hdg kk
set_option maxRecDepth 100000 in
theorem al_X1_3 {o : Nat} {q : Nat → Nat} {σ : pStt} {ix : Int32} {x : Int32} (S : CX p m c cc nL s args own D cy) (hw : PW D A H0 Ps H locs) (j : Nat) (hj : Ps[j]? = some (pX1 cy o q σ)) (hl : ld (σ.2 3) 6 ix = some x) (hdg : decode cc pc = .ok (.iaload, 1)) (kk : W p l e R s m args below meth c H locs cells slots Q (F0 m (pc + 1) ls (.int x :: rest))) : W p l e R s m args below meth c H locs cells slots Q (F0 m pc ls (.int ix :: .ref (q 3) :: rest)) :=
  w_iald S hw j 4 hj rfl hl hdg kk
set_option maxRecDepth 100000 in
theorem as_X1_3 {o : Nat} {q : Nat → Nat} {σ : pStt} {σ' : pStt} {ix x : Int32} (S : CX p m c cc nL s args own D cy) (hw : PW D A H0 Ps H locs) (j : Nat) (hj : Ps[j]? = some (pX1 cy o q σ)) (he : stA σ 3 6 ix x = some σ') (hdg : decode cc pc = .ok (.iastore, 1)) (kk : ∀ (H1 : Heap) (locs1 : List Loc), PW D A H0 (Ps.set j (pX1 cy o q σ')) H1 locs1 → W p l e R s m args below meth c H1 locs1 cells slots Q (F0 m (pc + 1) ls rest)) : W p l e R s m args below meth c H locs cells slots Q (F0 m pc ls (.int x :: .int ix :: .ref (q 3) :: rest)) := by
  obtain ⟨h1, rfl⟩ := stA_inv he
  exact w_iast S hw j 4 hj rfl h1 hdg kk
set_option maxRecDepth 100000 in
theorem al_X2_0 {o : Nat} {q : Nat → Nat} {σ : pStt} {ix : Int32} {x : Int32} (S : CX p m c cc nL s args own D cy) (hw : PW D A H0 Ps H locs) (j : Nat) (hj : Ps[j]? = some (pX2 cy o q σ)) (hl : ld (σ.2 0) 256 ix = some x) (hdg : decode cc pc = .ok (.iaload, 1)) (kk : W p l e R s m args below meth c H locs cells slots Q (F0 m (pc + 1) ls (.int x :: rest))) : W p l e R s m args below meth c H locs cells slots Q (F0 m pc ls (.int ix :: .ref (q 0) :: rest)) :=
  w_iald S hw j 1 hj rfl hl hdg kk
set_option maxRecDepth 100000 in
theorem as_X2_0 {o : Nat} {q : Nat → Nat} {σ : pStt} {σ' : pStt} {ix x : Int32} (S : CX p m c cc nL s args own D cy) (hw : PW D A H0 Ps H locs) (j : Nat) (hj : Ps[j]? = some (pX2 cy o q σ)) (he : stA σ 0 256 ix x = some σ') (hdg : decode cc pc = .ok (.iastore, 1)) (kk : ∀ (H1 : Heap) (locs1 : List Loc), PW D A H0 (Ps.set j (pX2 cy o q σ')) H1 locs1 → W p l e R s m args below meth c H1 locs1 cells slots Q (F0 m (pc + 1) ls rest)) : W p l e R s m args below meth c H locs cells slots Q (F0 m pc ls (.int x :: .int ix :: .ref (q 0) :: rest)) := by
  obtain ⟨h1, rfl⟩ := stA_inv he
  exact w_iast S hw j 1 hj rfl h1 hdg kk
set_option maxRecDepth 100000 in
theorem al_X3_0 {o : Nat} {q : Nat → Nat} {σ : pStt} {ix : Int32} {x : Int32} (S : CX p m c cc nL s args own D cy) (hw : PW D A H0 Ps H locs) (j : Nat) (hj : Ps[j]? = some (pX3 cy o q σ)) (hl : ld (σ.2 0) 60 ix = some x) (hdg : decode cc pc = .ok (.iaload, 1)) (kk : W p l e R s m args below meth c H locs cells slots Q (F0 m (pc + 1) ls (.int x :: rest))) : W p l e R s m args below meth c H locs cells slots Q (F0 m pc ls (.int ix :: .ref (q 0) :: rest)) :=
  w_iald S hw j 1 hj rfl hl hdg kk
set_option maxRecDepth 100000 in
theorem as_X3_0 {o : Nat} {q : Nat → Nat} {σ : pStt} {σ' : pStt} {ix x : Int32} (S : CX p m c cc nL s args own D cy) (hw : PW D A H0 Ps H locs) (j : Nat) (hj : Ps[j]? = some (pX3 cy o q σ)) (he : stA σ 0 60 ix x = some σ') (hdg : decode cc pc = .ok (.iastore, 1)) (kk : ∀ (H1 : Heap) (locs1 : List Loc), PW D A H0 (Ps.set j (pX3 cy o q σ')) H1 locs1 → W p l e R s m args below meth c H1 locs1 cells slots Q (F0 m (pc + 1) ls rest)) : W p l e R s m args below meth c H locs cells slots Q (F0 m pc ls (.int x :: .int ix :: .ref (q 0) :: rest)) := by
  obtain ⟨h1, rfl⟩ := stA_inv he
  exact w_iast S hw j 1 hj rfl h1 hdg kk
set_option maxRecDepth 100000 in
theorem al_X4_0 {o : Nat} {q : Nat → Nat} {σ : pStt} {ix : Int32} {x : Int32} (S : CX p m c cc nL s args own D cy) (hw : PW D A H0 Ps H locs) (j : Nat) (hj : Ps[j]? = some (pX4 cy o q σ)) (hl : ld (σ.2 0) 12 ix = some x) (hdg : decode cc pc = .ok (.iaload, 1)) (kk : W p l e R s m args below meth c H locs cells slots Q (F0 m (pc + 1) ls (.int x :: rest))) : W p l e R s m args below meth c H locs cells slots Q (F0 m pc ls (.int ix :: .ref (q 0) :: rest)) :=
  w_iald S hw j 1 hj rfl hl hdg kk
set_option maxRecDepth 100000 in
theorem as_X4_0 {o : Nat} {q : Nat → Nat} {σ : pStt} {σ' : pStt} {ix x : Int32} (S : CX p m c cc nL s args own D cy) (hw : PW D A H0 Ps H locs) (j : Nat) (hj : Ps[j]? = some (pX4 cy o q σ)) (he : stA σ 0 12 ix x = some σ') (hdg : decode cc pc = .ok (.iastore, 1)) (kk : ∀ (H1 : Heap) (locs1 : List Loc), PW D A H0 (Ps.set j (pX4 cy o q σ')) H1 locs1 → W p l e R s m args below meth c H1 locs1 cells slots Q (F0 m (pc + 1) ls rest)) : W p l e R s m args below meth c H locs cells slots Q (F0 m pc ls (.int x :: .int ix :: .ref (q 0) :: rest)) := by
  obtain ⟨h1, rfl⟩ := stA_inv he
  exact w_iast S hw j 1 hj rfl h1 hdg kk
set_option maxRecDepth 100000 in
theorem al_X4_1 {o : Nat} {q : Nat → Nat} {σ : pStt} {ix : Int32} {x : Int32} (S : CX p m c cc nL s args own D cy) (hw : PW D A H0 Ps H locs) (j : Nat) (hj : Ps[j]? = some (pX4 cy o q σ)) (hl : ld (σ.2 1) 12 ix = some x) (hdg : decode cc pc = .ok (.iaload, 1)) (kk : W p l e R s m args below meth c H locs cells slots Q (F0 m (pc + 1) ls (.int x :: rest))) : W p l e R s m args below meth c H locs cells slots Q (F0 m pc ls (.int ix :: .ref (q 1) :: rest)) :=
  w_iald S hw j 2 hj rfl hl hdg kk
set_option maxRecDepth 100000 in
theorem as_X4_1 {o : Nat} {q : Nat → Nat} {σ : pStt} {σ' : pStt} {ix x : Int32} (S : CX p m c cc nL s args own D cy) (hw : PW D A H0 Ps H locs) (j : Nat) (hj : Ps[j]? = some (pX4 cy o q σ)) (he : stA σ 1 12 ix x = some σ') (hdg : decode cc pc = .ok (.iastore, 1)) (kk : ∀ (H1 : Heap) (locs1 : List Loc), PW D A H0 (Ps.set j (pX4 cy o q σ')) H1 locs1 → W p l e R s m args below meth c H1 locs1 cells slots Q (F0 m (pc + 1) ls rest)) : W p l e R s m args below meth c H locs cells slots Q (F0 m pc ls (.int x :: .int ix :: .ref (q 1) :: rest)) := by
  obtain ⟨h1, rfl⟩ := stA_inv he
  exact w_iast S hw j 2 hj rfl h1 hdg kk
set_option maxRecDepth 100000 in
theorem al_X5_0 {o : Nat} {q : Nat → Nat} {σ : pStt} {ix : Int32} {x : Int32} (S : CX p m c cc nL s args own D cy) (hw : PW D A H0 Ps H locs) (j : Nat) (hj : Ps[j]? = some (pX5 cy o q σ)) (hl : ld (σ.2 0) 8 ix = some x) (hdg : decode cc pc = .ok (.iaload, 1)) (kk : W p l e R s m args below meth c H locs cells slots Q (F0 m (pc + 1) ls (.int x :: rest))) : W p l e R s m args below meth c H locs cells slots Q (F0 m pc ls (.int ix :: .ref (q 0) :: rest)) :=
  w_iald S hw j 1 hj rfl hl hdg kk
set_option maxRecDepth 100000 in
theorem as_X5_0 {o : Nat} {q : Nat → Nat} {σ : pStt} {σ' : pStt} {ix x : Int32} (S : CX p m c cc nL s args own D cy) (hw : PW D A H0 Ps H locs) (j : Nat) (hj : Ps[j]? = some (pX5 cy o q σ)) (he : stA σ 0 8 ix x = some σ') (hdg : decode cc pc = .ok (.iastore, 1)) (kk : ∀ (H1 : Heap) (locs1 : List Loc), PW D A H0 (Ps.set j (pX5 cy o q σ')) H1 locs1 → W p l e R s m args below meth c H1 locs1 cells slots Q (F0 m (pc + 1) ls rest)) : W p l e R s m args below meth c H locs cells slots Q (F0 m pc ls (.int x :: .int ix :: .ref (q 0) :: rest)) := by
  obtain ⟨h1, rfl⟩ := stA_inv he
  exact w_iast S hw j 1 hj rfl h1 hdg kk
set_option maxRecDepth 100000 in
theorem al_X0_0 {o : Nat} {q : Nat → Nat} {σ : Nat → Int64} {ix : Int32} {x : Int64} (S : CX p m c cc nL s args own D cy) (hw : PW D A H0 Ps H locs) (j : Nat) (hj : Ps[j]? = some (pX0 cy o q σ)) (hl : ldL σ 6 ix = some x) (hdg : decode cc pc = .ok (.laload, 1)) (kk : W p l e R s m args below meth c H locs cells slots Q (F0 m (pc + 1) ls (.long x :: rest))) : W p l e R s m args below meth c H locs cells slots Q (F0 m pc ls (.int ix :: .ref (q 0) :: rest)) :=
  w_lald S hw j 1 hj rfl hl hdg kk
set_option maxRecDepth 100000 in
theorem as_X0_0 {o : Nat} {q : Nat → Nat} {σ : Nat → Int64} {σ' : Nat → Int64} {ix : Int32} {x : Int64} (S : CX p m c cc nL s args own D cy) (hw : PW D A H0 Ps H locs) (j : Nat) (hj : Ps[j]? = some (pX0 cy o q σ)) (he : stL σ 6 ix x = some σ') (hdg : decode cc pc = .ok (.lastore, 1)) (kk : ∀ (H1 : Heap) (locs1 : List Loc), PW D A H0 (Ps.set j (pX0 cy o q σ')) H1 locs1 → W p l e R s m args below meth c H1 locs1 cells slots Q (F0 m (pc + 1) ls rest)) : W p l e R s m args below meth c H locs cells slots Q (F0 m pc ls (.long x :: .int ix :: .ref (q 0) :: rest)) := by
  obtain ⟨h1, rfl⟩ := stL_inv he
  exact w_last S hw j 1 hj rfl h1 hdg kk
set_option maxRecDepth 100000 in
theorem al_X9_0 {o : Nat} {q : Nat → Nat} {σ : pStt} {ix : Int32} {x : Int32} (S : CX p m c cc nL s args own D cy) (hw : PW D A H0 Ps H locs) (j : Nat) (hj : Ps[j]? = some (pX9 cy o q σ)) (hl : ld (σ.2 0) 8 ix = some x) (hdg : decode cc pc = .ok (.iaload, 1)) (kk : W p l e R s m args below meth c H locs cells slots Q (F0 m (pc + 1) ls (.int x :: rest))) : W p l e R s m args below meth c H locs cells slots Q (F0 m pc ls (.int ix :: .ref (q 0) :: rest)) :=
  w_iald S hw j 1 hj rfl hl hdg kk
set_option maxRecDepth 100000 in
theorem as_X9_0 {o : Nat} {q : Nat → Nat} {σ : pStt} {σ' : pStt} {ix x : Int32} (S : CX p m c cc nL s args own D cy) (hw : PW D A H0 Ps H locs) (j : Nat) (hj : Ps[j]? = some (pX9 cy o q σ)) (he : stA σ 0 8 ix x = some σ') (hdg : decode cc pc = .ok (.iastore, 1)) (kk : ∀ (H1 : Heap) (locs1 : List Loc), PW D A H0 (Ps.set j (pX9 cy o q σ')) H1 locs1 → W p l e R s m args below meth c H1 locs1 cells slots Q (F0 m (pc + 1) ls rest)) : W p l e R s m args below meth c H locs cells slots Q (F0 m pc ls (.int x :: .int ix :: .ref (q 0) :: rest)) := by
  obtain ⟨h1, rfl⟩ := stA_inv he
  exact w_iast S hw j 1 hj rfl h1 hdg kk
set_option maxRecDepth 100000 in
theorem al_X9_1 {o : Nat} {q : Nat → Nat} {σ : pStt} {ix : Int32} {x : Int32} (S : CX p m c cc nL s args own D cy) (hw : PW D A H0 Ps H locs) (j : Nat) (hj : Ps[j]? = some (pX9 cy o q σ)) (hl : ld (σ.2 1) 8 ix = some x) (hdg : decode cc pc = .ok (.iaload, 1)) (kk : W p l e R s m args below meth c H locs cells slots Q (F0 m (pc + 1) ls (.int x :: rest))) : W p l e R s m args below meth c H locs cells slots Q (F0 m pc ls (.int ix :: .ref (q 1) :: rest)) :=
  w_iald S hw j 2 hj rfl hl hdg kk
set_option maxRecDepth 100000 in
theorem as_X9_1 {o : Nat} {q : Nat → Nat} {σ : pStt} {σ' : pStt} {ix x : Int32} (S : CX p m c cc nL s args own D cy) (hw : PW D A H0 Ps H locs) (j : Nat) (hj : Ps[j]? = some (pX9 cy o q σ)) (he : stA σ 1 8 ix x = some σ') (hdg : decode cc pc = .ok (.iastore, 1)) (kk : ∀ (H1 : Heap) (locs1 : List Loc), PW D A H0 (Ps.set j (pX9 cy o q σ')) H1 locs1 → W p l e R s m args below meth c H1 locs1 cells slots Q (F0 m (pc + 1) ls rest)) : W p l e R s m args below meth c H locs cells slots Q (F0 m pc ls (.int x :: .int ix :: .ref (q 1) :: rest)) := by
  obtain ⟨h1, rfl⟩ := stA_inv he
  exact w_iast S hw j 2 hj rfl h1 hdg kk
set_option maxRecDepth 100000 in
theorem al_X9_2 {o : Nat} {q : Nat → Nat} {σ : pStt} {ix : Int32} {x : Int32} (S : CX p m c cc nL s args own D cy) (hw : PW D A H0 Ps H locs) (j : Nat) (hj : Ps[j]? = some (pX9 cy o q σ)) (hl : ld (σ.2 2) 6 ix = some x) (hdg : decode cc pc = .ok (.iaload, 1)) (kk : W p l e R s m args below meth c H locs cells slots Q (F0 m (pc + 1) ls (.int x :: rest))) : W p l e R s m args below meth c H locs cells slots Q (F0 m pc ls (.int ix :: .ref (q 2) :: rest)) :=
  w_iald S hw j 3 hj rfl hl hdg kk
set_option maxRecDepth 100000 in
theorem as_X9_2 {o : Nat} {q : Nat → Nat} {σ : pStt} {σ' : pStt} {ix x : Int32} (S : CX p m c cc nL s args own D cy) (hw : PW D A H0 Ps H locs) (j : Nat) (hj : Ps[j]? = some (pX9 cy o q σ)) (he : stA σ 2 6 ix x = some σ') (hdg : decode cc pc = .ok (.iastore, 1)) (kk : ∀ (H1 : Heap) (locs1 : List Loc), PW D A H0 (Ps.set j (pX9 cy o q σ')) H1 locs1 → W p l e R s m args below meth c H1 locs1 cells slots Q (F0 m (pc + 1) ls rest)) : W p l e R s m args below meth c H locs cells slots Q (F0 m pc ls (.int x :: .int ix :: .ref (q 2) :: rest)) := by
  obtain ⟨h1, rfl⟩ := stA_inv he
  exact w_iast S hw j 3 hj rfl h1 hdg kk
set_option maxRecDepth 100000 in
theorem al_X9_3 {o : Nat} {q : Nat → Nat} {σ : pStt} {ix : Int32} {x : Int32} (S : CX p m c cc nL s args own D cy) (hw : PW D A H0 Ps H locs) (j : Nat) (hj : Ps[j]? = some (pX9 cy o q σ)) (hl : ld (σ.2 3) 6 ix = some x) (hdg : decode cc pc = .ok (.iaload, 1)) (kk : W p l e R s m args below meth c H locs cells slots Q (F0 m (pc + 1) ls (.int x :: rest))) : W p l e R s m args below meth c H locs cells slots Q (F0 m pc ls (.int ix :: .ref (q 3) :: rest)) :=
  w_iald S hw j 4 hj rfl hl hdg kk
set_option maxRecDepth 100000 in
theorem as_X9_3 {o : Nat} {q : Nat → Nat} {σ : pStt} {σ' : pStt} {ix x : Int32} (S : CX p m c cc nL s args own D cy) (hw : PW D A H0 Ps H locs) (j : Nat) (hj : Ps[j]? = some (pX9 cy o q σ)) (he : stA σ 3 6 ix x = some σ') (hdg : decode cc pc = .ok (.iastore, 1)) (kk : ∀ (H1 : Heap) (locs1 : List Loc), PW D A H0 (Ps.set j (pX9 cy o q σ')) H1 locs1 → W p l e R s m args below meth c H1 locs1 cells slots Q (F0 m (pc + 1) ls rest)) : W p l e R s m args below meth c H locs cells slots Q (F0 m pc ls (.int x :: .int ix :: .ref (q 3) :: rest)) := by
  obtain ⟨h1, rfl⟩ := stA_inv he
  exact w_iast S hw j 4 hj rfl h1 hdg kk
set_option maxRecDepth 100000 in
theorem al_X9_4 {o : Nat} {q : Nat → Nat} {σ : pStt} {ix : Int32} {x : Int32} (S : CX p m c cc nL s args own D cy) (hw : PW D A H0 Ps H locs) (j : Nat) (hj : Ps[j]? = some (pX9 cy o q σ)) (hl : ld (σ.2 4) 6 ix = some x) (hdg : decode cc pc = .ok (.iaload, 1)) (kk : W p l e R s m args below meth c H locs cells slots Q (F0 m (pc + 1) ls (.int x :: rest))) : W p l e R s m args below meth c H locs cells slots Q (F0 m pc ls (.int ix :: .ref (q 4) :: rest)) :=
  w_iald S hw j 5 hj rfl hl hdg kk
set_option maxRecDepth 100000 in
theorem as_X9_4 {o : Nat} {q : Nat → Nat} {σ : pStt} {σ' : pStt} {ix x : Int32} (S : CX p m c cc nL s args own D cy) (hw : PW D A H0 Ps H locs) (j : Nat) (hj : Ps[j]? = some (pX9 cy o q σ)) (he : stA σ 4 6 ix x = some σ') (hdg : decode cc pc = .ok (.iastore, 1)) (kk : ∀ (H1 : Heap) (locs1 : List Loc), PW D A H0 (Ps.set j (pX9 cy o q σ')) H1 locs1 → W p l e R s m args below meth c H1 locs1 cells slots Q (F0 m (pc + 1) ls rest)) : W p l e R s m args below meth c H locs cells slots Q (F0 m pc ls (.int x :: .int ix :: .ref (q 4) :: rest)) := by
  obtain ⟨h1, rfl⟩ := stA_inv he
  exact w_iast S hw j 5 hj rfl h1 hdg kk
set_option maxRecDepth 100000 in
theorem al_X9_5 {o : Nat} {q : Nat → Nat} {σ : pStt} {ix : Int32} {x : Int32} (S : CX p m c cc nL s args own D cy) (hw : PW D A H0 Ps H locs) (j : Nat) (hj : Ps[j]? = some (pX9 cy o q σ)) (hl : ld (σ.2 5) 12 ix = some x) (hdg : decode cc pc = .ok (.iaload, 1)) (kk : W p l e R s m args below meth c H locs cells slots Q (F0 m (pc + 1) ls (.int x :: rest))) : W p l e R s m args below meth c H locs cells slots Q (F0 m pc ls (.int ix :: .ref (q 5) :: rest)) :=
  w_iald S hw j 6 hj rfl hl hdg kk
set_option maxRecDepth 100000 in
theorem as_X9_5 {o : Nat} {q : Nat → Nat} {σ : pStt} {σ' : pStt} {ix x : Int32} (S : CX p m c cc nL s args own D cy) (hw : PW D A H0 Ps H locs) (j : Nat) (hj : Ps[j]? = some (pX9 cy o q σ)) (he : stA σ 5 12 ix x = some σ') (hdg : decode cc pc = .ok (.iastore, 1)) (kk : ∀ (H1 : Heap) (locs1 : List Loc), PW D A H0 (Ps.set j (pX9 cy o q σ')) H1 locs1 → W p l e R s m args below meth c H1 locs1 cells slots Q (F0 m (pc + 1) ls rest)) : W p l e R s m args below meth c H locs cells slots Q (F0 m pc ls (.int x :: .int ix :: .ref (q 5) :: rest)) := by
  obtain ⟨h1, rfl⟩ := stA_inv he
  exact w_iast S hw j 6 hj rfl h1 hdg kk
set_option maxRecDepth 100000 in
theorem al_X9_6 {o : Nat} {q : Nat → Nat} {σ : pStt} {ix : Int32} {x : Int32} (S : CX p m c cc nL s args own D cy) (hw : PW D A H0 Ps H locs) (j : Nat) (hj : Ps[j]? = some (pX9 cy o q σ)) (hl : ld (σ.2 6) 12 ix = some x) (hdg : decode cc pc = .ok (.iaload, 1)) (kk : W p l e R s m args below meth c H locs cells slots Q (F0 m (pc + 1) ls (.int x :: rest))) : W p l e R s m args below meth c H locs cells slots Q (F0 m pc ls (.int ix :: .ref (q 6) :: rest)) :=
  w_iald S hw j 7 hj rfl hl hdg kk
set_option maxRecDepth 100000 in
theorem as_X9_6 {o : Nat} {q : Nat → Nat} {σ : pStt} {σ' : pStt} {ix x : Int32} (S : CX p m c cc nL s args own D cy) (hw : PW D A H0 Ps H locs) (j : Nat) (hj : Ps[j]? = some (pX9 cy o q σ)) (he : stA σ 6 12 ix x = some σ') (hdg : decode cc pc = .ok (.iastore, 1)) (kk : ∀ (H1 : Heap) (locs1 : List Loc), PW D A H0 (Ps.set j (pX9 cy o q σ')) H1 locs1 → W p l e R s m args below meth c H1 locs1 cells slots Q (F0 m (pc + 1) ls rest)) : W p l e R s m args below meth c H locs cells slots Q (F0 m pc ls (.int x :: .int ix :: .ref (q 6) :: rest)) := by
  obtain ⟨h1, rfl⟩ := stA_inv he
  exact w_iast S hw j 7 hj rfl h1 hdg kk
set_option maxRecDepth 100000 in
theorem al_X9_7 {o : Nat} {q : Nat → Nat} {σ : pStt} {ix : Int32} {x : Int32} (S : CX p m c cc nL s args own D cy) (hw : PW D A H0 Ps H locs) (j : Nat) (hj : Ps[j]? = some (pX9 cy o q σ)) (hl : ld (σ.2 7) 12 ix = some x) (hdg : decode cc pc = .ok (.iaload, 1)) (kk : W p l e R s m args below meth c H locs cells slots Q (F0 m (pc + 1) ls (.int x :: rest))) : W p l e R s m args below meth c H locs cells slots Q (F0 m pc ls (.int ix :: .ref (q 7) :: rest)) :=
  w_iald S hw j 8 hj rfl hl hdg kk
set_option maxRecDepth 100000 in
theorem as_X9_7 {o : Nat} {q : Nat → Nat} {σ : pStt} {σ' : pStt} {ix x : Int32} (S : CX p m c cc nL s args own D cy) (hw : PW D A H0 Ps H locs) (j : Nat) (hj : Ps[j]? = some (pX9 cy o q σ)) (he : stA σ 7 12 ix x = some σ') (hdg : decode cc pc = .ok (.iastore, 1)) (kk : ∀ (H1 : Heap) (locs1 : List Loc), PW D A H0 (Ps.set j (pX9 cy o q σ')) H1 locs1 → W p l e R s m args below meth c H1 locs1 cells slots Q (F0 m (pc + 1) ls rest)) : W p l e R s m args below meth c H locs cells slots Q (F0 m pc ls (.int x :: .int ix :: .ref (q 7) :: rest)) := by
  obtain ⟨h1, rfl⟩ := stA_inv he
  exact w_iast S hw j 8 hj rfl h1 hdg kk
set_option maxRecDepth 100000 in
theorem al_X9_8 {o : Nat} {q : Nat → Nat} {σ : pStt} {ix : Int32} {x : Int32} (S : CX p m c cc nL s args own D cy) (hw : PW D A H0 Ps H locs) (j : Nat) (hj : Ps[j]? = some (pX9 cy o q σ)) (hl : ld (σ.2 8) 8 ix = some x) (hdg : decode cc pc = .ok (.iaload, 1)) (kk : W p l e R s m args below meth c H locs cells slots Q (F0 m (pc + 1) ls (.int x :: rest))) : W p l e R s m args below meth c H locs cells slots Q (F0 m pc ls (.int ix :: .ref (q 8) :: rest)) :=
  w_iald S hw j 9 hj rfl hl hdg kk
set_option maxRecDepth 100000 in
theorem as_X9_8 {o : Nat} {q : Nat → Nat} {σ : pStt} {σ' : pStt} {ix x : Int32} (S : CX p m c cc nL s args own D cy) (hw : PW D A H0 Ps H locs) (j : Nat) (hj : Ps[j]? = some (pX9 cy o q σ)) (he : stA σ 8 8 ix x = some σ') (hdg : decode cc pc = .ok (.iastore, 1)) (kk : ∀ (H1 : Heap) (locs1 : List Loc), PW D A H0 (Ps.set j (pX9 cy o q σ')) H1 locs1 → W p l e R s m args below meth c H1 locs1 cells slots Q (F0 m (pc + 1) ls rest)) : W p l e R s m args below meth c H locs cells slots Q (F0 m pc ls (.int x :: .int ix :: .ref (q 8) :: rest)) := by
  obtain ⟨h1, rfl⟩ := stA_inv he
  exact w_iast S hw j 9 hj rfl h1 hdg kk
set_option maxRecDepth 100000 in
theorem al_X9_9 {o : Nat} {q : Nat → Nat} {σ : pStt} {ix : Int32} {x : Int32} (S : CX p m c cc nL s args own D cy) (hw : PW D A H0 Ps H locs) (j : Nat) (hj : Ps[j]? = some (pX9 cy o q σ)) (hl : ld (σ.2 9) 8 ix = some x) (hdg : decode cc pc = .ok (.iaload, 1)) (kk : W p l e R s m args below meth c H locs cells slots Q (F0 m (pc + 1) ls (.int x :: rest))) : W p l e R s m args below meth c H locs cells slots Q (F0 m pc ls (.int ix :: .ref (q 9) :: rest)) :=
  w_iald S hw j 10 hj rfl hl hdg kk
set_option maxRecDepth 100000 in
theorem as_X9_9 {o : Nat} {q : Nat → Nat} {σ : pStt} {σ' : pStt} {ix x : Int32} (S : CX p m c cc nL s args own D cy) (hw : PW D A H0 Ps H locs) (j : Nat) (hj : Ps[j]? = some (pX9 cy o q σ)) (he : stA σ 9 8 ix x = some σ') (hdg : decode cc pc = .ok (.iastore, 1)) (kk : ∀ (H1 : Heap) (locs1 : List Loc), PW D A H0 (Ps.set j (pX9 cy o q σ')) H1 locs1 → W p l e R s m args below meth c H1 locs1 cells slots Q (F0 m (pc + 1) ls rest)) : W p l e R s m args below meth c H locs cells slots Q (F0 m pc ls (.int x :: .int ix :: .ref (q 9) :: rest)) := by
  obtain ⟨h1, rfl⟩ := stA_inv he
  exact w_iast S hw j 10 hj rfl h1 hdg kk
set_option maxRecDepth 100000 in
theorem al_X9_10 {o : Nat} {q : Nat → Nat} {σ : pStt} {ix : Int32} {x : Int32} (S : CX p m c cc nL s args own D cy) (hw : PW D A H0 Ps H locs) (j : Nat) (hj : Ps[j]? = some (pX9 cy o q σ)) (hl : ld (σ.2 10) 8 ix = some x) (hdg : decode cc pc = .ok (.iaload, 1)) (kk : W p l e R s m args below meth c H locs cells slots Q (F0 m (pc + 1) ls (.int x :: rest))) : W p l e R s m args below meth c H locs cells slots Q (F0 m pc ls (.int ix :: .ref (q 10) :: rest)) :=
  w_iald S hw j 11 hj rfl hl hdg kk
set_option maxRecDepth 100000 in
theorem as_X9_10 {o : Nat} {q : Nat → Nat} {σ : pStt} {σ' : pStt} {ix x : Int32} (S : CX p m c cc nL s args own D cy) (hw : PW D A H0 Ps H locs) (j : Nat) (hj : Ps[j]? = some (pX9 cy o q σ)) (he : stA σ 10 8 ix x = some σ') (hdg : decode cc pc = .ok (.iastore, 1)) (kk : ∀ (H1 : Heap) (locs1 : List Loc), PW D A H0 (Ps.set j (pX9 cy o q σ')) H1 locs1 → W p l e R s m args below meth c H1 locs1 cells slots Q (F0 m (pc + 1) ls rest)) : W p l e R s m args below meth c H locs cells slots Q (F0 m pc ls (.int x :: .int ix :: .ref (q 10) :: rest)) := by
  obtain ⟨h1, rfl⟩ := stA_inv he
  exact w_iast S hw j 11 hj rfl h1 hdg kk
set_option maxRecDepth 100000 in
theorem al_X9_11 {o : Nat} {q : Nat → Nat} {σ : pStt} {ix : Int32} {x : Int32} (S : CX p m c cc nL s args own D cy) (hw : PW D A H0 Ps H locs) (j : Nat) (hj : Ps[j]? = some (pX9 cy o q σ)) (hl : ld (σ.2 11) 8 ix = some x) (hdg : decode cc pc = .ok (.iaload, 1)) (kk : W p l e R s m args below meth c H locs cells slots Q (F0 m (pc + 1) ls (.int x :: rest))) : W p l e R s m args below meth c H locs cells slots Q (F0 m pc ls (.int ix :: .ref (q 11) :: rest)) :=
  w_iald S hw j 12 hj rfl hl hdg kk
set_option maxRecDepth 100000 in
theorem as_X9_11 {o : Nat} {q : Nat → Nat} {σ : pStt} {σ' : pStt} {ix x : Int32} (S : CX p m c cc nL s args own D cy) (hw : PW D A H0 Ps H locs) (j : Nat) (hj : Ps[j]? = some (pX9 cy o q σ)) (he : stA σ 11 8 ix x = some σ') (hdg : decode cc pc = .ok (.iastore, 1)) (kk : ∀ (H1 : Heap) (locs1 : List Loc), PW D A H0 (Ps.set j (pX9 cy o q σ')) H1 locs1 → W p l e R s m args below meth c H1 locs1 cells slots Q (F0 m (pc + 1) ls rest)) : W p l e R s m args below meth c H locs cells slots Q (F0 m pc ls (.int x :: .int ix :: .ref (q 11) :: rest)) := by
  obtain ⟨h1, rfl⟩ := stA_inv he
  exact w_iast S hw j 12 hj rfl h1 hdg kk
set_option maxRecDepth 100000 in
theorem al_X9_12 {o : Nat} {q : Nat → Nat} {σ : pStt} {ix : Int32} {x : Int32} (S : CX p m c cc nL s args own D cy) (hw : PW D A H0 Ps H locs) (j : Nat) (hj : Ps[j]? = some (pX9 cy o q σ)) (hl : ld (σ.2 12) 60 ix = some x) (hdg : decode cc pc = .ok (.iaload, 1)) (kk : W p l e R s m args below meth c H locs cells slots Q (F0 m (pc + 1) ls (.int x :: rest))) : W p l e R s m args below meth c H locs cells slots Q (F0 m pc ls (.int ix :: .ref (q 12) :: rest)) :=
  w_iald S hw j 13 hj rfl hl hdg kk
set_option maxRecDepth 100000 in
theorem as_X9_12 {o : Nat} {q : Nat → Nat} {σ : pStt} {σ' : pStt} {ix x : Int32} (S : CX p m c cc nL s args own D cy) (hw : PW D A H0 Ps H locs) (j : Nat) (hj : Ps[j]? = some (pX9 cy o q σ)) (he : stA σ 12 60 ix x = some σ') (hdg : decode cc pc = .ok (.iastore, 1)) (kk : ∀ (H1 : Heap) (locs1 : List Loc), PW D A H0 (Ps.set j (pX9 cy o q σ')) H1 locs1 → W p l e R s m args below meth c H1 locs1 cells slots Q (F0 m (pc + 1) ls rest)) : W p l e R s m args below meth c H locs cells slots Q (F0 m pc ls (.int x :: .int ix :: .ref (q 12) :: rest)) := by
  obtain ⟨h1, rfl⟩ := stA_inv he
  exact w_iast S hw j 13 hj rfl h1 hdg kk
set_option maxRecDepth 100000 in
theorem al_X9_13 {o : Nat} {q : Nat → Nat} {σ : pStt} {ix : Int32} {x : Int32} (S : CX p m c cc nL s args own D cy) (hw : PW D A H0 Ps H locs) (j : Nat) (hj : Ps[j]? = some (pX9 cy o q σ)) (hl : ld (σ.2 13) 60 ix = some x) (hdg : decode cc pc = .ok (.iaload, 1)) (kk : W p l e R s m args below meth c H locs cells slots Q (F0 m (pc + 1) ls (.int x :: rest))) : W p l e R s m args below meth c H locs cells slots Q (F0 m pc ls (.int ix :: .ref (q 13) :: rest)) :=
  w_iald S hw j 14 hj rfl hl hdg kk
set_option maxRecDepth 100000 in
theorem as_X9_13 {o : Nat} {q : Nat → Nat} {σ : pStt} {σ' : pStt} {ix x : Int32} (S : CX p m c cc nL s args own D cy) (hw : PW D A H0 Ps H locs) (j : Nat) (hj : Ps[j]? = some (pX9 cy o q σ)) (he : stA σ 13 60 ix x = some σ') (hdg : decode cc pc = .ok (.iastore, 1)) (kk : ∀ (H1 : Heap) (locs1 : List Loc), PW D A H0 (Ps.set j (pX9 cy o q σ')) H1 locs1 → W p l e R s m args below meth c H1 locs1 cells slots Q (F0 m (pc + 1) ls rest)) : W p l e R s m args below meth c H locs cells slots Q (F0 m pc ls (.int x :: .int ix :: .ref (q 13) :: rest)) := by
  obtain ⟨h1, rfl⟩ := stA_inv he
  exact w_iast S hw j 14 hj rfl h1 hdg kk
set_option maxRecDepth 100000 in
theorem al_X9_14 {o : Nat} {q : Nat → Nat} {σ : pStt} {ix : Int32} {x : Int32} (S : CX p m c cc nL s args own D cy) (hw : PW D A H0 Ps H locs) (j : Nat) (hj : Ps[j]? = some (pX9 cy o q σ)) (hl : ld (σ.2 14) 60 ix = some x) (hdg : decode cc pc = .ok (.iaload, 1)) (kk : W p l e R s m args below meth c H locs cells slots Q (F0 m (pc + 1) ls (.int x :: rest))) : W p l e R s m args below meth c H locs cells slots Q (F0 m pc ls (.int ix :: .ref (q 14) :: rest)) :=
  w_iald S hw j 15 hj rfl hl hdg kk
set_option maxRecDepth 100000 in
theorem as_X9_14 {o : Nat} {q : Nat → Nat} {σ : pStt} {σ' : pStt} {ix x : Int32} (S : CX p m c cc nL s args own D cy) (hw : PW D A H0 Ps H locs) (j : Nat) (hj : Ps[j]? = some (pX9 cy o q σ)) (he : stA σ 14 60 ix x = some σ') (hdg : decode cc pc = .ok (.iastore, 1)) (kk : ∀ (H1 : Heap) (locs1 : List Loc), PW D A H0 (Ps.set j (pX9 cy o q σ')) H1 locs1 → W p l e R s m args below meth c H1 locs1 cells slots Q (F0 m (pc + 1) ls rest)) : W p l e R s m args below meth c H locs cells slots Q (F0 m pc ls (.int x :: .int ix :: .ref (q 14) :: rest)) := by
  obtain ⟨h1, rfl⟩ := stA_inv he
  exact w_iast S hw j 15 hj rfl h1 hdg kk
set_option maxRecDepth 100000 in
theorem al_X9_15 {o : Nat} {q : Nat → Nat} {σ : pStt} {ix : Int32} {x : Int32} (S : CX p m c cc nL s args own D cy) (hw : PW D A H0 Ps H locs) (j : Nat) (hj : Ps[j]? = some (pX9 cy o q σ)) (hl : ld (σ.2 15) 60 ix = some x) (hdg : decode cc pc = .ok (.iaload, 1)) (kk : W p l e R s m args below meth c H locs cells slots Q (F0 m (pc + 1) ls (.int x :: rest))) : W p l e R s m args below meth c H locs cells slots Q (F0 m pc ls (.int ix :: .ref (q 15) :: rest)) :=
  w_iald S hw j 16 hj rfl hl hdg kk
set_option maxRecDepth 100000 in
theorem as_X9_15 {o : Nat} {q : Nat → Nat} {σ : pStt} {σ' : pStt} {ix x : Int32} (S : CX p m c cc nL s args own D cy) (hw : PW D A H0 Ps H locs) (j : Nat) (hj : Ps[j]? = some (pX9 cy o q σ)) (he : stA σ 15 60 ix x = some σ') (hdg : decode cc pc = .ok (.iastore, 1)) (kk : ∀ (H1 : Heap) (locs1 : List Loc), PW D A H0 (Ps.set j (pX9 cy o q σ')) H1 locs1 → W p l e R s m args below meth c H1 locs1 cells slots Q (F0 m (pc + 1) ls rest)) : W p l e R s m args below meth c H locs cells slots Q (F0 m pc ls (.int x :: .int ix :: .ref (q 15) :: rest)) := by
  obtain ⟨h1, rfl⟩ := stA_inv he
  exact w_iast S hw j 16 hj rfl h1 hdg kk
set_option maxRecDepth 100000 in
theorem al_X9_16 {o : Nat} {q : Nat → Nat} {σ : pStt} {ix : Int32} {x : Int32} (S : CX p m c cc nL s args own D cy) (hw : PW D A H0 Ps H locs) (j : Nat) (hj : Ps[j]? = some (pX9 cy o q σ)) (hl : ld (σ.2 16) 36 ix = some x) (hdg : decode cc pc = .ok (.iaload, 1)) (kk : W p l e R s m args below meth c H locs cells slots Q (F0 m (pc + 1) ls (.int x :: rest))) : W p l e R s m args below meth c H locs cells slots Q (F0 m pc ls (.int ix :: .ref (q 16) :: rest)) :=
  w_iald S hw j 17 hj rfl hl hdg kk
set_option maxRecDepth 100000 in
theorem as_X9_16 {o : Nat} {q : Nat → Nat} {σ : pStt} {σ' : pStt} {ix x : Int32} (S : CX p m c cc nL s args own D cy) (hw : PW D A H0 Ps H locs) (j : Nat) (hj : Ps[j]? = some (pX9 cy o q σ)) (he : stA σ 16 36 ix x = some σ') (hdg : decode cc pc = .ok (.iastore, 1)) (kk : ∀ (H1 : Heap) (locs1 : List Loc), PW D A H0 (Ps.set j (pX9 cy o q σ')) H1 locs1 → W p l e R s m args below meth c H1 locs1 cells slots Q (F0 m (pc + 1) ls rest)) : W p l e R s m args below meth c H locs cells slots Q (F0 m pc ls (.int x :: .int ix :: .ref (q 16) :: rest)) := by
  obtain ⟨h1, rfl⟩ := stA_inv he
  exact w_iast S hw j 17 hj rfl h1 hdg kk
set_option maxRecDepth 100000 in
theorem al_X9_17 {o : Nat} {q : Nat → Nat} {σ : pStt} {ix : Int32} {x : Int32} (S : CX p m c cc nL s args own D cy) (hw : PW D A H0 Ps H locs) (j : Nat) (hj : Ps[j]? = some (pX9 cy o q σ)) (hl : ld (σ.2 17) 2048 ix = some x) (hdg : decode cc pc = .ok (.baload, 1)) (kk : W p l e R s m args below meth c H locs cells slots Q (F0 m (pc + 1) ls (.int x :: rest))) : W p l e R s m args below meth c H locs cells slots Q (F0 m pc ls (.int ix :: .ref (q 17) :: rest)) :=
  w_zald S hw j 18 hj rfl hl hdg kk
set_option maxRecDepth 100000 in
theorem as_X9_17 {o : Nat} {q : Nat → Nat} {σ : pStt} {σ' : pStt} {ix x : Int32} (S : CX p m c cc nL s args own D cy) (hw : PW D A H0 Ps H locs) (j : Nat) (hj : Ps[j]? = some (pX9 cy o q σ)) (he : stA σ 17 2048 ix (x &&& 1) = some σ') (hdg : decode cc pc = .ok (.bastore, 1)) (kk : ∀ (H1 : Heap) (locs1 : List Loc), PW D A H0 (Ps.set j (pX9 cy o q σ')) H1 locs1 → W p l e R s m args below meth c H1 locs1 cells slots Q (F0 m (pc + 1) ls rest)) : W p l e R s m args below meth c H locs cells slots Q (F0 m pc ls (.int x :: .int ix :: .ref (q 17) :: rest)) := by
  obtain ⟨h1, rfl⟩ := stA_inv he
  exact w_zast S hw j 18 hj rfl h1 hdg kk
set_option maxRecDepth 100000 in
theorem al_X9_18 {o : Nat} {q : Nat → Nat} {σ : pStt} {ix : Int32} {x : Int32} (S : CX p m c cc nL s args own D cy) (hw : PW D A H0 Ps H locs) (j : Nat) (hj : Ps[j]? = some (pX9 cy o q σ)) (hl : ld (σ.2 18) 5 ix = some x) (hdg : decode cc pc = .ok (.iaload, 1)) (kk : W p l e R s m args below meth c H locs cells slots Q (F0 m (pc + 1) ls (.int x :: rest))) : W p l e R s m args below meth c H locs cells slots Q (F0 m pc ls (.int ix :: .ref (q 18) :: rest)) :=
  w_iald S hw j 19 hj rfl hl hdg kk
set_option maxRecDepth 100000 in
theorem as_X9_18 {o : Nat} {q : Nat → Nat} {σ : pStt} {σ' : pStt} {ix x : Int32} (S : CX p m c cc nL s args own D cy) (hw : PW D A H0 Ps H locs) (j : Nat) (hj : Ps[j]? = some (pX9 cy o q σ)) (he : stA σ 18 5 ix x = some σ') (hdg : decode cc pc = .ok (.iastore, 1)) (kk : ∀ (H1 : Heap) (locs1 : List Loc), PW D A H0 (Ps.set j (pX9 cy o q σ')) H1 locs1 → W p l e R s m args below meth c H1 locs1 cells slots Q (F0 m (pc + 1) ls rest)) : W p l e R s m args below meth c H locs cells slots Q (F0 m pc ls (.int x :: .int ix :: .ref (q 18) :: rest)) := by
  obtain ⟨h1, rfl⟩ := stA_inv he
  exact w_iast S hw j 19 hj rfl h1 hdg kk
set_option maxRecDepth 100000 in
theorem al_X9_19 {o : Nat} {q : Nat → Nat} {σ : pStt} {ix : Int32} {x : Int32} (S : CX p m c cc nL s args own D cy) (hw : PW D A H0 Ps H locs) (j : Nat) (hj : Ps[j]? = some (pX9 cy o q σ)) (hl : ld (σ.2 19) 220 ix = some x) (hdg : decode cc pc = .ok (.iaload, 1)) (kk : W p l e R s m args below meth c H locs cells slots Q (F0 m (pc + 1) ls (.int x :: rest))) : W p l e R s m args below meth c H locs cells slots Q (F0 m pc ls (.int ix :: .ref (q 19) :: rest)) :=
  w_iald S hw j 20 hj rfl hl hdg kk
set_option maxRecDepth 100000 in
theorem as_X9_19 {o : Nat} {q : Nat → Nat} {σ : pStt} {σ' : pStt} {ix x : Int32} (S : CX p m c cc nL s args own D cy) (hw : PW D A H0 Ps H locs) (j : Nat) (hj : Ps[j]? = some (pX9 cy o q σ)) (he : stA σ 19 220 ix x = some σ') (hdg : decode cc pc = .ok (.iastore, 1)) (kk : ∀ (H1 : Heap) (locs1 : List Loc), PW D A H0 (Ps.set j (pX9 cy o q σ')) H1 locs1 → W p l e R s m args below meth c H1 locs1 cells slots Q (F0 m (pc + 1) ls rest)) : W p l e R s m args below meth c H locs cells slots Q (F0 m pc ls (.int x :: .int ix :: .ref (q 19) :: rest)) := by
  obtain ⟨h1, rfl⟩ := stA_inv he
  exact w_iast S hw j 20 hj rfl h1 hdg kk
set_option maxRecDepth 100000 in
theorem al_X9_20 {o : Nat} {q : Nat → Nat} {σ : pStt} {ix : Int32} {x : Int32} (S : CX p m c cc nL s args own D cy) (hw : PW D A H0 Ps H locs) (j : Nat) (hj : Ps[j]? = some (pX9 cy o q σ)) (hl : ld (σ.2 20) 2 ix = some x) (hdg : decode cc pc = .ok (.baload, 1)) (kk : W p l e R s m args below meth c H locs cells slots Q (F0 m (pc + 1) ls (.int x :: rest))) : W p l e R s m args below meth c H locs cells slots Q (F0 m pc ls (.int ix :: .ref (q 20) :: rest)) :=
  w_zald S hw j 21 hj rfl hl hdg kk
set_option maxRecDepth 100000 in
theorem as_X9_20 {o : Nat} {q : Nat → Nat} {σ : pStt} {σ' : pStt} {ix x : Int32} (S : CX p m c cc nL s args own D cy) (hw : PW D A H0 Ps H locs) (j : Nat) (hj : Ps[j]? = some (pX9 cy o q σ)) (he : stA σ 20 2 ix (x &&& 1) = some σ') (hdg : decode cc pc = .ok (.bastore, 1)) (kk : ∀ (H1 : Heap) (locs1 : List Loc), PW D A H0 (Ps.set j (pX9 cy o q σ')) H1 locs1 → W p l e R s m args below meth c H1 locs1 cells slots Q (F0 m (pc + 1) ls rest)) : W p l e R s m args below meth c H locs cells slots Q (F0 m pc ls (.int x :: .int ix :: .ref (q 20) :: rest)) := by
  obtain ⟨h1, rfl⟩ := stA_inv he
  exact w_zast S hw j 21 hj rfl h1 hdg kk
end
