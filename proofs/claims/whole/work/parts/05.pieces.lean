theorem ne_toInt {x y : Int32} {k : Int} (h : ¬ x = y) (hy : y.toInt = k) : ¬ x.toInt = k := fun e => h (Int32.toInt_inj.mp (e.trans hy.symm))
def sm {α β γ : Type} (f : α → γ) (g : β → γ) : α ⊕ β → γ
  | .inl a => f a
  | .inr b => g b
theorem sm_l {α β γ : Type} (f : α → γ) (g : β → γ) (a : α) : sm f g (.inl a) = f a := rfl
theorem sm_r {α β γ : Type} (f : α → γ) (g : β → γ) (b : β) : sm f g (.inr b) = g b := rfl
theorem w_tabD {p : Program} {l : Launch} {e : Env} {R : Room} {s : State} {m : MethodId} {args : Array Value} {below : List Frame} {meth : Method} {c : Code} {H : Heap} {locs : List Loc} {cells slots : Nat} {Q : State → Prop} {cc : ByteArray} {pc : Nat} {ls : Array Slot} {rest : List Value} (hexec : p.tables.exec = Jvm.exec) (hb : c.code = cc) {dflt lo hi : Int} {offs : Array Int} {len : Nat} {x : Int32} {tgt : Nat} (hdg : decode cc pc = .ok (.tableswitch dflt lo hi offs, len)) (h : (x.toInt < lo ∨ hi < x.toInt) ∨ (¬ x.toInt < lo ∧ ¬ hi < x.toInt ∧ offs[(x.toInt - lo).toNat]? = some dflt)) (ht : (pc : Int) + dflt = (tgt : Int))
    (k : W p l e R s m args below meth c H locs cells slots Q (F0 m tgt ls rest)) : W p l e R s m args below meth c H locs cells slots Q (F0 m pc ls (.int x :: rest)) := by
  rcases h with h | ⟨h1, h2, h3⟩
  · exact lv_tableOut hexec hb hdg h ht k
  · exact lv_tableIn hexec hb hdg h1 h2 h3 ht k
def pX0 (cy : Nat → ClassId) (o : Nat) (q : Nat → Nat) (σ : Nat → Int64) : va_W := [(o, .inr (0, [.ref (q 0)])), (q 0, .inl (cy 2, 6, .inr (.inl σ)))]
set_option maxRecDepth 100000 in
theorem inl_X0 : (wsX00.all (fun w => decide (w ∈ lw_tbl) && tb_ok w)) = true := by decide +kernel
theorem lay_X0 {D : va_G} {cy : Nat → ClassId} {s : State} {args : Array Value} (h : KX D cy s) : ∀ w ∈ u_ws RX0 TX0 1, w.before args s = true := fun w hw => by
  have h1 := List.all_eq_true.mp inl_X0 w hw
  simp only [Bool.and_eq_true, decide_eq_true_eq] at h1
  exact h.wd h1.1 h1.2
def pX1 (cy : Nat → ClassId) (o : Nat) (q : Nat → Nat) (σ : pStt) : va_W := [(o, .inr (1, [.ref (q 0), .ref (q 1), .ref (q 2), .ref (q 3), .int (σ.1 0), .int (σ.1 1), .int (σ.1 2)])), (q 0, .inl (cy 0, 8, .inl (σ.2 0))), (q 1, .inl (cy 0, 8, .inl (σ.2 1))), (q 2, .inl (cy 0, 6, .inl (σ.2 2))), (q 3, .inl (cy 0, 6, .inl (σ.2 3)))]
set_option maxRecDepth 100000 in
theorem inl_X1 : (wsX10.all (fun w => decide (w ∈ lw_tbl) && tb_ok w)) = true := by decide +kernel
theorem lay_X1 {D : va_G} {cy : Nat → ClassId} {s : State} {args : Array Value} (h : KX D cy s) : ∀ w ∈ u_ws RX1 TX1 7, w.before args s = true := fun w hw => by
  have h1 := List.all_eq_true.mp inl_X1 w hw
  simp only [Bool.and_eq_true, decide_eq_true_eq] at h1
  exact h.wd h1.1 h1.2
def pX2 (cy : Nat → ClassId) (o : Nat) (q : Nat → Nat) (σ : pStt) : va_W := [(o, .inr (2, [.ref (q 0)])), (q 0, .inl (cy 0, 256, .inl (σ.2 0)))]
set_option maxRecDepth 100000 in
theorem inl_X2 : (wsX20.all (fun w => decide (w ∈ lw_tbl) && tb_ok w)) = true := by decide +kernel
theorem lay_X2 {D : va_G} {cy : Nat → ClassId} {s : State} {args : Array Value} (h : KX D cy s) : ∀ w ∈ u_ws RX2 TX2 1, w.before args s = true := fun w hw => by
  have h1 := List.all_eq_true.mp inl_X2 w hw
  simp only [Bool.and_eq_true, decide_eq_true_eq] at h1
  exact h.wd h1.1 h1.2
def pX3 (cy : Nat → ClassId) (o : Nat) (q : Nat → Nat) (σ : pStt) : va_W := [(o, .inr (3, [.ref (q 0), .int (σ.1 0), .int (σ.1 1), .int (σ.1 2), .int (σ.1 3), .int (σ.1 4)])), (q 0, .inl (cy 0, 60, .inl (σ.2 0)))]
set_option maxRecDepth 100000 in
theorem inl_X3 : (wsX30.all (fun w => decide (w ∈ lw_tbl) && tb_ok w)) = true := by decide +kernel
theorem lay_X3 {D : va_G} {cy : Nat → ClassId} {s : State} {args : Array Value} (h : KX D cy s) : ∀ w ∈ u_ws RX3 TX3 6, w.before args s = true := fun w hw => by
  have h1 := List.all_eq_true.mp inl_X3 w hw
  simp only [Bool.and_eq_true, decide_eq_true_eq] at h1
  exact h.wd h1.1 h1.2
def pX4 (cy : Nat → ClassId) (o : Nat) (q : Nat → Nat) (σ : pStt) : va_W := [(o, .inr (4, [.ref (q 0), .ref (q 1), .int (σ.1 0)])), (q 0, .inl (cy 0, 12, .inl (σ.2 0))), (q 1, .inl (cy 0, 12, .inl (σ.2 1)))]
set_option maxRecDepth 100000 in
theorem inl_X4 : (wsX40.all (fun w => decide (w ∈ lw_tbl) && tb_ok w)) = true := by decide +kernel
theorem lay_X4 {D : va_G} {cy : Nat → ClassId} {s : State} {args : Array Value} (h : KX D cy s) : ∀ w ∈ u_ws RX4 TX4 3, w.before args s = true := fun w hw => by
  have h1 := List.all_eq_true.mp inl_X4 w hw
  simp only [Bool.and_eq_true, decide_eq_true_eq] at h1
  exact h.wd h1.1 h1.2
def pX5 (cy : Nat → ClassId) (o : Nat) (q : Nat → Nat) (σ : pStt) : va_W := [(o, .inr (5, [.ref (q 0), .int (σ.1 0)])), (q 0, .inl (cy 0, 8, .inl (σ.2 0)))]
set_option maxRecDepth 100000 in
theorem inl_X5 : (wsX50.all (fun w => decide (w ∈ lw_tbl) && tb_ok w)) = true := by decide +kernel
theorem lay_X5 {D : va_G} {cy : Nat → ClassId} {s : State} {args : Array Value} (h : KX D cy s) : ∀ w ∈ u_ws RX5 TX5 2, w.before args s = true := fun w hw => by
  have h1 := List.all_eq_true.mp inl_X5 w hw
  simp only [Bool.and_eq_true, decide_eq_true_eq] at h1
  exact h.wd h1.1 h1.2
def pX6 (o : Nat) (w : Nat → Nat) (σ : pStt) : va_W := [(o, .inr (6, [.ref (w 0), .int (σ.1 0), .int (σ.1 1), .int (σ.1 2), .int (σ.1 3), .int (σ.1 4)]))]
set_option maxRecDepth 100000 in
theorem inl_X6 : (wsX60.all (fun w => decide (w ∈ lw_tbl) && tb_ok w)) = true := by decide +kernel
theorem lay_X6 {D : va_G} {cy : Nat → ClassId} {s : State} {args : Array Value} (h : KX D cy s) : ∀ w ∈ u_ws RX6 TX6 6, w.before args s = true := fun w hw => by
  have h1 := List.all_eq_true.mp inl_X6 w hw
  simp only [Bool.and_eq_true, decide_eq_true_eq] at h1
  exact h.wd h1.1 h1.2
def pX7 (o : Nat) (w : Nat → Nat) : va_W := [(o, .inr (7, [.ref (w 0), .ref (w 1), .ref (w 2)]))]
set_option maxRecDepth 100000 in
theorem inl_X7 : (wsX70.all (fun w => decide (w ∈ lw_tbl) && tb_ok w)) = true := by decide +kernel
theorem lay_X7 {D : va_G} {cy : Nat → ClassId} {s : State} {args : Array Value} (h : KX D cy s) : ∀ w ∈ u_ws RX7 TX7 3, w.before args s = true := fun w hw => by
  have h1 := List.all_eq_true.mp inl_X7 w hw
  simp only [Bool.and_eq_true, decide_eq_true_eq] at h1
  exact h.wd h1.1 h1.2
def pX8 (o : Nat) (w : Nat → Nat) : va_W := [(o, .inr (8, [.ref (w 0), .ref (w 1), .ref (w 2), .ref (w 3), .ref (w 4), .ref (w 5)]))]
set_option maxRecDepth 100000 in
theorem inl_X8 : (wsX80.all (fun w => decide (w ∈ lw_tbl) && tb_ok w)) = true := by decide +kernel
theorem lay_X8 {D : va_G} {cy : Nat → ClassId} {s : State} {args : Array Value} (h : KX D cy s) : ∀ w ∈ u_ws RX8 TX8 6, w.before args s = true := fun w hw => by
  have h1 := List.all_eq_true.mp inl_X8 w hw
  simp only [Bool.and_eq_true, decide_eq_true_eq] at h1
  exact h.wd h1.1 h1.2
def pX9 (cy : Nat → ClassId) (o : Nat) (q : Nat → Nat) (σ : pStt) : va_W := [(o, .inr (9, [.ref (q 0), .ref (q 1), .ref (q 2), .ref (q 3), .ref (q 4), .int (σ.1 0), .int (σ.1 1), .ref (q 5), .ref (q 6), .ref (q 7), .int (σ.1 2), .ref (q 8), .ref (q 9), .ref (q 10), .ref (q 11), .int (σ.1 3), .ref (q 12), .int (σ.1 4), .ref (q 13), .ref (q 14), .ref (q 15), .int (σ.1 5), .int (σ.1 6), .int (σ.1 7), .ref (q 16), .int (σ.1 8), .int (σ.1 9), .int (σ.1 10), .int (σ.1 11), .int (σ.1 12), .int (σ.1 13), .ref (q 17), .ref (q 18), .ref (q 19), .ref (q 20), .int (σ.1 14), .int (σ.1 15)])), (q 0, .inl (cy 0, 8, .inl (σ.2 0))), (q 1, .inl (cy 0, 8, .inl (σ.2 1))), (q 2, .inl (cy 0, 6, .inl (σ.2 2))), (q 3, .inl (cy 0, 6, .inl (σ.2 3))), (q 4, .inl (cy 0, 6, .inl (σ.2 4))), (q 5, .inl (cy 0, 12, .inl (σ.2 5))), (q 6, .inl (cy 0, 12, .inl (σ.2 6))), (q 7, .inl (cy 0, 12, .inl (σ.2 7))), (q 8, .inl (cy 0, 8, .inl (σ.2 8))), (q 9, .inl (cy 0, 8, .inl (σ.2 9))), (q 10, .inl (cy 0, 8, .inl (σ.2 10))), (q 11, .inl (cy 0, 8, .inl (σ.2 11))), (q 12, .inl (cy 0, 60, .inl (σ.2 12))), (q 13, .inl (cy 0, 60, .inl (σ.2 13))), (q 14, .inl (cy 0, 60, .inl (σ.2 14))), (q 15, .inl (cy 0, 60, .inl (σ.2 15))), (q 16, .inl (cy 0, 36, .inl (σ.2 16))), (q 17, .inl (cy 1, 2048, .inl (σ.2 17))), (q 18, .inl (cy 0, 5, .inl (σ.2 18))), (q 19, .inl (cy 0, 220, .inl (σ.2 19))), (q 20, .inl (cy 1, 2, .inl (σ.2 20)))]
set_option maxRecDepth 100000 in
theorem inl_X9 : (wsX90.all (fun w => decide (w ∈ lw_tbl) && tb_ok w)) = true := by decide +kernel
theorem lay_X9 {D : va_G} {cy : Nat → ClassId} {s : State} {args : Array Value} (h : KX D cy s) : ∀ w ∈ u_ws RX9 TX9 37, w.before args s = true := fun w hw => by
  have h1 := List.all_eq_true.mp inl_X9 w hw
  simp only [Bool.and_eq_true, decide_eq_true_eq] at h1
  exact h.wd h1.1 h1.2
set_option maxRecDepth 100000 in
theorem wd20 : Cond.selects RX9 yX9_layWay yX9_layWay ∈ lw_tbl := List.mem_of_getElem? (i := 20) (by decide +kernel)
set_option maxRecDepth 100000 in
theorem wd21 : Cond.selects RX9 yX9_waysAll yX9_waysAll ∈ lw_tbl := List.mem_of_getElem? (i := 21) (by decide +kernel)
set_option maxRecDepth 100000 in
theorem wd22 : Cond.selects RX9 yX9_cornerOf yX9_cornerOf ∈ lw_tbl := List.mem_of_getElem? (i := 22) (by decide +kernel)
set_option maxRecDepth 100000 in
theorem wd23 : Cond.selects RX9 yX9_drop yX9_drop ∈ lw_tbl := List.mem_of_getElem? (i := 23) (by decide +kernel)
set_option maxRecDepth 100000 in
theorem wd24 : Cond.selects RX9 yX9_carrierOf yX9_carrierOf ∈ lw_tbl := List.mem_of_getElem? (i := 24) (by decide +kernel)
set_option maxRecDepth 100000 in
theorem wd25 : Cond.selects RX9 yX9_readOn yX9_readOn ∈ lw_tbl := List.mem_of_getElem? (i := 25) (by decide +kernel)
set_option maxRecDepth 100000 in
theorem wd26 : Cond.selects RX9 yX9_begin yX9_begin ∈ lw_tbl := List.mem_of_getElem? (i := 26) (by decide +kernel)
set_option maxRecDepth 100000 in
theorem wd27 : Cond.selects RX9 yX9_opens yX9_opens ∈ lw_tbl := List.mem_of_getElem? (i := 27) (by decide +kernel)
set_option maxRecDepth 100000 in
theorem wd28 : Cond.selects RX9 yX9_ends yX9_ends ∈ lw_tbl := List.mem_of_getElem? (i := 28) (by decide +kernel)
set_option maxRecDepth 100000 in
theorem wd29 : Cond.selects RX9 yX9_begun yX9_begun ∈ lw_tbl := List.mem_of_getElem? (i := 29) (by decide +kernel)
set_option maxRecDepth 100000 in
theorem wd30 : Cond.selects RX9 yX9_deed yX9_deed ∈ lw_tbl := List.mem_of_getElem? (i := 30) (by decide +kernel)
set_option maxRecDepth 100000 in
theorem wd31 : Cond.selects RX9 yX9_refusal yX9_refusal ∈ lw_tbl := List.mem_of_getElem? (i := 31) (by decide +kernel)
set_option maxRecDepth 100000 in
theorem wd32 : Cond.selects RX9 yX9_carryAll yX9_carryAll ∈ lw_tbl := List.mem_of_getElem? (i := 32) (by decide +kernel)
set_option maxRecDepth 100000 in
theorem wd33 : Cond.selects RX9 yX9_carry yX9_carry ∈ lw_tbl := List.mem_of_getElem? (i := 33) (by decide +kernel)
set_option maxRecDepth 100000 in
theorem wd34 : Cond.selects RX9 yX9_carryRow yX9_carryRow ∈ lw_tbl := List.mem_of_getElem? (i := 34) (by decide +kernel)
set_option maxRecDepth 100000 in
theorem wd35 : Cond.selects RX9 yX9_goSessions yX9_goSessions ∈ lw_tbl := List.mem_of_getElem? (i := 35) (by decide +kernel)
set_option maxRecDepth 100000 in
theorem wd36 : Cond.selects RX9 yX9_whyNot yX9_whyNot ∈ lw_tbl := List.mem_of_getElem? (i := 36) (by decide +kernel)
set_option maxRecDepth 100000 in
theorem wd37 : Cond.selects RX9 yX9_whyNoWay yX9_whyNoWay ∈ lw_tbl := List.mem_of_getElem? (i := 37) (by decide +kernel)
set_option maxRecDepth 100000 in
theorem wd38 : Cond.selects RX9 yX9_whyNotDeed yX9_whyNotDeed ∈ lw_tbl := List.mem_of_getElem? (i := 38) (by decide +kernel)
set_option maxRecDepth 100000 in
theorem wd39 : Cond.selects RX9 yX9_whyNotBack yX9_whyNotBack ∈ lw_tbl := List.mem_of_getElem? (i := 39) (by decide +kernel)
set_option maxRecDepth 100000 in
theorem wd40 : Cond.selects RX9 yX9_goOne yX9_goOne ∈ lw_tbl := List.mem_of_getElem? (i := 40) (by decide +kernel)
set_option maxRecDepth 100000 in
theorem wd41 : Cond.selects RX9 yX9_happen yX9_happen ∈ lw_tbl := List.mem_of_getElem? (i := 41) (by decide +kernel)
set_option maxRecDepth 100000 in
theorem wd42 : Cond.selects RX9 yX9_passHour yX9_passHour ∈ lw_tbl := List.mem_of_getElem? (i := 42) (by decide +kernel)
set_option maxRecDepth 100000 in
theorem wd43 : Cond.selects RX9 yX9_fade yX9_fade ∈ lw_tbl := List.mem_of_getElem? (i := 43) (by decide +kernel)
set_option maxRecDepth 100000 in
theorem wd44 : Cond.selects RX9 yX9_sit yX9_sit ∈ lw_tbl := List.mem_of_getElem? (i := 44) (by decide +kernel)
set_option maxRecDepth 100000 in
theorem wd45 : Cond.selects RX9 yX9_happenToOne yX9_happenToOne ∈ lw_tbl := List.mem_of_getElem? (i := 45) (by decide +kernel)
set_option maxRecDepth 100000 in
theorem wd46 : Cond.selects RX9 yX9_comeBack yX9_comeBack ∈ lw_tbl := List.mem_of_getElem? (i := 46) (by decide +kernel)
set_option maxRecDepth 100000 in
theorem wd47 : Cond.selects RX9 yX9_back yX9_back ∈ lw_tbl := List.mem_of_getElem? (i := 47) (by decide +kernel)
set_option maxRecDepth 100000 in
theorem wd48 : Cond.selects RX9 yX9_ofPerson yX9_ofPerson ∈ lw_tbl := List.mem_of_getElem? (i := 48) (by decide +kernel)
set_option maxRecDepth 100000 in
theorem wd49 : Cond.selects RX9 yX9_carriedBy yX9_carriedBy ∈ lw_tbl := List.mem_of_getElem? (i := 49) (by decide +kernel)
set_option maxRecDepth 100000 in
theorem wd50 : Cond.selects RX9 yX9_ofAll yX9_ofAll ∈ lw_tbl := List.mem_of_getElem? (i := 50) (by decide +kernel)
set_option maxRecDepth 100000 in
theorem wd51 : Cond.selects RX9 yX9_whoIsThere yX9_whoIsThere ∈ lw_tbl := List.mem_of_getElem? (i := 51) (by decide +kernel)
set_option maxRecDepth 100000 in
theorem wd52 : Cond.selects RX9 yX9_whoSits yX9_whoSits ∈ lw_tbl := List.mem_of_getElem? (i := 52) (by decide +kernel)
set_option maxRecDepth 100000 in
theorem wd53 : Cond.selects RX9 yX9_besideAll yX9_besideAll ∈ lw_tbl := List.mem_of_getElem? (i := 53) (by decide +kernel)
set_option maxRecDepth 100000 in
theorem wd54 : Cond.selects RX9 yX9_waysOut yX9_waysOut ∈ lw_tbl := List.mem_of_getElem? (i := 54) (by decide +kernel)
set_option maxRecDepth 100000 in
theorem wd55 : Cond.selects RX9 yX9_closedOf yX9_closedOf ∈ lw_tbl := List.mem_of_getElem? (i := 55) (by decide +kernel)
set_option maxRecDepth 100000 in
theorem wd56 : Cond.selects RX9 yX9_onceMore yX9_onceMore ∈ lw_tbl := List.mem_of_getElem? (i := 56) (by decide +kernel)
set_option maxRecDepth 100000 in
theorem wd57 : Cond.selects RX9 yX9_isFit yX9_isFit ∈ lw_tbl := List.mem_of_getElem? (i := 57) (by decide +kernel)
set_option maxRecDepth 100000 in
theorem wd58 : Cond.selects RX9 yX9_mostLeft yX9_mostLeft ∈ lw_tbl := List.mem_of_getElem? (i := 58) (by decide +kernel)
set_option maxRecDepth 100000 in
theorem wd59 : Cond.selects RX9 yX9_leastGo yX9_leastGo ∈ lw_tbl := List.mem_of_getElem? (i := 59) (by decide +kernel)
set_option maxRecDepth 100000 in
theorem wd60 : Cond.selects RX9 yX9_layNet yX9_layNet ∈ lw_tbl := List.mem_of_getElem? (i := 60) (by decide +kernel)
set_option maxRecDepth 100000 in
theorem wd61 : Cond.selects RX9 yX9_hangs yX9_hangs ∈ lw_tbl := List.mem_of_getElem? (i := 61) (by decide +kernel)
set_option maxRecDepth 100000 in
theorem wd62 : Cond.selects RX9 yX9_drawn yX9_drawn ∈ lw_tbl := List.mem_of_getElem? (i := 62) (by decide +kernel)
set_option maxRecDepth 100000 in
theorem wd63 : Cond.selects RX9 yX9_passAll yX9_passAll ∈ lw_tbl := List.mem_of_getElem? (i := 63) (by decide +kernel)
set_option maxRecDepth 100000 in
theorem wd64 : Cond.selects RX9 yX9_pass yX9_pass ∈ lw_tbl := List.mem_of_getElem? (i := 64) (by decide +kernel)
set_option maxRecDepth 100000 in
theorem wd65 : Cond.selects RX9 yX9_passRow yX9_passRow ∈ lw_tbl := List.mem_of_getElem? (i := 65) (by decide +kernel)
set_option maxRecDepth 100000 in
theorem wd66 : Cond.selects RX9 yX9_toldOfPerson yX9_toldOfPerson ∈ lw_tbl := List.mem_of_getElem? (i := 66) (by decide +kernel)
set_option maxRecDepth 100000 in
theorem wd67 : Cond.selects RX9 yX9_toldOfOther yX9_toldOfOther ∈ lw_tbl := List.mem_of_getElem? (i := 67) (by decide +kernel)
set_option maxRecDepth 100000 in
theorem wd68 : Cond.selects RX9 yX9_toldOfAll yX9_toldOfAll ∈ lw_tbl := List.mem_of_getElem? (i := 68) (by decide +kernel)
set_option maxRecDepth 100000 in
theorem wd79 : Cond.initialized RX9 ∈ lw_tbl := List.mem_of_getElem? (i := 79) (by decide +kernel)
set_option maxRecDepth 100000 in
theorem wd697 : Cond.fieldLink RX9 7 "SwornLaneModel" "beside" "[I" ∈ lw_tbl := List.mem_of_getElem? (i := 697) (by decide +kernel)
set_option maxRecDepth 100000 in
theorem wd698 : Cond.fieldLink RX9 13 "SwornLaneModel" "place" "[I" ∈ lw_tbl := List.mem_of_getElem? (i := 698) (by decide +kernel)
set_option maxRecDepth 100000 in
theorem wd699 : Cond.fieldLink RX9 16 "SwornLaneModel" "stands" "[I" ∈ lw_tbl := List.mem_of_getElem? (i := 699) (by decide +kernel)
set_option maxRecDepth 100000 in
theorem wd700 : Cond.fieldLink RX9 19 "SwornLaneModel" "faint" "[I" ∈ lw_tbl := List.mem_of_getElem? (i := 700) (by decide +kernel)
set_option maxRecDepth 100000 in
theorem wd701 : Cond.fieldLink RX9 22 "SwornLaneModel" "sits" "[I" ∈ lw_tbl := List.mem_of_getElem? (i := 701) (by decide +kernel)
set_option maxRecDepth 100000 in
theorem wd702 : Cond.fieldLink RX9 74 "SwornLaneModel" "isUp" "I" ∈ lw_tbl := List.mem_of_getElem? (i := 702) (by decide +kernel)
set_option maxRecDepth 100000 in
theorem wd703 : Cond.fieldLink RX9 174 "SwornLaneModel" "hours" "I" ∈ lw_tbl := List.mem_of_getElem? (i := 703) (by decide +kernel)
set_option maxRecDepth 100000 in
theorem wd704 : Cond.fieldLink RX9 25 "SwornLaneModel" "ruleOne" "[I" ∈ lw_tbl := List.mem_of_getElem? (i := 704) (by decide +kernel)
set_option maxRecDepth 100000 in
theorem wd705 : Cond.fieldLink RX9 28 "SwornLaneModel" "ruleOther" "[I" ∈ lw_tbl := List.mem_of_getElem? (i := 705) (by decide +kernel)
set_option maxRecDepth 100000 in
theorem wd706 : Cond.fieldLink RX9 31 "SwornLaneModel" "ruleThen" "[I" ∈ lw_tbl := List.mem_of_getElem? (i := 706) (by decide +kernel)
set_option maxRecDepth 100000 in
theorem wd707 : Cond.fieldLink RX9 281 "SwornLaneModel" "rules" "I" ∈ lw_tbl := List.mem_of_getElem? (i := 707) (by decide +kernel)
set_option maxRecDepth 100000 in
theorem wd708 : Cond.fieldLink RX9 34 "SwornLaneModel" "sightWho" "[I" ∈ lw_tbl := List.mem_of_getElem? (i := 708) (by decide +kernel)
set_option maxRecDepth 100000 in
theorem wd709 : Cond.fieldLink RX9 37 "SwornLaneModel" "sightWhat" "[I" ∈ lw_tbl := List.mem_of_getElem? (i := 709) (by decide +kernel)
set_option maxRecDepth 100000 in
theorem wd710 : Cond.fieldLink RX9 40 "SwornLaneModel" "sightOf" "[I" ∈ lw_tbl := List.mem_of_getElem? (i := 710) (by decide +kernel)
set_option maxRecDepth 100000 in
theorem wd711 : Cond.fieldLink RX9 43 "SwornLaneModel" "sightYes" "[I" ∈ lw_tbl := List.mem_of_getElem? (i := 711) (by decide +kernel)
set_option maxRecDepth 100000 in
theorem wd712 : Cond.fieldLink RX9 296 "SwornLaneModel" "sights" "I" ∈ lw_tbl := List.mem_of_getElem? (i := 712) (by decide +kernel)
set_option maxRecDepth 100000 in
theorem wd713 : Cond.fieldLink RX9 46 "SwornLaneModel" "pad" "[I" ∈ lw_tbl := List.mem_of_getElem? (i := 713) (by decide +kernel)
set_option maxRecDepth 100000 in
theorem wd714 : Cond.fieldLink RX9 126 "SwornLaneModel" "padMany" "I" ∈ lw_tbl := List.mem_of_getElem? (i := 714) (by decide +kernel)
set_option maxRecDepth 100000 in
theorem wd715 : Cond.fieldLink RX9 49 "SwornLaneModel" "act" "[I" ∈ lw_tbl := List.mem_of_getElem? (i := 715) (by decide +kernel)
set_option maxRecDepth 100000 in
theorem wd716 : Cond.fieldLink RX9 52 "SwornLaneModel" "which" "[I" ∈ lw_tbl := List.mem_of_getElem? (i := 716) (by decide +kernel)
set_option maxRecDepth 100000 in
theorem wd717 : Cond.fieldLink RX9 55 "SwornLaneModel" "other" "[I" ∈ lw_tbl := List.mem_of_getElem? (i := 717) (by decide +kernel)
set_option maxRecDepth 100000 in
theorem wd718 : Cond.fieldLink RX9 129 "SwornLaneModel" "acts" "I" ∈ lw_tbl := List.mem_of_getElem? (i := 718) (by decide +kernel)
set_option maxRecDepth 100000 in
theorem wd719 : Cond.fieldLink RX9 181 "SwornLaneModel" "satAll" "I" ∈ lw_tbl := List.mem_of_getElem? (i := 719) (by decide +kernel)
set_option maxRecDepth 100000 in
theorem wd720 : Cond.fieldLink RX9 184 "SwornLaneModel" "satNow" "I" ∈ lw_tbl := List.mem_of_getElem? (i := 720) (by decide +kernel)
set_option maxRecDepth 100000 in
theorem wd721 : Cond.fieldLink RX9 58 "SwornLaneModel" "had" "[I" ∈ lw_tbl := List.mem_of_getElem? (i := 721) (by decide +kernel)
set_option maxRecDepth 100000 in
theorem wd722 : Cond.fieldLink RX9 207 "SwornLaneModel" "at" "I" ∈ lw_tbl := List.mem_of_getElem? (i := 722) (by decide +kernel)
set_option maxRecDepth 100000 in
theorem wd723 : Cond.fieldLink RX9 203 "SwornLaneModel" "isBack" "Z" ∈ lw_tbl := List.mem_of_getElem? (i := 723) (by decide +kernel)
set_option maxRecDepth 100000 in
theorem wd724 : Cond.fieldLink RX9 230 "SwornLaneModel" "badAct" "I" ∈ lw_tbl := List.mem_of_getElem? (i := 724) (by decide +kernel)
set_option maxRecDepth 100000 in
theorem wd725 : Cond.fieldLink RX9 233 "SwornLaneModel" "badWhy" "I" ∈ lw_tbl := List.mem_of_getElem? (i := 725) (by decide +kernel)
set_option maxRecDepth 100000 in
theorem wd726 : Cond.fieldLink RX9 224 "SwornLaneModel" "satAct" "I" ∈ lw_tbl := List.mem_of_getElem? (i := 726) (by decide +kernel)
set_option maxRecDepth 100000 in
theorem wd727 : Cond.fieldLink RX9 227 "SwornLaneModel" "satWho" "I" ∈ lw_tbl := List.mem_of_getElem? (i := 727) (by decide +kernel)
set_option maxRecDepth 100000 in
theorem wd728 : Cond.fieldLink RX9 61 "SwornLaneModel" "wins" "[Z" ∈ lw_tbl := List.mem_of_getElem? (i := 728) (by decide +kernel)
set_option maxRecDepth 100000 in
theorem wd729 : Cond.fieldLink RX9 65 "SwornLaneModel" "net" "[I" ∈ lw_tbl := List.mem_of_getElem? (i := 729) (by decide +kernel)
set_option maxRecDepth 100000 in
theorem wd730 : Cond.fieldLink RX9 68 "SwornLaneModel" "kept" "[I" ∈ lw_tbl := List.mem_of_getElem? (i := 730) (by decide +kernel)
set_option maxRecDepth 100000 in
theorem wd731 : Cond.fieldLink RX9 71 "SwornLaneModel" "isKept" "[Z" ∈ lw_tbl := List.mem_of_getElem? (i := 731) (by decide +kernel)
set_option maxRecDepth 100000 in
theorem wd732 : Cond.fieldLink RX9 350 "SwornLaneModel" "keptAt" "I" ∈ lw_tbl := List.mem_of_getElem? (i := 732) (by decide +kernel)
set_option maxRecDepth 100000 in
theorem wd733 : Cond.fieldLink RX9 347 "SwornLaneModel" "isWriting" "Z" ∈ lw_tbl := List.mem_of_getElem? (i := 733) (by decide +kernel)
set_option maxRecDepth 100000 in
theorem wd811 : Cond.instanceMethod yX9_way ∈ lw_tbl := List.mem_of_getElem? (i := 811) (by decide +kernel)
set_option maxRecDepth 100000 in
theorem wd812 : Cond.selects RX9 yX9_way yX9_way ∈ lw_tbl := List.mem_of_getElem? (i := 812) (by decide +kernel)
set_option maxRecDepth 100000 in
theorem wd813 : Cond.code yX9_way cX9_way 4 (some .int) ∈ lw_tbl := List.mem_of_getElem? (i := 813) (by decide +kernel)
set_option maxRecDepth 100000 in
theorem wd814 : Cond.methodLink RX9 90 yX9_isCorner ∈ lw_tbl := List.mem_of_getElem? (i := 814) (by decide +kernel)
set_option maxRecDepth 100000 in
theorem wd815 : Cond.static yX9_isCorner ∈ lw_tbl := List.mem_of_getElem? (i := 815) (by decide +kernel)
set_option maxRecDepth 100000 in
theorem wd816 : Cond.code yX9_isCorner cX9_isCorner 1 (some .boolean) ∈ lw_tbl := List.mem_of_getElem? (i := 816) (by decide +kernel)
set_option maxRecDepth 100000 in
theorem wd817 : Cond.constantLong RX9 78 (7) ∈ lw_tbl := List.mem_of_getElem? (i := 817) (by decide +kernel)
set_option maxRecDepth 100000 in
theorem wd818 : Cond.methodLink RX9 80 yX9_in ∈ lw_tbl := List.mem_of_getElem? (i := 818) (by decide +kernel)
set_option maxRecDepth 100000 in
theorem wd819 : Cond.static yX9_in ∈ lw_tbl := List.mem_of_getElem? (i := 819) (by decide +kernel)
set_option maxRecDepth 100000 in
theorem wd820 : Cond.code yX9_in cX9_in 6 (some .boolean) ∈ lw_tbl := List.mem_of_getElem? (i := 820) (by decide +kernel)
set_option maxRecDepth 100000 in
theorem wd821 : Cond.methodLink RX9 94 yX9_layWay ∈ lw_tbl := List.mem_of_getElem? (i := 821) (by decide +kernel)
set_option maxRecDepth 100000 in
theorem wd823 : Cond.instanceMethod yX9_layWay ∈ lw_tbl := List.mem_of_getElem? (i := 823) (by decide +kernel)
set_option maxRecDepth 100000 in
theorem wd824 : Cond.code yX9_layWay cX9_layWay 4 none ∈ lw_tbl := List.mem_of_getElem? (i := 824) (by decide +kernel)
set_option maxRecDepth 100000 in
theorem wd825 : Cond.methodLink RX9 98 yX9_waysAll ∈ lw_tbl := List.mem_of_getElem? (i := 825) (by decide +kernel)
set_option maxRecDepth 100000 in
theorem wd827 : Cond.instanceMethod yX9_waysAll ∈ lw_tbl := List.mem_of_getElem? (i := 827) (by decide +kernel)
set_option maxRecDepth 100000 in
theorem wd828 : Cond.code yX9_waysAll cX9_waysAll 3 (some .int) ∈ lw_tbl := List.mem_of_getElem? (i := 828) (by decide +kernel)
set_option maxRecDepth 100000 in
theorem wd829 : Cond.methodLink RX9 86 yX9_ones ∈ lw_tbl := List.mem_of_getElem? (i := 829) (by decide +kernel)
set_option maxRecDepth 100000 in
theorem wd830 : Cond.static yX9_ones ∈ lw_tbl := List.mem_of_getElem? (i := 830) (by decide +kernel)
set_option maxRecDepth 100000 in
theorem wd831 : Cond.code yX9_ones cX9_ones 3 (some .int) ∈ lw_tbl := List.mem_of_getElem? (i := 831) (by decide +kernel)
set_option maxRecDepth 100000 in
theorem wd833 : Cond.instanceMethod yX9_thing ∈ lw_tbl := List.mem_of_getElem? (i := 833) (by decide +kernel)
set_option maxRecDepth 100000 in
theorem wd834 : Cond.selects RX9 yX9_thing yX9_thing ∈ lw_tbl := List.mem_of_getElem? (i := 834) (by decide +kernel)
set_option maxRecDepth 100000 in
theorem wd835 : Cond.code yX9_thing cX9_thing 4 (some .int) ∈ lw_tbl := List.mem_of_getElem? (i := 835) (by decide +kernel)
set_option maxRecDepth 100000 in
theorem wd836 : Cond.methodLink RX9 102 yX9_isThing ∈ lw_tbl := List.mem_of_getElem? (i := 836) (by decide +kernel)
set_option maxRecDepth 100000 in
theorem wd837 : Cond.static yX9_isThing ∈ lw_tbl := List.mem_of_getElem? (i := 837) (by decide +kernel)
set_option maxRecDepth 100000 in
theorem wd838 : Cond.code yX9_isThing cX9_isThing 1 (some .boolean) ∈ lw_tbl := List.mem_of_getElem? (i := 838) (by decide +kernel)
set_option maxRecDepth 100000 in
theorem wd839 : Cond.constantLong RX9 105 (-1) ∈ lw_tbl := List.mem_of_getElem? (i := 839) (by decide +kernel)
set_option maxRecDepth 100000 in
theorem wd840 : Cond.methodLink RX9 107 yX9_cornerOf ∈ lw_tbl := List.mem_of_getElem? (i := 840) (by decide +kernel)
set_option maxRecDepth 100000 in
theorem wd842 : Cond.instanceMethod yX9_cornerOf ∈ lw_tbl := List.mem_of_getElem? (i := 842) (by decide +kernel)
set_option maxRecDepth 100000 in
theorem wd843 : Cond.code yX9_cornerOf cX9_cornerOf 2 (some .int) ∈ lw_tbl := List.mem_of_getElem? (i := 843) (by decide +kernel)
set_option maxRecDepth 100000 in
theorem wd845 : Cond.instanceMethod yX9_person ∈ lw_tbl := List.mem_of_getElem? (i := 845) (by decide +kernel)
set_option maxRecDepth 100000 in
theorem wd846 : Cond.selects RX9 yX9_person yX9_person ∈ lw_tbl := List.mem_of_getElem? (i := 846) (by decide +kernel)
set_option maxRecDepth 100000 in
theorem wd847 : Cond.code yX9_person cX9_person 5 (some .int) ∈ lw_tbl := List.mem_of_getElem? (i := 847) (by decide +kernel)
set_option maxRecDepth 100000 in
theorem wd848 : Cond.methodLink RX9 113 yX9_isPerson ∈ lw_tbl := List.mem_of_getElem? (i := 848) (by decide +kernel)
set_option maxRecDepth 100000 in
theorem wd849 : Cond.static yX9_isPerson ∈ lw_tbl := List.mem_of_getElem? (i := 849) (by decide +kernel)
set_option maxRecDepth 100000 in
theorem wd850 : Cond.code yX9_isPerson cX9_isPerson 1 (some .boolean) ∈ lw_tbl := List.mem_of_getElem? (i := 850) (by decide +kernel)
set_option maxRecDepth 100000 in
theorem wd851 : Cond.constantLong RX9 84 (5) ∈ lw_tbl := List.mem_of_getElem? (i := 851) (by decide +kernel)
set_option maxRecDepth 100000 in
theorem wd852 : Cond.constantLong RX9 116 (9) ∈ lw_tbl := List.mem_of_getElem? (i := 852) (by decide +kernel)
set_option maxRecDepth 100000 in
theorem wd853 : Cond.methodLink RX9 118 yX9_drop ∈ lw_tbl := List.mem_of_getElem? (i := 853) (by decide +kernel)
set_option maxRecDepth 100000 in
theorem wd855 : Cond.instanceMethod yX9_drop ∈ lw_tbl := List.mem_of_getElem? (i := 855) (by decide +kernel)
set_option maxRecDepth 100000 in
theorem wd856 : Cond.code yX9_drop cX9_drop 3 none ∈ lw_tbl := List.mem_of_getElem? (i := 856) (by decide +kernel)
set_option maxRecDepth 100000 in
theorem wd857 : Cond.methodLink RX9 110 yX9_carrierOf ∈ lw_tbl := List.mem_of_getElem? (i := 857) (by decide +kernel)
set_option maxRecDepth 100000 in
theorem wd859 : Cond.instanceMethod yX9_carrierOf ∈ lw_tbl := List.mem_of_getElem? (i := 859) (by decide +kernel)
set_option maxRecDepth 100000 in
theorem wd860 : Cond.code yX9_carrierOf cX9_carrierOf 2 (some .int) ∈ lw_tbl := List.mem_of_getElem? (i := 860) (by decide +kernel)
set_option maxRecDepth 100000 in
theorem wd862 : Cond.instanceMethod yX9_pole ∈ lw_tbl := List.mem_of_getElem? (i := 862) (by decide +kernel)
set_option maxRecDepth 100000 in
theorem wd863 : Cond.selects RX9 yX9_pole yX9_pole ∈ lw_tbl := List.mem_of_getElem? (i := 863) (by decide +kernel)
set_option maxRecDepth 100000 in
theorem wd864 : Cond.code yX9_pole cX9_pole 3 (some .int) ∈ lw_tbl := List.mem_of_getElem? (i := 864) (by decide +kernel)
set_option maxRecDepth 100000 in
theorem wd866 : Cond.instanceMethod yX9_say ∈ lw_tbl := List.mem_of_getElem? (i := 866) (by decide +kernel)
set_option maxRecDepth 100000 in
theorem wd867 : Cond.selects RX9 yX9_say yX9_say ∈ lw_tbl := List.mem_of_getElem? (i := 867) (by decide +kernel)
set_option maxRecDepth 100000 in
theorem wd868 : Cond.code yX9_say cX9_say 2 (some .int) ∈ lw_tbl := List.mem_of_getElem? (i := 868) (by decide +kernel)
set_option maxRecDepth 100000 in
theorem wd869 : Cond.constantLong RX9 122 (33) ∈ lw_tbl := List.mem_of_getElem? (i := 869) (by decide +kernel)
set_option maxRecDepth 100000 in
theorem wd870 : Cond.constantLong RX9 124 (126) ∈ lw_tbl := List.mem_of_getElem? (i := 870) (by decide +kernel)
set_option maxRecDepth 100000 in
theorem wd872 : Cond.instanceMethod yX9_wipe ∈ lw_tbl := List.mem_of_getElem? (i := 872) (by decide +kernel)
set_option maxRecDepth 100000 in
theorem wd873 : Cond.selects RX9 yX9_wipe yX9_wipe ∈ lw_tbl := List.mem_of_getElem? (i := 873) (by decide +kernel)
set_option maxRecDepth 100000 in
theorem wd874 : Cond.code yX9_wipe cX9_wipe 2 (some .int) ∈ lw_tbl := List.mem_of_getElem? (i := 874) (by decide +kernel)
set_option maxRecDepth 100000 in
theorem wd876 : Cond.instanceMethod yX9_fault ∈ lw_tbl := List.mem_of_getElem? (i := 876) (by decide +kernel)
set_option maxRecDepth 100000 in
theorem wd877 : Cond.selects RX9 yX9_fault yX9_fault ∈ lw_tbl := List.mem_of_getElem? (i := 877) (by decide +kernel)
set_option maxRecDepth 100000 in
theorem wd878 : Cond.code yX9_fault cX9_fault 3 (some .int) ∈ lw_tbl := List.mem_of_getElem? (i := 878) (by decide +kernel)
set_option maxRecDepth 100000 in
theorem wd879 : Cond.methodLink RX9 160 yX9_readOn ∈ lw_tbl := List.mem_of_getElem? (i := 879) (by decide +kernel)
set_option maxRecDepth 100000 in
theorem wd881 : Cond.instanceMethod yX9_readOn ∈ lw_tbl := List.mem_of_getElem? (i := 881) (by decide +kernel)
set_option maxRecDepth 100000 in
theorem wd882 : Cond.code yX9_readOn cX9_readOn 5 (some .int) ∈ lw_tbl := List.mem_of_getElem? (i := 882) (by decide +kernel)
set_option maxRecDepth 100000 in
theorem wd883 : Cond.constantLong RX9 143 (97) ∈ lw_tbl := List.mem_of_getElem? (i := 883) (by decide +kernel)
set_option maxRecDepth 100000 in
theorem wd884 : Cond.constantLong RX9 145 (104) ∈ lw_tbl := List.mem_of_getElem? (i := 884) (by decide +kernel)
set_option maxRecDepth 100000 in
theorem wd885 : Cond.constantLong RX9 147 (48) ∈ lw_tbl := List.mem_of_getElem? (i := 885) (by decide +kernel)
set_option maxRecDepth 100000 in
theorem wd886 : Cond.constantLong RX9 149 (55) ∈ lw_tbl := List.mem_of_getElem? (i := 886) (by decide +kernel)
set_option maxRecDepth 100000 in
theorem wd887 : Cond.methodLink RX9 151 yX9_begin ∈ lw_tbl := List.mem_of_getElem? (i := 887) (by decide +kernel)
set_option maxRecDepth 100000 in
theorem wd889 : Cond.instanceMethod yX9_begin ∈ lw_tbl := List.mem_of_getElem? (i := 889) (by decide +kernel)
set_option maxRecDepth 100000 in
theorem wd890 : Cond.code yX9_begin cX9_begin 2 (some .int) ∈ lw_tbl := List.mem_of_getElem? (i := 890) (by decide +kernel)
set_option maxRecDepth 100000 in
theorem wd891 : Cond.constantLong RX9 132 (65) ∈ lw_tbl := List.mem_of_getElem? (i := 891) (by decide +kernel)
set_option maxRecDepth 100000 in
theorem wd892 : Cond.constantLong RX9 134 (70) ∈ lw_tbl := List.mem_of_getElem? (i := 892) (by decide +kernel)
set_option maxRecDepth 100000 in
theorem wd893 : Cond.methodLink RX9 136 yX9_opens ∈ lw_tbl := List.mem_of_getElem? (i := 893) (by decide +kernel)
set_option maxRecDepth 100000 in
theorem wd895 : Cond.instanceMethod yX9_opens ∈ lw_tbl := List.mem_of_getElem? (i := 895) (by decide +kernel)
set_option maxRecDepth 100000 in
theorem wd896 : Cond.code yX9_opens cX9_opens 3 (some .int) ∈ lw_tbl := List.mem_of_getElem? (i := 896) (by decide +kernel)
set_option maxRecDepth 100000 in
theorem wd897 : Cond.methodLink RX9 140 yX9_ends ∈ lw_tbl := List.mem_of_getElem? (i := 897) (by decide +kernel)
set_option maxRecDepth 100000 in
theorem wd899 : Cond.instanceMethod yX9_ends ∈ lw_tbl := List.mem_of_getElem? (i := 899) (by decide +kernel)
set_option maxRecDepth 100000 in
theorem wd900 : Cond.code yX9_ends cX9_ends 3 (some .int) ∈ lw_tbl := List.mem_of_getElem? (i := 900) (by decide +kernel)
set_option maxRecDepth 100000 in
theorem wd901 : Cond.methodLink RX9 154 yX9_begun ∈ lw_tbl := List.mem_of_getElem? (i := 901) (by decide +kernel)
set_option maxRecDepth 100000 in
theorem wd903 : Cond.instanceMethod yX9_begun ∈ lw_tbl := List.mem_of_getElem? (i := 903) (by decide +kernel)
set_option maxRecDepth 100000 in
theorem wd904 : Cond.code yX9_begun cX9_begun 3 (some .int) ∈ lw_tbl := List.mem_of_getElem? (i := 904) (by decide +kernel)
set_option maxRecDepth 100000 in
theorem wd905 : Cond.methodLink RX9 157 yX9_deed ∈ lw_tbl := List.mem_of_getElem? (i := 905) (by decide +kernel)
set_option maxRecDepth 100000 in
theorem wd907 : Cond.instanceMethod yX9_deed ∈ lw_tbl := List.mem_of_getElem? (i := 907) (by decide +kernel)
set_option maxRecDepth 100000 in
theorem wd908 : Cond.code yX9_deed cX9_deed 2 (some .int) ∈ lw_tbl := List.mem_of_getElem? (i := 908) (by decide +kernel)
set_option maxRecDepth 100000 in
theorem wd910 : Cond.instanceMethod yX9_judge ∈ lw_tbl := List.mem_of_getElem? (i := 910) (by decide +kernel)
set_option maxRecDepth 100000 in
theorem wd911 : Cond.selects RX9 yX9_judge yX9_judge ∈ lw_tbl := List.mem_of_getElem? (i := 911) (by decide +kernel)
set_option maxRecDepth 100000 in
theorem wd912 : Cond.code yX9_judge cX9_judge 3 (some .int) ∈ lw_tbl := List.mem_of_getElem? (i := 912) (by decide +kernel)
set_option maxRecDepth 100000 in
theorem wd913 : Cond.constantLong RX9 248 (2) ∈ lw_tbl := List.mem_of_getElem? (i := 913) (by decide +kernel)
set_option maxRecDepth 100000 in
theorem wd914 : Cond.methodLink RX9 250 yX9_refusal ∈ lw_tbl := List.mem_of_getElem? (i := 914) (by decide +kernel)
set_option maxRecDepth 100000 in
theorem wd916 : Cond.instanceMethod yX9_refusal ∈ lw_tbl := List.mem_of_getElem? (i := 916) (by decide +kernel)
set_option maxRecDepth 100000 in
theorem wd917 : Cond.code yX9_refusal cX9_refusal 1 (some .int) ∈ lw_tbl := List.mem_of_getElem? (i := 917) (by decide +kernel)
set_option maxRecDepth 100000 in
theorem wd918 : Cond.methodLink RX9 217 yX9_carryAll ∈ lw_tbl := List.mem_of_getElem? (i := 918) (by decide +kernel)
set_option maxRecDepth 100000 in
theorem wd920 : Cond.instanceMethod yX9_carryAll ∈ lw_tbl := List.mem_of_getElem? (i := 920) (by decide +kernel)
set_option maxRecDepth 100000 in
theorem wd921 : Cond.code yX9_carryAll cX9_carryAll 2 none ∈ lw_tbl := List.mem_of_getElem? (i := 921) (by decide +kernel)
set_option maxRecDepth 100000 in
theorem wd922 : Cond.methodLink RX9 210 yX9_carry ∈ lw_tbl := List.mem_of_getElem? (i := 922) (by decide +kernel)
set_option maxRecDepth 100000 in
theorem wd924 : Cond.instanceMethod yX9_carry ∈ lw_tbl := List.mem_of_getElem? (i := 924) (by decide +kernel)
set_option maxRecDepth 100000 in
theorem wd925 : Cond.code yX9_carry cX9_carry 3 (some .int) ∈ lw_tbl := List.mem_of_getElem? (i := 925) (by decide +kernel)
set_option maxRecDepth 100000 in
theorem wd926 : Cond.methodLink RX9 213 yX9_carryRow ∈ lw_tbl := List.mem_of_getElem? (i := 926) (by decide +kernel)
set_option maxRecDepth 100000 in
theorem wd928 : Cond.instanceMethod yX9_carryRow ∈ lw_tbl := List.mem_of_getElem? (i := 928) (by decide +kernel)
set_option maxRecDepth 100000 in
theorem wd929 : Cond.code yX9_carryRow cX9_carryRow 4 none ∈ lw_tbl := List.mem_of_getElem? (i := 929) (by decide +kernel)
set_option maxRecDepth 100000 in
theorem wd930 : Cond.methodLink RX9 242 yX9_fault ∈ lw_tbl := List.mem_of_getElem? (i := 930) (by decide +kernel)
set_option maxRecDepth 100000 in
theorem wd931 : Cond.methodLink RX9 245 yX9_goSessions ∈ lw_tbl := List.mem_of_getElem? (i := 931) (by decide +kernel)
set_option maxRecDepth 100000 in
theorem wd933 : Cond.instanceMethod yX9_goSessions ∈ lw_tbl := List.mem_of_getElem? (i := 933) (by decide +kernel)
set_option maxRecDepth 100000 in
theorem wd934 : Cond.code yX9_goSessions cX9_goSessions 3 none ∈ lw_tbl := List.mem_of_getElem? (i := 934) (by decide +kernel)
set_option maxRecDepth 100000 in
theorem wd935 : Cond.methodLink RX9 236 yX9_whyNot ∈ lw_tbl := List.mem_of_getElem? (i := 935) (by decide +kernel)
set_option maxRecDepth 100000 in
theorem wd937 : Cond.instanceMethod yX9_whyNot ∈ lw_tbl := List.mem_of_getElem? (i := 937) (by decide +kernel)
set_option maxRecDepth 100000 in
theorem wd938 : Cond.code yX9_whyNot cX9_whyNot 4 (some .int) ∈ lw_tbl := List.mem_of_getElem? (i := 938) (by decide +kernel)
set_option maxRecDepth 100000 in
theorem wd939 : Cond.methodLink RX9 170 yX9_whyNoWay ∈ lw_tbl := List.mem_of_getElem? (i := 939) (by decide +kernel)
set_option maxRecDepth 100000 in
theorem wd941 : Cond.instanceMethod yX9_whyNoWay ∈ lw_tbl := List.mem_of_getElem? (i := 941) (by decide +kernel)
set_option maxRecDepth 100000 in
theorem wd942 : Cond.code yX9_whyNoWay cX9_whyNoWay 4 (some .int) ∈ lw_tbl := List.mem_of_getElem? (i := 942) (by decide +kernel)
set_option maxRecDepth 100000 in
theorem wd943 : Cond.methodLink RX9 163 yX9_has ∈ lw_tbl := List.mem_of_getElem? (i := 943) (by decide +kernel)
set_option maxRecDepth 100000 in
theorem wd944 : Cond.static yX9_has ∈ lw_tbl := List.mem_of_getElem? (i := 944) (by decide +kernel)
set_option maxRecDepth 100000 in
theorem wd945 : Cond.code yX9_has cX9_has 2 (some .boolean) ∈ lw_tbl := List.mem_of_getElem? (i := 945) (by decide +kernel)
set_option maxRecDepth 100000 in
theorem wd946 : Cond.methodLink RX9 177 yX9_whyNotDeed ∈ lw_tbl := List.mem_of_getElem? (i := 946) (by decide +kernel)
set_option maxRecDepth 100000 in
theorem wd948 : Cond.instanceMethod yX9_whyNotDeed ∈ lw_tbl := List.mem_of_getElem? (i := 948) (by decide +kernel)
set_option maxRecDepth 100000 in
theorem wd949 : Cond.code yX9_whyNotDeed cX9_whyNotDeed 4 (some .int) ∈ lw_tbl := List.mem_of_getElem? (i := 949) (by decide +kernel)
set_option maxRecDepth 100000 in
theorem wd950 : Cond.methodLink RX9 167 yX9_whyNotBack ∈ lw_tbl := List.mem_of_getElem? (i := 950) (by decide +kernel)
set_option maxRecDepth 100000 in
theorem wd952 : Cond.instanceMethod yX9_whyNotBack ∈ lw_tbl := List.mem_of_getElem? (i := 952) (by decide +kernel)
set_option maxRecDepth 100000 in
theorem wd953 : Cond.code yX9_whyNotBack cX9_whyNotBack 2 (some .int) ∈ lw_tbl := List.mem_of_getElem? (i := 953) (by decide +kernel)
set_option maxRecDepth 100000 in
theorem wd954 : Cond.methodLink RX9 239 yX9_goOne ∈ lw_tbl := List.mem_of_getElem? (i := 954) (by decide +kernel)
set_option maxRecDepth 100000 in
theorem wd956 : Cond.instanceMethod yX9_goOne ∈ lw_tbl := List.mem_of_getElem? (i := 956) (by decide +kernel)
set_option maxRecDepth 100000 in
theorem wd957 : Cond.code yX9_goOne cX9_goOne 2 none ∈ lw_tbl := List.mem_of_getElem? (i := 957) (by decide +kernel)
set_option maxRecDepth 100000 in
theorem wd958 : Cond.methodLink RX9 221 yX9_happen ∈ lw_tbl := List.mem_of_getElem? (i := 958) (by decide +kernel)
set_option maxRecDepth 100000 in
theorem wd960 : Cond.instanceMethod yX9_happen ∈ lw_tbl := List.mem_of_getElem? (i := 960) (by decide +kernel)
set_option maxRecDepth 100000 in
theorem wd961 : Cond.code yX9_happen cX9_happen 4 none ∈ lw_tbl := List.mem_of_getElem? (i := 961) (by decide +kernel)
set_option maxRecDepth 100000 in
theorem wd962 : Cond.methodLink RX9 196 yX9_passHour ∈ lw_tbl := List.mem_of_getElem? (i := 962) (by decide +kernel)
set_option maxRecDepth 100000 in
theorem wd964 : Cond.instanceMethod yX9_passHour ∈ lw_tbl := List.mem_of_getElem? (i := 964) (by decide +kernel)
set_option maxRecDepth 100000 in
theorem wd965 : Cond.code yX9_passHour cX9_passHour 2 none ∈ lw_tbl := List.mem_of_getElem? (i := 965) (by decide +kernel)
set_option maxRecDepth 100000 in
theorem wd966 : Cond.methodLink RX9 190 yX9_fade ∈ lw_tbl := List.mem_of_getElem? (i := 966) (by decide +kernel)
set_option maxRecDepth 100000 in
theorem wd968 : Cond.instanceMethod yX9_fade ∈ lw_tbl := List.mem_of_getElem? (i := 968) (by decide +kernel)
set_option maxRecDepth 100000 in
theorem wd969 : Cond.code yX9_fade cX9_fade 2 none ∈ lw_tbl := List.mem_of_getElem? (i := 969) (by decide +kernel)
set_option maxRecDepth 100000 in
theorem wd970 : Cond.methodLink RX9 187 yX9_sit ∈ lw_tbl := List.mem_of_getElem? (i := 970) (by decide +kernel)
set_option maxRecDepth 100000 in
theorem wd972 : Cond.instanceMethod yX9_sit ∈ lw_tbl := List.mem_of_getElem? (i := 972) (by decide +kernel)
set_option maxRecDepth 100000 in
theorem wd973 : Cond.code yX9_sit cX9_sit 2 none ∈ lw_tbl := List.mem_of_getElem? (i := 973) (by decide +kernel)
set_option maxRecDepth 100000 in
theorem wd974 : Cond.methodLink RX9 199 yX9_happenToOne ∈ lw_tbl := List.mem_of_getElem? (i := 974) (by decide +kernel)
set_option maxRecDepth 100000 in
theorem wd976 : Cond.instanceMethod yX9_happenToOne ∈ lw_tbl := List.mem_of_getElem? (i := 976) (by decide +kernel)
set_option maxRecDepth 100000 in
theorem wd977 : Cond.code yX9_happenToOne cX9_happenToOne 4 none ∈ lw_tbl := List.mem_of_getElem? (i := 977) (by decide +kernel)
set_option maxRecDepth 100000 in
theorem wd978 : Cond.methodLink RX9 193 yX9_comeBack ∈ lw_tbl := List.mem_of_getElem? (i := 978) (by decide +kernel)
set_option maxRecDepth 100000 in
theorem wd980 : Cond.instanceMethod yX9_comeBack ∈ lw_tbl := List.mem_of_getElem? (i := 980) (by decide +kernel)
set_option maxRecDepth 100000 in
theorem wd981 : Cond.code yX9_comeBack cX9_comeBack 2 none ∈ lw_tbl := List.mem_of_getElem? (i := 981) (by decide +kernel)
set_option maxRecDepth 100000 in
theorem wd982 : Cond.methodLink RX9 253 yX9_back ∈ lw_tbl := List.mem_of_getElem? (i := 982) (by decide +kernel)
set_option maxRecDepth 100000 in
theorem wd984 : Cond.instanceMethod yX9_back ∈ lw_tbl := List.mem_of_getElem? (i := 984) (by decide +kernel)
set_option maxRecDepth 100000 in
theorem wd985 : Cond.code yX9_back cX9_back 2 (some .int) ∈ lw_tbl := List.mem_of_getElem? (i := 985) (by decide +kernel)
set_option maxRecDepth 100000 in
theorem wd987 : Cond.instanceMethod yX9_behind ∈ lw_tbl := List.mem_of_getElem? (i := 987) (by decide +kernel)
set_option maxRecDepth 100000 in
theorem wd988 : Cond.selects RX9 yX9_behind yX9_behind ∈ lw_tbl := List.mem_of_getElem? (i := 988) (by decide +kernel)
set_option maxRecDepth 100000 in
theorem wd989 : Cond.code yX9_behind cX9_behind 4 (some .int) ∈ lw_tbl := List.mem_of_getElem? (i := 989) (by decide +kernel)
set_option maxRecDepth 100000 in
theorem wd990 : Cond.constantLong RX9 259 (3) ∈ lw_tbl := List.mem_of_getElem? (i := 990) (by decide +kernel)
set_option maxRecDepth 100000 in
theorem wd991 : Cond.methodLink RX9 261 yX9_ofPerson ∈ lw_tbl := List.mem_of_getElem? (i := 991) (by decide +kernel)
set_option maxRecDepth 100000 in
theorem wd993 : Cond.instanceMethod yX9_ofPerson ∈ lw_tbl := List.mem_of_getElem? (i := 993) (by decide +kernel)
set_option maxRecDepth 100000 in
theorem wd994 : Cond.code yX9_ofPerson cX9_ofPerson 3 (some .int) ∈ lw_tbl := List.mem_of_getElem? (i := 994) (by decide +kernel)
set_option maxRecDepth 100000 in
theorem wd995 : Cond.methodLink RX9 256 yX9_carriedBy ∈ lw_tbl := List.mem_of_getElem? (i := 995) (by decide +kernel)
set_option maxRecDepth 100000 in
theorem wd997 : Cond.instanceMethod yX9_carriedBy ∈ lw_tbl := List.mem_of_getElem? (i := 997) (by decide +kernel)
set_option maxRecDepth 100000 in
theorem wd998 : Cond.code yX9_carriedBy cX9_carriedBy 4 (some .int) ∈ lw_tbl := List.mem_of_getElem? (i := 998) (by decide +kernel)
set_option maxRecDepth 100000 in
theorem wd1000 : Cond.instanceMethod yX9_lies ∈ lw_tbl := List.mem_of_getElem? (i := 1000) (by decide +kernel)
set_option maxRecDepth 100000 in
theorem wd1001 : Cond.selects RX9 yX9_lies yX9_lies ∈ lw_tbl := List.mem_of_getElem? (i := 1001) (by decide +kernel)
set_option maxRecDepth 100000 in
theorem wd1002 : Cond.code yX9_lies cX9_lies 4 (some .int) ∈ lw_tbl := List.mem_of_getElem? (i := 1002) (by decide +kernel)
set_option maxRecDepth 100000 in
theorem wd1004 : Cond.instanceMethod yX9_there ∈ lw_tbl := List.mem_of_getElem? (i := 1004) (by decide +kernel)
set_option maxRecDepth 100000 in
theorem wd1005 : Cond.selects RX9 yX9_there yX9_there ∈ lw_tbl := List.mem_of_getElem? (i := 1005) (by decide +kernel)
set_option maxRecDepth 100000 in
theorem wd1006 : Cond.code yX9_there cX9_there 3 (some .int) ∈ lw_tbl := List.mem_of_getElem? (i := 1006) (by decide +kernel)
set_option maxRecDepth 100000 in
theorem wd1007 : Cond.constantLong RX9 270 (4) ∈ lw_tbl := List.mem_of_getElem? (i := 1007) (by decide +kernel)
set_option maxRecDepth 100000 in
theorem wd1008 : Cond.methodLink RX9 272 yX9_ofAll ∈ lw_tbl := List.mem_of_getElem? (i := 1008) (by decide +kernel)
set_option maxRecDepth 100000 in
theorem wd1010 : Cond.instanceMethod yX9_ofAll ∈ lw_tbl := List.mem_of_getElem? (i := 1010) (by decide +kernel)
set_option maxRecDepth 100000 in
theorem wd1011 : Cond.code yX9_ofAll cX9_ofAll 2 (some .int) ∈ lw_tbl := List.mem_of_getElem? (i := 1011) (by decide +kernel)
set_option maxRecDepth 100000 in
theorem wd1012 : Cond.methodLink RX9 264 yX9_whoIsThere ∈ lw_tbl := List.mem_of_getElem? (i := 1012) (by decide +kernel)
set_option maxRecDepth 100000 in
theorem wd1014 : Cond.instanceMethod yX9_whoIsThere ∈ lw_tbl := List.mem_of_getElem? (i := 1014) (by decide +kernel)
set_option maxRecDepth 100000 in
theorem wd1015 : Cond.code yX9_whoIsThere cX9_whoIsThere 3 (some .int) ∈ lw_tbl := List.mem_of_getElem? (i := 1015) (by decide +kernel)
set_option maxRecDepth 100000 in
theorem wd1016 : Cond.methodLink RX9 267 yX9_whoSits ∈ lw_tbl := List.mem_of_getElem? (i := 1016) (by decide +kernel)
set_option maxRecDepth 100000 in
theorem wd1018 : Cond.instanceMethod yX9_whoSits ∈ lw_tbl := List.mem_of_getElem? (i := 1018) (by decide +kernel)
set_option maxRecDepth 100000 in
theorem wd1019 : Cond.code yX9_whoSits cX9_whoSits 3 (some .int) ∈ lw_tbl := List.mem_of_getElem? (i := 1019) (by decide +kernel)
set_option maxRecDepth 100000 in
theorem wd1021 : Cond.instanceMethod yX9_first ∈ lw_tbl := List.mem_of_getElem? (i := 1021) (by decide +kernel)
set_option maxRecDepth 100000 in
theorem wd1022 : Cond.selects RX9 yX9_first yX9_first ∈ lw_tbl := List.mem_of_getElem? (i := 1022) (by decide +kernel)
set_option maxRecDepth 100000 in
theorem wd1023 : Cond.code yX9_first cX9_first 3 (some .int) ∈ lw_tbl := List.mem_of_getElem? (i := 1023) (by decide +kernel)
set_option maxRecDepth 100000 in
theorem wd1025 : Cond.instanceMethod yX9_done ∈ lw_tbl := List.mem_of_getElem? (i := 1025) (by decide +kernel)
set_option maxRecDepth 100000 in
theorem wd1026 : Cond.selects RX9 yX9_done yX9_done ∈ lw_tbl := List.mem_of_getElem? (i := 1026) (by decide +kernel)
set_option maxRecDepth 100000 in
theorem wd1027 : Cond.code yX9_done cX9_done 2 (some .int) ∈ lw_tbl := List.mem_of_getElem? (i := 1027) (by decide +kernel)
set_option maxRecDepth 100000 in
theorem wd1029 : Cond.instanceMethod yX9_join ∈ lw_tbl := List.mem_of_getElem? (i := 1029) (by decide +kernel)
set_option maxRecDepth 100000 in
theorem wd1030 : Cond.selects RX9 yX9_join yX9_join ∈ lw_tbl := List.mem_of_getElem? (i := 1030) (by decide +kernel)
set_option maxRecDepth 100000 in
theorem wd1031 : Cond.code yX9_join cX9_join 5 (some .int) ∈ lw_tbl := List.mem_of_getElem? (i := 1031) (by decide +kernel)
set_option maxRecDepth 100000 in
theorem wd1032 : Cond.methodLink RX9 275 yX9_besideAll ∈ lw_tbl := List.mem_of_getElem? (i := 1032) (by decide +kernel)
set_option maxRecDepth 100000 in
theorem wd1034 : Cond.instanceMethod yX9_besideAll ∈ lw_tbl := List.mem_of_getElem? (i := 1034) (by decide +kernel)
set_option maxRecDepth 100000 in
theorem wd1035 : Cond.code yX9_besideAll cX9_besideAll 4 (some .int) ∈ lw_tbl := List.mem_of_getElem? (i := 1035) (by decide +kernel)
set_option maxRecDepth 100000 in
theorem wd1037 : Cond.instanceMethod yX9_cut ∈ lw_tbl := List.mem_of_getElem? (i := 1037) (by decide +kernel)
set_option maxRecDepth 100000 in
theorem wd1038 : Cond.selects RX9 yX9_cut yX9_cut ∈ lw_tbl := List.mem_of_getElem? (i := 1038) (by decide +kernel)
set_option maxRecDepth 100000 in
theorem wd1039 : Cond.code yX9_cut cX9_cut 7 (some .int) ∈ lw_tbl := List.mem_of_getElem? (i := 1039) (by decide +kernel)
set_option maxRecDepth 100000 in
theorem wd1040 : Cond.methodLink RX9 278 yX9_waysOut ∈ lw_tbl := List.mem_of_getElem? (i := 1040) (by decide +kernel)
set_option maxRecDepth 100000 in
theorem wd1042 : Cond.instanceMethod yX9_waysOut ∈ lw_tbl := List.mem_of_getElem? (i := 1042) (by decide +kernel)
set_option maxRecDepth 100000 in
theorem wd1043 : Cond.code yX9_waysOut cX9_waysOut 4 (some .int) ∈ lw_tbl := List.mem_of_getElem? (i := 1043) (by decide +kernel)
set_option maxRecDepth 100000 in
theorem wd1045 : Cond.instanceMethod yX9_rule ∈ lw_tbl := List.mem_of_getElem? (i := 1045) (by decide +kernel)
set_option maxRecDepth 100000 in
theorem wd1046 : Cond.selects RX9 yX9_rule yX9_rule ∈ lw_tbl := List.mem_of_getElem? (i := 1046) (by decide +kernel)
set_option maxRecDepth 100000 in
theorem wd1047 : Cond.code yX9_rule cX9_rule 4 (some .int) ∈ lw_tbl := List.mem_of_getElem? (i := 1047) (by decide +kernel)
set_option maxRecDepth 100000 in
theorem wd1049 : Cond.instanceMethod yX9_unrule ∈ lw_tbl := List.mem_of_getElem? (i := 1049) (by decide +kernel)
set_option maxRecDepth 100000 in
theorem wd1050 : Cond.selects RX9 yX9_unrule yX9_unrule ∈ lw_tbl := List.mem_of_getElem? (i := 1050) (by decide +kernel)
set_option maxRecDepth 100000 in
theorem wd1051 : Cond.code yX9_unrule cX9_unrule 2 (some .int) ∈ lw_tbl := List.mem_of_getElem? (i := 1051) (by decide +kernel)
set_option maxRecDepth 100000 in
theorem wd1053 : Cond.instanceMethod yX9_close ∈ lw_tbl := List.mem_of_getElem? (i := 1053) (by decide +kernel)
set_option maxRecDepth 100000 in
theorem wd1054 : Cond.selects RX9 yX9_close yX9_close ∈ lw_tbl := List.mem_of_getElem? (i := 1054) (by decide +kernel)
set_option maxRecDepth 100000 in
theorem wd1055 : Cond.code yX9_close cX9_close 2 (some .int) ∈ lw_tbl := List.mem_of_getElem? (i := 1055) (by decide +kernel)
set_option maxRecDepth 100000 in
theorem wd1056 : Cond.constantLong RX9 287 (1023) ∈ lw_tbl := List.mem_of_getElem? (i := 1056) (by decide +kernel)
set_option maxRecDepth 100000 in
theorem wd1057 : Cond.methodLink RX9 289 yX9_closedOf ∈ lw_tbl := List.mem_of_getElem? (i := 1057) (by decide +kernel)
set_option maxRecDepth 100000 in
theorem wd1059 : Cond.instanceMethod yX9_closedOf ∈ lw_tbl := List.mem_of_getElem? (i := 1059) (by decide +kernel)
set_option maxRecDepth 100000 in
theorem wd1060 : Cond.code yX9_closedOf cX9_closedOf 4 (some .int) ∈ lw_tbl := List.mem_of_getElem? (i := 1060) (by decide +kernel)
set_option maxRecDepth 100000 in
theorem wd1061 : Cond.methodLink RX9 284 yX9_onceMore ∈ lw_tbl := List.mem_of_getElem? (i := 1061) (by decide +kernel)
set_option maxRecDepth 100000 in
theorem wd1063 : Cond.instanceMethod yX9_onceMore ∈ lw_tbl := List.mem_of_getElem? (i := 1063) (by decide +kernel)
set_option maxRecDepth 100000 in
theorem wd1064 : Cond.code yX9_onceMore cX9_onceMore 4 (some .int) ∈ lw_tbl := List.mem_of_getElem? (i := 1064) (by decide +kernel)
set_option maxRecDepth 100000 in
theorem wd1066 : Cond.instanceMethod yX9_least ∈ lw_tbl := List.mem_of_getElem? (i := 1066) (by decide +kernel)
set_option maxRecDepth 100000 in
theorem wd1067 : Cond.selects RX9 yX9_least yX9_least ∈ lw_tbl := List.mem_of_getElem? (i := 1067) (by decide +kernel)
set_option maxRecDepth 100000 in
theorem wd1068 : Cond.code yX9_least cX9_least 6 (some .int) ∈ lw_tbl := List.mem_of_getElem? (i := 1068) (by decide +kernel)
set_option maxRecDepth 100000 in
theorem wd1070 : Cond.instanceMethod yX9_swore ∈ lw_tbl := List.mem_of_getElem? (i := 1070) (by decide +kernel)
set_option maxRecDepth 100000 in
theorem wd1071 : Cond.selects RX9 yX9_swore yX9_swore ∈ lw_tbl := List.mem_of_getElem? (i := 1071) (by decide +kernel)
set_option maxRecDepth 100000 in
theorem wd1072 : Cond.code yX9_swore cX9_swore 5 (some .int) ∈ lw_tbl := List.mem_of_getElem? (i := 1072) (by decide +kernel)
set_option maxRecDepth 100000 in
theorem wd1073 : Cond.methodLink RX9 292 yX9_isQuestion ∈ lw_tbl := List.mem_of_getElem? (i := 1073) (by decide +kernel)
set_option maxRecDepth 100000 in
theorem wd1074 : Cond.static yX9_isQuestion ∈ lw_tbl := List.mem_of_getElem? (i := 1074) (by decide +kernel)
set_option maxRecDepth 100000 in
theorem wd1075 : Cond.code yX9_isQuestion cX9_isQuestion 3 (some .boolean) ∈ lw_tbl := List.mem_of_getElem? (i := 1075) (by decide +kernel)
set_option maxRecDepth 100000 in
theorem wd1077 : Cond.instanceMethod yX9_forget ∈ lw_tbl := List.mem_of_getElem? (i := 1077) (by decide +kernel)
set_option maxRecDepth 100000 in
theorem wd1078 : Cond.selects RX9 yX9_forget yX9_forget ∈ lw_tbl := List.mem_of_getElem? (i := 1078) (by decide +kernel)
set_option maxRecDepth 100000 in
theorem wd1079 : Cond.code yX9_forget cX9_forget 2 (some .int) ∈ lw_tbl := List.mem_of_getElem? (i := 1079) (by decide +kernel)
set_option maxRecDepth 100000 in
theorem wd1081 : Cond.instanceMethod yX9_liars ∈ lw_tbl := List.mem_of_getElem? (i := 1081) (by decide +kernel)
set_option maxRecDepth 100000 in
theorem wd1082 : Cond.selects RX9 yX9_liars yX9_liars ∈ lw_tbl := List.mem_of_getElem? (i := 1082) (by decide +kernel)
set_option maxRecDepth 100000 in
theorem wd1083 : Cond.code yX9_liars cX9_liars 4 (some .int) ∈ lw_tbl := List.mem_of_getElem? (i := 1083) (by decide +kernel)
set_option maxRecDepth 100000 in
theorem wd1084 : Cond.methodLink RX9 303 yX9_isFit ∈ lw_tbl := List.mem_of_getElem? (i := 1084) (by decide +kernel)
set_option maxRecDepth 100000 in
theorem wd1086 : Cond.instanceMethod yX9_isFit ∈ lw_tbl := List.mem_of_getElem? (i := 1086) (by decide +kernel)
set_option maxRecDepth 100000 in
theorem wd1087 : Cond.code yX9_isFit cX9_isFit 4 (some .boolean) ∈ lw_tbl := List.mem_of_getElem? (i := 1087) (by decide +kernel)
set_option maxRecDepth 100000 in
theorem wd1088 : Cond.methodLink RX9 299 yX9_says ∈ lw_tbl := List.mem_of_getElem? (i := 1088) (by decide +kernel)
set_option maxRecDepth 100000 in
theorem wd1089 : Cond.static yX9_says ∈ lw_tbl := List.mem_of_getElem? (i := 1089) (by decide +kernel)
set_option maxRecDepth 100000 in
theorem wd1090 : Cond.code yX9_says cX9_says 5 (some .int) ∈ lw_tbl := List.mem_of_getElem? (i := 1090) (by decide +kernel)
set_option maxRecDepth 100000 in
theorem wd1092 : Cond.instanceMethod yX9_ask ∈ lw_tbl := List.mem_of_getElem? (i := 1092) (by decide +kernel)
set_option maxRecDepth 100000 in
theorem wd1093 : Cond.selects RX9 yX9_ask yX9_ask ∈ lw_tbl := List.mem_of_getElem? (i := 1093) (by decide +kernel)
set_option maxRecDepth 100000 in
theorem wd1094 : Cond.code yX9_ask cX9_ask 7 (some .int) ∈ lw_tbl := List.mem_of_getElem? (i := 1094) (by decide +kernel)
set_option maxRecDepth 100000 in
theorem wd1095 : Cond.methodLink RX9 306 yX9_mostLeft ∈ lw_tbl := List.mem_of_getElem? (i := 1095) (by decide +kernel)
set_option maxRecDepth 100000 in
theorem wd1097 : Cond.instanceMethod yX9_mostLeft ∈ lw_tbl := List.mem_of_getElem? (i := 1097) (by decide +kernel)
set_option maxRecDepth 100000 in
theorem wd1098 : Cond.code yX9_mostLeft cX9_mostLeft 8 (some .int) ∈ lw_tbl := List.mem_of_getElem? (i := 1098) (by decide +kernel)
set_option maxRecDepth 100000 in
theorem wd1100 : Cond.instanceMethod yX9_walk ∈ lw_tbl := List.mem_of_getElem? (i := 1100) (by decide +kernel)
set_option maxRecDepth 100000 in
theorem wd1101 : Cond.selects RX9 yX9_walk yX9_walk ∈ lw_tbl := List.mem_of_getElem? (i := 1101) (by decide +kernel)
set_option maxRecDepth 100000 in
theorem wd1102 : Cond.code yX9_walk cX9_walk 5 (some .int) ∈ lw_tbl := List.mem_of_getElem? (i := 1102) (by decide +kernel)
set_option maxRecDepth 100000 in
theorem wd1103 : Cond.methodLink RX9 309 yX9_leastGo ∈ lw_tbl := List.mem_of_getElem? (i := 1103) (by decide +kernel)
set_option maxRecDepth 100000 in
theorem wd1105 : Cond.instanceMethod yX9_leastGo ∈ lw_tbl := List.mem_of_getElem? (i := 1105) (by decide +kernel)
set_option maxRecDepth 100000 in
theorem wd1106 : Cond.code yX9_leastGo cX9_leastGo 6 (some .int) ∈ lw_tbl := List.mem_of_getElem? (i := 1106) (by decide +kernel)
set_option maxRecDepth 100000 in
theorem wd1108 : Cond.instanceMethod yX9_hang ∈ lw_tbl := List.mem_of_getElem? (i := 1108) (by decide +kernel)
set_option maxRecDepth 100000 in
theorem wd1109 : Cond.selects RX9 yX9_hang yX9_hang ∈ lw_tbl := List.mem_of_getElem? (i := 1109) (by decide +kernel)
set_option maxRecDepth 100000 in
theorem wd1110 : Cond.code yX9_hang cX9_hang 9 (some .long) ∈ lw_tbl := List.mem_of_getElem? (i := 1110) (by decide +kernel)
set_option maxRecDepth 100000 in
theorem wd1111 : Cond.constantLong RX9 312 (10) ∈ lw_tbl := List.mem_of_getElem? (i := 1111) (by decide +kernel)
set_option maxRecDepth 100000 in
theorem wd1112 : Cond.constantLong RX9 314 (-1000000000000000002) ∈ lw_tbl := List.mem_of_getElem? (i := 1112) (by decide +kernel)
set_option maxRecDepth 100000 in
theorem wd1113 : Cond.methodLink RX9 316 yX9_lowest ∈ lw_tbl := List.mem_of_getElem? (i := 1113) (by decide +kernel)
set_option maxRecDepth 100000 in
theorem wd1114 : Cond.static yX9_lowest ∈ lw_tbl := List.mem_of_getElem? (i := 1114) (by decide +kernel)
set_option maxRecDepth 100000 in
theorem wd1115 : Cond.code yX9_lowest cX9_lowest 11 (some .long) ∈ lw_tbl := List.mem_of_getElem? (i := 1115) (by decide +kernel)
set_option maxRecDepth 100000 in
theorem wd1116 : Cond.methodLink RX9 320 yX9_layNet ∈ lw_tbl := List.mem_of_getElem? (i := 1116) (by decide +kernel)
set_option maxRecDepth 100000 in
theorem wd1118 : Cond.instanceMethod yX9_layNet ∈ lw_tbl := List.mem_of_getElem? (i := 1118) (by decide +kernel)
set_option maxRecDepth 100000 in
theorem wd1119 : Cond.code yX9_layNet cX9_layNet 6 none ∈ lw_tbl := List.mem_of_getElem? (i := 1119) (by decide +kernel)
set_option maxRecDepth 100000 in
theorem wd1120 : Cond.methodLink RX9 324 yX9_hangs ∈ lw_tbl := List.mem_of_getElem? (i := 1120) (by decide +kernel)
set_option maxRecDepth 100000 in
theorem wd1122 : Cond.instanceMethod yX9_hangs ∈ lw_tbl := List.mem_of_getElem? (i := 1122) (by decide +kernel)
set_option maxRecDepth 100000 in
theorem wd1123 : Cond.code yX9_hangs cX9_hangs 5 (some .boolean) ∈ lw_tbl := List.mem_of_getElem? (i := 1123) (by decide +kernel)
set_option maxRecDepth 100000 in
theorem wd1124 : Cond.methodLink RX9 327 yX9_power ∈ lw_tbl := List.mem_of_getElem? (i := 1124) (by decide +kernel)
set_option maxRecDepth 100000 in
theorem wd1125 : Cond.static yX9_power ∈ lw_tbl := List.mem_of_getElem? (i := 1125) (by decide +kernel)
set_option maxRecDepth 100000 in
theorem wd1126 : Cond.code yX9_power cX9_power 6 (some .long) ∈ lw_tbl := List.mem_of_getElem? (i := 1126) (by decide +kernel)
set_option maxRecDepth 100000 in
theorem wd1128 : Cond.instanceMethod yX9_year ∈ lw_tbl := List.mem_of_getElem? (i := 1128) (by decide +kernel)
set_option maxRecDepth 100000 in
theorem wd1129 : Cond.selects RX9 yX9_year yX9_year ∈ lw_tbl := List.mem_of_getElem? (i := 1129) (by decide +kernel)
set_option maxRecDepth 100000 in
theorem wd1130 : Cond.code yX9_year cX9_year 6 (some .int) ∈ lw_tbl := List.mem_of_getElem? (i := 1130) (by decide +kernel)
set_option maxRecDepth 100000 in
theorem wd1131 : Cond.constantLong RX9 334 (9999) ∈ lw_tbl := List.mem_of_getElem? (i := 1131) (by decide +kernel)
set_option maxRecDepth 100000 in
theorem wd1132 : Cond.constantLong RX9 336 (99) ∈ lw_tbl := List.mem_of_getElem? (i := 1132) (by decide +kernel)
set_option maxRecDepth 100000 in
theorem wd1133 : Cond.constantLong RX9 338 (75) ∈ lw_tbl := List.mem_of_getElem? (i := 1133) (by decide +kernel)
set_option maxRecDepth 100000 in
theorem wd1134 : Cond.constantLong RX9 340 (74) ∈ lw_tbl := List.mem_of_getElem? (i := 1134) (by decide +kernel)
set_option maxRecDepth 100000 in
theorem wd1135 : Cond.constantLong RX9 342 (65537) ∈ lw_tbl := List.mem_of_getElem? (i := 1135) (by decide +kernel)
set_option maxRecDepth 100000 in
theorem wd1136 : Cond.methodLink RX9 344 yX9_drawn ∈ lw_tbl := List.mem_of_getElem? (i := 1136) (by decide +kernel)
set_option maxRecDepth 100000 in
theorem wd1138 : Cond.instanceMethod yX9_drawn ∈ lw_tbl := List.mem_of_getElem? (i := 1138) (by decide +kernel)
set_option maxRecDepth 100000 in
theorem wd1139 : Cond.code yX9_drawn cX9_drawn 6 none ∈ lw_tbl := List.mem_of_getElem? (i := 1139) (by decide +kernel)
set_option maxRecDepth 100000 in
theorem wd1140 : Cond.methodLink RX9 331 yX9_actBy ∈ lw_tbl := List.mem_of_getElem? (i := 1140) (by decide +kernel)
set_option maxRecDepth 100000 in
theorem wd1141 : Cond.static yX9_actBy ∈ lw_tbl := List.mem_of_getElem? (i := 1141) (by decide +kernel)
set_option maxRecDepth 100000 in
theorem wd1142 : Cond.code yX9_actBy cX9_actBy 2 (some .int) ∈ lw_tbl := List.mem_of_getElem? (i := 1142) (by decide +kernel)
set_option maxRecDepth 100000 in
theorem wd1144 : Cond.instanceMethod yX9_image ∈ lw_tbl := List.mem_of_getElem? (i := 1144) (by decide +kernel)
set_option maxRecDepth 100000 in
theorem wd1145 : Cond.selects RX9 yX9_image yX9_image ∈ lw_tbl := List.mem_of_getElem? (i := 1145) (by decide +kernel)
set_option maxRecDepth 100000 in
theorem wd1146 : Cond.code yX9_image cX9_image 2 (some .int) ∈ lw_tbl := List.mem_of_getElem? (i := 1146) (by decide +kernel)
set_option maxRecDepth 100000 in
theorem wd1147 : Cond.methodLink RX9 359 yX9_passAll ∈ lw_tbl := List.mem_of_getElem? (i := 1147) (by decide +kernel)
set_option maxRecDepth 100000 in
theorem wd1149 : Cond.instanceMethod yX9_passAll ∈ lw_tbl := List.mem_of_getElem? (i := 1149) (by decide +kernel)
set_option maxRecDepth 100000 in
theorem wd1150 : Cond.code yX9_passAll cX9_passAll 1 none ∈ lw_tbl := List.mem_of_getElem? (i := 1150) (by decide +kernel)
set_option maxRecDepth 100000 in
theorem wd1151 : Cond.methodLink RX9 353 yX9_pass ∈ lw_tbl := List.mem_of_getElem? (i := 1151) (by decide +kernel)
set_option maxRecDepth 100000 in
theorem wd1153 : Cond.instanceMethod yX9_pass ∈ lw_tbl := List.mem_of_getElem? (i := 1153) (by decide +kernel)
set_option maxRecDepth 100000 in
theorem wd1154 : Cond.code yX9_pass cX9_pass 3 (some .int) ∈ lw_tbl := List.mem_of_getElem? (i := 1154) (by decide +kernel)
set_option maxRecDepth 100000 in
theorem wd1155 : Cond.methodLink RX9 356 yX9_passRow ∈ lw_tbl := List.mem_of_getElem? (i := 1155) (by decide +kernel)
set_option maxRecDepth 100000 in
theorem wd1157 : Cond.instanceMethod yX9_passRow ∈ lw_tbl := List.mem_of_getElem? (i := 1157) (by decide +kernel)
set_option maxRecDepth 100000 in
theorem wd1158 : Cond.code yX9_passRow cX9_passRow 4 none ∈ lw_tbl := List.mem_of_getElem? (i := 1158) (by decide +kernel)
set_option maxRecDepth 100000 in
theorem wd1160 : Cond.instanceMethod yX9_restore ∈ lw_tbl := List.mem_of_getElem? (i := 1160) (by decide +kernel)
set_option maxRecDepth 100000 in
theorem wd1161 : Cond.selects RX9 yX9_restore yX9_restore ∈ lw_tbl := List.mem_of_getElem? (i := 1161) (by decide +kernel)
set_option maxRecDepth 100000 in
theorem wd1162 : Cond.code yX9_restore cX9_restore 2 (some .int) ∈ lw_tbl := List.mem_of_getElem? (i := 1162) (by decide +kernel)
set_option maxRecDepth 100000 in
theorem wd1164 : Cond.instanceMethod yX9_told ∈ lw_tbl := List.mem_of_getElem? (i := 1164) (by decide +kernel)
set_option maxRecDepth 100000 in
theorem wd1165 : Cond.selects RX9 yX9_told yX9_told ∈ lw_tbl := List.mem_of_getElem? (i := 1165) (by decide +kernel)
set_option maxRecDepth 100000 in
theorem wd1166 : Cond.code yX9_told cX9_told 2 (some .int) ∈ lw_tbl := List.mem_of_getElem? (i := 1166) (by decide +kernel)
set_option maxRecDepth 100000 in
theorem wd1167 : Cond.constantLong RX9 362 (39) ∈ lw_tbl := List.mem_of_getElem? (i := 1167) (by decide +kernel)
set_option maxRecDepth 100000 in
theorem wd1168 : Cond.methodLink RX9 364 yX9_toldOfPerson ∈ lw_tbl := List.mem_of_getElem? (i := 1168) (by decide +kernel)
set_option maxRecDepth 100000 in
theorem wd1170 : Cond.instanceMethod yX9_toldOfPerson ∈ lw_tbl := List.mem_of_getElem? (i := 1170) (by decide +kernel)
set_option maxRecDepth 100000 in
theorem wd1171 : Cond.code yX9_toldOfPerson cX9_toldOfPerson 3 (some .int) ∈ lw_tbl := List.mem_of_getElem? (i := 1171) (by decide +kernel)
set_option maxRecDepth 100000 in
theorem wd1172 : Cond.constantLong RX9 367 (40) ∈ lw_tbl := List.mem_of_getElem? (i := 1172) (by decide +kernel)
set_option maxRecDepth 100000 in
theorem wd1173 : Cond.constantLong RX9 369 (69) ∈ lw_tbl := List.mem_of_getElem? (i := 1173) (by decide +kernel)
set_option maxRecDepth 100000 in
theorem wd1174 : Cond.methodLink RX9 371 yX9_toldOfOther ∈ lw_tbl := List.mem_of_getElem? (i := 1174) (by decide +kernel)
set_option maxRecDepth 100000 in
theorem wd1176 : Cond.instanceMethod yX9_toldOfOther ∈ lw_tbl := List.mem_of_getElem? (i := 1176) (by decide +kernel)
set_option maxRecDepth 100000 in
theorem wd1177 : Cond.code yX9_toldOfOther cX9_toldOfOther 3 (some .int) ∈ lw_tbl := List.mem_of_getElem? (i := 1177) (by decide +kernel)
set_option maxRecDepth 100000 in
theorem wd1178 : Cond.methodLink RX9 374 yX9_toldOfAll ∈ lw_tbl := List.mem_of_getElem? (i := 1178) (by decide +kernel)
set_option maxRecDepth 100000 in
theorem wd1180 : Cond.instanceMethod yX9_toldOfAll ∈ lw_tbl := List.mem_of_getElem? (i := 1180) (by decide +kernel)
set_option maxRecDepth 100000 in
theorem wd1181 : Cond.code yX9_toldOfAll cX9_toldOfAll 2 (some .int) ∈ lw_tbl := List.mem_of_getElem? (i := 1181) (by decide +kernel)
section
variable {p : Program} {l : Launch} {e : Env} {R : Room} {s : State} {m : MethodId} {args : Array Value} {below : List Frame} {meth : Method} {c : Code} {H : Heap} {locs : List Loc} {cells slots : Nat} {Q : State → Prop} {cc : ByteArray} {pc nL : Nat} {ls : Array Slot} {rest : List Value} {D : va_G} {cy : Nat → ClassId} {A : Nat → Prop} {H0 : Heap} {own : String} {Ps : List va_W}
variable {a : Nat}
set_option maxRecDepth 100000 in
theorem gf_X9_7 {q : Nat → Nat} {σ : pStt} (S : CX p m c cc nL s args RX9 D cy) (hw : PW D A H0 Ps H locs) (j : Nat) (hj : Ps[j]? = some (pX9 cy a q σ)) (hdg : decode cc pc = .ok (.getfield 7, 3)) (kk : W p l e R s m args below meth c H locs cells slots Q (F0 m (pc + 3) ls (.ref (q 0) :: rest))) : W p l e R s m args below meth c H locs cells slots Q (F0 m pc ls (.ref a :: rest)) :=
  w_get S hw j 0 hj rfl rfl (lay_X9 S.2.2.2.2) 0 (by decide) (S.2.2.2.2.wd wd697 rfl) rfl rfl hdg kk
set_option maxRecDepth 100000 in
theorem gf_X9_13 {q : Nat → Nat} {σ : pStt} (S : CX p m c cc nL s args RX9 D cy) (hw : PW D A H0 Ps H locs) (j : Nat) (hj : Ps[j]? = some (pX9 cy a q σ)) (hdg : decode cc pc = .ok (.getfield 13, 3)) (kk : W p l e R s m args below meth c H locs cells slots Q (F0 m (pc + 3) ls (.ref (q 1) :: rest))) : W p l e R s m args below meth c H locs cells slots Q (F0 m pc ls (.ref a :: rest)) :=
  w_get S hw j 0 hj rfl rfl (lay_X9 S.2.2.2.2) 1 (by decide) (S.2.2.2.2.wd wd698 rfl) rfl rfl hdg kk
set_option maxRecDepth 100000 in
theorem gf_X9_16 {q : Nat → Nat} {σ : pStt} (S : CX p m c cc nL s args RX9 D cy) (hw : PW D A H0 Ps H locs) (j : Nat) (hj : Ps[j]? = some (pX9 cy a q σ)) (hdg : decode cc pc = .ok (.getfield 16, 3)) (kk : W p l e R s m args below meth c H locs cells slots Q (F0 m (pc + 3) ls (.ref (q 2) :: rest))) : W p l e R s m args below meth c H locs cells slots Q (F0 m pc ls (.ref a :: rest)) :=
  w_get S hw j 0 hj rfl rfl (lay_X9 S.2.2.2.2) 2 (by decide) (S.2.2.2.2.wd wd699 rfl) rfl rfl hdg kk
set_option maxRecDepth 100000 in
theorem gf_X9_19 {q : Nat → Nat} {σ : pStt} (S : CX p m c cc nL s args RX9 D cy) (hw : PW D A H0 Ps H locs) (j : Nat) (hj : Ps[j]? = some (pX9 cy a q σ)) (hdg : decode cc pc = .ok (.getfield 19, 3)) (kk : W p l e R s m args below meth c H locs cells slots Q (F0 m (pc + 3) ls (.ref (q 3) :: rest))) : W p l e R s m args below meth c H locs cells slots Q (F0 m pc ls (.ref a :: rest)) :=
  w_get S hw j 0 hj rfl rfl (lay_X9 S.2.2.2.2) 3 (by decide) (S.2.2.2.2.wd wd700 rfl) rfl rfl hdg kk
set_option maxRecDepth 100000 in
theorem gf_X9_22 {q : Nat → Nat} {σ : pStt} (S : CX p m c cc nL s args RX9 D cy) (hw : PW D A H0 Ps H locs) (j : Nat) (hj : Ps[j]? = some (pX9 cy a q σ)) (hdg : decode cc pc = .ok (.getfield 22, 3)) (kk : W p l e R s m args below meth c H locs cells slots Q (F0 m (pc + 3) ls (.ref (q 4) :: rest))) : W p l e R s m args below meth c H locs cells slots Q (F0 m pc ls (.ref a :: rest)) :=
  w_get S hw j 0 hj rfl rfl (lay_X9 S.2.2.2.2) 4 (by decide) (S.2.2.2.2.wd wd701 rfl) rfl rfl hdg kk
set_option maxRecDepth 100000 in
theorem gf_X9_25 {q : Nat → Nat} {σ : pStt} (S : CX p m c cc nL s args RX9 D cy) (hw : PW D A H0 Ps H locs) (j : Nat) (hj : Ps[j]? = some (pX9 cy a q σ)) (hdg : decode cc pc = .ok (.getfield 25, 3)) (kk : W p l e R s m args below meth c H locs cells slots Q (F0 m (pc + 3) ls (.ref (q 5) :: rest))) : W p l e R s m args below meth c H locs cells slots Q (F0 m pc ls (.ref a :: rest)) :=
  w_get S hw j 0 hj rfl rfl (lay_X9 S.2.2.2.2) 7 (by decide) (S.2.2.2.2.wd wd704 rfl) rfl rfl hdg kk
set_option maxRecDepth 100000 in
theorem gf_X9_28 {q : Nat → Nat} {σ : pStt} (S : CX p m c cc nL s args RX9 D cy) (hw : PW D A H0 Ps H locs) (j : Nat) (hj : Ps[j]? = some (pX9 cy a q σ)) (hdg : decode cc pc = .ok (.getfield 28, 3)) (kk : W p l e R s m args below meth c H locs cells slots Q (F0 m (pc + 3) ls (.ref (q 6) :: rest))) : W p l e R s m args below meth c H locs cells slots Q (F0 m pc ls (.ref a :: rest)) :=
  w_get S hw j 0 hj rfl rfl (lay_X9 S.2.2.2.2) 8 (by decide) (S.2.2.2.2.wd wd705 rfl) rfl rfl hdg kk
set_option maxRecDepth 100000 in
theorem gf_X9_31 {q : Nat → Nat} {σ : pStt} (S : CX p m c cc nL s args RX9 D cy) (hw : PW D A H0 Ps H locs) (j : Nat) (hj : Ps[j]? = some (pX9 cy a q σ)) (hdg : decode cc pc = .ok (.getfield 31, 3)) (kk : W p l e R s m args below meth c H locs cells slots Q (F0 m (pc + 3) ls (.ref (q 7) :: rest))) : W p l e R s m args below meth c H locs cells slots Q (F0 m pc ls (.ref a :: rest)) :=
  w_get S hw j 0 hj rfl rfl (lay_X9 S.2.2.2.2) 9 (by decide) (S.2.2.2.2.wd wd706 rfl) rfl rfl hdg kk
set_option maxRecDepth 100000 in
theorem gf_X9_34 {q : Nat → Nat} {σ : pStt} (S : CX p m c cc nL s args RX9 D cy) (hw : PW D A H0 Ps H locs) (j : Nat) (hj : Ps[j]? = some (pX9 cy a q σ)) (hdg : decode cc pc = .ok (.getfield 34, 3)) (kk : W p l e R s m args below meth c H locs cells slots Q (F0 m (pc + 3) ls (.ref (q 8) :: rest))) : W p l e R s m args below meth c H locs cells slots Q (F0 m pc ls (.ref a :: rest)) :=
  w_get S hw j 0 hj rfl rfl (lay_X9 S.2.2.2.2) 11 (by decide) (S.2.2.2.2.wd wd708 rfl) rfl rfl hdg kk
set_option maxRecDepth 100000 in
theorem gf_X9_37 {q : Nat → Nat} {σ : pStt} (S : CX p m c cc nL s args RX9 D cy) (hw : PW D A H0 Ps H locs) (j : Nat) (hj : Ps[j]? = some (pX9 cy a q σ)) (hdg : decode cc pc = .ok (.getfield 37, 3)) (kk : W p l e R s m args below meth c H locs cells slots Q (F0 m (pc + 3) ls (.ref (q 9) :: rest))) : W p l e R s m args below meth c H locs cells slots Q (F0 m pc ls (.ref a :: rest)) :=
  w_get S hw j 0 hj rfl rfl (lay_X9 S.2.2.2.2) 12 (by decide) (S.2.2.2.2.wd wd709 rfl) rfl rfl hdg kk
set_option maxRecDepth 100000 in
theorem gf_X9_40 {q : Nat → Nat} {σ : pStt} (S : CX p m c cc nL s args RX9 D cy) (hw : PW D A H0 Ps H locs) (j : Nat) (hj : Ps[j]? = some (pX9 cy a q σ)) (hdg : decode cc pc = .ok (.getfield 40, 3)) (kk : W p l e R s m args below meth c H locs cells slots Q (F0 m (pc + 3) ls (.ref (q 10) :: rest))) : W p l e R s m args below meth c H locs cells slots Q (F0 m pc ls (.ref a :: rest)) :=
  w_get S hw j 0 hj rfl rfl (lay_X9 S.2.2.2.2) 13 (by decide) (S.2.2.2.2.wd wd710 rfl) rfl rfl hdg kk
set_option maxRecDepth 100000 in
theorem gf_X9_43 {q : Nat → Nat} {σ : pStt} (S : CX p m c cc nL s args RX9 D cy) (hw : PW D A H0 Ps H locs) (j : Nat) (hj : Ps[j]? = some (pX9 cy a q σ)) (hdg : decode cc pc = .ok (.getfield 43, 3)) (kk : W p l e R s m args below meth c H locs cells slots Q (F0 m (pc + 3) ls (.ref (q 11) :: rest))) : W p l e R s m args below meth c H locs cells slots Q (F0 m pc ls (.ref a :: rest)) :=
  w_get S hw j 0 hj rfl rfl (lay_X9 S.2.2.2.2) 14 (by decide) (S.2.2.2.2.wd wd711 rfl) rfl rfl hdg kk
set_option maxRecDepth 100000 in
theorem gf_X9_46 {q : Nat → Nat} {σ : pStt} (S : CX p m c cc nL s args RX9 D cy) (hw : PW D A H0 Ps H locs) (j : Nat) (hj : Ps[j]? = some (pX9 cy a q σ)) (hdg : decode cc pc = .ok (.getfield 46, 3)) (kk : W p l e R s m args below meth c H locs cells slots Q (F0 m (pc + 3) ls (.ref (q 12) :: rest))) : W p l e R s m args below meth c H locs cells slots Q (F0 m pc ls (.ref a :: rest)) :=
  w_get S hw j 0 hj rfl rfl (lay_X9 S.2.2.2.2) 16 (by decide) (S.2.2.2.2.wd wd713 rfl) rfl rfl hdg kk
set_option maxRecDepth 100000 in
theorem gf_X9_49 {q : Nat → Nat} {σ : pStt} (S : CX p m c cc nL s args RX9 D cy) (hw : PW D A H0 Ps H locs) (j : Nat) (hj : Ps[j]? = some (pX9 cy a q σ)) (hdg : decode cc pc = .ok (.getfield 49, 3)) (kk : W p l e R s m args below meth c H locs cells slots Q (F0 m (pc + 3) ls (.ref (q 13) :: rest))) : W p l e R s m args below meth c H locs cells slots Q (F0 m pc ls (.ref a :: rest)) :=
  w_get S hw j 0 hj rfl rfl (lay_X9 S.2.2.2.2) 18 (by decide) (S.2.2.2.2.wd wd715 rfl) rfl rfl hdg kk
set_option maxRecDepth 100000 in
theorem gf_X9_52 {q : Nat → Nat} {σ : pStt} (S : CX p m c cc nL s args RX9 D cy) (hw : PW D A H0 Ps H locs) (j : Nat) (hj : Ps[j]? = some (pX9 cy a q σ)) (hdg : decode cc pc = .ok (.getfield 52, 3)) (kk : W p l e R s m args below meth c H locs cells slots Q (F0 m (pc + 3) ls (.ref (q 14) :: rest))) : W p l e R s m args below meth c H locs cells slots Q (F0 m pc ls (.ref a :: rest)) :=
  w_get S hw j 0 hj rfl rfl (lay_X9 S.2.2.2.2) 19 (by decide) (S.2.2.2.2.wd wd716 rfl) rfl rfl hdg kk
set_option maxRecDepth 100000 in
theorem gf_X9_55 {q : Nat → Nat} {σ : pStt} (S : CX p m c cc nL s args RX9 D cy) (hw : PW D A H0 Ps H locs) (j : Nat) (hj : Ps[j]? = some (pX9 cy a q σ)) (hdg : decode cc pc = .ok (.getfield 55, 3)) (kk : W p l e R s m args below meth c H locs cells slots Q (F0 m (pc + 3) ls (.ref (q 15) :: rest))) : W p l e R s m args below meth c H locs cells slots Q (F0 m pc ls (.ref a :: rest)) :=
  w_get S hw j 0 hj rfl rfl (lay_X9 S.2.2.2.2) 20 (by decide) (S.2.2.2.2.wd wd717 rfl) rfl rfl hdg kk
set_option maxRecDepth 100000 in
theorem gf_X9_58 {q : Nat → Nat} {σ : pStt} (S : CX p m c cc nL s args RX9 D cy) (hw : PW D A H0 Ps H locs) (j : Nat) (hj : Ps[j]? = some (pX9 cy a q σ)) (hdg : decode cc pc = .ok (.getfield 58, 3)) (kk : W p l e R s m args below meth c H locs cells slots Q (F0 m (pc + 3) ls (.ref (q 16) :: rest))) : W p l e R s m args below meth c H locs cells slots Q (F0 m pc ls (.ref a :: rest)) :=
  w_get S hw j 0 hj rfl rfl (lay_X9 S.2.2.2.2) 24 (by decide) (S.2.2.2.2.wd wd721 rfl) rfl rfl hdg kk
set_option maxRecDepth 100000 in
theorem gf_X9_61 {q : Nat → Nat} {σ : pStt} (S : CX p m c cc nL s args RX9 D cy) (hw : PW D A H0 Ps H locs) (j : Nat) (hj : Ps[j]? = some (pX9 cy a q σ)) (hdg : decode cc pc = .ok (.getfield 61, 3)) (kk : W p l e R s m args below meth c H locs cells slots Q (F0 m (pc + 3) ls (.ref (q 17) :: rest))) : W p l e R s m args below meth c H locs cells slots Q (F0 m pc ls (.ref a :: rest)) :=
  w_get S hw j 0 hj rfl rfl (lay_X9 S.2.2.2.2) 31 (by decide) (S.2.2.2.2.wd wd728 rfl) rfl rfl hdg kk
set_option maxRecDepth 100000 in
theorem gf_X9_65 {q : Nat → Nat} {σ : pStt} (S : CX p m c cc nL s args RX9 D cy) (hw : PW D A H0 Ps H locs) (j : Nat) (hj : Ps[j]? = some (pX9 cy a q σ)) (hdg : decode cc pc = .ok (.getfield 65, 3)) (kk : W p l e R s m args below meth c H locs cells slots Q (F0 m (pc + 3) ls (.ref (q 18) :: rest))) : W p l e R s m args below meth c H locs cells slots Q (F0 m pc ls (.ref a :: rest)) :=
  w_get S hw j 0 hj rfl rfl (lay_X9 S.2.2.2.2) 32 (by decide) (S.2.2.2.2.wd wd729 rfl) rfl rfl hdg kk
set_option maxRecDepth 100000 in
theorem gf_X9_68 {q : Nat → Nat} {σ : pStt} (S : CX p m c cc nL s args RX9 D cy) (hw : PW D A H0 Ps H locs) (j : Nat) (hj : Ps[j]? = some (pX9 cy a q σ)) (hdg : decode cc pc = .ok (.getfield 68, 3)) (kk : W p l e R s m args below meth c H locs cells slots Q (F0 m (pc + 3) ls (.ref (q 19) :: rest))) : W p l e R s m args below meth c H locs cells slots Q (F0 m pc ls (.ref a :: rest)) :=
  w_get S hw j 0 hj rfl rfl (lay_X9 S.2.2.2.2) 33 (by decide) (S.2.2.2.2.wd wd730 rfl) rfl rfl hdg kk
set_option maxRecDepth 100000 in
theorem gf_X9_71 {q : Nat → Nat} {σ : pStt} (S : CX p m c cc nL s args RX9 D cy) (hw : PW D A H0 Ps H locs) (j : Nat) (hj : Ps[j]? = some (pX9 cy a q σ)) (hdg : decode cc pc = .ok (.getfield 71, 3)) (kk : W p l e R s m args below meth c H locs cells slots Q (F0 m (pc + 3) ls (.ref (q 20) :: rest))) : W p l e R s m args below meth c H locs cells slots Q (F0 m pc ls (.ref a :: rest)) :=
  w_get S hw j 0 hj rfl rfl (lay_X9 S.2.2.2.2) 34 (by decide) (S.2.2.2.2.wd wd731 rfl) rfl rfl hdg kk
set_option maxRecDepth 100000 in
theorem gf_X9_74 {q : Nat → Nat} {σ : pStt} (S : CX p m c cc nL s args RX9 D cy) (hw : PW D A H0 Ps H locs) (j : Nat) (hj : Ps[j]? = some (pX9 cy a q σ)) (hdg : decode cc pc = .ok (.getfield 74, 3)) (kk : W p l e R s m args below meth c H locs cells slots Q (F0 m (pc + 3) ls (.int (σ.1 0) :: rest))) : W p l e R s m args below meth c H locs cells slots Q (F0 m pc ls (.ref a :: rest)) :=
  w_get S hw j 0 hj rfl rfl (lay_X9 S.2.2.2.2) 5 (by decide) (S.2.2.2.2.wd wd702 rfl) rfl rfl hdg kk
set_option maxRecDepth 100000 in
theorem gf_X9_126 {q : Nat → Nat} {σ : pStt} (S : CX p m c cc nL s args RX9 D cy) (hw : PW D A H0 Ps H locs) (j : Nat) (hj : Ps[j]? = some (pX9 cy a q σ)) (hdg : decode cc pc = .ok (.getfield 126, 3)) (kk : W p l e R s m args below meth c H locs cells slots Q (F0 m (pc + 3) ls (.int (σ.1 4) :: rest))) : W p l e R s m args below meth c H locs cells slots Q (F0 m pc ls (.ref a :: rest)) :=
  w_get S hw j 0 hj rfl rfl (lay_X9 S.2.2.2.2) 17 (by decide) (S.2.2.2.2.wd wd714 rfl) rfl rfl hdg kk
set_option maxRecDepth 100000 in
theorem gf_X9_129 {q : Nat → Nat} {σ : pStt} (S : CX p m c cc nL s args RX9 D cy) (hw : PW D A H0 Ps H locs) (j : Nat) (hj : Ps[j]? = some (pX9 cy a q σ)) (hdg : decode cc pc = .ok (.getfield 129, 3)) (kk : W p l e R s m args below meth c H locs cells slots Q (F0 m (pc + 3) ls (.int (σ.1 5) :: rest))) : W p l e R s m args below meth c H locs cells slots Q (F0 m pc ls (.ref a :: rest)) :=
  w_get S hw j 0 hj rfl rfl (lay_X9 S.2.2.2.2) 21 (by decide) (S.2.2.2.2.wd wd718 rfl) rfl rfl hdg kk
set_option maxRecDepth 100000 in
theorem gf_X9_174 {q : Nat → Nat} {σ : pStt} (S : CX p m c cc nL s args RX9 D cy) (hw : PW D A H0 Ps H locs) (j : Nat) (hj : Ps[j]? = some (pX9 cy a q σ)) (hdg : decode cc pc = .ok (.getfield 174, 3)) (kk : W p l e R s m args below meth c H locs cells slots Q (F0 m (pc + 3) ls (.int (σ.1 1) :: rest))) : W p l e R s m args below meth c H locs cells slots Q (F0 m pc ls (.ref a :: rest)) :=
  w_get S hw j 0 hj rfl rfl (lay_X9 S.2.2.2.2) 6 (by decide) (S.2.2.2.2.wd wd703 rfl) rfl rfl hdg kk
set_option maxRecDepth 100000 in
theorem gf_X9_181 {q : Nat → Nat} {σ : pStt} (S : CX p m c cc nL s args RX9 D cy) (hw : PW D A H0 Ps H locs) (j : Nat) (hj : Ps[j]? = some (pX9 cy a q σ)) (hdg : decode cc pc = .ok (.getfield 181, 3)) (kk : W p l e R s m args below meth c H locs cells slots Q (F0 m (pc + 3) ls (.int (σ.1 6) :: rest))) : W p l e R s m args below meth c H locs cells slots Q (F0 m pc ls (.ref a :: rest)) :=
  w_get S hw j 0 hj rfl rfl (lay_X9 S.2.2.2.2) 22 (by decide) (S.2.2.2.2.wd wd719 rfl) rfl rfl hdg kk
set_option maxRecDepth 100000 in
theorem gf_X9_184 {q : Nat → Nat} {σ : pStt} (S : CX p m c cc nL s args RX9 D cy) (hw : PW D A H0 Ps H locs) (j : Nat) (hj : Ps[j]? = some (pX9 cy a q σ)) (hdg : decode cc pc = .ok (.getfield 184, 3)) (kk : W p l e R s m args below meth c H locs cells slots Q (F0 m (pc + 3) ls (.int (σ.1 7) :: rest))) : W p l e R s m args below meth c H locs cells slots Q (F0 m pc ls (.ref a :: rest)) :=
  w_get S hw j 0 hj rfl rfl (lay_X9 S.2.2.2.2) 23 (by decide) (S.2.2.2.2.wd wd720 rfl) rfl rfl hdg kk
set_option maxRecDepth 100000 in
theorem gf_X9_203 {q : Nat → Nat} {σ : pStt} (S : CX p m c cc nL s args RX9 D cy) (hw : PW D A H0 Ps H locs) (j : Nat) (hj : Ps[j]? = some (pX9 cy a q σ)) (hdg : decode cc pc = .ok (.getfield 203, 3)) (kk : W p l e R s m args below meth c H locs cells slots Q (F0 m (pc + 3) ls (.int (σ.1 9) :: rest))) : W p l e R s m args below meth c H locs cells slots Q (F0 m pc ls (.ref a :: rest)) :=
  w_get S hw j 0 hj rfl rfl (lay_X9 S.2.2.2.2) 26 (by decide) (S.2.2.2.2.wd wd723 rfl) rfl rfl hdg kk
set_option maxRecDepth 100000 in
theorem gf_X9_207 {q : Nat → Nat} {σ : pStt} (S : CX p m c cc nL s args RX9 D cy) (hw : PW D A H0 Ps H locs) (j : Nat) (hj : Ps[j]? = some (pX9 cy a q σ)) (hdg : decode cc pc = .ok (.getfield 207, 3)) (kk : W p l e R s m args below meth c H locs cells slots Q (F0 m (pc + 3) ls (.int (σ.1 8) :: rest))) : W p l e R s m args below meth c H locs cells slots Q (F0 m pc ls (.ref a :: rest)) :=
  w_get S hw j 0 hj rfl rfl (lay_X9 S.2.2.2.2) 25 (by decide) (S.2.2.2.2.wd wd722 rfl) rfl rfl hdg kk
set_option maxRecDepth 100000 in
theorem gf_X9_224 {q : Nat → Nat} {σ : pStt} (S : CX p m c cc nL s args RX9 D cy) (hw : PW D A H0 Ps H locs) (j : Nat) (hj : Ps[j]? = some (pX9 cy a q σ)) (hdg : decode cc pc = .ok (.getfield 224, 3)) (kk : W p l e R s m args below meth c H locs cells slots Q (F0 m (pc + 3) ls (.int (σ.1 12) :: rest))) : W p l e R s m args below meth c H locs cells slots Q (F0 m pc ls (.ref a :: rest)) :=
  w_get S hw j 0 hj rfl rfl (lay_X9 S.2.2.2.2) 29 (by decide) (S.2.2.2.2.wd wd726 rfl) rfl rfl hdg kk
set_option maxRecDepth 100000 in
theorem gf_X9_227 {q : Nat → Nat} {σ : pStt} (S : CX p m c cc nL s args RX9 D cy) (hw : PW D A H0 Ps H locs) (j : Nat) (hj : Ps[j]? = some (pX9 cy a q σ)) (hdg : decode cc pc = .ok (.getfield 227, 3)) (kk : W p l e R s m args below meth c H locs cells slots Q (F0 m (pc + 3) ls (.int (σ.1 13) :: rest))) : W p l e R s m args below meth c H locs cells slots Q (F0 m pc ls (.ref a :: rest)) :=
  w_get S hw j 0 hj rfl rfl (lay_X9 S.2.2.2.2) 30 (by decide) (S.2.2.2.2.wd wd727 rfl) rfl rfl hdg kk
set_option maxRecDepth 100000 in
theorem gf_X9_230 {q : Nat → Nat} {σ : pStt} (S : CX p m c cc nL s args RX9 D cy) (hw : PW D A H0 Ps H locs) (j : Nat) (hj : Ps[j]? = some (pX9 cy a q σ)) (hdg : decode cc pc = .ok (.getfield 230, 3)) (kk : W p l e R s m args below meth c H locs cells slots Q (F0 m (pc + 3) ls (.int (σ.1 10) :: rest))) : W p l e R s m args below meth c H locs cells slots Q (F0 m pc ls (.ref a :: rest)) :=
  w_get S hw j 0 hj rfl rfl (lay_X9 S.2.2.2.2) 27 (by decide) (S.2.2.2.2.wd wd724 rfl) rfl rfl hdg kk
set_option maxRecDepth 100000 in
theorem gf_X9_233 {q : Nat → Nat} {σ : pStt} (S : CX p m c cc nL s args RX9 D cy) (hw : PW D A H0 Ps H locs) (j : Nat) (hj : Ps[j]? = some (pX9 cy a q σ)) (hdg : decode cc pc = .ok (.getfield 233, 3)) (kk : W p l e R s m args below meth c H locs cells slots Q (F0 m (pc + 3) ls (.int (σ.1 11) :: rest))) : W p l e R s m args below meth c H locs cells slots Q (F0 m pc ls (.ref a :: rest)) :=
  w_get S hw j 0 hj rfl rfl (lay_X9 S.2.2.2.2) 28 (by decide) (S.2.2.2.2.wd wd725 rfl) rfl rfl hdg kk
set_option maxRecDepth 100000 in
theorem gf_X9_281 {q : Nat → Nat} {σ : pStt} (S : CX p m c cc nL s args RX9 D cy) (hw : PW D A H0 Ps H locs) (j : Nat) (hj : Ps[j]? = some (pX9 cy a q σ)) (hdg : decode cc pc = .ok (.getfield 281, 3)) (kk : W p l e R s m args below meth c H locs cells slots Q (F0 m (pc + 3) ls (.int (σ.1 2) :: rest))) : W p l e R s m args below meth c H locs cells slots Q (F0 m pc ls (.ref a :: rest)) :=
  w_get S hw j 0 hj rfl rfl (lay_X9 S.2.2.2.2) 10 (by decide) (S.2.2.2.2.wd wd707 rfl) rfl rfl hdg kk
set_option maxRecDepth 100000 in
theorem gf_X9_296 {q : Nat → Nat} {σ : pStt} (S : CX p m c cc nL s args RX9 D cy) (hw : PW D A H0 Ps H locs) (j : Nat) (hj : Ps[j]? = some (pX9 cy a q σ)) (hdg : decode cc pc = .ok (.getfield 296, 3)) (kk : W p l e R s m args below meth c H locs cells slots Q (F0 m (pc + 3) ls (.int (σ.1 3) :: rest))) : W p l e R s m args below meth c H locs cells slots Q (F0 m pc ls (.ref a :: rest)) :=
  w_get S hw j 0 hj rfl rfl (lay_X9 S.2.2.2.2) 15 (by decide) (S.2.2.2.2.wd wd712 rfl) rfl rfl hdg kk
set_option maxRecDepth 100000 in
theorem gf_X9_347 {q : Nat → Nat} {σ : pStt} (S : CX p m c cc nL s args RX9 D cy) (hw : PW D A H0 Ps H locs) (j : Nat) (hj : Ps[j]? = some (pX9 cy a q σ)) (hdg : decode cc pc = .ok (.getfield 347, 3)) (kk : W p l e R s m args below meth c H locs cells slots Q (F0 m (pc + 3) ls (.int (σ.1 15) :: rest))) : W p l e R s m args below meth c H locs cells slots Q (F0 m pc ls (.ref a :: rest)) :=
  w_get S hw j 0 hj rfl rfl (lay_X9 S.2.2.2.2) 36 (by decide) (S.2.2.2.2.wd wd733 rfl) rfl rfl hdg kk
set_option maxRecDepth 100000 in
theorem gf_X9_350 {q : Nat → Nat} {σ : pStt} (S : CX p m c cc nL s args RX9 D cy) (hw : PW D A H0 Ps H locs) (j : Nat) (hj : Ps[j]? = some (pX9 cy a q σ)) (hdg : decode cc pc = .ok (.getfield 350, 3)) (kk : W p l e R s m args below meth c H locs cells slots Q (F0 m (pc + 3) ls (.int (σ.1 14) :: rest))) : W p l e R s m args below meth c H locs cells slots Q (F0 m pc ls (.ref a :: rest)) :=
  w_get S hw j 0 hj rfl rfl (lay_X9 S.2.2.2.2) 35 (by decide) (S.2.2.2.2.wd wd732 rfl) rfl rfl hdg kk
set_option maxRecDepth 100000 in
theorem pf_X9_74 {q : Nat → Nat} {σ : pStt} {σ' : pStt} {x : Int32} (S : CX p m c cc nL s args RX9 D cy) (hw : PW D A H0 Ps H locs) (j : Nat) (hj : Ps[j]? = some (pX9 cy a q σ)) (he : some (sI σ 0 x) = some σ') (hdg : decode cc pc = .ok (.putfield 74, 3)) (kk : ∀ (H1 : Heap) (locs1 : List Loc), PW D A H0 (Ps.set j (pX9 cy a q σ')) H1 locs1 → W p l e R s m args below meth c H1 locs1 cells slots Q (F0 m (pc + 3) ls rest)) : W p l e R s m args below meth c H locs cells slots Q (F0 m pc ls (.int x :: .ref a :: rest)) := by
  cases he
  exact w_put S hw j 0 hj rfl rfl (lay_X9 S.2.2.2.2) tyX9 tyX9_ok nmX9 5 (by decide) (S.2.2.2.2.wd wd702 rfl) rfl rfl rfl rfl rfl (Nat.le_of_ble_eq_true rfl) hdg kk
set_option maxRecDepth 100000 in
theorem pf_X9_126 {q : Nat → Nat} {σ : pStt} {σ' : pStt} {x : Int32} (S : CX p m c cc nL s args RX9 D cy) (hw : PW D A H0 Ps H locs) (j : Nat) (hj : Ps[j]? = some (pX9 cy a q σ)) (he : some (sI σ 4 x) = some σ') (hdg : decode cc pc = .ok (.putfield 126, 3)) (kk : ∀ (H1 : Heap) (locs1 : List Loc), PW D A H0 (Ps.set j (pX9 cy a q σ')) H1 locs1 → W p l e R s m args below meth c H1 locs1 cells slots Q (F0 m (pc + 3) ls rest)) : W p l e R s m args below meth c H locs cells slots Q (F0 m pc ls (.int x :: .ref a :: rest)) := by
  cases he
  exact w_put S hw j 0 hj rfl rfl (lay_X9 S.2.2.2.2) tyX9 tyX9_ok nmX9 17 (by decide) (S.2.2.2.2.wd wd714 rfl) rfl rfl rfl rfl rfl (Nat.le_of_ble_eq_true rfl) hdg kk
set_option maxRecDepth 100000 in
theorem pf_X9_129 {q : Nat → Nat} {σ : pStt} {σ' : pStt} {x : Int32} (S : CX p m c cc nL s args RX9 D cy) (hw : PW D A H0 Ps H locs) (j : Nat) (hj : Ps[j]? = some (pX9 cy a q σ)) (he : some (sI σ 5 x) = some σ') (hdg : decode cc pc = .ok (.putfield 129, 3)) (kk : ∀ (H1 : Heap) (locs1 : List Loc), PW D A H0 (Ps.set j (pX9 cy a q σ')) H1 locs1 → W p l e R s m args below meth c H1 locs1 cells slots Q (F0 m (pc + 3) ls rest)) : W p l e R s m args below meth c H locs cells slots Q (F0 m pc ls (.int x :: .ref a :: rest)) := by
  cases he
  exact w_put S hw j 0 hj rfl rfl (lay_X9 S.2.2.2.2) tyX9 tyX9_ok nmX9 21 (by decide) (S.2.2.2.2.wd wd718 rfl) rfl rfl rfl rfl rfl (Nat.le_of_ble_eq_true rfl) hdg kk
set_option maxRecDepth 100000 in
theorem pf_X9_174 {q : Nat → Nat} {σ : pStt} {σ' : pStt} {x : Int32} (S : CX p m c cc nL s args RX9 D cy) (hw : PW D A H0 Ps H locs) (j : Nat) (hj : Ps[j]? = some (pX9 cy a q σ)) (he : some (sI σ 1 x) = some σ') (hdg : decode cc pc = .ok (.putfield 174, 3)) (kk : ∀ (H1 : Heap) (locs1 : List Loc), PW D A H0 (Ps.set j (pX9 cy a q σ')) H1 locs1 → W p l e R s m args below meth c H1 locs1 cells slots Q (F0 m (pc + 3) ls rest)) : W p l e R s m args below meth c H locs cells slots Q (F0 m pc ls (.int x :: .ref a :: rest)) := by
  cases he
  exact w_put S hw j 0 hj rfl rfl (lay_X9 S.2.2.2.2) tyX9 tyX9_ok nmX9 6 (by decide) (S.2.2.2.2.wd wd703 rfl) rfl rfl rfl rfl rfl (Nat.le_of_ble_eq_true rfl) hdg kk
set_option maxRecDepth 100000 in
theorem pf_X9_181 {q : Nat → Nat} {σ : pStt} {σ' : pStt} {x : Int32} (S : CX p m c cc nL s args RX9 D cy) (hw : PW D A H0 Ps H locs) (j : Nat) (hj : Ps[j]? = some (pX9 cy a q σ)) (he : some (sI σ 6 x) = some σ') (hdg : decode cc pc = .ok (.putfield 181, 3)) (kk : ∀ (H1 : Heap) (locs1 : List Loc), PW D A H0 (Ps.set j (pX9 cy a q σ')) H1 locs1 → W p l e R s m args below meth c H1 locs1 cells slots Q (F0 m (pc + 3) ls rest)) : W p l e R s m args below meth c H locs cells slots Q (F0 m pc ls (.int x :: .ref a :: rest)) := by
  cases he
  exact w_put S hw j 0 hj rfl rfl (lay_X9 S.2.2.2.2) tyX9 tyX9_ok nmX9 22 (by decide) (S.2.2.2.2.wd wd719 rfl) rfl rfl rfl rfl rfl (Nat.le_of_ble_eq_true rfl) hdg kk
set_option maxRecDepth 100000 in
theorem pf_X9_184 {q : Nat → Nat} {σ : pStt} {σ' : pStt} {x : Int32} (S : CX p m c cc nL s args RX9 D cy) (hw : PW D A H0 Ps H locs) (j : Nat) (hj : Ps[j]? = some (pX9 cy a q σ)) (he : some (sI σ 7 x) = some σ') (hdg : decode cc pc = .ok (.putfield 184, 3)) (kk : ∀ (H1 : Heap) (locs1 : List Loc), PW D A H0 (Ps.set j (pX9 cy a q σ')) H1 locs1 → W p l e R s m args below meth c H1 locs1 cells slots Q (F0 m (pc + 3) ls rest)) : W p l e R s m args below meth c H locs cells slots Q (F0 m pc ls (.int x :: .ref a :: rest)) := by
  cases he
  exact w_put S hw j 0 hj rfl rfl (lay_X9 S.2.2.2.2) tyX9 tyX9_ok nmX9 23 (by decide) (S.2.2.2.2.wd wd720 rfl) rfl rfl rfl rfl rfl (Nat.le_of_ble_eq_true rfl) hdg kk
set_option maxRecDepth 100000 in
theorem pf_X9_203 {q : Nat → Nat} {σ : pStt} {σ' : pStt} {x x' : Int32} (S : CX p m c cc nL s args RX9 D cy) (hw : PW D A H0 Ps H locs) (j : Nat) (hj : Ps[j]? = some (pX9 cy a q σ)) (hz : asB x = some x') (he : some (sI σ 9 x') = some σ') (hdg : decode cc pc = .ok (.putfield 203, 3)) (kk : ∀ (H1 : Heap) (locs1 : List Loc), PW D A H0 (Ps.set j (pX9 cy a q σ')) H1 locs1 → W p l e R s m args below meth c H1 locs1 cells slots Q (F0 m (pc + 3) ls rest)) : W p l e R s m args below meth c H locs cells slots Q (F0 m pc ls (.int x :: .ref a :: rest)) := by
  obtain ⟨h1, h2, rfl⟩ := asB_inv hz
  cases he
  exact w_put S hw j 0 hj rfl rfl (lay_X9 S.2.2.2.2) tyX9 tyX9_ok nmX9 26 (by decide) (S.2.2.2.2.wd wd723 rfl) rfl rfl rfl h1 h2 (Nat.le_of_ble_eq_true rfl) hdg kk
set_option maxRecDepth 100000 in
theorem pf_X9_207 {q : Nat → Nat} {σ : pStt} {σ' : pStt} {x : Int32} (S : CX p m c cc nL s args RX9 D cy) (hw : PW D A H0 Ps H locs) (j : Nat) (hj : Ps[j]? = some (pX9 cy a q σ)) (he : some (sI σ 8 x) = some σ') (hdg : decode cc pc = .ok (.putfield 207, 3)) (kk : ∀ (H1 : Heap) (locs1 : List Loc), PW D A H0 (Ps.set j (pX9 cy a q σ')) H1 locs1 → W p l e R s m args below meth c H1 locs1 cells slots Q (F0 m (pc + 3) ls rest)) : W p l e R s m args below meth c H locs cells slots Q (F0 m pc ls (.int x :: .ref a :: rest)) := by
  cases he
  exact w_put S hw j 0 hj rfl rfl (lay_X9 S.2.2.2.2) tyX9 tyX9_ok nmX9 25 (by decide) (S.2.2.2.2.wd wd722 rfl) rfl rfl rfl rfl rfl (Nat.le_of_ble_eq_true rfl) hdg kk
set_option maxRecDepth 100000 in
theorem pf_X9_224 {q : Nat → Nat} {σ : pStt} {σ' : pStt} {x : Int32} (S : CX p m c cc nL s args RX9 D cy) (hw : PW D A H0 Ps H locs) (j : Nat) (hj : Ps[j]? = some (pX9 cy a q σ)) (he : some (sI σ 12 x) = some σ') (hdg : decode cc pc = .ok (.putfield 224, 3)) (kk : ∀ (H1 : Heap) (locs1 : List Loc), PW D A H0 (Ps.set j (pX9 cy a q σ')) H1 locs1 → W p l e R s m args below meth c H1 locs1 cells slots Q (F0 m (pc + 3) ls rest)) : W p l e R s m args below meth c H locs cells slots Q (F0 m pc ls (.int x :: .ref a :: rest)) := by
  cases he
  exact w_put S hw j 0 hj rfl rfl (lay_X9 S.2.2.2.2) tyX9 tyX9_ok nmX9 29 (by decide) (S.2.2.2.2.wd wd726 rfl) rfl rfl rfl rfl rfl (Nat.le_of_ble_eq_true rfl) hdg kk
set_option maxRecDepth 100000 in
theorem pf_X9_227 {q : Nat → Nat} {σ : pStt} {σ' : pStt} {x : Int32} (S : CX p m c cc nL s args RX9 D cy) (hw : PW D A H0 Ps H locs) (j : Nat) (hj : Ps[j]? = some (pX9 cy a q σ)) (he : some (sI σ 13 x) = some σ') (hdg : decode cc pc = .ok (.putfield 227, 3)) (kk : ∀ (H1 : Heap) (locs1 : List Loc), PW D A H0 (Ps.set j (pX9 cy a q σ')) H1 locs1 → W p l e R s m args below meth c H1 locs1 cells slots Q (F0 m (pc + 3) ls rest)) : W p l e R s m args below meth c H locs cells slots Q (F0 m pc ls (.int x :: .ref a :: rest)) := by
  cases he
  exact w_put S hw j 0 hj rfl rfl (lay_X9 S.2.2.2.2) tyX9 tyX9_ok nmX9 30 (by decide) (S.2.2.2.2.wd wd727 rfl) rfl rfl rfl rfl rfl (Nat.le_of_ble_eq_true rfl) hdg kk
set_option maxRecDepth 100000 in
theorem pf_X9_230 {q : Nat → Nat} {σ : pStt} {σ' : pStt} {x : Int32} (S : CX p m c cc nL s args RX9 D cy) (hw : PW D A H0 Ps H locs) (j : Nat) (hj : Ps[j]? = some (pX9 cy a q σ)) (he : some (sI σ 10 x) = some σ') (hdg : decode cc pc = .ok (.putfield 230, 3)) (kk : ∀ (H1 : Heap) (locs1 : List Loc), PW D A H0 (Ps.set j (pX9 cy a q σ')) H1 locs1 → W p l e R s m args below meth c H1 locs1 cells slots Q (F0 m (pc + 3) ls rest)) : W p l e R s m args below meth c H locs cells slots Q (F0 m pc ls (.int x :: .ref a :: rest)) := by
  cases he
  exact w_put S hw j 0 hj rfl rfl (lay_X9 S.2.2.2.2) tyX9 tyX9_ok nmX9 27 (by decide) (S.2.2.2.2.wd wd724 rfl) rfl rfl rfl rfl rfl (Nat.le_of_ble_eq_true rfl) hdg kk
set_option maxRecDepth 100000 in
theorem pf_X9_233 {q : Nat → Nat} {σ : pStt} {σ' : pStt} {x : Int32} (S : CX p m c cc nL s args RX9 D cy) (hw : PW D A H0 Ps H locs) (j : Nat) (hj : Ps[j]? = some (pX9 cy a q σ)) (he : some (sI σ 11 x) = some σ') (hdg : decode cc pc = .ok (.putfield 233, 3)) (kk : ∀ (H1 : Heap) (locs1 : List Loc), PW D A H0 (Ps.set j (pX9 cy a q σ')) H1 locs1 → W p l e R s m args below meth c H1 locs1 cells slots Q (F0 m (pc + 3) ls rest)) : W p l e R s m args below meth c H locs cells slots Q (F0 m pc ls (.int x :: .ref a :: rest)) := by
  cases he
  exact w_put S hw j 0 hj rfl rfl (lay_X9 S.2.2.2.2) tyX9 tyX9_ok nmX9 28 (by decide) (S.2.2.2.2.wd wd725 rfl) rfl rfl rfl rfl rfl (Nat.le_of_ble_eq_true rfl) hdg kk
set_option maxRecDepth 100000 in
theorem pf_X9_281 {q : Nat → Nat} {σ : pStt} {σ' : pStt} {x : Int32} (S : CX p m c cc nL s args RX9 D cy) (hw : PW D A H0 Ps H locs) (j : Nat) (hj : Ps[j]? = some (pX9 cy a q σ)) (he : some (sI σ 2 x) = some σ') (hdg : decode cc pc = .ok (.putfield 281, 3)) (kk : ∀ (H1 : Heap) (locs1 : List Loc), PW D A H0 (Ps.set j (pX9 cy a q σ')) H1 locs1 → W p l e R s m args below meth c H1 locs1 cells slots Q (F0 m (pc + 3) ls rest)) : W p l e R s m args below meth c H locs cells slots Q (F0 m pc ls (.int x :: .ref a :: rest)) := by
  cases he
  exact w_put S hw j 0 hj rfl rfl (lay_X9 S.2.2.2.2) tyX9 tyX9_ok nmX9 10 (by decide) (S.2.2.2.2.wd wd707 rfl) rfl rfl rfl rfl rfl (Nat.le_of_ble_eq_true rfl) hdg kk
set_option maxRecDepth 100000 in
theorem pf_X9_296 {q : Nat → Nat} {σ : pStt} {σ' : pStt} {x : Int32} (S : CX p m c cc nL s args RX9 D cy) (hw : PW D A H0 Ps H locs) (j : Nat) (hj : Ps[j]? = some (pX9 cy a q σ)) (he : some (sI σ 3 x) = some σ') (hdg : decode cc pc = .ok (.putfield 296, 3)) (kk : ∀ (H1 : Heap) (locs1 : List Loc), PW D A H0 (Ps.set j (pX9 cy a q σ')) H1 locs1 → W p l e R s m args below meth c H1 locs1 cells slots Q (F0 m (pc + 3) ls rest)) : W p l e R s m args below meth c H locs cells slots Q (F0 m pc ls (.int x :: .ref a :: rest)) := by
  cases he
  exact w_put S hw j 0 hj rfl rfl (lay_X9 S.2.2.2.2) tyX9 tyX9_ok nmX9 15 (by decide) (S.2.2.2.2.wd wd712 rfl) rfl rfl rfl rfl rfl (Nat.le_of_ble_eq_true rfl) hdg kk
set_option maxRecDepth 100000 in
theorem pf_X9_347 {q : Nat → Nat} {σ : pStt} {σ' : pStt} {x x' : Int32} (S : CX p m c cc nL s args RX9 D cy) (hw : PW D A H0 Ps H locs) (j : Nat) (hj : Ps[j]? = some (pX9 cy a q σ)) (hz : asB x = some x') (he : some (sI σ 15 x') = some σ') (hdg : decode cc pc = .ok (.putfield 347, 3)) (kk : ∀ (H1 : Heap) (locs1 : List Loc), PW D A H0 (Ps.set j (pX9 cy a q σ')) H1 locs1 → W p l e R s m args below meth c H1 locs1 cells slots Q (F0 m (pc + 3) ls rest)) : W p l e R s m args below meth c H locs cells slots Q (F0 m pc ls (.int x :: .ref a :: rest)) := by
  obtain ⟨h1, h2, rfl⟩ := asB_inv hz
  cases he
  exact w_put S hw j 0 hj rfl rfl (lay_X9 S.2.2.2.2) tyX9 tyX9_ok nmX9 36 (by decide) (S.2.2.2.2.wd wd733 rfl) rfl rfl rfl h1 h2 (Nat.le_of_ble_eq_true rfl) hdg kk
set_option maxRecDepth 100000 in
theorem pf_X9_350 {q : Nat → Nat} {σ : pStt} {σ' : pStt} {x : Int32} (S : CX p m c cc nL s args RX9 D cy) (hw : PW D A H0 Ps H locs) (j : Nat) (hj : Ps[j]? = some (pX9 cy a q σ)) (he : some (sI σ 14 x) = some σ') (hdg : decode cc pc = .ok (.putfield 350, 3)) (kk : ∀ (H1 : Heap) (locs1 : List Loc), PW D A H0 (Ps.set j (pX9 cy a q σ')) H1 locs1 → W p l e R s m args below meth c H1 locs1 cells slots Q (F0 m (pc + 3) ls rest)) : W p l e R s m args below meth c H locs cells slots Q (F0 m pc ls (.int x :: .ref a :: rest)) := by
  cases he
  exact w_put S hw j 0 hj rfl rfl (lay_X9 S.2.2.2.2) tyX9 tyX9_ok nmX9 35 (by decide) (S.2.2.2.2.wd wd732 rfl) rfl rfl rfl rfl rfl (Nat.le_of_ble_eq_true rfl) hdg kk
set_option maxRecDepth 100000 in
theorem al_X1_0 {o : Nat} {q : Nat → Nat} {σ : pStt} {ix : Int32} {x : Int32} (S : CX p m c cc nL s args own D cy) (hw : PW D A H0 Ps H locs) (j : Nat) (hj : Ps[j]? = some (pX1 cy o q σ)) (hl : ld (σ.2 0) 8 ix = some x) (hdg : decode cc pc = .ok (.iaload, 1)) (kk : W p l e R s m args below meth c H locs cells slots Q (F0 m (pc + 1) ls (.int x :: rest))) : W p l e R s m args below meth c H locs cells slots Q (F0 m pc ls (.int ix :: .ref (q 0) :: rest)) :=
  w_iald S hw j 1 hj rfl hl hdg kk
set_option maxRecDepth 100000 in
theorem as_X1_0 {o : Nat} {q : Nat → Nat} {σ : pStt} {σ' : pStt} {ix x : Int32} (S : CX p m c cc nL s args own D cy) (hw : PW D A H0 Ps H locs) (j : Nat) (hj : Ps[j]? = some (pX1 cy o q σ)) (he : stA σ 0 8 ix x = some σ') (hdg : decode cc pc = .ok (.iastore, 1)) (kk : ∀ (H1 : Heap) (locs1 : List Loc), PW D A H0 (Ps.set j (pX1 cy o q σ')) H1 locs1 → W p l e R s m args below meth c H1 locs1 cells slots Q (F0 m (pc + 1) ls rest)) : W p l e R s m args below meth c H locs cells slots Q (F0 m pc ls (.int x :: .int ix :: .ref (q 0) :: rest)) := by
  obtain ⟨h1, rfl⟩ := stA_inv he
  exact w_iast S hw j 1 hj rfl h1 hdg kk
set_option maxRecDepth 100000 in
theorem al_X1_1 {o : Nat} {q : Nat → Nat} {σ : pStt} {ix : Int32} {x : Int32} (S : CX p m c cc nL s args own D cy) (hw : PW D A H0 Ps H locs) (j : Nat) (hj : Ps[j]? = some (pX1 cy o q σ)) (hl : ld (σ.2 1) 8 ix = some x) (hdg : decode cc pc = .ok (.iaload, 1)) (kk : W p l e R s m args below meth c H locs cells slots Q (F0 m (pc + 1) ls (.int x :: rest))) : W p l e R s m args below meth c H locs cells slots Q (F0 m pc ls (.int ix :: .ref (q 1) :: rest)) :=
  w_iald S hw j 2 hj rfl hl hdg kk
set_option maxRecDepth 100000 in
theorem as_X1_1 {o : Nat} {q : Nat → Nat} {σ : pStt} {σ' : pStt} {ix x : Int32} (S : CX p m c cc nL s args own D cy) (hw : PW D A H0 Ps H locs) (j : Nat) (hj : Ps[j]? = some (pX1 cy o q σ)) (he : stA σ 1 8 ix x = some σ') (hdg : decode cc pc = .ok (.iastore, 1)) (kk : ∀ (H1 : Heap) (locs1 : List Loc), PW D A H0 (Ps.set j (pX1 cy o q σ')) H1 locs1 → W p l e R s m args below meth c H1 locs1 cells slots Q (F0 m (pc + 1) ls rest)) : W p l e R s m args below meth c H locs cells slots Q (F0 m pc ls (.int x :: .int ix :: .ref (q 1) :: rest)) := by
  obtain ⟨h1, rfl⟩ := stA_inv he
  exact w_iast S hw j 2 hj rfl h1 hdg kk
set_option maxRecDepth 100000 in
theorem al_X1_2 {o : Nat} {q : Nat → Nat} {σ : pStt} {ix : Int32} {x : Int32} (S : CX p m c cc nL s args own D cy) (hw : PW D A H0 Ps H locs) (j : Nat) (hj : Ps[j]? = some (pX1 cy o q σ)) (hl : ld (σ.2 2) 6 ix = some x) (hdg : decode cc pc = .ok (.iaload, 1)) (kk : W p l e R s m args below meth c H locs cells slots Q (F0 m (pc + 1) ls (.int x :: rest))) : W p l e R s m args below meth c H locs cells slots Q (F0 m pc ls (.int ix :: .ref (q 2) :: rest)) :=
  w_iald S hw j 3 hj rfl hl hdg kk
set_option maxRecDepth 100000 in
theorem as_X1_2 {o : Nat} {q : Nat → Nat} {σ : pStt} {σ' : pStt} {ix x : Int32} (S : CX p m c cc nL s args own D cy) (hw : PW D A H0 Ps H locs) (j : Nat) (hj : Ps[j]? = some (pX1 cy o q σ)) (he : stA σ 2 6 ix x = some σ') (hdg : decode cc pc = .ok (.iastore, 1)) (kk : ∀ (H1 : Heap) (locs1 : List Loc), PW D A H0 (Ps.set j (pX1 cy o q σ')) H1 locs1 → W p l e R s m args below meth c H1 locs1 cells slots Q (F0 m (pc + 1) ls rest)) : W p l e R s m args below meth c H locs cells slots Q (F0 m pc ls (.int x :: .int ix :: .ref (q 2) :: rest)) := by
  obtain ⟨h1, rfl⟩ := stA_inv he
  exact w_iast S hw j 3 hj rfl h1 hdg kk
set_option maxRecDepth 100000 in
theorem al_X1_3 {o : Nat} {q : Nat → Nat} {σ : pStt} {ix : Int32} {x : Int32} (S : CX p m c cc nL s args own D cy) (hw : PW D A H0 Ps H locs) (j : Nat) (hj : Ps[j]? = some (pX1 cy o q σ)) (hl : ld (σ.2 3) 6 ix = some x) (hdg : decode cc pc = .ok (.iaload, 1)) (kk : W p l e R s m args below meth c H locs cells slots Q (F0 m (pc + 1) ls (.int x :: rest))) : W p l e R s m args below meth c H locs cells slots Q (F0 m pc ls (.int ix :: .ref (q 3) :: rest)) :=
  w_iald S hw j 4 hj rfl hl hdg kk
set_option maxRecDepth 100000 in
theorem as_X1_3 {o : Nat} {q : Nat → Nat} {σ : pStt} {σ' : pStt} {ix x : Int32} (S : CX p m c cc nL s args own D cy) (hw : PW D A H0 Ps H locs) (j : Nat) (hj : Ps[j]? = some (pX1 cy o q σ)) (he : stA σ 3 6 ix x = some σ') (hdg : decode cc pc = .ok (.iastore, 1)) (kk : ∀ (H1 : Heap) (locs1 : List Loc), PW D A H0 (Ps.set j (pX1 cy o q σ')) H1 locs1 → W p l e R s m args below meth c H1 locs1 cells slots Q (F0 m (pc + 1) ls rest)) : W p l e R s m args below meth c H locs cells slots Q (F0 m pc ls (.int x :: .int ix :: .ref (q 3) :: rest)) := by
  obtain ⟨h1, rfl⟩ := stA_inv he
  exact w_iast S hw j 4 hj rfl h1 hdg kk
set_option maxRecDepth 100000 in
theorem al_X2_0 {o : Nat} {q : Nat → Nat} {σ : pStt} {ix : Int32} {x : Int32} (S : CX p m c cc nL s args own D cy) (hw : PW D A H0 Ps H locs) (j : Nat) (hj : Ps[j]? = some (pX2 cy o q σ)) (hl : ld (σ.2 0) 256 ix = some x) (hdg : decode cc pc = .ok (.iaload, 1)) (kk : W p l e R s m args below meth c H locs cells slots Q (F0 m (pc + 1) ls (.int x :: rest))) : W p l e R s m args below meth c H locs cells slots Q (F0 m pc ls (.int ix :: .ref (q 0) :: rest)) :=
  w_iald S hw j 1 hj rfl hl hdg kk
set_option maxRecDepth 100000 in
theorem as_X2_0 {o : Nat} {q : Nat → Nat} {σ : pStt} {σ' : pStt} {ix x : Int32} (S : CX p m c cc nL s args own D cy) (hw : PW D A H0 Ps H locs) (j : Nat) (hj : Ps[j]? = some (pX2 cy o q σ)) (he : stA σ 0 256 ix x = some σ') (hdg : decode cc pc = .ok (.iastore, 1)) (kk : ∀ (H1 : Heap) (locs1 : List Loc), PW D A H0 (Ps.set j (pX2 cy o q σ')) H1 locs1 → W p l e R s m args below meth c H1 locs1 cells slots Q (F0 m (pc + 1) ls rest)) : W p l e R s m args below meth c H locs cells slots Q (F0 m pc ls (.int x :: .int ix :: .ref (q 0) :: rest)) := by
  obtain ⟨h1, rfl⟩ := stA_inv he
  exact w_iast S hw j 1 hj rfl h1 hdg kk
set_option maxRecDepth 100000 in
theorem al_X3_0 {o : Nat} {q : Nat → Nat} {σ : pStt} {ix : Int32} {x : Int32} (S : CX p m c cc nL s args own D cy) (hw : PW D A H0 Ps H locs) (j : Nat) (hj : Ps[j]? = some (pX3 cy o q σ)) (hl : ld (σ.2 0) 60 ix = some x) (hdg : decode cc pc = .ok (.iaload, 1)) (kk : W p l e R s m args below meth c H locs cells slots Q (F0 m (pc + 1) ls (.int x :: rest))) : W p l e R s m args below meth c H locs cells slots Q (F0 m pc ls (.int ix :: .ref (q 0) :: rest)) :=
  w_iald S hw j 1 hj rfl hl hdg kk
set_option maxRecDepth 100000 in
theorem as_X3_0 {o : Nat} {q : Nat → Nat} {σ : pStt} {σ' : pStt} {ix x : Int32} (S : CX p m c cc nL s args own D cy) (hw : PW D A H0 Ps H locs) (j : Nat) (hj : Ps[j]? = some (pX3 cy o q σ)) (he : stA σ 0 60 ix x = some σ') (hdg : decode cc pc = .ok (.iastore, 1)) (kk : ∀ (H1 : Heap) (locs1 : List Loc), PW D A H0 (Ps.set j (pX3 cy o q σ')) H1 locs1 → W p l e R s m args below meth c H1 locs1 cells slots Q (F0 m (pc + 1) ls rest)) : W p l e R s m args below meth c H locs cells slots Q (F0 m pc ls (.int x :: .int ix :: .ref (q 0) :: rest)) := by
  obtain ⟨h1, rfl⟩ := stA_inv he
  exact w_iast S hw j 1 hj rfl h1 hdg kk
set_option maxRecDepth 100000 in
theorem al_X4_0 {o : Nat} {q : Nat → Nat} {σ : pStt} {ix : Int32} {x : Int32} (S : CX p m c cc nL s args own D cy) (hw : PW D A H0 Ps H locs) (j : Nat) (hj : Ps[j]? = some (pX4 cy o q σ)) (hl : ld (σ.2 0) 12 ix = some x) (hdg : decode cc pc = .ok (.iaload, 1)) (kk : W p l e R s m args below meth c H locs cells slots Q (F0 m (pc + 1) ls (.int x :: rest))) : W p l e R s m args below meth c H locs cells slots Q (F0 m pc ls (.int ix :: .ref (q 0) :: rest)) :=
  w_iald S hw j 1 hj rfl hl hdg kk
set_option maxRecDepth 100000 in
theorem as_X4_0 {o : Nat} {q : Nat → Nat} {σ : pStt} {σ' : pStt} {ix x : Int32} (S : CX p m c cc nL s args own D cy) (hw : PW D A H0 Ps H locs) (j : Nat) (hj : Ps[j]? = some (pX4 cy o q σ)) (he : stA σ 0 12 ix x = some σ') (hdg : decode cc pc = .ok (.iastore, 1)) (kk : ∀ (H1 : Heap) (locs1 : List Loc), PW D A H0 (Ps.set j (pX4 cy o q σ')) H1 locs1 → W p l e R s m args below meth c H1 locs1 cells slots Q (F0 m (pc + 1) ls rest)) : W p l e R s m args below meth c H locs cells slots Q (F0 m pc ls (.int x :: .int ix :: .ref (q 0) :: rest)) := by
  obtain ⟨h1, rfl⟩ := stA_inv he
  exact w_iast S hw j 1 hj rfl h1 hdg kk
set_option maxRecDepth 100000 in
theorem al_X4_1 {o : Nat} {q : Nat → Nat} {σ : pStt} {ix : Int32} {x : Int32} (S : CX p m c cc nL s args own D cy) (hw : PW D A H0 Ps H locs) (j : Nat) (hj : Ps[j]? = some (pX4 cy o q σ)) (hl : ld (σ.2 1) 12 ix = some x) (hdg : decode cc pc = .ok (.iaload, 1)) (kk : W p l e R s m args below meth c H locs cells slots Q (F0 m (pc + 1) ls (.int x :: rest))) : W p l e R s m args below meth c H locs cells slots Q (F0 m pc ls (.int ix :: .ref (q 1) :: rest)) :=
  w_iald S hw j 2 hj rfl hl hdg kk
set_option maxRecDepth 100000 in
theorem as_X4_1 {o : Nat} {q : Nat → Nat} {σ : pStt} {σ' : pStt} {ix x : Int32} (S : CX p m c cc nL s args own D cy) (hw : PW D A H0 Ps H locs) (j : Nat) (hj : Ps[j]? = some (pX4 cy o q σ)) (he : stA σ 1 12 ix x = some σ') (hdg : decode cc pc = .ok (.iastore, 1)) (kk : ∀ (H1 : Heap) (locs1 : List Loc), PW D A H0 (Ps.set j (pX4 cy o q σ')) H1 locs1 → W p l e R s m args below meth c H1 locs1 cells slots Q (F0 m (pc + 1) ls rest)) : W p l e R s m args below meth c H locs cells slots Q (F0 m pc ls (.int x :: .int ix :: .ref (q 1) :: rest)) := by
  obtain ⟨h1, rfl⟩ := stA_inv he
  exact w_iast S hw j 2 hj rfl h1 hdg kk
set_option maxRecDepth 100000 in
theorem al_X5_0 {o : Nat} {q : Nat → Nat} {σ : pStt} {ix : Int32} {x : Int32} (S : CX p m c cc nL s args own D cy) (hw : PW D A H0 Ps H locs) (j : Nat) (hj : Ps[j]? = some (pX5 cy o q σ)) (hl : ld (σ.2 0) 8 ix = some x) (hdg : decode cc pc = .ok (.iaload, 1)) (kk : W p l e R s m args below meth c H locs cells slots Q (F0 m (pc + 1) ls (.int x :: rest))) : W p l e R s m args below meth c H locs cells slots Q (F0 m pc ls (.int ix :: .ref (q 0) :: rest)) :=
  w_iald S hw j 1 hj rfl hl hdg kk
set_option maxRecDepth 100000 in
theorem as_X5_0 {o : Nat} {q : Nat → Nat} {σ : pStt} {σ' : pStt} {ix x : Int32} (S : CX p m c cc nL s args own D cy) (hw : PW D A H0 Ps H locs) (j : Nat) (hj : Ps[j]? = some (pX5 cy o q σ)) (he : stA σ 0 8 ix x = some σ') (hdg : decode cc pc = .ok (.iastore, 1)) (kk : ∀ (H1 : Heap) (locs1 : List Loc), PW D A H0 (Ps.set j (pX5 cy o q σ')) H1 locs1 → W p l e R s m args below meth c H1 locs1 cells slots Q (F0 m (pc + 1) ls rest)) : W p l e R s m args below meth c H locs cells slots Q (F0 m pc ls (.int x :: .int ix :: .ref (q 0) :: rest)) := by
  obtain ⟨h1, rfl⟩ := stA_inv he
  exact w_iast S hw j 1 hj rfl h1 hdg kk
set_option maxRecDepth 100000 in
theorem al_X0_0 {o : Nat} {q : Nat → Nat} {σ : Nat → Int64} {ix : Int32} {x : Int64} (S : CX p m c cc nL s args own D cy) (hw : PW D A H0 Ps H locs) (j : Nat) (hj : Ps[j]? = some (pX0 cy o q σ)) (hl : ldL σ 6 ix = some x) (hdg : decode cc pc = .ok (.laload, 1)) (kk : W p l e R s m args below meth c H locs cells slots Q (F0 m (pc + 1) ls (.long x :: rest))) : W p l e R s m args below meth c H locs cells slots Q (F0 m pc ls (.int ix :: .ref (q 0) :: rest)) :=
  w_lald S hw j 1 hj rfl hl hdg kk
set_option maxRecDepth 100000 in
theorem as_X0_0 {o : Nat} {q : Nat → Nat} {σ : Nat → Int64} {σ' : Nat → Int64} {ix : Int32} {x : Int64} (S : CX p m c cc nL s args own D cy) (hw : PW D A H0 Ps H locs) (j : Nat) (hj : Ps[j]? = some (pX0 cy o q σ)) (he : stL σ 6 ix x = some σ') (hdg : decode cc pc = .ok (.lastore, 1)) (kk : ∀ (H1 : Heap) (locs1 : List Loc), PW D A H0 (Ps.set j (pX0 cy o q σ')) H1 locs1 → W p l e R s m args below meth c H1 locs1 cells slots Q (F0 m (pc + 1) ls rest)) : W p l e R s m args below meth c H locs cells slots Q (F0 m pc ls (.long x :: .int ix :: .ref (q 0) :: rest)) := by
  obtain ⟨h1, rfl⟩ := stL_inv he
  exact w_last S hw j 1 hj rfl h1 hdg kk
set_option maxRecDepth 100000 in
theorem al_X9_0 {o : Nat} {q : Nat → Nat} {σ : pStt} {ix : Int32} {x : Int32} (S : CX p m c cc nL s args own D cy) (hw : PW D A H0 Ps H locs) (j : Nat) (hj : Ps[j]? = some (pX9 cy o q σ)) (hl : ld (σ.2 0) 8 ix = some x) (hdg : decode cc pc = .ok (.iaload, 1)) (kk : W p l e R s m args below meth c H locs cells slots Q (F0 m (pc + 1) ls (.int x :: rest))) : W p l e R s m args below meth c H locs cells slots Q (F0 m pc ls (.int ix :: .ref (q 0) :: rest)) :=
  w_iald S hw j 1 hj rfl hl hdg kk
set_option maxRecDepth 100000 in
theorem as_X9_0 {o : Nat} {q : Nat → Nat} {σ : pStt} {σ' : pStt} {ix x : Int32} (S : CX p m c cc nL s args own D cy) (hw : PW D A H0 Ps H locs) (j : Nat) (hj : Ps[j]? = some (pX9 cy o q σ)) (he : stA σ 0 8 ix x = some σ') (hdg : decode cc pc = .ok (.iastore, 1)) (kk : ∀ (H1 : Heap) (locs1 : List Loc), PW D A H0 (Ps.set j (pX9 cy o q σ')) H1 locs1 → W p l e R s m args below meth c H1 locs1 cells slots Q (F0 m (pc + 1) ls rest)) : W p l e R s m args below meth c H locs cells slots Q (F0 m pc ls (.int x :: .int ix :: .ref (q 0) :: rest)) := by
  obtain ⟨h1, rfl⟩ := stA_inv he
  exact w_iast S hw j 1 hj rfl h1 hdg kk
set_option maxRecDepth 100000 in
theorem al_X9_1 {o : Nat} {q : Nat → Nat} {σ : pStt} {ix : Int32} {x : Int32} (S : CX p m c cc nL s args own D cy) (hw : PW D A H0 Ps H locs) (j : Nat) (hj : Ps[j]? = some (pX9 cy o q σ)) (hl : ld (σ.2 1) 8 ix = some x) (hdg : decode cc pc = .ok (.iaload, 1)) (kk : W p l e R s m args below meth c H locs cells slots Q (F0 m (pc + 1) ls (.int x :: rest))) : W p l e R s m args below meth c H locs cells slots Q (F0 m pc ls (.int ix :: .ref (q 1) :: rest)) :=
  w_iald S hw j 2 hj rfl hl hdg kk
set_option maxRecDepth 100000 in
theorem as_X9_1 {o : Nat} {q : Nat → Nat} {σ : pStt} {σ' : pStt} {ix x : Int32} (S : CX p m c cc nL s args own D cy) (hw : PW D A H0 Ps H locs) (j : Nat) (hj : Ps[j]? = some (pX9 cy o q σ)) (he : stA σ 1 8 ix x = some σ') (hdg : decode cc pc = .ok (.iastore, 1)) (kk : ∀ (H1 : Heap) (locs1 : List Loc), PW D A H0 (Ps.set j (pX9 cy o q σ')) H1 locs1 → W p l e R s m args below meth c H1 locs1 cells slots Q (F0 m (pc + 1) ls rest)) : W p l e R s m args below meth c H locs cells slots Q (F0 m pc ls (.int x :: .int ix :: .ref (q 1) :: rest)) := by
  obtain ⟨h1, rfl⟩ := stA_inv he
  exact w_iast S hw j 2 hj rfl h1 hdg kk
set_option maxRecDepth 100000 in
theorem al_X9_2 {o : Nat} {q : Nat → Nat} {σ : pStt} {ix : Int32} {x : Int32} (S : CX p m c cc nL s args own D cy) (hw : PW D A H0 Ps H locs) (j : Nat) (hj : Ps[j]? = some (pX9 cy o q σ)) (hl : ld (σ.2 2) 6 ix = some x) (hdg : decode cc pc = .ok (.iaload, 1)) (kk : W p l e R s m args below meth c H locs cells slots Q (F0 m (pc + 1) ls (.int x :: rest))) : W p l e R s m args below meth c H locs cells slots Q (F0 m pc ls (.int ix :: .ref (q 2) :: rest)) :=
  w_iald S hw j 3 hj rfl hl hdg kk
set_option maxRecDepth 100000 in
theorem as_X9_2 {o : Nat} {q : Nat → Nat} {σ : pStt} {σ' : pStt} {ix x : Int32} (S : CX p m c cc nL s args own D cy) (hw : PW D A H0 Ps H locs) (j : Nat) (hj : Ps[j]? = some (pX9 cy o q σ)) (he : stA σ 2 6 ix x = some σ') (hdg : decode cc pc = .ok (.iastore, 1)) (kk : ∀ (H1 : Heap) (locs1 : List Loc), PW D A H0 (Ps.set j (pX9 cy o q σ')) H1 locs1 → W p l e R s m args below meth c H1 locs1 cells slots Q (F0 m (pc + 1) ls rest)) : W p l e R s m args below meth c H locs cells slots Q (F0 m pc ls (.int x :: .int ix :: .ref (q 2) :: rest)) := by
  obtain ⟨h1, rfl⟩ := stA_inv he
  exact w_iast S hw j 3 hj rfl h1 hdg kk
set_option maxRecDepth 100000 in
theorem al_X9_3 {o : Nat} {q : Nat → Nat} {σ : pStt} {ix : Int32} {x : Int32} (S : CX p m c cc nL s args own D cy) (hw : PW D A H0 Ps H locs) (j : Nat) (hj : Ps[j]? = some (pX9 cy o q σ)) (hl : ld (σ.2 3) 6 ix = some x) (hdg : decode cc pc = .ok (.iaload, 1)) (kk : W p l e R s m args below meth c H locs cells slots Q (F0 m (pc + 1) ls (.int x :: rest))) : W p l e R s m args below meth c H locs cells slots Q (F0 m pc ls (.int ix :: .ref (q 3) :: rest)) :=
  w_iald S hw j 4 hj rfl hl hdg kk
set_option maxRecDepth 100000 in
theorem as_X9_3 {o : Nat} {q : Nat → Nat} {σ : pStt} {σ' : pStt} {ix x : Int32} (S : CX p m c cc nL s args own D cy) (hw : PW D A H0 Ps H locs) (j : Nat) (hj : Ps[j]? = some (pX9 cy o q σ)) (he : stA σ 3 6 ix x = some σ') (hdg : decode cc pc = .ok (.iastore, 1)) (kk : ∀ (H1 : Heap) (locs1 : List Loc), PW D A H0 (Ps.set j (pX9 cy o q σ')) H1 locs1 → W p l e R s m args below meth c H1 locs1 cells slots Q (F0 m (pc + 1) ls rest)) : W p l e R s m args below meth c H locs cells slots Q (F0 m pc ls (.int x :: .int ix :: .ref (q 3) :: rest)) := by
  obtain ⟨h1, rfl⟩ := stA_inv he
  exact w_iast S hw j 4 hj rfl h1 hdg kk
set_option maxRecDepth 100000 in
theorem al_X9_4 {o : Nat} {q : Nat → Nat} {σ : pStt} {ix : Int32} {x : Int32} (S : CX p m c cc nL s args own D cy) (hw : PW D A H0 Ps H locs) (j : Nat) (hj : Ps[j]? = some (pX9 cy o q σ)) (hl : ld (σ.2 4) 6 ix = some x) (hdg : decode cc pc = .ok (.iaload, 1)) (kk : W p l e R s m args below meth c H locs cells slots Q (F0 m (pc + 1) ls (.int x :: rest))) : W p l e R s m args below meth c H locs cells slots Q (F0 m pc ls (.int ix :: .ref (q 4) :: rest)) :=
  w_iald S hw j 5 hj rfl hl hdg kk
set_option maxRecDepth 100000 in
theorem as_X9_4 {o : Nat} {q : Nat → Nat} {σ : pStt} {σ' : pStt} {ix x : Int32} (S : CX p m c cc nL s args own D cy) (hw : PW D A H0 Ps H locs) (j : Nat) (hj : Ps[j]? = some (pX9 cy o q σ)) (he : stA σ 4 6 ix x = some σ') (hdg : decode cc pc = .ok (.iastore, 1)) (kk : ∀ (H1 : Heap) (locs1 : List Loc), PW D A H0 (Ps.set j (pX9 cy o q σ')) H1 locs1 → W p l e R s m args below meth c H1 locs1 cells slots Q (F0 m (pc + 1) ls rest)) : W p l e R s m args below meth c H locs cells slots Q (F0 m pc ls (.int x :: .int ix :: .ref (q 4) :: rest)) := by
  obtain ⟨h1, rfl⟩ := stA_inv he
  exact w_iast S hw j 5 hj rfl h1 hdg kk
set_option maxRecDepth 100000 in
theorem al_X9_5 {o : Nat} {q : Nat → Nat} {σ : pStt} {ix : Int32} {x : Int32} (S : CX p m c cc nL s args own D cy) (hw : PW D A H0 Ps H locs) (j : Nat) (hj : Ps[j]? = some (pX9 cy o q σ)) (hl : ld (σ.2 5) 12 ix = some x) (hdg : decode cc pc = .ok (.iaload, 1)) (kk : W p l e R s m args below meth c H locs cells slots Q (F0 m (pc + 1) ls (.int x :: rest))) : W p l e R s m args below meth c H locs cells slots Q (F0 m pc ls (.int ix :: .ref (q 5) :: rest)) :=
  w_iald S hw j 6 hj rfl hl hdg kk
set_option maxRecDepth 100000 in
theorem as_X9_5 {o : Nat} {q : Nat → Nat} {σ : pStt} {σ' : pStt} {ix x : Int32} (S : CX p m c cc nL s args own D cy) (hw : PW D A H0 Ps H locs) (j : Nat) (hj : Ps[j]? = some (pX9 cy o q σ)) (he : stA σ 5 12 ix x = some σ') (hdg : decode cc pc = .ok (.iastore, 1)) (kk : ∀ (H1 : Heap) (locs1 : List Loc), PW D A H0 (Ps.set j (pX9 cy o q σ')) H1 locs1 → W p l e R s m args below meth c H1 locs1 cells slots Q (F0 m (pc + 1) ls rest)) : W p l e R s m args below meth c H locs cells slots Q (F0 m pc ls (.int x :: .int ix :: .ref (q 5) :: rest)) := by
  obtain ⟨h1, rfl⟩ := stA_inv he
  exact w_iast S hw j 6 hj rfl h1 hdg kk
set_option maxRecDepth 100000 in
theorem al_X9_6 {o : Nat} {q : Nat → Nat} {σ : pStt} {ix : Int32} {x : Int32} (S : CX p m c cc nL s args own D cy) (hw : PW D A H0 Ps H locs) (j : Nat) (hj : Ps[j]? = some (pX9 cy o q σ)) (hl : ld (σ.2 6) 12 ix = some x) (hdg : decode cc pc = .ok (.iaload, 1)) (kk : W p l e R s m args below meth c H locs cells slots Q (F0 m (pc + 1) ls (.int x :: rest))) : W p l e R s m args below meth c H locs cells slots Q (F0 m pc ls (.int ix :: .ref (q 6) :: rest)) :=
  w_iald S hw j 7 hj rfl hl hdg kk
set_option maxRecDepth 100000 in
theorem as_X9_6 {o : Nat} {q : Nat → Nat} {σ : pStt} {σ' : pStt} {ix x : Int32} (S : CX p m c cc nL s args own D cy) (hw : PW D A H0 Ps H locs) (j : Nat) (hj : Ps[j]? = some (pX9 cy o q σ)) (he : stA σ 6 12 ix x = some σ') (hdg : decode cc pc = .ok (.iastore, 1)) (kk : ∀ (H1 : Heap) (locs1 : List Loc), PW D A H0 (Ps.set j (pX9 cy o q σ')) H1 locs1 → W p l e R s m args below meth c H1 locs1 cells slots Q (F0 m (pc + 1) ls rest)) : W p l e R s m args below meth c H locs cells slots Q (F0 m pc ls (.int x :: .int ix :: .ref (q 6) :: rest)) := by
  obtain ⟨h1, rfl⟩ := stA_inv he
  exact w_iast S hw j 7 hj rfl h1 hdg kk
set_option maxRecDepth 100000 in
theorem al_X9_7 {o : Nat} {q : Nat → Nat} {σ : pStt} {ix : Int32} {x : Int32} (S : CX p m c cc nL s args own D cy) (hw : PW D A H0 Ps H locs) (j : Nat) (hj : Ps[j]? = some (pX9 cy o q σ)) (hl : ld (σ.2 7) 12 ix = some x) (hdg : decode cc pc = .ok (.iaload, 1)) (kk : W p l e R s m args below meth c H locs cells slots Q (F0 m (pc + 1) ls (.int x :: rest))) : W p l e R s m args below meth c H locs cells slots Q (F0 m pc ls (.int ix :: .ref (q 7) :: rest)) :=
  w_iald S hw j 8 hj rfl hl hdg kk
set_option maxRecDepth 100000 in
theorem as_X9_7 {o : Nat} {q : Nat → Nat} {σ : pStt} {σ' : pStt} {ix x : Int32} (S : CX p m c cc nL s args own D cy) (hw : PW D A H0 Ps H locs) (j : Nat) (hj : Ps[j]? = some (pX9 cy o q σ)) (he : stA σ 7 12 ix x = some σ') (hdg : decode cc pc = .ok (.iastore, 1)) (kk : ∀ (H1 : Heap) (locs1 : List Loc), PW D A H0 (Ps.set j (pX9 cy o q σ')) H1 locs1 → W p l e R s m args below meth c H1 locs1 cells slots Q (F0 m (pc + 1) ls rest)) : W p l e R s m args below meth c H locs cells slots Q (F0 m pc ls (.int x :: .int ix :: .ref (q 7) :: rest)) := by
  obtain ⟨h1, rfl⟩ := stA_inv he
  exact w_iast S hw j 8 hj rfl h1 hdg kk
set_option maxRecDepth 100000 in
theorem al_X9_8 {o : Nat} {q : Nat → Nat} {σ : pStt} {ix : Int32} {x : Int32} (S : CX p m c cc nL s args own D cy) (hw : PW D A H0 Ps H locs) (j : Nat) (hj : Ps[j]? = some (pX9 cy o q σ)) (hl : ld (σ.2 8) 8 ix = some x) (hdg : decode cc pc = .ok (.iaload, 1)) (kk : W p l e R s m args below meth c H locs cells slots Q (F0 m (pc + 1) ls (.int x :: rest))) : W p l e R s m args below meth c H locs cells slots Q (F0 m pc ls (.int ix :: .ref (q 8) :: rest)) :=
  w_iald S hw j 9 hj rfl hl hdg kk
set_option maxRecDepth 100000 in
theorem as_X9_8 {o : Nat} {q : Nat → Nat} {σ : pStt} {σ' : pStt} {ix x : Int32} (S : CX p m c cc nL s args own D cy) (hw : PW D A H0 Ps H locs) (j : Nat) (hj : Ps[j]? = some (pX9 cy o q σ)) (he : stA σ 8 8 ix x = some σ') (hdg : decode cc pc = .ok (.iastore, 1)) (kk : ∀ (H1 : Heap) (locs1 : List Loc), PW D A H0 (Ps.set j (pX9 cy o q σ')) H1 locs1 → W p l e R s m args below meth c H1 locs1 cells slots Q (F0 m (pc + 1) ls rest)) : W p l e R s m args below meth c H locs cells slots Q (F0 m pc ls (.int x :: .int ix :: .ref (q 8) :: rest)) := by
  obtain ⟨h1, rfl⟩ := stA_inv he
  exact w_iast S hw j 9 hj rfl h1 hdg kk
set_option maxRecDepth 100000 in
theorem al_X9_9 {o : Nat} {q : Nat → Nat} {σ : pStt} {ix : Int32} {x : Int32} (S : CX p m c cc nL s args own D cy) (hw : PW D A H0 Ps H locs) (j : Nat) (hj : Ps[j]? = some (pX9 cy o q σ)) (hl : ld (σ.2 9) 8 ix = some x) (hdg : decode cc pc = .ok (.iaload, 1)) (kk : W p l e R s m args below meth c H locs cells slots Q (F0 m (pc + 1) ls (.int x :: rest))) : W p l e R s m args below meth c H locs cells slots Q (F0 m pc ls (.int ix :: .ref (q 9) :: rest)) :=
  w_iald S hw j 10 hj rfl hl hdg kk
set_option maxRecDepth 100000 in
theorem as_X9_9 {o : Nat} {q : Nat → Nat} {σ : pStt} {σ' : pStt} {ix x : Int32} (S : CX p m c cc nL s args own D cy) (hw : PW D A H0 Ps H locs) (j : Nat) (hj : Ps[j]? = some (pX9 cy o q σ)) (he : stA σ 9 8 ix x = some σ') (hdg : decode cc pc = .ok (.iastore, 1)) (kk : ∀ (H1 : Heap) (locs1 : List Loc), PW D A H0 (Ps.set j (pX9 cy o q σ')) H1 locs1 → W p l e R s m args below meth c H1 locs1 cells slots Q (F0 m (pc + 1) ls rest)) : W p l e R s m args below meth c H locs cells slots Q (F0 m pc ls (.int x :: .int ix :: .ref (q 9) :: rest)) := by
  obtain ⟨h1, rfl⟩ := stA_inv he
  exact w_iast S hw j 10 hj rfl h1 hdg kk
set_option maxRecDepth 100000 in
theorem al_X9_10 {o : Nat} {q : Nat → Nat} {σ : pStt} {ix : Int32} {x : Int32} (S : CX p m c cc nL s args own D cy) (hw : PW D A H0 Ps H locs) (j : Nat) (hj : Ps[j]? = some (pX9 cy o q σ)) (hl : ld (σ.2 10) 8 ix = some x) (hdg : decode cc pc = .ok (.iaload, 1)) (kk : W p l e R s m args below meth c H locs cells slots Q (F0 m (pc + 1) ls (.int x :: rest))) : W p l e R s m args below meth c H locs cells slots Q (F0 m pc ls (.int ix :: .ref (q 10) :: rest)) :=
  w_iald S hw j 11 hj rfl hl hdg kk
set_option maxRecDepth 100000 in
theorem as_X9_10 {o : Nat} {q : Nat → Nat} {σ : pStt} {σ' : pStt} {ix x : Int32} (S : CX p m c cc nL s args own D cy) (hw : PW D A H0 Ps H locs) (j : Nat) (hj : Ps[j]? = some (pX9 cy o q σ)) (he : stA σ 10 8 ix x = some σ') (hdg : decode cc pc = .ok (.iastore, 1)) (kk : ∀ (H1 : Heap) (locs1 : List Loc), PW D A H0 (Ps.set j (pX9 cy o q σ')) H1 locs1 → W p l e R s m args below meth c H1 locs1 cells slots Q (F0 m (pc + 1) ls rest)) : W p l e R s m args below meth c H locs cells slots Q (F0 m pc ls (.int x :: .int ix :: .ref (q 10) :: rest)) := by
  obtain ⟨h1, rfl⟩ := stA_inv he
  exact w_iast S hw j 11 hj rfl h1 hdg kk
set_option maxRecDepth 100000 in
theorem al_X9_11 {o : Nat} {q : Nat → Nat} {σ : pStt} {ix : Int32} {x : Int32} (S : CX p m c cc nL s args own D cy) (hw : PW D A H0 Ps H locs) (j : Nat) (hj : Ps[j]? = some (pX9 cy o q σ)) (hl : ld (σ.2 11) 8 ix = some x) (hdg : decode cc pc = .ok (.iaload, 1)) (kk : W p l e R s m args below meth c H locs cells slots Q (F0 m (pc + 1) ls (.int x :: rest))) : W p l e R s m args below meth c H locs cells slots Q (F0 m pc ls (.int ix :: .ref (q 11) :: rest)) :=
  w_iald S hw j 12 hj rfl hl hdg kk
set_option maxRecDepth 100000 in
theorem as_X9_11 {o : Nat} {q : Nat → Nat} {σ : pStt} {σ' : pStt} {ix x : Int32} (S : CX p m c cc nL s args own D cy) (hw : PW D A H0 Ps H locs) (j : Nat) (hj : Ps[j]? = some (pX9 cy o q σ)) (he : stA σ 11 8 ix x = some σ') (hdg : decode cc pc = .ok (.iastore, 1)) (kk : ∀ (H1 : Heap) (locs1 : List Loc), PW D A H0 (Ps.set j (pX9 cy o q σ')) H1 locs1 → W p l e R s m args below meth c H1 locs1 cells slots Q (F0 m (pc + 1) ls rest)) : W p l e R s m args below meth c H locs cells slots Q (F0 m pc ls (.int x :: .int ix :: .ref (q 11) :: rest)) := by
  obtain ⟨h1, rfl⟩ := stA_inv he
  exact w_iast S hw j 12 hj rfl h1 hdg kk
set_option maxRecDepth 100000 in
theorem al_X9_12 {o : Nat} {q : Nat → Nat} {σ : pStt} {ix : Int32} {x : Int32} (S : CX p m c cc nL s args own D cy) (hw : PW D A H0 Ps H locs) (j : Nat) (hj : Ps[j]? = some (pX9 cy o q σ)) (hl : ld (σ.2 12) 60 ix = some x) (hdg : decode cc pc = .ok (.iaload, 1)) (kk : W p l e R s m args below meth c H locs cells slots Q (F0 m (pc + 1) ls (.int x :: rest))) : W p l e R s m args below meth c H locs cells slots Q (F0 m pc ls (.int ix :: .ref (q 12) :: rest)) :=
  w_iald S hw j 13 hj rfl hl hdg kk
set_option maxRecDepth 100000 in
theorem as_X9_12 {o : Nat} {q : Nat → Nat} {σ : pStt} {σ' : pStt} {ix x : Int32} (S : CX p m c cc nL s args own D cy) (hw : PW D A H0 Ps H locs) (j : Nat) (hj : Ps[j]? = some (pX9 cy o q σ)) (he : stA σ 12 60 ix x = some σ') (hdg : decode cc pc = .ok (.iastore, 1)) (kk : ∀ (H1 : Heap) (locs1 : List Loc), PW D A H0 (Ps.set j (pX9 cy o q σ')) H1 locs1 → W p l e R s m args below meth c H1 locs1 cells slots Q (F0 m (pc + 1) ls rest)) : W p l e R s m args below meth c H locs cells slots Q (F0 m pc ls (.int x :: .int ix :: .ref (q 12) :: rest)) := by
  obtain ⟨h1, rfl⟩ := stA_inv he
  exact w_iast S hw j 13 hj rfl h1 hdg kk
set_option maxRecDepth 100000 in
theorem al_X9_13 {o : Nat} {q : Nat → Nat} {σ : pStt} {ix : Int32} {x : Int32} (S : CX p m c cc nL s args own D cy) (hw : PW D A H0 Ps H locs) (j : Nat) (hj : Ps[j]? = some (pX9 cy o q σ)) (hl : ld (σ.2 13) 60 ix = some x) (hdg : decode cc pc = .ok (.iaload, 1)) (kk : W p l e R s m args below meth c H locs cells slots Q (F0 m (pc + 1) ls (.int x :: rest))) : W p l e R s m args below meth c H locs cells slots Q (F0 m pc ls (.int ix :: .ref (q 13) :: rest)) :=
  w_iald S hw j 14 hj rfl hl hdg kk
set_option maxRecDepth 100000 in
theorem as_X9_13 {o : Nat} {q : Nat → Nat} {σ : pStt} {σ' : pStt} {ix x : Int32} (S : CX p m c cc nL s args own D cy) (hw : PW D A H0 Ps H locs) (j : Nat) (hj : Ps[j]? = some (pX9 cy o q σ)) (he : stA σ 13 60 ix x = some σ') (hdg : decode cc pc = .ok (.iastore, 1)) (kk : ∀ (H1 : Heap) (locs1 : List Loc), PW D A H0 (Ps.set j (pX9 cy o q σ')) H1 locs1 → W p l e R s m args below meth c H1 locs1 cells slots Q (F0 m (pc + 1) ls rest)) : W p l e R s m args below meth c H locs cells slots Q (F0 m pc ls (.int x :: .int ix :: .ref (q 13) :: rest)) := by
  obtain ⟨h1, rfl⟩ := stA_inv he
  exact w_iast S hw j 14 hj rfl h1 hdg kk
set_option maxRecDepth 100000 in
theorem al_X9_14 {o : Nat} {q : Nat → Nat} {σ : pStt} {ix : Int32} {x : Int32} (S : CX p m c cc nL s args own D cy) (hw : PW D A H0 Ps H locs) (j : Nat) (hj : Ps[j]? = some (pX9 cy o q σ)) (hl : ld (σ.2 14) 60 ix = some x) (hdg : decode cc pc = .ok (.iaload, 1)) (kk : W p l e R s m args below meth c H locs cells slots Q (F0 m (pc + 1) ls (.int x :: rest))) : W p l e R s m args below meth c H locs cells slots Q (F0 m pc ls (.int ix :: .ref (q 14) :: rest)) :=
  w_iald S hw j 15 hj rfl hl hdg kk
set_option maxRecDepth 100000 in
theorem as_X9_14 {o : Nat} {q : Nat → Nat} {σ : pStt} {σ' : pStt} {ix x : Int32} (S : CX p m c cc nL s args own D cy) (hw : PW D A H0 Ps H locs) (j : Nat) (hj : Ps[j]? = some (pX9 cy o q σ)) (he : stA σ 14 60 ix x = some σ') (hdg : decode cc pc = .ok (.iastore, 1)) (kk : ∀ (H1 : Heap) (locs1 : List Loc), PW D A H0 (Ps.set j (pX9 cy o q σ')) H1 locs1 → W p l e R s m args below meth c H1 locs1 cells slots Q (F0 m (pc + 1) ls rest)) : W p l e R s m args below meth c H locs cells slots Q (F0 m pc ls (.int x :: .int ix :: .ref (q 14) :: rest)) := by
  obtain ⟨h1, rfl⟩ := stA_inv he
  exact w_iast S hw j 15 hj rfl h1 hdg kk
set_option maxRecDepth 100000 in
theorem al_X9_15 {o : Nat} {q : Nat → Nat} {σ : pStt} {ix : Int32} {x : Int32} (S : CX p m c cc nL s args own D cy) (hw : PW D A H0 Ps H locs) (j : Nat) (hj : Ps[j]? = some (pX9 cy o q σ)) (hl : ld (σ.2 15) 60 ix = some x) (hdg : decode cc pc = .ok (.iaload, 1)) (kk : W p l e R s m args below meth c H locs cells slots Q (F0 m (pc + 1) ls (.int x :: rest))) : W p l e R s m args below meth c H locs cells slots Q (F0 m pc ls (.int ix :: .ref (q 15) :: rest)) :=
  w_iald S hw j 16 hj rfl hl hdg kk
set_option maxRecDepth 100000 in
theorem as_X9_15 {o : Nat} {q : Nat → Nat} {σ : pStt} {σ' : pStt} {ix x : Int32} (S : CX p m c cc nL s args own D cy) (hw : PW D A H0 Ps H locs) (j : Nat) (hj : Ps[j]? = some (pX9 cy o q σ)) (he : stA σ 15 60 ix x = some σ') (hdg : decode cc pc = .ok (.iastore, 1)) (kk : ∀ (H1 : Heap) (locs1 : List Loc), PW D A H0 (Ps.set j (pX9 cy o q σ')) H1 locs1 → W p l e R s m args below meth c H1 locs1 cells slots Q (F0 m (pc + 1) ls rest)) : W p l e R s m args below meth c H locs cells slots Q (F0 m pc ls (.int x :: .int ix :: .ref (q 15) :: rest)) := by
  obtain ⟨h1, rfl⟩ := stA_inv he
  exact w_iast S hw j 16 hj rfl h1 hdg kk
set_option maxRecDepth 100000 in
theorem al_X9_16 {o : Nat} {q : Nat → Nat} {σ : pStt} {ix : Int32} {x : Int32} (S : CX p m c cc nL s args own D cy) (hw : PW D A H0 Ps H locs) (j : Nat) (hj : Ps[j]? = some (pX9 cy o q σ)) (hl : ld (σ.2 16) 36 ix = some x) (hdg : decode cc pc = .ok (.iaload, 1)) (kk : W p l e R s m args below meth c H locs cells slots Q (F0 m (pc + 1) ls (.int x :: rest))) : W p l e R s m args below meth c H locs cells slots Q (F0 m pc ls (.int ix :: .ref (q 16) :: rest)) :=
  w_iald S hw j 17 hj rfl hl hdg kk
set_option maxRecDepth 100000 in
theorem as_X9_16 {o : Nat} {q : Nat → Nat} {σ : pStt} {σ' : pStt} {ix x : Int32} (S : CX p m c cc nL s args own D cy) (hw : PW D A H0 Ps H locs) (j : Nat) (hj : Ps[j]? = some (pX9 cy o q σ)) (he : stA σ 16 36 ix x = some σ') (hdg : decode cc pc = .ok (.iastore, 1)) (kk : ∀ (H1 : Heap) (locs1 : List Loc), PW D A H0 (Ps.set j (pX9 cy o q σ')) H1 locs1 → W p l e R s m args below meth c H1 locs1 cells slots Q (F0 m (pc + 1) ls rest)) : W p l e R s m args below meth c H locs cells slots Q (F0 m pc ls (.int x :: .int ix :: .ref (q 16) :: rest)) := by
  obtain ⟨h1, rfl⟩ := stA_inv he
  exact w_iast S hw j 17 hj rfl h1 hdg kk
set_option maxRecDepth 100000 in
theorem al_X9_17 {o : Nat} {q : Nat → Nat} {σ : pStt} {ix : Int32} {x : Int32} (S : CX p m c cc nL s args own D cy) (hw : PW D A H0 Ps H locs) (j : Nat) (hj : Ps[j]? = some (pX9 cy o q σ)) (hl : ld (σ.2 17) 2048 ix = some x) (hdg : decode cc pc = .ok (.baload, 1)) (kk : W p l e R s m args below meth c H locs cells slots Q (F0 m (pc + 1) ls (.int x :: rest))) : W p l e R s m args below meth c H locs cells slots Q (F0 m pc ls (.int ix :: .ref (q 17) :: rest)) :=
  w_zald S hw j 18 hj rfl hl hdg kk
set_option maxRecDepth 100000 in
theorem as_X9_17 {o : Nat} {q : Nat → Nat} {σ : pStt} {σ' : pStt} {ix x : Int32} (S : CX p m c cc nL s args own D cy) (hw : PW D A H0 Ps H locs) (j : Nat) (hj : Ps[j]? = some (pX9 cy o q σ)) (he : stA σ 17 2048 ix (x &&& 1) = some σ') (hdg : decode cc pc = .ok (.bastore, 1)) (kk : ∀ (H1 : Heap) (locs1 : List Loc), PW D A H0 (Ps.set j (pX9 cy o q σ')) H1 locs1 → W p l e R s m args below meth c H1 locs1 cells slots Q (F0 m (pc + 1) ls rest)) : W p l e R s m args below meth c H locs cells slots Q (F0 m pc ls (.int x :: .int ix :: .ref (q 17) :: rest)) := by
  obtain ⟨h1, rfl⟩ := stA_inv he
  exact w_zast S hw j 18 hj rfl h1 hdg kk
set_option maxRecDepth 100000 in
theorem al_X9_18 {o : Nat} {q : Nat → Nat} {σ : pStt} {ix : Int32} {x : Int32} (S : CX p m c cc nL s args own D cy) (hw : PW D A H0 Ps H locs) (j : Nat) (hj : Ps[j]? = some (pX9 cy o q σ)) (hl : ld (σ.2 18) 5 ix = some x) (hdg : decode cc pc = .ok (.iaload, 1)) (kk : W p l e R s m args below meth c H locs cells slots Q (F0 m (pc + 1) ls (.int x :: rest))) : W p l e R s m args below meth c H locs cells slots Q (F0 m pc ls (.int ix :: .ref (q 18) :: rest)) :=
  w_iald S hw j 19 hj rfl hl hdg kk
set_option maxRecDepth 100000 in
theorem as_X9_18 {o : Nat} {q : Nat → Nat} {σ : pStt} {σ' : pStt} {ix x : Int32} (S : CX p m c cc nL s args own D cy) (hw : PW D A H0 Ps H locs) (j : Nat) (hj : Ps[j]? = some (pX9 cy o q σ)) (he : stA σ 18 5 ix x = some σ') (hdg : decode cc pc = .ok (.iastore, 1)) (kk : ∀ (H1 : Heap) (locs1 : List Loc), PW D A H0 (Ps.set j (pX9 cy o q σ')) H1 locs1 → W p l e R s m args below meth c H1 locs1 cells slots Q (F0 m (pc + 1) ls rest)) : W p l e R s m args below meth c H locs cells slots Q (F0 m pc ls (.int x :: .int ix :: .ref (q 18) :: rest)) := by
  obtain ⟨h1, rfl⟩ := stA_inv he
  exact w_iast S hw j 19 hj rfl h1 hdg kk
set_option maxRecDepth 100000 in
theorem al_X9_19 {o : Nat} {q : Nat → Nat} {σ : pStt} {ix : Int32} {x : Int32} (S : CX p m c cc nL s args own D cy) (hw : PW D A H0 Ps H locs) (j : Nat) (hj : Ps[j]? = some (pX9 cy o q σ)) (hl : ld (σ.2 19) 220 ix = some x) (hdg : decode cc pc = .ok (.iaload, 1)) (kk : W p l e R s m args below meth c H locs cells slots Q (F0 m (pc + 1) ls (.int x :: rest))) : W p l e R s m args below meth c H locs cells slots Q (F0 m pc ls (.int ix :: .ref (q 19) :: rest)) :=
  w_iald S hw j 20 hj rfl hl hdg kk
set_option maxRecDepth 100000 in
theorem as_X9_19 {o : Nat} {q : Nat → Nat} {σ : pStt} {σ' : pStt} {ix x : Int32} (S : CX p m c cc nL s args own D cy) (hw : PW D A H0 Ps H locs) (j : Nat) (hj : Ps[j]? = some (pX9 cy o q σ)) (he : stA σ 19 220 ix x = some σ') (hdg : decode cc pc = .ok (.iastore, 1)) (kk : ∀ (H1 : Heap) (locs1 : List Loc), PW D A H0 (Ps.set j (pX9 cy o q σ')) H1 locs1 → W p l e R s m args below meth c H1 locs1 cells slots Q (F0 m (pc + 1) ls rest)) : W p l e R s m args below meth c H locs cells slots Q (F0 m pc ls (.int x :: .int ix :: .ref (q 19) :: rest)) := by
  obtain ⟨h1, rfl⟩ := stA_inv he
  exact w_iast S hw j 20 hj rfl h1 hdg kk
set_option maxRecDepth 100000 in
theorem al_X9_20 {o : Nat} {q : Nat → Nat} {σ : pStt} {ix : Int32} {x : Int32} (S : CX p m c cc nL s args own D cy) (hw : PW D A H0 Ps H locs) (j : Nat) (hj : Ps[j]? = some (pX9 cy o q σ)) (hl : ld (σ.2 20) 2 ix = some x) (hdg : decode cc pc = .ok (.baload, 1)) (kk : W p l e R s m args below meth c H locs cells slots Q (F0 m (pc + 1) ls (.int x :: rest))) : W p l e R s m args below meth c H locs cells slots Q (F0 m pc ls (.int ix :: .ref (q 20) :: rest)) :=
  w_zald S hw j 21 hj rfl hl hdg kk
set_option maxRecDepth 100000 in
theorem as_X9_20 {o : Nat} {q : Nat → Nat} {σ : pStt} {σ' : pStt} {ix x : Int32} (S : CX p m c cc nL s args own D cy) (hw : PW D A H0 Ps H locs) (j : Nat) (hj : Ps[j]? = some (pX9 cy o q σ)) (he : stA σ 20 2 ix (x &&& 1) = some σ') (hdg : decode cc pc = .ok (.bastore, 1)) (kk : ∀ (H1 : Heap) (locs1 : List Loc), PW D A H0 (Ps.set j (pX9 cy o q σ')) H1 locs1 → W p l e R s m args below meth c H1 locs1 cells slots Q (F0 m (pc + 1) ls rest)) : W p l e R s m args below meth c H locs cells slots Q (F0 m pc ls (.int x :: .int ix :: .ref (q 20) :: rest)) := by
  obtain ⟨h1, rfl⟩ := stA_inv he
  exact w_zast S hw j 21 hj rfl h1 hdg kk
end
