/-! contracts that make cells; rows of constructors -/
def qf (l : List Nat) : Nat → Nat := fun k => l.getD k 0
def zS : pStt := (fun _ => 0, fun _ _ => 0)
def pIm (cy : Nat → ClassId) (a : Nat) (r : Nat → Option Nat) : va_W := [(a, .inl (cy 3, 2, .inr (.inr (.inr (.inr r)))))]
theorem pw_cast {D : va_G} {A : Nat → Prop} {H0 H : Heap} {Ps Ps' : List va_W} {locs : List Loc} (hw : PW D A H0 Ps H locs) (h : Ps.flatten = Ps'.flatten) : PW D A H0 Ps' H locs := by
  obtain ⟨h1, h2, h3, h4⟩ := hw
  exact ⟨h ▸ h1, h ▸ h2, h3, h4⟩
theorem pw_perm {D : va_G} {A : Nat → Prop} {H0 H : Heap} {Ps Ps' : List va_W} {locs : List Loc} (hw : PW D A H0 Ps H locs) (h : Ps.Perm Ps') : PW D A H0 Ps' H locs := by
  obtain ⟨h1, h2, h3, h4⟩ := hw
  have hp : Ps.flatten.Perm Ps'.flatten := h.flatten
  refine ⟨vp_iff.mpr fun x hx => vp_iff.mp h1 x (hp.mem_iff.mpr hx), vd_iff.mpr ⟨?_, fun x hx => (vd_iff.mp h2).2 x (hp.mem_iff.mpr hx)⟩, h3, h4⟩
  exact (hp.pairwise_iff (fun {x y} hxy => Ne.symm hxy)).mp (vd_iff.mp h2).1
def QX (D : va_G) (Ps : List va_W) (B : (Nat → Nat → Nat) → List va_W) (sz : Nat) (ov : Option Value) : Array Value → State → Outcome → State → Prop := fun _ st oc t => (∃ x : Nat → Nat → Nat, oc = .returned ov ∧ va_P D vwCl (B x).flatten t.heap ∧ va_D (va_A Ps.flatten sz) (B x).flatten) ∧ va_F (va_A Ps.flatten sz) st t
def CTX (l : Launch) (y : MethodName) (cc : ByteArray) (maxL : Nat) (ret : Option FieldType) (rm : Room) (D : va_G) (cy : Nat → ClassId) (av : List Value) (Ps : List va_W) (ov : Option Value) (B : (Nat → Nat → Nat) → List va_W) (mc ms : Nat) : Prop :=
  ∀ sz : Nat, Met l y [.code y cc maxL ret] rm (va_Pc av (PCs D cy Ps sz)) (QX D Ps B sz ov) mc ms (va_A Ps.flatten sz)
theorem CTX.of {l : Launch} {y : MethodName} {cc : ByteArray} {maxL : Nat} {ret : Option FieldType} {rm : Room} {D : va_G} {cy : Nat → ClassId} {av : List Value} {Ps : List va_W} {ov : Option Value} {B : (Nat → Nat → Nat) → List va_W} {mc ms : Nat} (hy : plainName y.cls = true) (hn : (lg_sl av).length ≤ maxL)
    (body : ∀ (p : Program) (e : Env) (s : State) (m : MethodId) (args : Array Value) (below : List Frame) (meth : Method) (c : Code) (ls : Array Slot) (A : Nat → Prop) (Q : State → Prop), A = va_A Ps.flatten s.heap.size → Q = MQ below (QX D Ps B s.heap.size ov) args s mc ms (va_A Ps.flatten s.heap.size) → CX p m c cc maxL s args y.cls D cy → meth.sig.returnType = ret → meth.locks = false → meth.name = y.name → lv_has ls maxL (lv_args 0 av) → PW D A s.heap Ps s.heap [] → W p l e rm s m args below meth c s.heap [] 0 0 Q (F0 m 0 ls [])) : CTX l y cc maxL ret rm D cy av Ps ov B mc ms := by
  intro sz
  refine Met.ofW (cc := cc) (maxL := maxL) (ret := ret) hy rfl ?_
  intro p e s m args below meth c s₁ B hml hv
  obtain ⟨rfl, hsz, hK, hP, hD0⟩ := hv
  subst hsz
  have hl := lv_entry av hn
  rw [lg_entry_eq]
  generalize (lg_sl av ++ List.replicate (maxL - (lg_sl av).length) Slot.unset).toArray = ls at hl ⊢
  exact body p e s m _ below meth c ls _ _ rfl rfl ⟨B.exec, B.bytes, hml, findClass_of_methodNamed B.named, hK⟩ B.returns B.notSynchronized (name_of_methodNamed B.named B.method).1 hl ⟨hP, hD0.self, va_S.rf, fun q h => Or.inr h⟩
section RX
variable {p : Program} {l : Launch} {e : Env} {R : Room} {s : State} {m : MethodId} {args : Array Value} {below : List Frame} {meth : Method} {c : Code} {H : Heap} {locs : List Loc} {cells slots : Nat} {Q : State → Prop}
variable {cc : ByteArray} {pc nL : Nat} {ls : Array Slot} {rest : List Value} {D : va_G} {cy : Nat → ClassId} {A : Nat → Prop} {a : Nat} {H0 : Heap} {own : String} {Ps Ps0 : List va_W} {ov : Option Value} {sz : Nat}
theorem x_vret {B : (Nat → Nat → Nat) → List va_W} (x : Nat → Nat → Nat) (S : CX p m c cc nL s args own D cy) (hr : meth.sig.returnType = none) (hlk : meth.locks = false) (hA : A = va_A Ps0.flatten s.heap.size) (hQ : Q = MQ below (QX D Ps0 B s.heap.size none) args s cells slots (va_A Ps0.flatten s.heap.size)) (hw : PW D A s.heap (B x) H locs) (hdg : decode cc pc = .ok (.return_, 1)) : W p l e R s m args below meth c H locs cells slots Q (F0 m pc ls []) := by
  subst hA; subst hQ
  exact W.vret S.1 S.2.1 hr (fun t ht hW => ⟨⟨x, rfl, by rw [ht]; exact hw.1, hw.2.1⟩, hw.2.2.1.F ht⟩) hw.2.2.1.2.2 hdg hlk
theorem x_iret {B : (Nat → Nat → Nat) → List va_W} {v : Int32} (x : Nat → Nat → Nat) (S : CX p m c cc nL s args own D cy) (hr : meth.sig.returnType = some .int) (hlk : meth.locks = false) (hA : A = va_A Ps0.flatten s.heap.size) (hQ : Q = MQ below (QX D Ps0 B s.heap.size (some (.int v))) args s cells slots (va_A Ps0.flatten s.heap.size)) (hw : PW D A s.heap (B x) H locs) (hdg : decode cc pc = .ok (.ireturn, 1)) : W p l e R s m args below meth c H locs cells slots Q (F0 m pc ls [.int v]) := by
  subst hA; subst hQ
  exact W.iret S.1 S.2.1 hr (fun t ht hW => ⟨⟨x, rfl, by rw [ht]; exact hw.1, hw.2.1⟩, hw.2.2.1.F ht⟩) hw.2.2.1.2.2 hdg hlk
theorem fl_push {Ps : List va_W} {x : Nat × va_E} : (Ps ++ [[x]]).flatten = Ps.flatten ++ [x] := by simp
theorem x_new {C : String} {T : u_T} {N ci index : Nat} {fs : List Value} (S : CX p m c cc nL s args own D cy) (hw : PW D A H0 Ps H locs) (hc : vwCl[ci]? = some (C, T, N)) (hin : ∀ w ∈ u_ws C T N, w.before args s = true) (ty : Nat → FieldType) (hty : ∀ k, k < N → parseFieldDescriptor (T k).2.2.1 = some (ty k)) (hcl : (Cond.classLink own index C).before args s = true) (hinst : (Cond.instantiable C N).before args s = true) (hini : (Cond.initialized C).before args s = true) (hfs : ∀ j, j < N → defaultValue (ty j) = vp_V fs j) (hcells : cells + 1 ≤ R.cells) (hslots : slots + N ≤ R.slots) (hdg : decode cc pc = .ok (.new index, 3))
    (kk : ∀ (q : Nat) (H1 : Heap), PW D A H0 (Ps ++ [[(q, .inr (ci, fs))]]) H1 locs → W p l e R s m args below meth c H1 locs (cells + 1) (slots + N) Q (F0 m (pc + 3) ls (.ref q :: rest))) : W p l e R s m args below meth c H locs cells slots Q (F0 m pc ls rest) :=
  va_new S.1 S.2.1 hin (fun _ h => h) ty hty S.2.2.2.1 hcl hinst hini S.2.2.2.2.1 hw.1 hw.2.1 hw.2.2.1 hw.2.2.2 hc hfs hcells hslots hdg (fun q H1 hP hD hS => kk q H1 ⟨by rw [fl_push]; exact hP, by rw [fl_push]; exact hD, hS, hw.2.2.2⟩)
theorem ra_eq {U : State} {c1 c2 : ClassId} {ty : FieldType} (h1 : va_RA U c1 ty) (h2 : va_RA U c2 ty) : c1 = c2 := by
  cases ty with
  | object C =>
    obtain ⟨_, _, -, -, -, h1⟩ := h1
    obtain ⟨_, _, -, -, -, h2⟩ := h2
    exact Option.some.inj (h1.symm.trans h2)
  | _ => exact Option.some.inj (Eq.trans (Eq.symm h1) h2)
theorem x_newI {n : Int32} {N' : Nat} (S : CX p m c cc nL s args own D cy) (hw : PW D A H0 Ps H locs) (harr : (Cond.arrayClass .int).before args s = true) (hn : ¬ n < 0) (hN : n.toNatClampNeg = N') (hbytes : N' * componentBytes .int ≤ 536870912) (hcells : cells + 1 ≤ R.cells) (hslots : slots + N' ≤ R.slots) (hdg : decode cc pc = .ok (.newarray .int, 2))
    (kk : ∀ (q : Nat) (H1 : Heap), PW D A H0 (Ps ++ [[(q, .inl (cy 0, N', .inl (fun _ => 0)))]]) H1 locs → W p l e R s m args below meth c H1 locs (cells + 1) (slots + N') Q (F0 m (pc + 2) ls (.ref q :: rest))) : W p l e R s m args below meth c H locs cells slots Q (F0 m pc ls (.int n :: rest)) := by
  refine va_newa (atype := .int) (ty := .int) (a0 := (N', .inl (fun _ => 0))) S.1 S.2.1 harr rfl S.2.2.2.2.1 hw.1 hw.2.1 hw.2.2.1 hw.2.2.2 (fun cA => rfl) hn hN hbytes hcells hslots hdg (fun q cA H1 hK hP hD hS => ?_)
  have e1 : cA = cy 0 := ra_eq (hK.2 4 (cA, .int) rfl).2 (hK.2 0 (cy 0, .int) rfl).2
  subst e1
  exact kk q H1 ⟨by rw [fl_push]; exact hP, by rw [fl_push]; exact hD, hS, hw.2.2.2⟩
theorem x_newZ {n : Int32} {N' : Nat} (S : CX p m c cc nL s args own D cy) (hw : PW D A H0 Ps H locs) (harr : (Cond.arrayClass .boolean).before args s = true) (hn : ¬ n < 0) (hN : n.toNatClampNeg = N') (hbytes : N' * componentBytes .boolean ≤ 536870912) (hcells : cells + 1 ≤ R.cells) (hslots : slots + N' ≤ R.slots) (hdg : decode cc pc = .ok (.newarray .boolean, 2))
    (kk : ∀ (q : Nat) (H1 : Heap), PW D A H0 (Ps ++ [[(q, .inl (cy 1, N', .inl (fun _ => 0)))]]) H1 locs → W p l e R s m args below meth c H1 locs (cells + 1) (slots + N') Q (F0 m (pc + 2) ls (.ref q :: rest))) : W p l e R s m args below meth c H locs cells slots Q (F0 m pc ls (.int n :: rest)) := by
  refine va_newa (atype := .boolean) (ty := .boolean) (a0 := (N', .inl (fun _ => 0))) S.1 S.2.1 harr rfl S.2.2.2.2.1 hw.1 hw.2.1 hw.2.2.1 hw.2.2.2 (fun cA => rfl) hn hN hbytes hcells hslots hdg (fun q cA H1 hK hP hD hS => ?_)
  have e1 : cA = cy 1 := ra_eq (hK.2 4 (cA, .boolean) rfl).2 (hK.2 1 (cy 1, .boolean) rfl).2
  subst e1
  exact kk q H1 ⟨by rw [fl_push]; exact hP, by rw [fl_push]; exact hD, hS, hw.2.2.2⟩
theorem x_newL {n : Int32} {N' : Nat} (S : CX p m c cc nL s args own D cy) (hw : PW D A H0 Ps H locs) (harr : (Cond.arrayClass .long).before args s = true) (hn : ¬ n < 0) (hN : n.toNatClampNeg = N') (hbytes : N' * componentBytes .long ≤ 536870912) (hcells : cells + 1 ≤ R.cells) (hslots : slots + N' ≤ R.slots) (hdg : decode cc pc = .ok (.newarray .long, 2))
    (kk : ∀ (q : Nat) (H1 : Heap), PW D A H0 (Ps ++ [[(q, .inl (cy 2, N', .inr (.inl (fun _ => 0))))]]) H1 locs → W p l e R s m args below meth c H1 locs (cells + 1) (slots + N') Q (F0 m (pc + 2) ls (.ref q :: rest))) : W p l e R s m args below meth c H locs cells slots Q (F0 m pc ls (.int n :: rest)) := by
  refine va_newa (atype := .long) (ty := .long) (a0 := (N', .inr (.inl (fun _ => 0)))) S.1 S.2.1 harr rfl S.2.2.2.2.1 hw.1 hw.2.1 hw.2.2.1 hw.2.2.2 (fun cA => rfl) hn hN hbytes hcells hslots hdg (fun q cA H1 hK hP hD hS => ?_)
  have e1 : cA = cy 2 := ra_eq (hK.2 4 (cA, .long) rfl).2 (hK.2 2 (cy 2, .long) rfl).2
  subst e1
  exact kk q H1 ⟨by rw [fl_push]; exact hP, by rw [fl_push]; exact hD, hS, hw.2.2.2⟩
theorem x_newW {index : Nat} {n : Int32} {N' : Nat} (S : CX p m c cc nL s args own D cy) (hw : PW D A H0 Ps H locs) (hcl : (Cond.classLink own index "SwornLane$World").before args s = true) (hover : (Cond.arrayOver (.object "SwornLane$World")).before args s = true) (hn : ¬ n < 0) (hN : n.toNatClampNeg = N') (hbytes : N' * 4 ≤ 536870912) (hcells : cells + 1 ≤ R.cells) (hslots : slots + N' ≤ R.slots) (hdg : decode cc pc = .ok (.anewarray index, 3))
    (kk : ∀ (q : Nat) (H1 : Heap), PW D A H0 (Ps ++ [[(q, .inl (cy 3, N', .inr (.inr (.inr (.inr (fun _ => none))))))]]) H1 locs → W p l e R s m args below meth c H1 locs (cells + 1) (slots + N') Q (F0 m (pc + 3) ls (.ref q :: rest))) : W p l e R s m args below meth c H locs cells slots Q (F0 m pc ls (.int n :: rest)) := by
  refine va_newq S.1 S.2.1 S.2.2.2.1 hcl (va_AO.of hover) S.2.2.2.2.1 hw.1 hw.2.1 hw.2.2.1 hw.2.2.2 hn hN hbytes hcells hslots hdg (fun q cA H1 hK hP hD hS => ?_)
  have e1 : cA = cy 3 := ra_eq (hK.2 4 (cA, .object "SwornLane$World") rfl).2 (hK.2 3 (cy 3, .object "SwornLane$World") rfl).2
  subst e1
  exact kk q H1 ⟨by rw [fl_push]; exact hP, by rw [fl_push]; exact hD, hS, hw.2.2.2⟩
theorem x_putF {C : String} {T : u_T} {N ci index : Nat} (S : CX p m c cc nL s args own D cy) (hw : PW D A H0 Ps H locs) (hin2 : meth.name = "<init>") (j i : Nat) {P : va_W} (hj : Ps[j]? = some P) {fs : List Value} (hi : P[i]? = some (a, .inr (ci, fs))) (hc : vwCl[ci]? = some (C, T, N)) (hin : ∀ w ∈ u_ws C T N, w.before args s = true) (ty0 : Nat → FieldType) (hty : ∀ k, k < N → parseFieldDescriptor (T k).2.2.1 = some (ty0 k)) (hnm : ∀ a, a < N → ∀ b, b < N → a ≠ b → (T a).2.1 ≠ (T b).2.1) (k : Nat) (hk : k < N) (hlink : (Cond.fieldLink own index own (T k).2.1 (T k).2.2.1).before args s = true) (hr : (T k).1 = own) (hfin : (T k).2.2.2 = true) {ty : FieldType} {v : Value} (hd : parseFieldDescriptor (T k).2.2.1 = some ty) (hn : narrow ty v = v) (hfit : fits ty v = true) (hl : k < fs.length) (hdg : decode cc pc = .ok (.putfield index, 3))
    (kk : ∀ (H1 : Heap) (locs1 : List Loc), PW D A H0 (Ps.set j (P.set i (a, .inr (ci, fs.set k v)))) H1 locs1 → W p l e R s m args below meth c H1 locs1 cells slots Q (F0 m (pc + 3) ls rest)) : W p l e R s m args below meth c H locs cells slots Q (F0 m pc ls (v :: .ref a :: rest)) := by
  obtain ⟨q0, he, hs⟩ := fl_at hj hi
  refine va_putF S.1 S.2.1 hin (fun _ h => h) ty0 hty hnm S.2.2.2.1 S.2.2.2.2.1 hw.1 hw.2.1 hw.2.2.1 q0 he hc k hk hlink (fun x h => by rw [← hr]; exact h) hfin hin2 hr hd hn hfit hl hdg (fun H1 locs1 hP hD hS => ?_)
  rw [hs] at hP hD
  exact kk H1 locs1 ⟨hP, hD, hS, hw.2.2.2⟩
theorem x_objI {idx : Nat} (S : CX p m c cc nL s args own D cy) (hlink : (Cond.methodLink own idx Lib.objectInit).before args s = true) (hinst : (Cond.instanceMethod Lib.objectInit).before args s = true) (hcode : (Cond.code Lib.objectInit ⟨#[0xb1]⟩ 1 none).before args s = true) (hsize : ls.size = nL) (hframes : 1 ≤ R.frames) (hlocals : (rest.map fun v => v.category).sum + 12 ≤ R.locals) (hdg : decode cc pc = .ok (.invokespecial idx, 3))
    (kk : W p l e R s m args below meth c H locs cells slots Q (F0 m (pc + 3) ls rest)) : W p l e R s m args below meth c H locs cells slots Q (F0 m pc ls (.ref a :: rest)) :=
  W.objInit (g := F0 m pc ls (.ref a :: rest)) S.1 S.2.1 S.2.2.2.1 hlink hinst hcode rfl (hsize.trans S.2.2.1.symm) rfl hdg hframes (by show 2 * 0 + _ + 12 ≤ _; omega) kk
variable {y : MethodName} {bytes : ByteArray} {maxL n index mc ms : Nat} {ret : Option FieldType} {rm : Room} {As : List Value} {Cs : List va_W} {B : (Nat → Nat → Nat) → List va_W} {st0 : List Value} {b : Nat}
theorem x_callB {aa : Array Value} (hr : va_Run p l e R s m args below meth c H locs cells slots mc ms (F0 m pc ls st0) rest (QX D Cs B H.size ov aa) (va_A Cs.flatten H.size)) (hw : PW D A H0 Ps H locs) (js : List Nat) (hC : js.map (fun j => Ps[j]?) = Cs.map some) (hn : js.Nodup) (hlen : ∀ x, js.length = (B x).length)
    (kk : ∀ (x : Nat → Nat → Nat) (H1 : Heap) (locs1 : List Loc), PW D A H0 (setAll Ps js (B x)) H1 locs1 → W p l e R s m args below meth c H1 locs1 (cells + mc) (slots + ms) Q (F0 m (pc + 3) ls (ov.toList ++ rest))) : W p l e R s m args below meth c H locs cells slots Q (F0 m pc ls st0) := by
  intro T hT X
  obtain ⟨v, st₀, t, T', L, h0, X', hL, e1, e2, ⟨⟨x, hv, hP1, hD1⟩, hz, hk⟩, st⟩ := hr T hT X
  cases hv
  rw [h0] at hz hk
  have hj := pw_join hw hC hn (hlen x) (H1 := T'.heap) (by rw [e1]; exact hz) (fun q h1 h2 => by rw [e1]; exact hk q h1 h2) (by rw [e1]; exact hP1) hD1 hL
  obtain ⟨t2, a1, b1⟩ := kk x T'.heap (locs ++ L) hj T' rfl X'
  exact ⟨t2, st t2 a1, b1⟩
def RMx (rm R : Room) (maxL mc ms : Nat) : Prop := rm.cells = mc ∧ rm.slots = ms ∧ rm.frames + 1 ≤ R.frames ∧ 8 + (maxL + 11) + rm.locals ≤ R.locals
theorem x_callI (S : CX p m c cc nL s args own D cy) (hw : PW D A H0 Ps H locs) (hM : CTX l y bytes maxL none rm D cy (.ref b :: As) Cs none B mc ms) (F : MF y bytes maxL none n args s) (hin : (Cond.instanceMethod y).before args s = true) (hnm : y.name = "<init>") (hl : (Cond.methodLink own index y).before args s = true) (hR : RMx rm R maxL mc ms) (js : List Nat) (hC : js.map (fun j => Ps[j]?) = Cs.map some) (hnd : js.Nodup) (hlen : ∀ x, js.length = (B x).length) (hn : As.length = n) (hsize : ls.size = nL) (hs0 : st0 = As.reverse ++ .ref b :: rest) (hrest : (rest.map fun v => v.category).sum ≤ 8) (hdg : decode cc pc = .ok (.invokespecial index, 3)) (hcs : cells + mc ≤ R.cells ∧ slots + ms ≤ R.slots)
    (kk : ∀ (x : Nat → Nat → Nat) (H1 : Heap) (locs1 : List Loc), PW D A H0 (setAll Ps js (B x)) H1 locs1 → W p l e R s m args below meth c H1 locs1 (cells + mc) (slots + ms) Q (F0 m (pc + 3) ls rest)) : W p l e R s m args below meth c H locs cells slots Q (F0 m pc ls st0) := by
  obtain ⟨h1, h2, h3⟩ := pw_sub hw hC hnd
  refine x_callB (va_runI (Ts := []) ⟨S.1, S.2.1, S.2.2.1, S.2.2.2.1, fun _ h => absurd h List.not_mem_nil⟩ (hM H.size) ⟨⟨hR.1, hR.2.1, hR.2.2.1, hR.2.2.2, fun w hw a' U hW => ?_, List.mem_singleton.mpr rfl, F.1, F.2.1, F.2.2.1, F.2.2.2, hl⟩, hnm, hin⟩ ⟨pc_blind, fun U hU hW => ⟨rfl, by rw [hU], S.2.2.2.2.moved hW, by rw [hU]; exact h1, h2.weaken (fun _ _ _ _ => trivial)⟩⟩ rfl hn hsize hs0 (lv_room hrest) hdg hcs) hw js hC hnd hlen kk
  rw [List.mem_singleton.mp hw]
  exact word_at hW (Or.inl rfl) F.1
theorem x_callIN {host : String} (S : CX p m c cc nL s args own D cy) (hw : PW D A H0 Ps H locs) (hM : CTX l y bytes maxL none rm D cy (.ref b :: As) Cs none B mc ms) (F : MF y bytes maxL none n args s) (hin : (Cond.instanceMethod y).before args s = true) (hnm : y.name = "<init>") (hl : (Cond.methodLinkNest own index y host).before args s = true) (hR : RMx rm R maxL mc ms) (js : List Nat) (hC : js.map (fun j => Ps[j]?) = Cs.map some) (hnd : js.Nodup) (hlen : ∀ x, js.length = (B x).length) (hn : As.length = n) (hsize : ls.size = nL) (hs0 : st0 = As.reverse ++ .ref b :: rest) (hrest : (rest.map fun v => v.category).sum ≤ 8) (hdg : decode cc pc = .ok (.invokespecial index, 3)) (hcs : cells + mc ≤ R.cells ∧ slots + ms ≤ R.slots)
    (kk : ∀ (x : Nat → Nat → Nat) (H1 : Heap) (locs1 : List Loc), PW D A H0 (setAll Ps js (B x)) H1 locs1 → W p l e R s m args below meth c H1 locs1 (cells + mc) (slots + ms) Q (F0 m (pc + 3) ls rest)) : W p l e R s m args below meth c H locs cells slots Q (F0 m pc ls st0) := by
  obtain ⟨h1, h2, h3⟩ := pw_sub hw hC hnd
  refine x_callB (va_runIN (Ts := []) (host := host) ⟨S.1, S.2.1, S.2.2.1, S.2.2.2.1, fun _ h => absurd h List.not_mem_nil⟩ (hM H.size) ⟨⟨⟨hR.1, hR.2.1, hR.2.2.1, hR.2.2.2, fun w hw a' U hW => ?_, List.mem_singleton.mpr rfl⟩, F.1, F.2.1, F.2.2.1, F.2.2.2, hl⟩, hnm, hin⟩ ⟨pc_blind, fun U hU hW => ⟨rfl, by rw [hU], S.2.2.2.2.moved hW, by rw [hU]; exact h1, h2.weaken (fun _ _ _ _ => trivial)⟩⟩ rfl hn hsize hs0 (lv_room hrest) hdg hcs) hw js hC hnd hlen kk
  rw [List.mem_singleton.mp hw]
  exact word_at hW (Or.inl rfl) F.1
theorem x_callV {ci : Nat} {T : u_T} {N : Nat} {fs : List Value} {P0 : va_W} (S : CX p m c cc nL s args own D cy) (hw : PW D A H0 Ps H locs) (hM : CTX l y bytes maxL ret rm D cy (.ref b :: As) Cs ov B mc ms) (F : MF y bytes maxL ret n args s) (hin : (Cond.instanceMethod y).before args s = true) (hse : (Cond.selects y.cls y y).before args s = true) (hl : (Cond.methodLink own index y).before args s = true) (hR : RMx rm R maxL mc ms) (js : List Nat) (hC : js.map (fun j => Ps[j]?) = Cs.map some) (hnd : js.Nodup) (hlen : ∀ x, js.length = (B x).length) (hP0 : Cs[0]? = some P0) (hr0 : P0[0]? = some (b, .inr (ci, fs))) (hci : vwCl[ci]? = some (y.cls, T, N)) (hn : As.length = n) (hsize : ls.size = nL) (hs0 : st0 = As.reverse ++ .ref b :: rest) (hrest : (rest.map fun v => v.category).sum ≤ 8) (hdg : decode cc pc = .ok (.invokevirtual index, 3)) (hcs : cells + mc ≤ R.cells ∧ slots + ms ≤ R.slots)
    (kk : ∀ (x : Nat → Nat → Nat) (H1 : Heap) (locs1 : List Loc), PW D A H0 (setAll Ps js (B x)) H1 locs1 → W p l e R s m args below meth c H1 locs1 (cells + mc) (slots + ms) Q (F0 m (pc + 3) ls (ov.toList ++ rest))) : W p l e R s m args below meth c H locs cells slots Q (F0 m pc ls st0) := by
  obtain ⟨h1, h2, h3⟩ := pw_sub hw hC hnd
  obtain ⟨q0, he, -⟩ := fl_at hP0 hr0
  refine x_callB (va_runV (Ts := []) (C := y.cls) ⟨S.1, S.2.1, S.2.2.1, S.2.2.2.1, fun _ h => absurd h List.not_mem_nil⟩ (hM H.size) ⟨⟨hR.1, hR.2.1, hR.2.2.1, hR.2.2.2, fun w hw a' U hW => ?_, List.mem_singleton.mpr rfl, F.1, F.2.1, F.2.2.1, F.2.2.2, hl⟩, hin, hse⟩ ⟨pc_blind, va_recv S.2.2.2.2.1 h1 hci he, fun U hU hW => ⟨rfl, by rw [hU], S.2.2.2.2.moved hW, by rw [hU]; exact h1, h2.weaken (fun _ _ _ _ => trivial)⟩⟩ rfl hn hsize hs0 (lv_room hrest) hdg hcs) hw js hC hnd hlen kk
  rw [List.mem_singleton.mp hw]
  exact word_at hW (Or.inl rfl) F.1
theorem x_aldW {r : Nat → Option Nat} (S : CX p m c cc nL s args own D cy) (hw : PW D A H0 Ps H locs) (j : Nat) (hj : Ps[j]? = some (pIm cy a r)) {i : Int32} (hin : vp_in i 2) (hdg : decode cc pc = .ok (.aaload, 1))
    (kk : W p l e R s m args below meth c H locs cells slots Q (F0 m (pc + 1) ls (va_rf (r i.toNatClampNeg) :: rest))) : W p l e R s m args below meth c H locs cells slots Q (F0 m pc ls (.int i :: .ref a :: rest)) := by
  obtain ⟨q0, he, -⟩ := fl_at (i := 0) hj rfl
  exact va_aldq S.1 S.2.1 S.2.2.2.2.1 hw.1 q0 3 he rfl hin hdg kk
theorem x_astW {r : Nat → Option Nat} {v j2 : Nat} {w : Nat → Nat} (S : CX p m c cc nL s args own D cy) (hw : PW D A H0 Ps H locs) (j : Nat) (hj : Ps[j]? = some (pIm cy a r)) (hj2 : Ps[j2]? = some (pX7 v w)) {i : Int32} (hin : vp_in i 2) (hdg : decode cc pc = .ok (.aastore, 1))
    (kk : ∀ (H1 : Heap) (locs1 : List Loc), PW D A H0 (Ps.set j (pIm cy a (va_up r i.toNatClampNeg (some v)))) H1 locs1 → W p l e R s m args below meth c H1 locs1 cells slots Q (F0 m (pc + 1) ls rest)) : W p l e R s m args below meth c H locs cells slots Q (F0 m pc ls (.ref v :: .int i :: .ref a :: rest)) := by
  obtain ⟨q0, he, hs⟩ := fl_at (i := 0) hj rfl
  obtain ⟨q1, he1, -⟩ := fl_at (i := 0) hj2 rfl
  refine va_astq S.1 S.2.1 S.2.2.2.2.1 hw.1 hw.2.1 hw.2.2.1 q0 3 q1 7 (r := (RX7, TX7, 3)) he rfl he1 rfl hin hdg (fun H1 locs1 hP hD hS => ?_)
  rw [hs] at hP hD
  exact kk H1 locs1 ⟨hP, hD, hS, hw.2.2.2⟩
end RX
