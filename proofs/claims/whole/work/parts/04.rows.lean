/-! contracts over worlds in pieces, and the rows of a walk -/
abbrev pStt : Type := (Nat → Int32) × (Nat → Nat → Int32)
def sI (σ : pStt) (k : Nat) (x : Int32) : pStt := (upd σ.1 k x, σ.2)
def sA (σ : pStt) (k : Nat) (f : Nat → Int32) : pStt := (σ.1, va_up σ.2 k f)
def inB (i : Int32) (n : Nat) : Bool := decide (¬ (i < 0 ∨ n ≤ i.toNatClampNeg))
def ld (f : Nat → Int32) (n : Nat) (i : Int32) : Option Int32 := if inB i n = true then some (f i.toNatClampNeg) else none
def ldL (f : Nat → Int64) (n : Nat) (i : Int32) : Option Int64 := if inB i n = true then some (f i.toNatClampNeg) else none
def stA (σ : pStt) (k n : Nat) (i x : Int32) : Option pStt := if inB i n = true then some (sA σ k (upd (σ.2 k) i.toNatClampNeg x)) else none
def stL (f : Nat → Int64) (n : Nat) (i : Int32) (x : Int64) : Option (Nat → Int64) := if inB i n = true then some (vp_updL f i.toNatClampNeg x) else none
def asB (x : Int32) : Option Int32 := if x = 0 ∨ x = 1 then some x else none
def nzI (y : Int32) : Option Unit := if y = 0 then none else some ()
def nzL (y : Int64) : Option Unit := if y = 0 then none else some ()
theorem ob {α β : Type} {o : Option α} {k : α → Option β} {b : β} (h : o.bind k = some b) : ∃ a, o = some a ∧ k a = some b := by
  cases o with
  | none => cases h
  | some a => exact ⟨a, rfl, h⟩
theorem inB_in {i : Int32} {n : Nat} (h : inB i n = true) : vp_in i n := of_decide_eq_true (p := ¬ (i < 0 ∨ n ≤ i.toNatClampNeg)) h
theorem ld_inv {f : Nat → Int32} {n : Nat} {i x : Int32} (h : ld f n i = some x) : vp_in i n ∧ f i.toNatClampNeg = x := by
  unfold ld at h
  by_cases c : inB i n = true
  · rw [if_pos c] at h; exact ⟨inB_in c, Option.some.inj h⟩
  · rw [if_neg c] at h; cases h
theorem ldL_inv {f : Nat → Int64} {n : Nat} {i : Int32} {x : Int64} (h : ldL f n i = some x) : vp_in i n ∧ f i.toNatClampNeg = x := by
  unfold ldL at h
  by_cases c : inB i n = true
  · rw [if_pos c] at h; exact ⟨inB_in c, Option.some.inj h⟩
  · rw [if_neg c] at h; cases h
theorem stA_inv {σ σ' : pStt} {k n : Nat} {i x : Int32} (h : stA σ k n i x = some σ') : vp_in i n ∧ sA σ k (upd (σ.2 k) i.toNatClampNeg x) = σ' := by
  unfold stA at h
  by_cases c : inB i n = true
  · rw [if_pos c] at h; exact ⟨inB_in c, Option.some.inj h⟩
  · rw [if_neg c] at h; cases h
theorem stL_inv {f f' : Nat → Int64} {n : Nat} {i : Int32} {x : Int64} (h : stL f n i x = some f') : vp_in i n ∧ vp_updL f i.toNatClampNeg x = f' := by
  unfold stL at h
  by_cases c : inB i n = true
  · rw [if_pos c] at h; exact ⟨inB_in c, Option.some.inj h⟩
  · rw [if_neg c] at h; cases h
theorem asB_inv {x y : Int32} (h : asB x = some y) : narrow .boolean (.int x) = .int x ∧ fits .boolean (.int x) = true ∧ x = y := by
  unfold asB at h
  by_cases c : x = 0 ∨ x = 1
  · rw [if_pos c] at h
    refine ⟨?_, ?_, Option.some.inj h⟩
    · rcases c with rfl | rfl <;> decide
    · rcases c with rfl | rfl <;> decide
  · rw [if_neg c] at h; cases h
theorem nzI_inv {y : Int32} {u : Unit} (h : nzI y = some u) : ¬ y = 0 := by
  intro e
  unfold nzI at h
  rw [if_pos e] at h
  cases h
theorem nzL_inv {y : Int64} {u : Unit} (h : nzL y = some u) : ¬ y = 0 := by
  intro e
  unfold nzL at h
  rw [if_pos e] at h
  cases h
/-- a method's end -/
def QQ (D : va_G) (Ps Ps' : List va_W) (sz : Nat) (ov : Option Value) : Array Value → State → Outcome → State → Prop := fun _ st oc t => (oc = .returned ov ∧ va_P D vwCl Ps'.flatten t.heap ∧ va_D (va_A Ps.flatten sz) Ps'.flatten) ∧ va_F (va_A Ps.flatten sz) st t
def PCs (D : va_G) (cy : Nat → ClassId) (Ps : List va_W) (sz : Nat) (U : State) : Prop := U.heap.size = sz ∧ KX D cy U ∧ va_P D vwCl Ps.flatten U.heap ∧ va_D (fun _ => True) Ps.flatten
/-- a method's contract: no cell is made -/
def CT (l : Launch) (y : MethodName) (cc : ByteArray) (maxL : Nat) (ret : Option FieldType) (rm : Room) (D : va_G) (cy : Nat → ClassId) (av : List Value) (Ps : List va_W) (ov : Option Value) (Ps' : List va_W) : Prop :=
  ∀ sz : Nat, Met l y [.code y cc maxL ret] rm (va_Pc av (PCs D cy Ps sz)) (QQ D Ps Ps' sz ov) 0 0 (va_A Ps.flatten sz)
theorem CT.of {l : Launch} {y : MethodName} {cc : ByteArray} {maxL : Nat} {ret : Option FieldType} {rm : Room} {D : va_G} {cy : Nat → ClassId} {av : List Value} {Ps : List va_W} {ov : Option Value} {Ps' : List va_W} (hy : plainName y.cls = true) (hn : (lg_sl av).length ≤ maxL)
    (body : ∀ (p : Program) (e : Env) (s : State) (m : MethodId) (args : Array Value) (below : List Frame) (meth : Method) (c : Code) (ls : Array Slot) (A : Nat → Prop) (Q : State → Prop), A = va_A Ps.flatten s.heap.size → Q = MQ below (QQ D Ps Ps' s.heap.size ov) args s 0 0 (va_A Ps.flatten s.heap.size) → CX p m c cc maxL s args y.cls D cy → meth.sig.returnType = ret → meth.locks = false → lv_has ls maxL (lv_args 0 av) → PW D A s.heap Ps s.heap [] → W p l e rm s m args below meth c s.heap [] 0 0 Q (F0 m 0 ls [])) : CT l y cc maxL ret rm D cy av Ps ov Ps' := by
  intro sz
  refine Met.ofW (cc := cc) (maxL := maxL) (ret := ret) hy rfl ?_
  intro p e s m args below meth c s₁ B hml hv
  obtain ⟨rfl, hsz, hK, hP, hD0⟩ := hv
  subst hsz
  have hl := lv_entry av hn
  rw [lg_entry_eq]
  generalize (lg_sl av ++ List.replicate (maxL - (lg_sl av).length) Slot.unset).toArray = ls at hl ⊢
  exact body p e s m _ below meth c ls _ _ rfl rfl ⟨B.exec, B.bytes, hml, findClass_of_methodNamed B.named, hK⟩ B.returns B.notSynchronized hl ⟨hP, hD0.self, va_S.rf, fun q h => Or.inr h⟩
section RW
variable {p : Program} {l : Launch} {e : Env} {R : Room} {s : State} {m : MethodId} {args : Array Value} {below : List Frame} {meth : Method} {c : Code} {H : Heap} {locs : List Loc} {cells slots : Nat} {Q : State → Prop}
variable {cc : ByteArray} {pc nL : Nat} {ls : Array Slot} {rest : List Value} {D : va_G} {cy : Nat → ClassId} {A : Nat → Prop} {a : Nat} {H0 : Heap} {own : String} {Ps Ps0 : List va_W} {ov : Option Value} {sz : Nat}
theorem w_iret {v : Int32} (S : CX p m c cc nL s args own D cy) (hr : meth.sig.returnType = some .int) (hlk : meth.locks = false) (hA : A = va_A Ps0.flatten s.heap.size) (hQ : Q = MQ below (QQ D Ps0 Ps s.heap.size (some (.int v))) args s cells slots (va_A Ps0.flatten s.heap.size)) (hw : PW D A s.heap Ps H locs) (hdg : decode cc pc = .ok (.ireturn, 1)) : W p l e R s m args below meth c H locs cells slots Q (F0 m pc ls [.int v]) := by
  subst hA; subst hQ
  exact W.iret S.1 S.2.1 hr (fun t ht hW => ⟨⟨rfl, by rw [ht]; exact hw.1, hw.2.1⟩, hw.2.2.1.F ht⟩) hw.2.2.1.2.2 hdg hlk
theorem w_zret {v : Int32} {ty : FieldType} (S : CX p m c cc nL s args own D cy) (hr : meth.sig.returnType = some ty) (hn : narrow ty (.int v) = .int v) (hlk : meth.locks = false) (hA : A = va_A Ps0.flatten s.heap.size) (hQ : Q = MQ below (QQ D Ps0 Ps s.heap.size (some (.int v))) args s cells slots (va_A Ps0.flatten s.heap.size)) (hw : PW D A s.heap Ps H locs) (hdg : decode cc pc = .ok (.ireturn, 1)) : W p l e R s m args below meth c H locs cells slots Q (F0 m pc ls [.int v]) := by
  subst hA; subst hQ
  exact W.zret S.1 S.2.1 hr hn (fun t ht hW => ⟨⟨rfl, by rw [ht]; exact hw.1, hw.2.1⟩, hw.2.2.1.F ht⟩) hw.2.2.1.2.2 hdg hlk
theorem w_lret {v : Int64} (S : CX p m c cc nL s args own D cy) (hr : meth.sig.returnType = some .long) (hlk : meth.locks = false) (hA : A = va_A Ps0.flatten s.heap.size) (hQ : Q = MQ below (QQ D Ps0 Ps s.heap.size (some (.long v))) args s cells slots (va_A Ps0.flatten s.heap.size)) (hw : PW D A s.heap Ps H locs) (hdg : decode cc pc = .ok (.lreturn, 1)) : W p l e R s m args below meth c H locs cells slots Q (F0 m pc ls [.long v]) := by
  subst hA; subst hQ
  exact W.lret S.1 S.2.1 hr (fun t ht hW => ⟨⟨rfl, by rw [ht]; exact hw.1, hw.2.1⟩, hw.2.2.1.F ht⟩) hw.2.2.1.2.2 hdg hlk
theorem w_vret (S : CX p m c cc nL s args own D cy) (hr : meth.sig.returnType = none) (hlk : meth.locks = false) (hA : A = va_A Ps0.flatten s.heap.size) (hQ : Q = MQ below (QQ D Ps0 Ps s.heap.size none) args s cells slots (va_A Ps0.flatten s.heap.size)) (hw : PW D A s.heap Ps H locs) (hdg : decode cc pc = .ok (.return_, 1)) : W p l e R s m args below meth c H locs cells slots Q (F0 m pc ls []) := by
  subst hA; subst hQ
  exact W.vret S.1 S.2.1 hr (fun t ht hW => ⟨⟨rfl, by rw [ht]; exact hw.1, hw.2.1⟩, hw.2.2.1.F ht⟩) hw.2.2.1.2.2 hdg hlk
theorem w_get {ref C : String} {T : u_T} {N ci index : Nat} (S : CX p m c cc nL s args own D cy) (hw : PW D A H0 Ps H locs) (j i : Nat) {P : va_W} (hj : Ps[j]? = some P) {fs : List Value} (hi : P[i]? = some (a, .inr (ci, fs))) (hc : vwCl[ci]? = some (C, T, N)) (hin : ∀ w ∈ u_ws C T N, w.before args s = true) (k : Nat) (hk : k < N) (hlink : (Cond.fieldLink own index ref (T k).2.1 (T k).2.2.1).before args s = true) (hr : (T k).1 = ref) {v : Value} (hv : fs[k]? = some v) (hdg : decode cc pc = .ok (.getfield index, 3))
    (kk : W p l e R s m args below meth c H locs cells slots Q (F0 m (pc + 3) ls (v :: rest))) : W p l e R s m args below meth c H locs cells slots Q (F0 m pc ls (.ref a :: rest)) := by
  obtain ⟨q0, he, -⟩ := fl_at hj hi
  exact va_get S.1 S.2.1 hin (fun _ h => h) S.2.2.2.1 S.2.2.2.2.1 hw.1 q0 he hc k hk hlink (fun x h => by rw [← hr]; exact h) hv hdg kk
theorem w_put {ref C : String} {T : u_T} {N ci index : Nat} (S : CX p m c cc nL s args own D cy) (hw : PW D A H0 Ps H locs) (j i : Nat) {P : va_W} (hj : Ps[j]? = some P) {fs : List Value} (hi : P[i]? = some (a, .inr (ci, fs))) (hc : vwCl[ci]? = some (C, T, N)) (hin : ∀ w ∈ u_ws C T N, w.before args s = true) (ty0 : Nat → FieldType) (hty : ∀ k, k < N → parseFieldDescriptor (T k).2.2.1 = some (ty0 k)) (hnm : ∀ a, a < N → ∀ b, b < N → a ≠ b → (T a).2.1 ≠ (T b).2.1) (k : Nat) (hk : k < N) (hlink : (Cond.fieldLink own index ref (T k).2.1 (T k).2.2.1).before args s = true) (hr : (T k).1 = ref) (hfin : (T k).2.2.2 = false) {ty : FieldType} {v : Value} (hd : parseFieldDescriptor (T k).2.2.1 = some ty) (hn : narrow ty v = v) (hfit : fits ty v = true) (hl : k < fs.length) (hdg : decode cc pc = .ok (.putfield index, 3))
    (kk : ∀ (H1 : Heap) (locs1 : List Loc), PW D A H0 (Ps.set j (P.set i (a, .inr (ci, fs.set k v)))) H1 locs1 → W p l e R s m args below meth c H1 locs1 cells slots Q (F0 m (pc + 3) ls rest)) : W p l e R s m args below meth c H locs cells slots Q (F0 m pc ls (v :: .ref a :: rest)) := by
  obtain ⟨q0, he, hs⟩ := fl_at hj hi
  refine va_put S.1 S.2.1 hin (fun _ h => h) ty0 hty hnm S.2.2.2.1 S.2.2.2.2.1 hw.1 hw.2.1 hw.2.2.1 q0 he hc k hk hlink (fun x h => by rw [← hr]; exact h) hfin hd hn hfit hl hdg (fun H1 locs1 hP hD hS => ?_)
  rw [hs] at hP hD
  exact kk H1 locs1 ⟨hP, hD, hS, hw.2.2.2⟩
theorem w_iald (S : CX p m c cc nL s args own D cy) (hw : PW D A H0 Ps H locs) (j i : Nat) {P : va_W} (hj : Ps[j]? = some P) {n : Nat} {f : Nat → Int32} (hi : P[i]? = some (a, .inl (cy 0, n, .inl f))) {ix x : Int32} (hl : ld f n ix = some x) (hdg : decode cc pc = .ok (.iaload, 1))
    (kk : W p l e R s m args below meth c H locs cells slots Q (F0 m (pc + 1) ls (.int x :: rest))) : W p l e R s m args below meth c H locs cells slots Q (F0 m pc ls (.int ix :: .ref a :: rest)) := by
  obtain ⟨q0, he, -⟩ := fl_at hj hi
  obtain ⟨h1, rfl⟩ := ld_inv hl
  exact va_iald S.1 S.2.1 S.2.2.2.2.1 hw.1 q0 0 he rfl h1 hdg kk
theorem w_zald (S : CX p m c cc nL s args own D cy) (hw : PW D A H0 Ps H locs) (j i : Nat) {P : va_W} (hj : Ps[j]? = some P) {n : Nat} {f : Nat → Int32} (hi : P[i]? = some (a, .inl (cy 1, n, .inl f))) {ix x : Int32} (hl : ld f n ix = some x) (hdg : decode cc pc = .ok (.baload, 1))
    (kk : W p l e R s m args below meth c H locs cells slots Q (F0 m (pc + 1) ls (.int x :: rest))) : W p l e R s m args below meth c H locs cells slots Q (F0 m pc ls (.int ix :: .ref a :: rest)) := by
  obtain ⟨q0, he, -⟩ := fl_at hj hi
  obtain ⟨h1, rfl⟩ := ld_inv hl
  exact va_zald S.1 S.2.1 S.2.2.2.2.1 hw.1 q0 1 he rfl h1 hdg kk
theorem w_lald (S : CX p m c cc nL s args own D cy) (hw : PW D A H0 Ps H locs) (j i : Nat) {P : va_W} (hj : Ps[j]? = some P) {n : Nat} {f : Nat → Int64} (hi : P[i]? = some (a, .inl (cy 2, n, .inr (.inl f)))) {ix : Int32} {x : Int64} (hl : ldL f n ix = some x) (hdg : decode cc pc = .ok (.laload, 1))
    (kk : W p l e R s m args below meth c H locs cells slots Q (F0 m (pc + 1) ls (.long x :: rest))) : W p l e R s m args below meth c H locs cells slots Q (F0 m pc ls (.int ix :: .ref a :: rest)) := by
  obtain ⟨q0, he, -⟩ := fl_at hj hi
  obtain ⟨h1, rfl⟩ := ldL_inv hl
  exact va_lald S.1 S.2.1 S.2.2.2.2.1 hw.1 q0 2 he rfl h1 hdg kk
theorem w_iast (S : CX p m c cc nL s args own D cy) (hw : PW D A H0 Ps H locs) (j i : Nat) {P : va_W} (hj : Ps[j]? = some P) {n : Nat} {f : Nat → Int32} (hi : P[i]? = some (a, .inl (cy 0, n, .inl f))) {ix x : Int32} (h1 : vp_in ix n) (hdg : decode cc pc = .ok (.iastore, 1))
    (kk : ∀ (H1 : Heap) (locs1 : List Loc), PW D A H0 (Ps.set j (P.set i (a, .inl (cy 0, n, .inl (upd f ix.toNatClampNeg x))))) H1 locs1 → W p l e R s m args below meth c H1 locs1 cells slots Q (F0 m (pc + 1) ls rest)) : W p l e R s m args below meth c H locs cells slots Q (F0 m pc ls (.int x :: .int ix :: .ref a :: rest)) := by
  obtain ⟨q0, he, hs⟩ := fl_at hj hi
  refine va_iast S.1 S.2.1 S.2.2.2.2.1 hw.1 hw.2.1 hw.2.2.1 q0 0 he rfl h1 hdg (fun H1 locs1 hP hD hS => ?_)
  rw [hs] at hP hD
  exact kk H1 locs1 ⟨hP, hD, hS, hw.2.2.2⟩
theorem w_zast (S : CX p m c cc nL s args own D cy) (hw : PW D A H0 Ps H locs) (j i : Nat) {P : va_W} (hj : Ps[j]? = some P) {n : Nat} {f : Nat → Int32} (hi : P[i]? = some (a, .inl (cy 1, n, .inl f))) {ix x : Int32} (h1 : vp_in ix n) (hdg : decode cc pc = .ok (.bastore, 1))
    (kk : ∀ (H1 : Heap) (locs1 : List Loc), PW D A H0 (Ps.set j (P.set i (a, .inl (cy 1, n, .inl (upd f ix.toNatClampNeg (x &&& 1)))))) H1 locs1 → W p l e R s m args below meth c H1 locs1 cells slots Q (F0 m (pc + 1) ls rest)) : W p l e R s m args below meth c H locs cells slots Q (F0 m pc ls (.int x :: .int ix :: .ref a :: rest)) := by
  obtain ⟨q0, he, hs⟩ := fl_at hj hi
  refine va_zast S.1 S.2.1 S.2.2.2.2.1 hw.1 hw.2.1 hw.2.2.1 q0 1 he rfl h1 hdg (fun H1 locs1 hP hD hS => ?_)
  rw [hs] at hP hD
  exact kk H1 locs1 ⟨hP, hD, hS, hw.2.2.2⟩
theorem w_last (S : CX p m c cc nL s args own D cy) (hw : PW D A H0 Ps H locs) (j i : Nat) {P : va_W} (hj : Ps[j]? = some P) {n : Nat} {f : Nat → Int64} (hi : P[i]? = some (a, .inl (cy 2, n, .inr (.inl f)))) {ix : Int32} {x : Int64} (h1 : vp_in ix n) (hdg : decode cc pc = .ok (.lastore, 1))
    (kk : ∀ (H1 : Heap) (locs1 : List Loc), PW D A H0 (Ps.set j (P.set i (a, .inl (cy 2, n, .inr (.inl (vp_updL f ix.toNatClampNeg x)))))) H1 locs1 → W p l e R s m args below meth c H1 locs1 cells slots Q (F0 m (pc + 1) ls rest)) : W p l e R s m args below meth c H locs cells slots Q (F0 m pc ls (.long x :: .int ix :: .ref a :: rest)) := by
  obtain ⟨q0, he, hs⟩ := fl_at hj hi
  refine va_last S.1 S.2.1 S.2.2.2.2.1 hw.1 hw.2.1 hw.2.2.1 q0 2 he rfl h1 hdg (fun H1 locs1 hP hD hS => ?_)
  rw [hs] at hP hD
  exact kk H1 locs1 ⟨hP, hD, hS, hw.2.2.2⟩
theorem w_alen (S : CX p m c cc nL s args own D cy) (hw : PW D A H0 Ps H locs) (j i : Nat) {P : va_W} (hj : Ps[j]? = some P) {n : Nat} {f : Nat → Int32} (hi : P[i]? = some (a, .inl (cy 0, n, .inl f))) {v : Int32} (hv : Int32.ofNat n = v) (hdg : decode cc pc = .ok (.arraylength, 1))
    (kk : W p l e R s m args below meth c H locs cells slots Q (F0 m (pc + 1) ls (.int v :: rest))) : W p l e R s m args below meth c H locs cells slots Q (F0 m pc ls (.ref a :: rest)) := by
  obtain ⟨q0, he, -⟩ := fl_at hj hi
  exact va_alen S.1 S.2.1 S.2.2.2.2.1 hw.1 q0 0 he rfl hv hdg kk
/-- System.arraycopy of ints, between two places of the world -/
theorem w_copyi (S : CX p m c cc nL s args own D cy) (hw : PW D A H0 Ps H locs) (hml : ls.size = nL) {index : Nat} (hlink : (Cond.methodLink own index arraycopyName).before args s = true) (hnat : (Cond.native arraycopyName).before args s = true) (hstat : (Cond.static arraycopyName).before args s = true) (hini : (Cond.initialized "java/lang/System").before args s = true)
    (j0 i0 j1 i1 : Nat) {P0 P1 : va_W} (hj0 : Ps[j0]? = some P0) (hj1 : Ps[j1]? = some P1) {a0 n0 n1 : Nat} {f g : Nat → Int32} (hi0 : P0[i0]? = some (a0, .inl (cy 0, n0, .inl f))) (hi1 : P1[i1]? = some (a, .inl (cy 0, n1, .inl g))) {sp dp n : Int32} (h1 : ¬ sp < 0) (h2 : ¬ dp < 0) (h3 : ¬ n < 0) (h4 : sp.toNatClampNeg + n.toNatClampNeg ≤ n0) (h5 : dp.toNatClampNeg + n.toNatClampNeg ≤ n1)
    (hframes : 1 ≤ R.frames) (hlocals : (rest.map fun v => v.category).sum + (nativeFrameWords "java/lang/System" "arraycopy" 5 + 11) ≤ R.locals) (hdg : decode cc pc = .ok (.invokestatic index, 3))
    (kk : ∀ (H1 : Heap) (locs1 : List Loc), PW D A H0 (Ps.set j1 (P1.set i1 (a, .inl (cy 0, n1, .inl (va_cpy f g sp.toNatClampNeg dp.toNatClampNeg n.toNatClampNeg))))) H1 locs1 → W p l e R s m args below meth c H1 locs1 cells slots Q (F0 m (pc + 3) ls rest)) : W p l e R s m args below meth c H locs cells slots Q (F0 m pc ls (.int n :: .int dp :: .ref a :: .int sp :: .ref a0 :: rest)) := by
  obtain ⟨q0, he0, -⟩ := fl_at hj0 hi0
  obtain ⟨q1, he1, hs⟩ := fl_at hj1 hi1
  refine va_copyi (ty := .int) S.1 S.2.1 (S.2.2.1.trans hml.symm) S.2.2.2.1 hlink hnat hstat hini S.2.2.2.2.1 hw.1 hw.2.1 hw.2.2.1 q0 q1 0 0 he0 he1 rfl rfl rfl h1 h2 h3 h4 h5 (fun _ _ => rfl) hframes hlocals hdg (fun H1 locs1 hP hD hS => ?_)
  rw [hs] at hP hD
  exact kk H1 locs1 ⟨hP, hD, hS, hw.2.2.2⟩
/-- what the tables say of a method -/
def MF (y : MethodName) (bytes : ByteArray) (maxL : Nat) (ret : Option FieldType) (n : Nat) (args : Array Value) (s : State) : Prop := (Cond.code y bytes maxL ret).before args s = true ∧ (Cond.initialized y.cls).before args s = true ∧ (y.cls ≠ "java/lang/invoke/MethodHandle" ∧ y.cls ≠ "java/lang/invoke/VarHandle") ∧ (∀ sig, parseMethodDescriptor y.desc = some sig → n = sig.parameters.length)
theorem MF.of {y : MethodName} {bytes : ByteArray} {maxL : Nat} {ret : Option FieldType} {n : Nat} {args : Array Value} {s : State} (h : KX D cy s) (h1 : Cond.code y bytes maxL ret ∈ lw_tbl) (h2 : Cond.initialized y.cls ∈ lw_tbl) (hd : y.cls ≠ "java/lang/invoke/MethodHandle" ∧ y.cls ≠ "java/lang/invoke/VarHandle" ∧ (parseMethodDescriptor y.desc).map (fun d => d.parameters.length) = some n) : MF y bytes maxL ret n args s := by
  refine ⟨h.wd h1 rfl, h.wd h2 rfl, ⟨hd.1, hd.2.1⟩, fun sig hs => ?_⟩
  have h3 := hd.2.2
  rw [hs] at h3
  exact (Option.some.inj h3).symm
def RMok (rm R : Room) (maxL : Nat) : Prop := rm.cells = 0 ∧ rm.slots = 0 ∧ rm.frames + 1 ≤ R.frames ∧ 8 + (maxL + 11) + rm.locals ≤ R.locals
variable {y : MethodName} {bytes : ByteArray} {maxL n index : Nat} {ret : Option FieldType} {rm : Room} {As : List Value} {Cs Cs' : List va_W} {st0 : List Value} {b : Nat}
theorem pc_blind {av : List Value} : FrameBlind (va_Pc av (PCs D cy Cs sz)) := fun a U g mk q => ⟨q.1, q.2.1, KX.moved (s := U) (U := U.calling g mk a) (State.WarmedH.refl U) q.2.2.1, q.2.2.2.1, q.2.2.2.2⟩
theorem w_callB {aa : Array Value} (hr : va_Run p l e R s m args below meth c H locs cells slots 0 0 (F0 m pc ls st0) rest (QQ D Cs Cs' H.size ov aa) (va_A Cs.flatten H.size)) (hw : PW D A H0 Ps H locs) (js : List Nat) (hC : js.map (fun j => Ps[j]?) = Cs.map some) (hn : js.Nodup) (hlen : js.length = Cs'.length)
    (kk : ∀ (H1 : Heap) (locs1 : List Loc), PW D A H0 (setAll Ps js Cs') H1 locs1 → W p l e R s m args below meth c H1 locs1 cells slots Q (F0 m (pc + 3) ls (ov.toList ++ rest))) : W p l e R s m args below meth c H locs cells slots Q (F0 m pc ls st0) := by
  intro T hT X
  obtain ⟨v, st₀, t, T', L, h0, X', hL, e1, e2, ⟨⟨hv, hP1, hD1⟩, hz, hk⟩, st⟩ := hr T hT X
  cases hv
  rw [h0] at hz hk
  have hj := pw_join hw hC hn hlen (H1 := T'.heap) (by rw [e1]; exact hz) (fun q h1 h2 => by rw [e1]; exact hk q h1 h2) (by rw [e1]; exact hP1) hD1 hL
  obtain ⟨t2, a1, b1⟩ := kk T'.heap (locs ++ L) hj T' rfl X'
  exact ⟨t2, st t2 a1, b1⟩
theorem w_callS (S : CX p m c cc nL s args own D cy) (hw : PW D A H0 Ps H locs) (hM : CT l y bytes maxL ret rm D cy As Cs ov Cs') (F : MF y bytes maxL ret n args s) (hst : (Cond.static y).before args s = true) (hl : (Cond.methodLink own index y).before args s = true) (hR : RMok rm R maxL) (js : List Nat) (hC : js.map (fun j => Ps[j]?) = Cs.map some) (hnd : js.Nodup) (hlen : js.length = Cs'.length) (hn : As.length = n) (hsize : ls.size = nL) (hs0 : st0 = As.reverse ++ rest) (hrest : (rest.map fun v => v.category).sum ≤ 8) (hdg : decode cc pc = .ok (.invokestatic index, 3)) (hcs : cells ≤ R.cells ∧ slots ≤ R.slots)
    (kk : ∀ (H1 : Heap) (locs1 : List Loc), PW D A H0 (setAll Ps js Cs') H1 locs1 → W p l e R s m args below meth c H1 locs1 cells slots Q (F0 m (pc + 3) ls (ov.toList ++ rest))) : W p l e R s m args below meth c H locs cells slots Q (F0 m pc ls st0) := by
  obtain ⟨h1, h2, h3⟩ := pw_sub hw hC hnd
  refine w_callB (va_runS (Ts := []) ⟨S.1, S.2.1, S.2.2.1, S.2.2.2.1, fun _ h => absurd h List.not_mem_nil⟩ (hM H.size) ⟨⟨hR.1, hR.2.1, hR.2.2.1, hR.2.2.2, fun w hw a' U hW => ?_, List.mem_singleton.mpr rfl, F.1, F.2.1, F.2.2.1, F.2.2.2, hl⟩, hst⟩ ⟨pc_blind, fun U hU hW => ⟨rfl, by rw [hU], S.2.2.2.2.moved hW, by rw [hU]; exact h1, h2.weaken (fun _ _ _ _ => trivial)⟩⟩ rfl hn hsize hs0 (lv_room hrest) hdg hcs) hw js hC hnd hlen kk
  rw [List.mem_singleton.mp hw]
  exact word_at hW (Or.inl rfl) F.1
theorem w_callV {ci : Nat} {T : u_T} {N : Nat} {fs : List Value} {P0 : va_W} (S : CX p m c cc nL s args own D cy) (hw : PW D A H0 Ps H locs) (hM : CT l y bytes maxL ret rm D cy (.ref b :: As) Cs ov Cs') (F : MF y bytes maxL ret n args s) (hin : (Cond.instanceMethod y).before args s = true) (hse : (Cond.selects y.cls y y).before args s = true) (hl : (Cond.methodLink own index y).before args s = true) (hR : RMok rm R maxL) (js : List Nat) (hC : js.map (fun j => Ps[j]?) = Cs.map some) (hnd : js.Nodup) (hlen : js.length = Cs'.length) (hP0 : Cs[0]? = some P0) (hr0 : P0[0]? = some (b, .inr (ci, fs))) (hci : vwCl[ci]? = some (y.cls, T, N)) (hn : As.length = n) (hsize : ls.size = nL) (hs0 : st0 = As.reverse ++ .ref b :: rest) (hrest : (rest.map fun v => v.category).sum ≤ 8) (hdg : decode cc pc = .ok (.invokevirtual index, 3)) (hcs : cells ≤ R.cells ∧ slots ≤ R.slots)
    (kk : ∀ (H1 : Heap) (locs1 : List Loc), PW D A H0 (setAll Ps js Cs') H1 locs1 → W p l e R s m args below meth c H1 locs1 cells slots Q (F0 m (pc + 3) ls (ov.toList ++ rest))) : W p l e R s m args below meth c H locs cells slots Q (F0 m pc ls st0) := by
  obtain ⟨h1, h2, h3⟩ := pw_sub hw hC hnd
  obtain ⟨q0, he, -⟩ := fl_at hP0 hr0
  refine w_callB (va_runV (Ts := []) (C := y.cls) ⟨S.1, S.2.1, S.2.2.1, S.2.2.2.1, fun _ h => absurd h List.not_mem_nil⟩ (hM H.size) ⟨⟨hR.1, hR.2.1, hR.2.2.1, hR.2.2.2, fun w hw a' U hW => ?_, List.mem_singleton.mpr rfl, F.1, F.2.1, F.2.2.1, F.2.2.2, hl⟩, hin, hse⟩ ⟨pc_blind, va_recv S.2.2.2.2.1 h1 hci he, fun U hU hW => ⟨rfl, by rw [hU], S.2.2.2.2.moved hW, by rw [hU]; exact h1, h2.weaken (fun _ _ _ _ => trivial)⟩⟩ rfl hn hsize hs0 (lv_room hrest) hdg hcs) hw js hC hnd hlen kk
  rw [List.mem_singleton.mp hw]
  exact word_at hW (Or.inl rfl) F.1
theorem w_callSN {host : String} (S : CX p m c cc nL s args own D cy) (hw : PW D A H0 Ps H locs) (hM : CT l y bytes maxL ret rm D cy As Cs ov Cs') (F : MF y bytes maxL ret n args s) (hst : (Cond.static y).before args s = true) (hl : (Cond.methodLinkNest own index y host).before args s = true) (hR : RMok rm R maxL) (js : List Nat) (hC : js.map (fun j => Ps[j]?) = Cs.map some) (hnd : js.Nodup) (hlen : js.length = Cs'.length) (hn : As.length = n) (hsize : ls.size = nL) (hs0 : st0 = As.reverse ++ rest) (hrest : (rest.map fun v => v.category).sum ≤ 8) (hdg : decode cc pc = .ok (.invokestatic index, 3)) (hcs : cells ≤ R.cells ∧ slots ≤ R.slots)
    (kk : ∀ (H1 : Heap) (locs1 : List Loc), PW D A H0 (setAll Ps js Cs') H1 locs1 → W p l e R s m args below meth c H1 locs1 cells slots Q (F0 m (pc + 3) ls (ov.toList ++ rest))) : W p l e R s m args below meth c H locs cells slots Q (F0 m pc ls st0) := by
  obtain ⟨h1, h2, h3⟩ := pw_sub hw hC hnd
  refine w_callB (va_runSN (Ts := []) (host := host) ⟨S.1, S.2.1, S.2.2.1, S.2.2.2.1, fun _ h => absurd h List.not_mem_nil⟩ (hM H.size) ⟨⟨⟨hR.1, hR.2.1, hR.2.2.1, hR.2.2.2, fun w hw a' U hW => ?_, List.mem_singleton.mpr rfl⟩, F.1, F.2.1, F.2.2.1, F.2.2.2, hl⟩, hst, trivial⟩ ⟨pc_blind, fun U hU hW => ⟨rfl, by rw [hU], S.2.2.2.2.moved hW, by rw [hU]; exact h1, h2.weaken (fun _ _ _ _ => trivial)⟩⟩ rfl hn hsize hs0 (lv_room hrest) hdg hcs) hw js hC hnd hlen kk
  rw [List.mem_singleton.mp hw]
  exact word_at hW (Or.inl rfl) F.1
end RW
