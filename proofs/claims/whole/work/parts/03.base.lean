/-! worlds in pieces: a list of lists of cells; tables' words carried in the world -/
def tb_ok (w : Cond) : Bool := match w with
  | .methodLinkNest _ _ _ _ => true
  | .arrayOver (.object _) => true
  | w => goodWord w
def TB (U : State) : Prop := ∀ w ∈ lw_tbl, tb_ok w = true → w.before #[] U = true
theorem tb_move {s U : State} (hW : s.WarmedH U.vm) {w : Cond} (hg : tb_ok w = true) {a a' : Array Value} (h1 : w.before a s = true) : w.before a' U = true := by
  cases w with
  | methodLinkNest a i x h => exact va_Nw.use rfl (va_Nw.warmM hW (va_Nw.of rfl h1))
  | arrayOver ty =>
    cases ty with
    | object n => exact va_AO.use (va_AO.moved hW.alike (va_AO.of h1))
    | _ => exact word_at hW (good_of_word hg) h1
  | _ => exact word_at hW (good_of_word hg) h1
theorem TB.moved {s U : State} (hW : s.WarmedH U.vm) (h : TB s) : TB U := fun w hw hg => tb_move hW hg (h w hw hg)
theorem TB.wd {U : State} (h : TB U) {args : Array Value} {w : Cond} (hw : w ∈ lw_tbl) (hg : tb_ok w = true) : w.before args U = true := tb_move (State.WarmedH.refl U) hg (h w hw hg)
def kx_tys (cy : Nat → ClassId) : List (ClassId × FieldType) := [(cy 0, .int), (cy 1, .boolean), (cy 2, .long), (cy 3, .object "SwornLane$World")]
def KX (D : va_G) (cy : Nat → ClassId) (U : State) : Prop := va_K D vwCl (kx_tys cy) U ∧ TB U
theorem KX.moved {D : va_G} {cy : Nat → ClassId} {s U : State} (hW : s.WarmedH U.vm) (h : KX D cy s) : KX D cy U := ⟨va_K.moved hW.alike h.1, h.2.moved hW⟩
theorem KX.wd {D : va_G} {cy : Nat → ClassId} {s : State} (h : KX D cy s) {args : Array Value} {w : Cond} (hw : w ∈ lw_tbl) (hg : tb_ok w = true) : w.before args s = true := h.2.wd hw hg
/-- a method's fixed things -/
def CX (p : Program) (m : MethodId) (c : Code) (cc : ByteArray) (nL : Nat) (s : State) (args : Array Value) (own : String) (D : va_G) (cy : Nat → ClassId) : Prop :=
  p.tables.exec = Jvm.exec ∧ c.code = cc ∧ c.maxLocals = nL ∧ s.vm.findClass own = some m.cls ∧ KX D cy s
def PW (D : va_G) (A : Nat → Prop) (H0 : Heap) (Ps : List va_W) (H : Heap) (locs : List Loc) : Prop := va_P D vwCl Ps.flatten H ∧ va_D A Ps.flatten ∧ va_S A H0 H locs ∧ ∀ q, H0.size ≤ q → A q
theorem fl_at : ∀ {Ps : List va_W} {j i : Nat} {P : va_W} {x : Nat × va_E}, Ps[j]? = some P → P[i]? = some x → ∃ k : Nat, Ps.flatten[k]? = some x ∧ ∀ x', Ps.flatten.set k x' = (Ps.set j (P.set i x')).flatten := by
  intro Ps
  induction Ps with
  | nil => intro j i P x h; simp at h
  | cons P0 Ps ih =>
    intro j i P x h hi
    have hlt : i < P.length := (List.getElem?_eq_some_iff.mp hi).1
    cases j with
    | zero =>
      simp only [List.getElem?_cons_zero, Option.some.injEq] at h
      subst h
      refine ⟨i, ?_, fun x' => ?_⟩
      · rw [List.flatten_cons, List.getElem?_append_left hlt]; exact hi
      · rw [List.flatten_cons, List.set_append_left _ _ hlt, List.set_cons_zero, List.flatten_cons]
    | succ j =>
      simp only [List.getElem?_cons_succ] at h
      obtain ⟨k, h1, h2⟩ := ih h hi
      refine ⟨P0.length + k, ?_, fun x' => ?_⟩
      · rw [List.flatten_cons, List.getElem?_append_right (Nat.le_add_right _ _), Nat.add_sub_cancel_left]; exact h1
      · rw [List.flatten_cons, List.set_append_right _ _ (Nat.le_add_right _ _), Nat.add_sub_cancel_left, h2, List.set_cons_succ, List.flatten_cons]
theorem vp_iff {D : va_G} {cl : List vw_C} {ws : va_W} {H : Heap} : va_P D cl ws H ↔ ∀ x ∈ ws, va_at D cl x H := by
  constructor
  · intro h x hx
    obtain ⟨k, hk⟩ := List.getElem?_of_mem hx
    exact h k x hk
  · intro h k x hk
    exact h x (List.mem_of_getElem? hk)
theorem vd_iff {A : Nat → Prop} {ws : va_W} : va_D A ws ↔ ws.Pairwise (fun x y => x.1 ≠ y.1) ∧ ∀ x ∈ ws, A x.1 := by
  constructor
  · intro h
    refine ⟨List.pairwise_iff_getElem.mpr fun i j hi hj hij he => ?_, fun x hx => ?_⟩
    · have := h.1 i j ws[i] ws[j] (List.getElem?_eq_getElem hi) (List.getElem?_eq_getElem hj) he
      omega
    · obtain ⟨k, hk⟩ := List.getElem?_of_mem hx
      exact h.2 k x hk
  · intro h
    refine ⟨fun i j x y hi hj he => ?_, fun k x hk => h.2 x (List.mem_of_getElem? hk)⟩
    have hp := List.pairwise_iff_getElem.mp h.1
    obtain ⟨li, rfl⟩ := List.getElem?_eq_some_iff.mp hi
    obtain ⟨lj, rfl⟩ := List.getElem?_eq_some_iff.mp hj
    rcases Nat.lt_trichotomy i j with q | q | q
    · exact absurd he (hp i j li lj q)
    · exact q
    · exact absurd he.symm (hp j i lj li q)
theorem vd_pieces {A : Nat → Prop} {Ps : List va_W} (h : va_D A Ps.flatten) {i j : Nat} {P Q : va_W} (hi : Ps[i]? = some P) (hj : Ps[j]? = some Q) (hij : i ≠ j) {x y : Nat × va_E} (hx : x ∈ P) (hy : y ∈ Q) : x.1 ≠ y.1 := by
  have hp := List.pairwise_iff_getElem.mp (List.pairwise_flatten.mp (vd_iff.mp h).1).2
  obtain ⟨li, rfl⟩ := List.getElem?_eq_some_iff.mp hi
  obtain ⟨lj, rfl⟩ := List.getElem?_eq_some_iff.mp hj
  rcases Nat.lt_or_gt_of_ne hij with q | q
  · exact hp i j li lj q x hx y hy
  · exact fun he => hp j i lj li q y hy x hx he.symm
theorem vd_of_pieces {A : Nat → Prop} {Ps : List va_W} (h1 : ∀ (i : Nat) (P : va_W), Ps[i]? = some P → va_D A P) (h2 : ∀ (i j : Nat) (P Q : va_W), Ps[i]? = some P → Ps[j]? = some Q → i ≠ j → ∀ x ∈ P, ∀ y ∈ Q, x.1 ≠ y.1) : va_D A Ps.flatten := by
  refine vd_iff.mpr ⟨List.pairwise_flatten.mpr ⟨fun P hP => ?_, List.pairwise_iff_getElem.mpr fun i j hi hj hij => ?_⟩, fun x hx => ?_⟩
  · obtain ⟨k, hk⟩ := List.getElem?_of_mem hP
    exact (vd_iff.mp (h1 k P hk)).1
  · exact h2 i j _ _ (List.getElem?_eq_getElem hi) (List.getElem?_eq_getElem hj) (by omega)
  · obtain ⟨P, hP, hxP⟩ := List.mem_flatten.mp hx
    obtain ⟨k, hk⟩ := List.getElem?_of_mem hP
    exact (vd_iff.mp (h1 k P hk)).2 x hxP
theorem vd_piece {A : Nat → Prop} {Ps : List va_W} (h : va_D A Ps.flatten) {i : Nat} {P : va_W} (hi : Ps[i]? = some P) : va_D A P := by
  have hm := List.mem_of_getElem? hi
  refine vd_iff.mpr ⟨(List.pairwise_flatten.mp (vd_iff.mp h).1).1 P hm, fun x hx => (vd_iff.mp h).2 x (List.mem_flatten.mpr ⟨P, hm, hx⟩)⟩
/-- pieces put back at their places -/
def setAll : List va_W → List Nat → List va_W → List va_W
  | Ps, j :: js, C :: Cs => setAll (Ps.set j C) js Cs
  | Ps, _, _ => Ps
theorem sa_spec : ∀ (js : List Nat) (Cs Ps : List va_W), js.Nodup → js.length = Cs.length → ∀ (i : Nat) (P : va_W), (setAll Ps js Cs)[i]? = some P → (i ∉ js ∧ Ps[i]? = some P) ∨ (∃ k : Nat, js[k]? = some i ∧ Cs[k]? = some P) := by
  intro js
  induction js with
  | nil => intro Cs Ps _ _ i P h; cases Cs <;> exact Or.inl ⟨List.not_mem_nil, h⟩
  | cons j js ih =>
    intro Cs Ps hn hl i P h
    cases Cs with
    | nil => simp at hl
    | cons C Cs =>
      have hn' := List.nodup_cons.mp hn
      rcases ih Cs (Ps.set j C) hn'.2 (by simpa using hl) i P h with ⟨h1, h2⟩ | ⟨k, h1, h2⟩
      · by_cases e : i = j
        · subst e
          refine Or.inr ⟨0, rfl, ?_⟩
          have hlt : i < Ps.length := by
            have := (List.getElem?_eq_some_iff.mp h2).1
            simpa using this
          rw [List.getElem?_set_self hlt] at h2
          simpa using h2
        · rw [List.getElem?_set_ne (Ne.symm e)] at h2
          exact Or.inl ⟨by simp [e, h1], h2⟩
      · exact Or.inr ⟨k + 1, by simpa using h1, by simpa using h2⟩
theorem map_at {Ps Cs : List va_W} {js : List Nat} (hC : js.map (fun j => Ps[j]?) = Cs.map some) {k : Nat} {P : va_W} (hk : Cs[k]? = some P) : ∃ j : Nat, js[k]? = some j ∧ Ps[j]? = some P := by
  have h1 : (js.map (fun j => Ps[j]?))[k]? = some (some P) := by rw [hC, List.getElem?_map, hk]; rfl
  rw [List.getElem?_map] at h1
  cases hi : js[k]? with
  | none => rw [hi] at h1; cases h1
  | some i => rw [hi] at h1; exact ⟨i, rfl, Option.some.inj h1⟩
theorem pw_sub {D : va_G} {A : Nat → Prop} {H0 H : Heap} {Ps Cs : List va_W} {locs : List Loc} {js : List Nat} (hw : PW D A H0 Ps H locs) (hC : js.map (fun j => Ps[j]?) = Cs.map some) (hn : js.Nodup) : va_P D vwCl Cs.flatten H ∧ va_D A Cs.flatten ∧ (∀ q, va_A Cs.flatten H.size q → A q) := by
  obtain ⟨hP, hD, hS, hA⟩ := hw
  have hsub : ∀ x ∈ Cs.flatten, x ∈ Ps.flatten := by
    intro x hx
    obtain ⟨P, hPm, hxP⟩ := List.mem_flatten.mp hx
    obtain ⟨k, hk⟩ := List.getElem?_of_mem hPm
    obtain ⟨j, -, hj⟩ := map_at hC hk
    exact List.mem_flatten.mpr ⟨P, List.mem_of_getElem? hj, hxP⟩
  have hDc : va_D A Cs.flatten := by
    refine vd_of_pieces (fun k P hk => ?_) (fun i j P Q hi hj hij x hx y hy => ?_)
    · obtain ⟨j, -, hj⟩ := map_at hC hk
      exact vd_piece hD hj
    · obtain ⟨a, ha1, ha2⟩ := map_at hC hi
      obtain ⟨b, hb1, hb2⟩ := map_at hC hj
      refine vd_pieces hD ha2 hb2 (fun e => hij ?_) hx hy
      subst e
      obtain ⟨li, ei⟩ := List.getElem?_eq_some_iff.mp ha1
      obtain ⟨lj, ej⟩ := List.getElem?_eq_some_iff.mp hb1
      exact (List.getElem_inj hn).mp (ei.trans ej.symm)
  refine ⟨vp_iff.mpr fun x hx => vp_iff.mp hP x (hsub x hx), hDc, fun q hq => ?_⟩
  rcases hq with ⟨k, e, h⟩ | h
  · exact (vd_iff.mp hDc).2 (q, e) (List.mem_of_getElem? h)
  · exact hA q (Nat.le_trans hS.1 h)
theorem pw_join {D : va_G} {A : Nat → Prop} {H0 H H1 : Heap} {Ps Cs Cs' : List va_W} {locs L : List Loc} {js : List Nat} (hw : PW D A H0 Ps H locs) (hC : js.map (fun j => Ps[j]?) = Cs.map some) (hn : js.Nodup) (hlen : js.length = Cs'.length) (hz : H.size ≤ H1.size) (hk : ∀ q : Nat, q < H.size → ¬ va_A Cs.flatten H.size q → H1[q]? = H[q]?) (hP1 : va_P D vwCl Cs'.flatten H1) (hD1 : va_D (va_A Cs.flatten H.size) Cs'.flatten) (hL : ∀ q ∈ L, va_A Cs.flatten H.size q.base) : PW D A H0 (setAll Ps js Cs') H1 (locs ++ L) := by
  obtain ⟨hPc, hDc, hF⟩ := pw_sub hw hC hn
  obtain ⟨hP, hD, hS, hA⟩ := hw
  have apart : ∀ (i : Nat) (P : va_W), i ∉ js → Ps[i]? = some P → ∀ x ∈ P, x.1 < H.size ∧ ¬ va_A Cs.flatten H.size x.1 := by
    intro i P hi hP0 x hx
    have hl := (vp_iff.mp hP x (List.mem_flatten.mpr ⟨P, List.mem_of_getElem? hP0, hx⟩)).lt
    refine ⟨hl, fun h => ?_⟩
    rcases h with ⟨k, e, h⟩ | h
    · obtain ⟨Q, hQ, hy⟩ := List.mem_flatten.mp (List.mem_of_getElem? h)
      obtain ⟨k2, hk2⟩ := List.getElem?_of_mem hQ
      obtain ⟨j, hj1, hj2⟩ := map_at hC hk2
      exact vd_pieces hD hP0 hj2 (fun e => hi (by rw [e]; exact List.mem_of_getElem? hj1)) hx hy rfl
    · omega
  refine ⟨vp_iff.mpr fun x hx => ?_, vd_of_pieces (fun i P hi => ?_) (fun i j P Q hi hj hij x hx y hy => ?_), ⟨Nat.le_trans hS.1 hz, fun q h1 h2 => ?_, fun q hq => ?_⟩, hA⟩
  · obtain ⟨P, hPm, hxP⟩ := List.mem_flatten.mp hx
    obtain ⟨i, hi⟩ := List.getElem?_of_mem hPm
    rcases sa_spec js Cs' Ps hn hlen i P hi with ⟨h1, h2⟩ | ⟨k, h1, h2⟩
    · obtain ⟨g1, g2⟩ := apart i P h1 h2 x hxP
      exact (vp_iff.mp hP x (List.mem_flatten.mpr ⟨P, List.mem_of_getElem? h2, hxP⟩)).kept (hk x.1 g1 g2)
    · exact vp_iff.mp hP1 x (List.mem_flatten.mpr ⟨P, List.mem_of_getElem? h2, hxP⟩)
  · rcases sa_spec js Cs' Ps hn hlen i P hi with ⟨h1, h2⟩ | ⟨k, h1, h2⟩
    · exact vd_piece hD h2
    · exact (vd_piece hD1 h2).weaken (fun _ q _ h => hF q.1 h)
  · rcases sa_spec js Cs' Ps hn hlen i P hi with ⟨h1, h2⟩ | ⟨k, h1, h2⟩
    · rcases sa_spec js Cs' Ps hn hlen j Q hj with ⟨h3, h4⟩ | ⟨k2, h3, h4⟩
      · exact vd_pieces hD h2 h4 hij hx hy
      · intro he
        refine (apart i P h1 h2 x hx).2 ?_
        rw [he]
        exact (vd_iff.mp (vd_piece hD1 h4)).2 y hy
    · rcases sa_spec js Cs' Ps hn hlen j Q hj with ⟨h3, h4⟩ | ⟨k2, h3, h4⟩
      · intro he
        refine (apart j Q h3 h4 y hy).2 ?_
        rw [← he]
        exact (vd_iff.mp (vd_piece hD1 h2)).2 x hx
      · refine vd_pieces hD1 h2 h4 (fun e => hij ?_) hx hy
        subst e
        exact Option.some.inj (h1.symm.trans h3)
  · rw [hk q (Nat.lt_of_lt_of_le h1 hS.1) (fun z => h2 (hF q z))]
    exact hS.2.1 q h1 h2
  · rcases List.mem_append.mp hq with h | h
    · exact hS.2.2 q h
    · exact hF _ (hL q h)
