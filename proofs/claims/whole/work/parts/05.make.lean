/-! Rows that make cells; worlds as lists -/
theorem aw_RA1 {U : State} {a b : ClassId} {ty : FieldType} (h1 : va_RA U a ty) (h2 : va_RA U b ty) : a = b := by
  cases ty with
  | object C =>
    obtain ⟨_, _, -, -, -, x⟩ := h1
    obtain ⟨_, _, -, -, -, y⟩ := h2
    exact Option.some.inj (x.symm.trans y)
  | _ => exact Option.some.inj (Eq.trans (Eq.symm h1) h2)
theorem aw_Pl {D : va_G} {a b : va_W} {H : Heap} (h : va_P D vwCl (a ++ b) H) : va_P D vwCl a H := fun k q hk => h k q (by rw [List.getElem?_append_left (List.getElem?_eq_some_iff.mp hk).1]; exact hk)
theorem aw_Pr {D : va_G} {a b : va_W} {H : Heap} (h : va_P D vwCl (a ++ b) H) : va_P D vwCl b H := fun k q hk => h (a.length + k) q (by rw [List.getElem?_append_right (Nat.le_add_right _ _), Nat.add_sub_cancel_left]; exact hk)
theorem aw_Dl {A : Nat → Prop} {a b : va_W} (h : va_D A (a ++ b)) : va_D A a :=
  ⟨fun i j p q hi hj e => h.1 i j p q (by rw [List.getElem?_append_left (List.getElem?_eq_some_iff.mp hi).1]; exact hi) (by rw [List.getElem?_append_left (List.getElem?_eq_some_iff.mp hj).1]; exact hj) e, fun k q hk => h.2 k q (by rw [List.getElem?_append_left (List.getElem?_eq_some_iff.mp hk).1]; exact hk)⟩
theorem aw_at2 {a b : va_W} {k : Nat} {q : Nat × va_E} (hk : b[k]? = some q) : (a ++ b)[a.length + k]? = some q := by rw [List.getElem?_append_right (Nat.le_add_right _ _), Nat.add_sub_cancel_left]; exact hk
theorem aw_at1 {a b : va_W} {k : Nat} {q : Nat × va_E} (hk : a[k]? = some q) : (a ++ b)[k]? = some q := by rw [List.getElem?_append_left (List.getElem?_eq_some_iff.mp hk).1]; exact hk
theorem aw_Dr {A : Nat → Prop} {a b : va_W} (h : va_D A (a ++ b)) : va_D A b :=
  ⟨fun i j p q hi hj e => by have := h.1 _ _ p q (aw_at2 (a := a) hi) (aw_at2 (a := a) hj) e; omega, fun k q hk => h.2 _ q (aw_at2 (a := a) hk)⟩
theorem aw_Dx {A : Nat → Prop} {a b : va_W} (h : va_D A (a ++ b)) : ∀ (i j : Nat) (p q : Nat × va_E), a[i]? = some p → b[j]? = some q → p.1 ≠ q.1 := by
  intro i j p q hi hj e
  have h1 := h.1 _ _ p q (aw_at1 (b := b) hi) (aw_at2 (a := a) hj) e
  have h2 := (List.getElem?_eq_some_iff.mp hi).1
  omega
theorem aw_swapD {A : Nat → Prop} {a b : va_W} (h : va_D A (a ++ b)) : va_D A (b ++ a) := va_D.app (aw_Dr h) (aw_Dl h) (fun i j p q hi hj e => aw_Dx h j i q p hj hi e.symm)
/-- behind a call on the cells wc: the others stay -/
theorem aw_join {A : Nat → Prop} {D : va_G} {wb wc w1 : va_W} {H H1 : Heap} (hP : va_P D vwCl (wb ++ wc) H) (hD : va_D A (wb ++ wc)) (hk : ∀ q : Nat, q < H.size → ¬ va_A wc H.size q → H1[q]? = H[q]?) (hF : ∀ q, va_A wc H.size q → A q) (hP1 : va_P D vwCl w1 H1) (hD1 : va_D (va_A wc H.size) w1) : va_P D vwCl (wb ++ w1) H1 ∧ va_D A (wb ++ w1) := by
  have apart : ∀ (k : Nat) (q : Nat × va_E), wb[k]? = some q → q.1 < H.size ∧ ¬ va_A wc H.size q.1 := by
    intro k q hq
    have hl := (aw_Pl hP k q hq).lt
    refine ⟨hl, fun h => ?_⟩
    rcases h with ⟨k2, e, h⟩ | h
    · exact aw_Dx hD k k2 q (q.1, e) hq h rfl
    · omega
  refine ⟨va_P.app (fun k q hq => ?_) hP1, va_D.app (aw_Dl hD) (hD1.weaken (fun k q _ h => hF q.1 h)) (fun i j x y hx hy hxy => ?_)⟩
  · obtain ⟨g1, g2⟩ := apart k q hq
    exact (aw_Pl hP k q hq).kept (hk q.1 g1 g2)
  · exact (apart i x hx).2 (by rw [hxy]; exact hD1.2 j y hy)
section AWN
variable {l : Launch} {D : va_G} {tys : List (ClassId × FieldType)} {Zs : aw_T} {rm : Room} {cc : ByteArray} {n : Nat} {own : String} {Ts : List Cond} {E : aw_K → Prop} {κ : aw_K}
variable {cells slots : Nat} {w w' : va_W} {L L' : List (Nat × Value)} {pc : Nat} {S : List Value}
theorem aw_swap {a b : va_W} (kk : aw_J κ cells slots (b ++ a) L pc S) : aw_J κ cells slots (a ++ b) L pc S := by
  obtain ⟨p, l0, e, R, s, m, args, below, meth, c, Q, D0, A, nL⟩ := κ
  intro H locs ls hP hD hS hl
  exact kk H locs ls (va_P.app (aw_Pr hP) (aw_Pl hP)) (aw_swapD hD) hS hl
theorem aw_wid {c2 s2 : Nat} (h1 : cells ≤ c2) (h2 : slots ≤ s2) (kk : aw_J κ c2 s2 w L pc S) : aw_J κ cells slots w L pc S := by
  obtain ⟨p, l0, e, R, s, m, args, below, meth, c, Q, D0, A, nL⟩ := κ
  intro H locs ls hP hD hS hl
  exact W.widen h1 h2 (kk H locs ls hP hD hS hl)
theorem aw_new (C : aw_X0 l D tys Zs rm cc n own Ts E κ) {Cn : String} {T : u_T} {N ci index : Nat} (hin : ∀ w ∈ u_ws Cn T N, w ∈ Ts) (ty : Nat → FieldType) (hty : ∀ k, k < N → parseFieldDescriptor (T k).2.2.1 = some (ty k)) (hcl : Cond.classLink own index Cn ∈ Ts) (hinst : Cond.instantiable Cn N ∈ Ts) (hini : Cond.initialized Cn ∈ Ts) (hc : vwCl[ci]? = some (Cn, T, N)) {fs : List Value} (hfs : ∀ j, j < N → defaultValue (ty j) = vp_V fs j) (hcells : cells + 1 ≤ rm.cells) (hslots : slots + N ≤ rm.slots)
    (hd : decode cc pc = .ok (.new index, 3)) (kk : ∀ q : Nat, aw_J κ (cells + 1) (slots + N) (w ++ [(q, .inr (ci, fs))]) L (pc + 3) (.ref q :: S)) : aw_J κ cells slots w L pc S := by
  obtain ⟨p, l0, e, R, s, m, args, below, meth, c, Q, D0, A, nL⟩ := κ
  obtain ⟨rfl, rfl, rfl, rfl, hx, hb, hml, hown, hts, hKK, hA, hlk, hZ, hE⟩ := C
  intro H locs ls hP hD hS hl
  exact va_new hx hb hts hin ty hty hown (hts _ hcl) (hts _ hinst) (hts _ hini) hKK hP hD hS hA hc hfs hcells hslots hd (fun q H1 hP1 hD1 hS1 => kk q H1 locs ls hP1 hD1 hS1 hl)
theorem aw_newa (C : aw_X0 l D tys Zs rm cc n own Ts E κ) {atype : ArrayType} (harr : Cond.arrayClass (newarray.typeOf atype) ∈ Ts) {ty : FieldType} (hty : newarray.typeOf atype = ty) (t0 : Nat) {c0 : ClassId} (ht : tys[t0]? = some (c0, ty)) {k : Int32} {N' : Nat} {a0 : vp_A} (ha : ∀ cA : ClassId, vp_cell cA a0 = arrV cA N' (fun _ => defaultValue ty)) (hn : ¬ k < 0) (hN : k.toNatClampNeg = N') (hbytes : N' * componentBytes ty ≤ 536870912) (hcells : cells + 1 ≤ rm.cells) (hslots : slots + N' ≤ rm.slots)
    (hd : decode cc pc = .ok (.newarray atype, 2)) (kk : ∀ q : Nat, aw_J κ (cells + 1) (slots + N') (w ++ [(q, .inl (c0, a0))]) L (pc + 2) (.ref q :: S)) : aw_J κ cells slots w L pc (.int k :: S) := by
  obtain ⟨p, l0, e, R, s, m, args, below, meth, c, Q, D0, A, nL⟩ := κ
  obtain ⟨rfl, rfl, rfl, rfl, hx, hb, hml, hown, hts, hKK, hA, hlk, hZ, hE⟩ := C
  intro H locs ls hP hD hS hl
  refine va_newa hx hb (hts _ harr) hty hKK hP hD hS hA ha hn hN hbytes hcells hslots hd (fun q cA H1 hK1 hP1 hD1 hS1 => ?_)
  have e1 : cA = c0 := aw_RA1 (hK1.2 tys.length (cA, ty) (by simp)).2 (hKK.2 t0 _ ht).2
  subst e1
  exact kk q H1 locs ls hP1 hD1 hS1 hl
theorem aw_newq (C : aw_X0 l D tys Zs rm cc n own Ts E κ) {Cn : String} {index : Nat} (hcl : Cond.classLink own index Cn ∈ Ts) (hao : Cond.arrayOver (.object Cn) ∈ Zs.2) (t0 : Nat) {c0 : ClassId} (ht : tys[t0]? = some (c0, .object Cn)) {k : Int32} {N' : Nat} (hn : ¬ k < 0) (hN : k.toNatClampNeg = N') (hbytes : N' * 4 ≤ 536870912) (hcells : cells + 1 ≤ rm.cells) (hslots : slots + N' ≤ rm.slots)
    (hd : decode cc pc = .ok (.anewarray index, 3)) (kk : ∀ q : Nat, aw_J κ (cells + 1) (slots + N') (w ++ [(q, .inl (c0, N', .inr (.inr (.inr (.inr (fun _ => none))))))]) L (pc + 3) (.ref q :: S)) : aw_J κ cells slots w L pc (.int k :: S) := by
  obtain ⟨p, l0, e, R, s, m, args, below, meth, c, Q, D0, A, nL⟩ := κ
  obtain ⟨rfl, rfl, rfl, rfl, hx, hb, hml, hown, hts, hKK, hA, hlk, hZ, hE⟩ := C
  intro H locs ls hP hD hS hl
  refine va_newq hx hb hown (hts _ hcl) (hZ.2 _ hao).2 hKK hP hD hS hA hn hN hbytes hcells hslots hd (fun q cA H1 hK1 hP1 hD1 hS1 => ?_)
  have e1 : cA = c0 := aw_RA1 (hK1.2 tys.length (cA, .object Cn) (by simp)).2 (hKK.2 t0 _ ht).2
  subst e1
  exact kk q H1 locs ls hP1 hD1 hS1 hl
theorem aw_getG (C : aw_X0 l D tys Zs rm cc n own Ts E κ) (q0 : Nat) {a ci : Nat} {fs : List Value} (he : w[q0]? = some (a, .inr (ci, fs))) {Cn : String} {T : u_T} {NN : Nat} (hc : vwCl[ci]? = some (Cn, T, NN)) (hin : ∀ w ∈ u_ws Cn T NN, w ∈ Ts) (i : Nat) (hi : i < NN) {v : Value} (hv : fs[i]? = some v) {index : Nat}
    (hlink : Cond.fieldLink own index (T i).1 (T i).2.1 (T i).2.2.1 ∈ Ts) (hd : decode cc pc = .ok (.getfield index, 3)) (kk : aw_J κ cells slots w L (pc + 3) (v :: S)) : aw_J κ cells slots w L pc (.ref a :: S) := by
  obtain ⟨p, l0, e, R, s, m, args, below, meth, c, Q, D0, A, nL⟩ := κ
  obtain ⟨rfl, rfl, rfl, rfl, hx, hb, hml, hown, hts, hKK, hA, hlk, hZ, hE⟩ := C
  intro H locs ls hP hD hS hl
  exact va_get hx hb hts hin hown hKK hP q0 he hc i hi (hts _ hlink) (fun _ h => h) hv hd (kk H locs ls hP hD hS hl)
theorem aw_putG (C : aw_X0 l D tys Zs rm cc n own Ts E κ) (q0 : Nat) {a ci : Nat} {fs : List Value} (he : w[q0]? = some (a, .inr (ci, fs))) {Cn : String} {T : u_T} {NN : Nat} (hc : vwCl[ci]? = some (Cn, T, NN)) (hin : ∀ w ∈ u_ws Cn T NN, w ∈ Ts) (ty0 : Nat → FieldType) (hty : ∀ k, k < NN → parseFieldDescriptor (T k).2.2.1 = some (ty0 k)) (hnm : ∀ a, a < NN → ∀ b, b < NN → a ≠ b → (T a).2.1 ≠ (T b).2.1)
    (i : Nat) (hi : i < NN) {index : Nat} (hlink : Cond.fieldLink own index (T i).1 (T i).2.1 (T i).2.2.1 ∈ Ts) (hfin : (T i).2.2.2 = false) {ty : FieldType} {v : Value} (hdsc : parseFieldDescriptor (T i).2.2.1 = some ty) (hnar : narrow ty v = v) (hfit : fits ty v = true) (hlen : i < fs.length) (hw' : w.set q0 (a, .inr (ci, fs.set i v)) = w')
    (hd : decode cc pc = .ok (.putfield index, 3)) (kk : aw_J κ cells slots w' L (pc + 3) S) : aw_J κ cells slots w L pc (v :: .ref a :: S) := by
  obtain ⟨p, l0, e, R, s, m, args, below, meth, c, Q, D0, A, nL⟩ := κ
  obtain ⟨rfl, rfl, rfl, rfl, hx, hb, hml, hown, hts, hKK, hA, hlk, hZ, hE⟩ := C
  intro H locs ls hP hD hS hl
  subst hw'
  exact va_put hx hb hts hin ty0 hty hnm hown hKK hP hD hS q0 he hc i hi (hts _ hlink) (fun _ h => h) hfin hdsc hnar hfit hlen hd (fun H1 locs1 hP1 hD1 hS1 => kk H1 locs1 ls hP1 hD1 hS1 hl)
/-- in a constructor: its method's name -/
def aw_I : aw_K → Prop
  | (_, _, _, _, _, _, _, _, meth, _, _, _, _, _) => meth.name = "<init>"
theorem aw_putFG (C : aw_X0 l D tys Zs rm cc n own Ts E κ) (hi0 : aw_I κ) (q0 : Nat) {a ci : Nat} {fs : List Value} (he : w[q0]? = some (a, .inr (ci, fs))) {Cn : String} {T : u_T} {NN : Nat} (hc : vwCl[ci]? = some (Cn, T, NN)) (hin : ∀ w ∈ u_ws Cn T NN, w ∈ Ts) (ty0 : Nat → FieldType) (hty : ∀ k, k < NN → parseFieldDescriptor (T k).2.2.1 = some (ty0 k)) (hnm : ∀ a, a < NN → ∀ b, b < NN → a ≠ b → (T a).2.1 ≠ (T b).2.1)
    (i : Nat) (hi : i < NN) {index : Nat} (hlink : Cond.fieldLink own index (T i).1 (T i).2.1 (T i).2.2.1 ∈ Ts) (hfin : (T i).2.2.2 = true) (hdecl : (T i).1 = own) {ty : FieldType} {v : Value} (hdsc : parseFieldDescriptor (T i).2.2.1 = some ty) (hnar : narrow ty v = v) (hfit : fits ty v = true) (hlen : i < fs.length) (hw' : w.set q0 (a, .inr (ci, fs.set i v)) = w')
    (hd : decode cc pc = .ok (.putfield index, 3)) (kk : aw_J κ cells slots w' L (pc + 3) S) : aw_J κ cells slots w L pc (v :: .ref a :: S) := by
  obtain ⟨p, l0, e, R, s, m, args, below, meth, c, Q, D0, A, nL⟩ := κ
  obtain ⟨rfl, rfl, rfl, rfl, hx, hb, hml, hown, hts, hKK, hA, hlk, hZ, hE⟩ := C
  intro H locs ls hP hD hS hl
  subst hw'
  exact va_putF hx hb hts hin ty0 hty hnm hown hKK hP hD hS q0 he hc i hi (hts _ hlink) (fun _ h => h) hfin hi0 hdecl hdsc hnar hfit hlen hd (fun H1 locs1 hP1 hD1 hS1 => kk H1 locs1 ls hP1 hD1 hS1 hl)
theorem aw_astG (C : aw_X0 l D tys Zs rm cc n own Ts E κ) (q0 t0 qk : Nat) {a v ci : Nat} {cA : ClassId} {r : vw_C} {nn : Nat} {vs : List Value} {f : Nat → Option Nat} (ha : w[q0]? = some (a, .inl (cA, nn, .inr (.inr (.inr (.inr f)))))) (ht : tys[t0]? = some (cA, .object r.1)) (hv : w[qk]? = some (v, .inr (ci, vs))) (hc : vwCl[ci]? = some r) {i : Int32} (hin : vp_in i nn) (hw' : w.set q0 (a, .inl (cA, nn, .inr (.inr (.inr (.inr (va_up f i.toNatClampNeg (some v))))))) = w')
    (hd : decode cc pc = .ok (.aastore, 1)) (kk : aw_J κ cells slots w' L (pc + 1) S) : aw_J κ cells slots w L pc (.ref v :: .int i :: .ref a :: S) := by
  obtain ⟨p, l0, e, R, s, m, args, below, meth, c, Q, D0, A, nL⟩ := κ
  obtain ⟨rfl, rfl, rfl, rfl, hx, hb, hml, hown, hts, hKK, hA, hlk, hZ, hE⟩ := C
  intro H locs ls hP hD hS hl
  subst hw'
  exact va_astq hx hb hKK hP hD hS q0 t0 qk ci ha ht hv hc hin hd (fun H1 locs1 hP1 hD1 hS1 => kk H1 locs1 ls hP1 hD1 hS1 hl)
theorem aw_alenG (C : aw_X0 l D tys Zs rm cc n own Ts E κ) (q0 t0 : Nat) {a : Nat} {cA : ClassId} {x : vp_A} (ha : w[q0]? = some (a, .inl (cA, x))) {ty : FieldType} (ht : tys[t0]? = some (cA, ty)) {v : Int32} (hv : Int32.ofNat x.1 = v)
    (hd : decode cc pc = .ok (.arraylength, 1)) (kk : aw_J κ cells slots w L (pc + 1) (.int v :: S)) : aw_J κ cells slots w L pc (.ref a :: S) := by
  obtain ⟨p, l0, e, R, s, m, args, below, meth, c, Q, D0, A, nL⟩ := κ
  obtain ⟨rfl, rfl, rfl, rfl, hx, hb, hml, hown, hts, hKK, hA, hlk, hZ, hE⟩ := C
  intro H locs ls hP hD hS hl
  exact va_alen hx hb hKK hP q0 t0 ha ht hv hd (kk H locs ls hP hD hS hl)
theorem aw_obj (C : aw_X0 l D tys Zs rm cc n own Ts E κ) {idx : Nat} (hlink : Cond.methodLink own idx Lib.objectInit ∈ Ts) (hinst : Cond.instanceMethod Lib.objectInit ∈ Ts) (hcode : Cond.code Lib.objectInit ⟨#[0xb1]⟩ 1 none ∈ Ts) {a : Nat} (hr1 : 1 ≤ rm.frames) (hr2 : (S.map fun v => v.category).sum + 12 ≤ rm.locals)
    (hd : decode cc pc = .ok (.invokespecial idx, 3)) (kk : aw_J κ cells slots w L (pc + 3) S) : aw_J κ cells slots w L pc (.ref a :: S) := by
  obtain ⟨p, l0, e, R, s, m, args, below, meth, c, Q, D0, A, nL⟩ := κ
  obtain ⟨rfl, rfl, rfl, rfl, hx, hb, hml, hown, hts, hKK, hA, hlk, hZ, hE⟩ := C
  intro H locs ls hP hD hS hl
  refine W.objInit hx hb hown (hts _ hlink) (hts _ hinst) (hts _ hcode) rfl (by rw [hml]; exact hl.1) (a := a) (rest := S) rfl hd hr1 (by show 2 * 0 + _ + 12 ≤ _; omega) ?_
  exact W.eq (g2 := F0 m (pc + 3) ls S) rfl (kk H locs ls hP hD hS hl)
/-- a constructor's end and its contract: from one fresh cell to a world by addresses u -/
def aw_QN (D : va_G) (tys : List (ClassId × FieldType)) (A : Nat → Prop) (wf : (Nat → Nat) → va_W) (ok : (Nat → Nat) → Prop) : Array Value → State → Outcome → State → Prop :=
  fun _ st oc t => oc = .returned none ∧ (∃ u, ok u ∧ va_P D vwCl (wf u) t.heap ∧ va_K D vwCl tys t ∧ va_D A (wf u)) ∧ va_F A st t
def aw_N (l : Launch) (D : va_G) (tys : List (ClassId × FieldType)) (Zs : aw_T) (y : MethodName) (ws : List Cond) (rm : Room) (mc ms h : Nat) (e0 : va_E) (wf : (Nat → Nat) → va_W) (ok : (Nat → Nat) → Prop) : Prop :=
  ∀ sz : Nat, Met l y ws rm (va_Pc [.ref h] (fun V => V.heap.size = sz ∧ va_P D vwCl [(h, e0)] V.heap ∧ va_K D vwCl tys V ∧ va_D (fun _ => True) [(h, e0)] ∧ aw_Z Zs (va_A [(h, e0)] sz) V)) (aw_QN D tys (va_A [(h, e0)] sz) wf ok) mc ms (va_A [(h, e0)] sz)
def aw_EN (tys : List (ClassId × FieldType)) (mc ms : Nat) (wf : (Nat → Nat) → va_W) (ok : (Nat → Nat) → Prop) : aw_K → Prop
  | (_, _, _, _, s, _, args, below, meth, _, Q, D, A, _) => meth.sig.returnType = none ∧ Q = MQ below (aw_QN D tys A wf ok) args s mc ms A
theorem aw_introN {y : MethodName} {ws ws' : List Cond} {mc ms h : Nat} {e0 : va_E} {wf : (Nat → Nat) → va_W} {ok : (Nat → Nat) → Prop} (own : String) (ho : y.cls = own) (hnm : y.name = "<init>") (hy : plainName y.cls = true) (hw : ws = Cond.code y cc n none :: ws') (hn : 1 ≤ n)
    (body : ∀ κ : aw_K, aw_X0 l D tys Zs rm cc n own ws (aw_EN tys mc ms wf ok) κ → aw_I κ → aw_J κ 0 0 [(h, e0)] [(0, .ref h)] 0 []) : aw_N l D tys Zs y ws rm mc ms h e0 wf ok := by
  intro sz
  refine Met.ofW (cc := cc) (maxL := n) (ret := none) hy hw ?_
  intro p e s m args below meth c s₁ B hml hv
  obtain ⟨rfl, hsz, hP, hK, hD0, hZ⟩ := hv
  have hts := atoms_spec (ws := ws) B.pre
  subst hsz
  have hD := hD0.self (sz := s.heap.size)
  rw [lg_entry_eq]
  exact body (p, l, e, rm, s, m, [Value.ref h].toArray, below, meth, c, MQ below (aw_QN D tys (va_A [(h, e0)] s.heap.size) wf ok) [Value.ref h].toArray s mc ms (va_A [(h, e0)] s.heap.size), D, va_A [(h, e0)] s.heap.size, n)
    ⟨rfl, rfl, rfl, rfl, B.exec, B.bytes, hml, ho ▸ findClass_of_methodNamed B.named, hts, hK, fun q h => Or.inr h, B.notSynchronized, hZ, B.returns, rfl⟩ ((name_of_methodNamed B.named B.method).1.trans hnm) s.heap [] _ hP hD va_S.rf (lv_entry [.ref h] hn)
theorem aw_vretN {mc ms : Nat} {wf : (Nat → Nat) → va_W} {ok : (Nat → Nat) → Prop} (C : aw_X0 l D tys Zs rm cc n own Ts (aw_EN tys mc ms wf ok) κ) (u : Nat → Nat) (hok : ok u) (hu : wf u = w) (hd : decode cc pc = .ok (.return_, 1)) : aw_J κ mc ms w L pc [] := by
  obtain ⟨p, l0, e, R, s, m, args, below, meth, c, Q, D0, A, nL⟩ := κ
  obtain ⟨rfl, rfl, rfl, rfl, hx, hb, hml, hown, hts, hKK, hA, hlk, hZ, hE⟩ := C
  obtain ⟨hrt, hQ⟩ := hE
  intro H locs ls hP hD hS hl
  subst hQ
  subst hu
  exact W.vret hx hb hrt (fun t ht hW => ⟨rfl, ⟨u, hok, by rw [ht]; exact hP, va_K.moved hW.alike hKK, hD⟩, hS.F ht⟩) hS.2.2 hd hlk
theorem aw_blindN {h sz : Nat} {e0 : va_E} : FrameBlind (va_Pc [.ref h] (fun V => V.heap.size = sz ∧ va_P D vwCl [(h, e0)] V.heap ∧ va_K D vwCl tys V ∧ va_D (fun _ => True) [(h, e0)] ∧ aw_Z Zs (va_A [(h, e0)] sz) V)) := aw_blind
theorem aw_callWN {p : Program} {e : Env} {R : Room} {s : State} {m : MethodId} {args a : Array Value} {below : List Frame} {meth : Method} {c : Code} {Q : State → Prop} {A A1 : Nat → Prop} {H : Heap} {locs : List Loc} {ls : Array Slot} {mc ms : Nat} {wf : (Nat → Nat) → va_W} {ok : (Nat → Nat) → Prop} {st0 rest : List Value}
    (hr : va_Run p l e R s m args below meth c H locs cells slots mc ms (F0 m pc ls st0) rest (aw_QN D tys A1 wf ok a) A1) (hS : va_S A s.heap H locs) (hA1 : ∀ q, A1 q → A q)
    (kk : ∀ (u : Nat → Nat) (H1 : Heap) (locs1 : List Loc), ok u → va_P D vwCl (wf u) H1 → va_D A1 (wf u) → (∀ q : Nat, q < H.size → ¬ A1 q → H1[q]? = H[q]?) → va_S A s.heap H1 locs1 → W p l e R s m args below meth c H1 locs1 (cells + mc) (slots + ms) Q (F0 m (pc + 3) ls rest)) : W p l e R s m args below meth c H locs cells slots Q (F0 m pc ls st0) := by
  intro T hT X
  obtain ⟨v, st₀, t, T', L, h0, X', hL, e1, e2, ⟨hv, ⟨u, hok, hp, -, hd⟩, hz, hk⟩, st⟩ := hr T hT X
  cases hv
  rw [h0] at hz hk
  obtain ⟨t2, a1, b1⟩ := kk u T'.heap (locs ++ L) hok (by rw [e1]; exact hp) hd (fun q h1 h2 => by rw [e1]; exact hk q h1 h2)
    ⟨Nat.le_trans hS.1 (by rw [e1]; exact hz), fun q h1 h2 => by rw [e1, hk q (Nat.lt_of_lt_of_le h1 hS.1) (fun z => h2 (hA1 q z))]; exact hS.2.1 q h1 h2, fun q hq => by
      rcases List.mem_append.mp hq with h | h
      · exact hS.2.2 q h
      · exact hA1 _ (hL q h)⟩ T' rfl X'
  exact ⟨t2, st t2 a1, b1⟩
/-- the callee's room in the caller's, with cells -/
def aw_rn (rm' rm : Room) (mc ms maxL : Nat) : Prop := rm'.cells = mc ∧ rm'.slots = ms ∧ rm'.frames + 1 ≤ rm.frames ∧ 8 + (maxL + 11) + rm'.locals ≤ rm.locals
theorem aw_subR {A : Nat → Prop} {H0 H : Heap} {locs : List Loc} {wb wc : va_W} (hD : va_D A (wb ++ wc)) (hS : va_S A H0 H locs) (hA : ∀ q, H0.size ≤ q → A q) : ∀ q, va_A wc H.size q → A q := aw_sub (aw_Dr hD) hS hA
theorem aw_callI (C : aw_X0 l D tys Zs rm cc n own Ts E κ) {y : MethodName} {bytes : ByteArray} {maxL mc ms : Nat} {ws ws' : List Cond} {rm' : Room} {q : Nat} {e0 : va_E} {wf : (Nat → Nat) → va_W} {ok : (Nat → Nat) → Prop} {index : Nat}
    (hM : aw_N l D tys Zs y ws rm' mc ms q e0 wf ok) (hw : ws = .code y bytes maxL none :: ws') (hG : GoodIn Ts ws) (hini : Cond.initialized y.cls ∈ Ts) (hl1 : Cond.methodLink own index y ∈ Ts) (hinst : Cond.instanceMethod y ∈ Ts) (hy1 : y.name = "<init>") (hn : aw_nm y 0) (hr : aw_rn rm' rm mc ms maxL) (hcs : cells + mc ≤ rm.cells ∧ slots + ms ≤ rm.slots) (hcat : (S.map fun v => v.category).sum ≤ 8)
    (hd : decode cc pc = .ok (.invokespecial index, 3)) (kk : ∀ u, ok u → aw_J κ (cells + mc) (slots + ms) (w ++ wf u) L (pc + 3) S) : aw_J κ cells slots (w ++ [(q, e0)]) L pc (.ref q :: S) := by
  obtain ⟨p, l0, e, R, s, m, args, below, meth, c, Q, D0, A, nL⟩ := κ
  obtain ⟨rfl, rfl, rfl, rfl, hx, hb, hml, hown, hts, hKK, hA, hlk, hZ, hE⟩ := C
  intro H locs ls hP hD hS hl
  have hsub := aw_subR hD hS hA
  refine aw_callWN (va_runI (As := []) (rest := S) (b := q) ⟨hx, hb, hml, hown, hts⟩ (hM H.size) (cwI 0 hts hG hw hr.1 hr.2.1 (hts _ hini) (hts _ hl1) (hts _ hinst) hy1 ⟨hn.1, hn.2.1, hn.2.2⟩ ⟨hr.2.2.1, hr.2.2.2⟩) ⟨aw_blindN, fun U hU hW => ⟨rfl, by rw [hU], by rw [hU]; exact aw_Pr hP, va_K.moved hW.alike hKK, (aw_Dr hD).weaken (fun _ _ _ _ => trivial), hZ.keep hS hsub hU hW⟩⟩ rfl rfl hl.1 rfl (lv_room hcat) hd hcs) hS hsub (fun u H1 locs1 hok hP1 hD1 hk hS1 => ?_)
  obtain ⟨hP2, hD2⟩ := aw_join hP hD hk hsub hP1 hD1
  exact kk u hok H1 locs1 ls hP2 hD2 hS1 hl
theorem aw_callIN (C : aw_X0 l D tys Zs rm cc n own Ts E κ) {y : MethodName} {bytes : ByteArray} {maxL mc ms : Nat} {ws ws' : List Cond} {rm' : Room} {q : Nat} {e0 : va_E} {wf : (Nat → Nat) → va_W} {ok : (Nat → Nat) → Prop} {index : Nat} {host : String}
    (hM : aw_N l D tys Zs y ws rm' mc ms q e0 wf ok) (hw : ws = .code y bytes maxL none :: ws') (hG : GoodIn Ts ws) (hini : Cond.initialized y.cls ∈ Ts) (hl1 : Cond.methodLinkNest own index y host ∈ Zs.2) (hinst : Cond.instanceMethod y ∈ Ts) (hy1 : y.name = "<init>") (hn : aw_nm y 0) (hr : aw_rn rm' rm mc ms maxL) (hcs : cells + mc ≤ rm.cells ∧ slots + ms ≤ rm.slots) (hcat : (S.map fun v => v.category).sum ≤ 8)
    (hd : decode cc pc = .ok (.invokespecial index, 3)) (kk : ∀ u, ok u → aw_J κ (cells + mc) (slots + ms) (w ++ wf u) L (pc + 3) S) : aw_J κ cells slots (w ++ [(q, e0)]) L pc (.ref q :: S) := by
  obtain ⟨p, l0, e, R, s, m, args, below, meth, c, Q, D0, A, nL⟩ := κ
  obtain ⟨rfl, rfl, rfl, rfl, hx, hb, hml, hown, hts, hKK, hA, hlk, hZ, hE⟩ := C
  intro H locs ls hP hD hS hl
  have hsub := aw_subR hD hS hA
  refine aw_callWN (va_runIN (As := []) (rest := S) (b := q) ⟨hx, hb, hml, hown, hts⟩ (hM H.size) ⟨va_cnB 0 hts hG hw hr.1 hr.2.1 (hZ.2 _ hl1).2 (hts _ hini) ⟨hn.1, hn.2.1, hn.2.2⟩ ⟨hr.2.2.1, hr.2.2.2⟩, hy1, hts _ hinst⟩ ⟨aw_blindN, fun U hU hW => ⟨rfl, by rw [hU], by rw [hU]; exact aw_Pr hP, va_K.moved hW.alike hKK, (aw_Dr hD).weaken (fun _ _ _ _ => trivial), hZ.keep hS hsub hU hW⟩⟩ rfl rfl hl.1 rfl (lv_room hcat) hd hcs) hS hsub (fun u H1 locs1 hok hP1 hD1 hk hS1 => ?_)
  obtain ⟨hP2, hD2⟩ := aw_join hP hD hk hsub hP1 hD1
  exact kk u hok H1 locs1 ls hP2 hD2 hS1 hl
/-- a call on a part of the world -/
theorem aw_callVp (C : aw_X0 l D tys Zs rm cc n own Ts E κ) {y : MethodName} {bytes : ByteArray} {maxL : Nat} {ret' : Option FieldType} {ws ws' : List Cond} {rm' : Room} {b : Nat} {As rest : List Value} {r : Int32} {wb wc w1 : va_W} {index : Nat}
    (hM : aw_M l D tys Zs y ws rm' (.ref b :: As) wc (some (.int r)) w1) (hw : ws = .code y bytes maxL ret' :: ws') (hG : GoodIn Ts (wsV own index y.cls y ws)) (hn : aw_nm y As.length) (hr : aw_rm rm' rm maxL) (hcs : cells ≤ rm.cells ∧ slots ≤ rm.slots) (K : Nat) {ci : Nat} {fs : List Value} {T : u_T} {NN : Nat} (hK : wc[K]? = some (b, .inr (ci, fs))) (hc : vwCl[ci]? = some (y.cls, T, NN))
    (hst : S = As.reverse ++ .ref b :: rest) (hcat : (rest.map fun v => v.category).sum ≤ 8) (hd : decode cc pc = .ok (.invokevirtual index, 3)) (kk : aw_J κ cells slots (wb ++ w1) L (pc + 3) (.int r :: rest)) : aw_J κ cells slots (wb ++ wc) L pc S := by
  obtain ⟨p, l0, e, R, s, m, args, below, meth, c, Q, D0, A, nL⟩ := κ
  obtain ⟨rfl, rfl, rfl, rfl, hx, hb, hml, hown, hts, hKK, hA, hlk, hZ, hE⟩ := C
  intro H locs ls hP hD hS hl
  have hsub := aw_subR hD hS hA
  subst hst
  intro T9 hT9 X9
  obtain ⟨v, st₀, t, T', L9, h0, X', hL, e1, e2, ⟨hv, ⟨hp, -, hd9⟩, hz, hk⟩, st⟩ := va_runV (As := As) (rest := rest) (b := b) (g := F0 m pc ls (As.reverse ++ .ref b :: rest)) ⟨hx, hb, hml, hown, hts⟩ (hM H.size) (cwV As.length hts hG hw hr.1 hr.2.1 ⟨rfl, hn.1, hn.2.1, hn.2.2⟩ ⟨hr.2.2.1, hr.2.2.2⟩) ⟨aw_blind, va_recv hKK (aw_Pr hP) hc hK, fun U hU hW => ⟨rfl, by rw [hU], by rw [hU]; exact aw_Pr hP, va_K.moved hW.alike hKK, (aw_Dr hD).weaken (fun _ _ _ _ => trivial), hZ.keep hS hsub hU hW⟩⟩ rfl rfl hl.1 rfl (lv_room hcat) hd hcs T9 hT9 X9
  cases hv
  rw [h0] at hz hk
  obtain ⟨hP2, hD2⟩ := aw_join (H1 := T'.heap) hP hD (fun q h1 h2 => by rw [e1]; exact hk q h1 h2) hsub (by rw [e1]; exact hp) hd9
  obtain ⟨t2, a1, b1⟩ := kk T'.heap (locs ++ L9) ls hP2 hD2 ⟨Nat.le_trans hS.1 (by rw [e1]; exact hz), fun q h1 h2 => by rw [e1, hk q (Nat.lt_of_lt_of_le h1 hS.1) (fun z => h2 (hsub q z))]; exact hS.2.1 q h1 h2, fun q hq => by
      rcases List.mem_append.mp hq with h | h
      · exact hS.2.2 q h
      · exact hsub _ (hL q h)⟩ hl T' rfl X'
  exact ⟨t2, st t2 a1, b1⟩
end AWN
