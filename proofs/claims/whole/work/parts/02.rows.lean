/-! The walk's judgement: a context κ (machine, entry state, own cells A), a world w of cells, the listed locals L, pc, operand stack S -/
abbrev aw_K : Type := Program × Launch × Env × Room × State × MethodId × Array Value × List Frame × Method × Code × (State → Prop) × va_G × (Nat → Prop) × Nat
def aw_J : aw_K → Nat → Nat → va_W → List (Nat × Value) → Nat → List Value → Prop
  | (p, l, e, R, s, m, args, below, meth, c, Q, D, A, nL), cells, slots, w, L, pc, S =>
    ∀ (H : Heap) (locs : List Loc) (ls : Array Slot), va_P D vwCl w H → va_D A w → va_S A s.heap H locs → lv_has ls nL L → W p l e R s m args below meth c H locs cells slots Q (F0 m pc ls S)
/-- what lies around: static arrays of ints outside of the world (their fields, addresses, lengths, values), and the words of the nest -/
abbrev aw_T : Type := List ((String × String) × Nat × Nat × (Nat → Int32)) × List Cond
def aw_Nt : Cond → Bool
  | .fieldLinkNest .. => true
  | .methodLinkNest .. => true
  | .arrayOver (.object _) => true
  | _ => false
def aw_Z (Zs : aw_T) (A : Nat → Prop) (U : State) : Prop := (∀ z ∈ Zs.1, va_Z z.1.1 z.1.2 "[I" (.ref z.2.1) A U U.heap ∧ va_T .int z.2.1 z.2.2.1 (fun j => .int (z.2.2.2 j)) A U U.heap) ∧ ∀ w ∈ Zs.2, aw_Nt w = true ∧ va_Nw w U
/-- a method's end: the answer, the world behind it, the frame -/
def aw_Q (D : va_G) (tys : List (ClassId × FieldType)) (A : Nat → Prop) (r : Option Value) (w : va_W) : Array Value → State → Outcome → State → Prop :=
  fun _ st oc t => oc = .returned r ∧ (va_P D vwCl w t.heap ∧ va_K D vwCl tys t ∧ va_D A w) ∧ va_F A st t
/-- a method's contract: from the world w0 with these arguments it answers r, and leaves the world w1; no cell is made -/
def aw_M (l : Launch) (D : va_G) (tys : List (ClassId × FieldType)) (Zs : aw_T) (y : MethodName) (ws : List Cond) (rm : Room) (as : List Value) (w0 : va_W) (r : Option Value) (w1 : va_W) : Prop :=
  ∀ sz : Nat, Met l y ws rm (va_Pc as (fun V => V.heap.size = sz ∧ va_P D vwCl w0 V.heap ∧ va_K D vwCl tys V ∧ va_D (fun _ => True) w0 ∧ aw_Z Zs (va_A w0 sz) V)) (aw_Q D tys (va_A w0 sz) r w1) 0 0 (va_A w0 sz)
/-- what holds in a method's body; E: what its end is -/
def aw_X0 (l9 : Launch) (D9 : va_G) (tys : List (ClassId × FieldType)) (Zs : aw_T) (rm : Room) (cc : ByteArray) (n9 : Nat) (own : String) (Ts : List Cond) (E : aw_K → Prop) : aw_K → Prop
  | (p, l, e, R, s, m, args, below, meth, c, Q, D, A, nL) => l = l9 ∧ D = D9 ∧ R = rm ∧ nL = n9 ∧ p.tables.exec = Jvm.exec ∧ c.code = cc ∧ c.maxLocals = n9 ∧ s.vm.findClass own = some m.cls ∧ (∀ w ∈ Ts, w.before args s = true) ∧ va_K D vwCl tys s ∧ (∀ q, s.heap.size ≤ q → A q) ∧ meth.locks = false ∧ aw_Z Zs A s ∧ E (p, l, e, R, s, m, args, below, meth, c, Q, D, A, nL)
def aw_E (tys : List (ClassId × FieldType)) (ret : Option FieldType) (r9 : Option Value) (w9 : va_W) : aw_K → Prop
  | (_, _, _, _, s, _, args, below, meth, _, Q, D, A, _) => meth.sig.returnType = ret ∧ Q = MQ below (aw_Q D tys A r9 w9) args s 0 0 A
abbrev aw_X (l9 : Launch) (D9 : va_G) (tys : List (ClassId × FieldType)) (Zs : aw_T) (rm : Room) (cc : ByteArray) (n9 : Nat) (own : String) (Ts : List Cond) (ret : Option FieldType) (r9 : Option Value) (w9 : va_W) : aw_K → Prop := aw_X0 l9 D9 tys Zs rm cc n9 own Ts (aw_E tys ret r9 w9)
theorem aw_intro {l : Launch} {D : va_G} {tys : List (ClassId × FieldType)} {Zs : aw_T} {y : MethodName} {ws ws' : List Cond} {rm : Room} {as : List Value} {w0 w1 : va_W} {r : Option Value} {cc : ByteArray} {n : Nat} {ret : Option FieldType}
    (own : String) (ho : y.cls = own) (hy : plainName y.cls = true) (hw : ws = Cond.code y cc n ret :: ws') (hn : (lg_sl as).length ≤ n)
    (body : ∀ κ : aw_K, aw_X l D tys Zs rm cc n own ws ret r w1 κ → aw_J κ 0 0 w0 (lv_args 0 as) 0 []) : aw_M l D tys Zs y ws rm as w0 r w1 := by
  intro sz
  refine Met.ofW (cc := cc) (maxL := n) (ret := ret) hy hw ?_
  intro p e s m args below meth c s₁ B hml hv
  obtain ⟨rfl, hsz, hP, hK, hD0, hZ⟩ := hv
  have hts := atoms_spec (ws := ws) B.pre
  subst hsz
  have hD := hD0.self (sz := s.heap.size)
  rw [lg_entry_eq]
  exact body (p, l, e, rm, s, m, as.toArray, below, meth, c, MQ below (aw_Q D tys (va_A w0 s.heap.size) r w1) as.toArray s 0 0 (va_A w0 s.heap.size), D, va_A w0 s.heap.size, n)
    ⟨rfl, rfl, rfl, rfl, B.exec, B.bytes, hml, ho ▸ findClass_of_methodNamed B.named, hts, hK, fun q h => Or.inr h, B.notSynchronized, hZ, B.returns, rfl⟩ s.heap [] _ hP hD va_S.rf (lv_entry as hn)
section AWR
variable {l : Launch} {D : va_G} {tys : List (ClassId × FieldType)} {Zs : aw_T} {rm : Room} {cc : ByteArray} {n : Nat} {own : String} {Ts : List Cond} {E : aw_K → Prop} {κ : aw_K}
variable {cells slots : Nat} {w : va_W} {L L' : List (Nat × Value)} {pc : Nat} {S : List Value}
theorem aw_iconst (C : aw_X0 l D tys Zs rm cc n own Ts E κ) {z : Int} {v : Int32} (hd : decode cc pc = .ok (.iconst z, 1)) (hv : Int32.ofInt z = v) (kk : aw_J κ cells slots (w) (L) (pc + 1) (.int v :: S)) : aw_J κ cells slots (w) (L) (pc) (S) := by
  obtain ⟨p, l0, e, R, s, m, args, below, meth, c, Q, D0, A, nL⟩ := κ
  obtain ⟨rfl, rfl, rfl, rfl, hx, hb, hml, hown, hts, hK, hA, hlk, hZ, hE⟩ := C
  intro H locs ls hP hD hS hl
  exact lv_iconst hx hb hd hv (kk H locs ls hP hD hS hl)
theorem aw_bipush (C : aw_X0 l D tys Zs rm cc n own Ts E κ) {z : Int} {v : Int32} (hd : decode cc pc = .ok (.bipush z, 2)) (hv : (Int8.ofInt z).toInt32 = v) (kk : aw_J κ cells slots (w) (L) (pc + 2) (.int v :: S)) : aw_J κ cells slots (w) (L) (pc) (S) := by
  obtain ⟨p, l0, e, R, s, m, args, below, meth, c, Q, D0, A, nL⟩ := κ
  obtain ⟨rfl, rfl, rfl, rfl, hx, hb, hml, hown, hts, hK, hA, hlk, hZ, hE⟩ := C
  intro H locs ls hP hD hS hl
  exact lv_bipush hx hb hd hv (kk H locs ls hP hD hS hl)
theorem aw_sipush (C : aw_X0 l D tys Zs rm cc n own Ts E κ) {z : Int} {v : Int32} (hd : decode cc pc = .ok (.sipush z, 3)) (hv : (Int16.ofInt z).toInt32 = v) (kk : aw_J κ cells slots (w) (L) (pc + 3) (.int v :: S)) : aw_J κ cells slots (w) (L) (pc) (S) := by
  obtain ⟨p, l0, e, R, s, m, args, below, meth, c, Q, D0, A, nL⟩ := κ
  obtain ⟨rfl, rfl, rfl, rfl, hx, hb, hml, hown, hts, hK, hA, hlk, hZ, hE⟩ := C
  intro H locs ls hP hD hS hl
  exact lv_sipush hx hb hd hv (kk H locs ls hP hD hS hl)
theorem aw_iload_n (C : aw_X0 l D tys Zs rm cc n own Ts E κ) {k : Fin 4} {i : Nat} {x : Int32} (j : Nat) (hd : decode cc pc = .ok (.iload_n k, 1)) (hi : (k : Nat) = i) (hj : L[j]? = some (i, .int x)) (kk : aw_J κ cells slots (w) (L) (pc + 1) (.int x :: S)) : aw_J κ cells slots (w) (L) (pc) (S) := by
  obtain ⟨p, l0, e, R, s, m, args, below, meth, c, Q, D0, A, nL⟩ := κ
  obtain ⟨rfl, rfl, rfl, rfl, hx, hb, hml, hown, hts, hK, hA, hlk, hZ, hE⟩ := C
  intro H locs ls hP hD hS hl
  exact lv_iload_n hx hb hd hi (lv_at hl j hj) (kk H locs ls hP hD hS hl)
theorem aw_iload (C : aw_X0 l D tys Zs rm cc n own Ts E κ) {i : Nat} {x : Int32} (j : Nat) (hd : decode cc pc = .ok (.iload i, 2)) (hj : L[j]? = some (i, .int x)) (kk : aw_J κ cells slots (w) (L) (pc + 2) (.int x :: S)) : aw_J κ cells slots (w) (L) (pc) (S) := by
  obtain ⟨p, l0, e, R, s, m, args, below, meth, c, Q, D0, A, nL⟩ := κ
  obtain ⟨rfl, rfl, rfl, rfl, hx, hb, hml, hown, hts, hK, hA, hlk, hZ, hE⟩ := C
  intro H locs ls hP hD hS hl
  exact lv_iload hx hb hd (lv_at hl j hj) (kk H locs ls hP hD hS hl)
theorem aw_aload_n (C : aw_X0 l D tys Zs rm cc n own Ts E κ) {k : Fin 4} {i x : Nat} (j : Nat) (hd : decode cc pc = .ok (.aload_n k, 1)) (hi : (k : Nat) = i) (hj : L[j]? = some (i, .ref x)) (kk : aw_J κ cells slots (w) (L) (pc + 1) (.ref x :: S)) : aw_J κ cells slots (w) (L) (pc) (S) := by
  obtain ⟨p, l0, e, R, s, m, args, below, meth, c, Q, D0, A, nL⟩ := κ
  obtain ⟨rfl, rfl, rfl, rfl, hx, hb, hml, hown, hts, hK, hA, hlk, hZ, hE⟩ := C
  intro H locs ls hP hD hS hl
  exact lv_aload_n hx hb hd hi (lv_at hl j hj) (kk H locs ls hP hD hS hl)
theorem aw_aload (C : aw_X0 l D tys Zs rm cc n own Ts E κ) {i x : Nat} (j : Nat) (hd : decode cc pc = .ok (.aload i, 2)) (hj : L[j]? = some (i, .ref x)) (kk : aw_J κ cells slots (w) (L) (pc + 2) (.ref x :: S)) : aw_J κ cells slots (w) (L) (pc) (S) := by
  obtain ⟨p, l0, e, R, s, m, args, below, meth, c, Q, D0, A, nL⟩ := κ
  obtain ⟨rfl, rfl, rfl, rfl, hx, hb, hml, hown, hts, hK, hA, hlk, hZ, hE⟩ := C
  intro H locs ls hP hD hS hl
  exact lv_aload hx hb hd (lv_at hl j hj) (kk H locs ls hP hD hS hl)
theorem aw_iadd (C : aw_X0 l D tys Zs rm cc n own Ts E κ) {x y : Int32} (hd : decode cc pc = .ok (.iadd, 1))  (kk : aw_J κ cells slots (w) (L) (pc + 1) (.int (x + y) :: S)) : aw_J κ cells slots (w) (L) (pc) (.int y :: .int x :: S) := by
  obtain ⟨p, l0, e, R, s, m, args, below, meth, c, Q, D0, A, nL⟩ := κ
  obtain ⟨rfl, rfl, rfl, rfl, hx, hb, hml, hown, hts, hK, hA, hlk, hZ, hE⟩ := C
  intro H locs ls hP hD hS hl
  exact lv_iadd hx hb hd  (kk H locs ls hP hD hS hl)
theorem aw_isub (C : aw_X0 l D tys Zs rm cc n own Ts E κ) {x y : Int32} (hd : decode cc pc = .ok (.isub, 1))  (kk : aw_J κ cells slots (w) (L) (pc + 1) (.int (x - y) :: S)) : aw_J κ cells slots (w) (L) (pc) (.int y :: .int x :: S) := by
  obtain ⟨p, l0, e, R, s, m, args, below, meth, c, Q, D0, A, nL⟩ := κ
  obtain ⟨rfl, rfl, rfl, rfl, hx, hb, hml, hown, hts, hK, hA, hlk, hZ, hE⟩ := C
  intro H locs ls hP hD hS hl
  exact lv_isub hx hb hd  (kk H locs ls hP hD hS hl)
theorem aw_imul (C : aw_X0 l D tys Zs rm cc n own Ts E κ) {x y : Int32} (hd : decode cc pc = .ok (.imul, 1))  (kk : aw_J κ cells slots (w) (L) (pc + 1) (.int (x * y) :: S)) : aw_J κ cells slots (w) (L) (pc) (.int y :: .int x :: S) := by
  obtain ⟨p, l0, e, R, s, m, args, below, meth, c, Q, D0, A, nL⟩ := κ
  obtain ⟨rfl, rfl, rfl, rfl, hx, hb, hml, hown, hts, hK, hA, hlk, hZ, hE⟩ := C
  intro H locs ls hP hD hS hl
  exact lv_imul hx hb hd  (kk H locs ls hP hD hS hl)
theorem aw_iand (C : aw_X0 l D tys Zs rm cc n own Ts E κ) {x y : Int32} (hd : decode cc pc = .ok (.iand, 1))  (kk : aw_J κ cells slots (w) (L) (pc + 1) (.int (x &&& y) :: S)) : aw_J κ cells slots (w) (L) (pc) (.int y :: .int x :: S) := by
  obtain ⟨p, l0, e, R, s, m, args, below, meth, c, Q, D0, A, nL⟩ := κ
  obtain ⟨rfl, rfl, rfl, rfl, hx, hb, hml, hown, hts, hK, hA, hlk, hZ, hE⟩ := C
  intro H locs ls hP hD hS hl
  exact lv_iand hx hb hd  (kk H locs ls hP hD hS hl)
theorem aw_ior (C : aw_X0 l D tys Zs rm cc n own Ts E κ) {x y : Int32} (hd : decode cc pc = .ok (.ior, 1))  (kk : aw_J κ cells slots (w) (L) (pc + 1) (.int (x ||| y) :: S)) : aw_J κ cells slots (w) (L) (pc) (.int y :: .int x :: S) := by
  obtain ⟨p, l0, e, R, s, m, args, below, meth, c, Q, D0, A, nL⟩ := κ
  obtain ⟨rfl, rfl, rfl, rfl, hx, hb, hml, hown, hts, hK, hA, hlk, hZ, hE⟩ := C
  intro H locs ls hP hD hS hl
  exact lv_ior hx hb hd  (kk H locs ls hP hD hS hl)
theorem aw_ixor (C : aw_X0 l D tys Zs rm cc n own Ts E κ) {x y : Int32} (hd : decode cc pc = .ok (.ixor, 1))  (kk : aw_J κ cells slots (w) (L) (pc + 1) (.int (x ^^^ y) :: S)) : aw_J κ cells slots (w) (L) (pc) (.int y :: .int x :: S) := by
  obtain ⟨p, l0, e, R, s, m, args, below, meth, c, Q, D0, A, nL⟩ := κ
  obtain ⟨rfl, rfl, rfl, rfl, hx, hb, hml, hown, hts, hK, hA, hlk, hZ, hE⟩ := C
  intro H locs ls hP hD hS hl
  exact lv_ixor hx hb hd  (kk H locs ls hP hD hS hl)
theorem aw_ineg (C : aw_X0 l D tys Zs rm cc n own Ts E κ) {x : Int32} (hd : decode cc pc = .ok (.ineg, 1))  (kk : aw_J κ cells slots (w) (L) (pc + 1) (.int (-x) :: S)) : aw_J κ cells slots (w) (L) (pc) (.int x :: S) := by
  obtain ⟨p, l0, e, R, s, m, args, below, meth, c, Q, D0, A, nL⟩ := κ
  obtain ⟨rfl, rfl, rfl, rfl, hx, hb, hml, hown, hts, hK, hA, hlk, hZ, hE⟩ := C
  intro H locs ls hP hD hS hl
  exact lv_ineg hx hb hd  (kk H locs ls hP hD hS hl)
theorem aw_idiv (C : aw_X0 l D tys Zs rm cc n own Ts E κ) {x y : Int32} (hd : decode cc pc = .ok (.idiv, 1)) (hne : ¬ y = 0) (kk : aw_J κ cells slots (w) (L) (pc + 1) (.int (x / y) :: S)) : aw_J κ cells slots (w) (L) (pc) (.int y :: .int x :: S) := by
  obtain ⟨p, l0, e, R, s, m, args, below, meth, c, Q, D0, A, nL⟩ := κ
  obtain ⟨rfl, rfl, rfl, rfl, hx, hb, hml, hown, hts, hK, hA, hlk, hZ, hE⟩ := C
  intro H locs ls hP hD hS hl
  exact lv_idiv hx hb hd hne (kk H locs ls hP hD hS hl)
theorem aw_ishl (C : aw_X0 l D tys Zs rm cc n own Ts E κ) {x y : Int32} (hd : decode cc pc = .ok (.ishl, 1))  (kk : aw_J κ cells slots (w) (L) (pc + 1) (.int (x <<< (y &&& 31)) :: S)) : aw_J κ cells slots (w) (L) (pc) (.int y :: .int x :: S) := by
  obtain ⟨p, l0, e, R, s, m, args, below, meth, c, Q, D0, A, nL⟩ := κ
  obtain ⟨rfl, rfl, rfl, rfl, hx, hb, hml, hown, hts, hK, hA, hlk, hZ, hE⟩ := C
  intro H locs ls hP hD hS hl
  exact lv_ishl hx hb hd  (kk H locs ls hP hD hS hl)
theorem aw_ishr (C : aw_X0 l D tys Zs rm cc n own Ts E κ) {x y : Int32} (hd : decode cc pc = .ok (.ishr, 1))  (kk : aw_J κ cells slots (w) (L) (pc + 1) (.int (x >>> (y &&& 31)) :: S)) : aw_J κ cells slots (w) (L) (pc) (.int y :: .int x :: S) := by
  obtain ⟨p, l0, e, R, s, m, args, below, meth, c, Q, D0, A, nL⟩ := κ
  obtain ⟨rfl, rfl, rfl, rfl, hx, hb, hml, hown, hts, hK, hA, hlk, hZ, hE⟩ := C
  intro H locs ls hP hD hS hl
  exact lv_ishr hx hb hd  (kk H locs ls hP hD hS hl)
theorem aw_dup (C : aw_X0 l D tys Zs rm cc n own Ts E κ) {a : Value} (hd : decode cc pc = .ok (.dup, 1)) (ha : a.category = 1) (kk : aw_J κ cells slots (w) (L) (pc + 1) (a :: a :: S)) : aw_J κ cells slots (w) (L) (pc) (a :: S) := by
  obtain ⟨p, l0, e, R, s, m, args, below, meth, c, Q, D0, A, nL⟩ := κ
  obtain ⟨rfl, rfl, rfl, rfl, hx, hb, hml, hown, hts, hK, hA, hlk, hZ, hE⟩ := C
  intro H locs ls hP hD hS hl
  exact lv_dup hx hb hd ha (kk H locs ls hP hD hS hl)
theorem aw_pop (C : aw_X0 l D tys Zs rm cc n own Ts E κ) {a : Value} (hd : decode cc pc = .ok (.pop, 1)) (ha : a.category = 1) (kk : aw_J κ cells slots (w) (L) (pc + 1) (S)) : aw_J κ cells slots (w) (L) (pc) (a :: S) := by
  obtain ⟨p, l0, e, R, s, m, args, below, meth, c, Q, D0, A, nL⟩ := κ
  obtain ⟨rfl, rfl, rfl, rfl, hx, hb, hml, hown, hts, hK, hA, hlk, hZ, hE⟩ := C
  intro H locs ls hP hD hS hl
  exact lv_pop hx hb hd ha (kk H locs ls hP hD hS hl)
theorem aw_dup_x1 (C : aw_X0 l D tys Zs rm cc n own Ts E κ) {a b : Value} (hd : decode cc pc = .ok (.dup_x1, 1)) (ha : a.category = 1) (hb2 : b.category = 1) (kk : aw_J κ cells slots (w) (L) (pc + 1) (a :: b :: a :: S)) : aw_J κ cells slots (w) (L) (pc) (a :: b :: S) := by
  obtain ⟨p, l0, e, R, s, m, args, below, meth, c, Q, D0, A, nL⟩ := κ
  obtain ⟨rfl, rfl, rfl, rfl, hx, hb, hml, hown, hts, hK, hA, hlk, hZ, hE⟩ := C
  intro H locs ls hP hD hS hl
  exact lv_dup_x1 hx hb hd ha hb2 (kk H locs ls hP hD hS hl)
theorem aw_dup_x2 (C : aw_X0 l D tys Zs rm cc n own Ts E κ) {a b d : Value} (hd : decode cc pc = .ok (.dup_x2, 1)) (ha : a.category = 1) (hb2 : b.category = 1) (hd2 : d.category = 1) (kk : aw_J κ cells slots (w) (L) (pc + 1) (a :: b :: d :: a :: S)) : aw_J κ cells slots (w) (L) (pc) (a :: b :: d :: S) := by
  obtain ⟨p, l0, e, R, s, m, args, below, meth, c, Q, D0, A, nL⟩ := κ
  obtain ⟨rfl, rfl, rfl, rfl, hx, hb, hml, hown, hts, hK, hA, hlk, hZ, hE⟩ := C
  intro H locs ls hP hD hS hl
  exact lv_dup_x2 hx hb hd ha hb2 hd2 (kk H locs ls hP hD hS hl)
theorem aw_dup2 (C : aw_X0 l D tys Zs rm cc n own Ts E κ) {a b : Value} (hd : decode cc pc = .ok (.dup2, 1)) (ha : a.category = 1) (hb2 : b.category = 1) (kk : aw_J κ cells slots (w) (L) (pc + 1) (a :: b :: a :: b :: S)) : aw_J κ cells slots (w) (L) (pc) (a :: b :: S) := by
  obtain ⟨p, l0, e, R, s, m, args, below, meth, c, Q, D0, A, nL⟩ := κ
  obtain ⟨rfl, rfl, rfl, rfl, hx, hb, hml, hown, hts, hK, hA, hlk, hZ, hE⟩ := C
  intro H locs ls hP hD hS hl
  exact lv_dup2_11 hx hb hd ha hb2 (kk H locs ls hP hD hS hl)
theorem aw_istore_n (C : aw_X0 l D tys Zs rm cc n own Ts E κ) {k : Fin 4} {i : Nat} {x : Int32} (hd : decode cc pc = .ok (.istore_n k, 1)) (hi : (k : Nat) = i) (hn : i < n) (hl' : (i, Value.int x) :: L.filter (fun q => !(q.1 == i) && !(q.1 + 1 == i && q.2.category == 2)) = L') (kk : aw_J κ cells slots (w) (L') (pc + 1) (S)) : aw_J κ cells slots (w) (L) (pc) (Value.int x :: S) := by
  obtain ⟨p, l0, e, R, s, m, args, below, meth, c, Q, D0, A, nL⟩ := κ
  obtain ⟨rfl, rfl, rfl, rfl, hx, hb, hml, hown, hts, hK, hA, hlk, hZ, hE⟩ := C
  intro H locs ls hP hD hS hl
  exact lv_istore_n hx hb hd hi hl hn hl' (fun ls hl => kk H locs ls hP hD hS hl)
theorem aw_istore (C : aw_X0 l D tys Zs rm cc n own Ts E κ) {i : Nat} {x : Int32} (hd : decode cc pc = .ok (.istore i, 2))  (hn : i < n) (hl' : (i, Value.int x) :: L.filter (fun q => !(q.1 == i) && !(q.1 + 1 == i && q.2.category == 2)) = L') (kk : aw_J κ cells slots (w) (L') (pc + 2) (S)) : aw_J κ cells slots (w) (L) (pc) (Value.int x :: S) := by
  obtain ⟨p, l0, e, R, s, m, args, below, meth, c, Q, D0, A, nL⟩ := κ
  obtain ⟨rfl, rfl, rfl, rfl, hx, hb, hml, hown, hts, hK, hA, hlk, hZ, hE⟩ := C
  intro H locs ls hP hD hS hl
  exact lv_istore hx hb hd hl hn hl' (fun ls hl => kk H locs ls hP hD hS hl)
theorem aw_astore_n (C : aw_X0 l D tys Zs rm cc n own Ts E κ) {k : Fin 4} {i x : Nat} (hd : decode cc pc = .ok (.astore_n k, 1)) (hi : (k : Nat) = i) (hn : i < n) (hl' : (i, Value.ref x) :: L.filter (fun q => !(q.1 == i) && !(q.1 + 1 == i && q.2.category == 2)) = L') (kk : aw_J κ cells slots (w) (L') (pc + 1) (S)) : aw_J κ cells slots (w) (L) (pc) (Value.ref x :: S) := by
  obtain ⟨p, l0, e, R, s, m, args, below, meth, c, Q, D0, A, nL⟩ := κ
  obtain ⟨rfl, rfl, rfl, rfl, hx, hb, hml, hown, hts, hK, hA, hlk, hZ, hE⟩ := C
  intro H locs ls hP hD hS hl
  exact lv_astore_n hx hb hd hi hl hn hl' (fun ls hl => kk H locs ls hP hD hS hl)
theorem aw_astore (C : aw_X0 l D tys Zs rm cc n own Ts E κ) {i x : Nat} (hd : decode cc pc = .ok (.astore i, 2))  (hn : i < n) (hl' : (i, Value.ref x) :: L.filter (fun q => !(q.1 == i) && !(q.1 + 1 == i && q.2.category == 2)) = L') (kk : aw_J κ cells slots (w) (L') (pc + 2) (S)) : aw_J κ cells slots (w) (L) (pc) (Value.ref x :: S) := by
  obtain ⟨p, l0, e, R, s, m, args, below, meth, c, Q, D0, A, nL⟩ := κ
  obtain ⟨rfl, rfl, rfl, rfl, hx, hb, hml, hown, hts, hK, hA, hlk, hZ, hE⟩ := C
  intro H locs ls hP hD hS hl
  exact lv_astore hx hb hd hl hn hl' (fun ls hl => kk H locs ls hP hD hS hl)
theorem aw_iinc (C : aw_X0 l D tys Zs rm cc n own Ts E κ) {i j : Nat} {z : Int} {x v : Int32} (hd : decode cc pc = .ok (.iinc i z, 3)) (hj : L[j]? = some (i, .int x)) (hv : x + Int32.ofInt z = v) (hn : i < n) (hl' : (i, Value.int v) :: L.filter (fun q => !(q.1 == i) && !(q.1 + 1 == i && q.2.category == 2)) = L') (kk : aw_J κ cells slots (w) (L') (pc + 3) (S)) : aw_J κ cells slots (w) (L) (pc) (S) := by
  obtain ⟨p, l0, e, R, s, m, args, below, meth, c, Q, D0, A, nL⟩ := κ
  obtain ⟨rfl, rfl, rfl, rfl, hx, hb, hml, hown, hts, hK, hA, hlk, hZ, hE⟩ := C
  intro H locs ls hP hD hS hl
  exact lv_iinc hx hb hd hl hj hv hn hl' (fun ls hl => kk H locs ls hP hD hS hl)
theorem aw_if_eq (C : aw_X0 l D tys Zs rm cc n own Ts E κ) {x : Int32} {off : Int} {tgt : Nat} (hd : decode cc pc = .ok (.ifCond .eq off, 3)) (ht : (pc : Int) + off = (tgt : Int)) (kt : x = 0 → aw_J κ cells slots (w) (L) (tgt) (S)) (kf : ¬ x = 0 → aw_J κ cells slots (w) (L) (pc + 3) (S)) : aw_J κ cells slots (w) (L) (pc) (.int x :: S) := by
  obtain ⟨p, l0, e, R, s, m, args, below, meth, c, Q, D0, A, nL⟩ := κ
  obtain ⟨rfl, rfl, rfl, rfl, hx, hb, hml, hown, hts, hK, hA, hlk, hZ, hE⟩ := C
  intro H locs ls hP hD hS hl
  exact lv_if_eq hx hb hd ht (fun h => kt h H locs ls hP hD hS hl) (fun h => kf h H locs ls hP hD hS hl)
theorem aw_icmp_eq (C : aw_X0 l D tys Zs rm cc n own Ts E κ) {x y : Int32} {off : Int} {tgt : Nat} (hd : decode cc pc = .ok (.if_icmp .eq off, 3)) (ht : (pc : Int) + off = (tgt : Int)) (kt : x = y → aw_J κ cells slots (w) (L) (tgt) (S)) (kf : ¬ x = y → aw_J κ cells slots (w) (L) (pc + 3) (S)) : aw_J κ cells slots (w) (L) (pc) (.int y :: .int x :: S) := by
  obtain ⟨p, l0, e, R, s, m, args, below, meth, c, Q, D0, A, nL⟩ := κ
  obtain ⟨rfl, rfl, rfl, rfl, hx, hb, hml, hown, hts, hK, hA, hlk, hZ, hE⟩ := C
  intro H locs ls hP hD hS hl
  exact lv_icmp_eq hx hb hd ht (fun h => kt h H locs ls hP hD hS hl) (fun h => kf h H locs ls hP hD hS hl)
theorem aw_if_ne (C : aw_X0 l D tys Zs rm cc n own Ts E κ) {x : Int32} {off : Int} {tgt : Nat} (hd : decode cc pc = .ok (.ifCond .ne off, 3)) (ht : (pc : Int) + off = (tgt : Int)) (kt : ¬ x = 0 → aw_J κ cells slots (w) (L) (tgt) (S)) (kf : x = 0 → aw_J κ cells slots (w) (L) (pc + 3) (S)) : aw_J κ cells slots (w) (L) (pc) (.int x :: S) := by
  obtain ⟨p, l0, e, R, s, m, args, below, meth, c, Q, D0, A, nL⟩ := κ
  obtain ⟨rfl, rfl, rfl, rfl, hx, hb, hml, hown, hts, hK, hA, hlk, hZ, hE⟩ := C
  intro H locs ls hP hD hS hl
  exact lv_if_ne hx hb hd ht (fun h => kt h H locs ls hP hD hS hl) (fun h => kf h H locs ls hP hD hS hl)
theorem aw_icmp_ne (C : aw_X0 l D tys Zs rm cc n own Ts E κ) {x y : Int32} {off : Int} {tgt : Nat} (hd : decode cc pc = .ok (.if_icmp .ne off, 3)) (ht : (pc : Int) + off = (tgt : Int)) (kt : ¬ x = y → aw_J κ cells slots (w) (L) (tgt) (S)) (kf : x = y → aw_J κ cells slots (w) (L) (pc + 3) (S)) : aw_J κ cells slots (w) (L) (pc) (.int y :: .int x :: S) := by
  obtain ⟨p, l0, e, R, s, m, args, below, meth, c, Q, D0, A, nL⟩ := κ
  obtain ⟨rfl, rfl, rfl, rfl, hx, hb, hml, hown, hts, hK, hA, hlk, hZ, hE⟩ := C
  intro H locs ls hP hD hS hl
  exact lv_icmp_ne hx hb hd ht (fun h => kt h H locs ls hP hD hS hl) (fun h => kf h H locs ls hP hD hS hl)
theorem aw_if_lt (C : aw_X0 l D tys Zs rm cc n own Ts E κ) {x : Int32} {off : Int} {tgt : Nat} (hd : decode cc pc = .ok (.ifCond .lt off, 3)) (ht : (pc : Int) + off = (tgt : Int)) (kt : x < 0 → aw_J κ cells slots (w) (L) (tgt) (S)) (kf : ¬ x < 0 → aw_J κ cells slots (w) (L) (pc + 3) (S)) : aw_J κ cells slots (w) (L) (pc) (.int x :: S) := by
  obtain ⟨p, l0, e, R, s, m, args, below, meth, c, Q, D0, A, nL⟩ := κ
  obtain ⟨rfl, rfl, rfl, rfl, hx, hb, hml, hown, hts, hK, hA, hlk, hZ, hE⟩ := C
  intro H locs ls hP hD hS hl
  exact lv_if_lt hx hb hd ht (fun h => kt h H locs ls hP hD hS hl) (fun h => kf h H locs ls hP hD hS hl)
theorem aw_icmp_lt (C : aw_X0 l D tys Zs rm cc n own Ts E κ) {x y : Int32} {off : Int} {tgt : Nat} (hd : decode cc pc = .ok (.if_icmp .lt off, 3)) (ht : (pc : Int) + off = (tgt : Int)) (kt : x < y → aw_J κ cells slots (w) (L) (tgt) (S)) (kf : ¬ x < y → aw_J κ cells slots (w) (L) (pc + 3) (S)) : aw_J κ cells slots (w) (L) (pc) (.int y :: .int x :: S) := by
  obtain ⟨p, l0, e, R, s, m, args, below, meth, c, Q, D0, A, nL⟩ := κ
  obtain ⟨rfl, rfl, rfl, rfl, hx, hb, hml, hown, hts, hK, hA, hlk, hZ, hE⟩ := C
  intro H locs ls hP hD hS hl
  exact lv_icmp_lt hx hb hd ht (fun h => kt h H locs ls hP hD hS hl) (fun h => kf h H locs ls hP hD hS hl)
theorem aw_if_ge (C : aw_X0 l D tys Zs rm cc n own Ts E κ) {x : Int32} {off : Int} {tgt : Nat} (hd : decode cc pc = .ok (.ifCond .ge off, 3)) (ht : (pc : Int) + off = (tgt : Int)) (kt : 0 ≤ x → aw_J κ cells slots (w) (L) (tgt) (S)) (kf : ¬ 0 ≤ x → aw_J κ cells slots (w) (L) (pc + 3) (S)) : aw_J κ cells slots (w) (L) (pc) (.int x :: S) := by
  obtain ⟨p, l0, e, R, s, m, args, below, meth, c, Q, D0, A, nL⟩ := κ
  obtain ⟨rfl, rfl, rfl, rfl, hx, hb, hml, hown, hts, hK, hA, hlk, hZ, hE⟩ := C
  intro H locs ls hP hD hS hl
  exact lv_if_ge hx hb hd ht (fun h => kt h H locs ls hP hD hS hl) (fun h => kf h H locs ls hP hD hS hl)
theorem aw_icmp_ge (C : aw_X0 l D tys Zs rm cc n own Ts E κ) {x y : Int32} {off : Int} {tgt : Nat} (hd : decode cc pc = .ok (.if_icmp .ge off, 3)) (ht : (pc : Int) + off = (tgt : Int)) (kt : y ≤ x → aw_J κ cells slots (w) (L) (tgt) (S)) (kf : ¬ y ≤ x → aw_J κ cells slots (w) (L) (pc + 3) (S)) : aw_J κ cells slots (w) (L) (pc) (.int y :: .int x :: S) := by
  obtain ⟨p, l0, e, R, s, m, args, below, meth, c, Q, D0, A, nL⟩ := κ
  obtain ⟨rfl, rfl, rfl, rfl, hx, hb, hml, hown, hts, hK, hA, hlk, hZ, hE⟩ := C
  intro H locs ls hP hD hS hl
  exact lv_icmp_ge hx hb hd ht (fun h => kt h H locs ls hP hD hS hl) (fun h => kf h H locs ls hP hD hS hl)
theorem aw_if_gt (C : aw_X0 l D tys Zs rm cc n own Ts E κ) {x : Int32} {off : Int} {tgt : Nat} (hd : decode cc pc = .ok (.ifCond .gt off, 3)) (ht : (pc : Int) + off = (tgt : Int)) (kt : 0 < x → aw_J κ cells slots (w) (L) (tgt) (S)) (kf : ¬ 0 < x → aw_J κ cells slots (w) (L) (pc + 3) (S)) : aw_J κ cells slots (w) (L) (pc) (.int x :: S) := by
  obtain ⟨p, l0, e, R, s, m, args, below, meth, c, Q, D0, A, nL⟩ := κ
  obtain ⟨rfl, rfl, rfl, rfl, hx, hb, hml, hown, hts, hK, hA, hlk, hZ, hE⟩ := C
  intro H locs ls hP hD hS hl
  exact lv_if_gt hx hb hd ht (fun h => kt h H locs ls hP hD hS hl) (fun h => kf h H locs ls hP hD hS hl)
theorem aw_icmp_gt (C : aw_X0 l D tys Zs rm cc n own Ts E κ) {x y : Int32} {off : Int} {tgt : Nat} (hd : decode cc pc = .ok (.if_icmp .gt off, 3)) (ht : (pc : Int) + off = (tgt : Int)) (kt : y < x → aw_J κ cells slots (w) (L) (tgt) (S)) (kf : ¬ y < x → aw_J κ cells slots (w) (L) (pc + 3) (S)) : aw_J κ cells slots (w) (L) (pc) (.int y :: .int x :: S) := by
  obtain ⟨p, l0, e, R, s, m, args, below, meth, c, Q, D0, A, nL⟩ := κ
  obtain ⟨rfl, rfl, rfl, rfl, hx, hb, hml, hown, hts, hK, hA, hlk, hZ, hE⟩ := C
  intro H locs ls hP hD hS hl
  exact lv_icmp_gt hx hb hd ht (fun h => kt h H locs ls hP hD hS hl) (fun h => kf h H locs ls hP hD hS hl)
theorem aw_if_le (C : aw_X0 l D tys Zs rm cc n own Ts E κ) {x : Int32} {off : Int} {tgt : Nat} (hd : decode cc pc = .ok (.ifCond .le off, 3)) (ht : (pc : Int) + off = (tgt : Int)) (kt : x ≤ 0 → aw_J κ cells slots (w) (L) (tgt) (S)) (kf : ¬ x ≤ 0 → aw_J κ cells slots (w) (L) (pc + 3) (S)) : aw_J κ cells slots (w) (L) (pc) (.int x :: S) := by
  obtain ⟨p, l0, e, R, s, m, args, below, meth, c, Q, D0, A, nL⟩ := κ
  obtain ⟨rfl, rfl, rfl, rfl, hx, hb, hml, hown, hts, hK, hA, hlk, hZ, hE⟩ := C
  intro H locs ls hP hD hS hl
  exact lv_if_le hx hb hd ht (fun h => kt h H locs ls hP hD hS hl) (fun h => kf h H locs ls hP hD hS hl)
theorem aw_icmp_le (C : aw_X0 l D tys Zs rm cc n own Ts E κ) {x y : Int32} {off : Int} {tgt : Nat} (hd : decode cc pc = .ok (.if_icmp .le off, 3)) (ht : (pc : Int) + off = (tgt : Int)) (kt : x ≤ y → aw_J κ cells slots (w) (L) (tgt) (S)) (kf : ¬ x ≤ y → aw_J κ cells slots (w) (L) (pc + 3) (S)) : aw_J κ cells slots (w) (L) (pc) (.int y :: .int x :: S) := by
  obtain ⟨p, l0, e, R, s, m, args, below, meth, c, Q, D0, A, nL⟩ := κ
  obtain ⟨rfl, rfl, rfl, rfl, hx, hb, hml, hown, hts, hK, hA, hlk, hZ, hE⟩ := C
  intro H locs ls hP hD hS hl
  exact lv_icmp_le hx hb hd ht (fun h => kt h H locs ls hP hD hS hl) (fun h => kf h H locs ls hP hD hS hl)
theorem aw_goto (C : aw_X0 l D tys Zs rm cc n own Ts E κ) {off : Int} {tgt : Nat} (hd : decode cc pc = .ok (.goto off, 3)) (ht : (pc : Int) + off = (tgt : Int)) (kk : aw_J κ cells slots (w) (L) (tgt) (S)) : aw_J κ cells slots (w) (L) (pc) (S) := by
  obtain ⟨p, l0, e, R, s, m, args, below, meth, c, Q, D0, A, nL⟩ := κ
  obtain ⟨rfl, rfl, rfl, rfl, hx, hb, hml, hown, hts, hK, hA, hlk, hZ, hE⟩ := C
  intro H locs ls hP hD hS hl
  exact lv_goto hx hb hd ht (kk H locs ls hP hD hS hl)
theorem aw_tabOut (C : aw_X0 l D tys Zs rm cc n own Ts E κ) {dflt lo hi : Int} {offs : Array Int} {len : Nat} {x : Int32} {tgt : Nat} (hd : decode cc pc = .ok (.tableswitch dflt lo hi offs, len)) (h : x.toInt < lo ∨ hi < x.toInt) (ht : (pc : Int) + dflt = (tgt : Int)) (kk : aw_J κ cells slots (w) (L) (tgt) (S)) : aw_J κ cells slots (w) (L) (pc) (.int x :: S) := by
  obtain ⟨p, l0, e, R, s, m, args, below, meth, c, Q, D0, A, nL⟩ := κ
  obtain ⟨rfl, rfl, rfl, rfl, hx, hb, hml, hown, hts, hK, hA, hlk, hZ, hE⟩ := C
  intro H locs ls hP hD hS hl
  exact lv_tableOut hx hb hd h ht (kk H locs ls hP hD hS hl)
theorem aw_tabIn (C : aw_X0 l D tys Zs rm cc n own Ts E κ) {dflt lo hi : Int} {offs : Array Int} {len : Nat} {x : Int32} {off : Int} {tgt : Nat} (hd : decode cc pc = .ok (.tableswitch dflt lo hi offs, len)) (h1 : ¬ x.toInt < lo) (h2 : ¬ hi < x.toInt) (ho : offs[(x.toInt - lo).toNat]? = some off) (ht : (pc : Int) + off = (tgt : Int)) (kk : aw_J κ cells slots (w) (L) (tgt) (S)) : aw_J κ cells slots (w) (L) (pc) (.int x :: S) := by
  obtain ⟨p, l0, e, R, s, m, args, below, meth, c, Q, D0, A, nL⟩ := κ
  obtain ⟨rfl, rfl, rfl, rfl, hx, hb, hml, hown, hts, hK, hA, hlk, hZ, hE⟩ := C
  intro H locs ls hP hD hS hl
  exact lv_tableIn hx hb hd h1 h2 ho ht (kk H locs ls hP hD hS hl)
theorem aw_lookup (C : aw_X0 l D tys Zs rm cc n own Ts E κ) {dflt : Int} {ps : Array (Int × Int)} {len : Nat} {x : Int32} {off : Int} {tgt : Nat} (hd : decode cc pc = .ok (.lookupswitch dflt ps, len)) (hp : (ps.toList.zip (ps.toList.drop 1)).all (fun (a, next) => a.1 < next.1) = true) (ho : Op.lookupswitch.offset ps.toList dflt x.toInt = off) (ht : (pc : Int) + off = (tgt : Int)) (kk : aw_J κ cells slots (w) (L) (tgt) (S)) : aw_J κ cells slots (w) (L) (pc) (.int x :: S) := by
  obtain ⟨p, l0, e, R, s, m, args, below, meth, c, Q, D0, A, nL⟩ := κ
  obtain ⟨rfl, rfl, rfl, rfl, hx, hb, hml, hown, hts, hK, hA, hlk, hZ, hE⟩ := C
  intro H locs ls hP hD hS hl
  exact lv_lookup hx hb hd hp ho ht (kk H locs ls hP hD hS hl)
theorem aw_iret {v : Int32} (C : aw_X l D tys Zs rm cc n own Ts (some .int) (some (.int v)) w κ) (hd : decode cc pc = .ok (.ireturn, 1)) : aw_J κ 0 0 w L pc [.int v] := by
  obtain ⟨p, l0, e, R, s, m, args, below, meth, c, Q, D0, A, nL⟩ := κ
  obtain ⟨rfl, rfl, rfl, rfl, hx, hb, hml, hown, hts, hK, hA, hlk, hZ, hE⟩ := C
  intro H locs ls hP hD hS hl
  obtain ⟨hrt, hQ⟩ := hE
  subst hQ
  exact W.iret hx hb hrt (fun t ht hW => ⟨rfl, ⟨by rw [ht]; exact hP, va_K.moved hW.alike hK, hD⟩, hS.F ht⟩) hS.2.2 hd hlk
theorem aw_zret {v : Int32} (C : aw_X l D tys Zs rm cc n own Ts (some .boolean) (some (.int v)) w κ) (hv : v = 0 ∨ v = 1) (hd : decode cc pc = .ok (.ireturn, 1)) : aw_J κ 0 0 w L pc [.int v] := by
  obtain ⟨p, l0, e, R, s, m, args, below, meth, c, Q, D0, A, nL⟩ := κ
  obtain ⟨rfl, rfl, rfl, rfl, hx, hb, hml, hown, hts, hK, hA, hlk, hZ, hE⟩ := C
  intro H locs ls hP hD hS hl
  obtain ⟨hrt, hQ⟩ := hE
  subst hQ
  exact W.zret hx hb hrt (by rcases hv with rfl | rfl <;> decide) (fun t ht hW => ⟨rfl, ⟨by rw [ht]; exact hP, va_K.moved hW.alike hK, hD⟩, hS.F ht⟩) hS.2.2 hd hlk
theorem aw_vret (C : aw_X l D tys Zs rm cc n own Ts none none w κ) (hd : decode cc pc = .ok (.return_, 1)) : aw_J κ 0 0 w L pc [] := by
  obtain ⟨p, l0, e, R, s, m, args, below, meth, c, Q, D0, A, nL⟩ := κ
  obtain ⟨rfl, rfl, rfl, rfl, hx, hb, hml, hown, hts, hK, hA, hlk, hZ, hE⟩ := C
  intro H locs ls hP hD hS hl
  obtain ⟨hrt, hQ⟩ := hE
  subst hQ
  exact W.vret hx hb hrt (fun t ht hW => ⟨rfl, ⟨by rw [ht]; exact hP, va_K.moved hW.alike hK, hD⟩, hS.F ht⟩) hS.2.2 hd hlk
end AWR
