/-! A world by a memory: cell k lies at ad k and holds ly k (σ k) -/
abbrev aw_m : Type := Nat → Nat → Int32
def aw_w (N : Nat) (ad : Nat → Nat) (ly : Nat → (Nat → Int32) → va_E) (σ : aw_m) : va_W := (List.range N).map (fun k => (ad k, ly k (σ k)))
def aw_s (σ : aw_m) (k : Nat) (f : Nat → Int32) : aw_m := fun a => if a = k then f else σ a
theorem aw_w_at {N : Nat} {ad : Nat → Nat} {ly : Nat → (Nat → Int32) → va_E} {σ : aw_m} {k : Nat} (h : k < N) : (aw_w N ad ly σ)[k]? = some (ad k, ly k (σ k)) := by
  unfold aw_w
  rw [List.getElem?_map, List.getElem?_range h]
  rfl
theorem aw_w_len {N : Nat} {ad : Nat → Nat} {ly : Nat → (Nat → Int32) → va_E} {σ : aw_m} : (aw_w N ad ly σ).length = N := by
  unfold aw_w
  rw [List.length_map, List.length_range]
theorem aw_w_set {N : Nat} {ad : Nat → Nat} {ly : Nat → (Nat → Int32) → va_E} {σ : aw_m} {k : Nat} {f : Nat → Int32} : (aw_w N ad ly σ).set k (ad k, ly k f) = aw_w N ad ly (aw_s σ k f) := by
  apply List.ext_getElem?
  intro i
  by_cases hi : i < N
  · rw [aw_w_at hi]
    by_cases hk : k = i
    · subst hk
      rw [List.getElem?_set_self (by rw [aw_w_len]; exact hi)]
      simp [aw_s]
    · rw [List.getElem?_set_ne hk, aw_w_at hi]
      simp [aw_s, Ne.symm hk]
  · rw [List.getElem?_eq_none (by rw [List.length_set, aw_w_len]; omega), List.getElem?_eq_none (by rw [aw_w_len]; omega)]
theorem aw_Nw {w : Cond} {s U : State} (hw : aw_Nt w = true) (hW : s.WarmedH U.vm) (h : va_Nw w s) : va_Nw w U := by
  unfold aw_Nt at hw
  split at hw
  · exact va_Nw.warmF hW h
  · exact va_Nw.warmM hW h
  · exact va_AO.moved hW.alike h
  · cases hw
theorem aw_Nw2 {w : Cond} {s U : State} (hw : aw_Nt w = true) (hv : s.vm = U.vm) (h : va_Nw w s) : va_Nw w U := by
  unfold aw_Nt at hw
  split at hw
  · exact va_Nw.same rfl hv h
  · exact va_Nw.same rfl hv h
  · exact va_AO.moved (by rw [hv]; exact Vm.Alike.refl _) h
  · cases hw
theorem aw_Z.keep {Zs : aw_T} {A B : Nat → Prop} {s U : State} {H : Heap} {locs : List Loc} (h : aw_Z Zs A s) (hS : va_S A s.heap H locs) (hAB : ∀ q, B q → A q) (hU : U.heap = H) (hW : s.WarmedH U.vm) : aw_Z Zs B U := by
  refine ⟨fun z hz => ?_, fun w hw => ⟨(h.2 w hw).1, aw_Nw (h.2 w hw).1 hW (h.2 w hw).2⟩⟩
  obtain ⟨h1, h2⟩ := h.1 z hz
  have hvm := hW.alike
  subst hU
  exact ⟨va_Z.moved hvm ((va_Z.kept h1 (fun a ha hn => hS.2.1 a ha hn)).narrow hAB), va_T.moved hvm ((va_T.kept h2 (fun a ha hn => hS.2.1 a ha hn)).narrow hAB)⟩
theorem aw_Z.same {Zs : aw_T} {A : Nat → Prop} {u U : State} (h : aw_Z Zs A u) (hU : U.heap = u.heap) (hvm : u.vm = U.vm) : aw_Z Zs A U := by
  refine ⟨fun z hz => ?_, fun w hw => ⟨(h.2 w hw).1, aw_Nw2 (h.2 w hw).1 hvm (h.2 w hw).2⟩⟩
  obtain ⟨h1, h2⟩ := h.1 z hz
  have ha : u.vm.Alike U.vm := by rw [hvm]; exact Vm.Alike.refl _
  rw [hU]
  exact ⟨va_Z.moved ha h1, va_T.moved ha h2⟩
section AWH
variable {l : Launch} {D : va_G} {tys : List (ClassId × FieldType)} {Zs : aw_T} {rm : Room} {cc : ByteArray} {n : Nat} {own : String} {Ts : List Cond} {E : aw_K → Prop} {κ : aw_K}
variable {cells slots : Nat} {w : va_W} {L L' : List (Nat × Value)} {pc : Nat} {S : List Value}
variable {N : Nat} {ad : Nat → Nat} {ly : Nat → (Nat → Int32) → va_E} {σ : aw_m}
theorem aw_get (C : aw_X0 l D tys Zs rm cc n own Ts E κ) (K : Nat) (hK : K < N) {ci : Nat} {fs : List Value} (hly : ly K (σ K) = .inr (ci, fs)) {Cn : String} {T : u_T} {NN : Nat} (hc : vwCl[ci]? = some (Cn, T, NN)) (hin : ∀ w ∈ u_ws Cn T NN, w ∈ Ts) (i : Nat) (hi : i < NN) {v : Value} (hv : fs[i]? = some v) {index : Nat}
    (hlink : Cond.fieldLink own index (T i).1 (T i).2.1 (T i).2.2.1 ∈ Ts) (hd : decode cc pc = .ok (.getfield index, 3)) (kk : aw_J κ cells slots (aw_w N ad ly σ) L (pc + 3) (v :: S)) : aw_J κ cells slots (aw_w N ad ly σ) L pc (.ref (ad K) :: S) := by
  obtain ⟨p, l0, e, R, s, m, args, below, meth, c, Q, D0, A, nL⟩ := κ
  obtain ⟨rfl, rfl, rfl, rfl, hx, hb, hml, hown, hts, hKK, hA, hlk, hZ, hE⟩ := C
  intro H locs ls hP hD hS hl
  exact va_get hx hb hts hin hown hKK hP K (by rw [aw_w_at hK, hly]) hc i hi (hts _ hlink) (fun _ h => h) hv hd (kk H locs ls hP hD hS hl)
theorem aw_put (C : aw_X0 l D tys Zs rm cc n own Ts E κ) (K : Nat) (hK : K < N) {ci : Nat} {fs : List Value} (hly : ly K (σ K) = .inr (ci, fs)) {Cn : String} {T : u_T} {NN : Nat} (hc : vwCl[ci]? = some (Cn, T, NN)) (hin : ∀ w ∈ u_ws Cn T NN, w ∈ Ts) (ty0 : Nat → FieldType) (hty : ∀ k, k < NN → parseFieldDescriptor (T k).2.2.1 = some (ty0 k)) (hnm : ∀ a, a < NN → ∀ b, b < NN → a ≠ b → (T a).2.1 ≠ (T b).2.1)
    (i : Nat) (hi : i < NN) {index : Nat} (hlink : Cond.fieldLink own index (T i).1 (T i).2.1 (T i).2.2.1 ∈ Ts) (hfin : (T i).2.2.2 = false) {ty : FieldType} {v : Value} (hdsc : parseFieldDescriptor (T i).2.2.1 = some ty) (hnar : narrow ty v = v) (hfit : fits ty v = true) (hlen : i < fs.length) {f : Nat → Int32} {σ1 : aw_m} (hset : ly K f = .inr (ci, fs.set i v)) (hσ : σ1 = aw_s σ K f)
    (hd : decode cc pc = .ok (.putfield index, 3)) (kk : aw_J κ cells slots (aw_w N ad ly σ1) L (pc + 3) S) : aw_J κ cells slots (aw_w N ad ly σ) L pc (v :: .ref (ad K) :: S) := by
  obtain ⟨p, l0, e, R, s, m, args, below, meth, c, Q, D0, A, nL⟩ := κ
  obtain ⟨rfl, rfl, rfl, rfl, hx, hb, hml, hown, hts, hKK, hA, hlk, hZ, hE⟩ := C
  intro H locs ls hP hD hS hl
  refine va_put hx hb hts hin ty0 hty hnm hown hKK hP hD hS K (by rw [aw_w_at hK, hly]) hc i hi (hts _ hlink) (fun _ h => h) hfin hdsc hnar hfit hlen hd (fun H1 locs1 hP1 hD1 hS1 => ?_)
  rw [← hset, aw_w_set, ← hσ] at hP1 hD1
  exact kk H1 locs1 ls hP1 hD1 hS1 hl
theorem aw_iald (C : aw_X0 l D tys Zs rm cc n own Ts E κ) (K : Nat) (hK : K < N) (t0 : Nat) {cA : ClassId} {nn : Nat} {f : Nat → Int32} (hly : ly K (σ K) = .inl (cA, nn, .inl f)) (ht : tys[t0]? = some (cA, .int)) {i : Int32} (hin : vp_in i nn)
    (hd : decode cc pc = .ok (.iaload, 1)) (kk : aw_J κ cells slots (aw_w N ad ly σ) L (pc + 1) (.int (f i.toNatClampNeg) :: S)) : aw_J κ cells slots (aw_w N ad ly σ) L pc (.int i :: .ref (ad K) :: S) := by
  obtain ⟨p, l0, e, R, s, m, args, below, meth, c, Q, D0, A, nL⟩ := κ
  obtain ⟨rfl, rfl, rfl, rfl, hx, hb, hml, hown, hts, hKK, hA, hlk, hZ, hE⟩ := C
  intro H locs ls hP hD hS hl
  exact va_iald hx hb hKK hP K t0 (by rw [aw_w_at hK, hly]) ht hin hd (kk H locs ls hP hD hS hl)
theorem aw_iast (C : aw_X0 l D tys Zs rm cc n own Ts E κ) (K : Nat) (hK : K < N) (t0 : Nat) {cA : ClassId} {nn : Nat} {f g : Nat → Int32} (hly : ly K (σ K) = .inl (cA, nn, .inl f)) (ht : tys[t0]? = some (cA, .int)) {i x : Int32} (hin : vp_in i nn) {σ1 : aw_m} (hset : ly K g = .inl (cA, nn, .inl (upd f i.toNatClampNeg x))) (hσ : σ1 = aw_s σ K g)
    (hd : decode cc pc = .ok (.iastore, 1)) (kk : aw_J κ cells slots (aw_w N ad ly σ1) L (pc + 1) S) : aw_J κ cells slots (aw_w N ad ly σ) L pc (.int x :: .int i :: .ref (ad K) :: S) := by
  obtain ⟨p, l0, e, R, s, m, args, below, meth, c, Q, D0, A, nL⟩ := κ
  obtain ⟨rfl, rfl, rfl, rfl, hx, hb, hml, hown, hts, hKK, hA, hlk, hZ, hE⟩ := C
  intro H locs ls hP hD hS hl
  refine va_iast hx hb hKK hP hD hS K t0 (by rw [aw_w_at hK, hly]) ht hin hd (fun H1 locs1 hP1 hD1 hS1 => ?_)
  rw [← hset, aw_w_set, ← hσ] at hP1 hD1
  exact kk H1 locs1 ls hP1 hD1 hS1 hl
theorem aw_zald (C : aw_X0 l D tys Zs rm cc n own Ts E κ) (K : Nat) (hK : K < N) (t0 : Nat) {cA : ClassId} {nn : Nat} {f : Nat → Int32} (hly : ly K (σ K) = .inl (cA, nn, .inl f)) (ht : tys[t0]? = some (cA, .boolean)) {i : Int32} (hin : vp_in i nn)
    (hd : decode cc pc = .ok (.baload, 1)) (kk : aw_J κ cells slots (aw_w N ad ly σ) L (pc + 1) (.int (f i.toNatClampNeg) :: S)) : aw_J κ cells slots (aw_w N ad ly σ) L pc (.int i :: .ref (ad K) :: S) := by
  obtain ⟨p, l0, e, R, s, m, args, below, meth, c, Q, D0, A, nL⟩ := κ
  obtain ⟨rfl, rfl, rfl, rfl, hx, hb, hml, hown, hts, hKK, hA, hlk, hZ, hE⟩ := C
  intro H locs ls hP hD hS hl
  exact va_zald hx hb hKK hP K t0 (by rw [aw_w_at hK, hly]) ht hin hd (kk H locs ls hP hD hS hl)
theorem aw_nz {x : Int32} (h : x = 0 ∨ x = 1) : vp_nar .boolean x = x := by rcases h with rfl | rfl <;> decide
theorem aw_zast (C : aw_X0 l D tys Zs rm cc n own Ts E κ) (K : Nat) (hK : K < N) (t0 : Nat) {cA : ClassId} {nn : Nat} {f g : Nat → Int32} (hly : ly K (σ K) = .inl (cA, nn, .inl f)) (ht : tys[t0]? = some (cA, .boolean)) {i x : Int32} (hin : vp_in i nn) (hz : x = 0 ∨ x = 1) {σ1 : aw_m} (hset : ly K g = .inl (cA, nn, .inl (upd f i.toNatClampNeg x))) (hσ : σ1 = aw_s σ K g)
    (hd : decode cc pc = .ok (.bastore, 1)) (kk : aw_J κ cells slots (aw_w N ad ly σ1) L (pc + 1) S) : aw_J κ cells slots (aw_w N ad ly σ) L pc (.int x :: .int i :: .ref (ad K) :: S) := by
  obtain ⟨p, l0, e, R, s, m, args, below, meth, c, Q, D0, A, nL⟩ := κ
  obtain ⟨rfl, rfl, rfl, rfl, hx, hb, hml, hown, hts, hKK, hA, hlk, hZ, hE⟩ := C
  intro H locs ls hP hD hS hl
  refine va_zast hx hb hKK hP hD hS K t0 (by rw [aw_w_at hK, hly]) ht hin hd (fun H1 locs1 hP1 hD1 hS1 => ?_)
  rw [aw_nz hz, ← hset, aw_w_set, ← hσ] at hP1 hD1
  exact kk H1 locs1 ls hP1 hD1 hS1 hl
theorem aw_aald (C : aw_X0 l D tys Zs rm cc n own Ts E κ) (K : Nat) (hK : K < N) (t0 : Nat) {cA : ClassId} {Cn : String} {nn : Nat} {f : Nat → Option Nat} (hly : ly K (σ K) = .inl (cA, nn, .inr (.inr (.inr (.inr f))))) (ht : tys[t0]? = some (cA, .object Cn)) {i : Int32} (hin : vp_in i nn) {b : Nat} (hf : f i.toNatClampNeg = some b)
    (hd : decode cc pc = .ok (.aaload, 1)) (kk : aw_J κ cells slots (aw_w N ad ly σ) L (pc + 1) (.ref b :: S)) : aw_J κ cells slots (aw_w N ad ly σ) L pc (.int i :: .ref (ad K) :: S) := by
  obtain ⟨p, l0, e, R, s, m, args, below, meth, c, Q, D0, A, nL⟩ := κ
  obtain ⟨rfl, rfl, rfl, rfl, hx, hb, hml, hown, hts, hKK, hA, hlk, hZ, hE⟩ := C
  intro H locs ls hP hD hS hl
  refine va_aldq hx hb hKK hP K t0 (by rw [aw_w_at hK, hly]) ht hin hd ?_
  rw [hf]
  exact kk H locs ls hP hD hS hl
theorem aw_alen (C : aw_X0 l D tys Zs rm cc n own Ts E κ) (K : Nat) (hK : K < N) (t0 : Nat) {cA : ClassId} {x : vp_A} (hly : ly K (σ K) = .inl (cA, x)) {ty : FieldType} (ht : tys[t0]? = some (cA, ty)) {v : Int32} (hv : Int32.ofNat x.1 = v)
    (hd : decode cc pc = .ok (.arraylength, 1)) (kk : aw_J κ cells slots (aw_w N ad ly σ) L (pc + 1) (.int v :: S)) : aw_J κ cells slots (aw_w N ad ly σ) L pc (.ref (ad K) :: S) := by
  obtain ⟨p, l0, e, R, s, m, args, below, meth, c, Q, D0, A, nL⟩ := κ
  obtain ⟨rfl, rfl, rfl, rfl, hx, hb, hml, hown, hts, hKK, hA, hlk, hZ, hE⟩ := C
  intro H locs ls hP hD hS hl
  exact va_alen hx hb hKK hP K t0 (by rw [aw_w_at hK, hly]) ht hv hd (kk H locs ls hP hD hS hl)
theorem aw_gets (C : aw_X0 l D tys Zs rm cc n own Ts E κ) {z : (String × String) × Nat × Nat × (Nat → Int32)} (hz : z ∈ Zs.1) {index : Nat} (hlink : Cond.fieldLink own index z.1.1 z.1.2 "[I" ∈ Ts) (hd : decode cc pc = .ok (.getstatic index, 3)) (kk : aw_J κ cells slots w L (pc + 3) (.ref z.2.1 :: S)) : aw_J κ cells slots w L pc S := by
  obtain ⟨p, l0, e, R, s, m, args, below, meth, c, Q, D0, A, nL⟩ := κ
  obtain ⟨rfl, rfl, rfl, rfl, hx, hb, hml, hown, hts, hKK, hA, hlk, hZ, hE⟩ := C
  intro H locs ls hP hD hS hl
  exact va_gets hx hb (hZ.1 z hz).1 hS hown (hts _ hlink) (fun _ h => h) hd (kk H locs ls hP hD hS hl)
theorem aw_getsN (C : aw_X0 l D tys Zs rm cc n own Ts E κ) {z : (String × String) × Nat × Nat × (Nat → Int32)} (hz : z ∈ Zs.1) {index : Nat} {host : String} (hlink : Cond.fieldLinkNest own index z.1.1 z.1.2 "[I" host ∈ Zs.2) (hd : decode cc pc = .ok (.getstatic index, 3)) (kk : aw_J κ cells slots w L (pc + 3) (.ref z.2.1 :: S)) : aw_J κ cells slots w L pc S := by
  obtain ⟨p, l0, e, R, s, m, args, below, meth, c, Q, D0, A, nL⟩ := κ
  obtain ⟨rfl, rfl, rfl, rfl, hx, hb, hml, hown, hts, hKK, hA, hlk, hZ, hE⟩ := C
  intro H locs ls hP hD hS hl
  exact va_getsN hx hb (hZ.1 z hz).1 hS hown (va_Nw.use rfl (hZ.2 _ hlink).2) (fun _ h => h) hd (kk H locs ls hP hD hS hl)
theorem aw_sald (C : aw_X0 l D tys Zs rm cc n own Ts E κ) {z : (String × String) × Nat × Nat × (Nat → Int32)} (hz : z ∈ Zs.1) {i : Int32} (hin : vp_in i z.2.2.1) (hd : decode cc pc = .ok (.iaload, 1)) (kk : aw_J κ cells slots w L (pc + 1) (.int (z.2.2.2 i.toNatClampNeg) :: S)) : aw_J κ cells slots w L pc (.int i :: .ref z.2.1 :: S) := by
  obtain ⟨p, l0, e, R, s, m, args, below, meth, c, Q, D0, A, nL⟩ := κ
  obtain ⟨rfl, rfl, rfl, rfl, hx, hb, hml, hown, hts, hKK, hA, hlk, hZ, hE⟩ := C
  intro H locs ls hP hD hS hl
  obtain ⟨cell, h1, h2, h3, h4, h5, h6, h7⟩ := (hZ.1 z hz).2
  have hlt : i.toNatClampNeg < z.2.2.1 := Nat.not_le.mp fun q => hin (Or.inr q)
  exact W.iald (v := .int (z.2.2.2 i.toNatClampNeg)) hx hb (by rw [hS.2.1 _ (Array.getElem?_eq_some_iff.mp h1).1 h7]; exact h1) h2 h3 (fun q => q.elim (fun q => hin (Or.inl q)) (fun q => hin (Or.inr (Nat.le_trans h4 q)))) (h6 _ hlt) rfl rfl hd (kk H locs ls hP hD hS hl)
theorem aw_copy (C : aw_X0 l D tys Zs rm cc n own Ts E κ) (K0 K1 : Nat) (hK0 : K0 < N) (hK1 : K1 < N) (t0 : Nat) {c0 : ClassId} {n0 n1 : Nat} {f g h : Nat → Int32} (hly0 : ly K0 (σ K0) = .inl (c0, n0, .inl f)) (hly1 : ly K1 (σ K1) = .inl (c0, n1, .inl g)) (ht : tys[t0]? = some (c0, .int)) {index : Nat} (hlink : Cond.methodLink own index arraycopyName ∈ Ts) (hnat : Cond.native arraycopyName ∈ Ts) (hstat : Cond.static arraycopyName ∈ Ts) (hini : Cond.initialized "java/lang/System" ∈ Ts)
    {sp dp k : Int32} (h1 : ¬ sp < 0) (h2 : ¬ dp < 0) (h3 : ¬ k < 0) (h4 : sp.toNatClampNeg + k.toNatClampNeg ≤ n0) (h5 : dp.toNatClampNeg + k.toNatClampNeg ≤ n1) (hr1 : 1 ≤ rm.frames) (hr2 : (S.map fun v => v.category).sum + (nativeFrameWords "java/lang/System" "arraycopy" 5 + 11) ≤ rm.locals) {σ1 : aw_m} (hset : ly K1 h = .inl (c0, n1, .inl (va_cpy f g sp.toNatClampNeg dp.toNatClampNeg k.toNatClampNeg))) (hσ : σ1 = aw_s σ K1 h)
    (hd : decode cc pc = .ok (.invokestatic index, 3)) (kk : aw_J κ cells slots (aw_w N ad ly σ1) L (pc + 3) S) : aw_J κ cells slots (aw_w N ad ly σ) L pc (.int k :: .int dp :: .ref (ad K1) :: .int sp :: .ref (ad K0) :: S) := by
  obtain ⟨p, l0, e, R, s, m, args, below, meth, c, Q, D0, A, nL⟩ := κ
  obtain ⟨rfl, rfl, rfl, rfl, hx, hb, hml, hown, hts, hKK, hA, hlk, hZ, hE⟩ := C
  intro H locs ls hP hD hS hl
  refine va_copyi hx hb (hml.trans hl.1.symm) hown (hts _ hlink) (hts _ hnat) (hts _ hstat) (hts _ hini) hKK hP hD hS K0 K1 t0 t0 (by rw [aw_w_at hK0, hly0]) (by rw [aw_w_at hK1, hly1]) ht ht rfl h1 h2 h3 h4 h5 (fun _ _ => rfl) hr1 hr2 hd (fun H1 locs1 hP1 hD1 hS1 => ?_)
  rw [← hset, aw_w_set, ← hσ] at hP1 hD1
  exact kk H1 locs1 ls hP1 hD1 hS1 hl
theorem aw_callW {p : Program} {e : Env} {R : Room} {s : State} {m : MethodId} {args a : Array Value} {below : List Frame} {meth : Method} {c : Code} {Q : State → Prop} {A A1 : Nat → Prop} {H : Heap} {locs : List Loc} {ls : Array Slot} {r : Option Value} {w1 : va_W} {st0 rest : List Value}
    (hr : va_Run p l e R s m args below meth c H locs cells slots 0 0 (F0 m pc ls st0) rest (aw_Q D tys A1 r w1 a) A1) (hS : va_S A s.heap H locs) (hA1 : ∀ q, A1 q → A q)
    (kk : ∀ (H1 : Heap) (locs1 : List Loc), va_P D vwCl w1 H1 → va_D A w1 → va_S A s.heap H1 locs1 → W p l e R s m args below meth c H1 locs1 cells slots Q (F0 m (pc + 3) ls (r.toList ++ rest))) : W p l e R s m args below meth c H locs cells slots Q (F0 m pc ls st0) := by
  intro T hT X
  obtain ⟨v, st₀, t, T', L, h0, X', hL, e1, e2, ⟨hv, ⟨hp, -, hd⟩, hz, hk⟩, st⟩ := hr T hT X
  cases hv
  rw [h0] at hz hk
  obtain ⟨t2, a1, b1⟩ := kk T'.heap (locs ++ L) (by rw [e1]; exact hp) (hd.weaken (fun _ _ _ h => hA1 _ h))
    ⟨Nat.le_trans hS.1 (by rw [e1]; exact hz), fun q h1 h2 => by rw [e1, hk q (Nat.lt_of_lt_of_le h1 hS.1) (fun z => h2 (hA1 q z))]; exact hS.2.1 q h1 h2, fun q hq => by
      rcases List.mem_append.mp hq with h | h
      · exact hS.2.2 q h
      · exact hA1 _ (hL q h)⟩ T' rfl X'
  exact ⟨t2, st t2 a1, b1⟩
theorem aw_blind {D : va_G} {tys : List (ClassId × FieldType)} {Zs : aw_T} {as : List Value} {w : va_W} {sz : Nat} : FrameBlind (va_Pc as (fun V => V.heap.size = sz ∧ va_P D vwCl w V.heap ∧ va_K D vwCl tys V ∧ va_D (fun _ => True) w ∧ aw_Z Zs (va_A w sz) V)) := by
  intro a U g mk q
  obtain ⟨q0, q1, qP, qK, qD, qZ⟩ := q
  exact ⟨q0, q1, qP, va_K.moved (u := U) (U := U.calling g mk a) (Vm.Alike.refl U.vm) qK, qD, qZ.same (U := U.calling g mk a) rfl rfl⟩
theorem aw_sub {A : Nat → Prop} {H0 H : Heap} {locs : List Loc} (hD : va_D A w) (hS : va_S A H0 H locs) (hA : ∀ q, H0.size ≤ q → A q) : ∀ q, va_A w H.size q → A q := by
  intro q h
  rcases h with ⟨k, e, h⟩ | h
  · exact hD.2 k (q, e) h
  · exact hA q (Nat.le_trans hS.1 h)
/-- the callee's room in the caller's -/
def aw_rm (rm' rm : Room) (maxL : Nat) : Prop := rm'.cells = 0 ∧ rm'.slots = 0 ∧ rm'.frames + 1 ≤ rm.frames ∧ 8 + (maxL + 11) + rm'.locals ≤ rm.locals
/-- the callee's name and how many arguments it takes -/
def aw_nm (y : MethodName) (k : Nat) : Prop := y.cls ≠ "java/lang/invoke/MethodHandle" ∧ y.cls ≠ "java/lang/invoke/VarHandle" ∧ (parseMethodDescriptor y.desc).map (fun d => d.parameters.length) = some k
theorem aw_callV (C : aw_X0 l D tys Zs rm cc n own Ts E κ) {y : MethodName} {bytes : ByteArray} {maxL : Nat} {ret' : Option FieldType} {ws ws' : List Cond} {rm' : Room} {b : Nat} {As rest : List Value} {r : Option Value} {w1 : va_W} {index : Nat}
    (hM : aw_M l D tys Zs y ws rm' (.ref b :: As) w r w1) (hw : ws = .code y bytes maxL ret' :: ws') (hG : GoodIn Ts (wsV own index y.cls y ws)) (hn : aw_nm y As.length) (hr : aw_rm rm' rm maxL) (hcs : cells ≤ rm.cells ∧ slots ≤ rm.slots) (K : Nat) {ci : Nat} {fs : List Value} {T : u_T} {NN : Nat} (hK : w[K]? = some (b, .inr (ci, fs))) (hc : vwCl[ci]? = some (y.cls, T, NN))
    (hst : S = As.reverse ++ .ref b :: rest) (hcat : (rest.map fun v => v.category).sum ≤ 8) (hd : decode cc pc = .ok (.invokevirtual index, 3)) (kk : aw_J κ cells slots w1 L (pc + 3) (r.toList ++ rest)) : aw_J κ cells slots w L pc S := by
  obtain ⟨p, l0, e, R, s, m, args, below, meth, c, Q, D0, A, nL⟩ := κ
  obtain ⟨rfl, rfl, rfl, rfl, hx, hb, hml, hown, hts, hKK, hA, hlk, hZ, hE⟩ := C
  intro H locs ls hP hD hS hl
  have hsub := aw_sub hD hS hA
  subst hst
  refine aw_callW (va_runV (As := As) (rest := rest) (b := b) ⟨hx, hb, hml, hown, hts⟩ (hM H.size) (cwV As.length hts hG hw hr.1 hr.2.1 ⟨rfl, hn.1, hn.2.1, hn.2.2⟩ ⟨hr.2.2.1, hr.2.2.2⟩) ⟨aw_blind, va_recv hKK hP hc hK, fun U hU hW => ⟨rfl, by rw [hU], by rw [hU]; exact hP, va_K.moved hW.alike hKK, hD.weaken (fun _ _ _ _ => trivial), hZ.keep hS hsub hU hW⟩⟩ rfl rfl hl.1 rfl (lv_room hcat) hd hcs) hS hsub (fun H1 locs1 hP1 hD1 hS1 => kk H1 locs1 ls hP1 hD1 hS1 hl)
theorem aw_callS (C : aw_X0 l D tys Zs rm cc n own Ts E κ) {y : MethodName} {bytes : ByteArray} {maxL : Nat} {ret' : Option FieldType} {ws ws' : List Cond} {rm' : Room} {As rest : List Value} {r : Option Value} {w1 : va_W} {index : Nat}
    (hM : aw_M l D tys Zs y ws rm' As w r w1) (hw : ws = .code y bytes maxL ret' :: ws') (hG : GoodIn Ts (va_wsS own index y ws)) (hn : aw_nm y As.length) (hr : aw_rm rm' rm maxL) (hcs : cells ≤ rm.cells ∧ slots ≤ rm.slots)
    (hst : S = As.reverse ++ rest) (hcat : (rest.map fun v => v.category).sum ≤ 8) (hd : decode cc pc = .ok (.invokestatic index, 3)) (kk : aw_J κ cells slots w1 L (pc + 3) (r.toList ++ rest)) : aw_J κ cells slots w L pc S := by
  obtain ⟨p, l0, e, R, s, m, args, below, meth, c, Q, D0, A, nL⟩ := κ
  obtain ⟨rfl, rfl, rfl, rfl, hx, hb, hml, hown, hts, hKK, hA, hlk, hZ, hE⟩ := C
  intro H locs ls hP hD hS hl
  have hsub := aw_sub hD hS hA
  subst hst
  refine aw_callW (va_runS (As := As) (rest := rest) ⟨hx, hb, hml, hown, hts⟩ (hM H.size) (va_cwS As.length hts hG hw hr.1 hr.2.1 ⟨hn.1, hn.2.1, hn.2.2⟩ ⟨hr.2.2.1, hr.2.2.2⟩) ⟨aw_blind, fun U hU hW => ⟨rfl, by rw [hU], by rw [hU]; exact hP, va_K.moved hW.alike hKK, hD.weaken (fun _ _ _ _ => trivial), hZ.keep hS hsub hU hW⟩⟩ rfl rfl hl.1 rfl (lv_room hcat) hd hcs) hS hsub (fun H1 locs1 hP1 hD1 hS1 => kk H1 locs1 ls hP1 hD1 hS1 hl)
theorem aw_callVN (C : aw_X0 l D tys Zs rm cc n own Ts E κ) {y : MethodName} {bytes : ByteArray} {maxL : Nat} {ret' : Option FieldType} {ws ws' : List Cond} {rm' : Room} {b : Nat} {As rest : List Value} {r : Option Value} {w1 : va_W} {index : Nat} {host : String}
    (hM : aw_M l D tys Zs y ws rm' (.ref b :: As) w r w1) (hw : ws = .code y bytes maxL ret' :: ws') (hG : GoodIn Ts ws) (hl1 : Cond.methodLinkNest own index y host ∈ Zs.2) (hini : Cond.initialized y.cls ∈ Ts) (hinst : Cond.instanceMethod y ∈ Ts) (hsel : Cond.selects y.cls y y ∈ Ts) (hn : aw_nm y As.length) (hr : aw_rm rm' rm maxL) (hcs : cells ≤ rm.cells ∧ slots ≤ rm.slots) (K : Nat) {ci : Nat} {fs : List Value} {T : u_T} {NN : Nat} (hK : w[K]? = some (b, .inr (ci, fs))) (hc : vwCl[ci]? = some (y.cls, T, NN))
    (hst : S = As.reverse ++ .ref b :: rest) (hcat : (rest.map fun v => v.category).sum ≤ 8) (hd : decode cc pc = .ok (.invokevirtual index, 3)) (kk : aw_J κ cells slots w1 L (pc + 3) (r.toList ++ rest)) : aw_J κ cells slots w L pc S := by
  obtain ⟨p, l0, e, R, s, m, args, below, meth, c, Q, D0, A, nL⟩ := κ
  obtain ⟨rfl, rfl, rfl, rfl, hx, hb, hml, hown, hts, hKK, hA, hlk, hZ, hE⟩ := C
  intro H locs ls hP hD hS hl
  have hsub := aw_sub hD hS hA
  subst hst
  refine aw_callW (va_runVN (As := As) (rest := rest) (b := b) ⟨hx, hb, hml, hown, hts⟩ (hM H.size) ⟨va_cnB As.length hts hG hw hr.1 hr.2.1 (hZ.2 _ hl1).2 (hts _ hini) ⟨hn.1, hn.2.1, hn.2.2⟩ ⟨hr.2.2.1, hr.2.2.2⟩, hts _ hinst, hts _ hsel⟩ ⟨aw_blind, va_recv hKK hP hc hK, fun U hU hW => ⟨rfl, by rw [hU], by rw [hU]; exact hP, va_K.moved hW.alike hKK, hD.weaken (fun _ _ _ _ => trivial), hZ.keep hS hsub hU hW⟩⟩ rfl rfl hl.1 rfl (lv_room hcat) hd hcs) hS hsub (fun H1 locs1 hP1 hD1 hS1 => kk H1 locs1 ls hP1 hD1 hS1 hl)
theorem aw_callSN (C : aw_X0 l D tys Zs rm cc n own Ts E κ) {y : MethodName} {bytes : ByteArray} {maxL : Nat} {ret' : Option FieldType} {ws ws' : List Cond} {rm' : Room} {As rest : List Value} {r : Option Value} {w1 : va_W} {index : Nat} {host : String}
    (hM : aw_M l D tys Zs y ws rm' As w r w1) (hw : ws = .code y bytes maxL ret' :: ws') (hG : GoodIn Ts ws) (hl1 : Cond.methodLinkNest own index y host ∈ Zs.2) (hini : Cond.initialized y.cls ∈ Ts) (hstat : Cond.static y ∈ Ts) (hn : aw_nm y As.length) (hr : aw_rm rm' rm maxL) (hcs : cells ≤ rm.cells ∧ slots ≤ rm.slots)
    (hst : S = As.reverse ++ rest) (hcat : (rest.map fun v => v.category).sum ≤ 8) (hd : decode cc pc = .ok (.invokestatic index, 3)) (kk : aw_J κ cells slots w1 L (pc + 3) (r.toList ++ rest)) : aw_J κ cells slots w L pc S := by
  obtain ⟨p, l0, e, R, s, m, args, below, meth, c, Q, D0, A, nL⟩ := κ
  obtain ⟨rfl, rfl, rfl, rfl, hx, hb, hml, hown, hts, hKK, hA, hlk, hZ, hE⟩ := C
  intro H locs ls hP hD hS hl
  have hsub := aw_sub hD hS hA
  subst hst
  refine aw_callW (va_runSN (As := As) (rest := rest) ⟨hx, hb, hml, hown, hts⟩ (hM H.size) ⟨va_cnB As.length hts hG hw hr.1 hr.2.1 (hZ.2 _ hl1).2 (hts _ hini) ⟨hn.1, hn.2.1, hn.2.2⟩ ⟨hr.2.2.1, hr.2.2.2⟩, hts _ hstat, trivial⟩ ⟨aw_blind, fun U hU hW => ⟨rfl, by rw [hU], by rw [hU]; exact hP, va_K.moved hW.alike hKK, hD.weaken (fun _ _ _ _ => trivial), hZ.keep hS hsub hU hW⟩⟩ rfl rfl hl.1 rfl (lv_room hcat) hd hcs) hS hsub (fun H1 locs1 hP1 hD1 hS1 => kk H1 locs1 ls hP1 hD1 hS1 hl)
theorem aw_callVi (C : aw_X0 l D tys Zs rm cc n own Ts E κ) {y : MethodName} {bytes : ByteArray} {maxL : Nat} {ret' : Option FieldType} {ws ws' : List Cond} {rm' : Room} {b : Nat} {As rest : List Value} {r : Int32} {w1 : va_W} {index : Nat}
    (hM : aw_M l D tys Zs y ws rm' (.ref b :: As) w (some (.int r)) w1) (hw : ws = .code y bytes maxL ret' :: ws') (hG : GoodIn Ts (wsV own index y.cls y ws)) (hn : aw_nm y As.length) (hr : aw_rm rm' rm maxL) (hcs : cells ≤ rm.cells ∧ slots ≤ rm.slots) (K : Nat) {ci : Nat} {fs : List Value} {T : u_T} {NN : Nat} (hK : w[K]? = some (b, .inr (ci, fs))) (hc : vwCl[ci]? = some (y.cls, T, NN))
    (hst : S = As.reverse ++ .ref b :: rest) (hcat : (rest.map fun v => v.category).sum ≤ 8) (hd : decode cc pc = .ok (.invokevirtual index, 3)) (kk : aw_J κ cells slots w1 L (pc + 3) (.int r :: rest)) : aw_J κ cells slots w L pc S := aw_callV C hM hw hG hn hr hcs K hK hc hst hcat hd kk
theorem aw_callVv (C : aw_X0 l D tys Zs rm cc n own Ts E κ) {y : MethodName} {bytes : ByteArray} {maxL : Nat} {ret' : Option FieldType} {ws ws' : List Cond} {rm' : Room} {b : Nat} {As rest : List Value}  {w1 : va_W} {index : Nat}
    (hM : aw_M l D tys Zs y ws rm' (.ref b :: As) w none w1) (hw : ws = .code y bytes maxL ret' :: ws') (hG : GoodIn Ts (wsV own index y.cls y ws)) (hn : aw_nm y As.length) (hr : aw_rm rm' rm maxL) (hcs : cells ≤ rm.cells ∧ slots ≤ rm.slots) (K : Nat) {ci : Nat} {fs : List Value} {T : u_T} {NN : Nat} (hK : w[K]? = some (b, .inr (ci, fs))) (hc : vwCl[ci]? = some (y.cls, T, NN))
    (hst : S = As.reverse ++ .ref b :: rest) (hcat : (rest.map fun v => v.category).sum ≤ 8) (hd : decode cc pc = .ok (.invokevirtual index, 3)) (kk : aw_J κ cells slots w1 L (pc + 3) (rest)) : aw_J κ cells slots w L pc S := aw_callV C hM hw hG hn hr hcs K hK hc hst hcat hd kk
theorem aw_callSi (C : aw_X0 l D tys Zs rm cc n own Ts E κ) {y : MethodName} {bytes : ByteArray} {maxL : Nat} {ret' : Option FieldType} {ws ws' : List Cond} {rm' : Room} {As rest : List Value} {r : Int32} {w1 : va_W} {index : Nat}
    (hM : aw_M l D tys Zs y ws rm' As w (some (.int r)) w1) (hw : ws = .code y bytes maxL ret' :: ws') (hG : GoodIn Ts (va_wsS own index y ws)) (hn : aw_nm y As.length) (hr : aw_rm rm' rm maxL) (hcs : cells ≤ rm.cells ∧ slots ≤ rm.slots)
    (hst : S = As.reverse ++ rest) (hcat : (rest.map fun v => v.category).sum ≤ 8) (hd : decode cc pc = .ok (.invokestatic index, 3)) (kk : aw_J κ cells slots w1 L (pc + 3) (.int r :: rest)) : aw_J κ cells slots w L pc S := aw_callS C hM hw hG hn hr hcs hst hcat hd kk
theorem aw_callSv (C : aw_X0 l D tys Zs rm cc n own Ts E κ) {y : MethodName} {bytes : ByteArray} {maxL : Nat} {ret' : Option FieldType} {ws ws' : List Cond} {rm' : Room} {As rest : List Value}  {w1 : va_W} {index : Nat}
    (hM : aw_M l D tys Zs y ws rm' As w none w1) (hw : ws = .code y bytes maxL ret' :: ws') (hG : GoodIn Ts (va_wsS own index y ws)) (hn : aw_nm y As.length) (hr : aw_rm rm' rm maxL) (hcs : cells ≤ rm.cells ∧ slots ≤ rm.slots)
    (hst : S = As.reverse ++ rest) (hcat : (rest.map fun v => v.category).sum ≤ 8) (hd : decode cc pc = .ok (.invokestatic index, 3)) (kk : aw_J κ cells slots w1 L (pc + 3) (rest)) : aw_J κ cells slots w L pc S := aw_callS C hM hw hG hn hr hcs hst hcat hd kk
theorem aw_callVNi (C : aw_X0 l D tys Zs rm cc n own Ts E κ) {y : MethodName} {bytes : ByteArray} {maxL : Nat} {ret' : Option FieldType} {ws ws' : List Cond} {rm' : Room} {b : Nat} {As rest : List Value} {r : Int32} {w1 : va_W} {index : Nat} {host : String}
    (hM : aw_M l D tys Zs y ws rm' (.ref b :: As) w (some (.int r)) w1) (hw : ws = .code y bytes maxL ret' :: ws') (hG : GoodIn Ts ws) (hl1 : Cond.methodLinkNest own index y host ∈ Zs.2) (hini : Cond.initialized y.cls ∈ Ts) (hinst : Cond.instanceMethod y ∈ Ts) (hsel : Cond.selects y.cls y y ∈ Ts) (hn : aw_nm y As.length) (hr : aw_rm rm' rm maxL) (hcs : cells ≤ rm.cells ∧ slots ≤ rm.slots) (K : Nat) {ci : Nat} {fs : List Value} {T : u_T} {NN : Nat} (hK : w[K]? = some (b, .inr (ci, fs))) (hc : vwCl[ci]? = some (y.cls, T, NN))
    (hst : S = As.reverse ++ .ref b :: rest) (hcat : (rest.map fun v => v.category).sum ≤ 8) (hd : decode cc pc = .ok (.invokevirtual index, 3)) (kk : aw_J κ cells slots w1 L (pc + 3) (.int r :: rest)) : aw_J κ cells slots w L pc S := aw_callVN C hM hw hG hl1 hini hinst hsel hn hr hcs K hK hc hst hcat hd kk
theorem aw_callVNv (C : aw_X0 l D tys Zs rm cc n own Ts E κ) {y : MethodName} {bytes : ByteArray} {maxL : Nat} {ret' : Option FieldType} {ws ws' : List Cond} {rm' : Room} {b : Nat} {As rest : List Value}  {w1 : va_W} {index : Nat} {host : String}
    (hM : aw_M l D tys Zs y ws rm' (.ref b :: As) w none w1) (hw : ws = .code y bytes maxL ret' :: ws') (hG : GoodIn Ts ws) (hl1 : Cond.methodLinkNest own index y host ∈ Zs.2) (hini : Cond.initialized y.cls ∈ Ts) (hinst : Cond.instanceMethod y ∈ Ts) (hsel : Cond.selects y.cls y y ∈ Ts) (hn : aw_nm y As.length) (hr : aw_rm rm' rm maxL) (hcs : cells ≤ rm.cells ∧ slots ≤ rm.slots) (K : Nat) {ci : Nat} {fs : List Value} {T : u_T} {NN : Nat} (hK : w[K]? = some (b, .inr (ci, fs))) (hc : vwCl[ci]? = some (y.cls, T, NN))
    (hst : S = As.reverse ++ .ref b :: rest) (hcat : (rest.map fun v => v.category).sum ≤ 8) (hd : decode cc pc = .ok (.invokevirtual index, 3)) (kk : aw_J κ cells slots w1 L (pc + 3) (rest)) : aw_J κ cells slots w L pc S := aw_callVN C hM hw hG hl1 hini hinst hsel hn hr hcs K hK hc hst hcat hd kk
theorem aw_callSNi (C : aw_X0 l D tys Zs rm cc n own Ts E κ) {y : MethodName} {bytes : ByteArray} {maxL : Nat} {ret' : Option FieldType} {ws ws' : List Cond} {rm' : Room} {As rest : List Value} {r : Int32} {w1 : va_W} {index : Nat} {host : String}
    (hM : aw_M l D tys Zs y ws rm' As w (some (.int r)) w1) (hw : ws = .code y bytes maxL ret' :: ws') (hG : GoodIn Ts ws) (hl1 : Cond.methodLinkNest own index y host ∈ Zs.2) (hini : Cond.initialized y.cls ∈ Ts) (hstat : Cond.static y ∈ Ts) (hn : aw_nm y As.length) (hr : aw_rm rm' rm maxL) (hcs : cells ≤ rm.cells ∧ slots ≤ rm.slots)
    (hst : S = As.reverse ++ rest) (hcat : (rest.map fun v => v.category).sum ≤ 8) (hd : decode cc pc = .ok (.invokestatic index, 3)) (kk : aw_J κ cells slots w1 L (pc + 3) (.int r :: rest)) : aw_J κ cells slots w L pc S := aw_callSN C hM hw hG hl1 hini hstat hn hr hcs hst hcat hd kk
theorem aw_callSNv (C : aw_X0 l D tys Zs rm cc n own Ts E κ) {y : MethodName} {bytes : ByteArray} {maxL : Nat} {ret' : Option FieldType} {ws ws' : List Cond} {rm' : Room} {As rest : List Value}  {w1 : va_W} {index : Nat} {host : String}
    (hM : aw_M l D tys Zs y ws rm' As w none w1) (hw : ws = .code y bytes maxL ret' :: ws') (hG : GoodIn Ts ws) (hl1 : Cond.methodLinkNest own index y host ∈ Zs.2) (hini : Cond.initialized y.cls ∈ Ts) (hstat : Cond.static y ∈ Ts) (hn : aw_nm y As.length) (hr : aw_rm rm' rm maxL) (hcs : cells ≤ rm.cells ∧ slots ≤ rm.slots)
    (hst : S = As.reverse ++ rest) (hcat : (rest.map fun v => v.category).sum ≤ 8) (hd : decode cc pc = .ok (.invokestatic index, 3)) (kk : aw_J κ cells slots w1 L (pc + 3) (rest)) : aw_J κ cells slots w L pc S := aw_callSN C hM hw hG hl1 hini hstat hn hr hcs hst hcat hd kk
def aw_max (x y : Int32) : Int32 := if x < y then y else x
theorem aw_mmax (C : aw_X0 l D tys Zs rm cc n own Ts E κ) {index : Nat} (hlink : Cond.methodLink own index Lib.Math.max.name ∈ Ts) (hstat : Cond.static Lib.Math.max.name ∈ Ts) (hini : Cond.initialized "java/lang/Math" ∈ Ts) (hcode : Cond.code Lib.Math.max.name Lib.Math.max.code 2 (some .int) ∈ Ts) {x y : Int32} (hr1 : 1 ≤ rm.frames) (hr2 : (S.map fun v => v.category).sum + 13 ≤ rm.locals) (hcs : cells ≤ rm.cells ∧ slots ≤ rm.slots)
    (hd : decode cc pc = .ok (.invokestatic index, 3)) (kk : aw_J κ cells slots w L (pc + 3) (.int (aw_max x y) :: S)) : aw_J κ cells slots w L pc (.int y :: .int x :: S) := by
  obtain ⟨p, l0, e, R, s, m, args, below, meth, c, Q, D0, A, nL⟩ := κ
  obtain ⟨rfl, rfl, rfl, rfl, hx, hb, hml, hown, hts, hKK, hA, hlk, hZ, hE⟩ := C
  intro H locs ls hP hD hS hl
  exact va_mmax hx hb (hml.trans hl.1.symm) hown (hts _ hlink) (hts _ hstat) (hts _ hini) (hts _ hcode) hr1 hr2 hcs.1 hcs.2 hd (kk H locs ls hP hD hS hl)
theorem aw_loc (C : aw_X0 l D tys Zs rm cc n own Ts E κ) (ks : List Nat) (h : lv_pick L ks = L') (kk : aw_J κ cells slots w L' pc S) : aw_J κ cells slots w L pc S := by
  obtain ⟨p, l0, e, R, s, m, args, below, meth, c, Q, D0, A, nL⟩ := κ
  intro H locs ls hP hD hS hl
  exact kk H locs ls hP hD hS (lv_sub hl ks h)
end AWH
