theorem ws_arr {args : Array Value} {s : State} {ty : FieldType} (hty : ∀ C, ty ≠ .object C) (h : (Cond.arrayClass ty).before args s = true) : ∃ cA : ClassId, ArrOfT s cA ty ∧ va_RA s cA ty := by
  obtain ⟨cA, kA, comp, h1, h2, h3⟩ := Cond.arrayClass_spec h
  refine ⟨cA, fun n z => ⟨fun k h => (by cases h), kA, h2, comp, h3⟩, ?_⟩
  cases ty with
  | object C => exact absurd rfl (hty C)
  | _ => exact h1
theorem ws_arrO {args : Array Value} {s : State} {C : String} (h : (Cond.arrayOver (.object C)).before args s = true) : ∃ cA : ClassId, ArrOfT s cA (.object C) ∧ va_RA s cA (.object C) := by
  obtain ⟨comp, c, k, h1, h2, h3, h4, h5⟩ := Cond.arrayOver_spec h
  exact ⟨c, fun n z => ⟨fun k h => (by cases h), k, h3, comp, h4⟩, k, comp, h3, h4, h1, h5⟩
set_option maxRecDepth 20000 in
theorem wt_aoUnit : Cond.arrayOver (.object "ModuleShelf$Unit") ∈ lw_tbl := List.mem_of_getElem? (i := 96) (by rfl)
set_option maxRecDepth 20000 in
theorem wt_aoImage : Cond.arrayOver (.object "ModuleShelf$Image") ∈ lw_tbl := List.mem_of_getElem? (i := 159) (by rfl)
set_option maxRecDepth 20000 in
theorem wt_aoFrame : Cond.arrayOver (.object "ModuleShelf$Frame") ∈ lw_tbl := List.mem_of_getElem? (i := 195) (by rfl)
set_option maxRecDepth 20000 in
theorem wt_parts : Cond.laysStatic "ModuleShelf" "PARTS" "[I" ∈ lw_tbl := List.mem_of_getElem? (i := 331) (by rfl)
set_option maxRecDepth 20000 in
theorem wt_nS_9 : Cond.methodLinkNest "ModuleShelf" 9 ⟨"ModuleShelf$Code", "<init>", "()V"⟩ "ModuleShelf" ∈ lw_tbl := List.mem_of_getElem? (i := 54) (by rfl)
set_option maxRecDepth 20000 in
theorem wt_nI_11 : Cond.methodLinkNest "ModuleShelf$Image" 11 ⟨"ModuleShelf$Unit", "<init>", "()V"⟩ "ModuleShelf" ∈ lw_tbl := List.mem_of_getElem? (i := 166) (by rfl)
set_option maxRecDepth 20000 in
theorem wt_nL_17 : Cond.methodLinkNest "ModuleShelf$Library" 17 ⟨"ModuleShelf$Unit", "<init>", "()V"⟩ "ModuleShelf" ∈ lw_tbl := List.mem_of_getElem? (i := 98) (by rfl)
set_option maxRecDepth 20000 in
theorem wt_nL_18 : Cond.methodLinkNest "ModuleShelf$Library" 18 ⟨"ModuleShelf", "isModule", "(I)Z"⟩ "ModuleShelf" ∈ lw_tbl := List.mem_of_getElem? (i := 321) (by rfl)
set_option maxRecDepth 20000 in
theorem wt_nN_17 : Cond.methodLinkNest "ModuleShelf$Machine" 17 ⟨"ModuleShelf$Frame", "<init>", "()V"⟩ "ModuleShelf" ∈ lw_tbl := List.mem_of_getElem? (i := 197) (by rfl)
set_option maxRecDepth 20000 in
theorem wt_nM_21 : Cond.methodLinkNest "ModuleShelf$Memory" 21 ⟨"ModuleShelf$Image", "<init>", "()V"⟩ "ModuleShelf" ∈ lw_tbl := List.mem_of_getElem? (i := 161) (by rfl)
set_option maxRecDepth 20000 in
theorem wt_nM_22 : Cond.methodLinkNest "ModuleShelf$Memory" 22 ⟨"ModuleShelf", "isModule", "(I)Z"⟩ "ModuleShelf" ∈ lw_tbl := List.mem_of_getElem? (i := 384) (by rfl)
set_option maxRecDepth 20000 in
theorem wt_nU_20 : Cond.methodLinkNest "ModuleShelf$Unit" 20 ⟨"ModuleShelf$Code", "<init>", "()V"⟩ "ModuleShelf" ∈ lw_tbl := List.mem_of_getElem? (i := 103) (by rfl)
set_option maxRecDepth 20000 in
theorem wt_fL_80 : Cond.fieldLinkNest "ModuleShelf$Library" 80 "ModuleShelf" "PARTS" "[I" "ModuleShelf" ∈ lw_tbl := List.mem_of_getElem? (i := 330) (by rfl)
set_option maxRecDepth 20000 in
theorem wt_fN_117 : Cond.fieldLinkNest "ModuleShelf$Machine" 117 "ModuleShelf" "PARTS" "[I" "ModuleShelf" ∈ lw_tbl := List.mem_of_getElem? (i := 474) (by rfl)
theorem ws_nest : ∀ w ∈ zs_N, w ∈ lw_tbl := List.forall_mem_cons.mpr ⟨wt_nS_9, List.forall_mem_cons.mpr ⟨wt_nI_11, List.forall_mem_cons.mpr ⟨wt_nL_17, List.forall_mem_cons.mpr ⟨wt_nL_18, List.forall_mem_cons.mpr ⟨wt_nN_17, List.forall_mem_cons.mpr ⟨wt_nM_21, List.forall_mem_cons.mpr ⟨wt_nM_22, List.forall_mem_cons.mpr ⟨wt_nU_20, List.forall_mem_cons.mpr ⟨wt_fL_80, List.forall_mem_cons.mpr ⟨wt_fN_117, List.forall_mem_cons.mpr ⟨wt_aoUnit, List.forall_mem_cons.mpr ⟨wt_aoImage, List.forall_mem_cons.mpr ⟨wt_aoFrame, fun _ h => absurd h List.not_mem_nil⟩⟩⟩⟩⟩⟩⟩⟩⟩⟩⟩⟩⟩
theorem ws_nt : ∀ w ∈ zs_N, aw_Nt w = true ∧ w.onTables = true ∨ aw_Nt w = true ∧ ∃ C, w = .arrayOver (.object C) := by
  intro w hw
  unfold zs_N at hw
  simp only [List.mem_cons, List.not_mem_nil, or_false] at hw
  rcases hw with rfl | rfl | rfl | rfl | rfl | rfl | rfl | rfl | rfl | rfl | rfl | rfl | rfl
  · exact Or.inl ⟨rfl, rfl⟩
  · exact Or.inl ⟨rfl, rfl⟩
  · exact Or.inl ⟨rfl, rfl⟩
  · exact Or.inl ⟨rfl, rfl⟩
  · exact Or.inl ⟨rfl, rfl⟩
  · exact Or.inl ⟨rfl, rfl⟩
  · exact Or.inl ⟨rfl, rfl⟩
  · exact Or.inl ⟨rfl, rfl⟩
  · exact Or.inl ⟨rfl, rfl⟩
  · exact Or.inl ⟨rfl, rfl⟩
  · exact Or.inr ⟨rfl, _, rfl⟩
  · exact Or.inr ⟨rfl, _, rfl⟩
  · exact Or.inr ⟨rfl, _, rfl⟩
theorem ws_nw {args : Array Value} {s : State} (hts : ∀ w ∈ lw_tbl, w.before args s = true) : ∀ w ∈ zs_N, aw_Nt w = true ∧ va_Nw w s := by
  intro w hw
  have hb := hts w (ws_nest w hw)
  rcases ws_nt w hw with ⟨h1, h2⟩ | ⟨h1, C, rfl⟩
  · exact ⟨h1, va_Nw.of h2 hb⟩
  · exact ⟨h1, va_AO.of hb⟩
theorem ws_parts {args : Array Value} {s : State} (h : (Jvm.Cond.and given_1 narrow_1).before args s = true) (hts : ∀ w ∈ lw_tbl, w.before args s = true) {A : Nat → Prop} (hA : ∀ a : Nat, a < s.heap.size → ¬ A a) : ∃ ps : Nat, va_Z "ModuleShelf" "PARTS" "[I" (.ref ps) A s s.heap ∧ va_T .int ps 12 (fun j => .int (zp_parts j)) A s s.heap := by
  have hs := flat_of_before _ h
  have harr : (Cond.arrayOf (.static "ModuleShelf" "PARTS" "[I") .int).before args s = true := hs _ (by decide +kernel)
  have hlen : (Cond.eq (.length (.static "ModuleShelf" "PARTS" "[I")) (.int 12)).before args s = true := hs _ (by decide +kernel)
  have hel : ∀ j : Nat, j < 12 → (Term.elem (.static "ModuleShelf" "PARTS" "[I") (.int (Int32.ofNat j))).eval args s none [] s = some (.int (zp_parts j)) := by
    intro j hj
    have e0 : (Cond.eq (.elem (.static "ModuleShelf" "PARTS" "[I") (.int 0)) (.int 0)).before args s = true := hs _ (by decide +kernel)
    have e1 : (Cond.eq (.elem (.static "ModuleShelf" "PARTS" "[I") (.int 1)) (.int 0)).before args s = true := hs _ (by decide +kernel)
    have e2 : (Cond.eq (.elem (.static "ModuleShelf" "PARTS" "[I") (.int 2)) (.int 0)).before args s = true := hs _ (by decide +kernel)
    have e3 : (Cond.eq (.elem (.static "ModuleShelf" "PARTS" "[I") (.int 3)) (.int 1)).before args s = true := hs _ (by decide +kernel)
    have e4 : (Cond.eq (.elem (.static "ModuleShelf" "PARTS" "[I") (.int 4)) (.int 2)).before args s = true := hs _ (by decide +kernel)
    have e5 : (Cond.eq (.elem (.static "ModuleShelf" "PARTS" "[I") (.int 5)) (.int 2)).before args s = true := hs _ (by decide +kernel)
    have e6 : (Cond.eq (.elem (.static "ModuleShelf" "PARTS" "[I") (.int 6)) (.int 2)).before args s = true := hs _ (by decide +kernel)
    have e7 : (Cond.eq (.elem (.static "ModuleShelf" "PARTS" "[I") (.int 7)) (.int 2)).before args s = true := hs _ (by decide +kernel)
    have e8 : (Cond.eq (.elem (.static "ModuleShelf" "PARTS" "[I") (.int 8)) (.int 2)).before args s = true := hs _ (by decide +kernel)
    have e9 : (Cond.eq (.elem (.static "ModuleShelf" "PARTS" "[I") (.int 9)) (.int 3)).before args s = true := hs _ (by decide +kernel)
    have e10 : (Cond.eq (.elem (.static "ModuleShelf" "PARTS" "[I") (.int 10)) (.int 2)).before args s = true := hs _ (by decide +kernel)
    have e11 : (Cond.eq (.elem (.static "ModuleShelf" "PARTS" "[I") (.int 11)) (.int 0)).before args s = true := hs _ (by decide +kernel)
    match j, hj with
    | 0, _ => exact va_eqt e0
    | 1, _ => exact va_eqt e1
    | 2, _ => exact va_eqt e2
    | 3, _ => exact va_eqt e3
    | 4, _ => exact va_eqt e4
    | 5, _ => exact va_eqt e5
    | 6, _ => exact va_eqt e6
    | 7, _ => exact va_eqt e7
    | 8, _ => exact va_eqt e8
    | 9, _ => exact va_eqt e9
    | 10, _ => exact va_eqt e10
    | 11, _ => exact va_eqt e11
    | j + 12, hj => omega
  obtain ⟨t, ht, hT⟩ := va_Tof (f := fun j => .int (zp_parts j)) (A := A) (by decide) harr (va_eqt hlen) hel hA
  exact ⟨t, va_Zof (hts _ wt_parts) (hts _ (List.mem_filter.mp wi_S).1) ht hA, hT⟩
set_option maxHeartbeats 4000000 in
set_option maxRecDepth 100000 in
theorem ws_open (IV : Nat → aw_m → aw_m → Prop) (hs : wl_sim IV) (h0 : IV 0 sg_0 sr_0) {p : Program} {e : Env} {s : State} {m : MethodId} {below : List Frame} {meth : Method} {c : Code} (l : Launch) {b L : Nat} {xs : Nat → Int32} (hL : L ≤ 2560) (C0 : lw_At p s m meth c b L xs) : W p l e room_1 s m #[Value.ref b] below meth c s.heap [] 0 0 (lw_Z below #[Value.ref b] s) (entryFrame m ([Value.ref b] : List Value).toArray 4) := by
  obtain ⟨hx, hb, hr, hml, hown, hts, hX, hbl, hlocks, hgv⟩ := C0
  obtain ⟨c0, iS0, hKn0⟩ := u_known (C := xr_C) (T := xt_C) (N := 7) (n := 7) hts (fun w h => (List.mem_filter.mp (xi_C w h)).1) (hts _ (List.mem_filter.mp ci_C).1)
  obtain ⟨c1, iS1, hKn1⟩ := u_known (C := xr_F) (T := xt_F) (N := 5) (n := 5) hts (fun w h => (List.mem_filter.mp (xi_F w h)).1) (hts _ (List.mem_filter.mp ci_F).1)
  obtain ⟨c2, iS2, hKn2⟩ := u_known (C := xr_I) (T := xt_I) (N := 2) (n := 2) hts (fun w h => (List.mem_filter.mp (xi_I w h)).1) (hts _ (List.mem_filter.mp ci_I).1)
  obtain ⟨c3, iS3, hKn3⟩ := u_known (C := xr_L) (T := xt_L) (N := 3) (n := 3) hts (fun w h => (List.mem_filter.mp (xi_L w h)).1) (hts _ (List.mem_filter.mp ci_L).1)
  obtain ⟨c4, iS4, hKn4⟩ := u_known (C := xr_N) (T := xt_N) (N := 3) (n := 3) hts (fun w h => (List.mem_filter.mp (xi_N w h)).1) (hts _ (List.mem_filter.mp ci_N).1)
  obtain ⟨c5, iS5, hKn5⟩ := u_known (C := xr_M) (T := xt_M) (N := 2) (n := 2) hts (fun w h => (List.mem_filter.mp (xi_M w h)).1) (hts _ (List.mem_filter.mp ci_M).1)
  obtain ⟨c6, iS6, hKn6⟩ := u_known (C := xr_U) (T := xt_U) (N := 6) (n := 6) hts (fun w h => (List.mem_filter.mp (xi_U w h)).1) (hts _ (List.mem_filter.mp ci_U).1)
  obtain ⟨c7, iS7, hKn7⟩ := u_known (C := xr_S) (T := xt_S) (N := 6) (n := 6) hts (fun w h => (List.mem_filter.mp (xi_S w h)).1) (hts _ (List.mem_filter.mp ci_S).1)
  obtain ⟨c8, iS8, hKn8⟩ := u_known (C := xr_R) (T := xt_R) (N := 29) (n := 29) hts (fun w h => (List.mem_filter.mp (xi_R w h)).1) (hts _ (List.mem_filter.mp ci_R).1)
  obtain ⟨dC, dI, hKc⟩ : ∃ (dC : Nat → ClassId) (dI : Nat → Nat → Nat), ∀ (k : Nat) (q : vw_C), vwCl[k]? = some q → u_Kn s q.1 q.2.1 q.2.2 (dC k) (dI k) := by
    refine ⟨fun k => [c0, c1, c2, c3, c4, c5, c6, c7, c8].getD k c0, fun k => [iS0, iS1, iS2, iS3, iS4, iS5, iS6, iS7, iS8].getD k iS0, ?_⟩
    intro k q hq
    match k, hq with
    | 0, hq => cases hq; exact hKn0
    | 1, hq => cases hq; exact hKn1
    | 2, hq => cases hq; exact hKn2
    | 3, hq => cases hq; exact hKn3
    | 4, hq => cases hq; exact hKn4
    | 5, hq => cases hq; exact hKn5
    | 6, hq => cases hq; exact hKn6
    | 7, hq => cases hq; exact hKn7
    | 8, hq => cases hq; exact hKn8
    | k + 9, hq => simp [vwCl] at hq
  obtain ⟨i0, ha0⟩ := ws_arr (ty := .int) (fun _ h => by cases h) (hts _ (List.mem_filter.mp wa_int).1)
  obtain ⟨i1, ha1⟩ := ws_arr (ty := .boolean) (fun _ h => by cases h) (hts _ (List.mem_filter.mp wa_bool).1)
  obtain ⟨i2, ha2⟩ := ws_arrO (hts _ wt_aoUnit)
  obtain ⟨i3, ha3⟩ := ws_arrO (hts _ wt_aoImage)
  obtain ⟨i4, ha4⟩ := ws_arrO (hts _ wt_aoFrame)
  obtain ⟨ids, hids⟩ : ∃ ids : Nat → ClassId, ids = fun k => [i0, i1, i2, i3, i4].getD k i0 := ⟨_, rfl⟩
  have hK : va_K (dC, dI) vwCl (ty_z ids) s := by
    refine ⟨hKc, fun k q hq => ?_⟩
    subst hids
    match k, hq with
    | 0, hq => cases hq; exact ha0
    | 1, hq => cases hq; exact ha1
    | 2, hq => cases hq; exact ha2
    | 3, hq => cases hq; exact ha3
    | 4, hq => cases hq; exact ha4
    | k + 5, hq => simp [ty_z] at hq
  have hA : ∀ a : Nat, a < s.heap.size → ¬ (fun q : Nat => s.heap.size ≤ q) a := fun a h => Nat.not_le.mpr h
  obtain ⟨ps, hz1, hz2⟩ := ws_parts hgv hts hA
  have hZ : aw_Z (zs_T ps) (fun q : Nat => s.heap.size ≤ q) s := ⟨fun z hz => by cases List.mem_singleton.mp hz; exact ⟨hz1, hz2⟩, ws_nw hts⟩
  rw [lg_entry_eq]
  have C : aw_X0 l (dC, dI) (ty_z ids) (zs_T ps) room_1 code 4 "ModuleShelfLaw" lw_tbl (wl_E b L xs) (p, l, e, room_1, s, m, #[Value.ref b], below, meth, c, lw_Z below #[Value.ref b] s, (dC, dI), fun q : Nat => s.heap.size ≤ q, 4) := ⟨rfl, rfl, rfl, rfl, hx, hb, hml, hown, hts, hK, fun _ h => h, hlocks, hZ, hX, hbl, rfl, hr, rfl, fun _ h => h⟩
  have J : aw_J (p, l, e, room_1, s, m, #[Value.ref b], below, meth, c, lw_Z below #[Value.ref b] s, (dC, dI), fun q : Nat => s.heap.size ≤ q, 4) 0 0 [] [(0, .ref b)] 0 [] := by
    generalize (p, l, e, room_1, s, m, #[Value.ref b], below, meth, c, lw_Z below #[Value.ref b] s, (dC, dI), fun q : Nat => s.heap.size ≤ q, 4) = κ at C ⊢
    refine aw_new C (ci := 7) (fs := [.null, .null, .null, .null, .int 0, .int 0]) (fun w h => (List.mem_filter.mp (xi_S w h)).1) xk_S xo_S (List.mem_filter.mp cl_W_7).1 (List.mem_filter.mp ci_S).1 (List.mem_filter.mp wi_S).1 rfl (fun j hj => by rcases (show j = 0 ∨ j = 1 ∨ j = 2 ∨ j = 3 ∨ j = 4 ∨ j = 5 by omega) with rfl | rfl | rfl | rfl | rfl | rfl <;> rfl) (Nat.le_of_ble_eq_true rfl) (Nat.le_of_ble_eq_true rfl) xd_W_law_0 (fun q1 => ?_)
    refine aw_dup C xd_W_law_3 rfl ?_
    refine aw_callI C (xn_S_init q1) rfl (gw_law (gw_C xg_S_init)) (List.mem_filter.mp wi_S).1 (List.mem_filter.mp ml_W_9).1 (List.mem_filter.mp im_S_init).1 rfl na_S_init ⟨rfl, rfl, by decide, by decide⟩ ⟨Nat.le_of_ble_eq_true rfl, Nat.le_of_ble_eq_true rfl⟩ (Nat.le_of_ble_eq_true rfl) xd_W_law_4 (fun ad had => ?_)
    subst had
    refine aw_astore_n (L' := [(1, .ref (ad 0)), (0, .ref b)]) C xd_W_law_7 rfl (by decide) rfl ?_
    refine aw_new C (ci := 8) (fs := [.null, .null, .null, .null, .null, .null, .null, .null, .null, .null, .null, .null, .int 0, .int 0, .int 0, .int 0, .null, .null, .null, .null, .null, .null, .int 0, .null, .int 0, .null, .null, .null, .null]) (fun w h => (List.mem_filter.mp (xi_R w h)).1) xk_R xo_R (List.mem_filter.mp cl_W_10).1 (List.mem_filter.mp ci_R).1 (List.mem_filter.mp wi_R).1 rfl (fun j hj => by rcases (show j = 0 ∨ j = 1 ∨ j = 2 ∨ j = 3 ∨ j = 4 ∨ j = 5 ∨ j = 6 ∨ j = 7 ∨ j = 8 ∨ j = 9 ∨ j = 10 ∨ j = 11 ∨ j = 12 ∨ j = 13 ∨ j = 14 ∨ j = 15 ∨ j = 16 ∨ j = 17 ∨ j = 18 ∨ j = 19 ∨ j = 20 ∨ j = 21 ∨ j = 22 ∨ j = 23 ∨ j = 24 ∨ j = 25 ∨ j = 26 ∨ j = 27 ∨ j = 28 by omega) with rfl | rfl | rfl | rfl | rfl | rfl | rfl | rfl | rfl | rfl | rfl | rfl | rfl | rfl | rfl | rfl | rfl | rfl | rfl | rfl | rfl | rfl | rfl | rfl | rfl | rfl | rfl | rfl | rfl <;> rfl) (Nat.le_of_ble_eq_true rfl) (Nat.le_of_ble_eq_true rfl) xd_W_law_8 (fun q2 => ?_)
    refine aw_dup C xd_W_law_11 rfl ?_
    refine aw_callI C (xn_R_init q2) rfl (gw_law (gw_C xg_R_init)) (List.mem_filter.mp wi_R).1 (List.mem_filter.mp ml_W_12).1 (List.mem_filter.mp im_R_init).1 rfl na_R_init ⟨rfl, rfl, by decide, by decide⟩ ⟨Nat.le_of_ble_eq_true rfl, Nat.le_of_ble_eq_true rfl⟩ (Nat.le_of_ble_eq_true rfl) xd_W_law_12 (fun ar har => ?_)
    subst har
    refine aw_astore_n (L' := [(2, .ref (ar 0)), (1, .ref (ad 0)), (0, .ref b)]) C xd_W_law_15 rfl (by decide) rfl ?_
    refine aw_iconst (v := (0 : Int32)) C xd_W_law_16 (by decide) ?_
    refine aw_istore_n (L' := [(3, .int (0 : Int32)), (2, .ref (ar 0)), (1, .ref (ad 0)), (0, .ref b)]) C xd_W_law_17 rfl (by decide) rfl ?_
    refine aw_loc (L' := [(0, .ref b), (1, .ref (ad 0)), (2, .ref (ar 0)), (3, .int (0 : Int32))]) C [3, 2, 1, 0] rfl ?_
    exact wl_loop IV hs hL C (L + 2) 0 sg_0 sr_0 (by omega) (by omega) h0
  exact J s.heap [] _ (fun k q h => by simp at h) ⟨fun i j p q h => by simp at h, fun k q h => by simp at h⟩ va_S.rf (lv_entry [.ref b] (n := 4) (Nat.le_of_ble_eq_true rfl))
