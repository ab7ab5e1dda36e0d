theorem xd_A_fill_0 : decode xb_A_fill 0 = .ok (.iconst 0, 1) := by decide +kernel
theorem xd_A_fill_1 : decode xb_A_fill 1 = .ok (.istore_n 2, 1) := by decide +kernel
theorem xd_A_fill_2 : decode xb_A_fill 2 = .ok (.aload_n 0, 1) := by decide +kernel
theorem xd_A_fill_3 : decode xb_A_fill 3 = .ok (.arraylength, 1) := by decide +kernel
theorem xd_A_fill_4 : decode xb_A_fill 4 = .ok (.istore_n 3, 1) := by decide +kernel
theorem xd_A_fill_5 : decode xb_A_fill 5 = .ok (.iload_n 2, 1) := by decide +kernel
theorem xd_A_fill_6 : decode xb_A_fill 6 = .ok (.iload_n 3, 1) := by decide +kernel
theorem xd_A_fill_7 : decode xb_A_fill 7 = .ok (.if_icmp .ge 13, 3) := by decide +kernel
theorem xd_A_fill_10 : decode xb_A_fill 10 = .ok (.aload_n 0, 1) := by decide +kernel
theorem xd_A_fill_11 : decode xb_A_fill 11 = .ok (.iload_n 2, 1) := by decide +kernel
theorem xd_A_fill_12 : decode xb_A_fill 12 = .ok (.iload_n 1, 1) := by decide +kernel
theorem xd_A_fill_13 : decode xb_A_fill 13 = .ok (.iastore, 1) := by decide +kernel
theorem xd_A_fill_14 : decode xb_A_fill 14 = .ok (.iinc 2 1, 3) := by decide +kernel
theorem xd_A_fill_17 : decode xb_A_fill 17 = .ok (.goto (-12), 3) := by decide +kernel
theorem xd_A_fill_20 : decode xb_A_fill 20 = .ok (.return_, 1) := by decide +kernel
theorem xd_F_open_0 : decode xb_F_open 0 = .ok (.aload_n 0, 1) := by decide +kernel
theorem xd_F_open_1 : decode xb_F_open 1 = .ok (.iload_n 1, 1) := by decide +kernel
theorem xd_F_open_2 : decode xb_F_open 2 = .ok (.putfield 7, 3) := by decide +kernel
theorem xd_F_open_5 : decode xb_F_open 5 = .ok (.aload_n 0, 1) := by decide +kernel
theorem xd_F_open_6 : decode xb_F_open 6 = .ok (.iload_n 2, 1) := by decide +kernel
theorem xd_F_open_7 : decode xb_F_open 7 = .ok (.putfield 13, 3) := by decide +kernel
theorem xd_F_open_10 : decode xb_F_open 10 = .ok (.aload_n 0, 1) := by decide +kernel
theorem xd_F_open_11 : decode xb_F_open 11 = .ok (.iload_n 3, 1) := by decide +kernel
theorem xd_F_open_12 : decode xb_F_open 12 = .ok (.putfield 16, 3) := by decide +kernel
theorem xd_F_open_15 : decode xb_F_open 15 = .ok (.aload_n 0, 1) := by decide +kernel
theorem xd_F_open_16 : decode xb_F_open 16 = .ok (.iload 4, 2) := by decide +kernel
theorem xd_F_open_18 : decode xb_F_open 18 = .ok (.putfield 19, 3) := by decide +kernel
theorem xd_F_open_21 : decode xb_F_open 21 = .ok (.aload_n 0, 1) := by decide +kernel
theorem xd_F_open_22 : decode xb_F_open 22 = .ok (.iconst 0, 1) := by decide +kernel
theorem xd_F_open_23 : decode xb_F_open 23 = .ok (.putfield 22, 3) := by decide +kernel
theorem xd_F_open_26 : decode xb_F_open 26 = .ok (.return_, 1) := by decide +kernel
theorem xd_U_hasImport_0 : decode xb_U_hasImport 0 = .ok (.iconst 0, 1) := by decide +kernel
theorem xd_U_hasImport_1 : decode xb_U_hasImport 1 = .ok (.istore_n 2, 1) := by decide +kernel
theorem xd_U_hasImport_2 : decode xb_U_hasImport 2 = .ok (.iload_n 2, 1) := by decide +kernel
theorem xd_U_hasImport_3 : decode xb_U_hasImport 3 = .ok (.aload_n 0, 1) := by decide +kernel
theorem xd_U_hasImport_4 : decode xb_U_hasImport 4 = .ok (.getfield 25, 3) := by decide +kernel
theorem xd_U_hasImport_7 : decode xb_U_hasImport 7 = .ok (.if_icmp .ge 21, 3) := by decide +kernel
theorem xd_U_hasImport_10 : decode xb_U_hasImport 10 = .ok (.aload_n 0, 1) := by decide +kernel
theorem xd_U_hasImport_11 : decode xb_U_hasImport 11 = .ok (.getfield 9, 3) := by decide +kernel
theorem xd_U_hasImport_14 : decode xb_U_hasImport 14 = .ok (.iload_n 2, 1) := by decide +kernel
theorem xd_U_hasImport_15 : decode xb_U_hasImport 15 = .ok (.iaload, 1) := by decide +kernel
theorem xd_U_hasImport_16 : decode xb_U_hasImport 16 = .ok (.iload_n 1, 1) := by decide +kernel
theorem xd_U_hasImport_17 : decode xb_U_hasImport 17 = .ok (.if_icmp .ne 5, 3) := by decide +kernel
theorem xd_U_hasImport_20 : decode xb_U_hasImport 20 = .ok (.iconst 1, 1) := by decide +kernel
theorem xd_U_hasImport_21 : decode xb_U_hasImport 21 = .ok (.ireturn, 1) := by decide +kernel
theorem xd_U_hasImport_22 : decode xb_U_hasImport 22 = .ok (.iinc 2 1, 3) := by decide +kernel
theorem xd_U_hasImport_25 : decode xb_U_hasImport 25 = .ok (.goto (-23), 3) := by decide +kernel
theorem xd_U_hasImport_28 : decode xb_U_hasImport 28 = .ok (.iconst 0, 1) := by decide +kernel
theorem xd_U_hasImport_29 : decode xb_U_hasImport 29 = .ok (.ireturn, 1) := by decide +kernel
theorem xd_U_addImport_0 : decode xb_U_addImport 0 = .ok (.aload_n 0, 1) := by decide +kernel
theorem xd_U_addImport_1 : decode xb_U_addImport 1 = .ok (.getfield 25, 3) := by decide +kernel
theorem xd_U_addImport_4 : decode xb_U_addImport 4 = .ok (.bipush 6, 2) := by decide +kernel
theorem xd_U_addImport_6 : decode xb_U_addImport 6 = .ok (.if_icmp .ge 41, 3) := by decide +kernel
theorem xd_U_addImport_9 : decode xb_U_addImport 9 = .ok (.aload_n 0, 1) := by decide +kernel
theorem xd_U_addImport_10 : decode xb_U_addImport 10 = .ok (.iload_n 1, 1) := by decide +kernel
theorem xd_U_addImport_11 : decode xb_U_addImport 11 = .ok (.invokevirtual 29, 3) := by decide +kernel
theorem xd_U_addImport_14 : decode xb_U_addImport 14 = .ok (.ifCond .ne 33, 3) := by decide +kernel
theorem xd_U_addImport_17 : decode xb_U_addImport 17 = .ok (.aload_n 0, 1) := by decide +kernel
theorem xd_U_addImport_18 : decode xb_U_addImport 18 = .ok (.getfield 9, 3) := by decide +kernel
theorem xd_U_addImport_21 : decode xb_U_addImport 21 = .ok (.aload_n 0, 1) := by decide +kernel
theorem xd_U_addImport_22 : decode xb_U_addImport 22 = .ok (.getfield 25, 3) := by decide +kernel
theorem xd_U_addImport_25 : decode xb_U_addImport 25 = .ok (.iload_n 1, 1) := by decide +kernel
theorem xd_U_addImport_26 : decode xb_U_addImport 26 = .ok (.iastore, 1) := by decide +kernel
theorem xd_U_addImport_27 : decode xb_U_addImport 27 = .ok (.aload_n 0, 1) := by decide +kernel
theorem xd_U_addImport_28 : decode xb_U_addImport 28 = .ok (.getfield 15, 3) := by decide +kernel
theorem xd_U_addImport_31 : decode xb_U_addImport 31 = .ok (.aload_n 0, 1) := by decide +kernel
theorem xd_U_addImport_32 : decode xb_U_addImport 32 = .ok (.getfield 25, 3) := by decide +kernel
theorem xd_U_addImport_35 : decode xb_U_addImport 35 = .ok (.iload_n 2, 1) := by decide +kernel
theorem xd_U_addImport_36 : decode xb_U_addImport 36 = .ok (.iastore, 1) := by decide +kernel
theorem xd_U_addImport_37 : decode xb_U_addImport 37 = .ok (.aload_n 0, 1) := by decide +kernel
theorem xd_U_addImport_38 : decode xb_U_addImport 38 = .ok (.dup, 1) := by decide +kernel
theorem xd_U_addImport_39 : decode xb_U_addImport 39 = .ok (.getfield 25, 3) := by decide +kernel
theorem xd_U_addImport_42 : decode xb_U_addImport 42 = .ok (.iconst 1, 1) := by decide +kernel
theorem xd_U_addImport_43 : decode xb_U_addImport 43 = .ok (.iadd, 1) := by decide +kernel
theorem xd_U_addImport_44 : decode xb_U_addImport 44 = .ok (.putfield 25, 3) := by decide +kernel
theorem xd_U_addImport_47 : decode xb_U_addImport 47 = .ok (.return_, 1) := by decide +kernel
theorem xd_U_copyFrom_0 : decode xb_U_copyFrom 0 = .ok (.aload_n 0, 1) := by decide +kernel
theorem xd_U_copyFrom_1 : decode xb_U_copyFrom 1 = .ok (.aload_n 1, 1) := by decide +kernel
theorem xd_U_copyFrom_2 : decode xb_U_copyFrom 2 = .ok (.getfield 33, 3) := by decide +kernel
theorem xd_U_copyFrom_5 : decode xb_U_copyFrom 5 = .ok (.putfield 33, 3) := by decide +kernel
theorem xd_U_copyFrom_8 : decode xb_U_copyFrom 8 = .ok (.aload_n 0, 1) := by decide +kernel
theorem xd_U_copyFrom_9 : decode xb_U_copyFrom 9 = .ok (.aload_n 1, 1) := by decide +kernel
theorem xd_U_copyFrom_10 : decode xb_U_copyFrom 10 = .ok (.getfield 37, 3) := by decide +kernel
theorem xd_U_copyFrom_13 : decode xb_U_copyFrom 13 = .ok (.putfield 37, 3) := by decide +kernel
theorem xd_U_copyFrom_16 : decode xb_U_copyFrom 16 = .ok (.aload_n 0, 1) := by decide +kernel
theorem xd_U_copyFrom_17 : decode xb_U_copyFrom 17 = .ok (.aload_n 1, 1) := by decide +kernel
theorem xd_U_copyFrom_18 : decode xb_U_copyFrom 18 = .ok (.getfield 25, 3) := by decide +kernel
theorem xd_U_copyFrom_21 : decode xb_U_copyFrom 21 = .ok (.putfield 25, 3) := by decide +kernel
theorem xd_U_copyFrom_24 : decode xb_U_copyFrom 24 = .ok (.aload_n 1, 1) := by decide +kernel
theorem xd_U_copyFrom_25 : decode xb_U_copyFrom 25 = .ok (.getfield 9, 3) := by decide +kernel
theorem xd_U_copyFrom_28 : decode xb_U_copyFrom 28 = .ok (.iconst 0, 1) := by decide +kernel
theorem xd_U_copyFrom_29 : decode xb_U_copyFrom 29 = .ok (.aload_n 0, 1) := by decide +kernel
theorem xd_U_copyFrom_30 : decode xb_U_copyFrom 30 = .ok (.getfield 9, 3) := by decide +kernel
theorem xd_U_copyFrom_33 : decode xb_U_copyFrom 33 = .ok (.iconst 0, 1) := by decide +kernel
theorem xd_U_copyFrom_34 : decode xb_U_copyFrom 34 = .ok (.bipush 6, 2) := by decide +kernel
theorem xd_U_copyFrom_36 : decode xb_U_copyFrom 36 = .ok (.invokestatic 40, 3) := by decide +kernel
theorem xd_U_copyFrom_39 : decode xb_U_copyFrom 39 = .ok (.aload_n 1, 1) := by decide +kernel
theorem xd_U_copyFrom_40 : decode xb_U_copyFrom 40 = .ok (.getfield 15, 3) := by decide +kernel
theorem xd_U_copyFrom_43 : decode xb_U_copyFrom 43 = .ok (.iconst 0, 1) := by decide +kernel
theorem xd_U_copyFrom_44 : decode xb_U_copyFrom 44 = .ok (.aload_n 0, 1) := by decide +kernel
theorem xd_U_copyFrom_45 : decode xb_U_copyFrom 45 = .ok (.getfield 15, 3) := by decide +kernel
theorem xd_U_copyFrom_48 : decode xb_U_copyFrom 48 = .ok (.iconst 0, 1) := by decide +kernel
theorem xd_U_copyFrom_49 : decode xb_U_copyFrom 49 = .ok (.bipush 6, 2) := by decide +kernel
theorem xd_U_copyFrom_51 : decode xb_U_copyFrom 51 = .ok (.invokestatic 40, 3) := by decide +kernel
theorem xd_U_copyFrom_54 : decode xb_U_copyFrom 54 = .ok (.aload_n 0, 1) := by decide +kernel
theorem xd_U_copyFrom_55 : decode xb_U_copyFrom 55 = .ok (.getfield 21, 3) := by decide +kernel
theorem xd_U_copyFrom_58 : decode xb_U_copyFrom 58 = .ok (.aload_n 1, 1) := by decide +kernel
theorem xd_U_copyFrom_59 : decode xb_U_copyFrom 59 = .ok (.getfield 21, 3) := by decide +kernel
theorem xd_U_copyFrom_62 : decode xb_U_copyFrom 62 = .ok (.invokevirtual 46, 3) := by decide +kernel
theorem xd_U_copyFrom_65 : decode xb_U_copyFrom 65 = .ok (.return_, 1) := by decide +kernel
theorem xd_I_fill_0 : decode xb_I_fill 0 = .ok (.aload_n 0, 1) := by decide +kernel
theorem xd_I_fill_1 : decode xb_I_fill 1 = .ok (.getfield 12, 3) := by decide +kernel
theorem xd_I_fill_4 : decode xb_I_fill 4 = .ok (.aload_n 1, 1) := by decide +kernel
theorem xd_I_fill_5 : decode xb_I_fill 5 = .ok (.invokevirtual 22, 3) := by decide +kernel
theorem xd_I_fill_8 : decode xb_I_fill 8 = .ok (.aload_n 0, 1) := by decide +kernel
theorem xd_I_fill_9 : decode xb_I_fill 9 = .ok (.getfield 18, 3) := by decide +kernel
theorem xd_I_fill_12 : decode xb_I_fill 12 = .ok (.iconst 0, 1) := by decide +kernel
theorem xd_I_fill_13 : decode xb_I_fill 13 = .ok (.invokestatic 26, 3) := by decide +kernel
theorem xd_I_fill_16 : decode xb_I_fill 16 = .ok (.return_, 1) := by decide +kernel
theorem xd_S_isModule_0 : decode xb_S_isModule 0 = .ok (.iload_n 0, 1) := by decide +kernel
theorem xd_S_isModule_1 : decode xb_S_isModule 1 = .ok (.ifCond .lt 13, 3) := by decide +kernel
theorem xd_S_isModule_4 : decode xb_S_isModule 4 = .ok (.iload_n 0, 1) := by decide +kernel
theorem xd_S_isModule_5 : decode xb_S_isModule 5 = .ok (.bipush 6, 2) := by decide +kernel
theorem xd_S_isModule_7 : decode xb_S_isModule 7 = .ok (.if_icmp .ge 7, 3) := by decide +kernel
theorem xd_S_isModule_10 : decode xb_S_isModule 10 = .ok (.iconst 1, 1) := by decide +kernel
theorem xd_S_isModule_11 : decode xb_S_isModule 11 = .ok (.goto 4, 3) := by decide +kernel
theorem xd_S_isModule_14 : decode xb_S_isModule 14 = .ok (.iconst 0, 1) := by decide +kernel
theorem xd_S_isModule_15 : decode xb_S_isModule 15 = .ok (.ireturn, 1) := by decide +kernel
section
variable {l : Launch} {D : va_G} {ad : Nat → Nat} {ids : Nat → ClassId} {ps : Nat}
def xq_A_fill_5  : Nat → aw_m → Nat → Int32 → Int32 → Int32 → Option aw_m
  | 0, _, _, _, _, _ => none
  | n + 1, σ, j0, v1, v2, v3 => (if v3 ≤ v2 then some σ else if aw_in v2 3 = true then aw_l (aw_p σ j0 (Int32.toNatClampNeg v2) v1) fun s_13 => xq_A_fill_5 n s_13 j0 v1 (v2 + (1 : Int32)) v3 else none)
def xm_A_fill (σ : aw_m) (k0 : Nat) (a1 : Int32) : Option aw_m := xq_A_fill_5 64 σ k0 a1 (0 : Int32) (3 : Int32)
set_option maxHeartbeats 4000000 in
set_option maxRecDepth 100000 in
theorem xl_A_fill_5  {κ : aw_K} (q : aw_m) (C : aw_X l D (ty_z ids) (zs_T ps) (rm_D (0)) xb_A_fill 4 "java/util/Arrays" (xw_A_fill :: gw_l) none none (cw_w ad ids q) κ) : ∀ (n : Nat) (σ : aw_m) (j0 : Nat) (v1 : Int32) (v2 : Int32) (v3 : Int32) (hj0 : kd_k j0 = 2), xq_A_fill_5 n σ j0 v1 v2 v3 = some q → aw_J κ 0 0 (cw_w ad ids σ) [(0, .ref (ad j0)), (1, .int v1), (2, .int v2), (3, .int v3)] 5 [] := by
  intro n
  induction n with
  | zero => intro σ j0 v1 v2 v3 hj0 hm; cases hm
  | succ n ih =>
    intro σ j0 v1 v2 v3 hj0 hm
    rw [xq_A_fill_5] at hm
    refine aw_iload_n C 2 xd_A_fill_5 rfl rfl ?_
    refine aw_iload_n C 3 xd_A_fill_6 rfl rfl ?_
    refine aw_icmp_ge (tgt := 20) C xd_A_fill_7 (by decide) (fun c_7 => ?_) (fun c_7 => ?_)
    · rw [if_pos c_7] at hm
      cases hm
      exact aw_vret C xd_A_fill_20
    · rw [if_neg c_7] at hm
      refine aw_aload_n C 0 xd_A_fill_10 rfl rfl ?_
      refine aw_iload_n C 2 xd_A_fill_11 rfl rfl ?_
      refine aw_iload_n C 1 xd_A_fill_12 rfl rfl ?_
      obtain ⟨g_13, hm⟩ := aw_grd hm
      obtain ⟨s_13, h_13, hm⟩ := aw_let hm
      refine aw_iast (σ1 := s_13) (g := upd (σ j0) (Int32.toNatClampNeg v2) v1) C j0 (kd_lt hj0) 0 (ly_A3 hj0) rfl (aw_in_ok g_13) (ly_A3 hj0) h_13 xd_A_fill_13 ?_
      refine aw_iinc (j := 2) (v := v2 + (1 : Int32)) (L' := [(2, .int (v2 + (1 : Int32))), (0, .ref (ad j0)), (1, .int v1), (3, .int v3)]) C xd_A_fill_14 rfl rfl (by decide) rfl ?_
      refine aw_goto (tgt := 5) C xd_A_fill_17 (by decide) ?_
      refine aw_loc (L' := [(0, .ref (ad j0)), (1, .int v1), (2, .int (v2 + (1 : Int32))), (3, .int v3)]) C [1, 2, 0, 3] rfl ?_
      exact ih s_13 j0 v1 (v2 + (1 : Int32)) v3 hj0 hm
set_option maxHeartbeats 4000000 in
set_option maxRecDepth 100000 in
theorem xc_A_fill (σ : aw_m) (k0 : Nat) (a1 : Int32) (q : aw_m) (hk0 : kd_k k0 = 2) (hm : xm_A_fill σ k0 a1 = some q) : aw_M l D (ty_z ids) (zs_T ps) xy_A_fill (xw_A_fill :: gw_l) (rm_D (0)) [.ref (ad k0), .int a1] (cw_w ad ids σ) none (cw_w ad ids q) := by
  refine aw_intro (cc := xb_A_fill) (n := 4) (ret := none) "java/util/Arrays" rfl (by decide) rfl (Nat.le_of_ble_eq_true rfl) ?_
  intro κ C
  unfold xm_A_fill at hm
  refine aw_iconst (v := (0 : Int32)) C xd_A_fill_0 (by decide) ?_
  refine aw_istore_n (L' := [(2, .int (0 : Int32)), (0, .ref (ad k0)), (1, .int a1)]) C xd_A_fill_1 rfl (by decide) rfl ?_
  refine aw_aload_n C 1 xd_A_fill_2 rfl rfl ?_
  refine aw_alen (v := (3 : Int32)) C k0 (kd_lt hk0) 0 (ly_A3 hk0) rfl rfl xd_A_fill_3 ?_
  refine aw_istore_n (L' := [(3, .int (3 : Int32)), (2, .int (0 : Int32)), (0, .ref (ad k0)), (1, .int a1)]) C xd_A_fill_4 rfl (by decide) rfl ?_
  refine aw_loc (L' := [(0, .ref (ad k0)), (1, .int a1), (2, .int (0 : Int32)), (3, .int (3 : Int32))]) C [2, 3, 1, 0] rfl ?_
  exact xl_A_fill_5 _ C 64 σ k0 a1 (0 : Int32) (3 : Int32) hk0 hm
def xm_F_open (σ : aw_m) (k0 : Nat) (a1 : Int32) (a2 : Int32) (a3 : Int32) (a4 : Int32) : Option aw_m := aw_l (aw_p σ k0 0 a1) fun s_2 => aw_l (aw_p s_2 k0 1 a2) fun s_7 => aw_l (aw_p s_7 k0 2 a3) fun s_12 => aw_l (aw_p s_12 k0 3 a4) fun s_18 => aw_l (aw_p s_18 k0 4 (0 : Int32)) fun s_23 => some s_23
set_option maxHeartbeats 4000000 in
set_option maxRecDepth 100000 in
theorem xc_F_open (σ : aw_m) (k0 : Nat) (a1 : Int32) (a2 : Int32) (a3 : Int32) (a4 : Int32) (q : aw_m) (hk0 : kd_k k0 = 14) (hm : xm_F_open σ k0 a1 a2 a3 a4 = some q) : aw_M l D (ty_z ids) (zs_T ps) xy_F_open (xw_F_open :: gw_l) (rm_D (0)) [.ref (ad k0), .int a1, .int a2, .int a3, .int a4] (cw_w ad ids σ) none (cw_w ad ids q) := by
  refine aw_intro (cc := xb_F_open) (n := 5) (ret := none) "ModuleShelf$Frame" rfl (by decide) rfl (Nat.le_of_ble_eq_true rfl) ?_
  intro κ C
  unfold xm_F_open at hm
  refine aw_aload_n C 0 xd_F_open_0 rfl rfl ?_
  refine aw_iload_n C 1 xd_F_open_1 rfl rfl ?_
  obtain ⟨s_2, h_2, hm⟩ := aw_let hm
  refine aw_put (σ1 := s_2) (f := upd (σ k0) 0 a1) C k0 (kd_lt hk0) (ly_F hk0) rfl (fun w h => List.mem_cons_of_mem _ (xi_F w h)) xk_F xo_F xn_F 0 (by decide) (List.mem_cons_of_mem _ fl_F_7) rfl (ty := .int) (by decide +kernel) rfl rfl (Nat.le_of_ble_eq_true rfl) (ly_F hk0) h_2 xd_F_open_2 ?_
  refine aw_aload_n C 0 xd_F_open_5 rfl rfl ?_
  refine aw_iload_n C 2 xd_F_open_6 rfl rfl ?_
  obtain ⟨s_7, h_7, hm⟩ := aw_let hm
  refine aw_put (σ1 := s_7) (f := upd (s_2 k0) 1 a2) C k0 (kd_lt hk0) (ly_F hk0) rfl (fun w h => List.mem_cons_of_mem _ (xi_F w h)) xk_F xo_F xn_F 1 (by decide) (List.mem_cons_of_mem _ fl_F_13) rfl (ty := .int) (by decide +kernel) rfl rfl (Nat.le_of_ble_eq_true rfl) (ly_F hk0) h_7 xd_F_open_7 ?_
  refine aw_aload_n C 0 xd_F_open_10 rfl rfl ?_
  refine aw_iload_n C 3 xd_F_open_11 rfl rfl ?_
  obtain ⟨s_12, h_12, hm⟩ := aw_let hm
  refine aw_put (σ1 := s_12) (f := upd (s_7 k0) 2 a3) C k0 (kd_lt hk0) (ly_F hk0) rfl (fun w h => List.mem_cons_of_mem _ (xi_F w h)) xk_F xo_F xn_F 2 (by decide) (List.mem_cons_of_mem _ fl_F_16) rfl (ty := .int) (by decide +kernel) rfl rfl (Nat.le_of_ble_eq_true rfl) (ly_F hk0) h_12 xd_F_open_12 ?_
  refine aw_aload_n C 0 xd_F_open_15 rfl rfl ?_
  refine aw_iload C 4 xd_F_open_16 rfl ?_
  obtain ⟨s_18, h_18, hm⟩ := aw_let hm
  refine aw_put (σ1 := s_18) (f := upd (s_12 k0) 3 a4) C k0 (kd_lt hk0) (ly_F hk0) rfl (fun w h => List.mem_cons_of_mem _ (xi_F w h)) xk_F xo_F xn_F 3 (by decide) (List.mem_cons_of_mem _ fl_F_19) rfl (ty := .int) (by decide +kernel) rfl rfl (Nat.le_of_ble_eq_true rfl) (ly_F hk0) h_18 xd_F_open_18 ?_
  refine aw_aload_n C 0 xd_F_open_21 rfl rfl ?_
  refine aw_iconst (v := (0 : Int32)) C xd_F_open_22 (by decide) ?_
  obtain ⟨s_23, h_23, hm⟩ := aw_let hm
  refine aw_put (σ1 := s_23) (f := upd (s_18 k0) 4 (0 : Int32)) C k0 (kd_lt hk0) (ly_F hk0) rfl (fun w h => List.mem_cons_of_mem _ (xi_F w h)) xk_F xo_F xn_F 4 (by decide) (List.mem_cons_of_mem _ fl_F_22) rfl (ty := .int) (by decide +kernel) rfl rfl (Nat.le_of_ble_eq_true rfl) (ly_F hk0) h_23 xd_F_open_23 ?_
  cases hm
  exact aw_vret C xd_F_open_26
def xq_U_hasImport_2 (σ : aw_m)  : Nat → Nat → Int32 → Int32 → Option Int32
  | 0, _, _, _ => none
  | n + 1, j0, v1, v2 => (if σ j0 2 ≤ v2 then some (0 : Int32) else if aw_in v2 6 = true then (if σ (j0 + 1) (Int32.toNatClampNeg v2) = v1 then some (1 : Int32) else xq_U_hasImport_2 σ n j0 v1 (v2 + (1 : Int32))) else none)
def xm_U_hasImport (σ : aw_m) (k0 : Nat) (a1 : Int32) : Option Int32 := xq_U_hasImport_2 σ 64 k0 a1 (0 : Int32)
set_option maxHeartbeats 4000000 in
set_option maxRecDepth 100000 in
theorem xl_U_hasImport_2 (σ : aw_m)  {κ : aw_K} (q : Int32) (C : aw_X l D (ty_z ids) (zs_T ps) (rm_D (0)) xb_U_hasImport 3 "ModuleShelf$Unit" (xw_U_hasImport :: gw_l) (some .boolean) (some (.int q)) (cw_w ad ids σ) κ) : ∀ (n : Nat) (j0 : Nat) (v1 : Int32) (v2 : Int32) (hj0 : kd_k j0 = 6), xq_U_hasImport_2 σ n j0 v1 v2 = some q → aw_J κ 0 0 (cw_w ad ids σ) [(0, .ref (ad j0)), (1, .int v1), (2, .int v2)] 2 [] := by
  intro n
  induction n with
  | zero => intro j0 v1 v2 hj0 hm; cases hm
  | succ n ih =>
    intro j0 v1 v2 hj0 hm
    rw [xq_U_hasImport_2] at hm
    refine aw_iload_n C 2 xd_U_hasImport_2 rfl rfl ?_
    refine aw_aload_n C 0 xd_U_hasImport_3 rfl rfl ?_
    refine aw_get C j0 (kd_lt hj0) (ly_U hj0) rfl (fun w h => List.mem_cons_of_mem _ (xi_U w h)) 2 (by decide) rfl (List.mem_cons_of_mem _ fl_U_25) xd_U_hasImport_4 ?_
    refine aw_icmp_ge (tgt := 28) C xd_U_hasImport_7 (by decide) (fun c_7 => ?_) (fun c_7 => ?_)
    · rw [if_pos c_7] at hm
      refine aw_iconst (v := (0 : Int32)) C xd_U_hasImport_28 (by decide) ?_
      cases hm
      exact aw_zret C (by decide) xd_U_hasImport_29
    · rw [if_neg c_7] at hm
      refine aw_aload_n C 0 xd_U_hasImport_10 rfl rfl ?_
      refine aw_get C j0 (kd_lt hj0) (ly_U hj0) rfl (fun w h => List.mem_cons_of_mem _ (xi_U w h)) 3 (by decide) rfl (List.mem_cons_of_mem _ fl_U_9) xd_U_hasImport_11 ?_
      refine aw_iload_n C 2 xd_U_hasImport_14 rfl rfl ?_
      obtain ⟨g_15, hm⟩ := aw_grd hm
      refine aw_iald C (j0 + 1) (kd_lt (kf_U_importModules hj0)) 0 (ly_A6 (kf_U_importModules hj0)) rfl (aw_in_ok g_15) xd_U_hasImport_15 ?_
      refine aw_iload_n C 1 xd_U_hasImport_16 rfl rfl ?_
      refine aw_icmp_ne (tgt := 22) C xd_U_hasImport_17 (by decide) (fun c_17 => ?_) (fun c_17 => ?_)
      · rw [if_neg c_17] at hm
        refine aw_iinc (j := 2) (v := v2 + (1 : Int32)) (L' := [(2, .int (v2 + (1 : Int32))), (0, .ref (ad j0)), (1, .int v1)]) C xd_U_hasImport_22 rfl rfl (by decide) rfl ?_
        refine aw_goto (tgt := 2) C xd_U_hasImport_25 (by decide) ?_
        refine aw_loc (L' := [(0, .ref (ad j0)), (1, .int v1), (2, .int (v2 + (1 : Int32)))]) C [1, 2, 0] rfl ?_
        exact ih j0 v1 (v2 + (1 : Int32)) hj0 hm
      · rw [if_pos c_17] at hm
        refine aw_iconst (v := (1 : Int32)) C xd_U_hasImport_20 (by decide) ?_
        cases hm
        exact aw_zret C (by decide) xd_U_hasImport_21
set_option maxHeartbeats 4000000 in
set_option maxRecDepth 100000 in
theorem xc_U_hasImport (σ : aw_m) (k0 : Nat) (a1 : Int32) (q : Int32) (hk0 : kd_k k0 = 6) (hm : xm_U_hasImport σ k0 a1 = some q) : aw_M l D (ty_z ids) (zs_T ps) xy_U_hasImport (xw_U_hasImport :: gw_l) (rm_D (0)) [.ref (ad k0), .int a1] (cw_w ad ids σ) (some (.int q)) (cw_w ad ids σ) := by
  refine aw_intro (cc := xb_U_hasImport) (n := 3) (ret := (some .boolean)) "ModuleShelf$Unit" rfl (by decide) rfl (Nat.le_of_ble_eq_true rfl) ?_
  intro κ C
  unfold xm_U_hasImport at hm
  refine aw_iconst (v := (0 : Int32)) C xd_U_hasImport_0 (by decide) ?_
  refine aw_istore_n (L' := [(2, .int (0 : Int32)), (0, .ref (ad k0)), (1, .int a1)]) C xd_U_hasImport_1 rfl (by decide) rfl ?_
  refine aw_loc (L' := [(0, .ref (ad k0)), (1, .int a1), (2, .int (0 : Int32))]) C [1, 2, 0] rfl ?_
  exact xl_U_hasImport_2 σ _ C 64 k0 a1 (0 : Int32) hk0 hm
def xm_U_addImport (σ : aw_m) (k0 : Nat) (a1 : Int32) (a2 : Int32) : Option aw_m := (if (6 : Int32) ≤ σ k0 2 then some σ else (xm_U_hasImport σ k0 a1).bind fun q_11 => (if q_11 = 0 then if aw_in (σ k0 2) 6 = true then aw_l (aw_p σ (k0 + 1) (Int32.toNatClampNeg (σ k0 2)) a1) fun s_26 => if aw_in (s_26 k0 2) 6 = true then aw_l (aw_p s_26 (k0 + 2) (Int32.toNatClampNeg (s_26 k0 2)) a2) fun s_36 => aw_l (aw_p s_36 k0 2 ((s_36 k0 2) + (1 : Int32))) fun s_44 => some s_44 else none else none else some σ))
set_option maxHeartbeats 4000000 in
set_option maxRecDepth 100000 in
theorem xc_U_addImport (σ : aw_m) (k0 : Nat) (a1 : Int32) (a2 : Int32) (q : aw_m) (hk0 : kd_k k0 = 6) (hm : xm_U_addImport σ k0 a1 a2 = some q) : aw_M l D (ty_z ids) (zs_T ps) xy_U_addImport (xw_U_addImport :: gw_l) (rm_D (1)) [.ref (ad k0), .int a1, .int a2] (cw_w ad ids σ) none (cw_w ad ids q) := by
  refine aw_intro (cc := xb_U_addImport) (n := 3) (ret := none) "ModuleShelf$Unit" rfl (by decide) rfl (Nat.le_of_ble_eq_true rfl) ?_
  intro κ C
  unfold xm_U_addImport at hm
  refine aw_aload_n C 0 xd_U_addImport_0 rfl rfl ?_
  refine aw_get C k0 (kd_lt hk0) (ly_U hk0) rfl (fun w h => List.mem_cons_of_mem _ (xi_U w h)) 2 (by decide) rfl (List.mem_cons_of_mem _ fl_U_25) xd_U_addImport_1 ?_
  refine aw_bipush (v := (6 : Int32)) C xd_U_addImport_4 (by decide) ?_
  refine aw_icmp_ge (tgt := 47) C xd_U_addImport_6 (by decide) (fun c_6 => ?_) (fun c_6 => ?_)
  · rw [if_pos c_6] at hm
    cases hm
    exact aw_vret C xd_U_addImport_47
  · rw [if_neg c_6] at hm
    refine aw_aload_n C 0 xd_U_addImport_9 rfl rfl ?_
    refine aw_iload_n C 1 xd_U_addImport_10 rfl rfl ?_
    obtain ⟨q_11, e_11, hm⟩ := aw_bnd hm
    refine aw_callVi (As := [.int a1]) (rest := []) (b := ad k0) C (xc_U_hasImport σ k0 a1 _ hk0 e_11) rfl (gw_sub (gw_V xg_U_hasImport ml_U_29 im_U_hasImport se_U_hasImport wi_U)) na_U_hasImport (rm_lt (by decide) (by decide)) ⟨Nat.zero_le _, Nat.zero_le _⟩ k0 (at_U hk0) rfl rfl (Nat.le_of_ble_eq_true rfl) xd_U_addImport_11 ?_
    refine aw_if_ne (tgt := 47) C xd_U_addImport_14 (by decide) (fun c_14 => ?_) (fun c_14 => ?_)
    · rw [if_neg c_14] at hm
      cases hm
      exact aw_vret C xd_U_addImport_47
    · rw [if_pos c_14] at hm
      refine aw_aload_n C 0 xd_U_addImport_17 rfl rfl ?_
      refine aw_get C k0 (kd_lt hk0) (ly_U hk0) rfl (fun w h => List.mem_cons_of_mem _ (xi_U w h)) 3 (by decide) rfl (List.mem_cons_of_mem _ fl_U_9) xd_U_addImport_18 ?_
      refine aw_aload_n C 0 xd_U_addImport_21 rfl rfl ?_
      refine aw_get C k0 (kd_lt hk0) (ly_U hk0) rfl (fun w h => List.mem_cons_of_mem _ (xi_U w h)) 2 (by decide) rfl (List.mem_cons_of_mem _ fl_U_25) xd_U_addImport_22 ?_
      refine aw_iload_n C 1 xd_U_addImport_25 rfl rfl ?_
      obtain ⟨g_26, hm⟩ := aw_grd hm
      obtain ⟨s_26, h_26, hm⟩ := aw_let hm
      refine aw_iast (σ1 := s_26) (g := upd (σ (k0 + 1)) (Int32.toNatClampNeg (σ k0 2)) a1) C (k0 + 1) (kd_lt (kf_U_importModules hk0)) 0 (ly_A6 (kf_U_importModules hk0)) rfl (aw_in_ok g_26) (ly_A6 (kf_U_importModules hk0)) h_26 xd_U_addImport_26 ?_
      refine aw_aload_n C 0 xd_U_addImport_27 rfl rfl ?_
      refine aw_get C k0 (kd_lt hk0) (ly_U hk0) rfl (fun w h => List.mem_cons_of_mem _ (xi_U w h)) 4 (by decide) rfl (List.mem_cons_of_mem _ fl_U_15) xd_U_addImport_28 ?_
      refine aw_aload_n C 0 xd_U_addImport_31 rfl rfl ?_
      refine aw_get C k0 (kd_lt hk0) (ly_U hk0) rfl (fun w h => List.mem_cons_of_mem _ (xi_U w h)) 2 (by decide) rfl (List.mem_cons_of_mem _ fl_U_25) xd_U_addImport_32 ?_
      refine aw_iload_n C 2 xd_U_addImport_35 rfl rfl ?_
      obtain ⟨g_36, hm⟩ := aw_grd hm
      obtain ⟨s_36, h_36, hm⟩ := aw_let hm
      refine aw_iast (σ1 := s_36) (g := upd (s_26 (k0 + 2)) (Int32.toNatClampNeg (s_26 k0 2)) a2) C (k0 + 2) (kd_lt (kf_U_importKeys hk0)) 0 (ly_A6 (kf_U_importKeys hk0)) rfl (aw_in_ok g_36) (ly_A6 (kf_U_importKeys hk0)) h_36 xd_U_addImport_36 ?_
      refine aw_aload_n C 0 xd_U_addImport_37 rfl rfl ?_
      refine aw_dup C xd_U_addImport_38 rfl ?_
      refine aw_get C k0 (kd_lt hk0) (ly_U hk0) rfl (fun w h => List.mem_cons_of_mem _ (xi_U w h)) 2 (by decide) rfl (List.mem_cons_of_mem _ fl_U_25) xd_U_addImport_39 ?_
      refine aw_iconst (v := (1 : Int32)) C xd_U_addImport_42 (by decide) ?_
      refine aw_iadd C xd_U_addImport_43 ?_
      obtain ⟨s_44, h_44, hm⟩ := aw_let hm
      refine aw_put (σ1 := s_44) (f := upd (s_36 k0) 2 ((s_36 k0 2) + (1 : Int32))) C k0 (kd_lt hk0) (ly_U hk0) rfl (fun w h => List.mem_cons_of_mem _ (xi_U w h)) xk_U xo_U xn_U 2 (by decide) (List.mem_cons_of_mem _ fl_U_25) rfl (ty := .int) (by decide +kernel) rfl rfl (Nat.le_of_ble_eq_true rfl) (ly_U hk0) h_44 xd_U_addImport_44 ?_
      cases hm
      exact aw_vret C xd_U_addImport_47
def xm_U_copyFrom (σ : aw_m) (k0 : Nat) (k1 : Nat) : Option aw_m := if σ k1 0 = 0 ∨ σ k1 0 = 1 then aw_l (aw_p σ k0 0 (σ k1 0)) fun s_5 => aw_l (aw_p s_5 k0 1 (s_5 k1 1)) fun s_13 => aw_l (aw_p s_13 k0 2 (s_13 k1 2)) fun s_21 => aw_l (aw_c s_21 (k1 + 1) (k0 + 1) 0 0 6) fun s_36 => aw_l (aw_c s_36 (k1 + 2) (k0 + 2) 0 0 6) fun s_51 => (xm_C_copyFrom s_51 (k0 + 3) (k1 + 3)).bind fun q_62 => some q_62 else none
set_option maxHeartbeats 4000000 in
set_option maxRecDepth 100000 in
theorem xc_U_copyFrom (σ : aw_m) (k0 : Nat) (k1 : Nat) (q : aw_m) (hk0 : kd_k k0 = 6) (hk1 : kd_k k1 = 6) (hm : xm_U_copyFrom σ k0 k1 = some q) : aw_M l D (ty_z ids) (zs_T ps) xy_U_copyFrom (xw_U_copyFrom :: gw_l) (rm_D (2)) [.ref (ad k0), .ref (ad k1)] (cw_w ad ids σ) none (cw_w ad ids q) := by
  refine aw_intro (cc := xb_U_copyFrom) (n := 2) (ret := none) "ModuleShelf$Unit" rfl (by decide) rfl (Nat.le_of_ble_eq_true rfl) ?_
  intro κ C
  unfold xm_U_copyFrom at hm
  refine aw_aload_n C 0 xd_U_copyFrom_0 rfl rfl ?_
  refine aw_aload_n C 1 xd_U_copyFrom_1 rfl rfl ?_
  refine aw_get C k1 (kd_lt hk1) (ly_U hk1) rfl (fun w h => List.mem_cons_of_mem _ (xi_U w h)) 0 (by decide) rfl (List.mem_cons_of_mem _ fl_U_33) xd_U_copyFrom_2 ?_
  obtain ⟨g_5, hm⟩ := aw_grd hm
  obtain ⟨s_5, h_5, hm⟩ := aw_let hm
  refine aw_put (σ1 := s_5) (f := upd (σ k0) 0 (σ k1 0)) C k0 (kd_lt hk0) (ly_U hk0) rfl (fun w h => List.mem_cons_of_mem _ (xi_U w h)) xk_U xo_U xn_U 0 (by decide) (List.mem_cons_of_mem _ fl_U_33) rfl (ty := .boolean) (by decide +kernel) (by rcases g_5 with g | g <;> rw [g] <;> rfl) (by rcases g_5 with g | g <;> rw [g] <;> rfl) (Nat.le_of_ble_eq_true rfl) (ly_U hk0) h_5 xd_U_copyFrom_5 ?_
  refine aw_aload_n C 0 xd_U_copyFrom_8 rfl rfl ?_
  refine aw_aload_n C 1 xd_U_copyFrom_9 rfl rfl ?_
  refine aw_get C k1 (kd_lt hk1) (ly_U hk1) rfl (fun w h => List.mem_cons_of_mem _ (xi_U w h)) 1 (by decide) rfl (List.mem_cons_of_mem _ fl_U_37) xd_U_copyFrom_10 ?_
  obtain ⟨s_13, h_13, hm⟩ := aw_let hm
  refine aw_put (σ1 := s_13) (f := upd (s_5 k0) 1 (s_5 k1 1)) C k0 (kd_lt hk0) (ly_U hk0) rfl (fun w h => List.mem_cons_of_mem _ (xi_U w h)) xk_U xo_U xn_U 1 (by decide) (List.mem_cons_of_mem _ fl_U_37) rfl (ty := .int) (by decide +kernel) rfl rfl (Nat.le_of_ble_eq_true rfl) (ly_U hk0) h_13 xd_U_copyFrom_13 ?_
  refine aw_aload_n C 0 xd_U_copyFrom_16 rfl rfl ?_
  refine aw_aload_n C 1 xd_U_copyFrom_17 rfl rfl ?_
  refine aw_get C k1 (kd_lt hk1) (ly_U hk1) rfl (fun w h => List.mem_cons_of_mem _ (xi_U w h)) 2 (by decide) rfl (List.mem_cons_of_mem _ fl_U_25) xd_U_copyFrom_18 ?_
  obtain ⟨s_21, h_21, hm⟩ := aw_let hm
  refine aw_put (σ1 := s_21) (f := upd (s_13 k0) 2 (s_13 k1 2)) C k0 (kd_lt hk0) (ly_U hk0) rfl (fun w h => List.mem_cons_of_mem _ (xi_U w h)) xk_U xo_U xn_U 2 (by decide) (List.mem_cons_of_mem _ fl_U_25) rfl (ty := .int) (by decide +kernel) rfl rfl (Nat.le_of_ble_eq_true rfl) (ly_U hk0) h_21 xd_U_copyFrom_21 ?_
  refine aw_aload_n C 1 xd_U_copyFrom_24 rfl rfl ?_
  refine aw_get C k1 (kd_lt hk1) (ly_U hk1) rfl (fun w h => List.mem_cons_of_mem _ (xi_U w h)) 3 (by decide) rfl (List.mem_cons_of_mem _ fl_U_9) xd_U_copyFrom_25 ?_
  refine aw_iconst (v := (0 : Int32)) C xd_U_copyFrom_28 (by decide) ?_
  refine aw_aload_n C 0 xd_U_copyFrom_29 rfl rfl ?_
  refine aw_get C k0 (kd_lt hk0) (ly_U hk0) rfl (fun w h => List.mem_cons_of_mem _ (xi_U w h)) 3 (by decide) rfl (List.mem_cons_of_mem _ fl_U_9) xd_U_copyFrom_30 ?_
  refine aw_iconst (v := (0 : Int32)) C xd_U_copyFrom_33 (by decide) ?_
  refine aw_bipush (v := (6 : Int32)) C xd_U_copyFrom_34 (by decide) ?_
  obtain ⟨s_36, h_36, hm⟩ := aw_let hm
  refine aw_copy (σ1 := s_36) (h := va_cpy (s_21 (k1 + 1)) (s_21 (k0 + 1)) 0 0 6) C (k1 + 1) (k0 + 1) (kd_lt (kf_U_importModules hk1)) (kd_lt (kf_U_importModules hk0)) 0 (ly_A6 (kf_U_importModules hk1)) (ly_A6 (kf_U_importModules hk0)) rfl (List.mem_cons_of_mem _ ml_U_40) (List.mem_cons_of_mem _ wn_copy) (List.mem_cons_of_mem _ ws_copy) (List.mem_cons_of_mem _ wi_sys) (by decide) (by decide) (by decide) (by decide) (by decide) (by decide) (by decide) (ly_A6 (kf_U_importModules hk0)) h_36 xd_U_copyFrom_36 ?_
  refine aw_aload_n C 1 xd_U_copyFrom_39 rfl rfl ?_
  refine aw_get C k1 (kd_lt hk1) (ly_U hk1) rfl (fun w h => List.mem_cons_of_mem _ (xi_U w h)) 4 (by decide) rfl (List.mem_cons_of_mem _ fl_U_15) xd_U_copyFrom_40 ?_
  refine aw_iconst (v := (0 : Int32)) C xd_U_copyFrom_43 (by decide) ?_
  refine aw_aload_n C 0 xd_U_copyFrom_44 rfl rfl ?_
  refine aw_get C k0 (kd_lt hk0) (ly_U hk0) rfl (fun w h => List.mem_cons_of_mem _ (xi_U w h)) 4 (by decide) rfl (List.mem_cons_of_mem _ fl_U_15) xd_U_copyFrom_45 ?_
  refine aw_iconst (v := (0 : Int32)) C xd_U_copyFrom_48 (by decide) ?_
  refine aw_bipush (v := (6 : Int32)) C xd_U_copyFrom_49 (by decide) ?_
  obtain ⟨s_51, h_51, hm⟩ := aw_let hm
  refine aw_copy (σ1 := s_51) (h := va_cpy (s_36 (k1 + 2)) (s_36 (k0 + 2)) 0 0 6) C (k1 + 2) (k0 + 2) (kd_lt (kf_U_importKeys hk1)) (kd_lt (kf_U_importKeys hk0)) 0 (ly_A6 (kf_U_importKeys hk1)) (ly_A6 (kf_U_importKeys hk0)) rfl (List.mem_cons_of_mem _ ml_U_40) (List.mem_cons_of_mem _ wn_copy) (List.mem_cons_of_mem _ ws_copy) (List.mem_cons_of_mem _ wi_sys) (by decide) (by decide) (by decide) (by decide) (by decide) (by decide) (by decide) (ly_A6 (kf_U_importKeys hk0)) h_51 xd_U_copyFrom_51 ?_
  refine aw_aload_n C 0 xd_U_copyFrom_54 rfl rfl ?_
  refine aw_get C k0 (kd_lt hk0) (ly_U hk0) rfl (fun w h => List.mem_cons_of_mem _ (xi_U w h)) 5 (by decide) rfl (List.mem_cons_of_mem _ fl_U_21) xd_U_copyFrom_55 ?_
  refine aw_aload_n C 1 xd_U_copyFrom_58 rfl rfl ?_
  refine aw_get C k1 (kd_lt hk1) (ly_U hk1) rfl (fun w h => List.mem_cons_of_mem _ (xi_U w h)) 5 (by decide) rfl (List.mem_cons_of_mem _ fl_U_21) xd_U_copyFrom_59 ?_
  obtain ⟨q_62, e_62, hm⟩ := aw_bnd hm
  refine aw_callVv (As := [.ref (ad (k1 + 3))]) (rest := []) (b := ad (k0 + 3)) C (xc_C_copyFrom s_51 (k0 + 3) (k1 + 3) _ (kf_U_code hk0) (kf_U_code hk1) e_62) rfl (gw_sub (gw_V xg_C_copyFrom ml_U_46 im_C_copyFrom se_C_copyFrom wi_C)) na_C_copyFrom (rm_lt (by decide) (by decide)) ⟨Nat.zero_le _, Nat.zero_le _⟩ (k0 + 3) (at_C (kf_U_code hk0)) rfl rfl (Nat.le_of_ble_eq_true rfl) xd_U_copyFrom_62 ?_
  cases hm
  exact aw_vret C xd_U_copyFrom_65
def xm_I_fill (σ : aw_m) (k0 : Nat) (k1 : Nat) : Option aw_m := (xm_U_copyFrom σ (k0 + 1) k1).bind fun q_5 => (xm_A_fill q_5 (k0 + 10) (0 : Int32)).bind fun q_13 => some q_13
set_option maxHeartbeats 4000000 in
set_option maxRecDepth 100000 in
theorem xc_I_fill (σ : aw_m) (k0 : Nat) (k1 : Nat) (q : aw_m) (hk0 : kd_k k0 = 11) (hk1 : kd_k k1 = 6) (hm : xm_I_fill σ k0 k1 = some q) : aw_M l D (ty_z ids) (zs_T ps) xy_I_fill (xw_I_fill :: gw_l) (rm_D (3)) [.ref (ad k0), .ref (ad k1)] (cw_w ad ids σ) none (cw_w ad ids q) := by
  refine aw_intro (cc := xb_I_fill) (n := 2) (ret := none) "ModuleShelf$Image" rfl (by decide) rfl (Nat.le_of_ble_eq_true rfl) ?_
  intro κ C
  unfold xm_I_fill at hm
  refine aw_aload_n C 0 xd_I_fill_0 rfl rfl ?_
  refine aw_get C k0 (kd_lt hk0) (ly_I hk0) rfl (fun w h => List.mem_cons_of_mem _ (xi_I w h)) 0 (by decide) rfl (List.mem_cons_of_mem _ fl_I_12) xd_I_fill_1 ?_
  refine aw_aload_n C 1 xd_I_fill_4 rfl rfl ?_
  obtain ⟨q_5, e_5, hm⟩ := aw_bnd hm
  refine aw_callVv (As := [.ref (ad k1)]) (rest := []) (b := ad (k0 + 1)) C (xc_U_copyFrom σ (k0 + 1) k1 _ (kf_I_unit hk0) hk1 e_5) rfl (gw_sub (gw_V xg_U_copyFrom ml_I_22 im_U_copyFrom se_U_copyFrom wi_U)) na_U_copyFrom (rm_lt (by decide) (by decide)) ⟨Nat.zero_le _, Nat.zero_le _⟩ (k0 + 1) (at_U (kf_I_unit hk0)) rfl rfl (Nat.le_of_ble_eq_true rfl) xd_I_fill_5 ?_
  refine aw_aload_n C 0 xd_I_fill_8 rfl rfl ?_
  refine aw_get C k0 (kd_lt hk0) (ly_I hk0) rfl (fun w h => List.mem_cons_of_mem _ (xi_I w h)) 1 (by decide) rfl (List.mem_cons_of_mem _ fl_I_18) xd_I_fill_9 ?_
  refine aw_iconst (v := (0 : Int32)) C xd_I_fill_12 (by decide) ?_
  obtain ⟨q_13, e_13, hm⟩ := aw_bnd hm
  refine aw_callSv (As := [.ref (ad (k0 + 10)), .int (0 : Int32)]) (rest := []) C (xc_A_fill q_5 (k0 + 10) (0 : Int32) _ (kf_I_values hk0) e_13) rfl (gw_sub (gw_S xg_A_fill ml_I_26 st_A_fill wi_A)) na_A_fill (rm_lt (by decide) (by decide)) ⟨Nat.zero_le _, Nat.zero_le _⟩ rfl (Nat.le_of_ble_eq_true rfl) xd_I_fill_13 ?_
  cases hm
  exact aw_vret C xd_I_fill_16
def xm_S_isModule (σ : aw_m) (a0 : Int32) : Option Int32 := (if a0 < 0 then some (0 : Int32) else (if (6 : Int32) ≤ a0 then some (0 : Int32) else some (1 : Int32)))
set_option maxHeartbeats 4000000 in
set_option maxRecDepth 100000 in
theorem xc_S_isModule (σ : aw_m) (a0 : Int32) (q : Int32)  (hm : xm_S_isModule σ a0 = some q) : aw_M l D (ty_z ids) (zs_T ps) xy_S_isModule (xw_S_isModule :: gw_l) (rm_D (0)) [.int a0] (cw_w ad ids σ) (some (.int q)) (cw_w ad ids σ) := by
  refine aw_intro (cc := xb_S_isModule) (n := 1) (ret := (some .boolean)) "ModuleShelf" rfl (by decide) rfl (Nat.le_of_ble_eq_true rfl) ?_
  intro κ C
  unfold xm_S_isModule at hm
  refine aw_iload_n C 0 xd_S_isModule_0 rfl rfl ?_
  refine aw_if_lt (tgt := 14) C xd_S_isModule_1 (by decide) (fun c_1 => ?_) (fun c_1 => ?_)
  · rw [if_pos c_1] at hm
    refine aw_iconst (v := (0 : Int32)) C xd_S_isModule_14 (by decide) ?_
    cases hm
    exact aw_zret C (by decide) xd_S_isModule_15
  · rw [if_neg c_1] at hm
    refine aw_iload_n C 0 xd_S_isModule_4 rfl rfl ?_
    refine aw_bipush (v := (6 : Int32)) C xd_S_isModule_5 (by decide) ?_
    refine aw_icmp_ge (tgt := 14) C xd_S_isModule_7 (by decide) (fun c_7 => ?_) (fun c_7 => ?_)
    · rw [if_pos c_7] at hm
      refine aw_iconst (v := (0 : Int32)) C xd_S_isModule_14 (by decide) ?_
      cases hm
      exact aw_zret C (by decide) xd_S_isModule_15
    · rw [if_neg c_7] at hm
      refine aw_iconst (v := (1 : Int32)) C xd_S_isModule_10 (by decide) ?_
      refine aw_goto (tgt := 15) C xd_S_isModule_11 (by decide) ?_
      cases hm
      exact aw_zret C (by decide) xd_S_isModule_15
end
