set_option maxRecDepth 20000 in
theorem cl_W_7 : Cond.classLink "ModuleShelfLaw" 7 "ModuleShelf" ∈ gw_l := gw_of 44 (by rfl) rfl
set_option maxRecDepth 20000 in
theorem ci_S : Cond.instantiable "ModuleShelf" 6 ∈ gw_l := gw_of 45 (by rfl) rfl
set_option maxRecDepth 20000 in
theorem cl_S_7 : Cond.classLink "ModuleShelf" 7 "ModuleShelf$Code" ∈ gw_l := gw_of 52 (by rfl) rfl
set_option maxRecDepth 20000 in
theorem ci_C : Cond.instantiable "ModuleShelf$Code" 7 ∈ gw_l := gw_of 53 (by rfl) rfl
set_option maxRecDepth 20000 in
theorem cl_S_16 : Cond.classLink "ModuleShelf" 16 "ModuleShelf$Library" ∈ gw_l := gw_of 89 (by rfl) rfl
set_option maxRecDepth 20000 in
theorem ci_L : Cond.instantiable "ModuleShelf$Library" 3 ∈ gw_l := gw_of 90 (by rfl) rfl
set_option maxRecDepth 20000 in
theorem cl_L_9 : Cond.classLink "ModuleShelf$Library" 9 "ModuleShelf$Unit" ∈ gw_l := gw_of 95 (by rfl) rfl
set_option maxRecDepth 20000 in
theorem ci_U : Cond.instantiable "ModuleShelf$Unit" 6 ∈ gw_l := gw_of 97 (by rfl) rfl
set_option maxRecDepth 20000 in
theorem cl_U_18 : Cond.classLink "ModuleShelf$Unit" 18 "ModuleShelf$Code" ∈ gw_l := gw_of 102 (by rfl) rfl
set_option maxRecDepth 20000 in
theorem cl_S_23 : Cond.classLink "ModuleShelf" 23 "ModuleShelf$Memory" ∈ gw_l := gw_of 152 (by rfl) rfl
set_option maxRecDepth 20000 in
theorem ci_M : Cond.instantiable "ModuleShelf$Memory" 2 ∈ gw_l := gw_of 153 (by rfl) rfl
set_option maxRecDepth 20000 in
theorem cl_M_9 : Cond.classLink "ModuleShelf$Memory" 9 "ModuleShelf$Image" ∈ gw_l := gw_of 158 (by rfl) rfl
set_option maxRecDepth 20000 in
theorem ci_I : Cond.instantiable "ModuleShelf$Image" 2 ∈ gw_l := gw_of 160 (by rfl) rfl
set_option maxRecDepth 20000 in
theorem cl_I_9 : Cond.classLink "ModuleShelf$Image" 9 "ModuleShelf$Unit" ∈ gw_l := gw_of 165 (by rfl) rfl
set_option maxRecDepth 20000 in
theorem cl_S_30 : Cond.classLink "ModuleShelf" 30 "ModuleShelf$Machine" ∈ gw_l := gw_of 188 (by rfl) rfl
set_option maxRecDepth 20000 in
theorem ci_N : Cond.instantiable "ModuleShelf$Machine" 3 ∈ gw_l := gw_of 189 (by rfl) rfl
set_option maxRecDepth 20000 in
theorem cl_N_9 : Cond.classLink "ModuleShelf$Machine" 9 "ModuleShelf$Frame" ∈ gw_l := gw_of 194 (by rfl) rfl
set_option maxRecDepth 20000 in
theorem ci_F : Cond.instantiable "ModuleShelf$Frame" 5 ∈ gw_l := gw_of 196 (by rfl) rfl
set_option maxRecDepth 20000 in
theorem cl_W_10 : Cond.classLink "ModuleShelfLaw" 10 "ModuleShelfModel" ∈ gw_l := gw_of 522 (by rfl) rfl
set_option maxRecDepth 20000 in
theorem ci_R : Cond.instantiable "ModuleShelfModel" 29 ∈ gw_l := gw_of 523 (by rfl) rfl
set_option maxRecDepth 20000 in
theorem wo_inst : Cond.instanceMethod Lib.objectInit ∈ gw_l := gw_of 50 (by rfl) rfl
set_option maxRecDepth 20000 in
theorem wo_code : Cond.code Lib.objectInit ⟨#[0xb1]⟩ 1 none ∈ gw_l := gw_of 51 (by rfl) rfl
set_option maxRecDepth 20000 in
theorem wa_int : Cond.arrayClass .int ∈ gw_l := gw_of 88 (by rfl) rfl
set_option maxRecDepth 20000 in
theorem wa_bool : Cond.arrayClass .boolean ∈ gw_l := gw_of 178 (by rfl) rfl
def rm_N (d mc ms : Nat) : Room := { frames := d, cells := mc, slots := ms, locals := 40 * d }
theorem rn_lt {a b mc ms c2 s2 m : Nat} (h : a < b) (hm : m ≤ 21) : aw_rn (rm_N a mc ms) (rm_N b c2 s2) mc ms m := ⟨rfl, rfl, h, by show 8 + (m + 11) + 40 * a ≤ 40 * b; omega⟩
/-- the fresh cells b to b + n - 1 of the class -/
def cr_w (ids : Nat → ClassId) (b n : Nat) (u : Nat → Nat) : va_W := (List.range' b n).map (fun k => (u k, ly_k u ids k (fun _ => 0)))
theorem cr_C {ids : Nat → ClassId} {b : Nat} {u : Nat → Nat} (hb : kd_k b = 1) : cr_w ids b 6 u = [(u b, .inr (0, [.int 0, .int 0, .ref (u (b + 1)), .ref (u (b + 2)), .ref (u (b + 3)), .ref (u (b + 4)), .ref (u (b + 5))])), (u (b + 1), .inl (ids 0, 3, .inl (fun _ => 0))), (u (b + 2), .inl (ids 0, 3, .inl (fun _ => 0))), (u (b + 3), .inl (ids 0, 42, .inl (fun _ => 0))), (u (b + 4), .inl (ids 0, 42, .inl (fun _ => 0))), (u (b + 5), .inl (ids 0, 42, .inl (fun _ => 0)))] := by
  show [(u b, ly_k u ids b (fun _ => 0)), (u (b + 1), ly_k u ids (b + 1) (fun _ => 0)), (u (b + 2), ly_k u ids (b + 2) (fun _ => 0)), (u (b + 3), ly_k u ids (b + 3) (fun _ => 0)), (u (b + 4), ly_k u ids (b + 4) (fun _ => 0)), (u (b + 5), ly_k u ids (b + 5) (fun _ => 0))] = _
  rw [ly_C hb, ly_A3 (kf_C_arguments hb), ly_A3 (kf_C_lengths hb), ly_A42 (kf_C_ops hb), ly_A42 (kf_C_as hb), ly_A42 (kf_C_bs hb)]
theorem cr_U {ids : Nat → ClassId} {b : Nat} {u : Nat → Nat} (hb : kd_k b = 6) : cr_w ids b 9 u = [(u b, .inr (6, [.int 0, .int 0, .int 0, .ref (u (b + 1)), .ref (u (b + 2)), .ref (u (b + 3))])), (u (b + 1), .inl (ids 0, 6, .inl (fun _ => 0))), (u (b + 2), .inl (ids 0, 6, .inl (fun _ => 0)))] ++ cr_w ids (b + 3) 6 u := by
  show [(u b, ly_k u ids b (fun _ => 0)), (u (b + 1), ly_k u ids (b + 1) (fun _ => 0)), (u (b + 2), ly_k u ids (b + 2) (fun _ => 0))] ++ cr_w ids (b + 3) 6 u = _
  rw [ly_U hb, ly_A6 (kf_U_importModules hb), ly_A6 (kf_U_importKeys hb)]
theorem cr_I {ids : Nat → ClassId} {b : Nat} {u : Nat → Nat} (hb : kd_k b = 11) : cr_w ids b 11 u = [(u b, .inr (2, [.ref (u (b + 1)), .ref (u (b + 10))]))] ++ cr_w ids (b + 1) 9 u ++ [(u (b + 10), .inl (ids 0, 3, .inl (fun _ => 0)))] := by
  show [(u b, ly_k u ids b (fun _ => 0))] ++ cr_w ids (b + 1) 9 u ++ [(u (b + 10), ly_k u ids (b + 10) (fun _ => 0))] = _
  rw [ly_I hb, ly_A3 (kf_I_values hb)]
theorem cg_C {ids : Nat → ClassId} {b : Nat} {u v : Nat → Nat} (hb : kd_k b = 1) (h : ∀ j, b ≤ j → j < b + 6 → u j = v j) : cr_w ids b 6 u = cr_w ids b 6 v := by
  rw [cr_C hb, cr_C hb, h b (by omega) (by omega), h (b + 1) (by omega) (by omega), h (b + 2) (by omega) (by omega), h (b + 3) (by omega) (by omega), h (b + 4) (by omega) (by omega), h (b + 5) (by omega) (by omega)]
theorem cg_U {ids : Nat → ClassId} {b : Nat} {u v : Nat → Nat} (hb : kd_k b = 6) (h : ∀ j, b ≤ j → j < b + 9 → u j = v j) : cr_w ids b 9 u = cr_w ids b 9 v := by
  rw [cr_U hb, cr_U hb, h b (by omega) (by omega), h (b + 1) (by omega) (by omega), h (b + 2) (by omega) (by omega), h (b + 3) (by omega) (by omega), cg_C (kf_U_code hb) (fun j h1 h2 => h j (by omega) (by omega))]
theorem cg_I {ids : Nat → ClassId} {b : Nat} {u v : Nat → Nat} (hb : kd_k b = 11) (h : ∀ j, b ≤ j → j < b + 11 → u j = v j) : cr_w ids b 11 u = cr_w ids b 11 v := by
  rw [cr_I hb, cr_I hb, h b (by omega) (by omega), h (b + 1) (by omega) (by omega), h (b + 10) (by omega) (by omega), cg_U (kf_I_unit hb) (fun j h1 h2 => h j (by omega) (by omega))]
section AWZ
variable {l : Launch} {D : va_G} {tys : List (ClassId × FieldType)} {Zs : aw_T} {rm : Room} {cc : ByteArray} {n : Nat} {own : String} {Ts : List Cond} {E : aw_K → Prop} {κ : aw_K}
variable {cells slots : Nat} {w w' : va_W} {L L' : List (Nat × Value)} {pc : Nat} {S : List Value}
theorem vq_cong {cA : ClassId} {nn : Nat} {f g : Nat → Option Nat} (h : ∀ i, i < nn → f i = g i) : vp_cell cA (nn, .inr (.inr (.inr (.inr f)))) = vp_cell cA (nn, .inr (.inr (.inr (.inr g)))) := by
  rw [vp_cell_q, vp_cell_q]
  unfold arrV
  congr 1
  apply Array.ext
  · simp
  · intro i h1 h2
    simp at h1 h2 ⊢
    rw [h i h1]
/-- an array of references by another function that agrees within its length -/
theorem aw_arr (C : aw_X0 l D tys Zs rm cc n own Ts E κ) (q0 : Nat) {a : Nat} {cA : ClassId} {nn : Nat} {f g : Nat → Option Nat} (ha : w[q0]? = some (a, .inl (cA, nn, .inr (.inr (.inr (.inr f)))))) (h : ∀ i, i < nn → f i = g i) (hw' : w.set q0 (a, .inl (cA, nn, .inr (.inr (.inr (.inr g))))) = w') (kk : aw_J κ cells slots w' L pc S) : aw_J κ cells slots w L pc S := by
  obtain ⟨p, l0, e, R, s, m, args, below, meth, c, Q, D0, A, nL⟩ := κ
  intro H locs ls hP hD hS hl
  subst hw'
  exact kk H locs ls (hP.set hD ha (show H[a]? = some (vp_cell cA (nn, .inr (.inr (.inr (.inr g))))) by rw [← vq_cong h]; exact hP q0 _ ha) (fun _ _ => rfl)) (hD.set ha) hS hl
theorem aw_weq (h : w = w') (kk : aw_J κ cells slots w' L pc S) : aw_J κ cells slots w L pc S := h ▸ kk
end AWZ
