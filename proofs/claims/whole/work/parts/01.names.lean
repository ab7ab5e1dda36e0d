-- ===== PART A: goes FIRST, ahead of the names: the tables' words, and 'selects' of the private methods out of them =====
/-- a private method of a class that the tables say can be made, by its rows of tables_1 -/
def lw_okq (q : MethodName × Nat) : Prop := (q.1.cls ≠ "java/lang/invoke/MethodHandle" ∧ q.1.cls ≠ "java/lang/invoke/VarHandle") ∧ Cond.instantiable q.1.cls q.2 ∈ tables_1 ∧ Cond.privateMethod q.1 ∈ tables_1 ∧ Cond.instanceMethod q.1 ∈ tables_1
theorem lw_p0 : lw_okq (⟨"ModuleShelf$Library", "isExpression", "(LModuleShelf$Code;III)Z"⟩, 3) := ⟨⟨by decide +kernel, by decide +kernel⟩, List.mem_of_getElem? (i := 59) (by decide +kernel), List.mem_of_getElem? (i := 262) (by decide +kernel), List.mem_of_getElem? (i := 263) (by decide +kernel)⟩
theorem lw_p1 : lw_okq (⟨"ModuleShelf$Library", "isRight", "(LModuleShelf$Code;III)Z"⟩, 3) := ⟨⟨by decide +kernel, by decide +kernel⟩, List.mem_of_getElem? (i := 59) (by decide +kernel), List.mem_of_getElem? (i := 275) (by decide +kernel), List.mem_of_getElem? (i := 276) (by decide +kernel)⟩
theorem lw_p2 : lw_okq (⟨"ModuleShelf$Library", "argumentsOf", "(LModuleShelf$Code;III)I"⟩, 3) := ⟨⟨by decide +kernel, by decide +kernel⟩, List.mem_of_getElem? (i := 59) (by decide +kernel), List.mem_of_getElem? (i := 292) (by decide +kernel), List.mem_of_getElem? (i := 293) (by decide +kernel)⟩
theorem lw_p3 : lw_okq (⟨"ModuleShelf$Library", "partsOf", "(LModuleShelf$Code;II)I"⟩, 3) := ⟨⟨by decide +kernel, by decide +kernel⟩, List.mem_of_getElem? (i := 59) (by decide +kernel), List.mem_of_getElem? (i := 296) (by decide +kernel), List.mem_of_getElem? (i := 297) (by decide +kernel)⟩
theorem lw_p4 : lw_okq (⟨"ModuleShelf$Library", "gatherImports", "(LModuleShelf$Unit;I)V"⟩, 3) := ⟨⟨by decide +kernel, by decide +kernel⟩, List.mem_of_getElem? (i := 59) (by decide +kernel), List.mem_of_getElem? (i := 317) (by decide +kernel), List.mem_of_getElem? (i := 318) (by decide +kernel)⟩
theorem lw_p5 : lw_okq (⟨"ModuleShelf$Memory", "bringOne", "(LModuleShelf$Library;II)I"⟩, 2) := ⟨⟨by decide +kernel, by decide +kernel⟩, List.mem_of_getElem? (i := 122) (by decide +kernel), List.mem_of_getElem? (i := 355) (by decide +kernel), List.mem_of_getElem? (i := 356) (by decide +kernel)⟩
theorem lw_p6 : lw_okq (⟨"ModuleShelf$Memory", "dropBegun", "()V"⟩, 2) := ⟨⟨by decide +kernel, by decide +kernel⟩, List.mem_of_getElem? (i := 122) (by decide +kernel), List.mem_of_getElem? (i := 381) (by decide +kernel), List.mem_of_getElem? (i := 382) (by decide +kernel)⟩
theorem lw_p7 : lw_okq (⟨"ModuleShelf$Machine", "work", "(LModuleShelf$Memory;II)I"⟩, 3) := ⟨⟨by decide +kernel, by decide +kernel⟩, List.mem_of_getElem? (i := 158) (by decide +kernel), List.mem_of_getElem? (i := 412) (by decide +kernel), List.mem_of_getElem? (i := 413) (by decide +kernel)⟩
theorem lw_p8 : lw_okq (⟨"ModuleShelf$Machine", "fail", "(I)I"⟩, 3) := ⟨⟨by decide +kernel, by decide +kernel⟩, List.mem_of_getElem? (i := 158) (by decide +kernel), List.mem_of_getElem? (i := 417) (by decide +kernel), List.mem_of_getElem? (i := 418) (by decide +kernel)⟩
theorem lw_p9 : lw_okq (⟨"ModuleShelf$Machine", "assign", "(LModuleShelf$Memory;III)I"⟩, 3) := ⟨⟨by decide +kernel, by decide +kernel⟩, List.mem_of_getElem? (i := 158) (by decide +kernel), List.mem_of_getElem? (i := 427) (by decide +kernel), List.mem_of_getElem? (i := 428) (by decide +kernel)⟩
theorem lw_p10 : lw_okq (⟨"ModuleShelf$Machine", "choose", "(LModuleShelf$Memory;II)I"⟩, 3) := ⟨⟨by decide +kernel, by decide +kernel⟩, List.mem_of_getElem? (i := 158) (by decide +kernel), List.mem_of_getElem? (i := 435) (by decide +kernel), List.mem_of_getElem? (i := 436) (by decide +kernel)⟩
theorem lw_p11 : lw_okq (⟨"ModuleShelf$Machine", "skip", "(LModuleShelf$Memory;LModuleShelf$Frame;)V"⟩, 3) := ⟨⟨by decide +kernel, by decide +kernel⟩, List.mem_of_getElem? (i := 158) (by decide +kernel), List.mem_of_getElem? (i := 439) (by decide +kernel), List.mem_of_getElem? (i := 440) (by decide +kernel)⟩
theorem lw_p12 : lw_okq (⟨"ModuleShelf$Machine", "enter", "(LModuleShelf$Memory;IIII)I"⟩, 3) := ⟨⟨by decide +kernel, by decide +kernel⟩, List.mem_of_getElem? (i := 158) (by decide +kernel), List.mem_of_getElem? (i := 448) (by decide +kernel), List.mem_of_getElem? (i := 449) (by decide +kernel)⟩
theorem lw_p13 : lw_okq (⟨"ModuleShelf$Machine", "combine", "(LModuleShelf$Memory;III)I"⟩, 3) := ⟨⟨by decide +kernel, by decide +kernel⟩, List.mem_of_getElem? (i := 158) (by decide +kernel), List.mem_of_getElem? (i := 452) (by decide +kernel), List.mem_of_getElem? (i := 453) (by decide +kernel)⟩
theorem lw_p14 : lw_okq (⟨"ModuleShelfModel", "firstWrong", "(II)I"⟩, 29) := ⟨⟨by decide +kernel, by decide +kernel⟩, List.mem_of_getElem? (i := 492) (by decide +kernel), List.mem_of_getElem? (i := 605) (by decide +kernel), List.mem_of_getElem? (i := 606) (by decide +kernel)⟩
theorem lw_p15 : lw_okq (⟨"ModuleShelfModel", "partsOf", "(III)I"⟩, 29) := ⟨⟨by decide +kernel, by decide +kernel⟩, List.mem_of_getElem? (i := 492) (by decide +kernel), List.mem_of_getElem? (i := 609) (by decide +kernel), List.mem_of_getElem? (i := 610) (by decide +kernel)⟩
def lw_privs_1 : List (MethodName × Nat) := [(⟨"ModuleShelf$Library", "isExpression", "(LModuleShelf$Code;III)Z"⟩, 3), (⟨"ModuleShelf$Library", "isRight", "(LModuleShelf$Code;III)Z"⟩, 3), (⟨"ModuleShelf$Library", "argumentsOf", "(LModuleShelf$Code;III)I"⟩, 3), (⟨"ModuleShelf$Library", "partsOf", "(LModuleShelf$Code;II)I"⟩, 3), (⟨"ModuleShelf$Library", "gatherImports", "(LModuleShelf$Unit;I)V"⟩, 3), (⟨"ModuleShelf$Memory", "bringOne", "(LModuleShelf$Library;II)I"⟩, 2), (⟨"ModuleShelf$Memory", "dropBegun", "()V"⟩, 2), (⟨"ModuleShelf$Machine", "work", "(LModuleShelf$Memory;II)I"⟩, 3), (⟨"ModuleShelf$Machine", "fail", "(I)I"⟩, 3), (⟨"ModuleShelf$Machine", "assign", "(LModuleShelf$Memory;III)I"⟩, 3), (⟨"ModuleShelf$Machine", "choose", "(LModuleShelf$Memory;II)I"⟩, 3), (⟨"ModuleShelf$Machine", "skip", "(LModuleShelf$Memory;LModuleShelf$Frame;)V"⟩, 3), (⟨"ModuleShelf$Machine", "enter", "(LModuleShelf$Memory;IIII)I"⟩, 3), (⟨"ModuleShelf$Machine", "combine", "(LModuleShelf$Memory;III)I"⟩, 3), (⟨"ModuleShelfModel", "firstWrong", "(II)I"⟩, 29), (⟨"ModuleShelfModel", "partsOf", "(III)I"⟩, 29)]
theorem lw_r1 : ∀ q ∈ lw_privs_1, lw_okq q := List.forall_mem_cons.mpr ⟨lw_p0, List.forall_mem_cons.mpr ⟨lw_p1, List.forall_mem_cons.mpr ⟨lw_p2, List.forall_mem_cons.mpr ⟨lw_p3, List.forall_mem_cons.mpr ⟨lw_p4, List.forall_mem_cons.mpr ⟨lw_p5, List.forall_mem_cons.mpr ⟨lw_p6, List.forall_mem_cons.mpr ⟨lw_p7, List.forall_mem_cons.mpr ⟨lw_p8, List.forall_mem_cons.mpr ⟨lw_p9, List.forall_mem_cons.mpr ⟨lw_p10, List.forall_mem_cons.mpr ⟨lw_p11, List.forall_mem_cons.mpr ⟨lw_p12, List.forall_mem_cons.mpr ⟨lw_p13, List.forall_mem_cons.mpr ⟨lw_p14, List.forall_mem_cons.mpr ⟨lw_p15, fun _ h => absurd h List.not_mem_nil⟩⟩⟩⟩⟩⟩⟩⟩⟩⟩⟩⟩⟩⟩⟩⟩
theorem lw_p16 : lw_okq (⟨"ModuleShelfModel", "seen", "(II)I"⟩, 29) := ⟨⟨by decide +kernel, by decide +kernel⟩, List.mem_of_getElem? (i := 492) (by decide +kernel), List.mem_of_getElem? (i := 613) (by decide +kernel), List.mem_of_getElem? (i := 614) (by decide +kernel)⟩
theorem lw_p17 : lw_okq (⟨"ModuleShelfModel", "findImports", "(I)V"⟩, 29) := ⟨⟨by decide +kernel, by decide +kernel⟩, List.mem_of_getElem? (i := 492) (by decide +kernel), List.mem_of_getElem? (i := 617) (by decide +kernel), List.mem_of_getElem? (i := 618) (by decide +kernel)⟩
theorem lw_p18 : lw_okq (⟨"ModuleShelfModel", "alike", "(I)Z"⟩, 29) := ⟨⟨by decide +kernel, by decide +kernel⟩, List.mem_of_getElem? (i := 492) (by decide +kernel), List.mem_of_getElem? (i := 621) (by decide +kernel), List.mem_of_getElem? (i := 622) (by decide +kernel)⟩
theorem lw_p19 : lw_okq (⟨"ModuleShelfModel", "copy", "(II)V"⟩, 29) := ⟨⟨by decide +kernel, by decide +kernel⟩, List.mem_of_getElem? (i := 492) (by decide +kernel), List.mem_of_getElem? (i := 625) (by decide +kernel), List.mem_of_getElem? (i := 626) (by decide +kernel)⟩
theorem lw_p20 : lw_okq (⟨"ModuleShelfModel", "begins", "(II)I"⟩, 29) := ⟨⟨by decide +kernel, by decide +kernel⟩, List.mem_of_getElem? (i := 492) (by decide +kernel), List.mem_of_getElem? (i := 641) (by decide +kernel), List.mem_of_getElem? (i := 642) (by decide +kernel)⟩
theorem lw_p21 : lw_okq (⟨"ModuleShelfModel", "cells", "(I)I"⟩, 29) := ⟨⟨by decide +kernel, by decide +kernel⟩, List.mem_of_getElem? (i := 492) (by decide +kernel), List.mem_of_getElem? (i := 645) (by decide +kernel), List.mem_of_getElem? (i := 646) (by decide +kernel)⟩
theorem lw_p22 : lw_okq (⟨"ModuleShelfModel", "allCells", "()I"⟩, 29) := ⟨⟨by decide +kernel, by decide +kernel⟩, List.mem_of_getElem? (i := 492) (by decide +kernel), List.mem_of_getElem? (i := 649) (by decide +kernel), List.mem_of_getElem? (i := 650) (by decide +kernel)⟩
theorem lw_p23 : lw_okq (⟨"ModuleShelfModel", "enter", "(IIIII)V"⟩, 29) := ⟨⟨by decide +kernel, by decide +kernel⟩, List.mem_of_getElem? (i := 492) (by decide +kernel), List.mem_of_getElem? (i := 661) (by decide +kernel), List.mem_of_getElem? (i := 662) (by decide +kernel)⟩
theorem lw_p24 : lw_okq (⟨"ModuleShelfModel", "push", "(III)V"⟩, 29) := ⟨⟨by decide +kernel, by decide +kernel⟩, List.mem_of_getElem? (i := 492) (by decide +kernel), List.mem_of_getElem? (i := 665) (by decide +kernel), List.mem_of_getElem? (i := 666) (by decide +kernel)⟩
theorem lw_p25 : lw_okq (⟨"ModuleShelfModel", "begin", "(II)V"⟩, 29) := ⟨⟨by decide +kernel, by decide +kernel⟩, List.mem_of_getElem? (i := 492) (by decide +kernel), List.mem_of_getElem? (i := 669) (by decide +kernel), List.mem_of_getElem? (i := 670) (by decide +kernel)⟩
theorem lw_p26 : lw_okq (⟨"ModuleShelfModel", "give", "(I)V"⟩, 29) := ⟨⟨by decide +kernel, by decide +kernel⟩, List.mem_of_getElem? (i := 492) (by decide +kernel), List.mem_of_getElem? (i := 673) (by decide +kernel), List.mem_of_getElem? (i := 674) (by decide +kernel)⟩
theorem lw_p27 : lw_okq (⟨"ModuleShelfModel", "end", "(I)I"⟩, 29) := ⟨⟨by decide +kernel, by decide +kernel⟩, List.mem_of_getElem? (i := 492) (by decide +kernel), List.mem_of_getElem? (i := 677) (by decide +kernel), List.mem_of_getElem? (i := 678) (by decide +kernel)⟩
theorem lw_p28 : lw_okq (⟨"ModuleShelfModel", "parts", "(I)I"⟩, 29) := ⟨⟨by decide +kernel, by decide +kernel⟩, List.mem_of_getElem? (i := 492) (by decide +kernel), List.mem_of_getElem? (i := 681) (by decide +kernel), List.mem_of_getElem? (i := 682) (by decide +kernel)⟩
theorem lw_p29 : lw_okq (⟨"ModuleShelfModel", "use", "(II)I"⟩, 29) := ⟨⟨by decide +kernel, by decide +kernel⟩, List.mem_of_getElem? (i := 492) (by decide +kernel), List.mem_of_getElem? (i := 685) (by decide +kernel), List.mem_of_getElem? (i := 686) (by decide +kernel)⟩
theorem lw_p30 : lw_okq (⟨"ModuleShelfModel", "take", "()I"⟩, 29) := ⟨⟨by decide +kernel, by decide +kernel⟩, List.mem_of_getElem? (i := 492) (by decide +kernel), List.mem_of_getElem? (i := 689) (by decide +kernel), List.mem_of_getElem? (i := 690) (by decide +kernel)⟩
def lw_privs_2 : List (MethodName × Nat) := [(⟨"ModuleShelfModel", "seen", "(II)I"⟩, 29), (⟨"ModuleShelfModel", "findImports", "(I)V"⟩, 29), (⟨"ModuleShelfModel", "alike", "(I)Z"⟩, 29), (⟨"ModuleShelfModel", "copy", "(II)V"⟩, 29), (⟨"ModuleShelfModel", "begins", "(II)I"⟩, 29), (⟨"ModuleShelfModel", "cells", "(I)I"⟩, 29), (⟨"ModuleShelfModel", "allCells", "()I"⟩, 29), (⟨"ModuleShelfModel", "enter", "(IIIII)V"⟩, 29), (⟨"ModuleShelfModel", "push", "(III)V"⟩, 29), (⟨"ModuleShelfModel", "begin", "(II)V"⟩, 29), (⟨"ModuleShelfModel", "give", "(I)V"⟩, 29), (⟨"ModuleShelfModel", "end", "(I)I"⟩, 29), (⟨"ModuleShelfModel", "parts", "(I)I"⟩, 29), (⟨"ModuleShelfModel", "use", "(II)I"⟩, 29), (⟨"ModuleShelfModel", "take", "()I"⟩, 29)]
theorem lw_r2 : ∀ q ∈ lw_privs_2, lw_okq q := List.forall_mem_cons.mpr ⟨lw_p16, List.forall_mem_cons.mpr ⟨lw_p17, List.forall_mem_cons.mpr ⟨lw_p18, List.forall_mem_cons.mpr ⟨lw_p19, List.forall_mem_cons.mpr ⟨lw_p20, List.forall_mem_cons.mpr ⟨lw_p21, List.forall_mem_cons.mpr ⟨lw_p22, List.forall_mem_cons.mpr ⟨lw_p23, List.forall_mem_cons.mpr ⟨lw_p24, List.forall_mem_cons.mpr ⟨lw_p25, List.forall_mem_cons.mpr ⟨lw_p26, List.forall_mem_cons.mpr ⟨lw_p27, List.forall_mem_cons.mpr ⟨lw_p28, List.forall_mem_cons.mpr ⟨lw_p29, List.forall_mem_cons.mpr ⟨lw_p30, fun _ h => absurd h List.not_mem_nil⟩⟩⟩⟩⟩⟩⟩⟩⟩⟩⟩⟩⟩⟩⟩
def lw_privs : List (MethodName × Nat) := lw_privs_1 ++ (lw_privs_2)
def lw_tbl : List Cond := k2_sels lw_privs ++ tables_1
theorem lw_privs_ok : ∀ q ∈ lw_privs, lw_okq q := by
  show ∀ q ∈ lw_privs_1 ++ (lw_privs_2), lw_okq q
  exact List.forall_mem_append.mpr ⟨lw_r1, lw_r2⟩
/-- the words that a callee may take from its caller: all good ones of the tables -/
def gw_l : List Cond := lw_tbl.filter goodWord
theorem gw_of {w : Cond} (i : Nat) (h : lw_tbl[i]? = some w) (hg : goodWord w = true) : w ∈ gw_l := List.mem_filter.mpr ⟨List.mem_of_getElem? h, hg⟩
theorem gw_sub {c : Cond} {ws : List Cond} (h : ∀ w ∈ ws, w ∈ gw_l) : GoodIn (c :: gw_l) ws := fun w hw => ⟨List.mem_cons_of_mem _ (h w hw), good_of_word (List.mem_filter.mp (h w hw)).2⟩
theorem gw_law {ws : List Cond} (h : ∀ w ∈ ws, w ∈ gw_l) : GoodIn lw_tbl ws := fun w hw => ⟨(List.mem_filter.mp (h w hw)).1, good_of_word (List.mem_filter.mp (h w hw)).2⟩
theorem gw_C {c : Cond} (h : c ∈ gw_l) : ∀ w ∈ c :: gw_l, w ∈ gw_l := fun w hw => (List.mem_cons.mp hw).elim (fun e => e ▸ h) id
theorem gw_V {c : Cond} {own C : String} {k : Nat} {y : MethodName} (h : c ∈ gw_l) (h1 : Cond.methodLink own k y ∈ gw_l) (h2 : Cond.instanceMethod y ∈ gw_l) (h3 : Cond.selects C y y ∈ gw_l) (h4 : Cond.initialized C ∈ gw_l) : ∀ w ∈ wsV own k C y (c :: gw_l), w ∈ gw_l := by
  intro w hw
  unfold wsV at hw
  rcases List.mem_append.mp hw with hw | hw
  · simp only [List.mem_cons, List.not_mem_nil, or_false] at hw
    rcases hw with rfl | rfl | rfl | rfl <;> assumption
  · exact gw_C h w hw
theorem gw_S {c : Cond} {own : String} {k : Nat} {y : MethodName} (h : c ∈ gw_l) (h1 : Cond.methodLink own k y ∈ gw_l) (h2 : Cond.static y ∈ gw_l) (h4 : Cond.initialized y.cls ∈ gw_l) : ∀ w ∈ va_wsS own k y (c :: gw_l), w ∈ gw_l := by
  intro w hw
  unfold va_wsS at hw
  rcases List.mem_append.mp hw with hw | hw
  · simp only [List.mem_cons, List.not_mem_nil, or_false] at hw
    rcases hw with rfl | rfl | rfl <;> assumption
  · exact gw_C h w hw
def xr_C : String := "ModuleShelf$Code"
def xt_C : u_T := fun k => match k with
  | 0 => ("ModuleShelf$Code", "variables", "I", false)
  | 1 => ("ModuleShelf$Code", "procedures", "I", false)
  | 2 => ("ModuleShelf$Code", "arguments", "[I", true)
  | 3 => ("ModuleShelf$Code", "lengths", "[I", true)
  | 4 => ("ModuleShelf$Code", "ops", "[I", true)
  | 5 => ("ModuleShelf$Code", "as", "[I", true)
  | _ => ("ModuleShelf$Code", "bs", "[I", true)
def xk_C : Nat → FieldType := fun k => match k with
  | 0 => .int
  | 1 => .int
  | 2 => .array .int
  | 3 => .array .int
  | 4 => .array .int
  | 5 => .array .int
  | _ => .array .int
theorem xn_C : ∀ a, a < 7 → ∀ b, b < 7 → a ≠ b → (xt_C a).2.1 ≠ (xt_C b).2.1 := by decide +kernel
theorem xo_C : ∀ k, k < 7 → parseFieldDescriptor (xt_C k).2.2.1 = some (xk_C k) := by decide +kernel
def xr_F : String := "ModuleShelf$Frame"
def xt_F : u_T := fun k => match k with
  | 0 => ("ModuleShelf$Frame", "module", "I", false)
  | 1 => ("ModuleShelf$Frame", "procedure", "I", false)
  | 2 => ("ModuleShelf$Frame", "x", "I", false)
  | 3 => ("ModuleShelf$Frame", "y", "I", false)
  | _ => ("ModuleShelf$Frame", "at", "I", false)
def xk_F : Nat → FieldType := fun k => match k with
  | 0 => .int
  | 1 => .int
  | 2 => .int
  | 3 => .int
  | _ => .int
theorem xn_F : ∀ a, a < 5 → ∀ b, b < 5 → a ≠ b → (xt_F a).2.1 ≠ (xt_F b).2.1 := by decide +kernel
theorem xo_F : ∀ k, k < 5 → parseFieldDescriptor (xt_F k).2.2.1 = some (xk_F k) := by decide +kernel
def xr_I : String := "ModuleShelf$Image"
def xt_I : u_T := fun k => match k with
  | 0 => ("ModuleShelf$Image", "unit", "LModuleShelf$Unit;", true)
  | _ => ("ModuleShelf$Image", "values", "[I", true)
def xk_I : Nat → FieldType := fun k => match k with
  | 0 => .object "ModuleShelf$Unit"
  | _ => .array .int
theorem xn_I : ∀ a, a < 2 → ∀ b, b < 2 → a ≠ b → (xt_I a).2.1 ≠ (xt_I b).2.1 := by decide +kernel
theorem xo_I : ∀ k, k < 2 → parseFieldDescriptor (xt_I k).2.2.1 = some (xk_I k) := by decide +kernel
def xr_L : String := "ModuleShelf$Library"
def xt_L : u_T := fun k => match k with
  | 0 => ("ModuleShelf$Library", "units", "[LModuleShelf$Unit;", true)
  | 1 => ("ModuleShelf$Library", "keysGiven", "I", false)
  | _ => ("ModuleShelf$Library", "at", "I", false)
def xk_L : Nat → FieldType := fun k => match k with
  | 0 => .array (.object "ModuleShelf$Unit")
  | 1 => .int
  | _ => .int
theorem xn_L : ∀ a, a < 3 → ∀ b, b < 3 → a ≠ b → (xt_L a).2.1 ≠ (xt_L b).2.1 := by decide +kernel
theorem xo_L : ∀ k, k < 3 → parseFieldDescriptor (xt_L k).2.2.1 = some (xk_L k) := by decide +kernel
def xr_N : String := "ModuleShelf$Machine"
def xt_N : u_T := fun k => match k with
  | 0 => ("ModuleShelf$Machine", "frames", "[LModuleShelf$Frame;", true)
  | 1 => ("ModuleShelf$Machine", "stepsBegun", "I", false)
  | _ => ("ModuleShelf$Machine", "fault", "I", false)
def xk_N : Nat → FieldType := fun k => match k with
  | 0 => .array (.object "ModuleShelf$Frame")
  | 1 => .int
  | _ => .int
theorem xn_N : ∀ a, a < 3 → ∀ b, b < 3 → a ≠ b → (xt_N a).2.1 ≠ (xt_N b).2.1 := by decide +kernel
theorem xo_N : ∀ k, k < 3 → parseFieldDescriptor (xt_N k).2.2.1 = some (xk_N k) := by decide +kernel
def xr_M : String := "ModuleShelf$Memory"
def xt_M : u_T := fun k => match k with
  | 0 => ("ModuleShelf$Memory", "images", "[LModuleShelf$Image;", true)
  | _ => ("ModuleShelf$Memory", "begun", "[Z", true)
def xk_M : Nat → FieldType := fun k => match k with
  | 0 => .array (.object "ModuleShelf$Image")
  | _ => .array .boolean
theorem xn_M : ∀ a, a < 2 → ∀ b, b < 2 → a ≠ b → (xt_M a).2.1 ≠ (xt_M b).2.1 := by decide +kernel
theorem xo_M : ∀ k, k < 2 → parseFieldDescriptor (xt_M k).2.2.1 = some (xk_M k) := by decide +kernel
def xr_U : String := "ModuleShelf$Unit"
def xt_U : u_T := fun k => match k with
  | 0 => ("ModuleShelf$Unit", "present", "Z", false)
  | 1 => ("ModuleShelf$Unit", "key", "I", false)
  | 2 => ("ModuleShelf$Unit", "imports", "I", false)
  | 3 => ("ModuleShelf$Unit", "importModules", "[I", true)
  | 4 => ("ModuleShelf$Unit", "importKeys", "[I", true)
  | _ => ("ModuleShelf$Unit", "code", "LModuleShelf$Code;", true)
def xk_U : Nat → FieldType := fun k => match k with
  | 0 => .boolean
  | 1 => .int
  | 2 => .int
  | 3 => .array .int
  | 4 => .array .int
  | _ => .object "ModuleShelf$Code"
theorem xn_U : ∀ a, a < 6 → ∀ b, b < 6 → a ≠ b → (xt_U a).2.1 ≠ (xt_U b).2.1 := by decide +kernel
theorem xo_U : ∀ k, k < 6 → parseFieldDescriptor (xt_U k).2.2.1 = some (xk_U k) := by decide +kernel
def xr_S : String := "ModuleShelf"
def xt_S : u_T := fun k => match k with
  | 0 => ("ModuleShelf", "draft", "LModuleShelf$Code;", true)
  | 1 => ("ModuleShelf", "library", "LModuleShelf$Library;", true)
  | 2 => ("ModuleShelf", "memory", "LModuleShelf$Memory;", true)
  | 3 => ("ModuleShelf", "machine", "LModuleShelf$Machine;", true)
  | 4 => ("ModuleShelf", "wrongPlace", "I", false)
  | _ => ("ModuleShelf", "lastValue", "I", false)
def xk_S : Nat → FieldType := fun k => match k with
  | 0 => .object "ModuleShelf$Code"
  | 1 => .object "ModuleShelf$Library"
  | 2 => .object "ModuleShelf$Memory"
  | 3 => .object "ModuleShelf$Machine"
  | 4 => .int
  | _ => .int
theorem xn_S : ∀ a, a < 6 → ∀ b, b < 6 → a ≠ b → (xt_S a).2.1 ≠ (xt_S b).2.1 := by decide +kernel
theorem xo_S : ∀ k, k < 6 → parseFieldDescriptor (xt_S k).2.2.1 = some (xk_S k) := by decide +kernel
def xr_R : String := "ModuleShelfModel"
def xt_R : u_T := fun k => match k with
  | 0 => ("ModuleShelfModel", "key", "[I", true)
  | 1 => ("ModuleShelfModel", "variables", "[I", true)
  | 2 => ("ModuleShelfModel", "procedures", "[I", true)
  | 3 => ("ModuleShelfModel", "arguments", "[I", true)
  | 4 => ("ModuleShelfModel", "size", "[I", true)
  | 5 => ("ModuleShelfModel", "op", "[I", true)
  | 6 => ("ModuleShelfModel", "a", "[I", true)
  | 7 => ("ModuleShelfModel", "b", "[I", true)
  | 8 => ("ModuleShelfModel", "imports", "[I", true)
  | 9 => ("ModuleShelfModel", "importOf", "[I", true)
  | 10 => ("ModuleShelfModel", "importKey", "[I", true)
  | 11 => ("ModuleShelfModel", "value", "[I", true)
  | 12 => ("ModuleShelfModel", "given", "I", false)
  | 13 => ("ModuleShelfModel", "place", "I", false)
  | 14 => ("ModuleShelfModel", "result", "I", false)
  | 15 => ("ModuleShelfModel", "steps", "I", false)
  | 16 => ("ModuleShelfModel", "loading", "[I", true)
  | 17 => ("ModuleShelfModel", "next", "[I", true)
  | 18 => ("ModuleShelfModel", "left", "[I", true)
  | 19 => ("ModuleShelfModel", "task", "[I", true)
  | 20 => ("ModuleShelfModel", "where", "[I", true)
  | 21 => ("ModuleShelfModel", "frame", "[I", true)
  | 22 => ("ModuleShelfModel", "tasks", "I", false)
  | 23 => ("ModuleShelfModel", "values", "[I", true)
  | 24 => ("ModuleShelfModel", "held", "I", false)
  | 25 => ("ModuleShelfModel", "frameModule", "[I", true)
  | 26 => ("ModuleShelfModel", "frameProcedure", "[I", true)
  | 27 => ("ModuleShelfModel", "frameX", "[I", true)
  | _ => ("ModuleShelfModel", "frameY", "[I", true)
def xk_R : Nat → FieldType := fun k => match k with
  | 0 => .array .int
  | 1 => .array .int
  | 2 => .array .int
  | 3 => .array .int
  | 4 => .array .int
  | 5 => .array .int
  | 6 => .array .int
  | 7 => .array .int
  | 8 => .array .int
  | 9 => .array .int
  | 10 => .array .int
  | 11 => .array .int
  | 12 => .int
  | 13 => .int
  | 14 => .int
  | 15 => .int
  | 16 => .array .int
  | 17 => .array .int
  | 18 => .array .int
  | 19 => .array .int
  | 20 => .array .int
  | 21 => .array .int
  | 22 => .int
  | 23 => .array .int
  | 24 => .int
  | 25 => .array .int
  | 26 => .array .int
  | 27 => .array .int
  | _ => .array .int
theorem xn_R : ∀ a, a < 29 → ∀ b, b < 29 → a ≠ b → (xt_R a).2.1 ≠ (xt_R b).2.1 := by decide +kernel
theorem xo_R : ∀ k, k < 29 → parseFieldDescriptor (xt_R k).2.2.1 = some (xk_R k) := by decide +kernel
abbrev vwCl : List vw_C := [(xr_C, xt_C, 7), (xr_F, xt_F, 5), (xr_I, xt_I, 2), (xr_L, xt_L, 3), (xr_N, xt_N, 3), (xr_M, xt_M, 2), (xr_U, xt_U, 6), (xr_S, xt_S, 6), (xr_R, xt_R, 29)]
set_option maxRecDepth 20000 in
theorem xi_C : ∀ w ∈ u_ws xr_C xt_C 7, w ∈ gw_l := by decide +kernel
set_option maxRecDepth 20000 in
theorem xi_F : ∀ w ∈ u_ws xr_F xt_F 5, w ∈ gw_l := by decide +kernel
set_option maxRecDepth 20000 in
theorem xi_I : ∀ w ∈ u_ws xr_I xt_I 2, w ∈ gw_l := by decide +kernel
set_option maxRecDepth 20000 in
theorem xi_L : ∀ w ∈ u_ws xr_L xt_L 3, w ∈ gw_l := by decide +kernel
set_option maxRecDepth 20000 in
theorem xi_N : ∀ w ∈ u_ws xr_N xt_N 3, w ∈ gw_l := by decide +kernel
set_option maxRecDepth 20000 in
theorem xi_M : ∀ w ∈ u_ws xr_M xt_M 2, w ∈ gw_l := by decide +kernel
set_option maxRecDepth 20000 in
theorem xi_U : ∀ w ∈ u_ws xr_U xt_U 6, w ∈ gw_l := by decide +kernel
set_option maxRecDepth 20000 in
theorem xi_S : ∀ w ∈ u_ws xr_S xt_S 6, w ∈ gw_l := by decide +kernel
set_option maxRecDepth 20000 in
theorem xi_R : ∀ w ∈ u_ws xr_R xt_R 29, w ∈ gw_l := by decide +kernel
abbrev xb_S_init : ByteArray := prog_1_method_1_code
def xy_S_init : MethodName := ⟨"ModuleShelf", "<init>", "()V"⟩
abbrev xw_S_init : Cond := .code xy_S_init xb_S_init 1 none
set_option maxRecDepth 20000 in
theorem xg_S_init : xw_S_init ∈ gw_l := gw_of 48 (by rfl) rfl
abbrev xb_C_init : ByteArray := prog_2_method_1_code
def xy_C_init : MethodName := ⟨"ModuleShelf$Code", "<init>", "()V"⟩
abbrev xw_C_init : Cond := .code xy_C_init xb_C_init 1 none
set_option maxRecDepth 20000 in
theorem xg_C_init : xw_C_init ∈ gw_l := gw_of 56 (by rfl) rfl
abbrev xb_L_init : ByteArray := prog_5_method_1_code
def xy_L_init : MethodName := ⟨"ModuleShelf$Library", "<init>", "()V"⟩
abbrev xw_L_init : Cond := .code xy_L_init xb_L_init 2 none
set_option maxRecDepth 20000 in
theorem xg_L_init : xw_L_init ∈ gw_l := gw_of 93 (by rfl) rfl
abbrev xb_U_init : ByteArray := prog_8_method_1_code
def xy_U_init : MethodName := ⟨"ModuleShelf$Unit", "<init>", "()V"⟩
abbrev xw_U_init : Cond := .code xy_U_init xb_U_init 1 none
set_option maxRecDepth 20000 in
theorem xg_U_init : xw_U_init ∈ gw_l := gw_of 100 (by rfl) rfl
abbrev xb_M_init : ByteArray := prog_7_method_1_code
def xy_M_init : MethodName := ⟨"ModuleShelf$Memory", "<init>", "()V"⟩
abbrev xw_M_init : Cond := .code xy_M_init xb_M_init 2 none
set_option maxRecDepth 20000 in
theorem xg_M_init : xw_M_init ∈ gw_l := gw_of 156 (by rfl) rfl
abbrev xb_I_init : ByteArray := prog_4_method_1_code
def xy_I_init : MethodName := ⟨"ModuleShelf$Image", "<init>", "()V"⟩
abbrev xw_I_init : Cond := .code xy_I_init xb_I_init 1 none
set_option maxRecDepth 20000 in
theorem xg_I_init : xw_I_init ∈ gw_l := gw_of 163 (by rfl) rfl
abbrev xb_N_init : ByteArray := prog_6_method_1_code
def xy_N_init : MethodName := ⟨"ModuleShelf$Machine", "<init>", "()V"⟩
abbrev xw_N_init : Cond := .code xy_N_init xb_N_init 2 none
set_option maxRecDepth 20000 in
theorem xg_N_init : xw_N_init ∈ gw_l := gw_of 192 (by rfl) rfl
abbrev xb_F_init : ByteArray := prog_3_method_1_code
def xy_F_init : MethodName := ⟨"ModuleShelf$Frame", "<init>", "()V"⟩
abbrev xw_F_init : Cond := .code xy_F_init xb_F_init 1 none
set_option maxRecDepth 20000 in
theorem xg_F_init : xw_F_init ∈ gw_l := gw_of 199 (by rfl) rfl
abbrev xb_S_begin : ByteArray := prog_1_method_2_code
def xy_S_begin : MethodName := ⟨"ModuleShelf", "begin", "(I)I"⟩
abbrev xw_S_begin : Cond := .code xy_S_begin xb_S_begin 2 (some .int)
set_option maxRecDepth 20000 in
theorem xg_S_begin : xw_S_begin ∈ gw_l := gw_of 256 (by rfl) rfl
abbrev xb_C_clear : ByteArray := prog_2_method_2_code
def xy_C_clear : MethodName := ⟨"ModuleShelf$Code", "clear", "(I)V"⟩
abbrev xw_C_clear : Cond := .code xy_C_clear xb_C_clear 2 none
set_option maxRecDepth 20000 in
theorem xg_C_clear : xw_C_clear ∈ gw_l := gw_of 260 (by rfl) rfl
abbrev xb_S_procedure : ByteArray := prog_1_method_3_code
def xy_S_procedure : MethodName := ⟨"ModuleShelf", "procedure", "(I)I"⟩
abbrev xw_S_procedure : Cond := .code xy_S_procedure xb_S_procedure 2 (some .int)
set_option maxRecDepth 20000 in
theorem xg_S_procedure : xw_S_procedure ∈ gw_l := gw_of 264 (by rfl) rfl
abbrev xb_C_addProcedure : ByteArray := prog_2_method_3_code
def xy_C_addProcedure : MethodName := ⟨"ModuleShelf$Code", "addProcedure", "(I)I"⟩
abbrev xw_C_addProcedure : Cond := .code xy_C_addProcedure xb_C_addProcedure 2 (some .int)
set_option maxRecDepth 20000 in
theorem xg_C_addProcedure : xw_C_addProcedure ∈ gw_l := gw_of 268 (by rfl) rfl
abbrev xb_S_token : ByteArray := prog_1_method_4_code
def xy_S_token : MethodName := ⟨"ModuleShelf", "token", "(III)I"⟩
abbrev xw_S_token : Cond := .code xy_S_token xb_S_token 4 (some .int)
set_option maxRecDepth 20000 in
theorem xg_S_token : xw_S_token ∈ gw_l := gw_of 272 (by rfl) rfl
abbrev xb_C_addToken : ByteArray := prog_2_method_4_code
def xy_C_addToken : MethodName := ⟨"ModuleShelf$Code", "addToken", "(III)I"⟩
abbrev xw_C_addToken : Cond := .code xy_C_addToken xb_C_addToken 6 (some .int)
set_option maxRecDepth 20000 in
theorem xg_C_addToken : xw_C_addToken ∈ gw_l := gw_of 276 (by rfl) rfl
abbrev xb_C_cellOf : ByteArray := prog_2_method_9_code
def xy_C_cellOf : MethodName := ⟨"ModuleShelf$Code", "cellOf", "(II)I"⟩
abbrev xw_C_cellOf : Cond := .code xy_C_cellOf xb_C_cellOf 3 (some .int)
set_option maxRecDepth 20000 in
theorem xg_C_cellOf : xw_C_cellOf ∈ gw_l := gw_of 280 (by rfl) rfl
abbrev xb_S_compile : ByteArray := prog_1_method_5_code
def xy_S_compile : MethodName := ⟨"ModuleShelf", "compile", "(I)I"⟩
abbrev xw_S_compile : Cond := .code xy_S_compile xb_S_compile 3 (some .int)
set_option maxRecDepth 20000 in
theorem xg_S_compile : xw_S_compile ∈ gw_l := gw_of 284 (by rfl) rfl
abbrev xb_S_isModule : ByteArray := prog_1_method_18_code
def xy_S_isModule : MethodName := ⟨"ModuleShelf", "isModule", "(I)Z"⟩
abbrev xw_S_isModule : Cond := .code xy_S_isModule xb_S_isModule 1 (some .boolean)
set_option maxRecDepth 20000 in
theorem xg_S_isModule : xw_S_isModule ∈ gw_l := gw_of 287 (by rfl) rfl
abbrev xb_L_firstWrong : ByteArray := prog_5_method_4_code
def xy_L_firstWrong : MethodName := ⟨"ModuleShelf$Library", "firstWrong", "(LModuleShelf$Code;I)I"⟩
abbrev xw_L_firstWrong : Cond := .code xy_L_firstWrong xb_L_firstWrong 4 (some .int)
set_option maxRecDepth 20000 in
theorem xg_L_firstWrong : xw_L_firstWrong ∈ gw_l := gw_of 291 (by rfl) rfl
abbrev xb_L_isExpression : ByteArray := prog_5_method_5_code
def xy_L_isExpression : MethodName := ⟨"ModuleShelf$Library", "isExpression", "(LModuleShelf$Code;III)Z"⟩
abbrev xw_L_isExpression : Cond := .code xy_L_isExpression xb_L_isExpression 8 (some .boolean)
set_option maxRecDepth 20000 in
theorem xg_L_isExpression : xw_L_isExpression ∈ gw_l := gw_of 295 (by rfl) rfl
abbrev xb_C_lengthOf : ByteArray := prog_2_method_8_code
def xy_C_lengthOf : MethodName := ⟨"ModuleShelf$Code", "lengthOf", "(I)I"⟩
abbrev xw_C_lengthOf : Cond := .code xy_C_lengthOf xb_C_lengthOf 2 (some .int)
set_option maxRecDepth 20000 in
theorem xg_C_lengthOf : xw_C_lengthOf ∈ gw_l := gw_of 299 (by rfl) rfl
abbrev xb_C_hasProcedure : ByteArray := prog_2_method_5_code
def xy_C_hasProcedure : MethodName := ⟨"ModuleShelf$Code", "hasProcedure", "(I)Z"⟩
abbrev xw_C_hasProcedure : Cond := .code xy_C_hasProcedure xb_C_hasProcedure 2 (some .boolean)
set_option maxRecDepth 20000 in
theorem xg_C_hasProcedure : xw_C_hasProcedure ∈ gw_l := gw_of 303 (by rfl) rfl
abbrev xb_L_isRight : ByteArray := prog_5_method_6_code
def xy_L_isRight : MethodName := ⟨"ModuleShelf$Library", "isRight", "(LModuleShelf$Code;III)Z"⟩
abbrev xw_L_isRight : Cond := .code xy_L_isRight xb_L_isRight 7 (some .boolean)
set_option maxRecDepth 20000 in
theorem xg_L_isRight : xw_L_isRight ∈ gw_l := gw_of 308 (by rfl) rfl
abbrev xb_C_argumentsOf : ByteArray := prog_2_method_7_code
def xy_C_argumentsOf : MethodName := ⟨"ModuleShelf$Code", "argumentsOf", "(I)I"⟩
abbrev xw_C_argumentsOf : Cond := .code xy_C_argumentsOf xb_C_argumentsOf 2 (some .int)
set_option maxRecDepth 20000 in
theorem xg_C_argumentsOf : xw_C_argumentsOf ∈ gw_l := gw_of 312 (by rfl) rfl
abbrev xb_C_hasVariable : ByteArray := prog_2_method_6_code
def xy_C_hasVariable : MethodName := ⟨"ModuleShelf$Code", "hasVariable", "(I)Z"⟩
abbrev xw_C_hasVariable : Cond := .code xy_C_hasVariable xb_C_hasVariable 2 (some .boolean)
set_option maxRecDepth 20000 in
theorem xg_C_hasVariable : xw_C_hasVariable ∈ gw_l := gw_of 316 (by rfl) rfl
abbrev xb_L_has : ByteArray := prog_5_method_2_code
def xy_L_has : MethodName := ⟨"ModuleShelf$Library", "has", "(I)Z"⟩
abbrev xw_L_has : Cond := .code xy_L_has xb_L_has 2 (some .boolean)
set_option maxRecDepth 20000 in
theorem xg_L_has : xw_L_has ∈ gw_l := gw_of 320 (by rfl) rfl
abbrev xb_L_argumentsOf : ByteArray := prog_5_method_8_code
def xy_L_argumentsOf : MethodName := ⟨"ModuleShelf$Library", "argumentsOf", "(LModuleShelf$Code;III)I"⟩
abbrev xw_L_argumentsOf : Cond := .code xy_L_argumentsOf xb_L_argumentsOf 5 (some .int)
set_option maxRecDepth 20000 in
theorem xg_L_argumentsOf : xw_L_argumentsOf ∈ gw_l := gw_of 325 (by rfl) rfl
abbrev xb_L_partsOf : ByteArray := prog_5_method_7_code
def xy_L_partsOf : MethodName := ⟨"ModuleShelf$Library", "partsOf", "(LModuleShelf$Code;II)I"⟩
abbrev xw_L_partsOf : Cond := .code xy_L_partsOf xb_L_partsOf 5 (some .int)
set_option maxRecDepth 20000 in
theorem xg_L_partsOf : xw_L_partsOf ∈ gw_l := gw_of 329 (by rfl) rfl
abbrev xb_L_keep : ByteArray := prog_5_method_9_code
def xy_L_keep : MethodName := ⟨"ModuleShelf$Library", "keep", "(LModuleShelf$Code;I)I"⟩
abbrev xw_L_keep : Cond := .code xy_L_keep xb_L_keep 4 (some .int)
set_option maxRecDepth 20000 in
theorem xg_L_keep : xw_L_keep ∈ gw_l := gw_of 335 (by rfl) rfl
abbrev xb_C_hasInterfaceOf : ByteArray := prog_2_method_11_code
def xy_C_hasInterfaceOf : MethodName := ⟨"ModuleShelf$Code", "hasInterfaceOf", "(LModuleShelf$Code;)Z"⟩
abbrev xw_C_hasInterfaceOf : Cond := .code xy_C_hasInterfaceOf xb_C_hasInterfaceOf 3 (some .boolean)
set_option maxRecDepth 20000 in
theorem xg_C_hasInterfaceOf : xw_C_hasInterfaceOf ∈ gw_l := gw_of 339 (by rfl) rfl
abbrev xb_C_copyFrom : ByteArray := prog_2_method_12_code
def xy_C_copyFrom : MethodName := ⟨"ModuleShelf$Code", "copyFrom", "(LModuleShelf$Code;)V"⟩
abbrev xw_C_copyFrom : Cond := .code xy_C_copyFrom xb_C_copyFrom 2 none
set_option maxRecDepth 20000 in
theorem xg_C_copyFrom : xw_C_copyFrom ∈ gw_l := gw_of 343 (by rfl) rfl
abbrev xb_L_gatherImports : ByteArray := prog_5_method_10_code
def xy_L_gatherImports : MethodName := ⟨"ModuleShelf$Library", "gatherImports", "(LModuleShelf$Unit;I)V"⟩
abbrev xw_L_gatherImports : Cond := .code xy_L_gatherImports xb_L_gatherImports 9 none
set_option maxRecDepth 20000 in
theorem xg_L_gatherImports : xw_L_gatherImports ∈ gw_l := gw_of 350 (by rfl) rfl
abbrev xb_U_addImport : ByteArray := prog_8_method_3_code
def xy_U_addImport : MethodName := ⟨"ModuleShelf$Unit", "addImport", "(II)V"⟩
abbrev xw_U_addImport : Cond := .code xy_U_addImport xb_U_addImport 3 none
set_option maxRecDepth 20000 in
theorem xg_U_addImport : xw_U_addImport ∈ gw_l := gw_of 354 (by rfl) rfl
abbrev xb_U_hasImport : ByteArray := prog_8_method_2_code
def xy_U_hasImport : MethodName := ⟨"ModuleShelf$Unit", "hasImport", "(I)Z"⟩
abbrev xw_U_hasImport : Cond := .code xy_U_hasImport xb_U_hasImport 3 (some .boolean)
set_option maxRecDepth 20000 in
theorem xg_U_hasImport : xw_U_hasImport ∈ gw_l := gw_of 358 (by rfl) rfl
abbrev xb_S_place : ByteArray := prog_1_method_6_code
def xy_S_place : MethodName := ⟨"ModuleShelf", "place", "()I"⟩
abbrev xw_S_place : Cond := .code xy_S_place xb_S_place 1 (some .int)
set_option maxRecDepth 20000 in
theorem xg_S_place : xw_S_place ∈ gw_l := gw_of 362 (by rfl) rfl
abbrev xb_S_remove : ByteArray := prog_1_method_7_code
def xy_S_remove : MethodName := ⟨"ModuleShelf", "remove", "(I)I"⟩
abbrev xw_S_remove : Cond := .code xy_S_remove xb_S_remove 2 (some .int)
set_option maxRecDepth 20000 in
theorem xg_S_remove : xw_S_remove ∈ gw_l := gw_of 366 (by rfl) rfl
abbrev xb_S_load : ByteArray := prog_1_method_8_code
def xy_S_load : MethodName := ⟨"ModuleShelf", "load", "(I)I"⟩
abbrev xw_S_load : Cond := .code xy_S_load xb_S_load 2 (some .int)
set_option maxRecDepth 20000 in
theorem xg_S_load : xw_S_load ∈ gw_l := gw_of 371 (by rfl) rfl
abbrev xb_M_bring : ByteArray := prog_7_method_9_code
def xy_M_bring : MethodName := ⟨"ModuleShelf$Memory", "bring", "(LModuleShelf$Library;I)I"⟩
abbrev xw_M_bring : Cond := .code xy_M_bring xb_M_bring 5 (some .int)
set_option maxRecDepth 20000 in
theorem xg_M_bring : xw_M_bring ∈ gw_l := gw_of 375 (by rfl) rfl
abbrev xb_M_held : ByteArray := prog_7_method_3_code
def xy_M_held : MethodName := ⟨"ModuleShelf$Memory", "held", "()I"⟩
abbrev xw_M_held : Cond := .code xy_M_held xb_M_held 3 (some .int)
set_option maxRecDepth 20000 in
theorem xg_M_held : xw_M_held ∈ gw_l := gw_of 379 (by rfl) rfl
abbrev xb_M_has : ByteArray := prog_7_method_2_code
def xy_M_has : MethodName := ⟨"ModuleShelf$Memory", "has", "(I)Z"⟩
abbrev xw_M_has : Cond := .code xy_M_has xb_M_has 2 (some .boolean)
set_option maxRecDepth 20000 in
theorem xg_M_has : xw_M_has ∈ gw_l := gw_of 383 (by rfl) rfl
abbrev xb_M_bringOne : ByteArray := prog_7_method_10_code
def xy_M_bringOne : MethodName := ⟨"ModuleShelf$Memory", "bringOne", "(LModuleShelf$Library;II)I"⟩
abbrev xw_M_bringOne : Cond := .code xy_M_bringOne xb_M_bringOne 7 (some .int)
set_option maxRecDepth 20000 in
theorem xg_M_bringOne : xw_M_bringOne ∈ gw_l := gw_of 388 (by rfl) rfl
abbrev xb_M_size : ByteArray := prog_7_method_4_code
def xy_M_size : MethodName := ⟨"ModuleShelf$Memory", "size", "()I"⟩
abbrev xw_M_size : Cond := .code xy_M_size xb_M_size 3 (some .int)
set_option maxRecDepth 20000 in
theorem xg_M_size : xw_M_size ∈ gw_l := gw_of 393 (by rfl) rfl
abbrev xb_C_size : ByteArray := prog_2_method_10_code
def xy_C_size : MethodName := ⟨"ModuleShelf$Code", "size", "()I"⟩
abbrev xw_C_size : Cond := .code xy_C_size xb_C_size 3 (some .int)
set_option maxRecDepth 20000 in
theorem xg_C_size : xw_C_size ∈ gw_l := gw_of 397 (by rfl) rfl
abbrev xb_I_fill : ByteArray := prog_4_method_2_code
def xy_I_fill : MethodName := ⟨"ModuleShelf$Image", "fill", "(LModuleShelf$Unit;)V"⟩
abbrev xw_I_fill : Cond := .code xy_I_fill xb_I_fill 2 none
set_option maxRecDepth 20000 in
theorem xg_I_fill : xw_I_fill ∈ gw_l := gw_of 401 (by rfl) rfl
abbrev xb_U_copyFrom : ByteArray := prog_8_method_4_code
def xy_U_copyFrom : MethodName := ⟨"ModuleShelf$Unit", "copyFrom", "(LModuleShelf$Unit;)V"⟩
abbrev xw_U_copyFrom : Cond := .code xy_U_copyFrom xb_U_copyFrom 2 none
set_option maxRecDepth 20000 in
theorem xg_U_copyFrom : xw_U_copyFrom ∈ gw_l := gw_of 405 (by rfl) rfl
abbrev xb_A_fill : ByteArray := prog_13_method_103_code
def xy_A_fill : MethodName := ⟨"java/util/Arrays", "fill", "([II)V"⟩
abbrev xw_A_fill : Cond := .code xy_A_fill xb_A_fill 4 none
set_option maxRecDepth 20000 in
theorem xg_A_fill : xw_A_fill ∈ gw_l := gw_of 410 (by rfl) rfl
abbrev xb_M_dropBegun : ByteArray := prog_7_method_11_code
def xy_M_dropBegun : MethodName := ⟨"ModuleShelf$Memory", "dropBegun", "()V"⟩
abbrev xw_M_dropBegun : Cond := .code xy_M_dropBegun xb_M_dropBegun 2 none
set_option maxRecDepth 20000 in
theorem xg_M_dropBegun : xw_M_dropBegun ∈ gw_l := gw_of 414 (by rfl) rfl
abbrev xb_S_unload : ByteArray := prog_1_method_9_code
def xy_S_unload : MethodName := ⟨"ModuleShelf", "unload", "(I)I"⟩
abbrev xw_S_unload : Cond := .code xy_S_unload xb_S_unload 2 (some .int)
set_option maxRecDepth 20000 in
theorem xg_S_unload : xw_S_unload ∈ gw_l := gw_of 418 (by rfl) rfl
abbrev xb_M_isImported : ByteArray := prog_7_method_5_code
def xy_M_isImported : MethodName := ⟨"ModuleShelf$Memory", "isImported", "(I)Z"⟩
abbrev xw_M_isImported : Cond := .code xy_M_isImported xb_M_isImported 3 (some .boolean)
set_option maxRecDepth 20000 in
theorem xg_M_isImported : xw_M_isImported ∈ gw_l := gw_of 423 (by rfl) rfl
abbrev xb_S_run : ByteArray := prog_1_method_10_code
def xy_S_run : MethodName := ⟨"ModuleShelf", "run", "(IIII)I"⟩
abbrev xw_S_run : Cond := .code xy_S_run xb_S_run 6 (some .int)
set_option maxRecDepth 20000 in
theorem xg_S_run : xw_S_run ∈ gw_l := gw_of 428 (by rfl) rfl
abbrev xb_M_argumentsOf : ByteArray := prog_7_method_6_code
def xy_M_argumentsOf : MethodName := ⟨"ModuleShelf$Memory", "argumentsOf", "(II)I"⟩
abbrev xw_M_argumentsOf : Cond := .code xy_M_argumentsOf xb_M_argumentsOf 3 (some .int)
set_option maxRecDepth 20000 in
theorem xg_M_argumentsOf : xw_M_argumentsOf ∈ gw_l := gw_of 432 (by rfl) rfl
abbrev xb_N_start : ByteArray := prog_6_method_2_code
def xy_N_start : MethodName := ⟨"ModuleShelf$Machine", "start", "(LModuleShelf$Memory;IIII)I"⟩
abbrev xw_N_start : Cond := .code xy_N_start xb_N_start 6 (some .int)
set_option maxRecDepth 20000 in
theorem xg_N_start : xw_N_start ∈ gw_l := gw_of 437 (by rfl) rfl
abbrev xb_F_open : ByteArray := prog_3_method_2_code
def xy_F_open : MethodName := ⟨"ModuleShelf$Frame", "open", "(IIII)V"⟩
abbrev xw_F_open : Cond := .code xy_F_open xb_F_open 5 none
set_option maxRecDepth 20000 in
theorem xg_F_open : xw_F_open ∈ gw_l := gw_of 441 (by rfl) rfl
abbrev xb_N_work : ByteArray := prog_6_method_3_code
def xy_N_work : MethodName := ⟨"ModuleShelf$Machine", "work", "(LModuleShelf$Memory;II)I"⟩
abbrev xw_N_work : Cond := .code xy_N_work xb_N_work 9 (some .int)
set_option maxRecDepth 20000 in
theorem xg_N_work : xw_N_work ∈ gw_l := gw_of 445 (by rfl) rfl
abbrev xb_N_fail : ByteArray := prog_6_method_9_code
def xy_N_fail : MethodName := ⟨"ModuleShelf$Machine", "fail", "(I)I"⟩
abbrev xw_N_fail : Cond := .code xy_N_fail xb_N_fail 2 (some .int)
set_option maxRecDepth 20000 in
theorem xg_N_fail : xw_N_fail ∈ gw_l := gw_of 450 (by rfl) rfl
abbrev xb_M_valueOf : ByteArray := prog_7_method_7_code
def xy_M_valueOf : MethodName := ⟨"ModuleShelf$Memory", "valueOf", "(II)I"⟩
abbrev xw_M_valueOf : Cond := .code xy_M_valueOf xb_M_valueOf 3 (some .int)
set_option maxRecDepth 20000 in
theorem xg_M_valueOf : xw_M_valueOf ∈ gw_l := gw_of 455 (by rfl) rfl
abbrev xb_N_assign : ByteArray := prog_6_method_4_code
def xy_N_assign : MethodName := ⟨"ModuleShelf$Machine", "assign", "(LModuleShelf$Memory;III)I"⟩
abbrev xw_N_assign : Cond := .code xy_N_assign xb_N_assign 6 (some .int)
set_option maxRecDepth 20000 in
theorem xg_N_assign : xw_N_assign ∈ gw_l := gw_of 460 (by rfl) rfl
abbrev xb_M_setValue : ByteArray := prog_7_method_8_code
def xy_M_setValue : MethodName := ⟨"ModuleShelf$Memory", "setValue", "(III)V"⟩
abbrev xw_M_setValue : Cond := .code xy_M_setValue xb_M_setValue 4 none
set_option maxRecDepth 20000 in
theorem xg_M_setValue : xw_M_setValue ∈ gw_l := gw_of 464 (by rfl) rfl
abbrev xb_N_choose : ByteArray := prog_6_method_5_code
def xy_N_choose : MethodName := ⟨"ModuleShelf$Machine", "choose", "(LModuleShelf$Memory;II)I"⟩
abbrev xw_N_choose : Cond := .code xy_N_choose xb_N_choose 6 (some .int)
set_option maxRecDepth 20000 in
theorem xg_N_choose : xw_N_choose ∈ gw_l := gw_of 468 (by rfl) rfl
abbrev xb_N_skip : ByteArray := prog_6_method_8_code
def xy_N_skip : MethodName := ⟨"ModuleShelf$Machine", "skip", "(LModuleShelf$Memory;LModuleShelf$Frame;)V"⟩
abbrev xw_N_skip : Cond := .code xy_N_skip xb_N_skip 9 none
set_option maxRecDepth 20000 in
theorem xg_N_skip : xw_N_skip ∈ gw_l := gw_of 472 (by rfl) rfl
abbrev xb_N_enter : ByteArray := prog_6_method_6_code
def xy_N_enter : MethodName := ⟨"ModuleShelf$Machine", "enter", "(LModuleShelf$Memory;IIII)I"⟩
abbrev xw_N_enter : Cond := .code xy_N_enter xb_N_enter 9 (some .int)
set_option maxRecDepth 20000 in
theorem xg_N_enter : xw_N_enter ∈ gw_l := gw_of 481 (by rfl) rfl
abbrev xb_N_combine : ByteArray := prog_6_method_7_code
def xy_N_combine : MethodName := ⟨"ModuleShelf$Machine", "combine", "(LModuleShelf$Memory;III)I"⟩
abbrev xw_N_combine : Cond := .code xy_N_combine xb_N_combine 7 (some .int)
set_option maxRecDepth 20000 in
theorem xg_N_combine : xw_N_combine ∈ gw_l := gw_of 485 (by rfl) rfl
abbrev xb_S_value : ByteArray := prog_1_method_11_code
def xy_S_value : MethodName := ⟨"ModuleShelf", "value", "()I"⟩
abbrev xw_S_value : Cond := .code xy_S_value xb_S_value 1 (some .int)
set_option maxRecDepth 20000 in
theorem xg_S_value : xw_S_value ∈ gw_l := gw_of 489 (by rfl) rfl
abbrev xb_S_steps : ByteArray := prog_1_method_12_code
def xy_S_steps : MethodName := ⟨"ModuleShelf", "steps", "()I"⟩
abbrev xw_S_steps : Cond := .code xy_S_steps xb_S_steps 1 (some .int)
set_option maxRecDepth 20000 in
theorem xg_S_steps : xw_S_steps ∈ gw_l := gw_of 493 (by rfl) rfl
abbrev xb_S_variable : ByteArray := prog_1_method_13_code
def xy_S_variable : MethodName := ⟨"ModuleShelf", "variable", "(II)I"⟩
abbrev xw_S_variable : Cond := .code xy_S_variable xb_S_variable 3 (some .int)
set_option maxRecDepth 20000 in
theorem xg_S_variable : xw_S_variable ∈ gw_l := gw_of 497 (by rfl) rfl
abbrev xb_S_key : ByteArray := prog_1_method_14_code
def xy_S_key : MethodName := ⟨"ModuleShelf", "key", "(I)I"⟩
abbrev xw_S_key : Cond := .code xy_S_key xb_S_key 2 (some .int)
set_option maxRecDepth 20000 in
theorem xg_S_key : xw_S_key ∈ gw_l := gw_of 502 (by rfl) rfl
abbrev xb_S_loaded : ByteArray := prog_1_method_15_code
def xy_S_loaded : MethodName := ⟨"ModuleShelf", "loaded", "(I)I"⟩
abbrev xw_S_loaded : Cond := .code xy_S_loaded xb_S_loaded 2 (some .int)
set_option maxRecDepth 20000 in
theorem xg_S_loaded : xw_S_loaded ∈ gw_l := gw_of 506 (by rfl) rfl
abbrev xb_S_imported : ByteArray := prog_1_method_16_code
def xy_S_imported : MethodName := ⟨"ModuleShelf", "imported", "(II)I"⟩
abbrev xw_S_imported : Cond := .code xy_S_imported xb_S_imported 4 (some .int)
set_option maxRecDepth 20000 in
theorem xg_S_imported : xw_S_imported ∈ gw_l := gw_of 510 (by rfl) rfl
abbrev xb_S_count : ByteArray := prog_1_method_17_code
def xy_S_count : MethodName := ⟨"ModuleShelf", "count", "(I)I"⟩
abbrev xw_S_count : Cond := .code xy_S_count xb_S_count 2 (some .int)
set_option maxRecDepth 20000 in
theorem xg_S_count : xw_S_count ∈ gw_l := gw_of 514 (by rfl) rfl
abbrev xb_L_held : ByteArray := prog_5_method_3_code
def xy_L_held : MethodName := ⟨"ModuleShelf$Library", "held", "()I"⟩
abbrev xw_L_held : Cond := .code xy_L_held xb_L_held 3 (some .int)
set_option maxRecDepth 20000 in
theorem xg_L_held : xw_L_held ∈ gw_l := gw_of 519 (by rfl) rfl
abbrev xb_R_init : ByteArray := prog_10_method_1_code
def xy_R_init : MethodName := ⟨"ModuleShelfModel", "<init>", "()V"⟩
abbrev xw_R_init : Cond := .code xy_R_init xb_R_init 1 none
set_option maxRecDepth 20000 in
theorem xg_R_init : xw_R_init ∈ gw_l := gw_of 526 (by rfl) rfl
abbrev xb_R_begin : ByteArray := prog_10_method_3_code
def xy_R_begin : MethodName := ⟨"ModuleShelfModel", "begin", "(I)I"⟩
abbrev xw_R_begin : Cond := .code xy_R_begin xb_R_begin 2 (some .int)
set_option maxRecDepth 20000 in
theorem xg_R_begin : xw_R_begin ∈ gw_l := gw_of 619 (by rfl) rfl
abbrev xb_R_in : ByteArray := prog_10_method_2_code
def xy_R_in : MethodName := ⟨"ModuleShelfModel", "in", "(III)Z"⟩
abbrev xw_R_in : Cond := .code xy_R_in xb_R_in 3 (some .boolean)
set_option maxRecDepth 20000 in
theorem xg_R_in : xw_R_in ∈ gw_l := gw_of 622 (by rfl) rfl
abbrev xb_R_procedure : ByteArray := prog_10_method_4_code
def xy_R_procedure : MethodName := ⟨"ModuleShelfModel", "procedure", "(I)I"⟩
abbrev xw_R_procedure : Cond := .code xy_R_procedure xb_R_procedure 3 (some .int)
set_option maxRecDepth 20000 in
theorem xg_R_procedure : xw_R_procedure ∈ gw_l := gw_of 626 (by rfl) rfl
abbrev xb_R_token : ByteArray := prog_10_method_5_code
def xy_R_token : MethodName := ⟨"ModuleShelfModel", "token", "(III)I"⟩
abbrev xw_R_token : Cond := .code xy_R_token xb_R_token 6 (some .int)
set_option maxRecDepth 20000 in
theorem xg_R_token : xw_R_token ∈ gw_l := gw_of 630 (by rfl) rfl
abbrev xb_R_compile : ByteArray := prog_10_method_12_code
def xy_R_compile : MethodName := ⟨"ModuleShelfModel", "compile", "(I)I"⟩
abbrev xw_R_compile : Cond := .code xy_R_compile xb_R_compile 4 (some .int)
set_option maxRecDepth 20000 in
theorem xg_R_compile : xw_R_compile ∈ gw_l := gw_of 634 (by rfl) rfl
abbrev xb_R_firstWrong : ByteArray := prog_10_method_8_code
def xy_R_firstWrong : MethodName := ⟨"ModuleShelfModel", "firstWrong", "(II)I"⟩
abbrev xw_R_firstWrong : Cond := .code xy_R_firstWrong xb_R_firstWrong 7 (some .int)
set_option maxRecDepth 20000 in
theorem xg_R_firstWrong : xw_R_firstWrong ∈ gw_l := gw_of 638 (by rfl) rfl
abbrev xb_R_partsOf : ByteArray := prog_10_method_7_code
def xy_R_partsOf : MethodName := ⟨"ModuleShelfModel", "partsOf", "(III)I"⟩
abbrev xw_R_partsOf : Cond := .code xy_R_partsOf xb_R_partsOf 6 (some .int)
set_option maxRecDepth 20000 in
theorem xg_R_partsOf : xw_R_partsOf ∈ gw_l := gw_of 642 (by rfl) rfl
abbrev xb_R_seen : ByteArray := prog_10_method_6_code
def xy_R_seen : MethodName := ⟨"ModuleShelfModel", "seen", "(II)I"⟩
abbrev xw_R_seen : Cond := .code xy_R_seen xb_R_seen 3 (some .int)
set_option maxRecDepth 20000 in
theorem xg_R_seen : xw_R_seen ∈ gw_l := gw_of 646 (by rfl) rfl
abbrev xb_R_findImports : ByteArray := prog_10_method_11_code
def xy_R_findImports : MethodName := ⟨"ModuleShelfModel", "findImports", "(I)V"⟩
abbrev xw_R_findImports : Cond := .code xy_R_findImports xb_R_findImports 7 none
set_option maxRecDepth 20000 in
theorem xg_R_findImports : xw_R_findImports ∈ gw_l := gw_of 650 (by rfl) rfl
abbrev xb_R_alike : ByteArray := prog_10_method_9_code
def xy_R_alike : MethodName := ⟨"ModuleShelfModel", "alike", "(I)Z"⟩
abbrev xw_R_alike : Cond := .code xy_R_alike xb_R_alike 3 (some .boolean)
set_option maxRecDepth 20000 in
theorem xg_R_alike : xw_R_alike ∈ gw_l := gw_of 654 (by rfl) rfl
abbrev xb_R_copy : ByteArray := prog_10_method_10_code
def xy_R_copy : MethodName := ⟨"ModuleShelfModel", "copy", "(II)V"⟩
abbrev xw_R_copy : Cond := .code xy_R_copy xb_R_copy 4 none
set_option maxRecDepth 20000 in
theorem xg_R_copy : xw_R_copy ∈ gw_l := gw_of 658 (by rfl) rfl
abbrev xb_R_place : ByteArray := prog_10_method_13_code
def xy_R_place : MethodName := ⟨"ModuleShelfModel", "place", "()I"⟩
abbrev xw_R_place : Cond := .code xy_R_place xb_R_place 1 (some .int)
set_option maxRecDepth 20000 in
theorem xg_R_place : xw_R_place ∈ gw_l := gw_of 662 (by rfl) rfl
abbrev xb_R_remove : ByteArray := prog_10_method_14_code
def xy_R_remove : MethodName := ⟨"ModuleShelfModel", "remove", "(I)I"⟩
abbrev xw_R_remove : Cond := .code xy_R_remove xb_R_remove 2 (some .int)
set_option maxRecDepth 20000 in
theorem xg_R_remove : xw_R_remove ∈ gw_l := gw_of 666 (by rfl) rfl
abbrev xb_R_load : ByteArray := prog_10_method_18_code
def xy_R_load : MethodName := ⟨"ModuleShelfModel", "load", "(I)I"⟩
abbrev xw_R_load : Cond := .code xy_R_load xb_R_load 9 (some .int)
set_option maxRecDepth 20000 in
theorem xg_R_load : xw_R_load ∈ gw_l := gw_of 670 (by rfl) rfl
abbrev xb_R_begins : ByteArray := prog_10_method_17_code
def xy_R_begins : MethodName := ⟨"ModuleShelfModel", "begins", "(II)I"⟩
abbrev xw_R_begins : Cond := .code xy_R_begins xb_R_begins 4 (some .int)
set_option maxRecDepth 20000 in
theorem xg_R_begins : xw_R_begins ∈ gw_l := gw_of 674 (by rfl) rfl
abbrev xb_R_cells : ByteArray := prog_10_method_15_code
def xy_R_cells : MethodName := ⟨"ModuleShelfModel", "cells", "(I)I"⟩
abbrev xw_R_cells : Cond := .code xy_R_cells xb_R_cells 4 (some .int)
set_option maxRecDepth 20000 in
theorem xg_R_cells : xw_R_cells ∈ gw_l := gw_of 678 (by rfl) rfl
abbrev xb_R_allCells : ByteArray := prog_10_method_16_code
def xy_R_allCells : MethodName := ⟨"ModuleShelfModel", "allCells", "()I"⟩
abbrev xw_R_allCells : Cond := .code xy_R_allCells xb_R_allCells 3 (some .int)
set_option maxRecDepth 20000 in
theorem xg_R_allCells : xw_R_allCells ∈ gw_l := gw_of 682 (by rfl) rfl
abbrev xb_R_unload : ByteArray := prog_10_method_19_code
def xy_R_unload : MethodName := ⟨"ModuleShelfModel", "unload", "(I)I"⟩
abbrev xw_R_unload : Cond := .code xy_R_unload xb_R_unload 4 (some .int)
set_option maxRecDepth 20000 in
theorem xg_R_unload : xw_R_unload ∈ gw_l := gw_of 686 (by rfl) rfl
abbrev xb_R_run : ByteArray := prog_10_method_25_code
def xy_R_run : MethodName := ⟨"ModuleShelfModel", "run", "(IIII)I"⟩
abbrev xw_R_run : Cond := .code xy_R_run xb_R_run 9 (some .int)
set_option maxRecDepth 20000 in
theorem xg_R_run : xw_R_run ∈ gw_l := gw_of 690 (by rfl) rfl
abbrev xb_R_enter : ByteArray := prog_10_method_26_code
def xy_R_enter : MethodName := ⟨"ModuleShelfModel", "enter", "(IIIII)V"⟩
abbrev xw_R_enter : Cond := .code xy_R_enter xb_R_enter 6 none
set_option maxRecDepth 20000 in
theorem xg_R_enter : xw_R_enter ∈ gw_l := gw_of 694 (by rfl) rfl
abbrev xb_R_push : ByteArray := prog_10_method_20_code
def xy_R_push : MethodName := ⟨"ModuleShelfModel", "push", "(III)V"⟩
abbrev xw_R_push : Cond := .code xy_R_push xb_R_push 4 none
set_option maxRecDepth 20000 in
theorem xg_R_push : xw_R_push ∈ gw_l := gw_of 698 (by rfl) rfl
abbrev xb_R_begin2 : ByteArray := prog_10_method_27_code
def xy_R_begin2 : MethodName := ⟨"ModuleShelfModel", "begin", "(II)V"⟩
abbrev xw_R_begin2 : Cond := .code xy_R_begin2 xb_R_begin2 5 none
set_option maxRecDepth 20000 in
theorem xg_R_begin2 : xw_R_begin2 ∈ gw_l := gw_of 702 (by rfl) rfl
abbrev xb_R_give : ByteArray := prog_10_method_21_code
def xy_R_give : MethodName := ⟨"ModuleShelfModel", "give", "(I)V"⟩
abbrev xw_R_give : Cond := .code xy_R_give xb_R_give 2 none
set_option maxRecDepth 20000 in
theorem xg_R_give : xw_R_give ∈ gw_l := gw_of 706 (by rfl) rfl
abbrev xb_R_end : ByteArray := prog_10_method_24_code
def xy_R_end : MethodName := ⟨"ModuleShelfModel", "end", "(I)I"⟩
abbrev xw_R_end : Cond := .code xy_R_end xb_R_end 4 (some .int)
set_option maxRecDepth 20000 in
theorem xg_R_end : xw_R_end ∈ gw_l := gw_of 710 (by rfl) rfl
abbrev xb_R_parts : ByteArray := prog_10_method_23_code
def xy_R_parts : MethodName := ⟨"ModuleShelfModel", "parts", "(I)I"⟩
abbrev xw_R_parts : Cond := .code xy_R_parts xb_R_parts 2 (some .int)
set_option maxRecDepth 20000 in
theorem xg_R_parts : xw_R_parts ∈ gw_l := gw_of 714 (by rfl) rfl
abbrev xb_R_use : ByteArray := prog_10_method_28_code
def xy_R_use : MethodName := ⟨"ModuleShelfModel", "use", "(II)I"⟩
abbrev xw_R_use : Cond := .code xy_R_use xb_R_use 7 (some .int)
set_option maxRecDepth 20000 in
theorem xg_R_use : xw_R_use ∈ gw_l := gw_of 718 (by rfl) rfl
abbrev xb_R_take : ByteArray := prog_10_method_22_code
def xy_R_take : MethodName := ⟨"ModuleShelfModel", "take", "()I"⟩
abbrev xw_R_take : Cond := .code xy_R_take xb_R_take 1 (some .int)
set_option maxRecDepth 20000 in
theorem xg_R_take : xw_R_take ∈ gw_l := gw_of 722 (by rfl) rfl
abbrev xb_R_quotient : ByteArray := prog_10_method_29_code
def xy_R_quotient : MethodName := ⟨"ModuleShelfModel", "quotient", "(II)I"⟩
abbrev xw_R_quotient : Cond := .code xy_R_quotient xb_R_quotient 2 (some .int)
set_option maxRecDepth 20000 in
theorem xg_R_quotient : xw_R_quotient ∈ gw_l := gw_of 725 (by rfl) rfl
abbrev xb_R_value : ByteArray := prog_10_method_30_code
def xy_R_value : MethodName := ⟨"ModuleShelfModel", "value", "()I"⟩
abbrev xw_R_value : Cond := .code xy_R_value xb_R_value 1 (some .int)
set_option maxRecDepth 20000 in
theorem xg_R_value : xw_R_value ∈ gw_l := gw_of 729 (by rfl) rfl
abbrev xb_R_steps : ByteArray := prog_10_method_31_code
def xy_R_steps : MethodName := ⟨"ModuleShelfModel", "steps", "()I"⟩
abbrev xw_R_steps : Cond := .code xy_R_steps xb_R_steps 1 (some .int)
set_option maxRecDepth 20000 in
theorem xg_R_steps : xw_R_steps ∈ gw_l := gw_of 733 (by rfl) rfl
abbrev xb_R_variable : ByteArray := prog_10_method_32_code
def xy_R_variable : MethodName := ⟨"ModuleShelfModel", "variable", "(II)I"⟩
abbrev xw_R_variable : Cond := .code xy_R_variable xb_R_variable 3 (some .int)
set_option maxRecDepth 20000 in
theorem xg_R_variable : xw_R_variable ∈ gw_l := gw_of 737 (by rfl) rfl
abbrev xb_R_key : ByteArray := prog_10_method_33_code
def xy_R_key : MethodName := ⟨"ModuleShelfModel", "key", "(I)I"⟩
abbrev xw_R_key : Cond := .code xy_R_key xb_R_key 2 (some .int)
set_option maxRecDepth 20000 in
theorem xg_R_key : xw_R_key ∈ gw_l := gw_of 741 (by rfl) rfl
abbrev xb_R_loaded : ByteArray := prog_10_method_34_code
def xy_R_loaded : MethodName := ⟨"ModuleShelfModel", "loaded", "(I)I"⟩
abbrev xw_R_loaded : Cond := .code xy_R_loaded xb_R_loaded 2 (some .int)
set_option maxRecDepth 20000 in
theorem xg_R_loaded : xw_R_loaded ∈ gw_l := gw_of 745 (by rfl) rfl
abbrev xb_R_imported : ByteArray := prog_10_method_35_code
def xy_R_imported : MethodName := ⟨"ModuleShelfModel", "imported", "(II)I"⟩
abbrev xw_R_imported : Cond := .code xy_R_imported xb_R_imported 3 (some .int)
set_option maxRecDepth 20000 in
theorem xg_R_imported : xw_R_imported ∈ gw_l := gw_of 749 (by rfl) rfl
abbrev xb_R_count : ByteArray := prog_10_method_36_code
def xy_R_count : MethodName := ⟨"ModuleShelfModel", "count", "(I)I"⟩
abbrev xw_R_count : Cond := .code xy_R_count xb_R_count 5 (some .int)
set_option maxRecDepth 20000 in
theorem xg_R_count : xw_R_count ∈ gw_l := gw_of 753 (by rfl) rfl
