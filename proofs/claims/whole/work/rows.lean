section
-- ===== PART A: goes FIRST, ahead of the names: the tables' words, and 'selects' of the private methods out of them =====
/-- a private method of a class that the tables say can be made, by its rows of tables_1 -/
def lw_okq (q : MethodName × Nat) : Prop := (q.1.cls ≠ "java/lang/invoke/MethodHandle" ∧ q.1.cls ≠ "java/lang/invoke/VarHandle") ∧ Cond.instantiable q.1.cls q.2 ∈ tables_1 ∧ Cond.privateMethod q.1 ∈ tables_1 ∧ Cond.instanceMethod q.1 ∈ tables_1
theorem lw_p0 : lw_okq (⟨"ModuleShelf$Library", "isExpression", "(LModuleShelf$Code;III)Z"⟩, 3) := ⟨⟨by decide +kernel, by decide +kernel⟩, List.mem_of_getElem? (i := 59) (by decide +kernel), List.mem_of_getElem? (i := 262) (by decide +kernel), List.mem_of_getElem? (i := 263) (by decide +kernel)⟩
theorem lw_p1 : lw_okq (⟨"ModuleShelf$Library", "isRight", "(LModuleShelf$Code;III)Z"⟩, 3) := ⟨⟨by decide +kernel, by decide +kernel⟩, List.mem_of_getElem? (i := 59) (by decide +kernel), List.mem_of_getElem? (i := 275) (by decide +kernel), List.mem_of_getElem? (i := 276) (by decide +kernel)⟩
theorem lw_p2 : lw_okq (⟨"ModuleShelf$Library", "argumentsOf", "(LModuleShelf$Code;III)I"⟩, 3) := ⟨⟨by decide +kernel, by decide +kernel⟩, List.mem_of_getElem? (i := 59) (by decide +kernel), List.mem_of_getElem? (i := 292) (by decide +kernel), List.mem_of_getElem? (i := 293) (by decide +kernel)⟩
theorem lw_p3 : lw_okq (⟨"ModuleShelf$Library", "partsOf", "(LModuleShelf$Code;II)I"⟩, 3) := ⟨⟨by decide +kernel, by decide +kernel⟩, List.mem_of_getElem? (i := 59) (by decide +kernel), List.mem_of_getElem? (i := 296) (by decide +kernel), List.mem_of_getElem? (i := 297) (by decide +kernel)⟩
theorem lw_p4 : lw_okq (⟨"ModuleShelf$Library", "gatherImports", "(LModuleShelf$Unit;I)V"⟩, 3) := ⟨⟨by decide +kernel, by decide +kernel⟩, List.mem_of_getElem? (i := 59) (by decide +kernel), List.mem_of_getElem? (i := 317) (by decide +kernel), List.mem_of_getElem? (i := 318) (by decide +kernel)⟩
theorem lw_p5 : lw_okq (⟨"ModuleShelf$Memory", "bringOne", "(LModuleShelf$Library;II)I"⟩, 2) := ⟨⟨by decide +kernel, by decide +kernel⟩, List.mem_of_getElem? (i := 122) (by decide +kernel), List.mem_of_getElem? (i := 355) (by decide +kernel), List.mem_of_getElem? (i := 356) (by decide +kernel)⟩
theorem lw_p6 : lw_okq (⟨"ModuleShelf$Memory", "dropBegun", "()V"⟩, 2) := ⟨⟨by decide +kernel, by decide +kernel⟩, List.mem_of_getElem? (i := 122) (by decide +kernel), List.mem_of_getElem? (i := 381) (by decide +kernel), List.mem_of_getElem? (i := 382) (by decide +kernel)⟩
theorem lw_p7 : lw_okq (⟨"ModuleShelf$Machine", "work", "(LModuleShelf$Memory;II)I"⟩, 3) := ⟨⟨by decide +kernel, by decide +kernel⟩, List.mem_of_getElem? (i := 158) (by decide +kernel), List.mem_of_getElem? (i := 412) (by decide +kernel), List.mem_of_getElem? (i := 413) (by decide +kernel)⟩
theorem lw_p8 : lw_okq (⟨"ModuleShelf$Machine", "fail", "(I)I"⟩, 3) := ⟨⟨by decide +kernel, by decide +kernel⟩, List.mem_of_getElem? (i := 158) (by decide +kernel), List.mem_of_getElem? (i := 417) (by decide +kernel), List.mem_of_getElem? (i := 418) (by decide +kernel)⟩
theorem lw_p9 : lw_okq (⟨"ModuleShelf$Machine", "assign", "(LModuleShelf$Memory;III)I"⟩, 3) := ⟨⟨by decide +kernel, by decide +kernel⟩, List.mem_of_getElem? (i := 158) (by decide +kernel), List.mem_of_getElem? (i := 427) (by decide +kernel), List.mem_of_getElem? (i := 428) (by decide +kernel)⟩
theorem lw_p10 : lw_okq (⟨"ModuleShelf$Machine", "choose", "(LModuleShelf$Memory;II)I"⟩, 3) := ⟨⟨by decide +kernel, by decide +kernel⟩, List.mem_of_getElem? (i := 158) (by decide +kernel), List.mem_of_getElem? (i := 435) (by decide +kernel), List.mem_of_getElem? (i := 436) (by decide +kernel)⟩
theorem lw_p11 : lw_okq (⟨"ModuleShelf$Machine", "skip", "(LModuleShelf$Memory;LModuleShelf$Frame;)V"⟩, 3) := ⟨⟨by decide +kernel, by decide +kernel⟩, List.mem_of_getElem? (i := 158) (by decide +kernel), List.mem_of_getElem? (i := 439) (by decide +kernel), List.mem_of_getElem? (i := 440) (by decide +kernel)⟩
theorem lw_p12 : lw_okq (⟨"ModuleShelf$Machine", "partsOf", "(LModuleShelf$Memory;LModuleShelf$Code;I)I"⟩, 3) := ⟨⟨by decide +kernel, by decide +kernel⟩, List.mem_of_getElem? (i := 158) (by decide +kernel), List.mem_of_getElem? (i := 443) (by decide +kernel), List.mem_of_getElem? (i := 444) (by decide +kernel)⟩
theorem lw_p13 : lw_okq (⟨"ModuleShelf$Machine", "enter", "(LModuleShelf$Memory;IIII)I"⟩, 3) := ⟨⟨by decide +kernel, by decide +kernel⟩, List.mem_of_getElem? (i := 158) (by decide +kernel), List.mem_of_getElem? (i := 452) (by decide +kernel), List.mem_of_getElem? (i := 453) (by decide +kernel)⟩
theorem lw_p14 : lw_okq (⟨"ModuleShelf$Machine", "combine", "(LModuleShelf$Memory;III)I"⟩, 3) := ⟨⟨by decide +kernel, by decide +kernel⟩, List.mem_of_getElem? (i := 158) (by decide +kernel), List.mem_of_getElem? (i := 456) (by decide +kernel), List.mem_of_getElem? (i := 457) (by decide +kernel)⟩
theorem lw_p15 : lw_okq (⟨"ModuleShelfModel", "firstWrong", "(II)I"⟩, 29) := ⟨⟨by decide +kernel, by decide +kernel⟩, List.mem_of_getElem? (i := 496) (by decide +kernel), List.mem_of_getElem? (i := 609) (by decide +kernel), List.mem_of_getElem? (i := 610) (by decide +kernel)⟩
def lw_privs_1 : List (MethodName × Nat) := [(⟨"ModuleShelf$Library", "isExpression", "(LModuleShelf$Code;III)Z"⟩, 3), (⟨"ModuleShelf$Library", "isRight", "(LModuleShelf$Code;III)Z"⟩, 3), (⟨"ModuleShelf$Library", "argumentsOf", "(LModuleShelf$Code;III)I"⟩, 3), (⟨"ModuleShelf$Library", "partsOf", "(LModuleShelf$Code;II)I"⟩, 3), (⟨"ModuleShelf$Library", "gatherImports", "(LModuleShelf$Unit;I)V"⟩, 3), (⟨"ModuleShelf$Memory", "bringOne", "(LModuleShelf$Library;II)I"⟩, 2), (⟨"ModuleShelf$Memory", "dropBegun", "()V"⟩, 2), (⟨"ModuleShelf$Machine", "work", "(LModuleShelf$Memory;II)I"⟩, 3), (⟨"ModuleShelf$Machine", "fail", "(I)I"⟩, 3), (⟨"ModuleShelf$Machine", "assign", "(LModuleShelf$Memory;III)I"⟩, 3), (⟨"ModuleShelf$Machine", "choose", "(LModuleShelf$Memory;II)I"⟩, 3), (⟨"ModuleShelf$Machine", "skip", "(LModuleShelf$Memory;LModuleShelf$Frame;)V"⟩, 3), (⟨"ModuleShelf$Machine", "partsOf", "(LModuleShelf$Memory;LModuleShelf$Code;I)I"⟩, 3), (⟨"ModuleShelf$Machine", "enter", "(LModuleShelf$Memory;IIII)I"⟩, 3), (⟨"ModuleShelf$Machine", "combine", "(LModuleShelf$Memory;III)I"⟩, 3), (⟨"ModuleShelfModel", "firstWrong", "(II)I"⟩, 29)]
theorem lw_r1 : ∀ q ∈ lw_privs_1, lw_okq q := List.forall_mem_cons.mpr ⟨lw_p0, List.forall_mem_cons.mpr ⟨lw_p1, List.forall_mem_cons.mpr ⟨lw_p2, List.forall_mem_cons.mpr ⟨lw_p3, List.forall_mem_cons.mpr ⟨lw_p4, List.forall_mem_cons.mpr ⟨lw_p5, List.forall_mem_cons.mpr ⟨lw_p6, List.forall_mem_cons.mpr ⟨lw_p7, List.forall_mem_cons.mpr ⟨lw_p8, List.forall_mem_cons.mpr ⟨lw_p9, List.forall_mem_cons.mpr ⟨lw_p10, List.forall_mem_cons.mpr ⟨lw_p11, List.forall_mem_cons.mpr ⟨lw_p12, List.forall_mem_cons.mpr ⟨lw_p13, List.forall_mem_cons.mpr ⟨lw_p14, List.forall_mem_cons.mpr ⟨lw_p15, fun _ h => absurd h List.not_mem_nil⟩⟩⟩⟩⟩⟩⟩⟩⟩⟩⟩⟩⟩⟩⟩⟩
theorem lw_p16 : lw_okq (⟨"ModuleShelfModel", "partsOf", "(III)I"⟩, 29) := ⟨⟨by decide +kernel, by decide +kernel⟩, List.mem_of_getElem? (i := 496) (by decide +kernel), List.mem_of_getElem? (i := 613) (by decide +kernel), List.mem_of_getElem? (i := 614) (by decide +kernel)⟩
theorem lw_p17 : lw_okq (⟨"ModuleShelfModel", "seen", "(II)I"⟩, 29) := ⟨⟨by decide +kernel, by decide +kernel⟩, List.mem_of_getElem? (i := 496) (by decide +kernel), List.mem_of_getElem? (i := 617) (by decide +kernel), List.mem_of_getElem? (i := 618) (by decide +kernel)⟩
theorem lw_p18 : lw_okq (⟨"ModuleShelfModel", "findImports", "(I)V"⟩, 29) := ⟨⟨by decide +kernel, by decide +kernel⟩, List.mem_of_getElem? (i := 496) (by decide +kernel), List.mem_of_getElem? (i := 621) (by decide +kernel), List.mem_of_getElem? (i := 622) (by decide +kernel)⟩
theorem lw_p19 : lw_okq (⟨"ModuleShelfModel", "alike", "(I)Z"⟩, 29) := ⟨⟨by decide +kernel, by decide +kernel⟩, List.mem_of_getElem? (i := 496) (by decide +kernel), List.mem_of_getElem? (i := 625) (by decide +kernel), List.mem_of_getElem? (i := 626) (by decide +kernel)⟩
theorem lw_p20 : lw_okq (⟨"ModuleShelfModel", "copy", "(II)V"⟩, 29) := ⟨⟨by decide +kernel, by decide +kernel⟩, List.mem_of_getElem? (i := 496) (by decide +kernel), List.mem_of_getElem? (i := 629) (by decide +kernel), List.mem_of_getElem? (i := 630) (by decide +kernel)⟩
theorem lw_p21 : lw_okq (⟨"ModuleShelfModel", "begins", "(II)I"⟩, 29) := ⟨⟨by decide +kernel, by decide +kernel⟩, List.mem_of_getElem? (i := 496) (by decide +kernel), List.mem_of_getElem? (i := 645) (by decide +kernel), List.mem_of_getElem? (i := 646) (by decide +kernel)⟩
theorem lw_p22 : lw_okq (⟨"ModuleShelfModel", "cells", "(I)I"⟩, 29) := ⟨⟨by decide +kernel, by decide +kernel⟩, List.mem_of_getElem? (i := 496) (by decide +kernel), List.mem_of_getElem? (i := 649) (by decide +kernel), List.mem_of_getElem? (i := 650) (by decide +kernel)⟩
theorem lw_p23 : lw_okq (⟨"ModuleShelfModel", "allCells", "()I"⟩, 29) := ⟨⟨by decide +kernel, by decide +kernel⟩, List.mem_of_getElem? (i := 496) (by decide +kernel), List.mem_of_getElem? (i := 653) (by decide +kernel), List.mem_of_getElem? (i := 654) (by decide +kernel)⟩
theorem lw_p24 : lw_okq (⟨"ModuleShelfModel", "enter", "(IIIII)V"⟩, 29) := ⟨⟨by decide +kernel, by decide +kernel⟩, List.mem_of_getElem? (i := 496) (by decide +kernel), List.mem_of_getElem? (i := 665) (by decide +kernel), List.mem_of_getElem? (i := 666) (by decide +kernel)⟩
theorem lw_p25 : lw_okq (⟨"ModuleShelfModel", "push", "(III)V"⟩, 29) := ⟨⟨by decide +kernel, by decide +kernel⟩, List.mem_of_getElem? (i := 496) (by decide +kernel), List.mem_of_getElem? (i := 669) (by decide +kernel), List.mem_of_getElem? (i := 670) (by decide +kernel)⟩
theorem lw_p26 : lw_okq (⟨"ModuleShelfModel", "begin", "(II)V"⟩, 29) := ⟨⟨by decide +kernel, by decide +kernel⟩, List.mem_of_getElem? (i := 496) (by decide +kernel), List.mem_of_getElem? (i := 673) (by decide +kernel), List.mem_of_getElem? (i := 674) (by decide +kernel)⟩
theorem lw_p27 : lw_okq (⟨"ModuleShelfModel", "give", "(I)V"⟩, 29) := ⟨⟨by decide +kernel, by decide +kernel⟩, List.mem_of_getElem? (i := 496) (by decide +kernel), List.mem_of_getElem? (i := 677) (by decide +kernel), List.mem_of_getElem? (i := 678) (by decide +kernel)⟩
theorem lw_p28 : lw_okq (⟨"ModuleShelfModel", "end", "(I)I"⟩, 29) := ⟨⟨by decide +kernel, by decide +kernel⟩, List.mem_of_getElem? (i := 496) (by decide +kernel), List.mem_of_getElem? (i := 681) (by decide +kernel), List.mem_of_getElem? (i := 682) (by decide +kernel)⟩
theorem lw_p29 : lw_okq (⟨"ModuleShelfModel", "parts", "(I)I"⟩, 29) := ⟨⟨by decide +kernel, by decide +kernel⟩, List.mem_of_getElem? (i := 496) (by decide +kernel), List.mem_of_getElem? (i := 685) (by decide +kernel), List.mem_of_getElem? (i := 686) (by decide +kernel)⟩
theorem lw_p30 : lw_okq (⟨"ModuleShelfModel", "use", "(II)I"⟩, 29) := ⟨⟨by decide +kernel, by decide +kernel⟩, List.mem_of_getElem? (i := 496) (by decide +kernel), List.mem_of_getElem? (i := 689) (by decide +kernel), List.mem_of_getElem? (i := 690) (by decide +kernel)⟩
theorem lw_p31 : lw_okq (⟨"ModuleShelfModel", "take", "()I"⟩, 29) := ⟨⟨by decide +kernel, by decide +kernel⟩, List.mem_of_getElem? (i := 496) (by decide +kernel), List.mem_of_getElem? (i := 693) (by decide +kernel), List.mem_of_getElem? (i := 694) (by decide +kernel)⟩
def lw_privs_2 : List (MethodName × Nat) := [(⟨"ModuleShelfModel", "partsOf", "(III)I"⟩, 29), (⟨"ModuleShelfModel", "seen", "(II)I"⟩, 29), (⟨"ModuleShelfModel", "findImports", "(I)V"⟩, 29), (⟨"ModuleShelfModel", "alike", "(I)Z"⟩, 29), (⟨"ModuleShelfModel", "copy", "(II)V"⟩, 29), (⟨"ModuleShelfModel", "begins", "(II)I"⟩, 29), (⟨"ModuleShelfModel", "cells", "(I)I"⟩, 29), (⟨"ModuleShelfModel", "allCells", "()I"⟩, 29), (⟨"ModuleShelfModel", "enter", "(IIIII)V"⟩, 29), (⟨"ModuleShelfModel", "push", "(III)V"⟩, 29), (⟨"ModuleShelfModel", "begin", "(II)V"⟩, 29), (⟨"ModuleShelfModel", "give", "(I)V"⟩, 29), (⟨"ModuleShelfModel", "end", "(I)I"⟩, 29), (⟨"ModuleShelfModel", "parts", "(I)I"⟩, 29), (⟨"ModuleShelfModel", "use", "(II)I"⟩, 29), (⟨"ModuleShelfModel", "take", "()I"⟩, 29)]
theorem lw_r2 : ∀ q ∈ lw_privs_2, lw_okq q := List.forall_mem_cons.mpr ⟨lw_p16, List.forall_mem_cons.mpr ⟨lw_p17, List.forall_mem_cons.mpr ⟨lw_p18, List.forall_mem_cons.mpr ⟨lw_p19, List.forall_mem_cons.mpr ⟨lw_p20, List.forall_mem_cons.mpr ⟨lw_p21, List.forall_mem_cons.mpr ⟨lw_p22, List.forall_mem_cons.mpr ⟨lw_p23, List.forall_mem_cons.mpr ⟨lw_p24, List.forall_mem_cons.mpr ⟨lw_p25, List.forall_mem_cons.mpr ⟨lw_p26, List.forall_mem_cons.mpr ⟨lw_p27, List.forall_mem_cons.mpr ⟨lw_p28, List.forall_mem_cons.mpr ⟨lw_p29, List.forall_mem_cons.mpr ⟨lw_p30, List.forall_mem_cons.mpr ⟨lw_p31, fun _ h => absurd h List.not_mem_nil⟩⟩⟩⟩⟩⟩⟩⟩⟩⟩⟩⟩⟩⟩⟩⟩
def lw_privs : List (MethodName × Nat) := lw_privs_1 ++ (lw_privs_2)
def lw_tbl : List Cond := k2_sels lw_privs ++ tables_1
theorem lw_privs_ok : ∀ q ∈ lw_privs, lw_okq q := by
  show ∀ q ∈ lw_privs_1 ++ (lw_privs_2), lw_okq q
  exact List.forall_mem_append.mpr ⟨lw_r1, lw_r2⟩
/-- the words that a callee may take from its caller: all good ones of the tables -/
def gw_l : List Cond := lw_tbl.filter goodWord
theorem gw_of {w : Cond} (i : Nat) (h : lw_tbl[i]? = some w) (hg : goodWord w = true) : w ∈ gw_l := List.mem_filter.mpr ⟨List.mem_of_getElem? h, hg⟩
theorem gw_sub {c : Cond} {ws : List Cond} (h : ∀ w ∈ ws, w ∈ gw_l) : GoodIn (c :: gw_l) ws := fun w hw => ⟨List.mem_cons_of_mem _ (h w hw), good_of_word (List.mem_filter.mp (h w hw)).2⟩
theorem gw_law {ws : List Cond} (h : ∀ w ∈ ws, w ∈ gw_l) : GoodIn lw_tbl ws := fun w hw => ⟨(List.mem_filter.mp (h w hw)).1, good_of_word (List.mem_filter.mp (h w hw)).2⟩
theorem gw_C {c : Cond} (h : c ∈ gw_l) : ∀ w ∈ c :: gw_l, w ∈ gw_l := fun w hw => (List.mem_cons.mp hw).elim (fun e => e ▸ h) id
theorem gw_V {c : Cond} {own C : String} {k : Nat} {y : MethodName} (h : c ∈ gw_l) (h1 : Cond.methodLink own k y ∈ gw_l) (h2 : Cond.instanceMethod y ∈ gw_l) (h3 : Cond.selects C y y ∈ gw_l) (h4 : Cond.initialized C ∈ gw_l) : ∀ w ∈ wsV own k C y (c :: gw_l), w ∈ gw_l := by
  intro w hw
  unfold wsV at hw
  rcases List.mem_append.mp hw with hw | hw
  · simp only [List.mem_cons, List.not_mem_nil, or_false] at hw
    rcases hw with rfl | rfl | rfl | rfl <;> assumption
  · exact gw_C h w hw
theorem gw_S {c : Cond} {own : String} {k : Nat} {y : MethodName} (h : c ∈ gw_l) (h1 : Cond.methodLink own k y ∈ gw_l) (h2 : Cond.static y ∈ gw_l) (h4 : Cond.initialized y.cls ∈ gw_l) : ∀ w ∈ va_wsS own k y (c :: gw_l), w ∈ gw_l := by
  intro w hw
  unfold va_wsS at hw
  rcases List.mem_append.mp hw with hw | hw
  · simp only [List.mem_cons, List.not_mem_nil, or_false] at hw
    rcases hw with rfl | rfl | rfl <;> assumption
  · exact gw_C h w hw
def xr_C : String := "ModuleShelf$Code"
def xt_C : u_T := fun k => match k with
  | 0 => ("ModuleShelf$Code", "variables", "I", false)
  | 1 => ("ModuleShelf$Code", "procedures", "I", false)
  | 2 => ("ModuleShelf$Code", "arguments", "[I", true)
  | 3 => ("ModuleShelf$Code", "lengths", "[I", true)
  | 4 => ("ModuleShelf$Code", "ops", "[I", true)
  | 5 => ("ModuleShelf$Code", "as", "[I", true)
  | _ => ("ModuleShelf$Code", "bs", "[I", true)
def xk_C : Nat → FieldType := fun k => match k with
  | 0 => .int
  | 1 => .int
  | 2 => .array .int
  | 3 => .array .int
  | 4 => .array .int
  | 5 => .array .int
  | _ => .array .int
theorem xn_C : ∀ a, a < 7 → ∀ b, b < 7 → a ≠ b → (xt_C a).2.1 ≠ (xt_C b).2.1 := by decide +kernel
theorem xo_C : ∀ k, k < 7 → parseFieldDescriptor (xt_C k).2.2.1 = some (xk_C k) := by decide +kernel
def xr_F : String := "ModuleShelf$Frame"
def xt_F : u_T := fun k => match k with
  | 0 => ("ModuleShelf$Frame", "module", "I", false)
  | 1 => ("ModuleShelf$Frame", "procedure", "I", false)
  | 2 => ("ModuleShelf$Frame", "x", "I", false)
  | 3 => ("ModuleShelf$Frame", "y", "I", false)
  | _ => ("ModuleShelf$Frame", "at", "I", false)
def xk_F : Nat → FieldType := fun k => match k with
  | 0 => .int
  | 1 => .int
  | 2 => .int
  | 3 => .int
  | _ => .int
theorem xn_F : ∀ a, a < 5 → ∀ b, b < 5 → a ≠ b → (xt_F a).2.1 ≠ (xt_F b).2.1 := by decide +kernel
theorem xo_F : ∀ k, k < 5 → parseFieldDescriptor (xt_F k).2.2.1 = some (xk_F k) := by decide +kernel
def xr_I : String := "ModuleShelf$Image"
def xt_I : u_T := fun k => match k with
  | 0 => ("ModuleShelf$Image", "unit", "LModuleShelf$Unit;", true)
  | _ => ("ModuleShelf$Image", "values", "[I", true)
def xk_I : Nat → FieldType := fun k => match k with
  | 0 => .object "ModuleShelf$Unit"
  | _ => .array .int
theorem xn_I : ∀ a, a < 2 → ∀ b, b < 2 → a ≠ b → (xt_I a).2.1 ≠ (xt_I b).2.1 := by decide +kernel
theorem xo_I : ∀ k, k < 2 → parseFieldDescriptor (xt_I k).2.2.1 = some (xk_I k) := by decide +kernel
def xr_L : String := "ModuleShelf$Library"
def xt_L : u_T := fun k => match k with
  | 0 => ("ModuleShelf$Library", "units", "[LModuleShelf$Unit;", true)
  | 1 => ("ModuleShelf$Library", "keysGiven", "I", false)
  | _ => ("ModuleShelf$Library", "at", "I", false)
def xk_L : Nat → FieldType := fun k => match k with
  | 0 => .array (.object "ModuleShelf$Unit")
  | 1 => .int
  | _ => .int
theorem xn_L : ∀ a, a < 3 → ∀ b, b < 3 → a ≠ b → (xt_L a).2.1 ≠ (xt_L b).2.1 := by decide +kernel
theorem xo_L : ∀ k, k < 3 → parseFieldDescriptor (xt_L k).2.2.1 = some (xk_L k) := by decide +kernel
def xr_N : String := "ModuleShelf$Machine"
def xt_N : u_T := fun k => match k with
  | 0 => ("ModuleShelf$Machine", "frames", "[LModuleShelf$Frame;", true)
  | 1 => ("ModuleShelf$Machine", "stepsBegun", "I", false)
  | _ => ("ModuleShelf$Machine", "fault", "I", false)
def xk_N : Nat → FieldType := fun k => match k with
  | 0 => .array (.object "ModuleShelf$Frame")
  | 1 => .int
  | _ => .int
theorem xn_N : ∀ a, a < 3 → ∀ b, b < 3 → a ≠ b → (xt_N a).2.1 ≠ (xt_N b).2.1 := by decide +kernel
theorem xo_N : ∀ k, k < 3 → parseFieldDescriptor (xt_N k).2.2.1 = some (xk_N k) := by decide +kernel
def xr_M : String := "ModuleShelf$Memory"
def xt_M : u_T := fun k => match k with
  | 0 => ("ModuleShelf$Memory", "images", "[LModuleShelf$Image;", true)
  | _ => ("ModuleShelf$Memory", "begun", "[Z", true)
def xk_M : Nat → FieldType := fun k => match k with
  | 0 => .array (.object "ModuleShelf$Image")
  | _ => .array .boolean
theorem xn_M : ∀ a, a < 2 → ∀ b, b < 2 → a ≠ b → (xt_M a).2.1 ≠ (xt_M b).2.1 := by decide +kernel
theorem xo_M : ∀ k, k < 2 → parseFieldDescriptor (xt_M k).2.2.1 = some (xk_M k) := by decide +kernel
def xr_U : String := "ModuleShelf$Unit"
def xt_U : u_T := fun k => match k with
  | 0 => ("ModuleShelf$Unit", "present", "Z", false)
  | 1 => ("ModuleShelf$Unit", "key", "I", false)
  | 2 => ("ModuleShelf$Unit", "imports", "I", false)
  | 3 => ("ModuleShelf$Unit", "importModules", "[I", true)
  | 4 => ("ModuleShelf$Unit", "importKeys", "[I", true)
  | _ => ("ModuleShelf$Unit", "code", "LModuleShelf$Code;", true)
def xk_U : Nat → FieldType := fun k => match k with
  | 0 => .boolean
  | 1 => .int
  | 2 => .int
  | 3 => .array .int
  | 4 => .array .int
  | _ => .object "ModuleShelf$Code"
theorem xn_U : ∀ a, a < 6 → ∀ b, b < 6 → a ≠ b → (xt_U a).2.1 ≠ (xt_U b).2.1 := by decide +kernel
theorem xo_U : ∀ k, k < 6 → parseFieldDescriptor (xt_U k).2.2.1 = some (xk_U k) := by decide +kernel
def xr_S : String := "ModuleShelf"
def xt_S : u_T := fun k => match k with
  | 0 => ("ModuleShelf", "draft", "LModuleShelf$Code;", true)
  | 1 => ("ModuleShelf", "library", "LModuleShelf$Library;", true)
  | 2 => ("ModuleShelf", "memory", "LModuleShelf$Memory;", true)
  | 3 => ("ModuleShelf", "machine", "LModuleShelf$Machine;", true)
  | 4 => ("ModuleShelf", "wrongPlace", "I", false)
  | _ => ("ModuleShelf", "lastValue", "I", false)
def xk_S : Nat → FieldType := fun k => match k with
  | 0 => .object "ModuleShelf$Code"
  | 1 => .object "ModuleShelf$Library"
  | 2 => .object "ModuleShelf$Memory"
  | 3 => .object "ModuleShelf$Machine"
  | 4 => .int
  | _ => .int
theorem xn_S : ∀ a, a < 6 → ∀ b, b < 6 → a ≠ b → (xt_S a).2.1 ≠ (xt_S b).2.1 := by decide +kernel
theorem xo_S : ∀ k, k < 6 → parseFieldDescriptor (xt_S k).2.2.1 = some (xk_S k) := by decide +kernel
def xr_R : String := "ModuleShelfModel"
def xt_R : u_T := fun k => match k with
  | 0 => ("ModuleShelfModel", "key", "[I", true)
  | 1 => ("ModuleShelfModel", "variables", "[I", true)
  | 2 => ("ModuleShelfModel", "procedures", "[I", true)
  | 3 => ("ModuleShelfModel", "arguments", "[I", true)
  | 4 => ("ModuleShelfModel", "size", "[I", true)
  | 5 => ("ModuleShelfModel", "op", "[I", true)
  | 6 => ("ModuleShelfModel", "a", "[I", true)
  | 7 => ("ModuleShelfModel", "b", "[I", true)
  | 8 => ("ModuleShelfModel", "imports", "[I", true)
  | 9 => ("ModuleShelfModel", "importOf", "[I", true)
  | 10 => ("ModuleShelfModel", "importKey", "[I", true)
  | 11 => ("ModuleShelfModel", "value", "[I", true)
  | 12 => ("ModuleShelfModel", "given", "I", false)
  | 13 => ("ModuleShelfModel", "place", "I", false)
  | 14 => ("ModuleShelfModel", "result", "I", false)
  | 15 => ("ModuleShelfModel", "steps", "I", false)
  | 16 => ("ModuleShelfModel", "loading", "[I", true)
  | 17 => ("ModuleShelfModel", "next", "[I", true)
  | 18 => ("ModuleShelfModel", "left", "[I", true)
  | 19 => ("ModuleShelfModel", "task", "[I", true)
  | 20 => ("ModuleShelfModel", "where", "[I", true)
  | 21 => ("ModuleShelfModel", "frame", "[I", true)
  | 22 => ("ModuleShelfModel", "tasks", "I", false)
  | 23 => ("ModuleShelfModel", "values", "[I", true)
  | 24 => ("ModuleShelfModel", "held", "I", false)
  | 25 => ("ModuleShelfModel", "frameModule", "[I", true)
  | 26 => ("ModuleShelfModel", "frameProcedure", "[I", true)
  | 27 => ("ModuleShelfModel", "frameX", "[I", true)
  | _ => ("ModuleShelfModel", "frameY", "[I", true)
def xk_R : Nat → FieldType := fun k => match k with
  | 0 => .array .int
  | 1 => .array .int
  | 2 => .array .int
  | 3 => .array .int
  | 4 => .array .int
  | 5 => .array .int
  | 6 => .array .int
  | 7 => .array .int
  | 8 => .array .int
  | 9 => .array .int
  | 10 => .array .int
  | 11 => .array .int
  | 12 => .int
  | 13 => .int
  | 14 => .int
  | 15 => .int
  | 16 => .array .int
  | 17 => .array .int
  | 18 => .array .int
  | 19 => .array .int
  | 20 => .array .int
  | 21 => .array .int
  | 22 => .int
  | 23 => .array .int
  | 24 => .int
  | 25 => .array .int
  | 26 => .array .int
  | 27 => .array .int
  | _ => .array .int
theorem xn_R : ∀ a, a < 29 → ∀ b, b < 29 → a ≠ b → (xt_R a).2.1 ≠ (xt_R b).2.1 := by decide +kernel
theorem xo_R : ∀ k, k < 29 → parseFieldDescriptor (xt_R k).2.2.1 = some (xk_R k) := by decide +kernel
abbrev vwCl : List vw_C := [(xr_C, xt_C, 7), (xr_F, xt_F, 5), (xr_I, xt_I, 2), (xr_L, xt_L, 3), (xr_N, xt_N, 3), (xr_M, xt_M, 2), (xr_U, xt_U, 6), (xr_S, xt_S, 6), (xr_R, xt_R, 29)]
set_option maxRecDepth 20000 in
theorem xi_C : ∀ w ∈ u_ws xr_C xt_C 7, w ∈ gw_l := by decide +kernel
set_option maxRecDepth 20000 in
theorem xi_F : ∀ w ∈ u_ws xr_F xt_F 5, w ∈ gw_l := by decide +kernel
set_option maxRecDepth 20000 in
theorem xi_I : ∀ w ∈ u_ws xr_I xt_I 2, w ∈ gw_l := by decide +kernel
set_option maxRecDepth 20000 in
theorem xi_L : ∀ w ∈ u_ws xr_L xt_L 3, w ∈ gw_l := by decide +kernel
set_option maxRecDepth 20000 in
theorem xi_N : ∀ w ∈ u_ws xr_N xt_N 3, w ∈ gw_l := by decide +kernel
set_option maxRecDepth 20000 in
theorem xi_M : ∀ w ∈ u_ws xr_M xt_M 2, w ∈ gw_l := by decide +kernel
set_option maxRecDepth 20000 in
theorem xi_U : ∀ w ∈ u_ws xr_U xt_U 6, w ∈ gw_l := by decide +kernel
set_option maxRecDepth 20000 in
theorem xi_S : ∀ w ∈ u_ws xr_S xt_S 6, w ∈ gw_l := by decide +kernel
set_option maxRecDepth 20000 in
theorem xi_R : ∀ w ∈ u_ws xr_R xt_R 29, w ∈ gw_l := by decide +kernel
abbrev xb_S_init : ByteArray := prog_1_method_1_code
def xy_S_init : MethodName := ⟨"ModuleShelf", "<init>", "()V"⟩
abbrev xw_S_init : Cond := .code xy_S_init xb_S_init 1 none
set_option maxRecDepth 20000 in
theorem xg_S_init : xw_S_init ∈ gw_l := gw_of 49 (by rfl) rfl
abbrev xb_C_init : ByteArray := prog_2_method_1_code
def xy_C_init : MethodName := ⟨"ModuleShelf$Code", "<init>", "()V"⟩
abbrev xw_C_init : Cond := .code xy_C_init xb_C_init 1 none
set_option maxRecDepth 20000 in
theorem xg_C_init : xw_C_init ∈ gw_l := gw_of 57 (by rfl) rfl
abbrev xb_L_init : ByteArray := prog_5_method_1_code
def xy_L_init : MethodName := ⟨"ModuleShelf$Library", "<init>", "()V"⟩
abbrev xw_L_init : Cond := .code xy_L_init xb_L_init 2 none
set_option maxRecDepth 20000 in
theorem xg_L_init : xw_L_init ∈ gw_l := gw_of 94 (by rfl) rfl
abbrev xb_U_init : ByteArray := prog_8_method_1_code
def xy_U_init : MethodName := ⟨"ModuleShelf$Unit", "<init>", "()V"⟩
abbrev xw_U_init : Cond := .code xy_U_init xb_U_init 1 none
set_option maxRecDepth 20000 in
theorem xg_U_init : xw_U_init ∈ gw_l := gw_of 101 (by rfl) rfl
abbrev xb_M_init : ByteArray := prog_7_method_1_code
def xy_M_init : MethodName := ⟨"ModuleShelf$Memory", "<init>", "()V"⟩
abbrev xw_M_init : Cond := .code xy_M_init xb_M_init 2 none
set_option maxRecDepth 20000 in
theorem xg_M_init : xw_M_init ∈ gw_l := gw_of 157 (by rfl) rfl
abbrev xb_I_init : ByteArray := prog_4_method_1_code
def xy_I_init : MethodName := ⟨"ModuleShelf$Image", "<init>", "()V"⟩
abbrev xw_I_init : Cond := .code xy_I_init xb_I_init 1 none
set_option maxRecDepth 20000 in
theorem xg_I_init : xw_I_init ∈ gw_l := gw_of 164 (by rfl) rfl
abbrev xb_N_init : ByteArray := prog_6_method_1_code
def xy_N_init : MethodName := ⟨"ModuleShelf$Machine", "<init>", "()V"⟩
abbrev xw_N_init : Cond := .code xy_N_init xb_N_init 2 none
set_option maxRecDepth 20000 in
theorem xg_N_init : xw_N_init ∈ gw_l := gw_of 193 (by rfl) rfl
abbrev xb_F_init : ByteArray := prog_3_method_1_code
def xy_F_init : MethodName := ⟨"ModuleShelf$Frame", "<init>", "()V"⟩
abbrev xw_F_init : Cond := .code xy_F_init xb_F_init 1 none
set_option maxRecDepth 20000 in
theorem xg_F_init : xw_F_init ∈ gw_l := gw_of 200 (by rfl) rfl
abbrev xb_S_begin : ByteArray := prog_1_method_2_code
def xy_S_begin : MethodName := ⟨"ModuleShelf", "begin", "(I)I"⟩
abbrev xw_S_begin : Cond := .code xy_S_begin xb_S_begin 2 (some .int)
set_option maxRecDepth 20000 in
theorem xg_S_begin : xw_S_begin ∈ gw_l := gw_of 257 (by rfl) rfl
abbrev xb_C_clear : ByteArray := prog_2_method_2_code
def xy_C_clear : MethodName := ⟨"ModuleShelf$Code", "clear", "(I)V"⟩
abbrev xw_C_clear : Cond := .code xy_C_clear xb_C_clear 2 none
set_option maxRecDepth 20000 in
theorem xg_C_clear : xw_C_clear ∈ gw_l := gw_of 261 (by rfl) rfl
abbrev xb_S_procedure : ByteArray := prog_1_method_3_code
def xy_S_procedure : MethodName := ⟨"ModuleShelf", "procedure", "(I)I"⟩
abbrev xw_S_procedure : Cond := .code xy_S_procedure xb_S_procedure 2 (some .int)
set_option maxRecDepth 20000 in
theorem xg_S_procedure : xw_S_procedure ∈ gw_l := gw_of 265 (by rfl) rfl
abbrev xb_C_addProcedure : ByteArray := prog_2_method_3_code
def xy_C_addProcedure : MethodName := ⟨"ModuleShelf$Code", "addProcedure", "(I)I"⟩
abbrev xw_C_addProcedure : Cond := .code xy_C_addProcedure xb_C_addProcedure 2 (some .int)
set_option maxRecDepth 20000 in
theorem xg_C_addProcedure : xw_C_addProcedure ∈ gw_l := gw_of 269 (by rfl) rfl
abbrev xb_S_token : ByteArray := prog_1_method_4_code
def xy_S_token : MethodName := ⟨"ModuleShelf", "token", "(III)I"⟩
abbrev xw_S_token : Cond := .code xy_S_token xb_S_token 4 (some .int)
set_option maxRecDepth 20000 in
theorem xg_S_token : xw_S_token ∈ gw_l := gw_of 273 (by rfl) rfl
abbrev xb_C_addToken : ByteArray := prog_2_method_4_code
def xy_C_addToken : MethodName := ⟨"ModuleShelf$Code", "addToken", "(III)I"⟩
abbrev xw_C_addToken : Cond := .code xy_C_addToken xb_C_addToken 6 (some .int)
set_option maxRecDepth 20000 in
theorem xg_C_addToken : xw_C_addToken ∈ gw_l := gw_of 277 (by rfl) rfl
abbrev xb_C_cellOf : ByteArray := prog_2_method_9_code
def xy_C_cellOf : MethodName := ⟨"ModuleShelf$Code", "cellOf", "(II)I"⟩
abbrev xw_C_cellOf : Cond := .code xy_C_cellOf xb_C_cellOf 3 (some .int)
set_option maxRecDepth 20000 in
theorem xg_C_cellOf : xw_C_cellOf ∈ gw_l := gw_of 281 (by rfl) rfl
abbrev xb_S_compile : ByteArray := prog_1_method_5_code
def xy_S_compile : MethodName := ⟨"ModuleShelf", "compile", "(I)I"⟩
abbrev xw_S_compile : Cond := .code xy_S_compile xb_S_compile 3 (some .int)
set_option maxRecDepth 20000 in
theorem xg_S_compile : xw_S_compile ∈ gw_l := gw_of 285 (by rfl) rfl
abbrev xb_S_isModule : ByteArray := prog_1_method_18_code
def xy_S_isModule : MethodName := ⟨"ModuleShelf", "isModule", "(I)Z"⟩
abbrev xw_S_isModule : Cond := .code xy_S_isModule xb_S_isModule 1 (some .boolean)
set_option maxRecDepth 20000 in
theorem xg_S_isModule : xw_S_isModule ∈ gw_l := gw_of 288 (by rfl) rfl
abbrev xb_L_firstWrong : ByteArray := prog_5_method_4_code
def xy_L_firstWrong : MethodName := ⟨"ModuleShelf$Library", "firstWrong", "(LModuleShelf$Code;I)I"⟩
abbrev xw_L_firstWrong : Cond := .code xy_L_firstWrong xb_L_firstWrong 4 (some .int)
set_option maxRecDepth 20000 in
theorem xg_L_firstWrong : xw_L_firstWrong ∈ gw_l := gw_of 292 (by rfl) rfl
abbrev xb_L_isExpression : ByteArray := prog_5_method_5_code
def xy_L_isExpression : MethodName := ⟨"ModuleShelf$Library", "isExpression", "(LModuleShelf$Code;III)Z"⟩
abbrev xw_L_isExpression : Cond := .code xy_L_isExpression xb_L_isExpression 8 (some .boolean)
set_option maxRecDepth 20000 in
theorem xg_L_isExpression : xw_L_isExpression ∈ gw_l := gw_of 296 (by rfl) rfl
abbrev xb_C_lengthOf : ByteArray := prog_2_method_8_code
def xy_C_lengthOf : MethodName := ⟨"ModuleShelf$Code", "lengthOf", "(I)I"⟩
abbrev xw_C_lengthOf : Cond := .code xy_C_lengthOf xb_C_lengthOf 2 (some .int)
set_option maxRecDepth 20000 in
theorem xg_C_lengthOf : xw_C_lengthOf ∈ gw_l := gw_of 300 (by rfl) rfl
abbrev xb_C_hasProcedure : ByteArray := prog_2_method_5_code
def xy_C_hasProcedure : MethodName := ⟨"ModuleShelf$Code", "hasProcedure", "(I)Z"⟩
abbrev xw_C_hasProcedure : Cond := .code xy_C_hasProcedure xb_C_hasProcedure 2 (some .boolean)
set_option maxRecDepth 20000 in
theorem xg_C_hasProcedure : xw_C_hasProcedure ∈ gw_l := gw_of 304 (by rfl) rfl
abbrev xb_L_isRight : ByteArray := prog_5_method_6_code
def xy_L_isRight : MethodName := ⟨"ModuleShelf$Library", "isRight", "(LModuleShelf$Code;III)Z"⟩
abbrev xw_L_isRight : Cond := .code xy_L_isRight xb_L_isRight 7 (some .boolean)
set_option maxRecDepth 20000 in
theorem xg_L_isRight : xw_L_isRight ∈ gw_l := gw_of 309 (by rfl) rfl
abbrev xb_C_argumentsOf : ByteArray := prog_2_method_7_code
def xy_C_argumentsOf : MethodName := ⟨"ModuleShelf$Code", "argumentsOf", "(I)I"⟩
abbrev xw_C_argumentsOf : Cond := .code xy_C_argumentsOf xb_C_argumentsOf 2 (some .int)
set_option maxRecDepth 20000 in
theorem xg_C_argumentsOf : xw_C_argumentsOf ∈ gw_l := gw_of 313 (by rfl) rfl
abbrev xb_C_hasVariable : ByteArray := prog_2_method_6_code
def xy_C_hasVariable : MethodName := ⟨"ModuleShelf$Code", "hasVariable", "(I)Z"⟩
abbrev xw_C_hasVariable : Cond := .code xy_C_hasVariable xb_C_hasVariable 2 (some .boolean)
set_option maxRecDepth 20000 in
theorem xg_C_hasVariable : xw_C_hasVariable ∈ gw_l := gw_of 317 (by rfl) rfl
abbrev xb_L_has : ByteArray := prog_5_method_2_code
def xy_L_has : MethodName := ⟨"ModuleShelf$Library", "has", "(I)Z"⟩
abbrev xw_L_has : Cond := .code xy_L_has xb_L_has 2 (some .boolean)
set_option maxRecDepth 20000 in
theorem xg_L_has : xw_L_has ∈ gw_l := gw_of 321 (by rfl) rfl
abbrev xb_L_argumentsOf : ByteArray := prog_5_method_8_code
def xy_L_argumentsOf : MethodName := ⟨"ModuleShelf$Library", "argumentsOf", "(LModuleShelf$Code;III)I"⟩
abbrev xw_L_argumentsOf : Cond := .code xy_L_argumentsOf xb_L_argumentsOf 5 (some .int)
set_option maxRecDepth 20000 in
theorem xg_L_argumentsOf : xw_L_argumentsOf ∈ gw_l := gw_of 326 (by rfl) rfl
abbrev xb_L_partsOf : ByteArray := prog_5_method_7_code
def xy_L_partsOf : MethodName := ⟨"ModuleShelf$Library", "partsOf", "(LModuleShelf$Code;II)I"⟩
abbrev xw_L_partsOf : Cond := .code xy_L_partsOf xb_L_partsOf 5 (some .int)
set_option maxRecDepth 20000 in
theorem xg_L_partsOf : xw_L_partsOf ∈ gw_l := gw_of 330 (by rfl) rfl
abbrev xb_L_keep : ByteArray := prog_5_method_9_code
def xy_L_keep : MethodName := ⟨"ModuleShelf$Library", "keep", "(LModuleShelf$Code;I)I"⟩
abbrev xw_L_keep : Cond := .code xy_L_keep xb_L_keep 4 (some .int)
set_option maxRecDepth 20000 in
theorem xg_L_keep : xw_L_keep ∈ gw_l := gw_of 336 (by rfl) rfl
abbrev xb_C_hasInterfaceOf : ByteArray := prog_2_method_11_code
def xy_C_hasInterfaceOf : MethodName := ⟨"ModuleShelf$Code", "hasInterfaceOf", "(LModuleShelf$Code;)Z"⟩
abbrev xw_C_hasInterfaceOf : Cond := .code xy_C_hasInterfaceOf xb_C_hasInterfaceOf 3 (some .boolean)
set_option maxRecDepth 20000 in
theorem xg_C_hasInterfaceOf : xw_C_hasInterfaceOf ∈ gw_l := gw_of 340 (by rfl) rfl
abbrev xb_C_copyFrom : ByteArray := prog_2_method_12_code
def xy_C_copyFrom : MethodName := ⟨"ModuleShelf$Code", "copyFrom", "(LModuleShelf$Code;)V"⟩
abbrev xw_C_copyFrom : Cond := .code xy_C_copyFrom xb_C_copyFrom 2 none
set_option maxRecDepth 20000 in
theorem xg_C_copyFrom : xw_C_copyFrom ∈ gw_l := gw_of 344 (by rfl) rfl
abbrev xb_L_gatherImports : ByteArray := prog_5_method_10_code
def xy_L_gatherImports : MethodName := ⟨"ModuleShelf$Library", "gatherImports", "(LModuleShelf$Unit;I)V"⟩
abbrev xw_L_gatherImports : Cond := .code xy_L_gatherImports xb_L_gatherImports 9 none
set_option maxRecDepth 20000 in
theorem xg_L_gatherImports : xw_L_gatherImports ∈ gw_l := gw_of 351 (by rfl) rfl
abbrev xb_U_addImport : ByteArray := prog_8_method_3_code
def xy_U_addImport : MethodName := ⟨"ModuleShelf$Unit", "addImport", "(II)V"⟩
abbrev xw_U_addImport : Cond := .code xy_U_addImport xb_U_addImport 3 none
set_option maxRecDepth 20000 in
theorem xg_U_addImport : xw_U_addImport ∈ gw_l := gw_of 355 (by rfl) rfl
abbrev xb_U_hasImport : ByteArray := prog_8_method_2_code
def xy_U_hasImport : MethodName := ⟨"ModuleShelf$Unit", "hasImport", "(I)Z"⟩
abbrev xw_U_hasImport : Cond := .code xy_U_hasImport xb_U_hasImport 3 (some .boolean)
set_option maxRecDepth 20000 in
theorem xg_U_hasImport : xw_U_hasImport ∈ gw_l := gw_of 359 (by rfl) rfl
abbrev xb_S_place : ByteArray := prog_1_method_6_code
def xy_S_place : MethodName := ⟨"ModuleShelf", "place", "()I"⟩
abbrev xw_S_place : Cond := .code xy_S_place xb_S_place 1 (some .int)
set_option maxRecDepth 20000 in
theorem xg_S_place : xw_S_place ∈ gw_l := gw_of 363 (by rfl) rfl
abbrev xb_S_remove : ByteArray := prog_1_method_7_code
def xy_S_remove : MethodName := ⟨"ModuleShelf", "remove", "(I)I"⟩
abbrev xw_S_remove : Cond := .code xy_S_remove xb_S_remove 2 (some .int)
set_option maxRecDepth 20000 in
theorem xg_S_remove : xw_S_remove ∈ gw_l := gw_of 367 (by rfl) rfl
abbrev xb_S_load : ByteArray := prog_1_method_8_code
def xy_S_load : MethodName := ⟨"ModuleShelf", "load", "(I)I"⟩
abbrev xw_S_load : Cond := .code xy_S_load xb_S_load 2 (some .int)
set_option maxRecDepth 20000 in
theorem xg_S_load : xw_S_load ∈ gw_l := gw_of 372 (by rfl) rfl
abbrev xb_M_bring : ByteArray := prog_7_method_9_code
def xy_M_bring : MethodName := ⟨"ModuleShelf$Memory", "bring", "(LModuleShelf$Library;I)I"⟩
abbrev xw_M_bring : Cond := .code xy_M_bring xb_M_bring 5 (some .int)
set_option maxRecDepth 20000 in
theorem xg_M_bring : xw_M_bring ∈ gw_l := gw_of 376 (by rfl) rfl
abbrev xb_M_held : ByteArray := prog_7_method_3_code
def xy_M_held : MethodName := ⟨"ModuleShelf$Memory", "held", "()I"⟩
abbrev xw_M_held : Cond := .code xy_M_held xb_M_held 3 (some .int)
set_option maxRecDepth 20000 in
theorem xg_M_held : xw_M_held ∈ gw_l := gw_of 380 (by rfl) rfl
abbrev xb_M_has : ByteArray := prog_7_method_2_code
def xy_M_has : MethodName := ⟨"ModuleShelf$Memory", "has", "(I)Z"⟩
abbrev xw_M_has : Cond := .code xy_M_has xb_M_has 2 (some .boolean)
set_option maxRecDepth 20000 in
theorem xg_M_has : xw_M_has ∈ gw_l := gw_of 384 (by rfl) rfl
abbrev xb_M_bringOne : ByteArray := prog_7_method_10_code
def xy_M_bringOne : MethodName := ⟨"ModuleShelf$Memory", "bringOne", "(LModuleShelf$Library;II)I"⟩
abbrev xw_M_bringOne : Cond := .code xy_M_bringOne xb_M_bringOne 7 (some .int)
set_option maxRecDepth 20000 in
theorem xg_M_bringOne : xw_M_bringOne ∈ gw_l := gw_of 389 (by rfl) rfl
abbrev xb_M_size : ByteArray := prog_7_method_4_code
def xy_M_size : MethodName := ⟨"ModuleShelf$Memory", "size", "()I"⟩
abbrev xw_M_size : Cond := .code xy_M_size xb_M_size 3 (some .int)
set_option maxRecDepth 20000 in
theorem xg_M_size : xw_M_size ∈ gw_l := gw_of 394 (by rfl) rfl
abbrev xb_C_size : ByteArray := prog_2_method_10_code
def xy_C_size : MethodName := ⟨"ModuleShelf$Code", "size", "()I"⟩
abbrev xw_C_size : Cond := .code xy_C_size xb_C_size 3 (some .int)
set_option maxRecDepth 20000 in
theorem xg_C_size : xw_C_size ∈ gw_l := gw_of 398 (by rfl) rfl
abbrev xb_I_fill : ByteArray := prog_4_method_2_code
def xy_I_fill : MethodName := ⟨"ModuleShelf$Image", "fill", "(LModuleShelf$Unit;)V"⟩
abbrev xw_I_fill : Cond := .code xy_I_fill xb_I_fill 2 none
set_option maxRecDepth 20000 in
theorem xg_I_fill : xw_I_fill ∈ gw_l := gw_of 402 (by rfl) rfl
abbrev xb_U_copyFrom : ByteArray := prog_8_method_4_code
def xy_U_copyFrom : MethodName := ⟨"ModuleShelf$Unit", "copyFrom", "(LModuleShelf$Unit;)V"⟩
abbrev xw_U_copyFrom : Cond := .code xy_U_copyFrom xb_U_copyFrom 2 none
set_option maxRecDepth 20000 in
theorem xg_U_copyFrom : xw_U_copyFrom ∈ gw_l := gw_of 406 (by rfl) rfl
abbrev xb_A_fill : ByteArray := prog_13_method_103_code
def xy_A_fill : MethodName := ⟨"java/util/Arrays", "fill", "([II)V"⟩
abbrev xw_A_fill : Cond := .code xy_A_fill xb_A_fill 4 none
set_option maxRecDepth 20000 in
theorem xg_A_fill : xw_A_fill ∈ gw_l := gw_of 411 (by rfl) rfl
abbrev xb_M_dropBegun : ByteArray := prog_7_method_11_code
def xy_M_dropBegun : MethodName := ⟨"ModuleShelf$Memory", "dropBegun", "()V"⟩
abbrev xw_M_dropBegun : Cond := .code xy_M_dropBegun xb_M_dropBegun 2 none
set_option maxRecDepth 20000 in
theorem xg_M_dropBegun : xw_M_dropBegun ∈ gw_l := gw_of 415 (by rfl) rfl
abbrev xb_S_unload : ByteArray := prog_1_method_9_code
def xy_S_unload : MethodName := ⟨"ModuleShelf", "unload", "(I)I"⟩
abbrev xw_S_unload : Cond := .code xy_S_unload xb_S_unload 2 (some .int)
set_option maxRecDepth 20000 in
theorem xg_S_unload : xw_S_unload ∈ gw_l := gw_of 419 (by rfl) rfl
abbrev xb_M_isImported : ByteArray := prog_7_method_5_code
def xy_M_isImported : MethodName := ⟨"ModuleShelf$Memory", "isImported", "(I)Z"⟩
abbrev xw_M_isImported : Cond := .code xy_M_isImported xb_M_isImported 3 (some .boolean)
set_option maxRecDepth 20000 in
theorem xg_M_isImported : xw_M_isImported ∈ gw_l := gw_of 424 (by rfl) rfl
abbrev xb_S_run : ByteArray := prog_1_method_10_code
def xy_S_run : MethodName := ⟨"ModuleShelf", "run", "(IIII)I"⟩
abbrev xw_S_run : Cond := .code xy_S_run xb_S_run 6 (some .int)
set_option maxRecDepth 20000 in
theorem xg_S_run : xw_S_run ∈ gw_l := gw_of 429 (by rfl) rfl
abbrev xb_M_argumentsOf : ByteArray := prog_7_method_6_code
def xy_M_argumentsOf : MethodName := ⟨"ModuleShelf$Memory", "argumentsOf", "(II)I"⟩
abbrev xw_M_argumentsOf : Cond := .code xy_M_argumentsOf xb_M_argumentsOf 3 (some .int)
set_option maxRecDepth 20000 in
theorem xg_M_argumentsOf : xw_M_argumentsOf ∈ gw_l := gw_of 433 (by rfl) rfl
abbrev xb_N_start : ByteArray := prog_6_method_2_code
def xy_N_start : MethodName := ⟨"ModuleShelf$Machine", "start", "(LModuleShelf$Memory;IIII)I"⟩
abbrev xw_N_start : Cond := .code xy_N_start xb_N_start 6 (some .int)
set_option maxRecDepth 20000 in
theorem xg_N_start : xw_N_start ∈ gw_l := gw_of 438 (by rfl) rfl
abbrev xb_F_open : ByteArray := prog_3_method_2_code
def xy_F_open : MethodName := ⟨"ModuleShelf$Frame", "open", "(IIII)V"⟩
abbrev xw_F_open : Cond := .code xy_F_open xb_F_open 5 none
set_option maxRecDepth 20000 in
theorem xg_F_open : xw_F_open ∈ gw_l := gw_of 442 (by rfl) rfl
abbrev xb_N_work : ByteArray := prog_6_method_3_code
def xy_N_work : MethodName := ⟨"ModuleShelf$Machine", "work", "(LModuleShelf$Memory;II)I"⟩
abbrev xw_N_work : Cond := .code xy_N_work xb_N_work 9 (some .int)
set_option maxRecDepth 20000 in
theorem xg_N_work : xw_N_work ∈ gw_l := gw_of 446 (by rfl) rfl
abbrev xb_N_fail : ByteArray := prog_6_method_10_code
def xy_N_fail : MethodName := ⟨"ModuleShelf$Machine", "fail", "(I)I"⟩
abbrev xw_N_fail : Cond := .code xy_N_fail xb_N_fail 2 (some .int)
set_option maxRecDepth 20000 in
theorem xg_N_fail : xw_N_fail ∈ gw_l := gw_of 451 (by rfl) rfl
abbrev xb_M_valueOf : ByteArray := prog_7_method_7_code
def xy_M_valueOf : MethodName := ⟨"ModuleShelf$Memory", "valueOf", "(II)I"⟩
abbrev xw_M_valueOf : Cond := .code xy_M_valueOf xb_M_valueOf 3 (some .int)
set_option maxRecDepth 20000 in
theorem xg_M_valueOf : xw_M_valueOf ∈ gw_l := gw_of 456 (by rfl) rfl
abbrev xb_N_assign : ByteArray := prog_6_method_4_code
def xy_N_assign : MethodName := ⟨"ModuleShelf$Machine", "assign", "(LModuleShelf$Memory;III)I"⟩
abbrev xw_N_assign : Cond := .code xy_N_assign xb_N_assign 6 (some .int)
set_option maxRecDepth 20000 in
theorem xg_N_assign : xw_N_assign ∈ gw_l := gw_of 461 (by rfl) rfl
abbrev xb_M_setValue : ByteArray := prog_7_method_8_code
def xy_M_setValue : MethodName := ⟨"ModuleShelf$Memory", "setValue", "(III)V"⟩
abbrev xw_M_setValue : Cond := .code xy_M_setValue xb_M_setValue 4 none
set_option maxRecDepth 20000 in
theorem xg_M_setValue : xw_M_setValue ∈ gw_l := gw_of 465 (by rfl) rfl
abbrev xb_N_choose : ByteArray := prog_6_method_5_code
def xy_N_choose : MethodName := ⟨"ModuleShelf$Machine", "choose", "(LModuleShelf$Memory;II)I"⟩
abbrev xw_N_choose : Cond := .code xy_N_choose xb_N_choose 6 (some .int)
set_option maxRecDepth 20000 in
theorem xg_N_choose : xw_N_choose ∈ gw_l := gw_of 469 (by rfl) rfl
abbrev xb_N_skip : ByteArray := prog_6_method_8_code
def xy_N_skip : MethodName := ⟨"ModuleShelf$Machine", "skip", "(LModuleShelf$Memory;LModuleShelf$Frame;)V"⟩
abbrev xw_N_skip : Cond := .code xy_N_skip xb_N_skip 6 none
set_option maxRecDepth 20000 in
theorem xg_N_skip : xw_N_skip ∈ gw_l := gw_of 473 (by rfl) rfl
abbrev xb_N_partsOf : ByteArray := prog_6_method_9_code
def xy_N_partsOf : MethodName := ⟨"ModuleShelf$Machine", "partsOf", "(LModuleShelf$Memory;LModuleShelf$Code;I)I"⟩
abbrev xw_N_partsOf : Cond := .code xy_N_partsOf xb_N_partsOf 5 (some .int)
set_option maxRecDepth 20000 in
theorem xg_N_partsOf : xw_N_partsOf ∈ gw_l := gw_of 477 (by rfl) rfl
abbrev xb_N_enter : ByteArray := prog_6_method_6_code
def xy_N_enter : MethodName := ⟨"ModuleShelf$Machine", "enter", "(LModuleShelf$Memory;IIII)I"⟩
abbrev xw_N_enter : Cond := .code xy_N_enter xb_N_enter 9 (some .int)
set_option maxRecDepth 20000 in
theorem xg_N_enter : xw_N_enter ∈ gw_l := gw_of 486 (by rfl) rfl
abbrev xb_N_combine : ByteArray := prog_6_method_7_code
def xy_N_combine : MethodName := ⟨"ModuleShelf$Machine", "combine", "(LModuleShelf$Memory;III)I"⟩
abbrev xw_N_combine : Cond := .code xy_N_combine xb_N_combine 7 (some .int)
set_option maxRecDepth 20000 in
theorem xg_N_combine : xw_N_combine ∈ gw_l := gw_of 490 (by rfl) rfl
abbrev xb_S_value : ByteArray := prog_1_method_11_code
def xy_S_value : MethodName := ⟨"ModuleShelf", "value", "()I"⟩
abbrev xw_S_value : Cond := .code xy_S_value xb_S_value 1 (some .int)
set_option maxRecDepth 20000 in
theorem xg_S_value : xw_S_value ∈ gw_l := gw_of 494 (by rfl) rfl
abbrev xb_S_steps : ByteArray := prog_1_method_12_code
def xy_S_steps : MethodName := ⟨"ModuleShelf", "steps", "()I"⟩
abbrev xw_S_steps : Cond := .code xy_S_steps xb_S_steps 1 (some .int)
set_option maxRecDepth 20000 in
theorem xg_S_steps : xw_S_steps ∈ gw_l := gw_of 498 (by rfl) rfl
abbrev xb_S_variable : ByteArray := prog_1_method_13_code
def xy_S_variable : MethodName := ⟨"ModuleShelf", "variable", "(II)I"⟩
abbrev xw_S_variable : Cond := .code xy_S_variable xb_S_variable 3 (some .int)
set_option maxRecDepth 20000 in
theorem xg_S_variable : xw_S_variable ∈ gw_l := gw_of 502 (by rfl) rfl
abbrev xb_S_key : ByteArray := prog_1_method_14_code
def xy_S_key : MethodName := ⟨"ModuleShelf", "key", "(I)I"⟩
abbrev xw_S_key : Cond := .code xy_S_key xb_S_key 2 (some .int)
set_option maxRecDepth 20000 in
theorem xg_S_key : xw_S_key ∈ gw_l := gw_of 507 (by rfl) rfl
abbrev xb_S_loaded : ByteArray := prog_1_method_15_code
def xy_S_loaded : MethodName := ⟨"ModuleShelf", "loaded", "(I)I"⟩
abbrev xw_S_loaded : Cond := .code xy_S_loaded xb_S_loaded 2 (some .int)
set_option maxRecDepth 20000 in
theorem xg_S_loaded : xw_S_loaded ∈ gw_l := gw_of 511 (by rfl) rfl
abbrev xb_S_imported : ByteArray := prog_1_method_16_code
def xy_S_imported : MethodName := ⟨"ModuleShelf", "imported", "(II)I"⟩
abbrev xw_S_imported : Cond := .code xy_S_imported xb_S_imported 4 (some .int)
set_option maxRecDepth 20000 in
theorem xg_S_imported : xw_S_imported ∈ gw_l := gw_of 515 (by rfl) rfl
abbrev xb_S_count : ByteArray := prog_1_method_17_code
def xy_S_count : MethodName := ⟨"ModuleShelf", "count", "(I)I"⟩
abbrev xw_S_count : Cond := .code xy_S_count xb_S_count 2 (some .int)
set_option maxRecDepth 20000 in
theorem xg_S_count : xw_S_count ∈ gw_l := gw_of 519 (by rfl) rfl
abbrev xb_L_held : ByteArray := prog_5_method_3_code
def xy_L_held : MethodName := ⟨"ModuleShelf$Library", "held", "()I"⟩
abbrev xw_L_held : Cond := .code xy_L_held xb_L_held 3 (some .int)
set_option maxRecDepth 20000 in
theorem xg_L_held : xw_L_held ∈ gw_l := gw_of 524 (by rfl) rfl
abbrev xb_R_init : ByteArray := prog_10_method_1_code
def xy_R_init : MethodName := ⟨"ModuleShelfModel", "<init>", "()V"⟩
abbrev xw_R_init : Cond := .code xy_R_init xb_R_init 1 none
set_option maxRecDepth 20000 in
theorem xg_R_init : xw_R_init ∈ gw_l := gw_of 531 (by rfl) rfl
abbrev xb_R_begin : ByteArray := prog_10_method_3_code
def xy_R_begin : MethodName := ⟨"ModuleShelfModel", "begin", "(I)I"⟩
abbrev xw_R_begin : Cond := .code xy_R_begin xb_R_begin 2 (some .int)
set_option maxRecDepth 20000 in
theorem xg_R_begin : xw_R_begin ∈ gw_l := gw_of 624 (by rfl) rfl
abbrev xb_R_in : ByteArray := prog_10_method_2_code
def xy_R_in : MethodName := ⟨"ModuleShelfModel", "in", "(III)Z"⟩
abbrev xw_R_in : Cond := .code xy_R_in xb_R_in 3 (some .boolean)
set_option maxRecDepth 20000 in
theorem xg_R_in : xw_R_in ∈ gw_l := gw_of 627 (by rfl) rfl
abbrev xb_R_procedure : ByteArray := prog_10_method_4_code
def xy_R_procedure : MethodName := ⟨"ModuleShelfModel", "procedure", "(I)I"⟩
abbrev xw_R_procedure : Cond := .code xy_R_procedure xb_R_procedure 3 (some .int)
set_option maxRecDepth 20000 in
theorem xg_R_procedure : xw_R_procedure ∈ gw_l := gw_of 631 (by rfl) rfl
abbrev xb_R_token : ByteArray := prog_10_method_5_code
def xy_R_token : MethodName := ⟨"ModuleShelfModel", "token", "(III)I"⟩
abbrev xw_R_token : Cond := .code xy_R_token xb_R_token 6 (some .int)
set_option maxRecDepth 20000 in
theorem xg_R_token : xw_R_token ∈ gw_l := gw_of 635 (by rfl) rfl
abbrev xb_R_compile : ByteArray := prog_10_method_12_code
def xy_R_compile : MethodName := ⟨"ModuleShelfModel", "compile", "(I)I"⟩
abbrev xw_R_compile : Cond := .code xy_R_compile xb_R_compile 4 (some .int)
set_option maxRecDepth 20000 in
theorem xg_R_compile : xw_R_compile ∈ gw_l := gw_of 639 (by rfl) rfl
abbrev xb_R_firstWrong : ByteArray := prog_10_method_8_code
def xy_R_firstWrong : MethodName := ⟨"ModuleShelfModel", "firstWrong", "(II)I"⟩
abbrev xw_R_firstWrong : Cond := .code xy_R_firstWrong xb_R_firstWrong 7 (some .int)
set_option maxRecDepth 20000 in
theorem xg_R_firstWrong : xw_R_firstWrong ∈ gw_l := gw_of 643 (by rfl) rfl
abbrev xb_R_partsOf : ByteArray := prog_10_method_7_code
def xy_R_partsOf : MethodName := ⟨"ModuleShelfModel", "partsOf", "(III)I"⟩
abbrev xw_R_partsOf : Cond := .code xy_R_partsOf xb_R_partsOf 6 (some .int)
set_option maxRecDepth 20000 in
theorem xg_R_partsOf : xw_R_partsOf ∈ gw_l := gw_of 647 (by rfl) rfl
abbrev xb_R_seen : ByteArray := prog_10_method_6_code
def xy_R_seen : MethodName := ⟨"ModuleShelfModel", "seen", "(II)I"⟩
abbrev xw_R_seen : Cond := .code xy_R_seen xb_R_seen 3 (some .int)
set_option maxRecDepth 20000 in
theorem xg_R_seen : xw_R_seen ∈ gw_l := gw_of 651 (by rfl) rfl
abbrev xb_R_findImports : ByteArray := prog_10_method_11_code
def xy_R_findImports : MethodName := ⟨"ModuleShelfModel", "findImports", "(I)V"⟩
abbrev xw_R_findImports : Cond := .code xy_R_findImports xb_R_findImports 7 none
set_option maxRecDepth 20000 in
theorem xg_R_findImports : xw_R_findImports ∈ gw_l := gw_of 655 (by rfl) rfl
abbrev xb_R_alike : ByteArray := prog_10_method_9_code
def xy_R_alike : MethodName := ⟨"ModuleShelfModel", "alike", "(I)Z"⟩
abbrev xw_R_alike : Cond := .code xy_R_alike xb_R_alike 3 (some .boolean)
set_option maxRecDepth 20000 in
theorem xg_R_alike : xw_R_alike ∈ gw_l := gw_of 659 (by rfl) rfl
abbrev xb_R_copy : ByteArray := prog_10_method_10_code
def xy_R_copy : MethodName := ⟨"ModuleShelfModel", "copy", "(II)V"⟩
abbrev xw_R_copy : Cond := .code xy_R_copy xb_R_copy 4 none
set_option maxRecDepth 20000 in
theorem xg_R_copy : xw_R_copy ∈ gw_l := gw_of 663 (by rfl) rfl
abbrev xb_R_place : ByteArray := prog_10_method_13_code
def xy_R_place : MethodName := ⟨"ModuleShelfModel", "place", "()I"⟩
abbrev xw_R_place : Cond := .code xy_R_place xb_R_place 1 (some .int)
set_option maxRecDepth 20000 in
theorem xg_R_place : xw_R_place ∈ gw_l := gw_of 667 (by rfl) rfl
abbrev xb_R_remove : ByteArray := prog_10_method_14_code
def xy_R_remove : MethodName := ⟨"ModuleShelfModel", "remove", "(I)I"⟩
abbrev xw_R_remove : Cond := .code xy_R_remove xb_R_remove 2 (some .int)
set_option maxRecDepth 20000 in
theorem xg_R_remove : xw_R_remove ∈ gw_l := gw_of 671 (by rfl) rfl
abbrev xb_R_load : ByteArray := prog_10_method_18_code
def xy_R_load : MethodName := ⟨"ModuleShelfModel", "load", "(I)I"⟩
abbrev xw_R_load : Cond := .code xy_R_load xb_R_load 9 (some .int)
set_option maxRecDepth 20000 in
theorem xg_R_load : xw_R_load ∈ gw_l := gw_of 675 (by rfl) rfl
abbrev xb_R_begins : ByteArray := prog_10_method_17_code
def xy_R_begins : MethodName := ⟨"ModuleShelfModel", "begins", "(II)I"⟩
abbrev xw_R_begins : Cond := .code xy_R_begins xb_R_begins 4 (some .int)
set_option maxRecDepth 20000 in
theorem xg_R_begins : xw_R_begins ∈ gw_l := gw_of 679 (by rfl) rfl
abbrev xb_R_cells : ByteArray := prog_10_method_15_code
def xy_R_cells : MethodName := ⟨"ModuleShelfModel", "cells", "(I)I"⟩
abbrev xw_R_cells : Cond := .code xy_R_cells xb_R_cells 4 (some .int)
set_option maxRecDepth 20000 in
theorem xg_R_cells : xw_R_cells ∈ gw_l := gw_of 683 (by rfl) rfl
abbrev xb_R_allCells : ByteArray := prog_10_method_16_code
def xy_R_allCells : MethodName := ⟨"ModuleShelfModel", "allCells", "()I"⟩
abbrev xw_R_allCells : Cond := .code xy_R_allCells xb_R_allCells 3 (some .int)
set_option maxRecDepth 20000 in
theorem xg_R_allCells : xw_R_allCells ∈ gw_l := gw_of 687 (by rfl) rfl
abbrev xb_R_unload : ByteArray := prog_10_method_19_code
def xy_R_unload : MethodName := ⟨"ModuleShelfModel", "unload", "(I)I"⟩
abbrev xw_R_unload : Cond := .code xy_R_unload xb_R_unload 4 (some .int)
set_option maxRecDepth 20000 in
theorem xg_R_unload : xw_R_unload ∈ gw_l := gw_of 691 (by rfl) rfl
abbrev xb_R_run : ByteArray := prog_10_method_25_code
def xy_R_run : MethodName := ⟨"ModuleShelfModel", "run", "(IIII)I"⟩
abbrev xw_R_run : Cond := .code xy_R_run xb_R_run 9 (some .int)
set_option maxRecDepth 20000 in
theorem xg_R_run : xw_R_run ∈ gw_l := gw_of 695 (by rfl) rfl
abbrev xb_R_enter : ByteArray := prog_10_method_26_code
def xy_R_enter : MethodName := ⟨"ModuleShelfModel", "enter", "(IIIII)V"⟩
abbrev xw_R_enter : Cond := .code xy_R_enter xb_R_enter 6 none
set_option maxRecDepth 20000 in
theorem xg_R_enter : xw_R_enter ∈ gw_l := gw_of 699 (by rfl) rfl
abbrev xb_R_push : ByteArray := prog_10_method_20_code
def xy_R_push : MethodName := ⟨"ModuleShelfModel", "push", "(III)V"⟩
abbrev xw_R_push : Cond := .code xy_R_push xb_R_push 4 none
set_option maxRecDepth 20000 in
theorem xg_R_push : xw_R_push ∈ gw_l := gw_of 703 (by rfl) rfl
abbrev xb_R_begin2 : ByteArray := prog_10_method_27_code
def xy_R_begin2 : MethodName := ⟨"ModuleShelfModel", "begin", "(II)V"⟩
abbrev xw_R_begin2 : Cond := .code xy_R_begin2 xb_R_begin2 5 none
set_option maxRecDepth 20000 in
theorem xg_R_begin2 : xw_R_begin2 ∈ gw_l := gw_of 707 (by rfl) rfl
abbrev xb_R_give : ByteArray := prog_10_method_21_code
def xy_R_give : MethodName := ⟨"ModuleShelfModel", "give", "(I)V"⟩
abbrev xw_R_give : Cond := .code xy_R_give xb_R_give 2 none
set_option maxRecDepth 20000 in
theorem xg_R_give : xw_R_give ∈ gw_l := gw_of 711 (by rfl) rfl
abbrev xb_R_end : ByteArray := prog_10_method_24_code
def xy_R_end : MethodName := ⟨"ModuleShelfModel", "end", "(I)I"⟩
abbrev xw_R_end : Cond := .code xy_R_end xb_R_end 4 (some .int)
set_option maxRecDepth 20000 in
theorem xg_R_end : xw_R_end ∈ gw_l := gw_of 715 (by rfl) rfl
abbrev xb_R_parts : ByteArray := prog_10_method_23_code
def xy_R_parts : MethodName := ⟨"ModuleShelfModel", "parts", "(I)I"⟩
abbrev xw_R_parts : Cond := .code xy_R_parts xb_R_parts 2 (some .int)
set_option maxRecDepth 20000 in
theorem xg_R_parts : xw_R_parts ∈ gw_l := gw_of 719 (by rfl) rfl
abbrev xb_R_use : ByteArray := prog_10_method_28_code
def xy_R_use : MethodName := ⟨"ModuleShelfModel", "use", "(II)I"⟩
abbrev xw_R_use : Cond := .code xy_R_use xb_R_use 7 (some .int)
set_option maxRecDepth 20000 in
theorem xg_R_use : xw_R_use ∈ gw_l := gw_of 723 (by rfl) rfl
abbrev xb_R_take : ByteArray := prog_10_method_22_code
def xy_R_take : MethodName := ⟨"ModuleShelfModel", "take", "()I"⟩
abbrev xw_R_take : Cond := .code xy_R_take xb_R_take 1 (some .int)
set_option maxRecDepth 20000 in
theorem xg_R_take : xw_R_take ∈ gw_l := gw_of 727 (by rfl) rfl
abbrev xb_R_quotient : ByteArray := prog_10_method_29_code
def xy_R_quotient : MethodName := ⟨"ModuleShelfModel", "quotient", "(II)I"⟩
abbrev xw_R_quotient : Cond := .code xy_R_quotient xb_R_quotient 2 (some .int)
set_option maxRecDepth 20000 in
theorem xg_R_quotient : xw_R_quotient ∈ gw_l := gw_of 730 (by rfl) rfl
abbrev xb_R_value : ByteArray := prog_10_method_30_code
def xy_R_value : MethodName := ⟨"ModuleShelfModel", "value", "()I"⟩
abbrev xw_R_value : Cond := .code xy_R_value xb_R_value 1 (some .int)
set_option maxRecDepth 20000 in
theorem xg_R_value : xw_R_value ∈ gw_l := gw_of 734 (by rfl) rfl
abbrev xb_R_steps : ByteArray := prog_10_method_31_code
def xy_R_steps : MethodName := ⟨"ModuleShelfModel", "steps", "()I"⟩
abbrev xw_R_steps : Cond := .code xy_R_steps xb_R_steps 1 (some .int)
set_option maxRecDepth 20000 in
theorem xg_R_steps : xw_R_steps ∈ gw_l := gw_of 738 (by rfl) rfl
abbrev xb_R_variable : ByteArray := prog_10_method_32_code
def xy_R_variable : MethodName := ⟨"ModuleShelfModel", "variable", "(II)I"⟩
abbrev xw_R_variable : Cond := .code xy_R_variable xb_R_variable 3 (some .int)
set_option maxRecDepth 20000 in
theorem xg_R_variable : xw_R_variable ∈ gw_l := gw_of 742 (by rfl) rfl
abbrev xb_R_key : ByteArray := prog_10_method_33_code
def xy_R_key : MethodName := ⟨"ModuleShelfModel", "key", "(I)I"⟩
abbrev xw_R_key : Cond := .code xy_R_key xb_R_key 2 (some .int)
set_option maxRecDepth 20000 in
theorem xg_R_key : xw_R_key ∈ gw_l := gw_of 746 (by rfl) rfl
abbrev xb_R_loaded : ByteArray := prog_10_method_34_code
def xy_R_loaded : MethodName := ⟨"ModuleShelfModel", "loaded", "(I)I"⟩
abbrev xw_R_loaded : Cond := .code xy_R_loaded xb_R_loaded 2 (some .int)
set_option maxRecDepth 20000 in
theorem xg_R_loaded : xw_R_loaded ∈ gw_l := gw_of 750 (by rfl) rfl
abbrev xb_R_imported : ByteArray := prog_10_method_35_code
def xy_R_imported : MethodName := ⟨"ModuleShelfModel", "imported", "(II)I"⟩
abbrev xw_R_imported : Cond := .code xy_R_imported xb_R_imported 3 (some .int)
set_option maxRecDepth 20000 in
theorem xg_R_imported : xw_R_imported ∈ gw_l := gw_of 754 (by rfl) rfl
abbrev xb_R_count : ByteArray := prog_10_method_36_code
def xy_R_count : MethodName := ⟨"ModuleShelfModel", "count", "(I)I"⟩
abbrev xw_R_count : Cond := .code xy_R_count xb_R_count 5 (some .int)
set_option maxRecDepth 20000 in
theorem xg_R_count : xw_R_count ∈ gw_l := gw_of 758 (by rfl) rfl
end
section
/-! The walk's judgement: a context κ (machine, entry state, own cells A), a world w of cells, the listed locals L, pc, operand stack S -/
abbrev aw_K : Type := Program × Launch × Env × Room × State × MethodId × Array Value × List Frame × Method × Code × (State → Prop) × va_G × (Nat → Prop) × Nat
def aw_J : aw_K → Nat → Nat → va_W → List (Nat × Value) → Nat → List Value → Prop
  | (p, l, e, R, s, m, args, below, meth, c, Q, D, A, nL), cells, slots, w, L, pc, S =>
    ∀ (H : Heap) (locs : List Loc) (ls : Array Slot), va_P D vwCl w H → va_D A w → va_S A s.heap H locs → lv_has ls nL L → W p l e R s m args below meth c H locs cells slots Q (F0 m pc ls S)
/-- what lies around: static arrays of ints outside of the world (their fields, addresses, lengths, values), and the words of the nest -/
abbrev aw_T : Type := List ((String × String) × Nat × Nat × (Nat → Int32)) × List Cond
def aw_Nt : Cond → Bool
  | .fieldLinkNest .. => true
  | .methodLinkNest .. => true
  | _ => false
def aw_Z (Zs : aw_T) (A : Nat → Prop) (U : State) : Prop := (∀ z ∈ Zs.1, va_Z z.1.1 z.1.2 "[I" (.ref z.2.1) A U U.heap ∧ va_X z.2.1 z.2.2.1 z.2.2.2 U U.heap ∧ z.2.1 < U.heap.size ∧ ¬ A z.2.1) ∧ ∀ w ∈ Zs.2, aw_Nt w = true ∧ va_Nw w U
/-- a method's end: the answer, the world behind it, the frame -/
def aw_Q (D : va_G) (tys : List (ClassId × FieldType)) (A : Nat → Prop) (r : Option Value) (w : va_W) : Array Value → State → Outcome → State → Prop :=
  fun _ st oc t => oc = .returned r ∧ (va_P D vwCl w t.heap ∧ va_K D vwCl tys t ∧ va_D A w) ∧ va_F A st t
/-- a method's contract: from the world w0 with these arguments it answers r, and leaves the world w1; no cell is made -/
def aw_M (l : Launch) (D : va_G) (tys : List (ClassId × FieldType)) (Zs : aw_T) (y : MethodName) (ws : List Cond) (rm : Room) (as : List Value) (w0 : va_W) (r : Option Value) (w1 : va_W) : Prop :=
  ∀ sz : Nat, Met l y ws rm (va_Pc as (fun V => V.heap.size = sz ∧ va_P D vwCl w0 V.heap ∧ va_K D vwCl tys V ∧ va_D (fun _ => True) w0 ∧ aw_Z Zs (va_A w0 sz) V)) (aw_Q D tys (va_A w0 sz) r w1) 0 0 (va_A w0 sz)
/-- what holds in a method's body -/
def aw_X (l9 : Launch) (D9 : va_G) (tys : List (ClassId × FieldType)) (Zs : aw_T) (rm : Room) (cc : ByteArray) (n9 : Nat) (own : String) (Ts : List Cond) (ret : Option FieldType) (r9 : Option Value) (w9 : va_W) : aw_K → Prop
  | (p, l, e, R, s, m, args, below, meth, c, Q, D, A, nL) => l = l9 ∧ D = D9 ∧ R = rm ∧ nL = n9 ∧ p.tables.exec = Jvm.exec ∧ c.code = cc ∧ c.maxLocals = n9 ∧ s.vm.findClass own = some m.cls ∧ (∀ w ∈ Ts, w.before args s = true) ∧ va_K D vwCl tys s ∧ (∀ q, s.heap.size ≤ q → A q) ∧ meth.locks = false ∧ meth.sig.returnType = ret ∧ aw_Z Zs A s ∧ Q = MQ below (aw_Q D tys A r9 w9) args s 0 0 A
theorem aw_intro {l : Launch} {D : va_G} {tys : List (ClassId × FieldType)} {Zs : aw_T} {y : MethodName} {ws ws' : List Cond} {rm : Room} {as : List Value} {w0 w1 : va_W} {r : Option Value} {cc : ByteArray} {n : Nat} {ret : Option FieldType}
    (own : String) (ho : y.cls = own) (hy : plainName y.cls = true) (hw : ws = Cond.code y cc n ret :: ws') (hn : (lg_sl as).length ≤ n)
    (body : ∀ κ : aw_K, aw_X l D tys Zs rm cc n own ws ret r w1 κ → aw_J κ 0 0 w0 (lv_args 0 as) 0 []) : aw_M l D tys Zs y ws rm as w0 r w1 := by
  intro sz
  refine Met.ofW (cc := cc) (maxL := n) (ret := ret) hy hw ?_
  intro p e s m args below meth c s₁ B hml hv
  obtain ⟨rfl, hsz, hP, hK, hD0, hZ⟩ := hv
  have hts := atoms_spec (ws := ws) B.pre
  subst hsz
  have hD := hD0.self (sz := s.heap.size)
  rw [lg_entry_eq]
  exact body (p, l, e, rm, s, m, as.toArray, below, meth, c, MQ below (aw_Q D tys (va_A w0 s.heap.size) r w1) as.toArray s 0 0 (va_A w0 s.heap.size), D, va_A w0 s.heap.size, n)
    ⟨rfl, rfl, rfl, rfl, B.exec, B.bytes, hml, ho ▸ findClass_of_methodNamed B.named, hts, hK, fun q h => Or.inr h, B.notSynchronized, B.returns, hZ, rfl⟩ s.heap [] _ hP hD va_S.rf (lv_entry as hn)
section AWR
variable {l : Launch} {D : va_G} {tys : List (ClassId × FieldType)} {Zs : aw_T} {rm : Room} {cc : ByteArray} {n : Nat} {own : String} {Ts : List Cond} {ret : Option FieldType} {r9 : Option Value} {w9 : va_W} {κ : aw_K}
variable {cells slots : Nat} {w : va_W} {L L' : List (Nat × Value)} {pc : Nat} {S : List Value}
theorem aw_iconst (C : aw_X l D tys Zs rm cc n own Ts ret r9 w9 κ) {z : Int} {v : Int32} (hd : decode cc pc = .ok (.iconst z, 1)) (hv : Int32.ofInt z = v) (kk : aw_J κ cells slots (w) (L) (pc + 1) (.int v :: S)) : aw_J κ cells slots (w) (L) (pc) (S) := by
  obtain ⟨p, l0, e, R, s, m, args, below, meth, c, Q, D0, A, nL⟩ := κ
  obtain ⟨rfl, rfl, rfl, rfl, hx, hb, hml, hown, hts, hK, hA, hlk, hrt, hZ, hQ⟩ := C
  intro H locs ls hP hD hS hl
  exact lv_iconst hx hb hd hv (kk H locs ls hP hD hS hl)
theorem aw_bipush (C : aw_X l D tys Zs rm cc n own Ts ret r9 w9 κ) {z : Int} {v : Int32} (hd : decode cc pc = .ok (.bipush z, 2)) (hv : (Int8.ofInt z).toInt32 = v) (kk : aw_J κ cells slots (w) (L) (pc + 2) (.int v :: S)) : aw_J κ cells slots (w) (L) (pc) (S) := by
  obtain ⟨p, l0, e, R, s, m, args, below, meth, c, Q, D0, A, nL⟩ := κ
  obtain ⟨rfl, rfl, rfl, rfl, hx, hb, hml, hown, hts, hK, hA, hlk, hrt, hZ, hQ⟩ := C
  intro H locs ls hP hD hS hl
  exact lv_bipush hx hb hd hv (kk H locs ls hP hD hS hl)
theorem aw_sipush (C : aw_X l D tys Zs rm cc n own Ts ret r9 w9 κ) {z : Int} {v : Int32} (hd : decode cc pc = .ok (.sipush z, 3)) (hv : (Int16.ofInt z).toInt32 = v) (kk : aw_J κ cells slots (w) (L) (pc + 3) (.int v :: S)) : aw_J κ cells slots (w) (L) (pc) (S) := by
  obtain ⟨p, l0, e, R, s, m, args, below, meth, c, Q, D0, A, nL⟩ := κ
  obtain ⟨rfl, rfl, rfl, rfl, hx, hb, hml, hown, hts, hK, hA, hlk, hrt, hZ, hQ⟩ := C
  intro H locs ls hP hD hS hl
  exact lv_sipush hx hb hd hv (kk H locs ls hP hD hS hl)
theorem aw_iload_n (C : aw_X l D tys Zs rm cc n own Ts ret r9 w9 κ) {k : Fin 4} {i : Nat} {x : Int32} (j : Nat) (hd : decode cc pc = .ok (.iload_n k, 1)) (hi : (k : Nat) = i) (hj : L[j]? = some (i, .int x)) (kk : aw_J κ cells slots (w) (L) (pc + 1) (.int x :: S)) : aw_J κ cells slots (w) (L) (pc) (S) := by
  obtain ⟨p, l0, e, R, s, m, args, below, meth, c, Q, D0, A, nL⟩ := κ
  obtain ⟨rfl, rfl, rfl, rfl, hx, hb, hml, hown, hts, hK, hA, hlk, hrt, hZ, hQ⟩ := C
  intro H locs ls hP hD hS hl
  exact lv_iload_n hx hb hd hi (lv_at hl j hj) (kk H locs ls hP hD hS hl)
theorem aw_iload (C : aw_X l D tys Zs rm cc n own Ts ret r9 w9 κ) {i : Nat} {x : Int32} (j : Nat) (hd : decode cc pc = .ok (.iload i, 2)) (hj : L[j]? = some (i, .int x)) (kk : aw_J κ cells slots (w) (L) (pc + 2) (.int x :: S)) : aw_J κ cells slots (w) (L) (pc) (S) := by
  obtain ⟨p, l0, e, R, s, m, args, below, meth, c, Q, D0, A, nL⟩ := κ
  obtain ⟨rfl, rfl, rfl, rfl, hx, hb, hml, hown, hts, hK, hA, hlk, hrt, hZ, hQ⟩ := C
  intro H locs ls hP hD hS hl
  exact lv_iload hx hb hd (lv_at hl j hj) (kk H locs ls hP hD hS hl)
theorem aw_aload_n (C : aw_X l D tys Zs rm cc n own Ts ret r9 w9 κ) {k : Fin 4} {i x : Nat} (j : Nat) (hd : decode cc pc = .ok (.aload_n k, 1)) (hi : (k : Nat) = i) (hj : L[j]? = some (i, .ref x)) (kk : aw_J κ cells slots (w) (L) (pc + 1) (.ref x :: S)) : aw_J κ cells slots (w) (L) (pc) (S) := by
  obtain ⟨p, l0, e, R, s, m, args, below, meth, c, Q, D0, A, nL⟩ := κ
  obtain ⟨rfl, rfl, rfl, rfl, hx, hb, hml, hown, hts, hK, hA, hlk, hrt, hZ, hQ⟩ := C
  intro H locs ls hP hD hS hl
  exact lv_aload_n hx hb hd hi (lv_at hl j hj) (kk H locs ls hP hD hS hl)
theorem aw_aload (C : aw_X l D tys Zs rm cc n own Ts ret r9 w9 κ) {i x : Nat} (j : Nat) (hd : decode cc pc = .ok (.aload i, 2)) (hj : L[j]? = some (i, .ref x)) (kk : aw_J κ cells slots (w) (L) (pc + 2) (.ref x :: S)) : aw_J κ cells slots (w) (L) (pc) (S) := by
  obtain ⟨p, l0, e, R, s, m, args, below, meth, c, Q, D0, A, nL⟩ := κ
  obtain ⟨rfl, rfl, rfl, rfl, hx, hb, hml, hown, hts, hK, hA, hlk, hrt, hZ, hQ⟩ := C
  intro H locs ls hP hD hS hl
  exact lv_aload hx hb hd (lv_at hl j hj) (kk H locs ls hP hD hS hl)
theorem aw_iadd (C : aw_X l D tys Zs rm cc n own Ts ret r9 w9 κ) {x y : Int32} (hd : decode cc pc = .ok (.iadd, 1))  (kk : aw_J κ cells slots (w) (L) (pc + 1) (.int (x + y) :: S)) : aw_J κ cells slots (w) (L) (pc) (.int y :: .int x :: S) := by
  obtain ⟨p, l0, e, R, s, m, args, below, meth, c, Q, D0, A, nL⟩ := κ
  obtain ⟨rfl, rfl, rfl, rfl, hx, hb, hml, hown, hts, hK, hA, hlk, hrt, hZ, hQ⟩ := C
  intro H locs ls hP hD hS hl
  exact lv_iadd hx hb hd  (kk H locs ls hP hD hS hl)
theorem aw_isub (C : aw_X l D tys Zs rm cc n own Ts ret r9 w9 κ) {x y : Int32} (hd : decode cc pc = .ok (.isub, 1))  (kk : aw_J κ cells slots (w) (L) (pc + 1) (.int (x - y) :: S)) : aw_J κ cells slots (w) (L) (pc) (.int y :: .int x :: S) := by
  obtain ⟨p, l0, e, R, s, m, args, below, meth, c, Q, D0, A, nL⟩ := κ
  obtain ⟨rfl, rfl, rfl, rfl, hx, hb, hml, hown, hts, hK, hA, hlk, hrt, hZ, hQ⟩ := C
  intro H locs ls hP hD hS hl
  exact lv_isub hx hb hd  (kk H locs ls hP hD hS hl)
theorem aw_imul (C : aw_X l D tys Zs rm cc n own Ts ret r9 w9 κ) {x y : Int32} (hd : decode cc pc = .ok (.imul, 1))  (kk : aw_J κ cells slots (w) (L) (pc + 1) (.int (x * y) :: S)) : aw_J κ cells slots (w) (L) (pc) (.int y :: .int x :: S) := by
  obtain ⟨p, l0, e, R, s, m, args, below, meth, c, Q, D0, A, nL⟩ := κ
  obtain ⟨rfl, rfl, rfl, rfl, hx, hb, hml, hown, hts, hK, hA, hlk, hrt, hZ, hQ⟩ := C
  intro H locs ls hP hD hS hl
  exact lv_imul hx hb hd  (kk H locs ls hP hD hS hl)
theorem aw_iand (C : aw_X l D tys Zs rm cc n own Ts ret r9 w9 κ) {x y : Int32} (hd : decode cc pc = .ok (.iand, 1))  (kk : aw_J κ cells slots (w) (L) (pc + 1) (.int (x &&& y) :: S)) : aw_J κ cells slots (w) (L) (pc) (.int y :: .int x :: S) := by
  obtain ⟨p, l0, e, R, s, m, args, below, meth, c, Q, D0, A, nL⟩ := κ
  obtain ⟨rfl, rfl, rfl, rfl, hx, hb, hml, hown, hts, hK, hA, hlk, hrt, hZ, hQ⟩ := C
  intro H locs ls hP hD hS hl
  exact lv_iand hx hb hd  (kk H locs ls hP hD hS hl)
theorem aw_ior (C : aw_X l D tys Zs rm cc n own Ts ret r9 w9 κ) {x y : Int32} (hd : decode cc pc = .ok (.ior, 1))  (kk : aw_J κ cells slots (w) (L) (pc + 1) (.int (x ||| y) :: S)) : aw_J κ cells slots (w) (L) (pc) (.int y :: .int x :: S) := by
  obtain ⟨p, l0, e, R, s, m, args, below, meth, c, Q, D0, A, nL⟩ := κ
  obtain ⟨rfl, rfl, rfl, rfl, hx, hb, hml, hown, hts, hK, hA, hlk, hrt, hZ, hQ⟩ := C
  intro H locs ls hP hD hS hl
  exact lv_ior hx hb hd  (kk H locs ls hP hD hS hl)
theorem aw_ixor (C : aw_X l D tys Zs rm cc n own Ts ret r9 w9 κ) {x y : Int32} (hd : decode cc pc = .ok (.ixor, 1))  (kk : aw_J κ cells slots (w) (L) (pc + 1) (.int (x ^^^ y) :: S)) : aw_J κ cells slots (w) (L) (pc) (.int y :: .int x :: S) := by
  obtain ⟨p, l0, e, R, s, m, args, below, meth, c, Q, D0, A, nL⟩ := κ
  obtain ⟨rfl, rfl, rfl, rfl, hx, hb, hml, hown, hts, hK, hA, hlk, hrt, hZ, hQ⟩ := C
  intro H locs ls hP hD hS hl
  exact lv_ixor hx hb hd  (kk H locs ls hP hD hS hl)
theorem aw_ineg (C : aw_X l D tys Zs rm cc n own Ts ret r9 w9 κ) {x : Int32} (hd : decode cc pc = .ok (.ineg, 1))  (kk : aw_J κ cells slots (w) (L) (pc + 1) (.int (-x) :: S)) : aw_J κ cells slots (w) (L) (pc) (.int x :: S) := by
  obtain ⟨p, l0, e, R, s, m, args, below, meth, c, Q, D0, A, nL⟩ := κ
  obtain ⟨rfl, rfl, rfl, rfl, hx, hb, hml, hown, hts, hK, hA, hlk, hrt, hZ, hQ⟩ := C
  intro H locs ls hP hD hS hl
  exact lv_ineg hx hb hd  (kk H locs ls hP hD hS hl)
theorem aw_idiv (C : aw_X l D tys Zs rm cc n own Ts ret r9 w9 κ) {x y : Int32} (hd : decode cc pc = .ok (.idiv, 1)) (hne : ¬ y = 0) (kk : aw_J κ cells slots (w) (L) (pc + 1) (.int (x / y) :: S)) : aw_J κ cells slots (w) (L) (pc) (.int y :: .int x :: S) := by
  obtain ⟨p, l0, e, R, s, m, args, below, meth, c, Q, D0, A, nL⟩ := κ
  obtain ⟨rfl, rfl, rfl, rfl, hx, hb, hml, hown, hts, hK, hA, hlk, hrt, hZ, hQ⟩ := C
  intro H locs ls hP hD hS hl
  exact lv_idiv hx hb hd hne (kk H locs ls hP hD hS hl)
theorem aw_ishl (C : aw_X l D tys Zs rm cc n own Ts ret r9 w9 κ) {x y : Int32} (hd : decode cc pc = .ok (.ishl, 1))  (kk : aw_J κ cells slots (w) (L) (pc + 1) (.int (x <<< (y &&& 31)) :: S)) : aw_J κ cells slots (w) (L) (pc) (.int y :: .int x :: S) := by
  obtain ⟨p, l0, e, R, s, m, args, below, meth, c, Q, D0, A, nL⟩ := κ
  obtain ⟨rfl, rfl, rfl, rfl, hx, hb, hml, hown, hts, hK, hA, hlk, hrt, hZ, hQ⟩ := C
  intro H locs ls hP hD hS hl
  exact lv_ishl hx hb hd  (kk H locs ls hP hD hS hl)
theorem aw_ishr (C : aw_X l D tys Zs rm cc n own Ts ret r9 w9 κ) {x y : Int32} (hd : decode cc pc = .ok (.ishr, 1))  (kk : aw_J κ cells slots (w) (L) (pc + 1) (.int (x >>> (y &&& 31)) :: S)) : aw_J κ cells slots (w) (L) (pc) (.int y :: .int x :: S) := by
  obtain ⟨p, l0, e, R, s, m, args, below, meth, c, Q, D0, A, nL⟩ := κ
  obtain ⟨rfl, rfl, rfl, rfl, hx, hb, hml, hown, hts, hK, hA, hlk, hrt, hZ, hQ⟩ := C
  intro H locs ls hP hD hS hl
  exact lv_ishr hx hb hd  (kk H locs ls hP hD hS hl)
theorem aw_dup (C : aw_X l D tys Zs rm cc n own Ts ret r9 w9 κ) {a : Value} (hd : decode cc pc = .ok (.dup, 1)) (ha : a.category = 1) (kk : aw_J κ cells slots (w) (L) (pc + 1) (a :: a :: S)) : aw_J κ cells slots (w) (L) (pc) (a :: S) := by
  obtain ⟨p, l0, e, R, s, m, args, below, meth, c, Q, D0, A, nL⟩ := κ
  obtain ⟨rfl, rfl, rfl, rfl, hx, hb, hml, hown, hts, hK, hA, hlk, hrt, hZ, hQ⟩ := C
  intro H locs ls hP hD hS hl
  exact lv_dup hx hb hd ha (kk H locs ls hP hD hS hl)
theorem aw_pop (C : aw_X l D tys Zs rm cc n own Ts ret r9 w9 κ) {a : Value} (hd : decode cc pc = .ok (.pop, 1)) (ha : a.category = 1) (kk : aw_J κ cells slots (w) (L) (pc + 1) (S)) : aw_J κ cells slots (w) (L) (pc) (a :: S) := by
  obtain ⟨p, l0, e, R, s, m, args, below, meth, c, Q, D0, A, nL⟩ := κ
  obtain ⟨rfl, rfl, rfl, rfl, hx, hb, hml, hown, hts, hK, hA, hlk, hrt, hZ, hQ⟩ := C
  intro H locs ls hP hD hS hl
  exact lv_pop hx hb hd ha (kk H locs ls hP hD hS hl)
theorem aw_dup_x1 (C : aw_X l D tys Zs rm cc n own Ts ret r9 w9 κ) {a b : Value} (hd : decode cc pc = .ok (.dup_x1, 1)) (ha : a.category = 1) (hb2 : b.category = 1) (kk : aw_J κ cells slots (w) (L) (pc + 1) (a :: b :: a :: S)) : aw_J κ cells slots (w) (L) (pc) (a :: b :: S) := by
  obtain ⟨p, l0, e, R, s, m, args, below, meth, c, Q, D0, A, nL⟩ := κ
  obtain ⟨rfl, rfl, rfl, rfl, hx, hb, hml, hown, hts, hK, hA, hlk, hrt, hZ, hQ⟩ := C
  intro H locs ls hP hD hS hl
  exact lv_dup_x1 hx hb hd ha hb2 (kk H locs ls hP hD hS hl)
theorem aw_dup_x2 (C : aw_X l D tys Zs rm cc n own Ts ret r9 w9 κ) {a b d : Value} (hd : decode cc pc = .ok (.dup_x2, 1)) (ha : a.category = 1) (hb2 : b.category = 1) (hd2 : d.category = 1) (kk : aw_J κ cells slots (w) (L) (pc + 1) (a :: b :: d :: a :: S)) : aw_J κ cells slots (w) (L) (pc) (a :: b :: d :: S) := by
  obtain ⟨p, l0, e, R, s, m, args, below, meth, c, Q, D0, A, nL⟩ := κ
  obtain ⟨rfl, rfl, rfl, rfl, hx, hb, hml, hown, hts, hK, hA, hlk, hrt, hZ, hQ⟩ := C
  intro H locs ls hP hD hS hl
  exact lv_dup_x2 hx hb hd ha hb2 hd2 (kk H locs ls hP hD hS hl)
theorem aw_dup2 (C : aw_X l D tys Zs rm cc n own Ts ret r9 w9 κ) {a b : Value} (hd : decode cc pc = .ok (.dup2, 1)) (ha : a.category = 1) (hb2 : b.category = 1) (kk : aw_J κ cells slots (w) (L) (pc + 1) (a :: b :: a :: b :: S)) : aw_J κ cells slots (w) (L) (pc) (a :: b :: S) := by
  obtain ⟨p, l0, e, R, s, m, args, below, meth, c, Q, D0, A, nL⟩ := κ
  obtain ⟨rfl, rfl, rfl, rfl, hx, hb, hml, hown, hts, hK, hA, hlk, hrt, hZ, hQ⟩ := C
  intro H locs ls hP hD hS hl
  exact lv_dup2_11 hx hb hd ha hb2 (kk H locs ls hP hD hS hl)
theorem aw_istore_n (C : aw_X l D tys Zs rm cc n own Ts ret r9 w9 κ) {k : Fin 4} {i : Nat} {x : Int32} (hd : decode cc pc = .ok (.istore_n k, 1)) (hi : (k : Nat) = i) (hn : i < n) (hl' : (i, Value.int x) :: L.filter (fun q => !(q.1 == i) && !(q.1 + 1 == i && q.2.category == 2)) = L') (kk : aw_J κ cells slots (w) (L') (pc + 1) (S)) : aw_J κ cells slots (w) (L) (pc) (Value.int x :: S) := by
  obtain ⟨p, l0, e, R, s, m, args, below, meth, c, Q, D0, A, nL⟩ := κ
  obtain ⟨rfl, rfl, rfl, rfl, hx, hb, hml, hown, hts, hK, hA, hlk, hrt, hZ, hQ⟩ := C
  intro H locs ls hP hD hS hl
  exact lv_istore_n hx hb hd hi hl hn hl' (fun ls hl => kk H locs ls hP hD hS hl)
theorem aw_istore (C : aw_X l D tys Zs rm cc n own Ts ret r9 w9 κ) {i : Nat} {x : Int32} (hd : decode cc pc = .ok (.istore i, 2))  (hn : i < n) (hl' : (i, Value.int x) :: L.filter (fun q => !(q.1 == i) && !(q.1 + 1 == i && q.2.category == 2)) = L') (kk : aw_J κ cells slots (w) (L') (pc + 2) (S)) : aw_J κ cells slots (w) (L) (pc) (Value.int x :: S) := by
  obtain ⟨p, l0, e, R, s, m, args, below, meth, c, Q, D0, A, nL⟩ := κ
  obtain ⟨rfl, rfl, rfl, rfl, hx, hb, hml, hown, hts, hK, hA, hlk, hrt, hZ, hQ⟩ := C
  intro H locs ls hP hD hS hl
  exact lv_istore hx hb hd hl hn hl' (fun ls hl => kk H locs ls hP hD hS hl)
theorem aw_astore_n (C : aw_X l D tys Zs rm cc n own Ts ret r9 w9 κ) {k : Fin 4} {i x : Nat} (hd : decode cc pc = .ok (.astore_n k, 1)) (hi : (k : Nat) = i) (hn : i < n) (hl' : (i, Value.ref x) :: L.filter (fun q => !(q.1 == i) && !(q.1 + 1 == i && q.2.category == 2)) = L') (kk : aw_J κ cells slots (w) (L') (pc + 1) (S)) : aw_J κ cells slots (w) (L) (pc) (Value.ref x :: S) := by
  obtain ⟨p, l0, e, R, s, m, args, below, meth, c, Q, D0, A, nL⟩ := κ
  obtain ⟨rfl, rfl, rfl, rfl, hx, hb, hml, hown, hts, hK, hA, hlk, hrt, hZ, hQ⟩ := C
  intro H locs ls hP hD hS hl
  exact lv_astore_n hx hb hd hi hl hn hl' (fun ls hl => kk H locs ls hP hD hS hl)
theorem aw_astore (C : aw_X l D tys Zs rm cc n own Ts ret r9 w9 κ) {i x : Nat} (hd : decode cc pc = .ok (.astore i, 2))  (hn : i < n) (hl' : (i, Value.ref x) :: L.filter (fun q => !(q.1 == i) && !(q.1 + 1 == i && q.2.category == 2)) = L') (kk : aw_J κ cells slots (w) (L') (pc + 2) (S)) : aw_J κ cells slots (w) (L) (pc) (Value.ref x :: S) := by
  obtain ⟨p, l0, e, R, s, m, args, below, meth, c, Q, D0, A, nL⟩ := κ
  obtain ⟨rfl, rfl, rfl, rfl, hx, hb, hml, hown, hts, hK, hA, hlk, hrt, hZ, hQ⟩ := C
  intro H locs ls hP hD hS hl
  exact lv_astore hx hb hd hl hn hl' (fun ls hl => kk H locs ls hP hD hS hl)
theorem aw_iinc (C : aw_X l D tys Zs rm cc n own Ts ret r9 w9 κ) {i j : Nat} {z : Int} {x v : Int32} (hd : decode cc pc = .ok (.iinc i z, 3)) (hj : L[j]? = some (i, .int x)) (hv : x + Int32.ofInt z = v) (hn : i < n) (hl' : (i, Value.int v) :: L.filter (fun q => !(q.1 == i) && !(q.1 + 1 == i && q.2.category == 2)) = L') (kk : aw_J κ cells slots (w) (L') (pc + 3) (S)) : aw_J κ cells slots (w) (L) (pc) (S) := by
  obtain ⟨p, l0, e, R, s, m, args, below, meth, c, Q, D0, A, nL⟩ := κ
  obtain ⟨rfl, rfl, rfl, rfl, hx, hb, hml, hown, hts, hK, hA, hlk, hrt, hZ, hQ⟩ := C
  intro H locs ls hP hD hS hl
  exact lv_iinc hx hb hd hl hj hv hn hl' (fun ls hl => kk H locs ls hP hD hS hl)
theorem aw_if_eq (C : aw_X l D tys Zs rm cc n own Ts ret r9 w9 κ) {x : Int32} {off : Int} {tgt : Nat} (hd : decode cc pc = .ok (.ifCond .eq off, 3)) (ht : (pc : Int) + off = (tgt : Int)) (kt : x = 0 → aw_J κ cells slots (w) (L) (tgt) (S)) (kf : ¬ x = 0 → aw_J κ cells slots (w) (L) (pc + 3) (S)) : aw_J κ cells slots (w) (L) (pc) (.int x :: S) := by
  obtain ⟨p, l0, e, R, s, m, args, below, meth, c, Q, D0, A, nL⟩ := κ
  obtain ⟨rfl, rfl, rfl, rfl, hx, hb, hml, hown, hts, hK, hA, hlk, hrt, hZ, hQ⟩ := C
  intro H locs ls hP hD hS hl
  exact lv_if_eq hx hb hd ht (fun h => kt h H locs ls hP hD hS hl) (fun h => kf h H locs ls hP hD hS hl)
theorem aw_icmp_eq (C : aw_X l D tys Zs rm cc n own Ts ret r9 w9 κ) {x y : Int32} {off : Int} {tgt : Nat} (hd : decode cc pc = .ok (.if_icmp .eq off, 3)) (ht : (pc : Int) + off = (tgt : Int)) (kt : x = y → aw_J κ cells slots (w) (L) (tgt) (S)) (kf : ¬ x = y → aw_J κ cells slots (w) (L) (pc + 3) (S)) : aw_J κ cells slots (w) (L) (pc) (.int y :: .int x :: S) := by
  obtain ⟨p, l0, e, R, s, m, args, below, meth, c, Q, D0, A, nL⟩ := κ
  obtain ⟨rfl, rfl, rfl, rfl, hx, hb, hml, hown, hts, hK, hA, hlk, hrt, hZ, hQ⟩ := C
  intro H locs ls hP hD hS hl
  exact lv_icmp_eq hx hb hd ht (fun h => kt h H locs ls hP hD hS hl) (fun h => kf h H locs ls hP hD hS hl)
theorem aw_if_ne (C : aw_X l D tys Zs rm cc n own Ts ret r9 w9 κ) {x : Int32} {off : Int} {tgt : Nat} (hd : decode cc pc = .ok (.ifCond .ne off, 3)) (ht : (pc : Int) + off = (tgt : Int)) (kt : ¬ x = 0 → aw_J κ cells slots (w) (L) (tgt) (S)) (kf : x = 0 → aw_J κ cells slots (w) (L) (pc + 3) (S)) : aw_J κ cells slots (w) (L) (pc) (.int x :: S) := by
  obtain ⟨p, l0, e, R, s, m, args, below, meth, c, Q, D0, A, nL⟩ := κ
  obtain ⟨rfl, rfl, rfl, rfl, hx, hb, hml, hown, hts, hK, hA, hlk, hrt, hZ, hQ⟩ := C
  intro H locs ls hP hD hS hl
  exact lv_if_ne hx hb hd ht (fun h => kt h H locs ls hP hD hS hl) (fun h => kf h H locs ls hP hD hS hl)
theorem aw_icmp_ne (C : aw_X l D tys Zs rm cc n own Ts ret r9 w9 κ) {x y : Int32} {off : Int} {tgt : Nat} (hd : decode cc pc = .ok (.if_icmp .ne off, 3)) (ht : (pc : Int) + off = (tgt : Int)) (kt : ¬ x = y → aw_J κ cells slots (w) (L) (tgt) (S)) (kf : x = y → aw_J κ cells slots (w) (L) (pc + 3) (S)) : aw_J κ cells slots (w) (L) (pc) (.int y :: .int x :: S) := by
  obtain ⟨p, l0, e, R, s, m, args, below, meth, c, Q, D0, A, nL⟩ := κ
  obtain ⟨rfl, rfl, rfl, rfl, hx, hb, hml, hown, hts, hK, hA, hlk, hrt, hZ, hQ⟩ := C
  intro H locs ls hP hD hS hl
  exact lv_icmp_ne hx hb hd ht (fun h => kt h H locs ls hP hD hS hl) (fun h => kf h H locs ls hP hD hS hl)
theorem aw_if_lt (C : aw_X l D tys Zs rm cc n own Ts ret r9 w9 κ) {x : Int32} {off : Int} {tgt : Nat} (hd : decode cc pc = .ok (.ifCond .lt off, 3)) (ht : (pc : Int) + off = (tgt : Int)) (kt : x < 0 → aw_J κ cells slots (w) (L) (tgt) (S)) (kf : ¬ x < 0 → aw_J κ cells slots (w) (L) (pc + 3) (S)) : aw_J κ cells slots (w) (L) (pc) (.int x :: S) := by
  obtain ⟨p, l0, e, R, s, m, args, below, meth, c, Q, D0, A, nL⟩ := κ
  obtain ⟨rfl, rfl, rfl, rfl, hx, hb, hml, hown, hts, hK, hA, hlk, hrt, hZ, hQ⟩ := C
  intro H locs ls hP hD hS hl
  exact lv_if_lt hx hb hd ht (fun h => kt h H locs ls hP hD hS hl) (fun h => kf h H locs ls hP hD hS hl)
theorem aw_icmp_lt (C : aw_X l D tys Zs rm cc n own Ts ret r9 w9 κ) {x y : Int32} {off : Int} {tgt : Nat} (hd : decode cc pc = .ok (.if_icmp .lt off, 3)) (ht : (pc : Int) + off = (tgt : Int)) (kt : x < y → aw_J κ cells slots (w) (L) (tgt) (S)) (kf : ¬ x < y → aw_J κ cells slots (w) (L) (pc + 3) (S)) : aw_J κ cells slots (w) (L) (pc) (.int y :: .int x :: S) := by
  obtain ⟨p, l0, e, R, s, m, args, below, meth, c, Q, D0, A, nL⟩ := κ
  obtain ⟨rfl, rfl, rfl, rfl, hx, hb, hml, hown, hts, hK, hA, hlk, hrt, hZ, hQ⟩ := C
  intro H locs ls hP hD hS hl
  exact lv_icmp_lt hx hb hd ht (fun h => kt h H locs ls hP hD hS hl) (fun h => kf h H locs ls hP hD hS hl)
theorem aw_if_ge (C : aw_X l D tys Zs rm cc n own Ts ret r9 w9 κ) {x : Int32} {off : Int} {tgt : Nat} (hd : decode cc pc = .ok (.ifCond .ge off, 3)) (ht : (pc : Int) + off = (tgt : Int)) (kt : 0 ≤ x → aw_J κ cells slots (w) (L) (tgt) (S)) (kf : ¬ 0 ≤ x → aw_J κ cells slots (w) (L) (pc + 3) (S)) : aw_J κ cells slots (w) (L) (pc) (.int x :: S) := by
  obtain ⟨p, l0, e, R, s, m, args, below, meth, c, Q, D0, A, nL⟩ := κ
  obtain ⟨rfl, rfl, rfl, rfl, hx, hb, hml, hown, hts, hK, hA, hlk, hrt, hZ, hQ⟩ := C
  intro H locs ls hP hD hS hl
  exact lv_if_ge hx hb hd ht (fun h => kt h H locs ls hP hD hS hl) (fun h => kf h H locs ls hP hD hS hl)
theorem aw_icmp_ge (C : aw_X l D tys Zs rm cc n own Ts ret r9 w9 κ) {x y : Int32} {off : Int} {tgt : Nat} (hd : decode cc pc = .ok (.if_icmp .ge off, 3)) (ht : (pc : Int) + off = (tgt : Int)) (kt : y ≤ x → aw_J κ cells slots (w) (L) (tgt) (S)) (kf : ¬ y ≤ x → aw_J κ cells slots (w) (L) (pc + 3) (S)) : aw_J κ cells slots (w) (L) (pc) (.int y :: .int x :: S) := by
  obtain ⟨p, l0, e, R, s, m, args, below, meth, c, Q, D0, A, nL⟩ := κ
  obtain ⟨rfl, rfl, rfl, rfl, hx, hb, hml, hown, hts, hK, hA, hlk, hrt, hZ, hQ⟩ := C
  intro H locs ls hP hD hS hl
  exact lv_icmp_ge hx hb hd ht (fun h => kt h H locs ls hP hD hS hl) (fun h => kf h H locs ls hP hD hS hl)
theorem aw_if_gt (C : aw_X l D tys Zs rm cc n own Ts ret r9 w9 κ) {x : Int32} {off : Int} {tgt : Nat} (hd : decode cc pc = .ok (.ifCond .gt off, 3)) (ht : (pc : Int) + off = (tgt : Int)) (kt : 0 < x → aw_J κ cells slots (w) (L) (tgt) (S)) (kf : ¬ 0 < x → aw_J κ cells slots (w) (L) (pc + 3) (S)) : aw_J κ cells slots (w) (L) (pc) (.int x :: S) := by
  obtain ⟨p, l0, e, R, s, m, args, below, meth, c, Q, D0, A, nL⟩ := κ
  obtain ⟨rfl, rfl, rfl, rfl, hx, hb, hml, hown, hts, hK, hA, hlk, hrt, hZ, hQ⟩ := C
  intro H locs ls hP hD hS hl
  exact lv_if_gt hx hb hd ht (fun h => kt h H locs ls hP hD hS hl) (fun h => kf h H locs ls hP hD hS hl)
theorem aw_icmp_gt (C : aw_X l D tys Zs rm cc n own Ts ret r9 w9 κ) {x y : Int32} {off : Int} {tgt : Nat} (hd : decode cc pc = .ok (.if_icmp .gt off, 3)) (ht : (pc : Int) + off = (tgt : Int)) (kt : y < x → aw_J κ cells slots (w) (L) (tgt) (S)) (kf : ¬ y < x → aw_J κ cells slots (w) (L) (pc + 3) (S)) : aw_J κ cells slots (w) (L) (pc) (.int y :: .int x :: S) := by
  obtain ⟨p, l0, e, R, s, m, args, below, meth, c, Q, D0, A, nL⟩ := κ
  obtain ⟨rfl, rfl, rfl, rfl, hx, hb, hml, hown, hts, hK, hA, hlk, hrt, hZ, hQ⟩ := C
  intro H locs ls hP hD hS hl
  exact lv_icmp_gt hx hb hd ht (fun h => kt h H locs ls hP hD hS hl) (fun h => kf h H locs ls hP hD hS hl)
theorem aw_if_le (C : aw_X l D tys Zs rm cc n own Ts ret r9 w9 κ) {x : Int32} {off : Int} {tgt : Nat} (hd : decode cc pc = .ok (.ifCond .le off, 3)) (ht : (pc : Int) + off = (tgt : Int)) (kt : x ≤ 0 → aw_J κ cells slots (w) (L) (tgt) (S)) (kf : ¬ x ≤ 0 → aw_J κ cells slots (w) (L) (pc + 3) (S)) : aw_J κ cells slots (w) (L) (pc) (.int x :: S) := by
  obtain ⟨p, l0, e, R, s, m, args, below, meth, c, Q, D0, A, nL⟩ := κ
  obtain ⟨rfl, rfl, rfl, rfl, hx, hb, hml, hown, hts, hK, hA, hlk, hrt, hZ, hQ⟩ := C
  intro H locs ls hP hD hS hl
  exact lv_if_le hx hb hd ht (fun h => kt h H locs ls hP hD hS hl) (fun h => kf h H locs ls hP hD hS hl)
theorem aw_icmp_le (C : aw_X l D tys Zs rm cc n own Ts ret r9 w9 κ) {x y : Int32} {off : Int} {tgt : Nat} (hd : decode cc pc = .ok (.if_icmp .le off, 3)) (ht : (pc : Int) + off = (tgt : Int)) (kt : x ≤ y → aw_J κ cells slots (w) (L) (tgt) (S)) (kf : ¬ x ≤ y → aw_J κ cells slots (w) (L) (pc + 3) (S)) : aw_J κ cells slots (w) (L) (pc) (.int y :: .int x :: S) := by
  obtain ⟨p, l0, e, R, s, m, args, below, meth, c, Q, D0, A, nL⟩ := κ
  obtain ⟨rfl, rfl, rfl, rfl, hx, hb, hml, hown, hts, hK, hA, hlk, hrt, hZ, hQ⟩ := C
  intro H locs ls hP hD hS hl
  exact lv_icmp_le hx hb hd ht (fun h => kt h H locs ls hP hD hS hl) (fun h => kf h H locs ls hP hD hS hl)
theorem aw_goto (C : aw_X l D tys Zs rm cc n own Ts ret r9 w9 κ) {off : Int} {tgt : Nat} (hd : decode cc pc = .ok (.goto off, 3)) (ht : (pc : Int) + off = (tgt : Int)) (kk : aw_J κ cells slots (w) (L) (tgt) (S)) : aw_J κ cells slots (w) (L) (pc) (S) := by
  obtain ⟨p, l0, e, R, s, m, args, below, meth, c, Q, D0, A, nL⟩ := κ
  obtain ⟨rfl, rfl, rfl, rfl, hx, hb, hml, hown, hts, hK, hA, hlk, hrt, hZ, hQ⟩ := C
  intro H locs ls hP hD hS hl
  exact lv_goto hx hb hd ht (kk H locs ls hP hD hS hl)
theorem aw_tabOut (C : aw_X l D tys Zs rm cc n own Ts ret r9 w9 κ) {dflt lo hi : Int} {offs : Array Int} {len : Nat} {x : Int32} {tgt : Nat} (hd : decode cc pc = .ok (.tableswitch dflt lo hi offs, len)) (h : x.toInt < lo ∨ hi < x.toInt) (ht : (pc : Int) + dflt = (tgt : Int)) (kk : aw_J κ cells slots (w) (L) (tgt) (S)) : aw_J κ cells slots (w) (L) (pc) (.int x :: S) := by
  obtain ⟨p, l0, e, R, s, m, args, below, meth, c, Q, D0, A, nL⟩ := κ
  obtain ⟨rfl, rfl, rfl, rfl, hx, hb, hml, hown, hts, hK, hA, hlk, hrt, hZ, hQ⟩ := C
  intro H locs ls hP hD hS hl
  exact lv_tableOut hx hb hd h ht (kk H locs ls hP hD hS hl)
theorem aw_tabIn (C : aw_X l D tys Zs rm cc n own Ts ret r9 w9 κ) {dflt lo hi : Int} {offs : Array Int} {len : Nat} {x : Int32} {off : Int} {tgt : Nat} (hd : decode cc pc = .ok (.tableswitch dflt lo hi offs, len)) (h1 : ¬ x.toInt < lo) (h2 : ¬ hi < x.toInt) (ho : offs[(x.toInt - lo).toNat]? = some off) (ht : (pc : Int) + off = (tgt : Int)) (kk : aw_J κ cells slots (w) (L) (tgt) (S)) : aw_J κ cells slots (w) (L) (pc) (.int x :: S) := by
  obtain ⟨p, l0, e, R, s, m, args, below, meth, c, Q, D0, A, nL⟩ := κ
  obtain ⟨rfl, rfl, rfl, rfl, hx, hb, hml, hown, hts, hK, hA, hlk, hrt, hZ, hQ⟩ := C
  intro H locs ls hP hD hS hl
  exact lv_tableIn hx hb hd h1 h2 ho ht (kk H locs ls hP hD hS hl)
theorem aw_lookup (C : aw_X l D tys Zs rm cc n own Ts ret r9 w9 κ) {dflt : Int} {ps : Array (Int × Int)} {len : Nat} {x : Int32} {off : Int} {tgt : Nat} (hd : decode cc pc = .ok (.lookupswitch dflt ps, len)) (hp : (ps.toList.zip (ps.toList.drop 1)).all (fun (a, next) => a.1 < next.1) = true) (ho : Op.lookupswitch.offset ps.toList dflt x.toInt = off) (ht : (pc : Int) + off = (tgt : Int)) (kk : aw_J κ cells slots (w) (L) (tgt) (S)) : aw_J κ cells slots (w) (L) (pc) (.int x :: S) := by
  obtain ⟨p, l0, e, R, s, m, args, below, meth, c, Q, D0, A, nL⟩ := κ
  obtain ⟨rfl, rfl, rfl, rfl, hx, hb, hml, hown, hts, hK, hA, hlk, hrt, hZ, hQ⟩ := C
  intro H locs ls hP hD hS hl
  exact lv_lookup hx hb hd hp ho ht (kk H locs ls hP hD hS hl)
theorem aw_iret {v : Int32} (C : aw_X l D tys Zs rm cc n own Ts (some .int) (some (.int v)) w κ) (hd : decode cc pc = .ok (.ireturn, 1)) : aw_J κ 0 0 w L pc [.int v] := by
  obtain ⟨p, l0, e, R, s, m, args, below, meth, c, Q, D0, A, nL⟩ := κ
  obtain ⟨rfl, rfl, rfl, rfl, hx, hb, hml, hown, hts, hK, hA, hlk, hrt, hZ, hQ⟩ := C
  intro H locs ls hP hD hS hl
  subst hQ
  exact W.iret hx hb hrt (fun t ht hW => ⟨rfl, ⟨by rw [ht]; exact hP, va_K.moved hW.alike hK, hD⟩, hS.F ht⟩) hS.2.2 hd hlk
theorem aw_zret {v : Int32} (C : aw_X l D tys Zs rm cc n own Ts (some .boolean) (some (.int v)) w κ) (hv : v = 0 ∨ v = 1) (hd : decode cc pc = .ok (.ireturn, 1)) : aw_J κ 0 0 w L pc [.int v] := by
  obtain ⟨p, l0, e, R, s, m, args, below, meth, c, Q, D0, A, nL⟩ := κ
  obtain ⟨rfl, rfl, rfl, rfl, hx, hb, hml, hown, hts, hK, hA, hlk, hrt, hZ, hQ⟩ := C
  intro H locs ls hP hD hS hl
  subst hQ
  exact W.zret hx hb hrt (by rcases hv with rfl | rfl <;> decide) (fun t ht hW => ⟨rfl, ⟨by rw [ht]; exact hP, va_K.moved hW.alike hK, hD⟩, hS.F ht⟩) hS.2.2 hd hlk
theorem aw_vret (C : aw_X l D tys Zs rm cc n own Ts none none w κ) (hd : decode cc pc = .ok (.return_, 1)) : aw_J κ 0 0 w L pc [] := by
  obtain ⟨p, l0, e, R, s, m, args, below, meth, c, Q, D0, A, nL⟩ := κ
  obtain ⟨rfl, rfl, rfl, rfl, hx, hb, hml, hown, hts, hK, hA, hlk, hrt, hZ, hQ⟩ := C
  intro H locs ls hP hD hS hl
  subst hQ
  exact W.vret hx hb hrt (fun t ht hW => ⟨rfl, ⟨by rw [ht]; exact hP, va_K.moved hW.alike hK, hD⟩, hS.F ht⟩) hS.2.2 hd hlk
end AWR
end
section
/-! A world by a memory: cell k lies at ad k and holds ly k (σ k) -/
abbrev aw_m : Type := Nat → Nat → Int32
def aw_w (N : Nat) (ad : Nat → Nat) (ly : Nat → (Nat → Int32) → va_E) (σ : aw_m) : va_W := (List.range N).map (fun k => (ad k, ly k (σ k)))
def aw_s (σ : aw_m) (k : Nat) (f : Nat → Int32) : aw_m := fun a => if a = k then f else σ a
theorem aw_w_at {N : Nat} {ad : Nat → Nat} {ly : Nat → (Nat → Int32) → va_E} {σ : aw_m} {k : Nat} (h : k < N) : (aw_w N ad ly σ)[k]? = some (ad k, ly k (σ k)) := by
  unfold aw_w
  rw [List.getElem?_map, List.getElem?_range h]
  rfl
theorem aw_w_len {N : Nat} {ad : Nat → Nat} {ly : Nat → (Nat → Int32) → va_E} {σ : aw_m} : (aw_w N ad ly σ).length = N := by
  unfold aw_w
  rw [List.length_map, List.length_range]
theorem aw_w_set {N : Nat} {ad : Nat → Nat} {ly : Nat → (Nat → Int32) → va_E} {σ : aw_m} {k : Nat} {f : Nat → Int32} : (aw_w N ad ly σ).set k (ad k, ly k f) = aw_w N ad ly (aw_s σ k f) := by
  apply List.ext_getElem?
  intro i
  by_cases hi : i < N
  · rw [aw_w_at hi]
    by_cases hk : k = i
    · subst hk
      rw [List.getElem?_set_self (by rw [aw_w_len]; exact hi)]
      simp [aw_s]
    · rw [List.getElem?_set_ne hk, aw_w_at hi]
      simp [aw_s, Ne.symm hk]
  · rw [List.getElem?_eq_none (by rw [List.length_set, aw_w_len]; omega), List.getElem?_eq_none (by rw [aw_w_len]; omega)]
theorem aw_Nw {w : Cond} {s U : State} (hw : aw_Nt w = true) (hW : s.WarmedH U.vm) (h : va_Nw w s) : va_Nw w U := by
  cases w with
  | fieldLinkNest => exact va_Nw.warmF hW h
  | methodLinkNest => exact va_Nw.warmM hW h
  | _ => cases hw
theorem aw_Z.keep {Zs : aw_T} {A B : Nat → Prop} {s U : State} {H : Heap} {locs : List Loc} (h : aw_Z Zs A s) (hS : va_S A s.heap H locs) (hAB : ∀ q, B q → A q) (hU : U.heap = H) (hW : s.WarmedH U.vm) : aw_Z Zs B U := by
  refine ⟨fun z hz => ?_, fun w hw => ⟨(h.2 w hw).1, aw_Nw (h.2 w hw).1 hW (h.2 w hw).2⟩⟩
  obtain ⟨h1, h2, h3, h4⟩ := h.1 z hz
  have hvm := hW.alike
  subst hU
  exact ⟨va_Z.moved hvm ((va_Z.kept h1 (fun a ha hn => hS.2.1 a ha hn)).narrow hAB), va_X.moved hvm (va_X.kept h2 (hS.2.1 _ h3 h4)), Nat.lt_of_lt_of_le h3 hS.1, fun q => h4 (hAB _ q)⟩
theorem aw_Z.same {Zs : aw_T} {A : Nat → Prop} {u U : State} (h : aw_Z Zs A u) (hU : U.heap = u.heap) (hvm : u.vm = U.vm) : aw_Z Zs A U := by
  refine ⟨fun z hz => ?_, fun w hw => ⟨(h.2 w hw).1, ?_⟩⟩
  · obtain ⟨h1, h2, h3, h4⟩ := h.1 z hz
    have ha : u.vm.Alike U.vm := by rw [hvm]; exact Vm.Alike.refl _
    rw [hU]
    exact ⟨va_Z.moved ha h1, va_X.moved ha h2, h3, h4⟩
  · obtain ⟨h1, h2⟩ := h.2 w hw
    cases w with
    | fieldLinkNest => exact va_Nw.same rfl hvm h2
    | methodLinkNest => exact va_Nw.same rfl hvm h2
    | _ => cases h1
section AWH
variable {l : Launch} {D : va_G} {tys : List (ClassId × FieldType)} {Zs : aw_T} {rm : Room} {cc : ByteArray} {n : Nat} {own : String} {Ts : List Cond} {ret : Option FieldType} {r9 : Option Value} {w9 : va_W} {κ : aw_K}
variable {cells slots : Nat} {w : va_W} {L L' : List (Nat × Value)} {pc : Nat} {S : List Value}
variable {N : Nat} {ad : Nat → Nat} {ly : Nat → (Nat → Int32) → va_E} {σ : aw_m}
theorem aw_get (C : aw_X l D tys Zs rm cc n own Ts ret r9 w9 κ) (K : Nat) (hK : K < N) {ci : Nat} {fs : List Value} (hly : ly K (σ K) = .inr (ci, fs)) {Cn : String} {T : u_T} {NN : Nat} (hc : vwCl[ci]? = some (Cn, T, NN)) (hin : ∀ w ∈ u_ws Cn T NN, w ∈ Ts) (i : Nat) (hi : i < NN) {v : Value} (hv : fs[i]? = some v) {index : Nat}
    (hlink : Cond.fieldLink own index (T i).1 (T i).2.1 (T i).2.2.1 ∈ Ts) (hd : decode cc pc = .ok (.getfield index, 3)) (kk : aw_J κ cells slots (aw_w N ad ly σ) L (pc + 3) (v :: S)) : aw_J κ cells slots (aw_w N ad ly σ) L pc (.ref (ad K) :: S) := by
  obtain ⟨p, l0, e, R, s, m, args, below, meth, c, Q, D0, A, nL⟩ := κ
  obtain ⟨rfl, rfl, rfl, rfl, hx, hb, hml, hown, hts, hKK, hA, hlk, hrt, hZ, hQ⟩ := C
  intro H locs ls hP hD hS hl
  exact va_get hx hb hts hin hown hKK hP K (by rw [aw_w_at hK, hly]) hc i hi (hts _ hlink) (fun _ h => h) hv hd (kk H locs ls hP hD hS hl)
theorem aw_put (C : aw_X l D tys Zs rm cc n own Ts ret r9 w9 κ) (K : Nat) (hK : K < N) {ci : Nat} {fs : List Value} (hly : ly K (σ K) = .inr (ci, fs)) {Cn : String} {T : u_T} {NN : Nat} (hc : vwCl[ci]? = some (Cn, T, NN)) (hin : ∀ w ∈ u_ws Cn T NN, w ∈ Ts) (ty0 : Nat → FieldType) (hty : ∀ k, k < NN → parseFieldDescriptor (T k).2.2.1 = some (ty0 k)) (hnm : ∀ a, a < NN → ∀ b, b < NN → a ≠ b → (T a).2.1 ≠ (T b).2.1)
    (i : Nat) (hi : i < NN) {index : Nat} (hlink : Cond.fieldLink own index (T i).1 (T i).2.1 (T i).2.2.1 ∈ Ts) (hfin : (T i).2.2.2 = false) {ty : FieldType} {v : Value} (hdsc : parseFieldDescriptor (T i).2.2.1 = some ty) (hnar : narrow ty v = v) (hfit : fits ty v = true) (hlen : i < fs.length) {f : Nat → Int32} {σ1 : aw_m} (hset : ly K f = .inr (ci, fs.set i v)) (hσ : σ1 = aw_s σ K f)
    (hd : decode cc pc = .ok (.putfield index, 3)) (kk : aw_J κ cells slots (aw_w N ad ly σ1) L (pc + 3) S) : aw_J κ cells slots (aw_w N ad ly σ) L pc (v :: .ref (ad K) :: S) := by
  obtain ⟨p, l0, e, R, s, m, args, below, meth, c, Q, D0, A, nL⟩ := κ
  obtain ⟨rfl, rfl, rfl, rfl, hx, hb, hml, hown, hts, hKK, hA, hlk, hrt, hZ, hQ⟩ := C
  intro H locs ls hP hD hS hl
  refine va_put hx hb hts hin ty0 hty hnm hown hKK hP hD hS K (by rw [aw_w_at hK, hly]) hc i hi (hts _ hlink) (fun _ h => h) hfin hdsc hnar hfit hlen hd (fun H1 locs1 hP1 hD1 hS1 => ?_)
  rw [← hset, aw_w_set, ← hσ] at hP1 hD1
  exact kk H1 locs1 ls hP1 hD1 hS1 hl
theorem aw_iald (C : aw_X l D tys Zs rm cc n own Ts ret r9 w9 κ) (K : Nat) (hK : K < N) (t0 : Nat) {cA : ClassId} {nn : Nat} {f : Nat → Int32} (hly : ly K (σ K) = .inl (cA, nn, .inl f)) (ht : tys[t0]? = some (cA, .int)) {i : Int32} (hin : vp_in i nn)
    (hd : decode cc pc = .ok (.iaload, 1)) (kk : aw_J κ cells slots (aw_w N ad ly σ) L (pc + 1) (.int (f i.toNatClampNeg) :: S)) : aw_J κ cells slots (aw_w N ad ly σ) L pc (.int i :: .ref (ad K) :: S) := by
  obtain ⟨p, l0, e, R, s, m, args, below, meth, c, Q, D0, A, nL⟩ := κ
  obtain ⟨rfl, rfl, rfl, rfl, hx, hb, hml, hown, hts, hKK, hA, hlk, hrt, hZ, hQ⟩ := C
  intro H locs ls hP hD hS hl
  exact va_iald hx hb hKK hP K t0 (by rw [aw_w_at hK, hly]) ht hin hd (kk H locs ls hP hD hS hl)
theorem aw_iast (C : aw_X l D tys Zs rm cc n own Ts ret r9 w9 κ) (K : Nat) (hK : K < N) (t0 : Nat) {cA : ClassId} {nn : Nat} {f g : Nat → Int32} (hly : ly K (σ K) = .inl (cA, nn, .inl f)) (ht : tys[t0]? = some (cA, .int)) {i x : Int32} (hin : vp_in i nn) {σ1 : aw_m} (hset : ly K g = .inl (cA, nn, .inl (upd f i.toNatClampNeg x))) (hσ : σ1 = aw_s σ K g)
    (hd : decode cc pc = .ok (.iastore, 1)) (kk : aw_J κ cells slots (aw_w N ad ly σ1) L (pc + 1) S) : aw_J κ cells slots (aw_w N ad ly σ) L pc (.int x :: .int i :: .ref (ad K) :: S) := by
  obtain ⟨p, l0, e, R, s, m, args, below, meth, c, Q, D0, A, nL⟩ := κ
  obtain ⟨rfl, rfl, rfl, rfl, hx, hb, hml, hown, hts, hKK, hA, hlk, hrt, hZ, hQ⟩ := C
  intro H locs ls hP hD hS hl
  refine va_iast hx hb hKK hP hD hS K t0 (by rw [aw_w_at hK, hly]) ht hin hd (fun H1 locs1 hP1 hD1 hS1 => ?_)
  rw [← hset, aw_w_set, ← hσ] at hP1 hD1
  exact kk H1 locs1 ls hP1 hD1 hS1 hl
theorem aw_zald (C : aw_X l D tys Zs rm cc n own Ts ret r9 w9 κ) (K : Nat) (hK : K < N) (t0 : Nat) {cA : ClassId} {nn : Nat} {f : Nat → Int32} (hly : ly K (σ K) = .inl (cA, nn, .inl f)) (ht : tys[t0]? = some (cA, .boolean)) {i : Int32} (hin : vp_in i nn)
    (hd : decode cc pc = .ok (.baload, 1)) (kk : aw_J κ cells slots (aw_w N ad ly σ) L (pc + 1) (.int (f i.toNatClampNeg) :: S)) : aw_J κ cells slots (aw_w N ad ly σ) L pc (.int i :: .ref (ad K) :: S) := by
  obtain ⟨p, l0, e, R, s, m, args, below, meth, c, Q, D0, A, nL⟩ := κ
  obtain ⟨rfl, rfl, rfl, rfl, hx, hb, hml, hown, hts, hKK, hA, hlk, hrt, hZ, hQ⟩ := C
  intro H locs ls hP hD hS hl
  exact va_zald hx hb hKK hP K t0 (by rw [aw_w_at hK, hly]) ht hin hd (kk H locs ls hP hD hS hl)
theorem aw_nz {x : Int32} (h : x = 0 ∨ x = 1) : vp_nar .boolean x = x := by rcases h with rfl | rfl <;> decide
theorem aw_zast (C : aw_X l D tys Zs rm cc n own Ts ret r9 w9 κ) (K : Nat) (hK : K < N) (t0 : Nat) {cA : ClassId} {nn : Nat} {f g : Nat → Int32} (hly : ly K (σ K) = .inl (cA, nn, .inl f)) (ht : tys[t0]? = some (cA, .boolean)) {i x : Int32} (hin : vp_in i nn) (hz : x = 0 ∨ x = 1) {σ1 : aw_m} (hset : ly K g = .inl (cA, nn, .inl (upd f i.toNatClampNeg x))) (hσ : σ1 = aw_s σ K g)
    (hd : decode cc pc = .ok (.bastore, 1)) (kk : aw_J κ cells slots (aw_w N ad ly σ1) L (pc + 1) S) : aw_J κ cells slots (aw_w N ad ly σ) L pc (.int x :: .int i :: .ref (ad K) :: S) := by
  obtain ⟨p, l0, e, R, s, m, args, below, meth, c, Q, D0, A, nL⟩ := κ
  obtain ⟨rfl, rfl, rfl, rfl, hx, hb, hml, hown, hts, hKK, hA, hlk, hrt, hZ, hQ⟩ := C
  intro H locs ls hP hD hS hl
  refine va_zast hx hb hKK hP hD hS K t0 (by rw [aw_w_at hK, hly]) ht hin hd (fun H1 locs1 hP1 hD1 hS1 => ?_)
  rw [aw_nz hz, ← hset, aw_w_set, ← hσ] at hP1 hD1
  exact kk H1 locs1 ls hP1 hD1 hS1 hl
theorem aw_aald (C : aw_X l D tys Zs rm cc n own Ts ret r9 w9 κ) (K : Nat) (hK : K < N) (t0 : Nat) {cA : ClassId} {Cn : String} {nn : Nat} {f : Nat → Option Nat} (hly : ly K (σ K) = .inl (cA, nn, .inr (.inr (.inr (.inr f))))) (ht : tys[t0]? = some (cA, .object Cn)) {i : Int32} (hin : vp_in i nn) {b : Nat} (hf : f i.toNatClampNeg = some b)
    (hd : decode cc pc = .ok (.aaload, 1)) (kk : aw_J κ cells slots (aw_w N ad ly σ) L (pc + 1) (.ref b :: S)) : aw_J κ cells slots (aw_w N ad ly σ) L pc (.int i :: .ref (ad K) :: S) := by
  obtain ⟨p, l0, e, R, s, m, args, below, meth, c, Q, D0, A, nL⟩ := κ
  obtain ⟨rfl, rfl, rfl, rfl, hx, hb, hml, hown, hts, hKK, hA, hlk, hrt, hZ, hQ⟩ := C
  intro H locs ls hP hD hS hl
  refine va_aldq hx hb hKK hP K t0 (by rw [aw_w_at hK, hly]) ht hin hd ?_
  rw [hf]
  exact kk H locs ls hP hD hS hl
theorem aw_alen (C : aw_X l D tys Zs rm cc n own Ts ret r9 w9 κ) (K : Nat) (hK : K < N) (t0 : Nat) {cA : ClassId} {x : vp_A} (hly : ly K (σ K) = .inl (cA, x)) {ty : FieldType} (ht : tys[t0]? = some (cA, ty)) {v : Int32} (hv : Int32.ofNat x.1 = v)
    (hd : decode cc pc = .ok (.arraylength, 1)) (kk : aw_J κ cells slots (aw_w N ad ly σ) L (pc + 1) (.int v :: S)) : aw_J κ cells slots (aw_w N ad ly σ) L pc (.ref (ad K) :: S) := by
  obtain ⟨p, l0, e, R, s, m, args, below, meth, c, Q, D0, A, nL⟩ := κ
  obtain ⟨rfl, rfl, rfl, rfl, hx, hb, hml, hown, hts, hKK, hA, hlk, hrt, hZ, hQ⟩ := C
  intro H locs ls hP hD hS hl
  exact va_alen hx hb hKK hP K t0 (by rw [aw_w_at hK, hly]) ht hv hd (kk H locs ls hP hD hS hl)
theorem aw_gets (C : aw_X l D tys Zs rm cc n own Ts ret r9 w9 κ) {z : (String × String) × Nat × Nat × (Nat → Int32)} (hz : z ∈ Zs.1) {index : Nat} (hlink : Cond.fieldLink own index z.1.1 z.1.2 "[I" ∈ Ts) (hd : decode cc pc = .ok (.getstatic index, 3)) (kk : aw_J κ cells slots w L (pc + 3) (.ref z.2.1 :: S)) : aw_J κ cells slots w L pc S := by
  obtain ⟨p, l0, e, R, s, m, args, below, meth, c, Q, D0, A, nL⟩ := κ
  obtain ⟨rfl, rfl, rfl, rfl, hx, hb, hml, hown, hts, hKK, hA, hlk, hrt, hZ, hQ⟩ := C
  intro H locs ls hP hD hS hl
  exact va_gets hx hb (hZ.1 z hz).1 hS hown (hts _ hlink) (fun _ h => h) hd (kk H locs ls hP hD hS hl)
theorem aw_getsN (C : aw_X l D tys Zs rm cc n own Ts ret r9 w9 κ) {z : (String × String) × Nat × Nat × (Nat → Int32)} (hz : z ∈ Zs.1) {index : Nat} {host : String} (hlink : Cond.fieldLinkNest own index z.1.1 z.1.2 "[I" host ∈ Zs.2) (hd : decode cc pc = .ok (.getstatic index, 3)) (kk : aw_J κ cells slots w L (pc + 3) (.ref z.2.1 :: S)) : aw_J κ cells slots w L pc S := by
  obtain ⟨p, l0, e, R, s, m, args, below, meth, c, Q, D0, A, nL⟩ := κ
  obtain ⟨rfl, rfl, rfl, rfl, hx, hb, hml, hown, hts, hKK, hA, hlk, hrt, hZ, hQ⟩ := C
  intro H locs ls hP hD hS hl
  exact va_getsN hx hb (hZ.1 z hz).1 hS hown (va_Nw.use rfl (hZ.2 _ hlink).2) (fun _ h => h) hd (kk H locs ls hP hD hS hl)
theorem aw_sald (C : aw_X l D tys Zs rm cc n own Ts ret r9 w9 κ) {z : (String × String) × Nat × Nat × (Nat → Int32)} (hz : z ∈ Zs.1) {i : Int32} (hin : vp_in i z.2.2.1) (hd : decode cc pc = .ok (.iaload, 1)) (kk : aw_J κ cells slots w L (pc + 1) (.int (z.2.2.2 i.toNatClampNeg) :: S)) : aw_J κ cells slots w L pc (.int i :: .ref z.2.1 :: S) := by
  obtain ⟨p, l0, e, R, s, m, args, below, meth, c, Q, D0, A, nL⟩ := κ
  obtain ⟨rfl, rfl, rfl, rfl, hx, hb, hml, hown, hts, hKK, hA, hlk, hrt, hZ, hQ⟩ := C
  intro H locs ls hP hD hS hl
  exact va_sld hx hb (hZ.1 z hz).2.1 (hZ.1 z hz).2.2.1 (hZ.1 z hz).2.2.2 hS hin hd (kk H locs ls hP hD hS hl)
theorem aw_copy (C : aw_X l D tys Zs rm cc n own Ts ret r9 w9 κ) (K0 K1 : Nat) (hK0 : K0 < N) (hK1 : K1 < N) (t0 : Nat) {c0 : ClassId} {n0 n1 : Nat} {f g h : Nat → Int32} (hly0 : ly K0 (σ K0) = .inl (c0, n0, .inl f)) (hly1 : ly K1 (σ K1) = .inl (c0, n1, .inl g)) (ht : tys[t0]? = some (c0, .int)) {index : Nat} (hlink : Cond.methodLink own index arraycopyName ∈ Ts) (hnat : Cond.native arraycopyName ∈ Ts) (hstat : Cond.static arraycopyName ∈ Ts) (hini : Cond.initialized "java/lang/System" ∈ Ts)
    {sp dp k : Int32} (h1 : ¬ sp < 0) (h2 : ¬ dp < 0) (h3 : ¬ k < 0) (h4 : sp.toNatClampNeg + k.toNatClampNeg ≤ n0) (h5 : dp.toNatClampNeg + k.toNatClampNeg ≤ n1) (hr1 : 1 ≤ rm.frames) (hr2 : (S.map fun v => v.category).sum + (nativeFrameWords "java/lang/System" "arraycopy" 5 + 11) ≤ rm.locals) {σ1 : aw_m} (hset : ly K1 h = .inl (c0, n1, .inl (va_cpy f g sp.toNatClampNeg dp.toNatClampNeg k.toNatClampNeg))) (hσ : σ1 = aw_s σ K1 h)
    (hd : decode cc pc = .ok (.invokestatic index, 3)) (kk : aw_J κ cells slots (aw_w N ad ly σ1) L (pc + 3) S) : aw_J κ cells slots (aw_w N ad ly σ) L pc (.int k :: .int dp :: .ref (ad K1) :: .int sp :: .ref (ad K0) :: S) := by
  obtain ⟨p, l0, e, R, s, m, args, below, meth, c, Q, D0, A, nL⟩ := κ
  obtain ⟨rfl, rfl, rfl, rfl, hx, hb, hml, hown, hts, hKK, hA, hlk, hrt, hZ, hQ⟩ := C
  intro H locs ls hP hD hS hl
  refine va_copyi hx hb (hml.trans hl.1.symm) hown (hts _ hlink) (hts _ hnat) (hts _ hstat) (hts _ hini) hKK hP hD hS K0 K1 t0 t0 (by rw [aw_w_at hK0, hly0]) (by rw [aw_w_at hK1, hly1]) ht ht rfl h1 h2 h3 h4 h5 (fun _ _ => rfl) hr1 hr2 hd (fun H1 locs1 hP1 hD1 hS1 => ?_)
  rw [← hset, aw_w_set, ← hσ] at hP1 hD1
  exact kk H1 locs1 ls hP1 hD1 hS1 hl
theorem aw_callW {p : Program} {e : Env} {R : Room} {s : State} {m : MethodId} {args a : Array Value} {below : List Frame} {meth : Method} {c : Code} {Q : State → Prop} {A A1 : Nat → Prop} {H : Heap} {locs : List Loc} {ls : Array Slot} {r : Option Value} {w1 : va_W} {st0 rest : List Value}
    (hr : va_Run p l e R s m args below meth c H locs cells slots 0 0 (F0 m pc ls st0) rest (aw_Q D tys A1 r w1 a) A1) (hS : va_S A s.heap H locs) (hA1 : ∀ q, A1 q → A q)
    (kk : ∀ (H1 : Heap) (locs1 : List Loc), va_P D vwCl w1 H1 → va_D A w1 → va_S A s.heap H1 locs1 → W p l e R s m args below meth c H1 locs1 cells slots Q (F0 m (pc + 3) ls (r.toList ++ rest))) : W p l e R s m args below meth c H locs cells slots Q (F0 m pc ls st0) := by
  intro T hT X
  obtain ⟨v, st₀, t, T', L, h0, X', hL, e1, e2, ⟨hv, ⟨hp, -, hd⟩, hz, hk⟩, st⟩ := hr T hT X
  cases hv
  rw [h0] at hz hk
  obtain ⟨t2, a1, b1⟩ := kk T'.heap (locs ++ L) (by rw [e1]; exact hp) (hd.weaken (fun _ _ _ h => hA1 _ h))
    ⟨Nat.le_trans hS.1 (by rw [e1]; exact hz), fun q h1 h2 => by rw [e1, hk q (Nat.lt_of_lt_of_le h1 hS.1) (fun z => h2 (hA1 q z))]; exact hS.2.1 q h1 h2, fun q hq => by
      rcases List.mem_append.mp hq with h | h
      · exact hS.2.2 q h
      · exact hA1 _ (hL q h)⟩ T' rfl X'
  exact ⟨t2, st t2 a1, b1⟩
theorem aw_blind {D : va_G} {tys : List (ClassId × FieldType)} {Zs : aw_T} {as : List Value} {w : va_W} {sz : Nat} : FrameBlind (va_Pc as (fun V => V.heap.size = sz ∧ va_P D vwCl w V.heap ∧ va_K D vwCl tys V ∧ va_D (fun _ => True) w ∧ aw_Z Zs (va_A w sz) V)) := by
  intro a U g mk q
  obtain ⟨q0, q1, qP, qK, qD, qZ⟩ := q
  exact ⟨q0, q1, qP, va_K.moved (u := U) (U := U.calling g mk a) (Vm.Alike.refl U.vm) qK, qD, qZ.same (U := U.calling g mk a) rfl rfl⟩
theorem aw_sub {A : Nat → Prop} {H0 H : Heap} {locs : List Loc} (hD : va_D A w) (hS : va_S A H0 H locs) (hA : ∀ q, H0.size ≤ q → A q) : ∀ q, va_A w H.size q → A q := by
  intro q h
  rcases h with ⟨k, e, h⟩ | h
  · exact hD.2 k (q, e) h
  · exact hA q (Nat.le_trans hS.1 h)
/-- the callee's room in the caller's -/
def aw_rm (rm' rm : Room) (maxL : Nat) : Prop := rm'.cells = 0 ∧ rm'.slots = 0 ∧ rm'.frames + 1 ≤ rm.frames ∧ 8 + (maxL + 11) + rm'.locals ≤ rm.locals
/-- the callee's name and how many arguments it takes -/
def aw_nm (y : MethodName) (k : Nat) : Prop := y.cls ≠ "java/lang/invoke/MethodHandle" ∧ y.cls ≠ "java/lang/invoke/VarHandle" ∧ (parseMethodDescriptor y.desc).map (fun d => d.parameters.length) = some k
theorem aw_callV (C : aw_X l D tys Zs rm cc n own Ts ret r9 w9 κ) {y : MethodName} {bytes : ByteArray} {maxL : Nat} {ret' : Option FieldType} {ws ws' : List Cond} {rm' : Room} {b : Nat} {As rest : List Value} {r : Option Value} {w1 : va_W} {index : Nat}
    (hM : aw_M l D tys Zs y ws rm' (.ref b :: As) w r w1) (hw : ws = .code y bytes maxL ret' :: ws') (hG : GoodIn Ts (wsV own index y.cls y ws)) (hn : aw_nm y As.length) (hr : aw_rm rm' rm maxL) (hcs : cells ≤ rm.cells ∧ slots ≤ rm.slots) (K : Nat) {ci : Nat} {fs : List Value} {T : u_T} {NN : Nat} (hK : w[K]? = some (b, .inr (ci, fs))) (hc : vwCl[ci]? = some (y.cls, T, NN))
    (hst : S = As.reverse ++ .ref b :: rest) (hcat : (rest.map fun v => v.category).sum ≤ 8) (hd : decode cc pc = .ok (.invokevirtual index, 3)) (kk : aw_J κ cells slots w1 L (pc + 3) (r.toList ++ rest)) : aw_J κ cells slots w L pc S := by
  obtain ⟨p, l0, e, R, s, m, args, below, meth, c, Q, D0, A, nL⟩ := κ
  obtain ⟨rfl, rfl, rfl, rfl, hx, hb, hml, hown, hts, hKK, hA, hlk, hrt, hZ, hQ⟩ := C
  intro H locs ls hP hD hS hl
  have hsub := aw_sub hD hS hA
  subst hst
  refine aw_callW (va_runV (As := As) (rest := rest) (b := b) ⟨hx, hb, hml, hown, hts⟩ (hM H.size) (cwV As.length hts hG hw hr.1 hr.2.1 ⟨rfl, hn.1, hn.2.1, hn.2.2⟩ ⟨hr.2.2.1, hr.2.2.2⟩) ⟨aw_blind, va_recv hKK hP hc hK, fun U hU hW => ⟨rfl, by rw [hU], by rw [hU]; exact hP, va_K.moved hW.alike hKK, hD.weaken (fun _ _ _ _ => trivial), hZ.keep hS hsub hU hW⟩⟩ rfl rfl hl.1 rfl (lv_room hcat) hd hcs) hS hsub (fun H1 locs1 hP1 hD1 hS1 => kk H1 locs1 ls hP1 hD1 hS1 hl)
theorem aw_callS (C : aw_X l D tys Zs rm cc n own Ts ret r9 w9 κ) {y : MethodName} {bytes : ByteArray} {maxL : Nat} {ret' : Option FieldType} {ws ws' : List Cond} {rm' : Room} {As rest : List Value} {r : Option Value} {w1 : va_W} {index : Nat}
    (hM : aw_M l D tys Zs y ws rm' As w r w1) (hw : ws = .code y bytes maxL ret' :: ws') (hG : GoodIn Ts (va_wsS own index y ws)) (hn : aw_nm y As.length) (hr : aw_rm rm' rm maxL) (hcs : cells ≤ rm.cells ∧ slots ≤ rm.slots)
    (hst : S = As.reverse ++ rest) (hcat : (rest.map fun v => v.category).sum ≤ 8) (hd : decode cc pc = .ok (.invokestatic index, 3)) (kk : aw_J κ cells slots w1 L (pc + 3) (r.toList ++ rest)) : aw_J κ cells slots w L pc S := by
  obtain ⟨p, l0, e, R, s, m, args, below, meth, c, Q, D0, A, nL⟩ := κ
  obtain ⟨rfl, rfl, rfl, rfl, hx, hb, hml, hown, hts, hKK, hA, hlk, hrt, hZ, hQ⟩ := C
  intro H locs ls hP hD hS hl
  have hsub := aw_sub hD hS hA
  subst hst
  refine aw_callW (va_runS (As := As) (rest := rest) ⟨hx, hb, hml, hown, hts⟩ (hM H.size) (va_cwS As.length hts hG hw hr.1 hr.2.1 ⟨hn.1, hn.2.1, hn.2.2⟩ ⟨hr.2.2.1, hr.2.2.2⟩) ⟨aw_blind, fun U hU hW => ⟨rfl, by rw [hU], by rw [hU]; exact hP, va_K.moved hW.alike hKK, hD.weaken (fun _ _ _ _ => trivial), hZ.keep hS hsub hU hW⟩⟩ rfl rfl hl.1 rfl (lv_room hcat) hd hcs) hS hsub (fun H1 locs1 hP1 hD1 hS1 => kk H1 locs1 ls hP1 hD1 hS1 hl)
theorem aw_callVN (C : aw_X l D tys Zs rm cc n own Ts ret r9 w9 κ) {y : MethodName} {bytes : ByteArray} {maxL : Nat} {ret' : Option FieldType} {ws ws' : List Cond} {rm' : Room} {b : Nat} {As rest : List Value} {r : Option Value} {w1 : va_W} {index : Nat} {host : String}
    (hM : aw_M l D tys Zs y ws rm' (.ref b :: As) w r w1) (hw : ws = .code y bytes maxL ret' :: ws') (hG : GoodIn Ts ws) (hl1 : Cond.methodLinkNest own index y host ∈ Zs.2) (hini : Cond.initialized y.cls ∈ Ts) (hinst : Cond.instanceMethod y ∈ Ts) (hsel : Cond.selects y.cls y y ∈ Ts) (hn : aw_nm y As.length) (hr : aw_rm rm' rm maxL) (hcs : cells ≤ rm.cells ∧ slots ≤ rm.slots) (K : Nat) {ci : Nat} {fs : List Value} {T : u_T} {NN : Nat} (hK : w[K]? = some (b, .inr (ci, fs))) (hc : vwCl[ci]? = some (y.cls, T, NN))
    (hst : S = As.reverse ++ .ref b :: rest) (hcat : (rest.map fun v => v.category).sum ≤ 8) (hd : decode cc pc = .ok (.invokevirtual index, 3)) (kk : aw_J κ cells slots w1 L (pc + 3) (r.toList ++ rest)) : aw_J κ cells slots w L pc S := by
  obtain ⟨p, l0, e, R, s, m, args, below, meth, c, Q, D0, A, nL⟩ := κ
  obtain ⟨rfl, rfl, rfl, rfl, hx, hb, hml, hown, hts, hKK, hA, hlk, hrt, hZ, hQ⟩ := C
  intro H locs ls hP hD hS hl
  have hsub := aw_sub hD hS hA
  subst hst
  refine aw_callW (va_runVN (As := As) (rest := rest) (b := b) ⟨hx, hb, hml, hown, hts⟩ (hM H.size) ⟨va_cnB As.length hts hG hw hr.1 hr.2.1 (hZ.2 _ hl1).2 (hts _ hini) ⟨hn.1, hn.2.1, hn.2.2⟩ ⟨hr.2.2.1, hr.2.2.2⟩, hts _ hinst, hts _ hsel⟩ ⟨aw_blind, va_recv hKK hP hc hK, fun U hU hW => ⟨rfl, by rw [hU], by rw [hU]; exact hP, va_K.moved hW.alike hKK, hD.weaken (fun _ _ _ _ => trivial), hZ.keep hS hsub hU hW⟩⟩ rfl rfl hl.1 rfl (lv_room hcat) hd hcs) hS hsub (fun H1 locs1 hP1 hD1 hS1 => kk H1 locs1 ls hP1 hD1 hS1 hl)
theorem aw_callSN (C : aw_X l D tys Zs rm cc n own Ts ret r9 w9 κ) {y : MethodName} {bytes : ByteArray} {maxL : Nat} {ret' : Option FieldType} {ws ws' : List Cond} {rm' : Room} {As rest : List Value} {r : Option Value} {w1 : va_W} {index : Nat} {host : String}
    (hM : aw_M l D tys Zs y ws rm' As w r w1) (hw : ws = .code y bytes maxL ret' :: ws') (hG : GoodIn Ts ws) (hl1 : Cond.methodLinkNest own index y host ∈ Zs.2) (hini : Cond.initialized y.cls ∈ Ts) (hstat : Cond.static y ∈ Ts) (hn : aw_nm y As.length) (hr : aw_rm rm' rm maxL) (hcs : cells ≤ rm.cells ∧ slots ≤ rm.slots)
    (hst : S = As.reverse ++ rest) (hcat : (rest.map fun v => v.category).sum ≤ 8) (hd : decode cc pc = .ok (.invokestatic index, 3)) (kk : aw_J κ cells slots w1 L (pc + 3) (r.toList ++ rest)) : aw_J κ cells slots w L pc S := by
  obtain ⟨p, l0, e, R, s, m, args, below, meth, c, Q, D0, A, nL⟩ := κ
  obtain ⟨rfl, rfl, rfl, rfl, hx, hb, hml, hown, hts, hKK, hA, hlk, hrt, hZ, hQ⟩ := C
  intro H locs ls hP hD hS hl
  have hsub := aw_sub hD hS hA
  subst hst
  refine aw_callW (va_runSN (As := As) (rest := rest) ⟨hx, hb, hml, hown, hts⟩ (hM H.size) ⟨va_cnB As.length hts hG hw hr.1 hr.2.1 (hZ.2 _ hl1).2 (hts _ hini) ⟨hn.1, hn.2.1, hn.2.2⟩ ⟨hr.2.2.1, hr.2.2.2⟩, hts _ hstat, trivial⟩ ⟨aw_blind, fun U hU hW => ⟨rfl, by rw [hU], by rw [hU]; exact hP, va_K.moved hW.alike hKK, hD.weaken (fun _ _ _ _ => trivial), hZ.keep hS hsub hU hW⟩⟩ rfl rfl hl.1 rfl (lv_room hcat) hd hcs) hS hsub (fun H1 locs1 hP1 hD1 hS1 => kk H1 locs1 ls hP1 hD1 hS1 hl)
theorem aw_callVi (C : aw_X l D tys Zs rm cc n own Ts ret r9 w9 κ) {y : MethodName} {bytes : ByteArray} {maxL : Nat} {ret' : Option FieldType} {ws ws' : List Cond} {rm' : Room} {b : Nat} {As rest : List Value} {r : Int32} {w1 : va_W} {index : Nat}
    (hM : aw_M l D tys Zs y ws rm' (.ref b :: As) w (some (.int r)) w1) (hw : ws = .code y bytes maxL ret' :: ws') (hG : GoodIn Ts (wsV own index y.cls y ws)) (hn : aw_nm y As.length) (hr : aw_rm rm' rm maxL) (hcs : cells ≤ rm.cells ∧ slots ≤ rm.slots) (K : Nat) {ci : Nat} {fs : List Value} {T : u_T} {NN : Nat} (hK : w[K]? = some (b, .inr (ci, fs))) (hc : vwCl[ci]? = some (y.cls, T, NN))
    (hst : S = As.reverse ++ .ref b :: rest) (hcat : (rest.map fun v => v.category).sum ≤ 8) (hd : decode cc pc = .ok (.invokevirtual index, 3)) (kk : aw_J κ cells slots w1 L (pc + 3) (.int r :: rest)) : aw_J κ cells slots w L pc S := aw_callV C hM hw hG hn hr hcs K hK hc hst hcat hd kk
theorem aw_callVv (C : aw_X l D tys Zs rm cc n own Ts ret r9 w9 κ) {y : MethodName} {bytes : ByteArray} {maxL : Nat} {ret' : Option FieldType} {ws ws' : List Cond} {rm' : Room} {b : Nat} {As rest : List Value}  {w1 : va_W} {index : Nat}
    (hM : aw_M l D tys Zs y ws rm' (.ref b :: As) w none w1) (hw : ws = .code y bytes maxL ret' :: ws') (hG : GoodIn Ts (wsV own index y.cls y ws)) (hn : aw_nm y As.length) (hr : aw_rm rm' rm maxL) (hcs : cells ≤ rm.cells ∧ slots ≤ rm.slots) (K : Nat) {ci : Nat} {fs : List Value} {T : u_T} {NN : Nat} (hK : w[K]? = some (b, .inr (ci, fs))) (hc : vwCl[ci]? = some (y.cls, T, NN))
    (hst : S = As.reverse ++ .ref b :: rest) (hcat : (rest.map fun v => v.category).sum ≤ 8) (hd : decode cc pc = .ok (.invokevirtual index, 3)) (kk : aw_J κ cells slots w1 L (pc + 3) (rest)) : aw_J κ cells slots w L pc S := aw_callV C hM hw hG hn hr hcs K hK hc hst hcat hd kk
theorem aw_callSi (C : aw_X l D tys Zs rm cc n own Ts ret r9 w9 κ) {y : MethodName} {bytes : ByteArray} {maxL : Nat} {ret' : Option FieldType} {ws ws' : List Cond} {rm' : Room} {As rest : List Value} {r : Int32} {w1 : va_W} {index : Nat}
    (hM : aw_M l D tys Zs y ws rm' As w (some (.int r)) w1) (hw : ws = .code y bytes maxL ret' :: ws') (hG : GoodIn Ts (va_wsS own index y ws)) (hn : aw_nm y As.length) (hr : aw_rm rm' rm maxL) (hcs : cells ≤ rm.cells ∧ slots ≤ rm.slots)
    (hst : S = As.reverse ++ rest) (hcat : (rest.map fun v => v.category).sum ≤ 8) (hd : decode cc pc = .ok (.invokestatic index, 3)) (kk : aw_J κ cells slots w1 L (pc + 3) (.int r :: rest)) : aw_J κ cells slots w L pc S := aw_callS C hM hw hG hn hr hcs hst hcat hd kk
theorem aw_callSv (C : aw_X l D tys Zs rm cc n own Ts ret r9 w9 κ) {y : MethodName} {bytes : ByteArray} {maxL : Nat} {ret' : Option FieldType} {ws ws' : List Cond} {rm' : Room} {As rest : List Value}  {w1 : va_W} {index : Nat}
    (hM : aw_M l D tys Zs y ws rm' As w none w1) (hw : ws = .code y bytes maxL ret' :: ws') (hG : GoodIn Ts (va_wsS own index y ws)) (hn : aw_nm y As.length) (hr : aw_rm rm' rm maxL) (hcs : cells ≤ rm.cells ∧ slots ≤ rm.slots)
    (hst : S = As.reverse ++ rest) (hcat : (rest.map fun v => v.category).sum ≤ 8) (hd : decode cc pc = .ok (.invokestatic index, 3)) (kk : aw_J κ cells slots w1 L (pc + 3) (rest)) : aw_J κ cells slots w L pc S := aw_callS C hM hw hG hn hr hcs hst hcat hd kk
theorem aw_callVNi (C : aw_X l D tys Zs rm cc n own Ts ret r9 w9 κ) {y : MethodName} {bytes : ByteArray} {maxL : Nat} {ret' : Option FieldType} {ws ws' : List Cond} {rm' : Room} {b : Nat} {As rest : List Value} {r : Int32} {w1 : va_W} {index : Nat} {host : String}
    (hM : aw_M l D tys Zs y ws rm' (.ref b :: As) w (some (.int r)) w1) (hw : ws = .code y bytes maxL ret' :: ws') (hG : GoodIn Ts ws) (hl1 : Cond.methodLinkNest own index y host ∈ Zs.2) (hini : Cond.initialized y.cls ∈ Ts) (hinst : Cond.instanceMethod y ∈ Ts) (hsel : Cond.selects y.cls y y ∈ Ts) (hn : aw_nm y As.length) (hr : aw_rm rm' rm maxL) (hcs : cells ≤ rm.cells ∧ slots ≤ rm.slots) (K : Nat) {ci : Nat} {fs : List Value} {T : u_T} {NN : Nat} (hK : w[K]? = some (b, .inr (ci, fs))) (hc : vwCl[ci]? = some (y.cls, T, NN))
    (hst : S = As.reverse ++ .ref b :: rest) (hcat : (rest.map fun v => v.category).sum ≤ 8) (hd : decode cc pc = .ok (.invokevirtual index, 3)) (kk : aw_J κ cells slots w1 L (pc + 3) (.int r :: rest)) : aw_J κ cells slots w L pc S := aw_callVN C hM hw hG hl1 hini hinst hsel hn hr hcs K hK hc hst hcat hd kk
theorem aw_callVNv (C : aw_X l D tys Zs rm cc n own Ts ret r9 w9 κ) {y : MethodName} {bytes : ByteArray} {maxL : Nat} {ret' : Option FieldType} {ws ws' : List Cond} {rm' : Room} {b : Nat} {As rest : List Value}  {w1 : va_W} {index : Nat} {host : String}
    (hM : aw_M l D tys Zs y ws rm' (.ref b :: As) w none w1) (hw : ws = .code y bytes maxL ret' :: ws') (hG : GoodIn Ts ws) (hl1 : Cond.methodLinkNest own index y host ∈ Zs.2) (hini : Cond.initialized y.cls ∈ Ts) (hinst : Cond.instanceMethod y ∈ Ts) (hsel : Cond.selects y.cls y y ∈ Ts) (hn : aw_nm y As.length) (hr : aw_rm rm' rm maxL) (hcs : cells ≤ rm.cells ∧ slots ≤ rm.slots) (K : Nat) {ci : Nat} {fs : List Value} {T : u_T} {NN : Nat} (hK : w[K]? = some (b, .inr (ci, fs))) (hc : vwCl[ci]? = some (y.cls, T, NN))
    (hst : S = As.reverse ++ .ref b :: rest) (hcat : (rest.map fun v => v.category).sum ≤ 8) (hd : decode cc pc = .ok (.invokevirtual index, 3)) (kk : aw_J κ cells slots w1 L (pc + 3) (rest)) : aw_J κ cells slots w L pc S := aw_callVN C hM hw hG hl1 hini hinst hsel hn hr hcs K hK hc hst hcat hd kk
theorem aw_callSNi (C : aw_X l D tys Zs rm cc n own Ts ret r9 w9 κ) {y : MethodName} {bytes : ByteArray} {maxL : Nat} {ret' : Option FieldType} {ws ws' : List Cond} {rm' : Room} {As rest : List Value} {r : Int32} {w1 : va_W} {index : Nat} {host : String}
    (hM : aw_M l D tys Zs y ws rm' As w (some (.int r)) w1) (hw : ws = .code y bytes maxL ret' :: ws') (hG : GoodIn Ts ws) (hl1 : Cond.methodLinkNest own index y host ∈ Zs.2) (hini : Cond.initialized y.cls ∈ Ts) (hstat : Cond.static y ∈ Ts) (hn : aw_nm y As.length) (hr : aw_rm rm' rm maxL) (hcs : cells ≤ rm.cells ∧ slots ≤ rm.slots)
    (hst : S = As.reverse ++ rest) (hcat : (rest.map fun v => v.category).sum ≤ 8) (hd : decode cc pc = .ok (.invokestatic index, 3)) (kk : aw_J κ cells slots w1 L (pc + 3) (.int r :: rest)) : aw_J κ cells slots w L pc S := aw_callSN C hM hw hG hl1 hini hstat hn hr hcs hst hcat hd kk
theorem aw_callSNv (C : aw_X l D tys Zs rm cc n own Ts ret r9 w9 κ) {y : MethodName} {bytes : ByteArray} {maxL : Nat} {ret' : Option FieldType} {ws ws' : List Cond} {rm' : Room} {As rest : List Value}  {w1 : va_W} {index : Nat} {host : String}
    (hM : aw_M l D tys Zs y ws rm' As w none w1) (hw : ws = .code y bytes maxL ret' :: ws') (hG : GoodIn Ts ws) (hl1 : Cond.methodLinkNest own index y host ∈ Zs.2) (hini : Cond.initialized y.cls ∈ Ts) (hstat : Cond.static y ∈ Ts) (hn : aw_nm y As.length) (hr : aw_rm rm' rm maxL) (hcs : cells ≤ rm.cells ∧ slots ≤ rm.slots)
    (hst : S = As.reverse ++ rest) (hcat : (rest.map fun v => v.category).sum ≤ 8) (hd : decode cc pc = .ok (.invokestatic index, 3)) (kk : aw_J κ cells slots w1 L (pc + 3) (rest)) : aw_J κ cells slots w L pc S := aw_callSN C hM hw hG hl1 hini hstat hn hr hcs hst hcat hd kk
def aw_max (x y : Int32) : Int32 := if x < y then y else x
theorem aw_mmax (C : aw_X l D tys Zs rm cc n own Ts ret r9 w9 κ) {index : Nat} (hlink : Cond.methodLink own index Lib.Math.max.name ∈ Ts) (hstat : Cond.static Lib.Math.max.name ∈ Ts) (hini : Cond.initialized "java/lang/Math" ∈ Ts) (hcode : Cond.code Lib.Math.max.name Lib.Math.max.code 2 (some .int) ∈ Ts) {x y : Int32} (hr1 : 1 ≤ rm.frames) (hr2 : (S.map fun v => v.category).sum + 13 ≤ rm.locals) (hcs : cells ≤ rm.cells ∧ slots ≤ rm.slots)
    (hd : decode cc pc = .ok (.invokestatic index, 3)) (kk : aw_J κ cells slots w L (pc + 3) (.int (aw_max x y) :: S)) : aw_J κ cells slots w L pc (.int y :: .int x :: S) := by
  obtain ⟨p, l0, e, R, s, m, args, below, meth, c, Q, D0, A, nL⟩ := κ
  obtain ⟨rfl, rfl, rfl, rfl, hx, hb, hml, hown, hts, hKK, hA, hlk, hrt, hZ, hQ⟩ := C
  intro H locs ls hP hD hS hl
  exact va_mmax hx hb (hml.trans hl.1.symm) hown (hts _ hlink) (hts _ hstat) (hts _ hini) (hts _ hcode) hr1 hr2 hcs.1 hcs.2 hd (kk H locs ls hP hD hS hl)
theorem aw_loc (C : aw_X l D tys Zs rm cc n own Ts ret r9 w9 κ) (ks : List Nat) (h : lv_pick L ks = L') (kk : aw_J κ cells slots w L' pc S) : aw_J κ cells slots w L pc S := by
  obtain ⟨p, l0, e, R, s, m, args, below, meth, c, Q, D0, A, nL⟩ := κ
  intro H locs ls hP hD hS hl
  exact kk H locs ls hP hD hS (lv_sub hl ks h)
end AWH
end
section
/-! What the walks of both sides share -/
def aw_in (i : Int32) (n : Nat) : Bool := decide (¬ (i < 0 ∨ n ≤ i.toNatClampNeg))
theorem aw_in_ok {i : Int32} {n : Nat} (h : aw_in i n = true) : vp_in i n := by
  unfold aw_in at h
  exact (of_decide_eq_true h : ¬ (i < 0 ∨ n ≤ i.toNatClampNeg))
theorem aw_in_lt {i : Int32} {n : Nat} (h : aw_in i n = true) : i.toNatClampNeg < n := Nat.not_le.mp fun q => (aw_in_ok h) (Or.inr q)
theorem aw_bnd {α β : Type} {x : Option α} {f : α → Option β} {q : β} (h : x.bind f = some q) : ∃ a, x = some a ∧ f a = some q := by
  cases x with
  | none => cases h
  | some a => exact ⟨a, rfl, h⟩
theorem aw_grd {α : Type} {c : Prop} {d : Decidable c} {x : Option α} {q : α} (h : @ite _ c d x none = some q) : c ∧ x = some q := by
  by_cases hc : c
  · rw [if_pos hc] at h; exact ⟨hc, h⟩
  · rw [if_neg hc] at h; cases h
/-- a memory gets a name -/
def aw_l {α : Type} (s : aw_m) (f : aw_m → α) : α := f s
theorem aw_let {α : Type} {s : aw_m} {f : aw_m → α} {q : α} (h : aw_l s f = q) : ∃ t, t = s ∧ f t = q := ⟨s, rfl, h⟩
def aw_p (σ : aw_m) (k i : Nat) (v : Int32) : aw_m := aw_s σ k (upd (σ k) i v)
def aw_c (σ : aw_m) (k0 k1 : Nat) (sp dp n : Nat) : aw_m := aw_s σ k1 (va_cpy (σ k0) (σ k1) sp dp n)
def rm_D (d : Nat) : Room := { frames := d, cells := 0, slots := 0, locals := 40 * d }
theorem rm_lt {a b m : Nat} (h : a < b) (hm : m ≤ 21) : aw_rm (rm_D a) (rm_D b) m := ⟨rfl, rfl, h, by show 8 + (m + 11) + 40 * a ≤ 40 * b; omega⟩
/-- the static array PARTS, and the words of the nest -/
def zp_parts : Nat → Int32 := fun k => ([0, 0, 0, 1, 2, 2, 2, 2, 2, 3, 2, 0] : List Int32).getD k 0
def zs_N : List Cond := [.methodLinkNest "ModuleShelf" 9 ⟨"ModuleShelf$Code", "<init>", "()V"⟩ "ModuleShelf", .methodLinkNest "ModuleShelf$Image" 11 ⟨"ModuleShelf$Unit", "<init>", "()V"⟩ "ModuleShelf", .methodLinkNest "ModuleShelf$Library" 17 ⟨"ModuleShelf$Unit", "<init>", "()V"⟩ "ModuleShelf", .methodLinkNest "ModuleShelf$Library" 18 ⟨"ModuleShelf", "isModule", "(I)Z"⟩ "ModuleShelf", .methodLinkNest "ModuleShelf$Machine" 17 ⟨"ModuleShelf$Frame", "<init>", "()V"⟩ "ModuleShelf", .methodLinkNest "ModuleShelf$Memory" 21 ⟨"ModuleShelf$Image", "<init>", "()V"⟩ "ModuleShelf", .methodLinkNest "ModuleShelf$Memory" 22 ⟨"ModuleShelf", "isModule", "(I)Z"⟩ "ModuleShelf", .methodLinkNest "ModuleShelf$Unit" 20 ⟨"ModuleShelf$Code", "<init>", "()V"⟩ "ModuleShelf", .fieldLinkNest "ModuleShelf$Library" 80 "ModuleShelf" "PARTS" "[I" "ModuleShelf", .fieldLinkNest "ModuleShelf$Machine" 121 "ModuleShelf" "PARTS" "[I" "ModuleShelf"]
def zs_T (ps : Nat) : aw_T := ([(("ModuleShelf", "PARTS"), ps, 12, zp_parts)], zs_N)
def ty_z (ids : Nat → ClassId) : List (ClassId × FieldType) := [(ids 0, .int), (ids 1, .boolean), (ids 2, .object "ModuleShelf$Unit"), (ids 3, .object "ModuleShelf$Image"), (ids 4, .object "ModuleShelf$Frame")]
/-! The class: its 140 cells in the order of their making. Kinds: 15 the shelf, 1 Code, 2 int[3], 3 int[42], 4 Library, 5 its units, 6 Unit, 7 int[6], 8 Memory, 9 its images, 10 boolean[6], 11 Image, 12 Machine, 13 its frames, 14 Frame -/
def kd_u (k : Nat) : Nat := if k = 0 then 6 else if k ≤ 2 then 7 else if k = 3 then 1 else if k ≤ 5 then 2 else 3
def kd_k (k : Nat) : Nat :=
  if k = 0 then 15
  else if k < 7 then (if k = 1 then 1 else if k ≤ 3 then 2 else 3)
  else if k = 7 then 4 else if k = 8 then 5
  else if k < 63 then kd_u ((k - 9) % 9)
  else if k = 63 then 8 else if k = 64 then 9 else if k = 65 then 10
  else if k < 132 then (if (k - 66) % 11 = 0 then 11 else if (k - 66) % 11 = 10 then 2 else kd_u ((k - 66) % 11 - 1))
  else if k = 132 then 12 else if k = 133 then 13
  else if k < 140 then 14 else 0
def ly_k (ad : Nat → Nat) (ids : Nat → ClassId) (k : Nat) (f : Nat → Int32) : va_E := match kd_k k with
  | 1 => .inr (0, [.int (f 0), .int (f 1), .ref (ad (k + 1)), .ref (ad (k + 2)), .ref (ad (k + 3)), .ref (ad (k + 4)), .ref (ad (k + 5))])
  | 2 => .inl (ids 0, 3, .inl f)
  | 3 => .inl (ids 0, 42, .inl f)
  | 4 => .inr (3, [.ref (ad (k + 1)), .int (f 1), .int (f 2)])
  | 5 => .inl (ids 2, 6, .inr (.inr (.inr (.inr (fun i => some (ad (k + 1 + 9 * i)))))))
  | 6 => .inr (6, [.int (f 0), .int (f 1), .int (f 2), .ref (ad (k + 1)), .ref (ad (k + 2)), .ref (ad (k + 3))])
  | 7 => .inl (ids 0, 6, .inl f)
  | 8 => .inr (5, [.ref (ad (k + 1)), .ref (ad (k + 2))])
  | 9 => .inl (ids 3, 6, .inr (.inr (.inr (.inr (fun i => some (ad (k + 2 + 11 * i)))))))
  | 10 => .inl (ids 1, 6, .inl f)
  | 11 => .inr (2, [.ref (ad (k + 1)), .ref (ad (k + 10))])
  | 12 => .inr (4, [.ref (ad (k + 1)), .int (f 1), .int (f 2)])
  | 13 => .inl (ids 4, 6, .inr (.inr (.inr (.inr (fun i => some (ad (k + 1 + i)))))))
  | 14 => .inr (1, [.int (f 0), .int (f 1), .int (f 2), .int (f 3), .int (f 4)])
  | 15 => .inr (7, [.ref (ad 1), .ref (ad 7), .ref (ad 63), .ref (ad 132), .int (f 4), .int (f 5)])
  | _ => .inr (9, [])
abbrev cw_w (ad : Nat → Nat) (ids : Nat → ClassId) (σ : aw_m) : va_W := aw_w 140 ad (ly_k ad ids) σ
theorem kd_lt {k c : Nat} (h : kd_k k = c + 1) : k < 140 := by
  rcases Nat.lt_or_ge k 140 with q | q
  · exact q
  · exfalso
    unfold kd_k at h
    rw [if_neg (by omega), if_neg (by omega), if_neg (by omega), if_neg (by omega), if_neg (by omega), if_neg (by omega), if_neg (by omega), if_neg (by omega), if_neg (by omega), if_neg (by omega), if_neg (by omega), if_neg (by omega)] at h
    cases h
theorem kf_C_arguments {k : Nat} (h : kd_k k = 1) : kd_k (k + 1) = 2 := (by decide +kernel : ∀ k, k < 140 → kd_k k = 1 → kd_k (k + 1) = 2) k (kd_lt h) h
theorem kf_C_lengths {k : Nat} (h : kd_k k = 1) : kd_k (k + 2) = 2 := (by decide +kernel : ∀ k, k < 140 → kd_k k = 1 → kd_k (k + 2) = 2) k (kd_lt h) h
theorem kf_C_ops {k : Nat} (h : kd_k k = 1) : kd_k (k + 3) = 3 := (by decide +kernel : ∀ k, k < 140 → kd_k k = 1 → kd_k (k + 3) = 3) k (kd_lt h) h
theorem kf_C_as {k : Nat} (h : kd_k k = 1) : kd_k (k + 4) = 3 := (by decide +kernel : ∀ k, k < 140 → kd_k k = 1 → kd_k (k + 4) = 3) k (kd_lt h) h
theorem kf_C_bs {k : Nat} (h : kd_k k = 1) : kd_k (k + 5) = 3 := (by decide +kernel : ∀ k, k < 140 → kd_k k = 1 → kd_k (k + 5) = 3) k (kd_lt h) h
theorem kf_L_units {k : Nat} (h : kd_k k = 4) : kd_k (k + 1) = 5 := (by decide +kernel : ∀ k, k < 140 → kd_k k = 4 → kd_k (k + 1) = 5) k (kd_lt h) h
theorem kf_U_importModules {k : Nat} (h : kd_k k = 6) : kd_k (k + 1) = 7 := (by decide +kernel : ∀ k, k < 140 → kd_k k = 6 → kd_k (k + 1) = 7) k (kd_lt h) h
theorem kf_U_importKeys {k : Nat} (h : kd_k k = 6) : kd_k (k + 2) = 7 := (by decide +kernel : ∀ k, k < 140 → kd_k k = 6 → kd_k (k + 2) = 7) k (kd_lt h) h
theorem kf_U_code {k : Nat} (h : kd_k k = 6) : kd_k (k + 3) = 1 := (by decide +kernel : ∀ k, k < 140 → kd_k k = 6 → kd_k (k + 3) = 1) k (kd_lt h) h
theorem kf_M_images {k : Nat} (h : kd_k k = 8) : kd_k (k + 1) = 9 := (by decide +kernel : ∀ k, k < 140 → kd_k k = 8 → kd_k (k + 1) = 9) k (kd_lt h) h
theorem kf_M_begun {k : Nat} (h : kd_k k = 8) : kd_k (k + 2) = 10 := (by decide +kernel : ∀ k, k < 140 → kd_k k = 8 → kd_k (k + 2) = 10) k (kd_lt h) h
theorem kf_I_unit {k : Nat} (h : kd_k k = 11) : kd_k (k + 1) = 6 := (by decide +kernel : ∀ k, k < 140 → kd_k k = 11 → kd_k (k + 1) = 6) k (kd_lt h) h
theorem kf_I_values {k : Nat} (h : kd_k k = 11) : kd_k (k + 10) = 2 := (by decide +kernel : ∀ k, k < 140 → kd_k k = 11 → kd_k (k + 10) = 2) k (kd_lt h) h
theorem kf_N_frames {k : Nat} (h : kd_k k = 12) : kd_k (k + 1) = 13 := (by decide +kernel : ∀ k, k < 140 → kd_k k = 12 → kd_k (k + 1) = 13) k (kd_lt h) h
theorem kf_S_draft {k : Nat} (h : kd_k k = 15) : kd_k (1) = 1 := (by decide +kernel : ∀ k, k < 140 → kd_k k = 15 → kd_k (1) = 1) k (kd_lt h) h
theorem kf_S_library {k : Nat} (h : kd_k k = 15) : kd_k (7) = 4 := (by decide +kernel : ∀ k, k < 140 → kd_k k = 15 → kd_k (7) = 4) k (kd_lt h) h
theorem kf_S_memory {k : Nat} (h : kd_k k = 15) : kd_k (63) = 8 := (by decide +kernel : ∀ k, k < 140 → kd_k k = 15 → kd_k (63) = 8) k (kd_lt h) h
theorem kf_S_machine {k : Nat} (h : kd_k k = 15) : kd_k (132) = 12 := (by decide +kernel : ∀ k, k < 140 → kd_k k = 15 → kd_k (132) = 12) k (kd_lt h) h
theorem ka_U6 {k i : Nat} (h : kd_k k = 5) (hi : i < 6) : kd_k (k + 1 + 9 * i) = 6 := (by decide +kernel : ∀ k, k < 140 → kd_k k = 5 → ∀ i, i < 6 → kd_k (k + 1 + 9 * i) = 6) k (kd_lt h) h i hi
theorem ka_I6 {k i : Nat} (h : kd_k k = 9) (hi : i < 6) : kd_k (k + 2 + 11 * i) = 11 := (by decide +kernel : ∀ k, k < 140 → kd_k k = 9 → ∀ i, i < 6 → kd_k (k + 2 + 11 * i) = 11) k (kd_lt h) h i hi
theorem ka_F6 {k i : Nat} (h : kd_k k = 13) (hi : i < 6) : kd_k (k + 1 + i) = 14 := (by decide +kernel : ∀ k, k < 140 → kd_k k = 13 → ∀ i, i < 6 → kd_k (k + 1 + i) = 14) k (kd_lt h) h i hi
theorem ly_C {ad : Nat → Nat} {ids : Nat → ClassId} {k : Nat} {f : Nat → Int32} (h : kd_k k = 1) : ly_k ad ids k f = .inr (0, [.int (f 0), .int (f 1), .ref (ad (k + 1)), .ref (ad (k + 2)), .ref (ad (k + 3)), .ref (ad (k + 4)), .ref (ad (k + 5))]) := by unfold ly_k; rw [h]; rfl
theorem at_C {ad : Nat → Nat} {ids : Nat → ClassId} {k : Nat} {σ : aw_m} (h : kd_k k = 1) : (cw_w ad ids σ)[k]? = some (ad k, .inr (0, [.int (σ k 0), .int (σ k 1), .ref (ad (k + 1)), .ref (ad (k + 2)), .ref (ad (k + 3)), .ref (ad (k + 4)), .ref (ad (k + 5))])) := by rw [aw_w_at (kd_lt h), ly_C h]
theorem ly_A3 {ad : Nat → Nat} {ids : Nat → ClassId} {k : Nat} {f : Nat → Int32} (h : kd_k k = 2) : ly_k ad ids k f = .inl (ids 0, 3, .inl f) := by unfold ly_k; rw [h]; rfl
theorem at_A3 {ad : Nat → Nat} {ids : Nat → ClassId} {k : Nat} {σ : aw_m} (h : kd_k k = 2) : (cw_w ad ids σ)[k]? = some (ad k, .inl (ids 0, 3, .inl (σ k))) := by rw [aw_w_at (kd_lt h), ly_A3 h]
theorem ly_A42 {ad : Nat → Nat} {ids : Nat → ClassId} {k : Nat} {f : Nat → Int32} (h : kd_k k = 3) : ly_k ad ids k f = .inl (ids 0, 42, .inl f) := by unfold ly_k; rw [h]; rfl
theorem at_A42 {ad : Nat → Nat} {ids : Nat → ClassId} {k : Nat} {σ : aw_m} (h : kd_k k = 3) : (cw_w ad ids σ)[k]? = some (ad k, .inl (ids 0, 42, .inl (σ k))) := by rw [aw_w_at (kd_lt h), ly_A42 h]
theorem ly_L {ad : Nat → Nat} {ids : Nat → ClassId} {k : Nat} {f : Nat → Int32} (h : kd_k k = 4) : ly_k ad ids k f = .inr (3, [.ref (ad (k + 1)), .int (f 1), .int (f 2)]) := by unfold ly_k; rw [h]; rfl
theorem at_L {ad : Nat → Nat} {ids : Nat → ClassId} {k : Nat} {σ : aw_m} (h : kd_k k = 4) : (cw_w ad ids σ)[k]? = some (ad k, .inr (3, [.ref (ad (k + 1)), .int (σ k 1), .int (σ k 2)])) := by rw [aw_w_at (kd_lt h), ly_L h]
theorem ly_U6 {ad : Nat → Nat} {ids : Nat → ClassId} {k : Nat} {f : Nat → Int32} (h : kd_k k = 5) : ly_k ad ids k f = .inl (ids 2, 6, .inr (.inr (.inr (.inr (fun i => some (ad (k + 1 + 9 * i))))))) := by unfold ly_k; rw [h]; rfl
theorem at_U6 {ad : Nat → Nat} {ids : Nat → ClassId} {k : Nat} {σ : aw_m} (h : kd_k k = 5) : (cw_w ad ids σ)[k]? = some (ad k, .inl (ids 2, 6, .inr (.inr (.inr (.inr (fun i => some (ad (k + 1 + 9 * i)))))))) := by rw [aw_w_at (kd_lt h), ly_U6 h]
theorem ly_U {ad : Nat → Nat} {ids : Nat → ClassId} {k : Nat} {f : Nat → Int32} (h : kd_k k = 6) : ly_k ad ids k f = .inr (6, [.int (f 0), .int (f 1), .int (f 2), .ref (ad (k + 1)), .ref (ad (k + 2)), .ref (ad (k + 3))]) := by unfold ly_k; rw [h]; rfl
theorem at_U {ad : Nat → Nat} {ids : Nat → ClassId} {k : Nat} {σ : aw_m} (h : kd_k k = 6) : (cw_w ad ids σ)[k]? = some (ad k, .inr (6, [.int (σ k 0), .int (σ k 1), .int (σ k 2), .ref (ad (k + 1)), .ref (ad (k + 2)), .ref (ad (k + 3))])) := by rw [aw_w_at (kd_lt h), ly_U h]
theorem ly_A6 {ad : Nat → Nat} {ids : Nat → ClassId} {k : Nat} {f : Nat → Int32} (h : kd_k k = 7) : ly_k ad ids k f = .inl (ids 0, 6, .inl f) := by unfold ly_k; rw [h]; rfl
theorem at_A6 {ad : Nat → Nat} {ids : Nat → ClassId} {k : Nat} {σ : aw_m} (h : kd_k k = 7) : (cw_w ad ids σ)[k]? = some (ad k, .inl (ids 0, 6, .inl (σ k))) := by rw [aw_w_at (kd_lt h), ly_A6 h]
theorem ly_M {ad : Nat → Nat} {ids : Nat → ClassId} {k : Nat} {f : Nat → Int32} (h : kd_k k = 8) : ly_k ad ids k f = .inr (5, [.ref (ad (k + 1)), .ref (ad (k + 2))]) := by unfold ly_k; rw [h]; rfl
theorem at_M {ad : Nat → Nat} {ids : Nat → ClassId} {k : Nat} {σ : aw_m} (h : kd_k k = 8) : (cw_w ad ids σ)[k]? = some (ad k, .inr (5, [.ref (ad (k + 1)), .ref (ad (k + 2))])) := by rw [aw_w_at (kd_lt h), ly_M h]
theorem ly_I6 {ad : Nat → Nat} {ids : Nat → ClassId} {k : Nat} {f : Nat → Int32} (h : kd_k k = 9) : ly_k ad ids k f = .inl (ids 3, 6, .inr (.inr (.inr (.inr (fun i => some (ad (k + 2 + 11 * i))))))) := by unfold ly_k; rw [h]; rfl
theorem at_I6 {ad : Nat → Nat} {ids : Nat → ClassId} {k : Nat} {σ : aw_m} (h : kd_k k = 9) : (cw_w ad ids σ)[k]? = some (ad k, .inl (ids 3, 6, .inr (.inr (.inr (.inr (fun i => some (ad (k + 2 + 11 * i)))))))) := by rw [aw_w_at (kd_lt h), ly_I6 h]
theorem ly_Z6 {ad : Nat → Nat} {ids : Nat → ClassId} {k : Nat} {f : Nat → Int32} (h : kd_k k = 10) : ly_k ad ids k f = .inl (ids 1, 6, .inl f) := by unfold ly_k; rw [h]; rfl
theorem at_Z6 {ad : Nat → Nat} {ids : Nat → ClassId} {k : Nat} {σ : aw_m} (h : kd_k k = 10) : (cw_w ad ids σ)[k]? = some (ad k, .inl (ids 1, 6, .inl (σ k))) := by rw [aw_w_at (kd_lt h), ly_Z6 h]
theorem ly_I {ad : Nat → Nat} {ids : Nat → ClassId} {k : Nat} {f : Nat → Int32} (h : kd_k k = 11) : ly_k ad ids k f = .inr (2, [.ref (ad (k + 1)), .ref (ad (k + 10))]) := by unfold ly_k; rw [h]; rfl
theorem at_I {ad : Nat → Nat} {ids : Nat → ClassId} {k : Nat} {σ : aw_m} (h : kd_k k = 11) : (cw_w ad ids σ)[k]? = some (ad k, .inr (2, [.ref (ad (k + 1)), .ref (ad (k + 10))])) := by rw [aw_w_at (kd_lt h), ly_I h]
theorem ly_N {ad : Nat → Nat} {ids : Nat → ClassId} {k : Nat} {f : Nat → Int32} (h : kd_k k = 12) : ly_k ad ids k f = .inr (4, [.ref (ad (k + 1)), .int (f 1), .int (f 2)]) := by unfold ly_k; rw [h]; rfl
theorem at_N {ad : Nat → Nat} {ids : Nat → ClassId} {k : Nat} {σ : aw_m} (h : kd_k k = 12) : (cw_w ad ids σ)[k]? = some (ad k, .inr (4, [.ref (ad (k + 1)), .int (σ k 1), .int (σ k 2)])) := by rw [aw_w_at (kd_lt h), ly_N h]
theorem ly_F6 {ad : Nat → Nat} {ids : Nat → ClassId} {k : Nat} {f : Nat → Int32} (h : kd_k k = 13) : ly_k ad ids k f = .inl (ids 4, 6, .inr (.inr (.inr (.inr (fun i => some (ad (k + 1 + i))))))) := by unfold ly_k; rw [h]; rfl
theorem at_F6 {ad : Nat → Nat} {ids : Nat → ClassId} {k : Nat} {σ : aw_m} (h : kd_k k = 13) : (cw_w ad ids σ)[k]? = some (ad k, .inl (ids 4, 6, .inr (.inr (.inr (.inr (fun i => some (ad (k + 1 + i)))))))) := by rw [aw_w_at (kd_lt h), ly_F6 h]
theorem ly_F {ad : Nat → Nat} {ids : Nat → ClassId} {k : Nat} {f : Nat → Int32} (h : kd_k k = 14) : ly_k ad ids k f = .inr (1, [.int (f 0), .int (f 1), .int (f 2), .int (f 3), .int (f 4)]) := by unfold ly_k; rw [h]; rfl
theorem at_F {ad : Nat → Nat} {ids : Nat → ClassId} {k : Nat} {σ : aw_m} (h : kd_k k = 14) : (cw_w ad ids σ)[k]? = some (ad k, .inr (1, [.int (σ k 0), .int (σ k 1), .int (σ k 2), .int (σ k 3), .int (σ k 4)])) := by rw [aw_w_at (kd_lt h), ly_F h]
theorem ly_S {ad : Nat → Nat} {ids : Nat → ClassId} {k : Nat} {f : Nat → Int32} (h : kd_k k = 15) : ly_k ad ids k f = .inr (7, [.ref (ad 1), .ref (ad 7), .ref (ad 63), .ref (ad 132), .int (f 4), .int (f 5)]) := by unfold ly_k; rw [h]; rfl
theorem at_S {ad : Nat → Nat} {ids : Nat → ClassId} {k : Nat} {σ : aw_m} (h : kd_k k = 15) : (cw_w ad ids σ)[k]? = some (ad k, .inr (7, [.ref (ad 1), .ref (ad 7), .ref (ad 63), .ref (ad 132), .int (σ k 4), .int (σ k 5)])) := by rw [aw_w_at (kd_lt h), ly_S h]
/-! The reference: its object is cell 0, its arrays cells 1 to 23 in the order of their making: 1 key[13], 2 variables[13], 3 procedures[13], 4 arguments[39], 5 size[39], 6 op[546], 7 a[546], 8 b[546], 9 imports[13], 10 importOf[65], 11 importKey[65], 12 value[18], 13 loading[8], 14 next[8], 15 left[16], 16 task[300], 17 where[300], 18 frame[300], 19 values[300], 20 frameModule[6], 21 frameProcedure[6], 22 frameX[6], 23 frameY[6] -/
def rn_l : List Nat := [0, 13, 13, 13, 39, 39, 546, 546, 546, 13, 65, 65, 18, 8, 8, 16, 300, 300, 300, 300, 6, 6, 6, 6]
def lz_k (ad : Nat → Nat) (ids : Nat → ClassId) (k : Nat) (f : Nat → Int32) : va_E := match k with
  | 0 => .inr (8, [.ref (ad 1), .ref (ad 2), .ref (ad 3), .ref (ad 4), .ref (ad 5), .ref (ad 6), .ref (ad 7), .ref (ad 8), .ref (ad 9), .ref (ad 10), .ref (ad 11), .ref (ad 12), .int (f 12), .int (f 13), .int (f 14), .int (f 15), .ref (ad 13), .ref (ad 14), .ref (ad 15), .ref (ad 16), .ref (ad 17), .ref (ad 18), .int (f 22), .ref (ad 19), .int (f 24), .ref (ad 20), .ref (ad 21), .ref (ad 22), .ref (ad 23)])
  | k + 1 => .inl (ids 0, rn_l.getD (k + 1) 0, .inl f)
abbrev rw_w (ad : Nat → Nat) (ids : Nat → ClassId) (σ : aw_m) : va_W := aw_w 24 ad (lz_k ad ids) σ
theorem at_R {ad : Nat → Nat} {ids : Nat → ClassId} {σ : aw_m} : (rw_w ad ids σ)[0]? = some (ad 0, .inr (8, [.ref (ad 1), .ref (ad 2), .ref (ad 3), .ref (ad 4), .ref (ad 5), .ref (ad 6), .ref (ad 7), .ref (ad 8), .ref (ad 9), .ref (ad 10), .ref (ad 11), .ref (ad 12), .int (σ 0 12), .int (σ 0 13), .int (σ 0 14), .int (σ 0 15), .ref (ad 13), .ref (ad 14), .ref (ad 15), .ref (ad 16), .ref (ad 17), .ref (ad 18), .int (σ 0 22), .ref (ad 19), .int (σ 0 24), .ref (ad 20), .ref (ad 21), .ref (ad 22), .ref (ad 23)])) := rfl
set_option maxRecDepth 20000 in
theorem fl_C_27 : Cond.fieldLink "ModuleShelf$Code" 27 "ModuleShelf$Code" "variables" "I" ∈ gw_l := gw_of 59 (by rfl) rfl
set_option maxRecDepth 20000 in
theorem fl_C_31 : Cond.fieldLink "ModuleShelf$Code" 31 "ModuleShelf$Code" "procedures" "I" ∈ gw_l := gw_of 60 (by rfl) rfl
set_option maxRecDepth 20000 in
theorem fl_L_29 : Cond.fieldLink "ModuleShelf$Library" 29 "ModuleShelf$Code" "procedures" "I" ∈ gw_l := gw_of 61 (by rfl) rfl
set_option maxRecDepth 20000 in
theorem fl_S_128 : Cond.fieldLink "ModuleShelf" 128 "ModuleShelf$Code" "procedures" "I" ∈ gw_l := gw_of 62 (by rfl) rfl
set_option maxRecDepth 20000 in
theorem fl_C_9 : Cond.fieldLink "ModuleShelf$Code" 9 "ModuleShelf$Code" "arguments" "[I" ∈ gw_l := gw_of 63 (by rfl) rfl
set_option maxRecDepth 20000 in
theorem fl_C_15 : Cond.fieldLink "ModuleShelf$Code" 15 "ModuleShelf$Code" "lengths" "[I" ∈ gw_l := gw_of 64 (by rfl) rfl
set_option maxRecDepth 20000 in
theorem fl_C_18 : Cond.fieldLink "ModuleShelf$Code" 18 "ModuleShelf$Code" "ops" "[I" ∈ gw_l := gw_of 65 (by rfl) rfl
set_option maxRecDepth 20000 in
theorem fl_N_80 : Cond.fieldLink "ModuleShelf$Machine" 80 "ModuleShelf$Code" "ops" "[I" ∈ gw_l := gw_of 66 (by rfl) rfl
set_option maxRecDepth 20000 in
theorem fl_L_64 : Cond.fieldLink "ModuleShelf$Library" 64 "ModuleShelf$Code" "ops" "[I" ∈ gw_l := gw_of 67 (by rfl) rfl
set_option maxRecDepth 20000 in
theorem fl_C_21 : Cond.fieldLink "ModuleShelf$Code" 21 "ModuleShelf$Code" "as" "[I" ∈ gw_l := gw_of 68 (by rfl) rfl
set_option maxRecDepth 20000 in
theorem fl_N_73 : Cond.fieldLink "ModuleShelf$Machine" 73 "ModuleShelf$Code" "as" "[I" ∈ gw_l := gw_of 69 (by rfl) rfl
set_option maxRecDepth 20000 in
theorem fl_L_57 : Cond.fieldLink "ModuleShelf$Library" 57 "ModuleShelf$Code" "as" "[I" ∈ gw_l := gw_of 70 (by rfl) rfl
set_option maxRecDepth 20000 in
theorem fl_C_24 : Cond.fieldLink "ModuleShelf$Code" 24 "ModuleShelf$Code" "bs" "[I" ∈ gw_l := gw_of 71 (by rfl) rfl
set_option maxRecDepth 20000 in
theorem fl_N_77 : Cond.fieldLink "ModuleShelf$Machine" 77 "ModuleShelf$Code" "bs" "[I" ∈ gw_l := gw_of 72 (by rfl) rfl
set_option maxRecDepth 20000 in
theorem fl_L_61 : Cond.fieldLink "ModuleShelf$Library" 61 "ModuleShelf$Code" "bs" "[I" ∈ gw_l := gw_of 73 (by rfl) rfl
set_option maxRecDepth 20000 in
theorem fl_L_22 : Cond.fieldLink "ModuleShelf$Library" 22 "ModuleShelf$Unit" "present" "Z" ∈ gw_l := gw_of 105 (by rfl) rfl
set_option maxRecDepth 20000 in
theorem fl_M_30 : Cond.fieldLink "ModuleShelf$Memory" 30 "ModuleShelf$Unit" "present" "Z" ∈ gw_l := gw_of 106 (by rfl) rfl
set_option maxRecDepth 20000 in
theorem fl_U_33 : Cond.fieldLink "ModuleShelf$Unit" 33 "ModuleShelf$Unit" "present" "Z" ∈ gw_l := gw_of 107 (by rfl) rfl
set_option maxRecDepth 20000 in
theorem fl_S_74 : Cond.fieldLink "ModuleShelf" 74 "ModuleShelf$Unit" "present" "Z" ∈ gw_l := gw_of 108 (by rfl) rfl
set_option maxRecDepth 20000 in
theorem fl_U_37 : Cond.fieldLink "ModuleShelf$Unit" 37 "ModuleShelf$Unit" "key" "I" ∈ gw_l := gw_of 109 (by rfl) rfl
set_option maxRecDepth 20000 in
theorem fl_L_90 : Cond.fieldLink "ModuleShelf$Library" 90 "ModuleShelf$Unit" "key" "I" ∈ gw_l := gw_of 110 (by rfl) rfl
set_option maxRecDepth 20000 in
theorem fl_M_87 : Cond.fieldLink "ModuleShelf$Memory" 87 "ModuleShelf$Unit" "key" "I" ∈ gw_l := gw_of 111 (by rfl) rfl
set_option maxRecDepth 20000 in
theorem fl_S_115 : Cond.fieldLink "ModuleShelf" 115 "ModuleShelf$Unit" "key" "I" ∈ gw_l := gw_of 112 (by rfl) rfl
set_option maxRecDepth 20000 in
theorem fl_U_25 : Cond.fieldLink "ModuleShelf$Unit" 25 "ModuleShelf$Unit" "imports" "I" ∈ gw_l := gw_of 113 (by rfl) rfl
set_option maxRecDepth 20000 in
theorem fl_L_101 : Cond.fieldLink "ModuleShelf$Library" 101 "ModuleShelf$Unit" "imports" "I" ∈ gw_l := gw_of 114 (by rfl) rfl
set_option maxRecDepth 20000 in
theorem fl_M_80 : Cond.fieldLink "ModuleShelf$Memory" 80 "ModuleShelf$Unit" "imports" "I" ∈ gw_l := gw_of 115 (by rfl) rfl
set_option maxRecDepth 20000 in
theorem fl_S_118 : Cond.fieldLink "ModuleShelf" 118 "ModuleShelf$Unit" "imports" "I" ∈ gw_l := gw_of 116 (by rfl) rfl
set_option maxRecDepth 20000 in
theorem fl_U_9 : Cond.fieldLink "ModuleShelf$Unit" 9 "ModuleShelf$Unit" "importModules" "[I" ∈ gw_l := gw_of 117 (by rfl) rfl
set_option maxRecDepth 20000 in
theorem fl_M_84 : Cond.fieldLink "ModuleShelf$Memory" 84 "ModuleShelf$Unit" "importModules" "[I" ∈ gw_l := gw_of 118 (by rfl) rfl
set_option maxRecDepth 20000 in
theorem fl_S_121 : Cond.fieldLink "ModuleShelf" 121 "ModuleShelf$Unit" "importModules" "[I" ∈ gw_l := gw_of 119 (by rfl) rfl
set_option maxRecDepth 20000 in
theorem fl_U_15 : Cond.fieldLink "ModuleShelf$Unit" 15 "ModuleShelf$Unit" "importKeys" "[I" ∈ gw_l := gw_of 120 (by rfl) rfl
set_option maxRecDepth 20000 in
theorem fl_M_90 : Cond.fieldLink "ModuleShelf$Memory" 90 "ModuleShelf$Unit" "importKeys" "[I" ∈ gw_l := gw_of 121 (by rfl) rfl
set_option maxRecDepth 20000 in
theorem fl_S_125 : Cond.fieldLink "ModuleShelf" 125 "ModuleShelf$Unit" "importKeys" "[I" ∈ gw_l := gw_of 122 (by rfl) rfl
set_option maxRecDepth 20000 in
theorem fl_U_21 : Cond.fieldLink "ModuleShelf$Unit" 21 "ModuleShelf$Unit" "code" "LModuleShelf$Code;" ∈ gw_l := gw_of 123 (by rfl) rfl
set_option maxRecDepth 20000 in
theorem fl_N_48 : Cond.fieldLink "ModuleShelf$Machine" 48 "ModuleShelf$Unit" "code" "LModuleShelf$Code;" ∈ gw_l := gw_of 124 (by rfl) rfl
set_option maxRecDepth 20000 in
theorem fl_M_39 : Cond.fieldLink "ModuleShelf$Memory" 39 "ModuleShelf$Unit" "code" "LModuleShelf$Code;" ∈ gw_l := gw_of 125 (by rfl) rfl
set_option maxRecDepth 20000 in
theorem fl_L_73 : Cond.fieldLink "ModuleShelf$Library" 73 "ModuleShelf$Unit" "code" "LModuleShelf$Code;" ∈ gw_l := gw_of 126 (by rfl) rfl
set_option maxRecDepth 20000 in
theorem fl_L_11 : Cond.fieldLink "ModuleShelf$Library" 11 "ModuleShelf$Library" "units" "[LModuleShelf$Unit;" ∈ gw_l := gw_of 140 (by rfl) rfl
set_option maxRecDepth 20000 in
theorem fl_S_70 : Cond.fieldLink "ModuleShelf" 70 "ModuleShelf$Library" "units" "[LModuleShelf$Unit;" ∈ gw_l := gw_of 141 (by rfl) rfl
set_option maxRecDepth 20000 in
theorem fl_M_76 : Cond.fieldLink "ModuleShelf$Memory" 76 "ModuleShelf$Library" "units" "[LModuleShelf$Unit;" ∈ gw_l := gw_of 142 (by rfl) rfl
set_option maxRecDepth 20000 in
theorem fl_L_87 : Cond.fieldLink "ModuleShelf$Library" 87 "ModuleShelf$Library" "keysGiven" "I" ∈ gw_l := gw_of 143 (by rfl) rfl
set_option maxRecDepth 20000 in
theorem fl_S_142 : Cond.fieldLink "ModuleShelf" 142 "ModuleShelf$Library" "keysGiven" "I" ∈ gw_l := gw_of 144 (by rfl) rfl
set_option maxRecDepth 20000 in
theorem fl_L_35 : Cond.fieldLink "ModuleShelf$Library" 35 "ModuleShelf$Library" "at" "I" ∈ gw_l := gw_of 145 (by rfl) rfl
set_option maxRecDepth 20000 in
theorem fl_I_12 : Cond.fieldLink "ModuleShelf$Image" 12 "ModuleShelf$Image" "unit" "LModuleShelf$Unit;" ∈ gw_l := gw_of 168 (by rfl) rfl
set_option maxRecDepth 20000 in
theorem fl_M_26 : Cond.fieldLink "ModuleShelf$Memory" 26 "ModuleShelf$Image" "unit" "LModuleShelf$Unit;" ∈ gw_l := gw_of 169 (by rfl) rfl
set_option maxRecDepth 20000 in
theorem fl_N_42 : Cond.fieldLink "ModuleShelf$Machine" 42 "ModuleShelf$Image" "unit" "LModuleShelf$Unit;" ∈ gw_l := gw_of 170 (by rfl) rfl
set_option maxRecDepth 20000 in
theorem fl_S_92 : Cond.fieldLink "ModuleShelf" 92 "ModuleShelf$Image" "unit" "LModuleShelf$Unit;" ∈ gw_l := gw_of 171 (by rfl) rfl
set_option maxRecDepth 20000 in
theorem fl_I_18 : Cond.fieldLink "ModuleShelf$Image" 18 "ModuleShelf$Image" "values" "[I" ∈ gw_l := gw_of 172 (by rfl) rfl
set_option maxRecDepth 20000 in
theorem fl_M_59 : Cond.fieldLink "ModuleShelf$Memory" 59 "ModuleShelf$Image" "values" "[I" ∈ gw_l := gw_of 173 (by rfl) rfl
set_option maxRecDepth 20000 in
theorem fl_M_11 : Cond.fieldLink "ModuleShelf$Memory" 11 "ModuleShelf$Memory" "images" "[LModuleShelf$Image;" ∈ gw_l := gw_of 180 (by rfl) rfl
set_option maxRecDepth 20000 in
theorem fl_N_33 : Cond.fieldLink "ModuleShelf$Machine" 33 "ModuleShelf$Memory" "images" "[LModuleShelf$Image;" ∈ gw_l := gw_of 181 (by rfl) rfl
set_option maxRecDepth 20000 in
theorem fl_S_88 : Cond.fieldLink "ModuleShelf" 88 "ModuleShelf$Memory" "images" "[LModuleShelf$Image;" ∈ gw_l := gw_of 182 (by rfl) rfl
set_option maxRecDepth 20000 in
theorem fl_M_17 : Cond.fieldLink "ModuleShelf$Memory" 17 "ModuleShelf$Memory" "begun" "[Z" ∈ gw_l := gw_of 183 (by rfl) rfl
set_option maxRecDepth 20000 in
theorem fl_F_7 : Cond.fieldLink "ModuleShelf$Frame" 7 "ModuleShelf$Frame" "module" "I" ∈ gw_l := gw_of 202 (by rfl) rfl
set_option maxRecDepth 20000 in
theorem fl_N_39 : Cond.fieldLink "ModuleShelf$Machine" 39 "ModuleShelf$Frame" "module" "I" ∈ gw_l := gw_of 203 (by rfl) rfl
set_option maxRecDepth 20000 in
theorem fl_F_13 : Cond.fieldLink "ModuleShelf$Frame" 13 "ModuleShelf$Frame" "procedure" "I" ∈ gw_l := gw_of 204 (by rfl) rfl
set_option maxRecDepth 20000 in
theorem fl_N_57 : Cond.fieldLink "ModuleShelf$Machine" 57 "ModuleShelf$Frame" "procedure" "I" ∈ gw_l := gw_of 205 (by rfl) rfl
set_option maxRecDepth 20000 in
theorem fl_F_16 : Cond.fieldLink "ModuleShelf$Frame" 16 "ModuleShelf$Frame" "x" "I" ∈ gw_l := gw_of 206 (by rfl) rfl
set_option maxRecDepth 20000 in
theorem fl_N_83 : Cond.fieldLink "ModuleShelf$Machine" 83 "ModuleShelf$Frame" "x" "I" ∈ gw_l := gw_of 207 (by rfl) rfl
set_option maxRecDepth 20000 in
theorem fl_F_19 : Cond.fieldLink "ModuleShelf$Frame" 19 "ModuleShelf$Frame" "y" "I" ∈ gw_l := gw_of 208 (by rfl) rfl
set_option maxRecDepth 20000 in
theorem fl_N_86 : Cond.fieldLink "ModuleShelf$Machine" 86 "ModuleShelf$Frame" "y" "I" ∈ gw_l := gw_of 209 (by rfl) rfl
set_option maxRecDepth 20000 in
theorem fl_F_22 : Cond.fieldLink "ModuleShelf$Frame" 22 "ModuleShelf$Frame" "at" "I" ∈ gw_l := gw_of 210 (by rfl) rfl
set_option maxRecDepth 20000 in
theorem fl_N_54 : Cond.fieldLink "ModuleShelf$Machine" 54 "ModuleShelf$Frame" "at" "I" ∈ gw_l := gw_of 211 (by rfl) rfl
set_option maxRecDepth 20000 in
theorem fl_N_11 : Cond.fieldLink "ModuleShelf$Machine" 11 "ModuleShelf$Machine" "frames" "[LModuleShelf$Frame;" ∈ gw_l := gw_of 223 (by rfl) rfl
set_option maxRecDepth 20000 in
theorem fl_N_18 : Cond.fieldLink "ModuleShelf$Machine" 18 "ModuleShelf$Machine" "stepsBegun" "I" ∈ gw_l := gw_of 224 (by rfl) rfl
set_option maxRecDepth 20000 in
theorem fl_S_109 : Cond.fieldLink "ModuleShelf" 109 "ModuleShelf$Machine" "stepsBegun" "I" ∈ gw_l := gw_of 225 (by rfl) rfl
set_option maxRecDepth 20000 in
theorem fl_N_22 : Cond.fieldLink "ModuleShelf$Machine" 22 "ModuleShelf$Machine" "fault" "I" ∈ gw_l := gw_of 226 (by rfl) rfl
set_option maxRecDepth 20000 in
theorem fl_S_106 : Cond.fieldLink "ModuleShelf" 106 "ModuleShelf$Machine" "fault" "I" ∈ gw_l := gw_of 227 (by rfl) rfl
set_option maxRecDepth 20000 in
theorem fl_S_10 : Cond.fieldLink "ModuleShelf" 10 "ModuleShelf" "draft" "LModuleShelf$Code;" ∈ gw_l := gw_of 235 (by rfl) rfl
set_option maxRecDepth 20000 in
theorem fl_S_19 : Cond.fieldLink "ModuleShelf" 19 "ModuleShelf" "library" "LModuleShelf$Library;" ∈ gw_l := gw_of 236 (by rfl) rfl
set_option maxRecDepth 20000 in
theorem fl_S_26 : Cond.fieldLink "ModuleShelf" 26 "ModuleShelf" "memory" "LModuleShelf$Memory;" ∈ gw_l := gw_of 237 (by rfl) rfl
set_option maxRecDepth 20000 in
theorem fl_S_33 : Cond.fieldLink "ModuleShelf" 33 "ModuleShelf" "machine" "LModuleShelf$Machine;" ∈ gw_l := gw_of 238 (by rfl) rfl
set_option maxRecDepth 20000 in
theorem fl_S_37 : Cond.fieldLink "ModuleShelf" 37 "ModuleShelf" "wrongPlace" "I" ∈ gw_l := gw_of 239 (by rfl) rfl
set_option maxRecDepth 20000 in
theorem fl_S_41 : Cond.fieldLink "ModuleShelf" 41 "ModuleShelf" "lastValue" "I" ∈ gw_l := gw_of 240 (by rfl) rfl
set_option maxRecDepth 20000 in
theorem fl_R_7 : Cond.fieldLink "ModuleShelfModel" 7 "ModuleShelfModel" "key" "[I" ∈ gw_l := gw_of 533 (by rfl) rfl
set_option maxRecDepth 20000 in
theorem fl_R_13 : Cond.fieldLink "ModuleShelfModel" 13 "ModuleShelfModel" "variables" "[I" ∈ gw_l := gw_of 534 (by rfl) rfl
set_option maxRecDepth 20000 in
theorem fl_R_16 : Cond.fieldLink "ModuleShelfModel" 16 "ModuleShelfModel" "procedures" "[I" ∈ gw_l := gw_of 535 (by rfl) rfl
set_option maxRecDepth 20000 in
theorem fl_R_19 : Cond.fieldLink "ModuleShelfModel" 19 "ModuleShelfModel" "arguments" "[I" ∈ gw_l := gw_of 536 (by rfl) rfl
set_option maxRecDepth 20000 in
theorem fl_R_22 : Cond.fieldLink "ModuleShelfModel" 22 "ModuleShelfModel" "size" "[I" ∈ gw_l := gw_of 537 (by rfl) rfl
set_option maxRecDepth 20000 in
theorem fl_R_25 : Cond.fieldLink "ModuleShelfModel" 25 "ModuleShelfModel" "op" "[I" ∈ gw_l := gw_of 538 (by rfl) rfl
set_option maxRecDepth 20000 in
theorem fl_R_28 : Cond.fieldLink "ModuleShelfModel" 28 "ModuleShelfModel" "a" "[I" ∈ gw_l := gw_of 539 (by rfl) rfl
set_option maxRecDepth 20000 in
theorem fl_R_31 : Cond.fieldLink "ModuleShelfModel" 31 "ModuleShelfModel" "b" "[I" ∈ gw_l := gw_of 540 (by rfl) rfl
set_option maxRecDepth 20000 in
theorem fl_R_34 : Cond.fieldLink "ModuleShelfModel" 34 "ModuleShelfModel" "imports" "[I" ∈ gw_l := gw_of 541 (by rfl) rfl
set_option maxRecDepth 20000 in
theorem fl_R_37 : Cond.fieldLink "ModuleShelfModel" 37 "ModuleShelfModel" "importOf" "[I" ∈ gw_l := gw_of 542 (by rfl) rfl
set_option maxRecDepth 20000 in
theorem fl_R_40 : Cond.fieldLink "ModuleShelfModel" 40 "ModuleShelfModel" "importKey" "[I" ∈ gw_l := gw_of 543 (by rfl) rfl
set_option maxRecDepth 20000 in
theorem fl_R_43 : Cond.fieldLink "ModuleShelfModel" 43 "ModuleShelfModel" "value" "[I" ∈ gw_l := gw_of 544 (by rfl) rfl
set_option maxRecDepth 20000 in
theorem fl_R_106 : Cond.fieldLink "ModuleShelfModel" 106 "ModuleShelfModel" "given" "I" ∈ gw_l := gw_of 545 (by rfl) rfl
set_option maxRecDepth 20000 in
theorem fl_R_46 : Cond.fieldLink "ModuleShelfModel" 46 "ModuleShelfModel" "place" "I" ∈ gw_l := gw_of 546 (by rfl) rfl
set_option maxRecDepth 20000 in
theorem fl_R_156 : Cond.fieldLink "ModuleShelfModel" 156 "ModuleShelfModel" "result" "I" ∈ gw_l := gw_of 547 (by rfl) rfl
set_option maxRecDepth 20000 in
theorem fl_R_133 : Cond.fieldLink "ModuleShelfModel" 133 "ModuleShelfModel" "steps" "I" ∈ gw_l := gw_of 548 (by rfl) rfl
set_option maxRecDepth 20000 in
theorem fl_R_50 : Cond.fieldLink "ModuleShelfModel" 50 "ModuleShelfModel" "loading" "[I" ∈ gw_l := gw_of 549 (by rfl) rfl
set_option maxRecDepth 20000 in
theorem fl_R_53 : Cond.fieldLink "ModuleShelfModel" 53 "ModuleShelfModel" "next" "[I" ∈ gw_l := gw_of 550 (by rfl) rfl
set_option maxRecDepth 20000 in
theorem fl_R_56 : Cond.fieldLink "ModuleShelfModel" 56 "ModuleShelfModel" "left" "[I" ∈ gw_l := gw_of 551 (by rfl) rfl
set_option maxRecDepth 20000 in
theorem fl_R_59 : Cond.fieldLink "ModuleShelfModel" 59 "ModuleShelfModel" "task" "[I" ∈ gw_l := gw_of 552 (by rfl) rfl
set_option maxRecDepth 20000 in
theorem fl_R_62 : Cond.fieldLink "ModuleShelfModel" 62 "ModuleShelfModel" "where" "[I" ∈ gw_l := gw_of 553 (by rfl) rfl
set_option maxRecDepth 20000 in
theorem fl_R_65 : Cond.fieldLink "ModuleShelfModel" 65 "ModuleShelfModel" "frame" "[I" ∈ gw_l := gw_of 554 (by rfl) rfl
set_option maxRecDepth 20000 in
theorem fl_R_124 : Cond.fieldLink "ModuleShelfModel" 124 "ModuleShelfModel" "tasks" "I" ∈ gw_l := gw_of 555 (by rfl) rfl
set_option maxRecDepth 20000 in
theorem fl_R_68 : Cond.fieldLink "ModuleShelfModel" 68 "ModuleShelfModel" "values" "[I" ∈ gw_l := gw_of 556 (by rfl) rfl
set_option maxRecDepth 20000 in
theorem fl_R_127 : Cond.fieldLink "ModuleShelfModel" 127 "ModuleShelfModel" "held" "I" ∈ gw_l := gw_of 557 (by rfl) rfl
set_option maxRecDepth 20000 in
theorem fl_R_71 : Cond.fieldLink "ModuleShelfModel" 71 "ModuleShelfModel" "frameModule" "[I" ∈ gw_l := gw_of 558 (by rfl) rfl
set_option maxRecDepth 20000 in
theorem fl_R_74 : Cond.fieldLink "ModuleShelfModel" 74 "ModuleShelfModel" "frameProcedure" "[I" ∈ gw_l := gw_of 559 (by rfl) rfl
set_option maxRecDepth 20000 in
theorem fl_R_77 : Cond.fieldLink "ModuleShelfModel" 77 "ModuleShelfModel" "frameX" "[I" ∈ gw_l := gw_of 560 (by rfl) rfl
set_option maxRecDepth 20000 in
theorem fl_R_80 : Cond.fieldLink "ModuleShelfModel" 80 "ModuleShelfModel" "frameY" "[I" ∈ gw_l := gw_of 561 (by rfl) rfl
set_option maxRecDepth 20000 in
theorem ml_W_9 : Cond.methodLink "ModuleShelfLaw" 9 ⟨"ModuleShelf", "<init>", "()V"⟩ ∈ gw_l := gw_of 47 (by rfl) rfl
set_option maxRecDepth 20000 in
theorem ml_S_1 : Cond.methodLink "ModuleShelf" 1 ⟨"java/lang/Object", "<init>", "()V"⟩ ∈ gw_l := gw_of 50 (by rfl) rfl
set_option maxRecDepth 20000 in
theorem ml_C_3 : Cond.methodLink "ModuleShelf$Code" 3 ⟨"java/lang/Object", "<init>", "()V"⟩ ∈ gw_l := gw_of 58 (by rfl) rfl
set_option maxRecDepth 20000 in
theorem ml_S_18 : Cond.methodLink "ModuleShelf" 18 ⟨"ModuleShelf$Library", "<init>", "()V"⟩ ∈ gw_l := gw_of 92 (by rfl) rfl
set_option maxRecDepth 20000 in
theorem ml_L_3 : Cond.methodLink "ModuleShelf$Library" 3 ⟨"java/lang/Object", "<init>", "()V"⟩ ∈ gw_l := gw_of 95 (by rfl) rfl
set_option maxRecDepth 20000 in
theorem ml_U_3 : Cond.methodLink "ModuleShelf$Unit" 3 ⟨"java/lang/Object", "<init>", "()V"⟩ ∈ gw_l := gw_of 102 (by rfl) rfl
set_option maxRecDepth 20000 in
theorem ml_S_25 : Cond.methodLink "ModuleShelf" 25 ⟨"ModuleShelf$Memory", "<init>", "()V"⟩ ∈ gw_l := gw_of 155 (by rfl) rfl
set_option maxRecDepth 20000 in
theorem ml_M_3 : Cond.methodLink "ModuleShelf$Memory" 3 ⟨"java/lang/Object", "<init>", "()V"⟩ ∈ gw_l := gw_of 158 (by rfl) rfl
set_option maxRecDepth 20000 in
theorem ml_I_3 : Cond.methodLink "ModuleShelf$Image" 3 ⟨"java/lang/Object", "<init>", "()V"⟩ ∈ gw_l := gw_of 165 (by rfl) rfl
set_option maxRecDepth 20000 in
theorem ml_S_32 : Cond.methodLink "ModuleShelf" 32 ⟨"ModuleShelf$Machine", "<init>", "()V"⟩ ∈ gw_l := gw_of 191 (by rfl) rfl
set_option maxRecDepth 20000 in
theorem ml_N_3 : Cond.methodLink "ModuleShelf$Machine" 3 ⟨"java/lang/Object", "<init>", "()V"⟩ ∈ gw_l := gw_of 194 (by rfl) rfl
set_option maxRecDepth 20000 in
theorem ml_F_1 : Cond.methodLink "ModuleShelf$Frame" 1 ⟨"java/lang/Object", "<init>", "()V"⟩ ∈ gw_l := gw_of 201 (by rfl) rfl
set_option maxRecDepth 20000 in
theorem ml_W_13 : Cond.methodLink "ModuleShelfLaw" 13 ⟨"ModuleShelf", "begin", "(I)I"⟩ ∈ gw_l := gw_of 254 (by rfl) rfl
set_option maxRecDepth 20000 in
theorem ml_S_44 : Cond.methodLink "ModuleShelf" 44 ⟨"ModuleShelf$Code", "clear", "(I)V"⟩ ∈ gw_l := gw_of 258 (by rfl) rfl
set_option maxRecDepth 20000 in
theorem ml_W_18 : Cond.methodLink "ModuleShelfLaw" 18 ⟨"ModuleShelf", "procedure", "(I)I"⟩ ∈ gw_l := gw_of 262 (by rfl) rfl
set_option maxRecDepth 20000 in
theorem ml_S_48 : Cond.methodLink "ModuleShelf" 48 ⟨"ModuleShelf$Code", "addProcedure", "(I)I"⟩ ∈ gw_l := gw_of 266 (by rfl) rfl
set_option maxRecDepth 20000 in
theorem ml_W_22 : Cond.methodLink "ModuleShelfLaw" 22 ⟨"ModuleShelf", "token", "(III)I"⟩ ∈ gw_l := gw_of 270 (by rfl) rfl
set_option maxRecDepth 20000 in
theorem ml_S_52 : Cond.methodLink "ModuleShelf" 52 ⟨"ModuleShelf$Code", "addToken", "(III)I"⟩ ∈ gw_l := gw_of 274 (by rfl) rfl
set_option maxRecDepth 20000 in
theorem ml_C_34 : Cond.methodLink "ModuleShelf$Code" 34 ⟨"ModuleShelf$Code", "cellOf", "(II)I"⟩ ∈ gw_l := gw_of 278 (by rfl) rfl
set_option maxRecDepth 20000 in
theorem ml_W_27 : Cond.methodLink "ModuleShelfLaw" 27 ⟨"ModuleShelf", "compile", "(I)I"⟩ ∈ gw_l := gw_of 282 (by rfl) rfl
set_option maxRecDepth 20000 in
theorem ml_S_56 : Cond.methodLink "ModuleShelf" 56 ⟨"ModuleShelf", "isModule", "(I)Z"⟩ ∈ gw_l := gw_of 286 (by rfl) rfl
set_option maxRecDepth 20000 in
theorem ml_S_60 : Cond.methodLink "ModuleShelf" 60 ⟨"ModuleShelf$Library", "firstWrong", "(LModuleShelf$Code;I)I"⟩ ∈ gw_l := gw_of 289 (by rfl) rfl
set_option maxRecDepth 20000 in
theorem ml_L_38 : Cond.methodLink "ModuleShelf$Library" 38 ⟨"ModuleShelf$Library", "isExpression", "(LModuleShelf$Code;III)Z"⟩ ∈ gw_l := gw_of 293 (by rfl) rfl
set_option maxRecDepth 20000 in
theorem ml_L_42 : Cond.methodLink "ModuleShelf$Library" 42 ⟨"ModuleShelf$Code", "lengthOf", "(I)I"⟩ ∈ gw_l := gw_of 297 (by rfl) rfl
set_option maxRecDepth 20000 in
theorem ml_C_38 : Cond.methodLink "ModuleShelf$Code" 38 ⟨"ModuleShelf$Code", "hasProcedure", "(I)Z"⟩ ∈ gw_l := gw_of 301 (by rfl) rfl
set_option maxRecDepth 20000 in
theorem ml_L_46 : Cond.methodLink "ModuleShelf$Library" 46 ⟨"ModuleShelf$Code", "cellOf", "(II)I"⟩ ∈ gw_l := gw_of 305 (by rfl) rfl
set_option maxRecDepth 20000 in
theorem ml_L_50 : Cond.methodLink "ModuleShelf$Library" 50 ⟨"ModuleShelf$Library", "isRight", "(LModuleShelf$Code;III)Z"⟩ ∈ gw_l := gw_of 306 (by rfl) rfl
set_option maxRecDepth 20000 in
theorem ml_L_67 : Cond.methodLink "ModuleShelf$Library" 67 ⟨"ModuleShelf$Code", "argumentsOf", "(I)I"⟩ ∈ gw_l := gw_of 310 (by rfl) rfl
set_option maxRecDepth 20000 in
theorem ml_L_70 : Cond.methodLink "ModuleShelf$Library" 70 ⟨"ModuleShelf$Code", "hasVariable", "(I)Z"⟩ ∈ gw_l := gw_of 314 (by rfl) rfl
set_option maxRecDepth 20000 in
theorem ml_L_26 : Cond.methodLink "ModuleShelf$Library" 26 ⟨"ModuleShelf$Library", "has", "(I)Z"⟩ ∈ gw_l := gw_of 318 (by rfl) rfl
set_option maxRecDepth 20000 in
theorem ml_L_77 : Cond.methodLink "ModuleShelf$Library" 77 ⟨"ModuleShelf$Library", "argumentsOf", "(LModuleShelf$Code;III)I"⟩ ∈ gw_l := gw_of 323 (by rfl) rfl
set_option maxRecDepth 20000 in
theorem ml_L_53 : Cond.methodLink "ModuleShelf$Library" 53 ⟨"ModuleShelf$Library", "partsOf", "(LModuleShelf$Code;II)I"⟩ ∈ gw_l := gw_of 327 (by rfl) rfl
set_option maxRecDepth 20000 in
theorem ml_S_64 : Cond.methodLink "ModuleShelf" 64 ⟨"ModuleShelf$Library", "keep", "(LModuleShelf$Code;I)I"⟩ ∈ gw_l := gw_of 333 (by rfl) rfl
set_option maxRecDepth 20000 in
theorem ml_L_83 : Cond.methodLink "ModuleShelf$Library" 83 ⟨"ModuleShelf$Code", "hasInterfaceOf", "(LModuleShelf$Code;)Z"⟩ ∈ gw_l := gw_of 337 (by rfl) rfl
set_option maxRecDepth 20000 in
theorem ml_L_93 : Cond.methodLink "ModuleShelf$Library" 93 ⟨"ModuleShelf$Code", "copyFrom", "(LModuleShelf$Code;)V"⟩ ∈ gw_l := gw_of 341 (by rfl) rfl
set_option maxRecDepth 20000 in
theorem ml_C_42 : Cond.methodLink "ModuleShelf$Code" 42 ⟨"java/lang/System", "arraycopy", "(Ljava/lang/Object;ILjava/lang/Object;II)V"⟩ ∈ gw_l := gw_of 345 (by rfl) rfl
set_option maxRecDepth 20000 in
theorem ml_L_97 : Cond.methodLink "ModuleShelf$Library" 97 ⟨"ModuleShelf$Library", "gatherImports", "(LModuleShelf$Unit;I)V"⟩ ∈ gw_l := gw_of 348 (by rfl) rfl
set_option maxRecDepth 20000 in
theorem ml_L_104 : Cond.methodLink "ModuleShelf$Library" 104 ⟨"ModuleShelf$Unit", "addImport", "(II)V"⟩ ∈ gw_l := gw_of 352 (by rfl) rfl
set_option maxRecDepth 20000 in
theorem ml_U_29 : Cond.methodLink "ModuleShelf$Unit" 29 ⟨"ModuleShelf$Unit", "hasImport", "(I)Z"⟩ ∈ gw_l := gw_of 356 (by rfl) rfl
set_option maxRecDepth 20000 in
theorem ml_W_31 : Cond.methodLink "ModuleShelfLaw" 31 ⟨"ModuleShelf", "place", "()I"⟩ ∈ gw_l := gw_of 360 (by rfl) rfl
set_option maxRecDepth 20000 in
theorem ml_W_36 : Cond.methodLink "ModuleShelfLaw" 36 ⟨"ModuleShelf", "remove", "(I)I"⟩ ∈ gw_l := gw_of 364 (by rfl) rfl
set_option maxRecDepth 20000 in
theorem ml_S_67 : Cond.methodLink "ModuleShelf" 67 ⟨"ModuleShelf$Library", "has", "(I)Z"⟩ ∈ gw_l := gw_of 368 (by rfl) rfl
set_option maxRecDepth 20000 in
theorem ml_W_40 : Cond.methodLink "ModuleShelfLaw" 40 ⟨"ModuleShelf", "load", "(I)I"⟩ ∈ gw_l := gw_of 369 (by rfl) rfl
set_option maxRecDepth 20000 in
theorem ml_S_80 : Cond.methodLink "ModuleShelf" 80 ⟨"ModuleShelf$Memory", "bring", "(LModuleShelf$Library;I)I"⟩ ∈ gw_l := gw_of 373 (by rfl) rfl
set_option maxRecDepth 20000 in
theorem ml_M_63 : Cond.methodLink "ModuleShelf$Memory" 63 ⟨"ModuleShelf$Memory", "held", "()I"⟩ ∈ gw_l := gw_of 377 (by rfl) rfl
set_option maxRecDepth 20000 in
theorem ml_M_36 : Cond.methodLink "ModuleShelf$Memory" 36 ⟨"ModuleShelf$Memory", "has", "(I)Z"⟩ ∈ gw_l := gw_of 381 (by rfl) rfl
set_option maxRecDepth 20000 in
theorem ml_M_66 : Cond.methodLink "ModuleShelf$Memory" 66 ⟨"ModuleShelf$Memory", "bringOne", "(LModuleShelf$Library;II)I"⟩ ∈ gw_l := gw_of 386 (by rfl) rfl
set_option maxRecDepth 20000 in
theorem ml_M_73 : Cond.methodLink "ModuleShelf$Memory" 73 ⟨"ModuleShelf$Library", "has", "(I)Z"⟩ ∈ gw_l := gw_of 390 (by rfl) rfl
set_option maxRecDepth 20000 in
theorem ml_M_93 : Cond.methodLink "ModuleShelf$Memory" 93 ⟨"ModuleShelf$Memory", "size", "()I"⟩ ∈ gw_l := gw_of 391 (by rfl) rfl
set_option maxRecDepth 20000 in
theorem ml_M_43 : Cond.methodLink "ModuleShelf$Memory" 43 ⟨"ModuleShelf$Code", "size", "()I"⟩ ∈ gw_l := gw_of 395 (by rfl) rfl
set_option maxRecDepth 20000 in
theorem ml_M_94 : Cond.methodLink "ModuleShelf$Memory" 94 ⟨"ModuleShelf$Image", "fill", "(LModuleShelf$Unit;)V"⟩ ∈ gw_l := gw_of 399 (by rfl) rfl
set_option maxRecDepth 20000 in
theorem ml_I_22 : Cond.methodLink "ModuleShelf$Image" 22 ⟨"ModuleShelf$Unit", "copyFrom", "(LModuleShelf$Unit;)V"⟩ ∈ gw_l := gw_of 403 (by rfl) rfl
set_option maxRecDepth 20000 in
theorem ml_U_40 : Cond.methodLink "ModuleShelf$Unit" 40 ⟨"java/lang/System", "arraycopy", "(Ljava/lang/Object;ILjava/lang/Object;II)V"⟩ ∈ gw_l := gw_of 407 (by rfl) rfl
set_option maxRecDepth 20000 in
theorem ml_U_46 : Cond.methodLink "ModuleShelf$Unit" 46 ⟨"ModuleShelf$Code", "copyFrom", "(LModuleShelf$Code;)V"⟩ ∈ gw_l := gw_of 408 (by rfl) rfl
set_option maxRecDepth 20000 in
theorem ml_I_26 : Cond.methodLink "ModuleShelf$Image" 26 ⟨"java/util/Arrays", "fill", "([II)V"⟩ ∈ gw_l := gw_of 409 (by rfl) rfl
set_option maxRecDepth 20000 in
theorem ml_M_70 : Cond.methodLink "ModuleShelf$Memory" 70 ⟨"ModuleShelf$Memory", "dropBegun", "()V"⟩ ∈ gw_l := gw_of 412 (by rfl) rfl
set_option maxRecDepth 20000 in
theorem ml_W_44 : Cond.methodLink "ModuleShelfLaw" 44 ⟨"ModuleShelf", "unload", "(I)I"⟩ ∈ gw_l := gw_of 416 (by rfl) rfl
set_option maxRecDepth 20000 in
theorem ml_S_84 : Cond.methodLink "ModuleShelf" 84 ⟨"ModuleShelf$Memory", "has", "(I)Z"⟩ ∈ gw_l := gw_of 420 (by rfl) rfl
set_option maxRecDepth 20000 in
theorem ml_S_85 : Cond.methodLink "ModuleShelf" 85 ⟨"ModuleShelf$Memory", "isImported", "(I)Z"⟩ ∈ gw_l := gw_of 421 (by rfl) rfl
set_option maxRecDepth 20000 in
theorem ml_M_49 : Cond.methodLink "ModuleShelf$Memory" 49 ⟨"ModuleShelf$Unit", "hasImport", "(I)Z"⟩ ∈ gw_l := gw_of 425 (by rfl) rfl
set_option maxRecDepth 20000 in
theorem ml_W_48 : Cond.methodLink "ModuleShelfLaw" 48 ⟨"ModuleShelf", "run", "(IIII)I"⟩ ∈ gw_l := gw_of 426 (by rfl) rfl
set_option maxRecDepth 20000 in
theorem ml_S_98 : Cond.methodLink "ModuleShelf" 98 ⟨"ModuleShelf$Memory", "argumentsOf", "(II)I"⟩ ∈ gw_l := gw_of 430 (by rfl) rfl
set_option maxRecDepth 20000 in
theorem ml_M_52 : Cond.methodLink "ModuleShelf$Memory" 52 ⟨"ModuleShelf$Code", "argumentsOf", "(I)I"⟩ ∈ gw_l := gw_of 434 (by rfl) rfl
set_option maxRecDepth 20000 in
theorem ml_S_102 : Cond.methodLink "ModuleShelf" 102 ⟨"ModuleShelf$Machine", "start", "(LModuleShelf$Memory;IIII)I"⟩ ∈ gw_l := gw_of 435 (by rfl) rfl
set_option maxRecDepth 20000 in
theorem ml_N_25 : Cond.methodLink "ModuleShelf$Machine" 25 ⟨"ModuleShelf$Frame", "open", "(IIII)V"⟩ ∈ gw_l := gw_of 439 (by rfl) rfl
set_option maxRecDepth 20000 in
theorem ml_N_29 : Cond.methodLink "ModuleShelf$Machine" 29 ⟨"ModuleShelf$Machine", "work", "(LModuleShelf$Memory;II)I"⟩ ∈ gw_l := gw_of 443 (by rfl) rfl
set_option maxRecDepth 20000 in
theorem ml_N_60 : Cond.methodLink "ModuleShelf$Machine" 60 ⟨"ModuleShelf$Code", "lengthOf", "(I)I"⟩ ∈ gw_l := gw_of 447 (by rfl) rfl
set_option maxRecDepth 20000 in
theorem ml_N_66 : Cond.methodLink "ModuleShelf$Machine" 66 ⟨"ModuleShelf$Machine", "fail", "(I)I"⟩ ∈ gw_l := gw_of 448 (by rfl) rfl
set_option maxRecDepth 20000 in
theorem ml_N_69 : Cond.methodLink "ModuleShelf$Machine" 69 ⟨"ModuleShelf$Code", "cellOf", "(II)I"⟩ ∈ gw_l := gw_of 452 (by rfl) rfl
set_option maxRecDepth 20000 in
theorem ml_N_89 : Cond.methodLink "ModuleShelf$Machine" 89 ⟨"ModuleShelf$Memory", "valueOf", "(II)I"⟩ ∈ gw_l := gw_of 453 (by rfl) rfl
set_option maxRecDepth 20000 in
theorem ml_M_56 : Cond.methodLink "ModuleShelf$Memory" 56 ⟨"ModuleShelf$Code", "hasVariable", "(I)Z"⟩ ∈ gw_l := gw_of 457 (by rfl) rfl
set_option maxRecDepth 20000 in
theorem ml_N_92 : Cond.methodLink "ModuleShelf$Machine" 92 ⟨"ModuleShelf$Machine", "assign", "(LModuleShelf$Memory;III)I"⟩ ∈ gw_l := gw_of 458 (by rfl) rfl
set_option maxRecDepth 20000 in
theorem ml_N_106 : Cond.methodLink "ModuleShelf$Machine" 106 ⟨"ModuleShelf$Memory", "setValue", "(III)V"⟩ ∈ gw_l := gw_of 462 (by rfl) rfl
set_option maxRecDepth 20000 in
theorem ml_N_96 : Cond.methodLink "ModuleShelf$Machine" 96 ⟨"ModuleShelf$Machine", "choose", "(LModuleShelf$Memory;II)I"⟩ ∈ gw_l := gw_of 466 (by rfl) rfl
set_option maxRecDepth 20000 in
theorem ml_N_110 : Cond.methodLink "ModuleShelf$Machine" 110 ⟨"ModuleShelf$Machine", "skip", "(LModuleShelf$Memory;LModuleShelf$Frame;)V"⟩ ∈ gw_l := gw_of 470 (by rfl) rfl
set_option maxRecDepth 20000 in
theorem ml_N_117 : Cond.methodLink "ModuleShelf$Machine" 117 ⟨"ModuleShelf$Machine", "partsOf", "(LModuleShelf$Memory;LModuleShelf$Code;I)I"⟩ ∈ gw_l := gw_of 474 (by rfl) rfl
set_option maxRecDepth 20000 in
theorem ml_N_114 : Cond.methodLink "ModuleShelf$Machine" 114 ⟨"ModuleShelf$Memory", "argumentsOf", "(II)I"⟩ ∈ gw_l := gw_of 479 (by rfl) rfl
set_option maxRecDepth 20000 in
theorem ml_N_124 : Cond.methodLink "ModuleShelf$Machine" 124 ⟨"java/lang/Math", "max", "(II)I"⟩ ∈ gw_l := gw_of 480 (by rfl) rfl
set_option maxRecDepth 20000 in
theorem ml_N_99 : Cond.methodLink "ModuleShelf$Machine" 99 ⟨"ModuleShelf$Machine", "enter", "(LModuleShelf$Memory;IIII)I"⟩ ∈ gw_l := gw_of 483 (by rfl) rfl
set_option maxRecDepth 20000 in
theorem ml_N_103 : Cond.methodLink "ModuleShelf$Machine" 103 ⟨"ModuleShelf$Machine", "combine", "(LModuleShelf$Memory;III)I"⟩ ∈ gw_l := gw_of 487 (by rfl) rfl
set_option maxRecDepth 20000 in
theorem ml_W_53 : Cond.methodLink "ModuleShelfLaw" 53 ⟨"ModuleShelf", "value", "()I"⟩ ∈ gw_l := gw_of 491 (by rfl) rfl
set_option maxRecDepth 20000 in
theorem ml_W_57 : Cond.methodLink "ModuleShelfLaw" 57 ⟨"ModuleShelf", "steps", "()I"⟩ ∈ gw_l := gw_of 495 (by rfl) rfl
set_option maxRecDepth 20000 in
theorem ml_W_61 : Cond.methodLink "ModuleShelfLaw" 61 ⟨"ModuleShelf", "variable", "(II)I"⟩ ∈ gw_l := gw_of 499 (by rfl) rfl
set_option maxRecDepth 20000 in
theorem ml_S_112 : Cond.methodLink "ModuleShelf" 112 ⟨"ModuleShelf$Memory", "valueOf", "(II)I"⟩ ∈ gw_l := gw_of 503 (by rfl) rfl
set_option maxRecDepth 20000 in
theorem ml_W_66 : Cond.methodLink "ModuleShelfLaw" 66 ⟨"ModuleShelf", "key", "(I)I"⟩ ∈ gw_l := gw_of 504 (by rfl) rfl
set_option maxRecDepth 20000 in
theorem ml_W_70 : Cond.methodLink "ModuleShelfLaw" 70 ⟨"ModuleShelf", "loaded", "(I)I"⟩ ∈ gw_l := gw_of 508 (by rfl) rfl
set_option maxRecDepth 20000 in
theorem ml_W_74 : Cond.methodLink "ModuleShelfLaw" 74 ⟨"ModuleShelf", "imported", "(II)I"⟩ ∈ gw_l := gw_of 512 (by rfl) rfl
set_option maxRecDepth 20000 in
theorem ml_W_78 : Cond.methodLink "ModuleShelfLaw" 78 ⟨"ModuleShelf", "count", "(I)I"⟩ ∈ gw_l := gw_of 516 (by rfl) rfl
set_option maxRecDepth 20000 in
theorem ml_S_131 : Cond.methodLink "ModuleShelf" 131 ⟨"ModuleShelf$Code", "lengthOf", "(I)I"⟩ ∈ gw_l := gw_of 520 (by rfl) rfl
set_option maxRecDepth 20000 in
theorem ml_S_134 : Cond.methodLink "ModuleShelf" 134 ⟨"ModuleShelf$Library", "held", "()I"⟩ ∈ gw_l := gw_of 521 (by rfl) rfl
set_option maxRecDepth 20000 in
theorem ml_S_138 : Cond.methodLink "ModuleShelf" 138 ⟨"ModuleShelf$Memory", "held", "()I"⟩ ∈ gw_l := gw_of 525 (by rfl) rfl
set_option maxRecDepth 20000 in
theorem ml_S_139 : Cond.methodLink "ModuleShelf" 139 ⟨"ModuleShelf$Memory", "size", "()I"⟩ ∈ gw_l := gw_of 526 (by rfl) rfl
set_option maxRecDepth 20000 in
theorem ml_W_12 : Cond.methodLink "ModuleShelfLaw" 12 ⟨"ModuleShelfModel", "<init>", "()V"⟩ ∈ gw_l := gw_of 529 (by rfl) rfl
set_option maxRecDepth 20000 in
theorem ml_R_1 : Cond.methodLink "ModuleShelfModel" 1 ⟨"java/lang/Object", "<init>", "()V"⟩ ∈ gw_l := gw_of 532 (by rfl) rfl
set_option maxRecDepth 20000 in
theorem ml_W_17 : Cond.methodLink "ModuleShelfLaw" 17 ⟨"ModuleShelfModel", "begin", "(I)I"⟩ ∈ gw_l := gw_of 621 (by rfl) rfl
set_option maxRecDepth 20000 in
theorem ml_R_83 : Cond.methodLink "ModuleShelfModel" 83 ⟨"ModuleShelfModel", "in", "(III)Z"⟩ ∈ gw_l := gw_of 625 (by rfl) rfl
set_option maxRecDepth 20000 in
theorem ml_W_21 : Cond.methodLink "ModuleShelfLaw" 21 ⟨"ModuleShelfModel", "procedure", "(I)I"⟩ ∈ gw_l := gw_of 628 (by rfl) rfl
set_option maxRecDepth 20000 in
theorem ml_W_26 : Cond.methodLink "ModuleShelfLaw" 26 ⟨"ModuleShelfModel", "token", "(III)I"⟩ ∈ gw_l := gw_of 632 (by rfl) rfl
set_option maxRecDepth 20000 in
theorem ml_W_30 : Cond.methodLink "ModuleShelfLaw" 30 ⟨"ModuleShelfModel", "compile", "(I)I"⟩ ∈ gw_l := gw_of 636 (by rfl) rfl
set_option maxRecDepth 20000 in
theorem ml_R_95 : Cond.methodLink "ModuleShelfModel" 95 ⟨"ModuleShelfModel", "firstWrong", "(II)I"⟩ ∈ gw_l := gw_of 640 (by rfl) rfl
set_option maxRecDepth 20000 in
theorem ml_R_91 : Cond.methodLink "ModuleShelfModel" 91 ⟨"ModuleShelfModel", "partsOf", "(III)I"⟩ ∈ gw_l := gw_of 644 (by rfl) rfl
set_option maxRecDepth 20000 in
theorem ml_R_87 : Cond.methodLink "ModuleShelfModel" 87 ⟨"ModuleShelfModel", "seen", "(II)I"⟩ ∈ gw_l := gw_of 648 (by rfl) rfl
set_option maxRecDepth 20000 in
theorem ml_R_98 : Cond.methodLink "ModuleShelfModel" 98 ⟨"ModuleShelfModel", "findImports", "(I)V"⟩ ∈ gw_l := gw_of 652 (by rfl) rfl
set_option maxRecDepth 20000 in
theorem ml_R_102 : Cond.methodLink "ModuleShelfModel" 102 ⟨"ModuleShelfModel", "alike", "(I)Z"⟩ ∈ gw_l := gw_of 656 (by rfl) rfl
set_option maxRecDepth 20000 in
theorem ml_R_109 : Cond.methodLink "ModuleShelfModel" 109 ⟨"ModuleShelfModel", "copy", "(II)V"⟩ ∈ gw_l := gw_of 660 (by rfl) rfl
set_option maxRecDepth 20000 in
theorem ml_W_35 : Cond.methodLink "ModuleShelfLaw" 35 ⟨"ModuleShelfModel", "place", "()I"⟩ ∈ gw_l := gw_of 664 (by rfl) rfl
set_option maxRecDepth 20000 in
theorem ml_W_39 : Cond.methodLink "ModuleShelfLaw" 39 ⟨"ModuleShelfModel", "remove", "(I)I"⟩ ∈ gw_l := gw_of 668 (by rfl) rfl
set_option maxRecDepth 20000 in
theorem ml_W_43 : Cond.methodLink "ModuleShelfLaw" 43 ⟨"ModuleShelfModel", "load", "(I)I"⟩ ∈ gw_l := gw_of 672 (by rfl) rfl
set_option maxRecDepth 20000 in
theorem ml_R_117 : Cond.methodLink "ModuleShelfModel" 117 ⟨"ModuleShelfModel", "begins", "(II)I"⟩ ∈ gw_l := gw_of 676 (by rfl) rfl
set_option maxRecDepth 20000 in
theorem ml_R_113 : Cond.methodLink "ModuleShelfModel" 113 ⟨"ModuleShelfModel", "cells", "(I)I"⟩ ∈ gw_l := gw_of 680 (by rfl) rfl
set_option maxRecDepth 20000 in
theorem ml_R_120 : Cond.methodLink "ModuleShelfModel" 120 ⟨"ModuleShelfModel", "allCells", "()I"⟩ ∈ gw_l := gw_of 684 (by rfl) rfl
set_option maxRecDepth 20000 in
theorem ml_W_47 : Cond.methodLink "ModuleShelfLaw" 47 ⟨"ModuleShelfModel", "unload", "(I)I"⟩ ∈ gw_l := gw_of 688 (by rfl) rfl
set_option maxRecDepth 20000 in
theorem ml_W_52 : Cond.methodLink "ModuleShelfLaw" 52 ⟨"ModuleShelfModel", "run", "(IIII)I"⟩ ∈ gw_l := gw_of 692 (by rfl) rfl
set_option maxRecDepth 20000 in
theorem ml_R_136 : Cond.methodLink "ModuleShelfModel" 136 ⟨"ModuleShelfModel", "enter", "(IIIII)V"⟩ ∈ gw_l := gw_of 696 (by rfl) rfl
set_option maxRecDepth 20000 in
theorem ml_R_152 : Cond.methodLink "ModuleShelfModel" 152 ⟨"ModuleShelfModel", "push", "(III)V"⟩ ∈ gw_l := gw_of 700 (by rfl) rfl
set_option maxRecDepth 20000 in
theorem ml_R_140 : Cond.methodLink "ModuleShelfModel" 140 ⟨"ModuleShelfModel", "begin", "(II)V"⟩ ∈ gw_l := gw_of 704 (by rfl) rfl
set_option maxRecDepth 20000 in
theorem ml_R_159 : Cond.methodLink "ModuleShelfModel" 159 ⟨"ModuleShelfModel", "give", "(I)V"⟩ ∈ gw_l := gw_of 708 (by rfl) rfl
set_option maxRecDepth 20000 in
theorem ml_R_149 : Cond.methodLink "ModuleShelfModel" 149 ⟨"ModuleShelfModel", "end", "(I)I"⟩ ∈ gw_l := gw_of 712 (by rfl) rfl
set_option maxRecDepth 20000 in
theorem ml_R_130 : Cond.methodLink "ModuleShelfModel" 130 ⟨"ModuleShelfModel", "parts", "(I)I"⟩ ∈ gw_l := gw_of 716 (by rfl) rfl
set_option maxRecDepth 20000 in
theorem ml_R_143 : Cond.methodLink "ModuleShelfModel" 143 ⟨"ModuleShelfModel", "use", "(II)I"⟩ ∈ gw_l := gw_of 720 (by rfl) rfl
set_option maxRecDepth 20000 in
theorem ml_R_146 : Cond.methodLink "ModuleShelfModel" 146 ⟨"ModuleShelfModel", "take", "()I"⟩ ∈ gw_l := gw_of 724 (by rfl) rfl
set_option maxRecDepth 20000 in
theorem ml_R_162 : Cond.methodLink "ModuleShelfModel" 162 ⟨"ModuleShelfModel", "quotient", "(II)I"⟩ ∈ gw_l := gw_of 728 (by rfl) rfl
set_option maxRecDepth 20000 in
theorem ml_W_56 : Cond.methodLink "ModuleShelfLaw" 56 ⟨"ModuleShelfModel", "value", "()I"⟩ ∈ gw_l := gw_of 731 (by rfl) rfl
set_option maxRecDepth 20000 in
theorem ml_W_60 : Cond.methodLink "ModuleShelfLaw" 60 ⟨"ModuleShelfModel", "steps", "()I"⟩ ∈ gw_l := gw_of 735 (by rfl) rfl
set_option maxRecDepth 20000 in
theorem ml_W_65 : Cond.methodLink "ModuleShelfLaw" 65 ⟨"ModuleShelfModel", "variable", "(II)I"⟩ ∈ gw_l := gw_of 739 (by rfl) rfl
set_option maxRecDepth 20000 in
theorem ml_W_69 : Cond.methodLink "ModuleShelfLaw" 69 ⟨"ModuleShelfModel", "key", "(I)I"⟩ ∈ gw_l := gw_of 743 (by rfl) rfl
set_option maxRecDepth 20000 in
theorem ml_W_73 : Cond.methodLink "ModuleShelfLaw" 73 ⟨"ModuleShelfModel", "loaded", "(I)I"⟩ ∈ gw_l := gw_of 747 (by rfl) rfl
set_option maxRecDepth 20000 in
theorem ml_W_77 : Cond.methodLink "ModuleShelfLaw" 77 ⟨"ModuleShelfModel", "imported", "(II)I"⟩ ∈ gw_l := gw_of 751 (by rfl) rfl
set_option maxRecDepth 20000 in
theorem ml_W_81 : Cond.methodLink "ModuleShelfLaw" 81 ⟨"ModuleShelfModel", "count", "(I)I"⟩ ∈ gw_l := gw_of 755 (by rfl) rfl
set_option maxRecDepth 20000 in
theorem im_S_init : Cond.instanceMethod xy_S_init ∈ gw_l := gw_of 48 (by rfl) rfl
theorem na_S_init : aw_nm xy_S_init 0 := ⟨by decide, by decide, by decide +kernel⟩
set_option maxRecDepth 20000 in
theorem im_C_init : Cond.instanceMethod xy_C_init ∈ gw_l := gw_of 56 (by rfl) rfl
theorem na_C_init : aw_nm xy_C_init 0 := ⟨by decide, by decide, by decide +kernel⟩
set_option maxRecDepth 20000 in
theorem im_L_init : Cond.instanceMethod xy_L_init ∈ gw_l := gw_of 93 (by rfl) rfl
theorem na_L_init : aw_nm xy_L_init 0 := ⟨by decide, by decide, by decide +kernel⟩
set_option maxRecDepth 20000 in
theorem im_U_init : Cond.instanceMethod xy_U_init ∈ gw_l := gw_of 100 (by rfl) rfl
theorem na_U_init : aw_nm xy_U_init 0 := ⟨by decide, by decide, by decide +kernel⟩
set_option maxRecDepth 20000 in
theorem im_M_init : Cond.instanceMethod xy_M_init ∈ gw_l := gw_of 156 (by rfl) rfl
theorem na_M_init : aw_nm xy_M_init 0 := ⟨by decide, by decide, by decide +kernel⟩
set_option maxRecDepth 20000 in
theorem im_I_init : Cond.instanceMethod xy_I_init ∈ gw_l := gw_of 163 (by rfl) rfl
theorem na_I_init : aw_nm xy_I_init 0 := ⟨by decide, by decide, by decide +kernel⟩
set_option maxRecDepth 20000 in
theorem im_N_init : Cond.instanceMethod xy_N_init ∈ gw_l := gw_of 192 (by rfl) rfl
theorem na_N_init : aw_nm xy_N_init 0 := ⟨by decide, by decide, by decide +kernel⟩
set_option maxRecDepth 20000 in
theorem im_F_init : Cond.instanceMethod xy_F_init ∈ gw_l := gw_of 199 (by rfl) rfl
theorem na_F_init : aw_nm xy_F_init 0 := ⟨by decide, by decide, by decide +kernel⟩
set_option maxRecDepth 20000 in
theorem im_S_begin : Cond.instanceMethod xy_S_begin ∈ gw_l := gw_of 255 (by rfl) rfl
set_option maxRecDepth 20000 in
theorem se_S_begin : Cond.selects "ModuleShelf" xy_S_begin xy_S_begin ∈ gw_l := gw_of 256 (by rfl) rfl
theorem na_S_begin : aw_nm xy_S_begin 1 := ⟨by decide, by decide, by decide +kernel⟩
set_option maxRecDepth 20000 in
theorem im_C_clear : Cond.instanceMethod xy_C_clear ∈ gw_l := gw_of 259 (by rfl) rfl
set_option maxRecDepth 20000 in
theorem se_C_clear : Cond.selects "ModuleShelf$Code" xy_C_clear xy_C_clear ∈ gw_l := gw_of 260 (by rfl) rfl
theorem na_C_clear : aw_nm xy_C_clear 1 := ⟨by decide, by decide, by decide +kernel⟩
set_option maxRecDepth 20000 in
theorem im_S_procedure : Cond.instanceMethod xy_S_procedure ∈ gw_l := gw_of 263 (by rfl) rfl
set_option maxRecDepth 20000 in
theorem se_S_procedure : Cond.selects "ModuleShelf" xy_S_procedure xy_S_procedure ∈ gw_l := gw_of 264 (by rfl) rfl
theorem na_S_procedure : aw_nm xy_S_procedure 1 := ⟨by decide, by decide, by decide +kernel⟩
set_option maxRecDepth 20000 in
theorem im_C_addProcedure : Cond.instanceMethod xy_C_addProcedure ∈ gw_l := gw_of 267 (by rfl) rfl
set_option maxRecDepth 20000 in
theorem se_C_addProcedure : Cond.selects "ModuleShelf$Code" xy_C_addProcedure xy_C_addProcedure ∈ gw_l := gw_of 268 (by rfl) rfl
theorem na_C_addProcedure : aw_nm xy_C_addProcedure 1 := ⟨by decide, by decide, by decide +kernel⟩
set_option maxRecDepth 20000 in
theorem im_S_token : Cond.instanceMethod xy_S_token ∈ gw_l := gw_of 271 (by rfl) rfl
set_option maxRecDepth 20000 in
theorem se_S_token : Cond.selects "ModuleShelf" xy_S_token xy_S_token ∈ gw_l := gw_of 272 (by rfl) rfl
theorem na_S_token : aw_nm xy_S_token 3 := ⟨by decide, by decide, by decide +kernel⟩
set_option maxRecDepth 20000 in
theorem im_C_addToken : Cond.instanceMethod xy_C_addToken ∈ gw_l := gw_of 275 (by rfl) rfl
set_option maxRecDepth 20000 in
theorem se_C_addToken : Cond.selects "ModuleShelf$Code" xy_C_addToken xy_C_addToken ∈ gw_l := gw_of 276 (by rfl) rfl
theorem na_C_addToken : aw_nm xy_C_addToken 3 := ⟨by decide, by decide, by decide +kernel⟩
set_option maxRecDepth 20000 in
theorem im_C_cellOf : Cond.instanceMethod xy_C_cellOf ∈ gw_l := gw_of 279 (by rfl) rfl
set_option maxRecDepth 20000 in
theorem se_C_cellOf : Cond.selects "ModuleShelf$Code" xy_C_cellOf xy_C_cellOf ∈ gw_l := gw_of 280 (by rfl) rfl
theorem na_C_cellOf : aw_nm xy_C_cellOf 2 := ⟨by decide, by decide, by decide +kernel⟩
set_option maxRecDepth 20000 in
theorem im_S_compile : Cond.instanceMethod xy_S_compile ∈ gw_l := gw_of 283 (by rfl) rfl
set_option maxRecDepth 20000 in
theorem se_S_compile : Cond.selects "ModuleShelf" xy_S_compile xy_S_compile ∈ gw_l := gw_of 284 (by rfl) rfl
theorem na_S_compile : aw_nm xy_S_compile 1 := ⟨by decide, by decide, by decide +kernel⟩
set_option maxRecDepth 20000 in
theorem st_S_isModule : Cond.static xy_S_isModule ∈ gw_l := gw_of 287 (by rfl) rfl
theorem na_S_isModule : aw_nm xy_S_isModule 1 := ⟨by decide, by decide, by decide +kernel⟩
set_option maxRecDepth 20000 in
theorem im_L_firstWrong : Cond.instanceMethod xy_L_firstWrong ∈ gw_l := gw_of 290 (by rfl) rfl
set_option maxRecDepth 20000 in
theorem se_L_firstWrong : Cond.selects "ModuleShelf$Library" xy_L_firstWrong xy_L_firstWrong ∈ gw_l := gw_of 291 (by rfl) rfl
theorem na_L_firstWrong : aw_nm xy_L_firstWrong 2 := ⟨by decide, by decide, by decide +kernel⟩
set_option maxRecDepth 20000 in
theorem im_L_isExpression : Cond.instanceMethod xy_L_isExpression ∈ gw_l := gw_of 295 (by rfl) rfl
set_option maxRecDepth 20000 in
theorem se_L_isExpression : Cond.selects "ModuleShelf$Library" xy_L_isExpression xy_L_isExpression ∈ gw_l := gw_of 0 (by rfl) rfl
theorem na_L_isExpression : aw_nm xy_L_isExpression 4 := ⟨by decide, by decide, by decide +kernel⟩
set_option maxRecDepth 20000 in
theorem im_C_lengthOf : Cond.instanceMethod xy_C_lengthOf ∈ gw_l := gw_of 298 (by rfl) rfl
set_option maxRecDepth 20000 in
theorem se_C_lengthOf : Cond.selects "ModuleShelf$Code" xy_C_lengthOf xy_C_lengthOf ∈ gw_l := gw_of 299 (by rfl) rfl
theorem na_C_lengthOf : aw_nm xy_C_lengthOf 1 := ⟨by decide, by decide, by decide +kernel⟩
set_option maxRecDepth 20000 in
theorem im_C_hasProcedure : Cond.instanceMethod xy_C_hasProcedure ∈ gw_l := gw_of 302 (by rfl) rfl
set_option maxRecDepth 20000 in
theorem se_C_hasProcedure : Cond.selects "ModuleShelf$Code" xy_C_hasProcedure xy_C_hasProcedure ∈ gw_l := gw_of 303 (by rfl) rfl
theorem na_C_hasProcedure : aw_nm xy_C_hasProcedure 1 := ⟨by decide, by decide, by decide +kernel⟩
set_option maxRecDepth 20000 in
theorem im_L_isRight : Cond.instanceMethod xy_L_isRight ∈ gw_l := gw_of 308 (by rfl) rfl
set_option maxRecDepth 20000 in
theorem se_L_isRight : Cond.selects "ModuleShelf$Library" xy_L_isRight xy_L_isRight ∈ gw_l := gw_of 1 (by rfl) rfl
theorem na_L_isRight : aw_nm xy_L_isRight 4 := ⟨by decide, by decide, by decide +kernel⟩
set_option maxRecDepth 20000 in
theorem im_C_argumentsOf : Cond.instanceMethod xy_C_argumentsOf ∈ gw_l := gw_of 311 (by rfl) rfl
set_option maxRecDepth 20000 in
theorem se_C_argumentsOf : Cond.selects "ModuleShelf$Code" xy_C_argumentsOf xy_C_argumentsOf ∈ gw_l := gw_of 312 (by rfl) rfl
theorem na_C_argumentsOf : aw_nm xy_C_argumentsOf 1 := ⟨by decide, by decide, by decide +kernel⟩
set_option maxRecDepth 20000 in
theorem im_C_hasVariable : Cond.instanceMethod xy_C_hasVariable ∈ gw_l := gw_of 315 (by rfl) rfl
set_option maxRecDepth 20000 in
theorem se_C_hasVariable : Cond.selects "ModuleShelf$Code" xy_C_hasVariable xy_C_hasVariable ∈ gw_l := gw_of 316 (by rfl) rfl
theorem na_C_hasVariable : aw_nm xy_C_hasVariable 1 := ⟨by decide, by decide, by decide +kernel⟩
set_option maxRecDepth 20000 in
theorem im_L_has : Cond.instanceMethod xy_L_has ∈ gw_l := gw_of 319 (by rfl) rfl
set_option maxRecDepth 20000 in
theorem se_L_has : Cond.selects "ModuleShelf$Library" xy_L_has xy_L_has ∈ gw_l := gw_of 320 (by rfl) rfl
theorem na_L_has : aw_nm xy_L_has 1 := ⟨by decide, by decide, by decide +kernel⟩
set_option maxRecDepth 20000 in
theorem im_L_argumentsOf : Cond.instanceMethod xy_L_argumentsOf ∈ gw_l := gw_of 325 (by rfl) rfl
set_option maxRecDepth 20000 in
theorem se_L_argumentsOf : Cond.selects "ModuleShelf$Library" xy_L_argumentsOf xy_L_argumentsOf ∈ gw_l := gw_of 2 (by rfl) rfl
theorem na_L_argumentsOf : aw_nm xy_L_argumentsOf 4 := ⟨by decide, by decide, by decide +kernel⟩
set_option maxRecDepth 20000 in
theorem im_L_partsOf : Cond.instanceMethod xy_L_partsOf ∈ gw_l := gw_of 329 (by rfl) rfl
set_option maxRecDepth 20000 in
theorem se_L_partsOf : Cond.selects "ModuleShelf$Library" xy_L_partsOf xy_L_partsOf ∈ gw_l := gw_of 3 (by rfl) rfl
theorem na_L_partsOf : aw_nm xy_L_partsOf 3 := ⟨by decide, by decide, by decide +kernel⟩
set_option maxRecDepth 20000 in
theorem im_L_keep : Cond.instanceMethod xy_L_keep ∈ gw_l := gw_of 334 (by rfl) rfl
set_option maxRecDepth 20000 in
theorem se_L_keep : Cond.selects "ModuleShelf$Library" xy_L_keep xy_L_keep ∈ gw_l := gw_of 335 (by rfl) rfl
theorem na_L_keep : aw_nm xy_L_keep 2 := ⟨by decide, by decide, by decide +kernel⟩
set_option maxRecDepth 20000 in
theorem im_C_hasInterfaceOf : Cond.instanceMethod xy_C_hasInterfaceOf ∈ gw_l := gw_of 338 (by rfl) rfl
set_option maxRecDepth 20000 in
theorem se_C_hasInterfaceOf : Cond.selects "ModuleShelf$Code" xy_C_hasInterfaceOf xy_C_hasInterfaceOf ∈ gw_l := gw_of 339 (by rfl) rfl
theorem na_C_hasInterfaceOf : aw_nm xy_C_hasInterfaceOf 1 := ⟨by decide, by decide, by decide +kernel⟩
set_option maxRecDepth 20000 in
theorem im_C_copyFrom : Cond.instanceMethod xy_C_copyFrom ∈ gw_l := gw_of 342 (by rfl) rfl
set_option maxRecDepth 20000 in
theorem se_C_copyFrom : Cond.selects "ModuleShelf$Code" xy_C_copyFrom xy_C_copyFrom ∈ gw_l := gw_of 343 (by rfl) rfl
theorem na_C_copyFrom : aw_nm xy_C_copyFrom 1 := ⟨by decide, by decide, by decide +kernel⟩
set_option maxRecDepth 20000 in
theorem im_L_gatherImports : Cond.instanceMethod xy_L_gatherImports ∈ gw_l := gw_of 350 (by rfl) rfl
set_option maxRecDepth 20000 in
theorem se_L_gatherImports : Cond.selects "ModuleShelf$Library" xy_L_gatherImports xy_L_gatherImports ∈ gw_l := gw_of 4 (by rfl) rfl
theorem na_L_gatherImports : aw_nm xy_L_gatherImports 2 := ⟨by decide, by decide, by decide +kernel⟩
set_option maxRecDepth 20000 in
theorem im_U_addImport : Cond.instanceMethod xy_U_addImport ∈ gw_l := gw_of 353 (by rfl) rfl
set_option maxRecDepth 20000 in
theorem se_U_addImport : Cond.selects "ModuleShelf$Unit" xy_U_addImport xy_U_addImport ∈ gw_l := gw_of 354 (by rfl) rfl
theorem na_U_addImport : aw_nm xy_U_addImport 2 := ⟨by decide, by decide, by decide +kernel⟩
set_option maxRecDepth 20000 in
theorem im_U_hasImport : Cond.instanceMethod xy_U_hasImport ∈ gw_l := gw_of 357 (by rfl) rfl
set_option maxRecDepth 20000 in
theorem se_U_hasImport : Cond.selects "ModuleShelf$Unit" xy_U_hasImport xy_U_hasImport ∈ gw_l := gw_of 358 (by rfl) rfl
theorem na_U_hasImport : aw_nm xy_U_hasImport 1 := ⟨by decide, by decide, by decide +kernel⟩
set_option maxRecDepth 20000 in
theorem im_S_place : Cond.instanceMethod xy_S_place ∈ gw_l := gw_of 361 (by rfl) rfl
set_option maxRecDepth 20000 in
theorem se_S_place : Cond.selects "ModuleShelf" xy_S_place xy_S_place ∈ gw_l := gw_of 362 (by rfl) rfl
theorem na_S_place : aw_nm xy_S_place 0 := ⟨by decide, by decide, by decide +kernel⟩
set_option maxRecDepth 20000 in
theorem im_S_remove : Cond.instanceMethod xy_S_remove ∈ gw_l := gw_of 365 (by rfl) rfl
set_option maxRecDepth 20000 in
theorem se_S_remove : Cond.selects "ModuleShelf" xy_S_remove xy_S_remove ∈ gw_l := gw_of 366 (by rfl) rfl
theorem na_S_remove : aw_nm xy_S_remove 1 := ⟨by decide, by decide, by decide +kernel⟩
set_option maxRecDepth 20000 in
theorem im_S_load : Cond.instanceMethod xy_S_load ∈ gw_l := gw_of 370 (by rfl) rfl
set_option maxRecDepth 20000 in
theorem se_S_load : Cond.selects "ModuleShelf" xy_S_load xy_S_load ∈ gw_l := gw_of 371 (by rfl) rfl
theorem na_S_load : aw_nm xy_S_load 1 := ⟨by decide, by decide, by decide +kernel⟩
set_option maxRecDepth 20000 in
theorem im_M_bring : Cond.instanceMethod xy_M_bring ∈ gw_l := gw_of 374 (by rfl) rfl
set_option maxRecDepth 20000 in
theorem se_M_bring : Cond.selects "ModuleShelf$Memory" xy_M_bring xy_M_bring ∈ gw_l := gw_of 375 (by rfl) rfl
theorem na_M_bring : aw_nm xy_M_bring 2 := ⟨by decide, by decide, by decide +kernel⟩
set_option maxRecDepth 20000 in
theorem im_M_held : Cond.instanceMethod xy_M_held ∈ gw_l := gw_of 378 (by rfl) rfl
set_option maxRecDepth 20000 in
theorem se_M_held : Cond.selects "ModuleShelf$Memory" xy_M_held xy_M_held ∈ gw_l := gw_of 379 (by rfl) rfl
theorem na_M_held : aw_nm xy_M_held 0 := ⟨by decide, by decide, by decide +kernel⟩
set_option maxRecDepth 20000 in
theorem im_M_has : Cond.instanceMethod xy_M_has ∈ gw_l := gw_of 382 (by rfl) rfl
set_option maxRecDepth 20000 in
theorem se_M_has : Cond.selects "ModuleShelf$Memory" xy_M_has xy_M_has ∈ gw_l := gw_of 383 (by rfl) rfl
theorem na_M_has : aw_nm xy_M_has 1 := ⟨by decide, by decide, by decide +kernel⟩
set_option maxRecDepth 20000 in
theorem im_M_bringOne : Cond.instanceMethod xy_M_bringOne ∈ gw_l := gw_of 388 (by rfl) rfl
set_option maxRecDepth 20000 in
theorem se_M_bringOne : Cond.selects "ModuleShelf$Memory" xy_M_bringOne xy_M_bringOne ∈ gw_l := gw_of 5 (by rfl) rfl
theorem na_M_bringOne : aw_nm xy_M_bringOne 3 := ⟨by decide, by decide, by decide +kernel⟩
set_option maxRecDepth 20000 in
theorem im_M_size : Cond.instanceMethod xy_M_size ∈ gw_l := gw_of 392 (by rfl) rfl
set_option maxRecDepth 20000 in
theorem se_M_size : Cond.selects "ModuleShelf$Memory" xy_M_size xy_M_size ∈ gw_l := gw_of 393 (by rfl) rfl
theorem na_M_size : aw_nm xy_M_size 0 := ⟨by decide, by decide, by decide +kernel⟩
set_option maxRecDepth 20000 in
theorem im_C_size : Cond.instanceMethod xy_C_size ∈ gw_l := gw_of 396 (by rfl) rfl
set_option maxRecDepth 20000 in
theorem se_C_size : Cond.selects "ModuleShelf$Code" xy_C_size xy_C_size ∈ gw_l := gw_of 397 (by rfl) rfl
theorem na_C_size : aw_nm xy_C_size 0 := ⟨by decide, by decide, by decide +kernel⟩
set_option maxRecDepth 20000 in
theorem im_I_fill : Cond.instanceMethod xy_I_fill ∈ gw_l := gw_of 400 (by rfl) rfl
set_option maxRecDepth 20000 in
theorem se_I_fill : Cond.selects "ModuleShelf$Image" xy_I_fill xy_I_fill ∈ gw_l := gw_of 401 (by rfl) rfl
theorem na_I_fill : aw_nm xy_I_fill 1 := ⟨by decide, by decide, by decide +kernel⟩
set_option maxRecDepth 20000 in
theorem im_U_copyFrom : Cond.instanceMethod xy_U_copyFrom ∈ gw_l := gw_of 404 (by rfl) rfl
set_option maxRecDepth 20000 in
theorem se_U_copyFrom : Cond.selects "ModuleShelf$Unit" xy_U_copyFrom xy_U_copyFrom ∈ gw_l := gw_of 405 (by rfl) rfl
theorem na_U_copyFrom : aw_nm xy_U_copyFrom 1 := ⟨by decide, by decide, by decide +kernel⟩
set_option maxRecDepth 20000 in
theorem st_A_fill : Cond.static xy_A_fill ∈ gw_l := gw_of 410 (by rfl) rfl
theorem na_A_fill : aw_nm xy_A_fill 2 := ⟨by decide, by decide, by decide +kernel⟩
set_option maxRecDepth 20000 in
theorem im_M_dropBegun : Cond.instanceMethod xy_M_dropBegun ∈ gw_l := gw_of 414 (by rfl) rfl
set_option maxRecDepth 20000 in
theorem se_M_dropBegun : Cond.selects "ModuleShelf$Memory" xy_M_dropBegun xy_M_dropBegun ∈ gw_l := gw_of 6 (by rfl) rfl
theorem na_M_dropBegun : aw_nm xy_M_dropBegun 0 := ⟨by decide, by decide, by decide +kernel⟩
set_option maxRecDepth 20000 in
theorem im_S_unload : Cond.instanceMethod xy_S_unload ∈ gw_l := gw_of 417 (by rfl) rfl
set_option maxRecDepth 20000 in
theorem se_S_unload : Cond.selects "ModuleShelf" xy_S_unload xy_S_unload ∈ gw_l := gw_of 418 (by rfl) rfl
theorem na_S_unload : aw_nm xy_S_unload 1 := ⟨by decide, by decide, by decide +kernel⟩
set_option maxRecDepth 20000 in
theorem im_M_isImported : Cond.instanceMethod xy_M_isImported ∈ gw_l := gw_of 422 (by rfl) rfl
set_option maxRecDepth 20000 in
theorem se_M_isImported : Cond.selects "ModuleShelf$Memory" xy_M_isImported xy_M_isImported ∈ gw_l := gw_of 423 (by rfl) rfl
theorem na_M_isImported : aw_nm xy_M_isImported 1 := ⟨by decide, by decide, by decide +kernel⟩
set_option maxRecDepth 20000 in
theorem im_S_run : Cond.instanceMethod xy_S_run ∈ gw_l := gw_of 427 (by rfl) rfl
set_option maxRecDepth 20000 in
theorem se_S_run : Cond.selects "ModuleShelf" xy_S_run xy_S_run ∈ gw_l := gw_of 428 (by rfl) rfl
theorem na_S_run : aw_nm xy_S_run 4 := ⟨by decide, by decide, by decide +kernel⟩
set_option maxRecDepth 20000 in
theorem im_M_argumentsOf : Cond.instanceMethod xy_M_argumentsOf ∈ gw_l := gw_of 431 (by rfl) rfl
set_option maxRecDepth 20000 in
theorem se_M_argumentsOf : Cond.selects "ModuleShelf$Memory" xy_M_argumentsOf xy_M_argumentsOf ∈ gw_l := gw_of 432 (by rfl) rfl
theorem na_M_argumentsOf : aw_nm xy_M_argumentsOf 2 := ⟨by decide, by decide, by decide +kernel⟩
set_option maxRecDepth 20000 in
theorem im_N_start : Cond.instanceMethod xy_N_start ∈ gw_l := gw_of 436 (by rfl) rfl
set_option maxRecDepth 20000 in
theorem se_N_start : Cond.selects "ModuleShelf$Machine" xy_N_start xy_N_start ∈ gw_l := gw_of 437 (by rfl) rfl
theorem na_N_start : aw_nm xy_N_start 5 := ⟨by decide, by decide, by decide +kernel⟩
set_option maxRecDepth 20000 in
theorem im_F_open : Cond.instanceMethod xy_F_open ∈ gw_l := gw_of 440 (by rfl) rfl
set_option maxRecDepth 20000 in
theorem se_F_open : Cond.selects "ModuleShelf$Frame" xy_F_open xy_F_open ∈ gw_l := gw_of 441 (by rfl) rfl
theorem na_F_open : aw_nm xy_F_open 4 := ⟨by decide, by decide, by decide +kernel⟩
set_option maxRecDepth 20000 in
theorem im_N_work : Cond.instanceMethod xy_N_work ∈ gw_l := gw_of 445 (by rfl) rfl
set_option maxRecDepth 20000 in
theorem se_N_work : Cond.selects "ModuleShelf$Machine" xy_N_work xy_N_work ∈ gw_l := gw_of 7 (by rfl) rfl
theorem na_N_work : aw_nm xy_N_work 3 := ⟨by decide, by decide, by decide +kernel⟩
set_option maxRecDepth 20000 in
theorem im_N_fail : Cond.instanceMethod xy_N_fail ∈ gw_l := gw_of 450 (by rfl) rfl
set_option maxRecDepth 20000 in
theorem se_N_fail : Cond.selects "ModuleShelf$Machine" xy_N_fail xy_N_fail ∈ gw_l := gw_of 8 (by rfl) rfl
theorem na_N_fail : aw_nm xy_N_fail 1 := ⟨by decide, by decide, by decide +kernel⟩
set_option maxRecDepth 20000 in
theorem im_M_valueOf : Cond.instanceMethod xy_M_valueOf ∈ gw_l := gw_of 454 (by rfl) rfl
set_option maxRecDepth 20000 in
theorem se_M_valueOf : Cond.selects "ModuleShelf$Memory" xy_M_valueOf xy_M_valueOf ∈ gw_l := gw_of 455 (by rfl) rfl
theorem na_M_valueOf : aw_nm xy_M_valueOf 2 := ⟨by decide, by decide, by decide +kernel⟩
set_option maxRecDepth 20000 in
theorem im_N_assign : Cond.instanceMethod xy_N_assign ∈ gw_l := gw_of 460 (by rfl) rfl
set_option maxRecDepth 20000 in
theorem se_N_assign : Cond.selects "ModuleShelf$Machine" xy_N_assign xy_N_assign ∈ gw_l := gw_of 9 (by rfl) rfl
theorem na_N_assign : aw_nm xy_N_assign 4 := ⟨by decide, by decide, by decide +kernel⟩
set_option maxRecDepth 20000 in
theorem im_M_setValue : Cond.instanceMethod xy_M_setValue ∈ gw_l := gw_of 463 (by rfl) rfl
set_option maxRecDepth 20000 in
theorem se_M_setValue : Cond.selects "ModuleShelf$Memory" xy_M_setValue xy_M_setValue ∈ gw_l := gw_of 464 (by rfl) rfl
theorem na_M_setValue : aw_nm xy_M_setValue 3 := ⟨by decide, by decide, by decide +kernel⟩
set_option maxRecDepth 20000 in
theorem im_N_choose : Cond.instanceMethod xy_N_choose ∈ gw_l := gw_of 468 (by rfl) rfl
set_option maxRecDepth 20000 in
theorem se_N_choose : Cond.selects "ModuleShelf$Machine" xy_N_choose xy_N_choose ∈ gw_l := gw_of 10 (by rfl) rfl
theorem na_N_choose : aw_nm xy_N_choose 3 := ⟨by decide, by decide, by decide +kernel⟩
set_option maxRecDepth 20000 in
theorem im_N_skip : Cond.instanceMethod xy_N_skip ∈ gw_l := gw_of 472 (by rfl) rfl
set_option maxRecDepth 20000 in
theorem se_N_skip : Cond.selects "ModuleShelf$Machine" xy_N_skip xy_N_skip ∈ gw_l := gw_of 11 (by rfl) rfl
theorem na_N_skip : aw_nm xy_N_skip 2 := ⟨by decide, by decide, by decide +kernel⟩
set_option maxRecDepth 20000 in
theorem im_N_partsOf : Cond.instanceMethod xy_N_partsOf ∈ gw_l := gw_of 476 (by rfl) rfl
set_option maxRecDepth 20000 in
theorem se_N_partsOf : Cond.selects "ModuleShelf$Machine" xy_N_partsOf xy_N_partsOf ∈ gw_l := gw_of 12 (by rfl) rfl
theorem na_N_partsOf : aw_nm xy_N_partsOf 3 := ⟨by decide, by decide, by decide +kernel⟩
set_option maxRecDepth 20000 in
theorem im_N_enter : Cond.instanceMethod xy_N_enter ∈ gw_l := gw_of 485 (by rfl) rfl
set_option maxRecDepth 20000 in
theorem se_N_enter : Cond.selects "ModuleShelf$Machine" xy_N_enter xy_N_enter ∈ gw_l := gw_of 13 (by rfl) rfl
theorem na_N_enter : aw_nm xy_N_enter 5 := ⟨by decide, by decide, by decide +kernel⟩
set_option maxRecDepth 20000 in
theorem im_N_combine : Cond.instanceMethod xy_N_combine ∈ gw_l := gw_of 489 (by rfl) rfl
set_option maxRecDepth 20000 in
theorem se_N_combine : Cond.selects "ModuleShelf$Machine" xy_N_combine xy_N_combine ∈ gw_l := gw_of 14 (by rfl) rfl
theorem na_N_combine : aw_nm xy_N_combine 4 := ⟨by decide, by decide, by decide +kernel⟩
set_option maxRecDepth 20000 in
theorem im_S_value : Cond.instanceMethod xy_S_value ∈ gw_l := gw_of 492 (by rfl) rfl
set_option maxRecDepth 20000 in
theorem se_S_value : Cond.selects "ModuleShelf" xy_S_value xy_S_value ∈ gw_l := gw_of 493 (by rfl) rfl
theorem na_S_value : aw_nm xy_S_value 0 := ⟨by decide, by decide, by decide +kernel⟩
set_option maxRecDepth 20000 in
theorem im_S_steps : Cond.instanceMethod xy_S_steps ∈ gw_l := gw_of 496 (by rfl) rfl
set_option maxRecDepth 20000 in
theorem se_S_steps : Cond.selects "ModuleShelf" xy_S_steps xy_S_steps ∈ gw_l := gw_of 497 (by rfl) rfl
theorem na_S_steps : aw_nm xy_S_steps 0 := ⟨by decide, by decide, by decide +kernel⟩
set_option maxRecDepth 20000 in
theorem im_S_variable : Cond.instanceMethod xy_S_variable ∈ gw_l := gw_of 500 (by rfl) rfl
set_option maxRecDepth 20000 in
theorem se_S_variable : Cond.selects "ModuleShelf" xy_S_variable xy_S_variable ∈ gw_l := gw_of 501 (by rfl) rfl
theorem na_S_variable : aw_nm xy_S_variable 2 := ⟨by decide, by decide, by decide +kernel⟩
set_option maxRecDepth 20000 in
theorem im_S_key : Cond.instanceMethod xy_S_key ∈ gw_l := gw_of 505 (by rfl) rfl
set_option maxRecDepth 20000 in
theorem se_S_key : Cond.selects "ModuleShelf" xy_S_key xy_S_key ∈ gw_l := gw_of 506 (by rfl) rfl
theorem na_S_key : aw_nm xy_S_key 1 := ⟨by decide, by decide, by decide +kernel⟩
set_option maxRecDepth 20000 in
theorem im_S_loaded : Cond.instanceMethod xy_S_loaded ∈ gw_l := gw_of 509 (by rfl) rfl
set_option maxRecDepth 20000 in
theorem se_S_loaded : Cond.selects "ModuleShelf" xy_S_loaded xy_S_loaded ∈ gw_l := gw_of 510 (by rfl) rfl
theorem na_S_loaded : aw_nm xy_S_loaded 1 := ⟨by decide, by decide, by decide +kernel⟩
set_option maxRecDepth 20000 in
theorem im_S_imported : Cond.instanceMethod xy_S_imported ∈ gw_l := gw_of 513 (by rfl) rfl
set_option maxRecDepth 20000 in
theorem se_S_imported : Cond.selects "ModuleShelf" xy_S_imported xy_S_imported ∈ gw_l := gw_of 514 (by rfl) rfl
theorem na_S_imported : aw_nm xy_S_imported 2 := ⟨by decide, by decide, by decide +kernel⟩
set_option maxRecDepth 20000 in
theorem im_S_count : Cond.instanceMethod xy_S_count ∈ gw_l := gw_of 517 (by rfl) rfl
set_option maxRecDepth 20000 in
theorem se_S_count : Cond.selects "ModuleShelf" xy_S_count xy_S_count ∈ gw_l := gw_of 518 (by rfl) rfl
theorem na_S_count : aw_nm xy_S_count 1 := ⟨by decide, by decide, by decide +kernel⟩
set_option maxRecDepth 20000 in
theorem im_L_held : Cond.instanceMethod xy_L_held ∈ gw_l := gw_of 522 (by rfl) rfl
set_option maxRecDepth 20000 in
theorem se_L_held : Cond.selects "ModuleShelf$Library" xy_L_held xy_L_held ∈ gw_l := gw_of 523 (by rfl) rfl
theorem na_L_held : aw_nm xy_L_held 0 := ⟨by decide, by decide, by decide +kernel⟩
set_option maxRecDepth 20000 in
theorem im_R_init : Cond.instanceMethod xy_R_init ∈ gw_l := gw_of 530 (by rfl) rfl
theorem na_R_init : aw_nm xy_R_init 0 := ⟨by decide, by decide, by decide +kernel⟩
set_option maxRecDepth 20000 in
theorem im_R_begin : Cond.instanceMethod xy_R_begin ∈ gw_l := gw_of 622 (by rfl) rfl
set_option maxRecDepth 20000 in
theorem se_R_begin : Cond.selects "ModuleShelfModel" xy_R_begin xy_R_begin ∈ gw_l := gw_of 623 (by rfl) rfl
theorem na_R_begin : aw_nm xy_R_begin 1 := ⟨by decide, by decide, by decide +kernel⟩
set_option maxRecDepth 20000 in
theorem st_R_in : Cond.static xy_R_in ∈ gw_l := gw_of 626 (by rfl) rfl
theorem na_R_in : aw_nm xy_R_in 3 := ⟨by decide, by decide, by decide +kernel⟩
set_option maxRecDepth 20000 in
theorem im_R_procedure : Cond.instanceMethod xy_R_procedure ∈ gw_l := gw_of 629 (by rfl) rfl
set_option maxRecDepth 20000 in
theorem se_R_procedure : Cond.selects "ModuleShelfModel" xy_R_procedure xy_R_procedure ∈ gw_l := gw_of 630 (by rfl) rfl
theorem na_R_procedure : aw_nm xy_R_procedure 1 := ⟨by decide, by decide, by decide +kernel⟩
set_option maxRecDepth 20000 in
theorem im_R_token : Cond.instanceMethod xy_R_token ∈ gw_l := gw_of 633 (by rfl) rfl
set_option maxRecDepth 20000 in
theorem se_R_token : Cond.selects "ModuleShelfModel" xy_R_token xy_R_token ∈ gw_l := gw_of 634 (by rfl) rfl
theorem na_R_token : aw_nm xy_R_token 3 := ⟨by decide, by decide, by decide +kernel⟩
set_option maxRecDepth 20000 in
theorem im_R_compile : Cond.instanceMethod xy_R_compile ∈ gw_l := gw_of 637 (by rfl) rfl
set_option maxRecDepth 20000 in
theorem se_R_compile : Cond.selects "ModuleShelfModel" xy_R_compile xy_R_compile ∈ gw_l := gw_of 638 (by rfl) rfl
theorem na_R_compile : aw_nm xy_R_compile 1 := ⟨by decide, by decide, by decide +kernel⟩
set_option maxRecDepth 20000 in
theorem im_R_firstWrong : Cond.instanceMethod xy_R_firstWrong ∈ gw_l := gw_of 642 (by rfl) rfl
set_option maxRecDepth 20000 in
theorem se_R_firstWrong : Cond.selects "ModuleShelfModel" xy_R_firstWrong xy_R_firstWrong ∈ gw_l := gw_of 15 (by rfl) rfl
theorem na_R_firstWrong : aw_nm xy_R_firstWrong 2 := ⟨by decide, by decide, by decide +kernel⟩
set_option maxRecDepth 20000 in
theorem im_R_partsOf : Cond.instanceMethod xy_R_partsOf ∈ gw_l := gw_of 646 (by rfl) rfl
set_option maxRecDepth 20000 in
theorem se_R_partsOf : Cond.selects "ModuleShelfModel" xy_R_partsOf xy_R_partsOf ∈ gw_l := gw_of 16 (by rfl) rfl
theorem na_R_partsOf : aw_nm xy_R_partsOf 3 := ⟨by decide, by decide, by decide +kernel⟩
set_option maxRecDepth 20000 in
theorem im_R_seen : Cond.instanceMethod xy_R_seen ∈ gw_l := gw_of 650 (by rfl) rfl
set_option maxRecDepth 20000 in
theorem se_R_seen : Cond.selects "ModuleShelfModel" xy_R_seen xy_R_seen ∈ gw_l := gw_of 17 (by rfl) rfl
theorem na_R_seen : aw_nm xy_R_seen 2 := ⟨by decide, by decide, by decide +kernel⟩
set_option maxRecDepth 20000 in
theorem im_R_findImports : Cond.instanceMethod xy_R_findImports ∈ gw_l := gw_of 654 (by rfl) rfl
set_option maxRecDepth 20000 in
theorem se_R_findImports : Cond.selects "ModuleShelfModel" xy_R_findImports xy_R_findImports ∈ gw_l := gw_of 18 (by rfl) rfl
theorem na_R_findImports : aw_nm xy_R_findImports 1 := ⟨by decide, by decide, by decide +kernel⟩
set_option maxRecDepth 20000 in
theorem im_R_alike : Cond.instanceMethod xy_R_alike ∈ gw_l := gw_of 658 (by rfl) rfl
set_option maxRecDepth 20000 in
theorem se_R_alike : Cond.selects "ModuleShelfModel" xy_R_alike xy_R_alike ∈ gw_l := gw_of 19 (by rfl) rfl
theorem na_R_alike : aw_nm xy_R_alike 1 := ⟨by decide, by decide, by decide +kernel⟩
set_option maxRecDepth 20000 in
theorem im_R_copy : Cond.instanceMethod xy_R_copy ∈ gw_l := gw_of 662 (by rfl) rfl
set_option maxRecDepth 20000 in
theorem se_R_copy : Cond.selects "ModuleShelfModel" xy_R_copy xy_R_copy ∈ gw_l := gw_of 20 (by rfl) rfl
theorem na_R_copy : aw_nm xy_R_copy 2 := ⟨by decide, by decide, by decide +kernel⟩
set_option maxRecDepth 20000 in
theorem im_R_place : Cond.instanceMethod xy_R_place ∈ gw_l := gw_of 665 (by rfl) rfl
set_option maxRecDepth 20000 in
theorem se_R_place : Cond.selects "ModuleShelfModel" xy_R_place xy_R_place ∈ gw_l := gw_of 666 (by rfl) rfl
theorem na_R_place : aw_nm xy_R_place 0 := ⟨by decide, by decide, by decide +kernel⟩
set_option maxRecDepth 20000 in
theorem im_R_remove : Cond.instanceMethod xy_R_remove ∈ gw_l := gw_of 669 (by rfl) rfl
set_option maxRecDepth 20000 in
theorem se_R_remove : Cond.selects "ModuleShelfModel" xy_R_remove xy_R_remove ∈ gw_l := gw_of 670 (by rfl) rfl
theorem na_R_remove : aw_nm xy_R_remove 1 := ⟨by decide, by decide, by decide +kernel⟩
set_option maxRecDepth 20000 in
theorem im_R_load : Cond.instanceMethod xy_R_load ∈ gw_l := gw_of 673 (by rfl) rfl
set_option maxRecDepth 20000 in
theorem se_R_load : Cond.selects "ModuleShelfModel" xy_R_load xy_R_load ∈ gw_l := gw_of 674 (by rfl) rfl
theorem na_R_load : aw_nm xy_R_load 1 := ⟨by decide, by decide, by decide +kernel⟩
set_option maxRecDepth 20000 in
theorem im_R_begins : Cond.instanceMethod xy_R_begins ∈ gw_l := gw_of 678 (by rfl) rfl
set_option maxRecDepth 20000 in
theorem se_R_begins : Cond.selects "ModuleShelfModel" xy_R_begins xy_R_begins ∈ gw_l := gw_of 21 (by rfl) rfl
theorem na_R_begins : aw_nm xy_R_begins 2 := ⟨by decide, by decide, by decide +kernel⟩
set_option maxRecDepth 20000 in
theorem im_R_cells : Cond.instanceMethod xy_R_cells ∈ gw_l := gw_of 682 (by rfl) rfl
set_option maxRecDepth 20000 in
theorem se_R_cells : Cond.selects "ModuleShelfModel" xy_R_cells xy_R_cells ∈ gw_l := gw_of 22 (by rfl) rfl
theorem na_R_cells : aw_nm xy_R_cells 1 := ⟨by decide, by decide, by decide +kernel⟩
set_option maxRecDepth 20000 in
theorem im_R_allCells : Cond.instanceMethod xy_R_allCells ∈ gw_l := gw_of 686 (by rfl) rfl
set_option maxRecDepth 20000 in
theorem se_R_allCells : Cond.selects "ModuleShelfModel" xy_R_allCells xy_R_allCells ∈ gw_l := gw_of 23 (by rfl) rfl
theorem na_R_allCells : aw_nm xy_R_allCells 0 := ⟨by decide, by decide, by decide +kernel⟩
set_option maxRecDepth 20000 in
theorem im_R_unload : Cond.instanceMethod xy_R_unload ∈ gw_l := gw_of 689 (by rfl) rfl
set_option maxRecDepth 20000 in
theorem se_R_unload : Cond.selects "ModuleShelfModel" xy_R_unload xy_R_unload ∈ gw_l := gw_of 690 (by rfl) rfl
theorem na_R_unload : aw_nm xy_R_unload 1 := ⟨by decide, by decide, by decide +kernel⟩
set_option maxRecDepth 20000 in
theorem im_R_run : Cond.instanceMethod xy_R_run ∈ gw_l := gw_of 693 (by rfl) rfl
set_option maxRecDepth 20000 in
theorem se_R_run : Cond.selects "ModuleShelfModel" xy_R_run xy_R_run ∈ gw_l := gw_of 694 (by rfl) rfl
theorem na_R_run : aw_nm xy_R_run 4 := ⟨by decide, by decide, by decide +kernel⟩
set_option maxRecDepth 20000 in
theorem im_R_enter : Cond.instanceMethod xy_R_enter ∈ gw_l := gw_of 698 (by rfl) rfl
set_option maxRecDepth 20000 in
theorem se_R_enter : Cond.selects "ModuleShelfModel" xy_R_enter xy_R_enter ∈ gw_l := gw_of 24 (by rfl) rfl
theorem na_R_enter : aw_nm xy_R_enter 5 := ⟨by decide, by decide, by decide +kernel⟩
set_option maxRecDepth 20000 in
theorem im_R_push : Cond.instanceMethod xy_R_push ∈ gw_l := gw_of 702 (by rfl) rfl
set_option maxRecDepth 20000 in
theorem se_R_push : Cond.selects "ModuleShelfModel" xy_R_push xy_R_push ∈ gw_l := gw_of 25 (by rfl) rfl
theorem na_R_push : aw_nm xy_R_push 3 := ⟨by decide, by decide, by decide +kernel⟩
set_option maxRecDepth 20000 in
theorem im_R_begin2 : Cond.instanceMethod xy_R_begin2 ∈ gw_l := gw_of 706 (by rfl) rfl
set_option maxRecDepth 20000 in
theorem se_R_begin2 : Cond.selects "ModuleShelfModel" xy_R_begin2 xy_R_begin2 ∈ gw_l := gw_of 26 (by rfl) rfl
theorem na_R_begin2 : aw_nm xy_R_begin2 2 := ⟨by decide, by decide, by decide +kernel⟩
set_option maxRecDepth 20000 in
theorem im_R_give : Cond.instanceMethod xy_R_give ∈ gw_l := gw_of 710 (by rfl) rfl
set_option maxRecDepth 20000 in
theorem se_R_give : Cond.selects "ModuleShelfModel" xy_R_give xy_R_give ∈ gw_l := gw_of 27 (by rfl) rfl
theorem na_R_give : aw_nm xy_R_give 1 := ⟨by decide, by decide, by decide +kernel⟩
set_option maxRecDepth 20000 in
theorem im_R_end : Cond.instanceMethod xy_R_end ∈ gw_l := gw_of 714 (by rfl) rfl
set_option maxRecDepth 20000 in
theorem se_R_end : Cond.selects "ModuleShelfModel" xy_R_end xy_R_end ∈ gw_l := gw_of 28 (by rfl) rfl
theorem na_R_end : aw_nm xy_R_end 1 := ⟨by decide, by decide, by decide +kernel⟩
set_option maxRecDepth 20000 in
theorem im_R_parts : Cond.instanceMethod xy_R_parts ∈ gw_l := gw_of 718 (by rfl) rfl
set_option maxRecDepth 20000 in
theorem se_R_parts : Cond.selects "ModuleShelfModel" xy_R_parts xy_R_parts ∈ gw_l := gw_of 29 (by rfl) rfl
theorem na_R_parts : aw_nm xy_R_parts 1 := ⟨by decide, by decide, by decide +kernel⟩
set_option maxRecDepth 20000 in
theorem im_R_use : Cond.instanceMethod xy_R_use ∈ gw_l := gw_of 722 (by rfl) rfl
set_option maxRecDepth 20000 in
theorem se_R_use : Cond.selects "ModuleShelfModel" xy_R_use xy_R_use ∈ gw_l := gw_of 30 (by rfl) rfl
theorem na_R_use : aw_nm xy_R_use 2 := ⟨by decide, by decide, by decide +kernel⟩
set_option maxRecDepth 20000 in
theorem im_R_take : Cond.instanceMethod xy_R_take ∈ gw_l := gw_of 726 (by rfl) rfl
set_option maxRecDepth 20000 in
theorem se_R_take : Cond.selects "ModuleShelfModel" xy_R_take xy_R_take ∈ gw_l := gw_of 31 (by rfl) rfl
theorem na_R_take : aw_nm xy_R_take 0 := ⟨by decide, by decide, by decide +kernel⟩
set_option maxRecDepth 20000 in
theorem st_R_quotient : Cond.static xy_R_quotient ∈ gw_l := gw_of 729 (by rfl) rfl
theorem na_R_quotient : aw_nm xy_R_quotient 2 := ⟨by decide, by decide, by decide +kernel⟩
set_option maxRecDepth 20000 in
theorem im_R_value : Cond.instanceMethod xy_R_value ∈ gw_l := gw_of 732 (by rfl) rfl
set_option maxRecDepth 20000 in
theorem se_R_value : Cond.selects "ModuleShelfModel" xy_R_value xy_R_value ∈ gw_l := gw_of 733 (by rfl) rfl
theorem na_R_value : aw_nm xy_R_value 0 := ⟨by decide, by decide, by decide +kernel⟩
set_option maxRecDepth 20000 in
theorem im_R_steps : Cond.instanceMethod xy_R_steps ∈ gw_l := gw_of 736 (by rfl) rfl
set_option maxRecDepth 20000 in
theorem se_R_steps : Cond.selects "ModuleShelfModel" xy_R_steps xy_R_steps ∈ gw_l := gw_of 737 (by rfl) rfl
theorem na_R_steps : aw_nm xy_R_steps 0 := ⟨by decide, by decide, by decide +kernel⟩
set_option maxRecDepth 20000 in
theorem im_R_variable : Cond.instanceMethod xy_R_variable ∈ gw_l := gw_of 740 (by rfl) rfl
set_option maxRecDepth 20000 in
theorem se_R_variable : Cond.selects "ModuleShelfModel" xy_R_variable xy_R_variable ∈ gw_l := gw_of 741 (by rfl) rfl
theorem na_R_variable : aw_nm xy_R_variable 2 := ⟨by decide, by decide, by decide +kernel⟩
set_option maxRecDepth 20000 in
theorem im_R_key : Cond.instanceMethod xy_R_key ∈ gw_l := gw_of 744 (by rfl) rfl
set_option maxRecDepth 20000 in
theorem se_R_key : Cond.selects "ModuleShelfModel" xy_R_key xy_R_key ∈ gw_l := gw_of 745 (by rfl) rfl
theorem na_R_key : aw_nm xy_R_key 1 := ⟨by decide, by decide, by decide +kernel⟩
set_option maxRecDepth 20000 in
theorem im_R_loaded : Cond.instanceMethod xy_R_loaded ∈ gw_l := gw_of 748 (by rfl) rfl
set_option maxRecDepth 20000 in
theorem se_R_loaded : Cond.selects "ModuleShelfModel" xy_R_loaded xy_R_loaded ∈ gw_l := gw_of 749 (by rfl) rfl
theorem na_R_loaded : aw_nm xy_R_loaded 1 := ⟨by decide, by decide, by decide +kernel⟩
set_option maxRecDepth 20000 in
theorem im_R_imported : Cond.instanceMethod xy_R_imported ∈ gw_l := gw_of 752 (by rfl) rfl
set_option maxRecDepth 20000 in
theorem se_R_imported : Cond.selects "ModuleShelfModel" xy_R_imported xy_R_imported ∈ gw_l := gw_of 753 (by rfl) rfl
theorem na_R_imported : aw_nm xy_R_imported 2 := ⟨by decide, by decide, by decide +kernel⟩
set_option maxRecDepth 20000 in
theorem im_R_count : Cond.instanceMethod xy_R_count ∈ gw_l := gw_of 756 (by rfl) rfl
set_option maxRecDepth 20000 in
theorem se_R_count : Cond.selects "ModuleShelfModel" xy_R_count xy_R_count ∈ gw_l := gw_of 757 (by rfl) rfl
theorem na_R_count : aw_nm xy_R_count 1 := ⟨by decide, by decide, by decide +kernel⟩
set_option maxRecDepth 20000 in
theorem wi_C : Cond.initialized "ModuleShelf$Code" ∈ gw_l := gw_of 34 (by rfl) rfl
set_option maxRecDepth 20000 in
theorem wi_F : Cond.initialized "ModuleShelf$Frame" ∈ gw_l := gw_of 40 (by rfl) rfl
set_option maxRecDepth 20000 in
theorem wi_I : Cond.initialized "ModuleShelf$Image" ∈ gw_l := gw_of 38 (by rfl) rfl
set_option maxRecDepth 20000 in
theorem wi_L : Cond.initialized "ModuleShelf$Library" ∈ gw_l := gw_of 35 (by rfl) rfl
set_option maxRecDepth 20000 in
theorem wi_N : Cond.initialized "ModuleShelf$Machine" ∈ gw_l := gw_of 39 (by rfl) rfl
set_option maxRecDepth 20000 in
theorem wi_M : Cond.initialized "ModuleShelf$Memory" ∈ gw_l := gw_of 37 (by rfl) rfl
set_option maxRecDepth 20000 in
theorem wi_U : Cond.initialized "ModuleShelf$Unit" ∈ gw_l := gw_of 36 (by rfl) rfl
set_option maxRecDepth 20000 in
theorem wi_S : Cond.initialized "ModuleShelf" ∈ gw_l := gw_of 33 (by rfl) rfl
set_option maxRecDepth 20000 in
theorem wi_R : Cond.initialized "ModuleShelfModel" ∈ gw_l := gw_of 41 (by rfl) rfl
set_option maxRecDepth 20000 in
theorem wi_A : Cond.initialized "java/util/Arrays" ∈ gw_l := gw_of 43 (by rfl) rfl
set_option maxRecDepth 20000 in
theorem wi_sys : Cond.initialized "java/lang/System" ∈ gw_l := gw_of 42 (by rfl) rfl
set_option maxRecDepth 20000 in
theorem wi_math : Cond.initialized "java/lang/Math" ∈ gw_l := gw_of 44 (by rfl) rfl
set_option maxRecDepth 20000 in
theorem wn_copy : Cond.native arraycopyName ∈ gw_l := gw_of 347 (by rfl) rfl
set_option maxRecDepth 20000 in
theorem ws_copy : Cond.static arraycopyName ∈ gw_l := gw_of 346 (by rfl) rfl
set_option maxRecDepth 20000 in
theorem ws_max : Cond.static Lib.Math.max.name ∈ gw_l := gw_of 481 (by rfl) rfl
set_option maxRecDepth 20000 in
theorem wc_max : Cond.code Lib.Math.max.name Lib.Math.max.code 2 (some .int) ∈ gw_l := gw_of 482 (by rfl) rfl
end
section
theorem xd_C_clear_0 : decode xb_C_clear 0 = .ok (.aload_n 0, 1) := by decide +kernel
theorem xd_C_clear_1 : decode xb_C_clear 1 = .ok (.iload_n 1, 1) := by decide +kernel
theorem xd_C_clear_2 : decode xb_C_clear 2 = .ok (.putfield 27, 3) := by decide +kernel
theorem xd_C_clear_5 : decode xb_C_clear 5 = .ok (.aload_n 0, 1) := by decide +kernel
theorem xd_C_clear_6 : decode xb_C_clear 6 = .ok (.iconst 0, 1) := by decide +kernel
theorem xd_C_clear_7 : decode xb_C_clear 7 = .ok (.putfield 31, 3) := by decide +kernel
theorem xd_C_clear_10 : decode xb_C_clear 10 = .ok (.return_, 1) := by decide +kernel
theorem xd_C_addProcedure_0 : decode xb_C_addProcedure 0 = .ok (.aload_n 0, 1) := by decide +kernel
theorem xd_C_addProcedure_1 : decode xb_C_addProcedure 1 = .ok (.getfield 31, 3) := by decide +kernel
theorem xd_C_addProcedure_4 : decode xb_C_addProcedure 4 = .ok (.iconst 3, 1) := by decide +kernel
theorem xd_C_addProcedure_5 : decode xb_C_addProcedure 5 = .ok (.if_icmp .lt 6, 3) := by decide +kernel
theorem xd_C_addProcedure_8 : decode xb_C_addProcedure 8 = .ok (.bipush (-2), 2) := by decide +kernel
theorem xd_C_addProcedure_10 : decode xb_C_addProcedure 10 = .ok (.ireturn, 1) := by decide +kernel
theorem xd_C_addProcedure_11 : decode xb_C_addProcedure 11 = .ok (.aload_n 0, 1) := by decide +kernel
theorem xd_C_addProcedure_12 : decode xb_C_addProcedure 12 = .ok (.getfield 9, 3) := by decide +kernel
theorem xd_C_addProcedure_15 : decode xb_C_addProcedure 15 = .ok (.aload_n 0, 1) := by decide +kernel
theorem xd_C_addProcedure_16 : decode xb_C_addProcedure 16 = .ok (.getfield 31, 3) := by decide +kernel
theorem xd_C_addProcedure_19 : decode xb_C_addProcedure 19 = .ok (.iload_n 1, 1) := by decide +kernel
theorem xd_C_addProcedure_20 : decode xb_C_addProcedure 20 = .ok (.iastore, 1) := by decide +kernel
theorem xd_C_addProcedure_21 : decode xb_C_addProcedure 21 = .ok (.aload_n 0, 1) := by decide +kernel
theorem xd_C_addProcedure_22 : decode xb_C_addProcedure 22 = .ok (.getfield 15, 3) := by decide +kernel
theorem xd_C_addProcedure_25 : decode xb_C_addProcedure 25 = .ok (.aload_n 0, 1) := by decide +kernel
theorem xd_C_addProcedure_26 : decode xb_C_addProcedure 26 = .ok (.getfield 31, 3) := by decide +kernel
theorem xd_C_addProcedure_29 : decode xb_C_addProcedure 29 = .ok (.iconst 0, 1) := by decide +kernel
theorem xd_C_addProcedure_30 : decode xb_C_addProcedure 30 = .ok (.iastore, 1) := by decide +kernel
theorem xd_C_addProcedure_31 : decode xb_C_addProcedure 31 = .ok (.aload_n 0, 1) := by decide +kernel
theorem xd_C_addProcedure_32 : decode xb_C_addProcedure 32 = .ok (.dup, 1) := by decide +kernel
theorem xd_C_addProcedure_33 : decode xb_C_addProcedure 33 = .ok (.getfield 31, 3) := by decide +kernel
theorem xd_C_addProcedure_36 : decode xb_C_addProcedure 36 = .ok (.iconst 1, 1) := by decide +kernel
theorem xd_C_addProcedure_37 : decode xb_C_addProcedure 37 = .ok (.iadd, 1) := by decide +kernel
theorem xd_C_addProcedure_38 : decode xb_C_addProcedure 38 = .ok (.putfield 31, 3) := by decide +kernel
theorem xd_C_addProcedure_41 : decode xb_C_addProcedure 41 = .ok (.aload_n 0, 1) := by decide +kernel
theorem xd_C_addProcedure_42 : decode xb_C_addProcedure 42 = .ok (.getfield 31, 3) := by decide +kernel
theorem xd_C_addProcedure_45 : decode xb_C_addProcedure 45 = .ok (.iconst 1, 1) := by decide +kernel
theorem xd_C_addProcedure_46 : decode xb_C_addProcedure 46 = .ok (.isub, 1) := by decide +kernel
theorem xd_C_addProcedure_47 : decode xb_C_addProcedure 47 = .ok (.ireturn, 1) := by decide +kernel
theorem xd_C_cellOf_0 : decode xb_C_cellOf 0 = .ok (.iload_n 1, 1) := by decide +kernel
theorem xd_C_cellOf_1 : decode xb_C_cellOf 1 = .ok (.bipush 14, 2) := by decide +kernel
theorem xd_C_cellOf_3 : decode xb_C_cellOf 3 = .ok (.imul, 1) := by decide +kernel
theorem xd_C_cellOf_4 : decode xb_C_cellOf 4 = .ok (.iload_n 2, 1) := by decide +kernel
theorem xd_C_cellOf_5 : decode xb_C_cellOf 5 = .ok (.iadd, 1) := by decide +kernel
theorem xd_C_cellOf_6 : decode xb_C_cellOf 6 = .ok (.ireturn, 1) := by decide +kernel
theorem xd_C_addToken_0 : decode xb_C_addToken 0 = .ok (.aload_n 0, 1) := by decide +kernel
theorem xd_C_addToken_1 : decode xb_C_addToken 1 = .ok (.getfield 31, 3) := by decide +kernel
theorem xd_C_addToken_4 : decode xb_C_addToken 4 = .ok (.ifCond .ne 5, 3) := by decide +kernel
theorem xd_C_addToken_7 : decode xb_C_addToken 7 = .ok (.iconst (-1), 1) := by decide +kernel
theorem xd_C_addToken_8 : decode xb_C_addToken 8 = .ok (.ireturn, 1) := by decide +kernel
theorem xd_C_addToken_9 : decode xb_C_addToken 9 = .ok (.aload_n 0, 1) := by decide +kernel
theorem xd_C_addToken_10 : decode xb_C_addToken 10 = .ok (.getfield 31, 3) := by decide +kernel
theorem xd_C_addToken_13 : decode xb_C_addToken 13 = .ok (.iconst 1, 1) := by decide +kernel
theorem xd_C_addToken_14 : decode xb_C_addToken 14 = .ok (.isub, 1) := by decide +kernel
theorem xd_C_addToken_15 : decode xb_C_addToken 15 = .ok (.istore 4, 2) := by decide +kernel
theorem xd_C_addToken_17 : decode xb_C_addToken 17 = .ok (.aload_n 0, 1) := by decide +kernel
theorem xd_C_addToken_18 : decode xb_C_addToken 18 = .ok (.getfield 15, 3) := by decide +kernel
theorem xd_C_addToken_21 : decode xb_C_addToken 21 = .ok (.iload 4, 2) := by decide +kernel
theorem xd_C_addToken_23 : decode xb_C_addToken 23 = .ok (.iaload, 1) := by decide +kernel
theorem xd_C_addToken_24 : decode xb_C_addToken 24 = .ok (.bipush 14, 2) := by decide +kernel
theorem xd_C_addToken_26 : decode xb_C_addToken 26 = .ok (.if_icmp .lt 6, 3) := by decide +kernel
theorem xd_C_addToken_29 : decode xb_C_addToken 29 = .ok (.bipush (-2), 2) := by decide +kernel
theorem xd_C_addToken_31 : decode xb_C_addToken 31 = .ok (.ireturn, 1) := by decide +kernel
theorem xd_C_addToken_32 : decode xb_C_addToken 32 = .ok (.aload_n 0, 1) := by decide +kernel
theorem xd_C_addToken_33 : decode xb_C_addToken 33 = .ok (.iload 4, 2) := by decide +kernel
theorem xd_C_addToken_35 : decode xb_C_addToken 35 = .ok (.aload_n 0, 1) := by decide +kernel
theorem xd_C_addToken_36 : decode xb_C_addToken 36 = .ok (.getfield 15, 3) := by decide +kernel
theorem xd_C_addToken_39 : decode xb_C_addToken 39 = .ok (.iload 4, 2) := by decide +kernel
theorem xd_C_addToken_41 : decode xb_C_addToken 41 = .ok (.iaload, 1) := by decide +kernel
theorem xd_C_addToken_42 : decode xb_C_addToken 42 = .ok (.invokevirtual 34, 3) := by decide +kernel
theorem xd_C_addToken_45 : decode xb_C_addToken 45 = .ok (.istore 5, 2) := by decide +kernel
theorem xd_C_addToken_47 : decode xb_C_addToken 47 = .ok (.aload_n 0, 1) := by decide +kernel
theorem xd_C_addToken_48 : decode xb_C_addToken 48 = .ok (.getfield 18, 3) := by decide +kernel
theorem xd_C_addToken_51 : decode xb_C_addToken 51 = .ok (.iload 5, 2) := by decide +kernel
theorem xd_C_addToken_53 : decode xb_C_addToken 53 = .ok (.iload_n 1, 1) := by decide +kernel
theorem xd_C_addToken_54 : decode xb_C_addToken 54 = .ok (.iastore, 1) := by decide +kernel
theorem xd_C_addToken_55 : decode xb_C_addToken 55 = .ok (.aload_n 0, 1) := by decide +kernel
theorem xd_C_addToken_56 : decode xb_C_addToken 56 = .ok (.getfield 21, 3) := by decide +kernel
theorem xd_C_addToken_59 : decode xb_C_addToken 59 = .ok (.iload 5, 2) := by decide +kernel
theorem xd_C_addToken_61 : decode xb_C_addToken 61 = .ok (.iload_n 2, 1) := by decide +kernel
theorem xd_C_addToken_62 : decode xb_C_addToken 62 = .ok (.iastore, 1) := by decide +kernel
theorem xd_C_addToken_63 : decode xb_C_addToken 63 = .ok (.aload_n 0, 1) := by decide +kernel
theorem xd_C_addToken_64 : decode xb_C_addToken 64 = .ok (.getfield 24, 3) := by decide +kernel
theorem xd_C_addToken_67 : decode xb_C_addToken 67 = .ok (.iload 5, 2) := by decide +kernel
theorem xd_C_addToken_69 : decode xb_C_addToken 69 = .ok (.iload_n 3, 1) := by decide +kernel
theorem xd_C_addToken_70 : decode xb_C_addToken 70 = .ok (.iastore, 1) := by decide +kernel
theorem xd_C_addToken_71 : decode xb_C_addToken 71 = .ok (.aload_n 0, 1) := by decide +kernel
theorem xd_C_addToken_72 : decode xb_C_addToken 72 = .ok (.getfield 15, 3) := by decide +kernel
theorem xd_C_addToken_75 : decode xb_C_addToken 75 = .ok (.iload 4, 2) := by decide +kernel
theorem xd_C_addToken_77 : decode xb_C_addToken 77 = .ok (.dup2, 1) := by decide +kernel
theorem xd_C_addToken_78 : decode xb_C_addToken 78 = .ok (.iaload, 1) := by decide +kernel
theorem xd_C_addToken_79 : decode xb_C_addToken 79 = .ok (.iconst 1, 1) := by decide +kernel
theorem xd_C_addToken_80 : decode xb_C_addToken 80 = .ok (.iadd, 1) := by decide +kernel
theorem xd_C_addToken_81 : decode xb_C_addToken 81 = .ok (.iastore, 1) := by decide +kernel
theorem xd_C_addToken_82 : decode xb_C_addToken 82 = .ok (.aload_n 0, 1) := by decide +kernel
theorem xd_C_addToken_83 : decode xb_C_addToken 83 = .ok (.getfield 15, 3) := by decide +kernel
theorem xd_C_addToken_86 : decode xb_C_addToken 86 = .ok (.iload 4, 2) := by decide +kernel
theorem xd_C_addToken_88 : decode xb_C_addToken 88 = .ok (.iaload, 1) := by decide +kernel
theorem xd_C_addToken_89 : decode xb_C_addToken 89 = .ok (.ireturn, 1) := by decide +kernel
theorem xd_C_hasProcedure_0 : decode xb_C_hasProcedure 0 = .ok (.iload_n 1, 1) := by decide +kernel
theorem xd_C_hasProcedure_1 : decode xb_C_hasProcedure 1 = .ok (.ifCond .lt 15, 3) := by decide +kernel
theorem xd_C_hasProcedure_4 : decode xb_C_hasProcedure 4 = .ok (.iload_n 1, 1) := by decide +kernel
theorem xd_C_hasProcedure_5 : decode xb_C_hasProcedure 5 = .ok (.aload_n 0, 1) := by decide +kernel
theorem xd_C_hasProcedure_6 : decode xb_C_hasProcedure 6 = .ok (.getfield 31, 3) := by decide +kernel
theorem xd_C_hasProcedure_9 : decode xb_C_hasProcedure 9 = .ok (.if_icmp .ge 7, 3) := by decide +kernel
theorem xd_C_hasProcedure_12 : decode xb_C_hasProcedure 12 = .ok (.iconst 1, 1) := by decide +kernel
theorem xd_C_hasProcedure_13 : decode xb_C_hasProcedure 13 = .ok (.goto 4, 3) := by decide +kernel
theorem xd_C_hasProcedure_16 : decode xb_C_hasProcedure 16 = .ok (.iconst 0, 1) := by decide +kernel
theorem xd_C_hasProcedure_17 : decode xb_C_hasProcedure 17 = .ok (.ireturn, 1) := by decide +kernel
theorem xd_C_hasVariable_0 : decode xb_C_hasVariable 0 = .ok (.iload_n 1, 1) := by decide +kernel
theorem xd_C_hasVariable_1 : decode xb_C_hasVariable 1 = .ok (.ifCond .lt 15, 3) := by decide +kernel
theorem xd_C_hasVariable_4 : decode xb_C_hasVariable 4 = .ok (.iload_n 1, 1) := by decide +kernel
theorem xd_C_hasVariable_5 : decode xb_C_hasVariable 5 = .ok (.aload_n 0, 1) := by decide +kernel
theorem xd_C_hasVariable_6 : decode xb_C_hasVariable 6 = .ok (.getfield 27, 3) := by decide +kernel
theorem xd_C_hasVariable_9 : decode xb_C_hasVariable 9 = .ok (.if_icmp .ge 7, 3) := by decide +kernel
theorem xd_C_hasVariable_12 : decode xb_C_hasVariable 12 = .ok (.iconst 1, 1) := by decide +kernel
theorem xd_C_hasVariable_13 : decode xb_C_hasVariable 13 = .ok (.goto 4, 3) := by decide +kernel
theorem xd_C_hasVariable_16 : decode xb_C_hasVariable 16 = .ok (.iconst 0, 1) := by decide +kernel
theorem xd_C_hasVariable_17 : decode xb_C_hasVariable 17 = .ok (.ireturn, 1) := by decide +kernel
theorem xd_C_argumentsOf_0 : decode xb_C_argumentsOf 0 = .ok (.aload_n 0, 1) := by decide +kernel
theorem xd_C_argumentsOf_1 : decode xb_C_argumentsOf 1 = .ok (.iload_n 1, 1) := by decide +kernel
theorem xd_C_argumentsOf_2 : decode xb_C_argumentsOf 2 = .ok (.invokevirtual 38, 3) := by decide +kernel
theorem xd_C_argumentsOf_5 : decode xb_C_argumentsOf 5 = .ok (.ifCond .eq 12, 3) := by decide +kernel
theorem xd_C_argumentsOf_8 : decode xb_C_argumentsOf 8 = .ok (.aload_n 0, 1) := by decide +kernel
theorem xd_C_argumentsOf_9 : decode xb_C_argumentsOf 9 = .ok (.getfield 9, 3) := by decide +kernel
theorem xd_C_argumentsOf_12 : decode xb_C_argumentsOf 12 = .ok (.iload_n 1, 1) := by decide +kernel
theorem xd_C_argumentsOf_13 : decode xb_C_argumentsOf 13 = .ok (.iaload, 1) := by decide +kernel
theorem xd_C_argumentsOf_14 : decode xb_C_argumentsOf 14 = .ok (.goto 4, 3) := by decide +kernel
theorem xd_C_argumentsOf_17 : decode xb_C_argumentsOf 17 = .ok (.iconst (-1), 1) := by decide +kernel
theorem xd_C_argumentsOf_18 : decode xb_C_argumentsOf 18 = .ok (.ireturn, 1) := by decide +kernel
theorem xd_C_lengthOf_0 : decode xb_C_lengthOf 0 = .ok (.aload_n 0, 1) := by decide +kernel
theorem xd_C_lengthOf_1 : decode xb_C_lengthOf 1 = .ok (.iload_n 1, 1) := by decide +kernel
theorem xd_C_lengthOf_2 : decode xb_C_lengthOf 2 = .ok (.invokevirtual 38, 3) := by decide +kernel
theorem xd_C_lengthOf_5 : decode xb_C_lengthOf 5 = .ok (.ifCond .eq 12, 3) := by decide +kernel
theorem xd_C_lengthOf_8 : decode xb_C_lengthOf 8 = .ok (.aload_n 0, 1) := by decide +kernel
theorem xd_C_lengthOf_9 : decode xb_C_lengthOf 9 = .ok (.getfield 15, 3) := by decide +kernel
theorem xd_C_lengthOf_12 : decode xb_C_lengthOf 12 = .ok (.iload_n 1, 1) := by decide +kernel
theorem xd_C_lengthOf_13 : decode xb_C_lengthOf 13 = .ok (.iaload, 1) := by decide +kernel
theorem xd_C_lengthOf_14 : decode xb_C_lengthOf 14 = .ok (.goto 4, 3) := by decide +kernel
theorem xd_C_lengthOf_17 : decode xb_C_lengthOf 17 = .ok (.iconst 0, 1) := by decide +kernel
theorem xd_C_lengthOf_18 : decode xb_C_lengthOf 18 = .ok (.ireturn, 1) := by decide +kernel
theorem xd_C_size_0 : decode xb_C_size 0 = .ok (.aload_n 0, 1) := by decide +kernel
theorem xd_C_size_1 : decode xb_C_size 1 = .ok (.getfield 27, 3) := by decide +kernel
theorem xd_C_size_4 : decode xb_C_size 4 = .ok (.istore_n 1, 1) := by decide +kernel
theorem xd_C_size_5 : decode xb_C_size 5 = .ok (.iconst 0, 1) := by decide +kernel
theorem xd_C_size_6 : decode xb_C_size 6 = .ok (.istore_n 2, 1) := by decide +kernel
theorem xd_C_size_7 : decode xb_C_size 7 = .ok (.iload_n 2, 1) := by decide +kernel
theorem xd_C_size_8 : decode xb_C_size 8 = .ok (.aload_n 0, 1) := by decide +kernel
theorem xd_C_size_9 : decode xb_C_size 9 = .ok (.getfield 31, 3) := by decide +kernel
theorem xd_C_size_12 : decode xb_C_size 12 = .ok (.if_icmp .ge 18, 3) := by decide +kernel
theorem xd_C_size_15 : decode xb_C_size 15 = .ok (.iload_n 1, 1) := by decide +kernel
theorem xd_C_size_16 : decode xb_C_size 16 = .ok (.aload_n 0, 1) := by decide +kernel
theorem xd_C_size_17 : decode xb_C_size 17 = .ok (.getfield 15, 3) := by decide +kernel
theorem xd_C_size_20 : decode xb_C_size 20 = .ok (.iload_n 2, 1) := by decide +kernel
theorem xd_C_size_21 : decode xb_C_size 21 = .ok (.iaload, 1) := by decide +kernel
theorem xd_C_size_22 : decode xb_C_size 22 = .ok (.iadd, 1) := by decide +kernel
theorem xd_C_size_23 : decode xb_C_size 23 = .ok (.istore_n 1, 1) := by decide +kernel
theorem xd_C_size_24 : decode xb_C_size 24 = .ok (.iinc 2 1, 3) := by decide +kernel
theorem xd_C_size_27 : decode xb_C_size 27 = .ok (.goto (-20), 3) := by decide +kernel
theorem xd_C_size_30 : decode xb_C_size 30 = .ok (.iload_n 1, 1) := by decide +kernel
theorem xd_C_size_31 : decode xb_C_size 31 = .ok (.ireturn, 1) := by decide +kernel
theorem xd_C_hasInterfaceOf_0 : decode xb_C_hasInterfaceOf 0 = .ok (.aload_n 0, 1) := by decide +kernel
theorem xd_C_hasInterfaceOf_1 : decode xb_C_hasInterfaceOf 1 = .ok (.getfield 27, 3) := by decide +kernel
theorem xd_C_hasInterfaceOf_4 : decode xb_C_hasInterfaceOf 4 = .ok (.aload_n 1, 1) := by decide +kernel
theorem xd_C_hasInterfaceOf_5 : decode xb_C_hasInterfaceOf 5 = .ok (.getfield 27, 3) := by decide +kernel
theorem xd_C_hasInterfaceOf_8 : decode xb_C_hasInterfaceOf 8 = .ok (.if_icmp .ne 14, 3) := by decide +kernel
theorem xd_C_hasInterfaceOf_11 : decode xb_C_hasInterfaceOf 11 = .ok (.aload_n 0, 1) := by decide +kernel
theorem xd_C_hasInterfaceOf_12 : decode xb_C_hasInterfaceOf 12 = .ok (.getfield 31, 3) := by decide +kernel
theorem xd_C_hasInterfaceOf_15 : decode xb_C_hasInterfaceOf 15 = .ok (.aload_n 1, 1) := by decide +kernel
theorem xd_C_hasInterfaceOf_16 : decode xb_C_hasInterfaceOf 16 = .ok (.getfield 31, 3) := by decide +kernel
theorem xd_C_hasInterfaceOf_19 : decode xb_C_hasInterfaceOf 19 = .ok (.if_icmp .eq 5, 3) := by decide +kernel
theorem xd_C_hasInterfaceOf_22 : decode xb_C_hasInterfaceOf 22 = .ok (.iconst 0, 1) := by decide +kernel
theorem xd_C_hasInterfaceOf_23 : decode xb_C_hasInterfaceOf 23 = .ok (.ireturn, 1) := by decide +kernel
theorem xd_C_hasInterfaceOf_24 : decode xb_C_hasInterfaceOf 24 = .ok (.iconst 0, 1) := by decide +kernel
theorem xd_C_hasInterfaceOf_25 : decode xb_C_hasInterfaceOf 25 = .ok (.istore_n 2, 1) := by decide +kernel
theorem xd_C_hasInterfaceOf_26 : decode xb_C_hasInterfaceOf 26 = .ok (.iload_n 2, 1) := by decide +kernel
theorem xd_C_hasInterfaceOf_27 : decode xb_C_hasInterfaceOf 27 = .ok (.aload_n 0, 1) := by decide +kernel
theorem xd_C_hasInterfaceOf_28 : decode xb_C_hasInterfaceOf 28 = .ok (.getfield 31, 3) := by decide +kernel
theorem xd_C_hasInterfaceOf_31 : decode xb_C_hasInterfaceOf 31 = .ok (.if_icmp .ge 26, 3) := by decide +kernel
theorem xd_C_hasInterfaceOf_34 : decode xb_C_hasInterfaceOf 34 = .ok (.aload_n 0, 1) := by decide +kernel
theorem xd_C_hasInterfaceOf_35 : decode xb_C_hasInterfaceOf 35 = .ok (.getfield 9, 3) := by decide +kernel
theorem xd_C_hasInterfaceOf_38 : decode xb_C_hasInterfaceOf 38 = .ok (.iload_n 2, 1) := by decide +kernel
theorem xd_C_hasInterfaceOf_39 : decode xb_C_hasInterfaceOf 39 = .ok (.iaload, 1) := by decide +kernel
theorem xd_C_hasInterfaceOf_40 : decode xb_C_hasInterfaceOf 40 = .ok (.aload_n 1, 1) := by decide +kernel
theorem xd_C_hasInterfaceOf_41 : decode xb_C_hasInterfaceOf 41 = .ok (.getfield 9, 3) := by decide +kernel
theorem xd_C_hasInterfaceOf_44 : decode xb_C_hasInterfaceOf 44 = .ok (.iload_n 2, 1) := by decide +kernel
theorem xd_C_hasInterfaceOf_45 : decode xb_C_hasInterfaceOf 45 = .ok (.iaload, 1) := by decide +kernel
theorem xd_C_hasInterfaceOf_46 : decode xb_C_hasInterfaceOf 46 = .ok (.if_icmp .eq 5, 3) := by decide +kernel
theorem xd_C_hasInterfaceOf_49 : decode xb_C_hasInterfaceOf 49 = .ok (.iconst 0, 1) := by decide +kernel
theorem xd_C_hasInterfaceOf_50 : decode xb_C_hasInterfaceOf 50 = .ok (.ireturn, 1) := by decide +kernel
theorem xd_C_hasInterfaceOf_51 : decode xb_C_hasInterfaceOf 51 = .ok (.iinc 2 1, 3) := by decide +kernel
theorem xd_C_hasInterfaceOf_54 : decode xb_C_hasInterfaceOf 54 = .ok (.goto (-28), 3) := by decide +kernel
theorem xd_C_hasInterfaceOf_57 : decode xb_C_hasInterfaceOf 57 = .ok (.iconst 1, 1) := by decide +kernel
theorem xd_C_hasInterfaceOf_58 : decode xb_C_hasInterfaceOf 58 = .ok (.ireturn, 1) := by decide +kernel
theorem xd_C_copyFrom_0 : decode xb_C_copyFrom 0 = .ok (.aload_n 0, 1) := by decide +kernel
theorem xd_C_copyFrom_1 : decode xb_C_copyFrom 1 = .ok (.aload_n 1, 1) := by decide +kernel
theorem xd_C_copyFrom_2 : decode xb_C_copyFrom 2 = .ok (.getfield 27, 3) := by decide +kernel
theorem xd_C_copyFrom_5 : decode xb_C_copyFrom 5 = .ok (.putfield 27, 3) := by decide +kernel
theorem xd_C_copyFrom_8 : decode xb_C_copyFrom 8 = .ok (.aload_n 0, 1) := by decide +kernel
theorem xd_C_copyFrom_9 : decode xb_C_copyFrom 9 = .ok (.aload_n 1, 1) := by decide +kernel
theorem xd_C_copyFrom_10 : decode xb_C_copyFrom 10 = .ok (.getfield 31, 3) := by decide +kernel
theorem xd_C_copyFrom_13 : decode xb_C_copyFrom 13 = .ok (.putfield 31, 3) := by decide +kernel
theorem xd_C_copyFrom_16 : decode xb_C_copyFrom 16 = .ok (.aload_n 1, 1) := by decide +kernel
theorem xd_C_copyFrom_17 : decode xb_C_copyFrom 17 = .ok (.getfield 9, 3) := by decide +kernel
theorem xd_C_copyFrom_20 : decode xb_C_copyFrom 20 = .ok (.iconst 0, 1) := by decide +kernel
theorem xd_C_copyFrom_21 : decode xb_C_copyFrom 21 = .ok (.aload_n 0, 1) := by decide +kernel
theorem xd_C_copyFrom_22 : decode xb_C_copyFrom 22 = .ok (.getfield 9, 3) := by decide +kernel
theorem xd_C_copyFrom_25 : decode xb_C_copyFrom 25 = .ok (.iconst 0, 1) := by decide +kernel
theorem xd_C_copyFrom_26 : decode xb_C_copyFrom 26 = .ok (.aload_n 0, 1) := by decide +kernel
theorem xd_C_copyFrom_27 : decode xb_C_copyFrom 27 = .ok (.getfield 9, 3) := by decide +kernel
theorem xd_C_copyFrom_30 : decode xb_C_copyFrom 30 = .ok (.arraylength, 1) := by decide +kernel
theorem xd_C_copyFrom_31 : decode xb_C_copyFrom 31 = .ok (.invokestatic 42, 3) := by decide +kernel
theorem xd_C_copyFrom_34 : decode xb_C_copyFrom 34 = .ok (.aload_n 1, 1) := by decide +kernel
theorem xd_C_copyFrom_35 : decode xb_C_copyFrom 35 = .ok (.getfield 15, 3) := by decide +kernel
theorem xd_C_copyFrom_38 : decode xb_C_copyFrom 38 = .ok (.iconst 0, 1) := by decide +kernel
theorem xd_C_copyFrom_39 : decode xb_C_copyFrom 39 = .ok (.aload_n 0, 1) := by decide +kernel
theorem xd_C_copyFrom_40 : decode xb_C_copyFrom 40 = .ok (.getfield 15, 3) := by decide +kernel
theorem xd_C_copyFrom_43 : decode xb_C_copyFrom 43 = .ok (.iconst 0, 1) := by decide +kernel
theorem xd_C_copyFrom_44 : decode xb_C_copyFrom 44 = .ok (.aload_n 0, 1) := by decide +kernel
theorem xd_C_copyFrom_45 : decode xb_C_copyFrom 45 = .ok (.getfield 15, 3) := by decide +kernel
theorem xd_C_copyFrom_48 : decode xb_C_copyFrom 48 = .ok (.arraylength, 1) := by decide +kernel
theorem xd_C_copyFrom_49 : decode xb_C_copyFrom 49 = .ok (.invokestatic 42, 3) := by decide +kernel
theorem xd_C_copyFrom_52 : decode xb_C_copyFrom 52 = .ok (.aload_n 1, 1) := by decide +kernel
theorem xd_C_copyFrom_53 : decode xb_C_copyFrom 53 = .ok (.getfield 18, 3) := by decide +kernel
theorem xd_C_copyFrom_56 : decode xb_C_copyFrom 56 = .ok (.iconst 0, 1) := by decide +kernel
theorem xd_C_copyFrom_57 : decode xb_C_copyFrom 57 = .ok (.aload_n 0, 1) := by decide +kernel
theorem xd_C_copyFrom_58 : decode xb_C_copyFrom 58 = .ok (.getfield 18, 3) := by decide +kernel
theorem xd_C_copyFrom_61 : decode xb_C_copyFrom 61 = .ok (.iconst 0, 1) := by decide +kernel
theorem xd_C_copyFrom_62 : decode xb_C_copyFrom 62 = .ok (.aload_n 0, 1) := by decide +kernel
theorem xd_C_copyFrom_63 : decode xb_C_copyFrom 63 = .ok (.getfield 18, 3) := by decide +kernel
theorem xd_C_copyFrom_66 : decode xb_C_copyFrom 66 = .ok (.arraylength, 1) := by decide +kernel
theorem xd_C_copyFrom_67 : decode xb_C_copyFrom 67 = .ok (.invokestatic 42, 3) := by decide +kernel
theorem xd_C_copyFrom_70 : decode xb_C_copyFrom 70 = .ok (.aload_n 1, 1) := by decide +kernel
theorem xd_C_copyFrom_71 : decode xb_C_copyFrom 71 = .ok (.getfield 21, 3) := by decide +kernel
theorem xd_C_copyFrom_74 : decode xb_C_copyFrom 74 = .ok (.iconst 0, 1) := by decide +kernel
theorem xd_C_copyFrom_75 : decode xb_C_copyFrom 75 = .ok (.aload_n 0, 1) := by decide +kernel
theorem xd_C_copyFrom_76 : decode xb_C_copyFrom 76 = .ok (.getfield 21, 3) := by decide +kernel
theorem xd_C_copyFrom_79 : decode xb_C_copyFrom 79 = .ok (.iconst 0, 1) := by decide +kernel
theorem xd_C_copyFrom_80 : decode xb_C_copyFrom 80 = .ok (.aload_n 0, 1) := by decide +kernel
theorem xd_C_copyFrom_81 : decode xb_C_copyFrom 81 = .ok (.getfield 21, 3) := by decide +kernel
theorem xd_C_copyFrom_84 : decode xb_C_copyFrom 84 = .ok (.arraylength, 1) := by decide +kernel
theorem xd_C_copyFrom_85 : decode xb_C_copyFrom 85 = .ok (.invokestatic 42, 3) := by decide +kernel
theorem xd_C_copyFrom_88 : decode xb_C_copyFrom 88 = .ok (.aload_n 1, 1) := by decide +kernel
theorem xd_C_copyFrom_89 : decode xb_C_copyFrom 89 = .ok (.getfield 24, 3) := by decide +kernel
theorem xd_C_copyFrom_92 : decode xb_C_copyFrom 92 = .ok (.iconst 0, 1) := by decide +kernel
theorem xd_C_copyFrom_93 : decode xb_C_copyFrom 93 = .ok (.aload_n 0, 1) := by decide +kernel
theorem xd_C_copyFrom_94 : decode xb_C_copyFrom 94 = .ok (.getfield 24, 3) := by decide +kernel
theorem xd_C_copyFrom_97 : decode xb_C_copyFrom 97 = .ok (.iconst 0, 1) := by decide +kernel
theorem xd_C_copyFrom_98 : decode xb_C_copyFrom 98 = .ok (.aload_n 0, 1) := by decide +kernel
theorem xd_C_copyFrom_99 : decode xb_C_copyFrom 99 = .ok (.getfield 24, 3) := by decide +kernel
theorem xd_C_copyFrom_102 : decode xb_C_copyFrom 102 = .ok (.arraylength, 1) := by decide +kernel
theorem xd_C_copyFrom_103 : decode xb_C_copyFrom 103 = .ok (.invokestatic 42, 3) := by decide +kernel
theorem xd_C_copyFrom_106 : decode xb_C_copyFrom 106 = .ok (.return_, 1) := by decide +kernel
section
variable {l : Launch} {D : va_G} {ad : Nat → Nat} {ids : Nat → ClassId} {ps : Nat}
def xm_C_clear (σ : aw_m) (k0 : Nat) (a1 : Int32) : Option aw_m := aw_l (aw_p σ k0 0 a1) fun s_2 => aw_l (aw_p s_2 k0 1 (0 : Int32)) fun s_7 => some s_7
set_option maxHeartbeats 4000000 in
set_option maxRecDepth 100000 in
theorem xc_C_clear (σ : aw_m) (k0 : Nat) (a1 : Int32) (q : aw_m) (hk0 : kd_k k0 = 1) (hm : xm_C_clear σ k0 a1 = some q) : aw_M l D (ty_z ids) (zs_T ps) xy_C_clear (xw_C_clear :: gw_l) (rm_D (0)) [.ref (ad k0), .int a1] (cw_w ad ids σ) none (cw_w ad ids q) := by
  refine aw_intro (cc := xb_C_clear) (n := 2) (ret := none) "ModuleShelf$Code" rfl (by decide) rfl (Nat.le_of_ble_eq_true rfl) ?_
  intro κ C
  unfold xm_C_clear at hm
  refine aw_aload_n C 0 xd_C_clear_0 rfl rfl ?_
  refine aw_iload_n C 1 xd_C_clear_1 rfl rfl ?_
  obtain ⟨s_2, h_2, hm⟩ := aw_let hm
  refine aw_put (σ1 := s_2) (f := upd (σ k0) 0 a1) C k0 (kd_lt hk0) (ly_C hk0) rfl (fun w h => List.mem_cons_of_mem _ (xi_C w h)) xk_C xo_C xn_C 0 (by decide) (List.mem_cons_of_mem _ fl_C_27) rfl (ty := .int) (by decide +kernel) rfl rfl (Nat.le_of_ble_eq_true rfl) (ly_C hk0) h_2 xd_C_clear_2 ?_
  refine aw_aload_n C 0 xd_C_clear_5 rfl rfl ?_
  refine aw_iconst (v := (0 : Int32)) C xd_C_clear_6 (by decide) ?_
  obtain ⟨s_7, h_7, hm⟩ := aw_let hm
  refine aw_put (σ1 := s_7) (f := upd (s_2 k0) 1 (0 : Int32)) C k0 (kd_lt hk0) (ly_C hk0) rfl (fun w h => List.mem_cons_of_mem _ (xi_C w h)) xk_C xo_C xn_C 1 (by decide) (List.mem_cons_of_mem _ fl_C_31) rfl (ty := .int) (by decide +kernel) rfl rfl (Nat.le_of_ble_eq_true rfl) (ly_C hk0) h_7 xd_C_clear_7 ?_
  cases hm
  exact aw_vret C xd_C_clear_10
def xm_C_addProcedure (σ : aw_m) (k0 : Nat) (a1 : Int32) : Option (Int32 × aw_m) := (if σ k0 1 < (3 : Int32) then if aw_in (σ k0 1) 3 = true then aw_l (aw_p σ (k0 + 1) (Int32.toNatClampNeg (σ k0 1)) a1) fun s_20 => if aw_in (s_20 k0 1) 3 = true then aw_l (aw_p s_20 (k0 + 2) (Int32.toNatClampNeg (s_20 k0 1)) (0 : Int32)) fun s_30 => aw_l (aw_p s_30 k0 1 ((s_30 k0 1) + (1 : Int32))) fun s_38 => some ((s_38 k0 1) - (1 : Int32), s_38) else none else none else some ((-2 : Int32), σ))
set_option maxHeartbeats 4000000 in
set_option maxRecDepth 100000 in
theorem xc_C_addProcedure (σ : aw_m) (k0 : Nat) (a1 : Int32) (q : Int32 × aw_m) (hk0 : kd_k k0 = 1) (hm : xm_C_addProcedure σ k0 a1 = some q) : aw_M l D (ty_z ids) (zs_T ps) xy_C_addProcedure (xw_C_addProcedure :: gw_l) (rm_D (0)) [.ref (ad k0), .int a1] (cw_w ad ids σ) (some (.int q.1)) (cw_w ad ids q.2) := by
  refine aw_intro (cc := xb_C_addProcedure) (n := 2) (ret := (some .int)) "ModuleShelf$Code" rfl (by decide) rfl (Nat.le_of_ble_eq_true rfl) ?_
  intro κ C
  unfold xm_C_addProcedure at hm
  refine aw_aload_n C 0 xd_C_addProcedure_0 rfl rfl ?_
  refine aw_get C k0 (kd_lt hk0) (ly_C hk0) rfl (fun w h => List.mem_cons_of_mem _ (xi_C w h)) 1 (by decide) rfl (List.mem_cons_of_mem _ fl_C_31) xd_C_addProcedure_1 ?_
  refine aw_iconst (v := (3 : Int32)) C xd_C_addProcedure_4 (by decide) ?_
  refine aw_icmp_lt (tgt := 11) C xd_C_addProcedure_5 (by decide) (fun c_5 => ?_) (fun c_5 => ?_)
  · rw [if_pos c_5] at hm
    refine aw_aload_n C 0 xd_C_addProcedure_11 rfl rfl ?_
    refine aw_get C k0 (kd_lt hk0) (ly_C hk0) rfl (fun w h => List.mem_cons_of_mem _ (xi_C w h)) 2 (by decide) rfl (List.mem_cons_of_mem _ fl_C_9) xd_C_addProcedure_12 ?_
    refine aw_aload_n C 0 xd_C_addProcedure_15 rfl rfl ?_
    refine aw_get C k0 (kd_lt hk0) (ly_C hk0) rfl (fun w h => List.mem_cons_of_mem _ (xi_C w h)) 1 (by decide) rfl (List.mem_cons_of_mem _ fl_C_31) xd_C_addProcedure_16 ?_
    refine aw_iload_n C 1 xd_C_addProcedure_19 rfl rfl ?_
    obtain ⟨g_20, hm⟩ := aw_grd hm
    obtain ⟨s_20, h_20, hm⟩ := aw_let hm
    refine aw_iast (σ1 := s_20) (g := upd (σ (k0 + 1)) (Int32.toNatClampNeg (σ k0 1)) a1) C (k0 + 1) (kd_lt (kf_C_arguments hk0)) 0 (ly_A3 (kf_C_arguments hk0)) rfl (aw_in_ok g_20) (ly_A3 (kf_C_arguments hk0)) h_20 xd_C_addProcedure_20 ?_
    refine aw_aload_n C 0 xd_C_addProcedure_21 rfl rfl ?_
    refine aw_get C k0 (kd_lt hk0) (ly_C hk0) rfl (fun w h => List.mem_cons_of_mem _ (xi_C w h)) 3 (by decide) rfl (List.mem_cons_of_mem _ fl_C_15) xd_C_addProcedure_22 ?_
    refine aw_aload_n C 0 xd_C_addProcedure_25 rfl rfl ?_
    refine aw_get C k0 (kd_lt hk0) (ly_C hk0) rfl (fun w h => List.mem_cons_of_mem _ (xi_C w h)) 1 (by decide) rfl (List.mem_cons_of_mem _ fl_C_31) xd_C_addProcedure_26 ?_
    refine aw_iconst (v := (0 : Int32)) C xd_C_addProcedure_29 (by decide) ?_
    obtain ⟨g_30, hm⟩ := aw_grd hm
    obtain ⟨s_30, h_30, hm⟩ := aw_let hm
    refine aw_iast (σ1 := s_30) (g := upd (s_20 (k0 + 2)) (Int32.toNatClampNeg (s_20 k0 1)) (0 : Int32)) C (k0 + 2) (kd_lt (kf_C_lengths hk0)) 0 (ly_A3 (kf_C_lengths hk0)) rfl (aw_in_ok g_30) (ly_A3 (kf_C_lengths hk0)) h_30 xd_C_addProcedure_30 ?_
    refine aw_aload_n C 0 xd_C_addProcedure_31 rfl rfl ?_
    refine aw_dup C xd_C_addProcedure_32 rfl ?_
    refine aw_get C k0 (kd_lt hk0) (ly_C hk0) rfl (fun w h => List.mem_cons_of_mem _ (xi_C w h)) 1 (by decide) rfl (List.mem_cons_of_mem _ fl_C_31) xd_C_addProcedure_33 ?_
    refine aw_iconst (v := (1 : Int32)) C xd_C_addProcedure_36 (by decide) ?_
    refine aw_iadd C xd_C_addProcedure_37 ?_
    obtain ⟨s_38, h_38, hm⟩ := aw_let hm
    refine aw_put (σ1 := s_38) (f := upd (s_30 k0) 1 ((s_30 k0 1) + (1 : Int32))) C k0 (kd_lt hk0) (ly_C hk0) rfl (fun w h => List.mem_cons_of_mem _ (xi_C w h)) xk_C xo_C xn_C 1 (by decide) (List.mem_cons_of_mem _ fl_C_31) rfl (ty := .int) (by decide +kernel) rfl rfl (Nat.le_of_ble_eq_true rfl) (ly_C hk0) h_38 xd_C_addProcedure_38 ?_
    refine aw_aload_n C 0 xd_C_addProcedure_41 rfl rfl ?_
    refine aw_get C k0 (kd_lt hk0) (ly_C hk0) rfl (fun w h => List.mem_cons_of_mem _ (xi_C w h)) 1 (by decide) rfl (List.mem_cons_of_mem _ fl_C_31) xd_C_addProcedure_42 ?_
    refine aw_iconst (v := (1 : Int32)) C xd_C_addProcedure_45 (by decide) ?_
    refine aw_isub C xd_C_addProcedure_46 ?_
    cases hm
    exact aw_iret C xd_C_addProcedure_47
  · rw [if_neg c_5] at hm
    refine aw_bipush (v := (-2 : Int32)) C xd_C_addProcedure_8 (by decide) ?_
    cases hm
    exact aw_iret C xd_C_addProcedure_10
def xm_C_cellOf (σ : aw_m) (k0 : Nat) (a1 : Int32) (a2 : Int32) : Option Int32 := some ((a1 * (14 : Int32)) + a2)
set_option maxHeartbeats 4000000 in
set_option maxRecDepth 100000 in
theorem xc_C_cellOf (σ : aw_m) (k0 : Nat) (a1 : Int32) (a2 : Int32) (q : Int32) (hk0 : kd_k k0 = 1) (hm : xm_C_cellOf σ k0 a1 a2 = some q) : aw_M l D (ty_z ids) (zs_T ps) xy_C_cellOf (xw_C_cellOf :: gw_l) (rm_D (0)) [.ref (ad k0), .int a1, .int a2] (cw_w ad ids σ) (some (.int q)) (cw_w ad ids σ) := by
  refine aw_intro (cc := xb_C_cellOf) (n := 3) (ret := (some .int)) "ModuleShelf$Code" rfl (by decide) rfl (Nat.le_of_ble_eq_true rfl) ?_
  intro κ C
  unfold xm_C_cellOf at hm
  refine aw_iload_n C 1 xd_C_cellOf_0 rfl rfl ?_
  refine aw_bipush (v := (14 : Int32)) C xd_C_cellOf_1 (by decide) ?_
  refine aw_imul C xd_C_cellOf_3 ?_
  refine aw_iload_n C 2 xd_C_cellOf_4 rfl rfl ?_
  refine aw_iadd C xd_C_cellOf_5 ?_
  cases hm
  exact aw_iret C xd_C_cellOf_6
def xm_C_addToken (σ : aw_m) (k0 : Nat) (a1 : Int32) (a2 : Int32) (a3 : Int32) : Option (Int32 × aw_m) := (if σ k0 1 = 0 then some ((-1 : Int32), σ) else if aw_in ((σ k0 1) - (1 : Int32)) 3 = true then (if σ (k0 + 2) (Int32.toNatClampNeg ((σ k0 1) - (1 : Int32))) < (14 : Int32) then if aw_in ((σ k0 1) - (1 : Int32)) 3 = true then (xm_C_cellOf σ k0 ((σ k0 1) - (1 : Int32)) (σ (k0 + 2) (Int32.toNatClampNeg ((σ k0 1) - (1 : Int32))))).bind fun q_42 => if aw_in q_42 42 = true then aw_l (aw_p σ (k0 + 3) (Int32.toNatClampNeg q_42) a1) fun s_54 => if aw_in q_42 42 = true then aw_l (aw_p s_54 (k0 + 4) (Int32.toNatClampNeg q_42) a2) fun s_62 => if aw_in q_42 42 = true then aw_l (aw_p s_62 (k0 + 5) (Int32.toNatClampNeg q_42) a3) fun s_70 => if aw_in ((σ k0 1) - (1 : Int32)) 3 = true then if aw_in ((σ k0 1) - (1 : Int32)) 3 = true then aw_l (aw_p s_70 (k0 + 2) (Int32.toNatClampNeg ((σ k0 1) - (1 : Int32))) ((s_70 (k0 + 2) (Int32.toNatClampNeg ((σ k0 1) - (1 : Int32)))) + (1 : Int32))) fun s_81 => if aw_in ((σ k0 1) - (1 : Int32)) 3 = true then some (s_81 (k0 + 2) (Int32.toNatClampNeg ((σ k0 1) - (1 : Int32))), s_81) else none else none else none else none else none else none else none else some ((-2 : Int32), σ)) else none)
set_option maxHeartbeats 4000000 in
set_option maxRecDepth 100000 in
theorem xc_C_addToken (σ : aw_m) (k0 : Nat) (a1 : Int32) (a2 : Int32) (a3 : Int32) (q : Int32 × aw_m) (hk0 : kd_k k0 = 1) (hm : xm_C_addToken σ k0 a1 a2 a3 = some q) : aw_M l D (ty_z ids) (zs_T ps) xy_C_addToken (xw_C_addToken :: gw_l) (rm_D (1)) [.ref (ad k0), .int a1, .int a2, .int a3] (cw_w ad ids σ) (some (.int q.1)) (cw_w ad ids q.2) := by
  refine aw_intro (cc := xb_C_addToken) (n := 6) (ret := (some .int)) "ModuleShelf$Code" rfl (by decide) rfl (Nat.le_of_ble_eq_true rfl) ?_
  intro κ C
  unfold xm_C_addToken at hm
  refine aw_aload_n C 0 xd_C_addToken_0 rfl rfl ?_
  refine aw_get C k0 (kd_lt hk0) (ly_C hk0) rfl (fun w h => List.mem_cons_of_mem _ (xi_C w h)) 1 (by decide) rfl (List.mem_cons_of_mem _ fl_C_31) xd_C_addToken_1 ?_
  refine aw_if_ne (tgt := 9) C xd_C_addToken_4 (by decide) (fun c_4 => ?_) (fun c_4 => ?_)
  · rw [if_neg c_4] at hm
    refine aw_aload_n C 0 xd_C_addToken_9 rfl rfl ?_
    refine aw_get C k0 (kd_lt hk0) (ly_C hk0) rfl (fun w h => List.mem_cons_of_mem _ (xi_C w h)) 1 (by decide) rfl (List.mem_cons_of_mem _ fl_C_31) xd_C_addToken_10 ?_
    refine aw_iconst (v := (1 : Int32)) C xd_C_addToken_13 (by decide) ?_
    refine aw_isub C xd_C_addToken_14 ?_
    refine aw_istore (L' := [(4, .int ((σ k0 1) - (1 : Int32))), (0, .ref (ad k0)), (1, .int a1), (2, .int a2), (3, .int a3)]) C xd_C_addToken_15 (by decide) rfl ?_
    refine aw_aload_n C 1 xd_C_addToken_17 rfl rfl ?_
    refine aw_get C k0 (kd_lt hk0) (ly_C hk0) rfl (fun w h => List.mem_cons_of_mem _ (xi_C w h)) 3 (by decide) rfl (List.mem_cons_of_mem _ fl_C_15) xd_C_addToken_18 ?_
    refine aw_iload C 0 xd_C_addToken_21 rfl ?_
    obtain ⟨g_23, hm⟩ := aw_grd hm
    refine aw_iald C (k0 + 2) (kd_lt (kf_C_lengths hk0)) 0 (ly_A3 (kf_C_lengths hk0)) rfl (aw_in_ok g_23) xd_C_addToken_23 ?_
    refine aw_bipush (v := (14 : Int32)) C xd_C_addToken_24 (by decide) ?_
    refine aw_icmp_lt (tgt := 32) C xd_C_addToken_26 (by decide) (fun c_26 => ?_) (fun c_26 => ?_)
    · rw [if_pos c_26] at hm
      refine aw_aload_n C 1 xd_C_addToken_32 rfl rfl ?_
      refine aw_iload C 0 xd_C_addToken_33 rfl ?_
      refine aw_aload_n C 1 xd_C_addToken_35 rfl rfl ?_
      refine aw_get C k0 (kd_lt hk0) (ly_C hk0) rfl (fun w h => List.mem_cons_of_mem _ (xi_C w h)) 3 (by decide) rfl (List.mem_cons_of_mem _ fl_C_15) xd_C_addToken_36 ?_
      refine aw_iload C 0 xd_C_addToken_39 rfl ?_
      obtain ⟨g_41, hm⟩ := aw_grd hm
      refine aw_iald C (k0 + 2) (kd_lt (kf_C_lengths hk0)) 0 (ly_A3 (kf_C_lengths hk0)) rfl (aw_in_ok g_41) xd_C_addToken_41 ?_
      obtain ⟨q_42, e_42, hm⟩ := aw_bnd hm
      refine aw_callVi (As := [.int ((σ k0 1) - (1 : Int32)), .int (σ (k0 + 2) (Int32.toNatClampNeg ((σ k0 1) - (1 : Int32))))]) (rest := []) (b := ad k0) C (xc_C_cellOf σ k0 ((σ k0 1) - (1 : Int32)) (σ (k0 + 2) (Int32.toNatClampNeg ((σ k0 1) - (1 : Int32)))) _ hk0 e_42) rfl (gw_sub (gw_V xg_C_cellOf ml_C_34 im_C_cellOf se_C_cellOf wi_C)) na_C_cellOf (rm_lt (by decide) (by decide)) ⟨Nat.zero_le _, Nat.zero_le _⟩ k0 (at_C hk0) rfl rfl (Nat.le_of_ble_eq_true rfl) xd_C_addToken_42 ?_
      refine aw_istore (L' := [(5, .int q_42), (4, .int ((σ k0 1) - (1 : Int32))), (0, .ref (ad k0)), (1, .int a1), (2, .int a2), (3, .int a3)]) C xd_C_addToken_45 (by decide) rfl ?_
      refine aw_aload_n C 2 xd_C_addToken_47 rfl rfl ?_
      refine aw_get C k0 (kd_lt hk0) (ly_C hk0) rfl (fun w h => List.mem_cons_of_mem _ (xi_C w h)) 4 (by decide) rfl (List.mem_cons_of_mem _ fl_C_18) xd_C_addToken_48 ?_
      refine aw_iload C 0 xd_C_addToken_51 rfl ?_
      refine aw_iload_n C 3 xd_C_addToken_53 rfl rfl ?_
      obtain ⟨g_54, hm⟩ := aw_grd hm
      obtain ⟨s_54, h_54, hm⟩ := aw_let hm
      refine aw_iast (σ1 := s_54) (g := upd (σ (k0 + 3)) (Int32.toNatClampNeg q_42) a1) C (k0 + 3) (kd_lt (kf_C_ops hk0)) 0 (ly_A42 (kf_C_ops hk0)) rfl (aw_in_ok g_54) (ly_A42 (kf_C_ops hk0)) h_54 xd_C_addToken_54 ?_
      refine aw_aload_n C 2 xd_C_addToken_55 rfl rfl ?_
      refine aw_get C k0 (kd_lt hk0) (ly_C hk0) rfl (fun w h => List.mem_cons_of_mem _ (xi_C w h)) 5 (by decide) rfl (List.mem_cons_of_mem _ fl_C_21) xd_C_addToken_56 ?_
      refine aw_iload C 0 xd_C_addToken_59 rfl ?_
      refine aw_iload_n C 4 xd_C_addToken_61 rfl rfl ?_
      obtain ⟨g_62, hm⟩ := aw_grd hm
      obtain ⟨s_62, h_62, hm⟩ := aw_let hm
      refine aw_iast (σ1 := s_62) (g := upd (s_54 (k0 + 4)) (Int32.toNatClampNeg q_42) a2) C (k0 + 4) (kd_lt (kf_C_as hk0)) 0 (ly_A42 (kf_C_as hk0)) rfl (aw_in_ok g_62) (ly_A42 (kf_C_as hk0)) h_62 xd_C_addToken_62 ?_
      refine aw_aload_n C 2 xd_C_addToken_63 rfl rfl ?_
      refine aw_get C k0 (kd_lt hk0) (ly_C hk0) rfl (fun w h => List.mem_cons_of_mem _ (xi_C w h)) 6 (by decide) rfl (List.mem_cons_of_mem _ fl_C_24) xd_C_addToken_64 ?_
      refine aw_iload C 0 xd_C_addToken_67 rfl ?_
      refine aw_iload_n C 5 xd_C_addToken_69 rfl rfl ?_
      obtain ⟨g_70, hm⟩ := aw_grd hm
      obtain ⟨s_70, h_70, hm⟩ := aw_let hm
      refine aw_iast (σ1 := s_70) (g := upd (s_62 (k0 + 5)) (Int32.toNatClampNeg q_42) a3) C (k0 + 5) (kd_lt (kf_C_bs hk0)) 0 (ly_A42 (kf_C_bs hk0)) rfl (aw_in_ok g_70) (ly_A42 (kf_C_bs hk0)) h_70 xd_C_addToken_70 ?_
      refine aw_aload_n C 2 xd_C_addToken_71 rfl rfl ?_
      refine aw_get C k0 (kd_lt hk0) (ly_C hk0) rfl (fun w h => List.mem_cons_of_mem _ (xi_C w h)) 3 (by decide) rfl (List.mem_cons_of_mem _ fl_C_15) xd_C_addToken_72 ?_
      refine aw_iload C 1 xd_C_addToken_75 rfl ?_
      refine aw_dup2 C xd_C_addToken_77 rfl rfl ?_
      obtain ⟨g_78, hm⟩ := aw_grd hm
      refine aw_iald C (k0 + 2) (kd_lt (kf_C_lengths hk0)) 0 (ly_A3 (kf_C_lengths hk0)) rfl (aw_in_ok g_78) xd_C_addToken_78 ?_
      refine aw_iconst (v := (1 : Int32)) C xd_C_addToken_79 (by decide) ?_
      refine aw_iadd C xd_C_addToken_80 ?_
      obtain ⟨g_81, hm⟩ := aw_grd hm
      obtain ⟨s_81, h_81, hm⟩ := aw_let hm
      refine aw_iast (σ1 := s_81) (g := upd (s_70 (k0 + 2)) (Int32.toNatClampNeg ((σ k0 1) - (1 : Int32))) ((s_70 (k0 + 2) (Int32.toNatClampNeg ((σ k0 1) - (1 : Int32)))) + (1 : Int32))) C (k0 + 2) (kd_lt (kf_C_lengths hk0)) 0 (ly_A3 (kf_C_lengths hk0)) rfl (aw_in_ok g_81) (ly_A3 (kf_C_lengths hk0)) h_81 xd_C_addToken_81 ?_
      refine aw_aload_n C 2 xd_C_addToken_82 rfl rfl ?_
      refine aw_get C k0 (kd_lt hk0) (ly_C hk0) rfl (fun w h => List.mem_cons_of_mem _ (xi_C w h)) 3 (by decide) rfl (List.mem_cons_of_mem _ fl_C_15) xd_C_addToken_83 ?_
      refine aw_iload C 1 xd_C_addToken_86 rfl ?_
      obtain ⟨g_88, hm⟩ := aw_grd hm
      refine aw_iald C (k0 + 2) (kd_lt (kf_C_lengths hk0)) 0 (ly_A3 (kf_C_lengths hk0)) rfl (aw_in_ok g_88) xd_C_addToken_88 ?_
      cases hm
      exact aw_iret C xd_C_addToken_89
    · rw [if_neg c_26] at hm
      refine aw_bipush (v := (-2 : Int32)) C xd_C_addToken_29 (by decide) ?_
      cases hm
      exact aw_iret C xd_C_addToken_31
  · rw [if_pos c_4] at hm
    refine aw_iconst (v := (-1 : Int32)) C xd_C_addToken_7 (by decide) ?_
    cases hm
    exact aw_iret C xd_C_addToken_8
def xm_C_hasProcedure (σ : aw_m) (k0 : Nat) (a1 : Int32) : Option Int32 := (if a1 < 0 then some (0 : Int32) else (if σ k0 1 ≤ a1 then some (0 : Int32) else some (1 : Int32)))
set_option maxHeartbeats 4000000 in
set_option maxRecDepth 100000 in
theorem xc_C_hasProcedure (σ : aw_m) (k0 : Nat) (a1 : Int32) (q : Int32) (hk0 : kd_k k0 = 1) (hm : xm_C_hasProcedure σ k0 a1 = some q) : aw_M l D (ty_z ids) (zs_T ps) xy_C_hasProcedure (xw_C_hasProcedure :: gw_l) (rm_D (0)) [.ref (ad k0), .int a1] (cw_w ad ids σ) (some (.int q)) (cw_w ad ids σ) := by
  refine aw_intro (cc := xb_C_hasProcedure) (n := 2) (ret := (some .boolean)) "ModuleShelf$Code" rfl (by decide) rfl (Nat.le_of_ble_eq_true rfl) ?_
  intro κ C
  unfold xm_C_hasProcedure at hm
  refine aw_iload_n C 1 xd_C_hasProcedure_0 rfl rfl ?_
  refine aw_if_lt (tgt := 16) C xd_C_hasProcedure_1 (by decide) (fun c_1 => ?_) (fun c_1 => ?_)
  · rw [if_pos c_1] at hm
    refine aw_iconst (v := (0 : Int32)) C xd_C_hasProcedure_16 (by decide) ?_
    cases hm
    exact aw_zret C (by decide) xd_C_hasProcedure_17
  · rw [if_neg c_1] at hm
    refine aw_iload_n C 1 xd_C_hasProcedure_4 rfl rfl ?_
    refine aw_aload_n C 0 xd_C_hasProcedure_5 rfl rfl ?_
    refine aw_get C k0 (kd_lt hk0) (ly_C hk0) rfl (fun w h => List.mem_cons_of_mem _ (xi_C w h)) 1 (by decide) rfl (List.mem_cons_of_mem _ fl_C_31) xd_C_hasProcedure_6 ?_
    refine aw_icmp_ge (tgt := 16) C xd_C_hasProcedure_9 (by decide) (fun c_9 => ?_) (fun c_9 => ?_)
    · rw [if_pos c_9] at hm
      refine aw_iconst (v := (0 : Int32)) C xd_C_hasProcedure_16 (by decide) ?_
      cases hm
      exact aw_zret C (by decide) xd_C_hasProcedure_17
    · rw [if_neg c_9] at hm
      refine aw_iconst (v := (1 : Int32)) C xd_C_hasProcedure_12 (by decide) ?_
      refine aw_goto (tgt := 17) C xd_C_hasProcedure_13 (by decide) ?_
      cases hm
      exact aw_zret C (by decide) xd_C_hasProcedure_17
def xm_C_hasVariable (σ : aw_m) (k0 : Nat) (a1 : Int32) : Option Int32 := (if a1 < 0 then some (0 : Int32) else (if σ k0 0 ≤ a1 then some (0 : Int32) else some (1 : Int32)))
set_option maxHeartbeats 4000000 in
set_option maxRecDepth 100000 in
theorem xc_C_hasVariable (σ : aw_m) (k0 : Nat) (a1 : Int32) (q : Int32) (hk0 : kd_k k0 = 1) (hm : xm_C_hasVariable σ k0 a1 = some q) : aw_M l D (ty_z ids) (zs_T ps) xy_C_hasVariable (xw_C_hasVariable :: gw_l) (rm_D (0)) [.ref (ad k0), .int a1] (cw_w ad ids σ) (some (.int q)) (cw_w ad ids σ) := by
  refine aw_intro (cc := xb_C_hasVariable) (n := 2) (ret := (some .boolean)) "ModuleShelf$Code" rfl (by decide) rfl (Nat.le_of_ble_eq_true rfl) ?_
  intro κ C
  unfold xm_C_hasVariable at hm
  refine aw_iload_n C 1 xd_C_hasVariable_0 rfl rfl ?_
  refine aw_if_lt (tgt := 16) C xd_C_hasVariable_1 (by decide) (fun c_1 => ?_) (fun c_1 => ?_)
  · rw [if_pos c_1] at hm
    refine aw_iconst (v := (0 : Int32)) C xd_C_hasVariable_16 (by decide) ?_
    cases hm
    exact aw_zret C (by decide) xd_C_hasVariable_17
  · rw [if_neg c_1] at hm
    refine aw_iload_n C 1 xd_C_hasVariable_4 rfl rfl ?_
    refine aw_aload_n C 0 xd_C_hasVariable_5 rfl rfl ?_
    refine aw_get C k0 (kd_lt hk0) (ly_C hk0) rfl (fun w h => List.mem_cons_of_mem _ (xi_C w h)) 0 (by decide) rfl (List.mem_cons_of_mem _ fl_C_27) xd_C_hasVariable_6 ?_
    refine aw_icmp_ge (tgt := 16) C xd_C_hasVariable_9 (by decide) (fun c_9 => ?_) (fun c_9 => ?_)
    · rw [if_pos c_9] at hm
      refine aw_iconst (v := (0 : Int32)) C xd_C_hasVariable_16 (by decide) ?_
      cases hm
      exact aw_zret C (by decide) xd_C_hasVariable_17
    · rw [if_neg c_9] at hm
      refine aw_iconst (v := (1 : Int32)) C xd_C_hasVariable_12 (by decide) ?_
      refine aw_goto (tgt := 17) C xd_C_hasVariable_13 (by decide) ?_
      cases hm
      exact aw_zret C (by decide) xd_C_hasVariable_17
def xm_C_argumentsOf (σ : aw_m) (k0 : Nat) (a1 : Int32) : Option Int32 := (xm_C_hasProcedure σ k0 a1).bind fun q_2 => (if q_2 = 0 then some (-1 : Int32) else if aw_in a1 3 = true then some (σ (k0 + 1) (Int32.toNatClampNeg a1)) else none)
set_option maxHeartbeats 4000000 in
set_option maxRecDepth 100000 in
theorem xc_C_argumentsOf (σ : aw_m) (k0 : Nat) (a1 : Int32) (q : Int32) (hk0 : kd_k k0 = 1) (hm : xm_C_argumentsOf σ k0 a1 = some q) : aw_M l D (ty_z ids) (zs_T ps) xy_C_argumentsOf (xw_C_argumentsOf :: gw_l) (rm_D (1)) [.ref (ad k0), .int a1] (cw_w ad ids σ) (some (.int q)) (cw_w ad ids σ) := by
  refine aw_intro (cc := xb_C_argumentsOf) (n := 2) (ret := (some .int)) "ModuleShelf$Code" rfl (by decide) rfl (Nat.le_of_ble_eq_true rfl) ?_
  intro κ C
  unfold xm_C_argumentsOf at hm
  refine aw_aload_n C 0 xd_C_argumentsOf_0 rfl rfl ?_
  refine aw_iload_n C 1 xd_C_argumentsOf_1 rfl rfl ?_
  obtain ⟨q_2, e_2, hm⟩ := aw_bnd hm
  refine aw_callVi (As := [.int a1]) (rest := []) (b := ad k0) C (xc_C_hasProcedure σ k0 a1 _ hk0 e_2) rfl (gw_sub (gw_V xg_C_hasProcedure ml_C_38 im_C_hasProcedure se_C_hasProcedure wi_C)) na_C_hasProcedure (rm_lt (by decide) (by decide)) ⟨Nat.zero_le _, Nat.zero_le _⟩ k0 (at_C hk0) rfl rfl (Nat.le_of_ble_eq_true rfl) xd_C_argumentsOf_2 ?_
  refine aw_if_eq (tgt := 17) C xd_C_argumentsOf_5 (by decide) (fun c_5 => ?_) (fun c_5 => ?_)
  · rw [if_pos c_5] at hm
    refine aw_iconst (v := (-1 : Int32)) C xd_C_argumentsOf_17 (by decide) ?_
    cases hm
    exact aw_iret C xd_C_argumentsOf_18
  · rw [if_neg c_5] at hm
    refine aw_aload_n C 0 xd_C_argumentsOf_8 rfl rfl ?_
    refine aw_get C k0 (kd_lt hk0) (ly_C hk0) rfl (fun w h => List.mem_cons_of_mem _ (xi_C w h)) 2 (by decide) rfl (List.mem_cons_of_mem _ fl_C_9) xd_C_argumentsOf_9 ?_
    refine aw_iload_n C 1 xd_C_argumentsOf_12 rfl rfl ?_
    obtain ⟨g_13, hm⟩ := aw_grd hm
    refine aw_iald C (k0 + 1) (kd_lt (kf_C_arguments hk0)) 0 (ly_A3 (kf_C_arguments hk0)) rfl (aw_in_ok g_13) xd_C_argumentsOf_13 ?_
    refine aw_goto (tgt := 18) C xd_C_argumentsOf_14 (by decide) ?_
    cases hm
    exact aw_iret C xd_C_argumentsOf_18
def xm_C_lengthOf (σ : aw_m) (k0 : Nat) (a1 : Int32) : Option Int32 := (xm_C_hasProcedure σ k0 a1).bind fun q_2 => (if q_2 = 0 then some (0 : Int32) else if aw_in a1 3 = true then some (σ (k0 + 2) (Int32.toNatClampNeg a1)) else none)
set_option maxHeartbeats 4000000 in
set_option maxRecDepth 100000 in
theorem xc_C_lengthOf (σ : aw_m) (k0 : Nat) (a1 : Int32) (q : Int32) (hk0 : kd_k k0 = 1) (hm : xm_C_lengthOf σ k0 a1 = some q) : aw_M l D (ty_z ids) (zs_T ps) xy_C_lengthOf (xw_C_lengthOf :: gw_l) (rm_D (1)) [.ref (ad k0), .int a1] (cw_w ad ids σ) (some (.int q)) (cw_w ad ids σ) := by
  refine aw_intro (cc := xb_C_lengthOf) (n := 2) (ret := (some .int)) "ModuleShelf$Code" rfl (by decide) rfl (Nat.le_of_ble_eq_true rfl) ?_
  intro κ C
  unfold xm_C_lengthOf at hm
  refine aw_aload_n C 0 xd_C_lengthOf_0 rfl rfl ?_
  refine aw_iload_n C 1 xd_C_lengthOf_1 rfl rfl ?_
  obtain ⟨q_2, e_2, hm⟩ := aw_bnd hm
  refine aw_callVi (As := [.int a1]) (rest := []) (b := ad k0) C (xc_C_hasProcedure σ k0 a1 _ hk0 e_2) rfl (gw_sub (gw_V xg_C_hasProcedure ml_C_38 im_C_hasProcedure se_C_hasProcedure wi_C)) na_C_hasProcedure (rm_lt (by decide) (by decide)) ⟨Nat.zero_le _, Nat.zero_le _⟩ k0 (at_C hk0) rfl rfl (Nat.le_of_ble_eq_true rfl) xd_C_lengthOf_2 ?_
  refine aw_if_eq (tgt := 17) C xd_C_lengthOf_5 (by decide) (fun c_5 => ?_) (fun c_5 => ?_)
  · rw [if_pos c_5] at hm
    refine aw_iconst (v := (0 : Int32)) C xd_C_lengthOf_17 (by decide) ?_
    cases hm
    exact aw_iret C xd_C_lengthOf_18
  · rw [if_neg c_5] at hm
    refine aw_aload_n C 0 xd_C_lengthOf_8 rfl rfl ?_
    refine aw_get C k0 (kd_lt hk0) (ly_C hk0) rfl (fun w h => List.mem_cons_of_mem _ (xi_C w h)) 3 (by decide) rfl (List.mem_cons_of_mem _ fl_C_15) xd_C_lengthOf_9 ?_
    refine aw_iload_n C 1 xd_C_lengthOf_12 rfl rfl ?_
    obtain ⟨g_13, hm⟩ := aw_grd hm
    refine aw_iald C (k0 + 2) (kd_lt (kf_C_lengths hk0)) 0 (ly_A3 (kf_C_lengths hk0)) rfl (aw_in_ok g_13) xd_C_lengthOf_13 ?_
    refine aw_goto (tgt := 18) C xd_C_lengthOf_14 (by decide) ?_
    cases hm
    exact aw_iret C xd_C_lengthOf_18
def xq_C_size_7 (σ : aw_m)  : Nat → Nat → Int32 → Int32 → Option Int32
  | 0, _, _, _ => none
  | n + 1, j0, v1, v2 => (if σ j0 1 ≤ v2 then some v1 else if aw_in v2 3 = true then xq_C_size_7 σ n j0 (v1 + (σ (j0 + 2) (Int32.toNatClampNeg v2))) (v2 + (1 : Int32)) else none)
def xm_C_size (σ : aw_m) (k0 : Nat) : Option Int32 := xq_C_size_7 σ 64 k0 (σ k0 0) (0 : Int32)
set_option maxHeartbeats 4000000 in
set_option maxRecDepth 100000 in
theorem xl_C_size_7 (σ : aw_m)  {κ : aw_K} (q : Int32) (C : aw_X l D (ty_z ids) (zs_T ps) (rm_D (0)) xb_C_size 3 "ModuleShelf$Code" (xw_C_size :: gw_l) (some .int) (some (.int q)) (cw_w ad ids σ) κ) : ∀ (n : Nat) (j0 : Nat) (v1 : Int32) (v2 : Int32) (hj0 : kd_k j0 = 1), xq_C_size_7 σ n j0 v1 v2 = some q → aw_J κ 0 0 (cw_w ad ids σ) [(0, .ref (ad j0)), (1, .int v1), (2, .int v2)] 7 [] := by
  intro n
  induction n with
  | zero => intro j0 v1 v2 hj0 hm; cases hm
  | succ n ih =>
    intro j0 v1 v2 hj0 hm
    rw [xq_C_size_7] at hm
    refine aw_iload_n C 2 xd_C_size_7 rfl rfl ?_
    refine aw_aload_n C 0 xd_C_size_8 rfl rfl ?_
    refine aw_get C j0 (kd_lt hj0) (ly_C hj0) rfl (fun w h => List.mem_cons_of_mem _ (xi_C w h)) 1 (by decide) rfl (List.mem_cons_of_mem _ fl_C_31) xd_C_size_9 ?_
    refine aw_icmp_ge (tgt := 30) C xd_C_size_12 (by decide) (fun c_12 => ?_) (fun c_12 => ?_)
    · rw [if_pos c_12] at hm
      refine aw_iload_n C 1 xd_C_size_30 rfl rfl ?_
      cases hm
      exact aw_iret C xd_C_size_31
    · rw [if_neg c_12] at hm
      refine aw_iload_n C 1 xd_C_size_15 rfl rfl ?_
      refine aw_aload_n C 0 xd_C_size_16 rfl rfl ?_
      refine aw_get C j0 (kd_lt hj0) (ly_C hj0) rfl (fun w h => List.mem_cons_of_mem _ (xi_C w h)) 3 (by decide) rfl (List.mem_cons_of_mem _ fl_C_15) xd_C_size_17 ?_
      refine aw_iload_n C 2 xd_C_size_20 rfl rfl ?_
      obtain ⟨g_21, hm⟩ := aw_grd hm
      refine aw_iald C (j0 + 2) (kd_lt (kf_C_lengths hj0)) 0 (ly_A3 (kf_C_lengths hj0)) rfl (aw_in_ok g_21) xd_C_size_21 ?_
      refine aw_iadd C xd_C_size_22 ?_
      refine aw_istore_n (L' := [(1, .int (v1 + (σ (j0 + 2) (Int32.toNatClampNeg v2)))), (0, .ref (ad j0)), (2, .int v2)]) C xd_C_size_23 rfl (by decide) rfl ?_
      refine aw_iinc (j := 2) (v := v2 + (1 : Int32)) (L' := [(2, .int (v2 + (1 : Int32))), (1, .int (v1 + (σ (j0 + 2) (Int32.toNatClampNeg v2)))), (0, .ref (ad j0))]) C xd_C_size_24 rfl rfl (by decide) rfl ?_
      refine aw_goto (tgt := 7) C xd_C_size_27 (by decide) ?_
      refine aw_loc (L' := [(0, .ref (ad j0)), (1, .int (v1 + (σ (j0 + 2) (Int32.toNatClampNeg v2)))), (2, .int (v2 + (1 : Int32)))]) C [2, 1, 0] rfl ?_
      exact ih j0 (v1 + (σ (j0 + 2) (Int32.toNatClampNeg v2))) (v2 + (1 : Int32)) hj0 hm
set_option maxHeartbeats 4000000 in
set_option maxRecDepth 100000 in
theorem xc_C_size (σ : aw_m) (k0 : Nat) (q : Int32) (hk0 : kd_k k0 = 1) (hm : xm_C_size σ k0 = some q) : aw_M l D (ty_z ids) (zs_T ps) xy_C_size (xw_C_size :: gw_l) (rm_D (0)) [.ref (ad k0)] (cw_w ad ids σ) (some (.int q)) (cw_w ad ids σ) := by
  refine aw_intro (cc := xb_C_size) (n := 3) (ret := (some .int)) "ModuleShelf$Code" rfl (by decide) rfl (Nat.le_of_ble_eq_true rfl) ?_
  intro κ C
  unfold xm_C_size at hm
  refine aw_aload_n C 0 xd_C_size_0 rfl rfl ?_
  refine aw_get C k0 (kd_lt hk0) (ly_C hk0) rfl (fun w h => List.mem_cons_of_mem _ (xi_C w h)) 0 (by decide) rfl (List.mem_cons_of_mem _ fl_C_27) xd_C_size_1 ?_
  refine aw_istore_n (L' := [(1, .int (σ k0 0)), (0, .ref (ad k0))]) C xd_C_size_4 rfl (by decide) rfl ?_
  refine aw_iconst (v := (0 : Int32)) C xd_C_size_5 (by decide) ?_
  refine aw_istore_n (L' := [(2, .int (0 : Int32)), (1, .int (σ k0 0)), (0, .ref (ad k0))]) C xd_C_size_6 rfl (by decide) rfl ?_
  refine aw_loc (L' := [(0, .ref (ad k0)), (1, .int (σ k0 0)), (2, .int (0 : Int32))]) C [2, 1, 0] rfl ?_
  exact xl_C_size_7 σ _ C 64 k0 (σ k0 0) (0 : Int32) hk0 hm
def xq_C_hasInterfaceOf_26 (σ : aw_m)  : Nat → Nat → Nat → Int32 → Option Int32
  | 0, _, _, _ => none
  | n + 1, j0, j1, v2 => (if σ j0 1 ≤ v2 then some (1 : Int32) else if aw_in v2 3 = true then if aw_in v2 3 = true then (if σ (j0 + 1) (Int32.toNatClampNeg v2) = σ (j1 + 1) (Int32.toNatClampNeg v2) then xq_C_hasInterfaceOf_26 σ n j0 j1 (v2 + (1 : Int32)) else some (0 : Int32)) else none else none)
def xm_C_hasInterfaceOf (σ : aw_m) (k0 : Nat) (k1 : Nat) : Option Int32 := (if σ k0 0 = σ k1 0 then (if σ k0 1 = σ k1 1 then xq_C_hasInterfaceOf_26 σ 64 k0 k1 (0 : Int32) else some (0 : Int32)) else some (0 : Int32))
set_option maxHeartbeats 4000000 in
set_option maxRecDepth 100000 in
theorem xl_C_hasInterfaceOf_26 (σ : aw_m)  {κ : aw_K} (q : Int32) (C : aw_X l D (ty_z ids) (zs_T ps) (rm_D (0)) xb_C_hasInterfaceOf 3 "ModuleShelf$Code" (xw_C_hasInterfaceOf :: gw_l) (some .boolean) (some (.int q)) (cw_w ad ids σ) κ) : ∀ (n : Nat) (j0 : Nat) (j1 : Nat) (v2 : Int32) (hj0 : kd_k j0 = 1) (hj1 : kd_k j1 = 1), xq_C_hasInterfaceOf_26 σ n j0 j1 v2 = some q → aw_J κ 0 0 (cw_w ad ids σ) [(0, .ref (ad j0)), (1, .ref (ad j1)), (2, .int v2)] 26 [] := by
  intro n
  induction n with
  | zero => intro j0 j1 v2 hj0 hj1 hm; cases hm
  | succ n ih =>
    intro j0 j1 v2 hj0 hj1 hm
    rw [xq_C_hasInterfaceOf_26] at hm
    refine aw_iload_n C 2 xd_C_hasInterfaceOf_26 rfl rfl ?_
    refine aw_aload_n C 0 xd_C_hasInterfaceOf_27 rfl rfl ?_
    refine aw_get C j0 (kd_lt hj0) (ly_C hj0) rfl (fun w h => List.mem_cons_of_mem _ (xi_C w h)) 1 (by decide) rfl (List.mem_cons_of_mem _ fl_C_31) xd_C_hasInterfaceOf_28 ?_
    refine aw_icmp_ge (tgt := 57) C xd_C_hasInterfaceOf_31 (by decide) (fun c_31 => ?_) (fun c_31 => ?_)
    · rw [if_pos c_31] at hm
      refine aw_iconst (v := (1 : Int32)) C xd_C_hasInterfaceOf_57 (by decide) ?_
      cases hm
      exact aw_zret C (by decide) xd_C_hasInterfaceOf_58
    · rw [if_neg c_31] at hm
      refine aw_aload_n C 0 xd_C_hasInterfaceOf_34 rfl rfl ?_
      refine aw_get C j0 (kd_lt hj0) (ly_C hj0) rfl (fun w h => List.mem_cons_of_mem _ (xi_C w h)) 2 (by decide) rfl (List.mem_cons_of_mem _ fl_C_9) xd_C_hasInterfaceOf_35 ?_
      refine aw_iload_n C 2 xd_C_hasInterfaceOf_38 rfl rfl ?_
      obtain ⟨g_39, hm⟩ := aw_grd hm
      refine aw_iald C (j0 + 1) (kd_lt (kf_C_arguments hj0)) 0 (ly_A3 (kf_C_arguments hj0)) rfl (aw_in_ok g_39) xd_C_hasInterfaceOf_39 ?_
      refine aw_aload_n C 1 xd_C_hasInterfaceOf_40 rfl rfl ?_
      refine aw_get C j1 (kd_lt hj1) (ly_C hj1) rfl (fun w h => List.mem_cons_of_mem _ (xi_C w h)) 2 (by decide) rfl (List.mem_cons_of_mem _ fl_C_9) xd_C_hasInterfaceOf_41 ?_
      refine aw_iload_n C 2 xd_C_hasInterfaceOf_44 rfl rfl ?_
      obtain ⟨g_45, hm⟩ := aw_grd hm
      refine aw_iald C (j1 + 1) (kd_lt (kf_C_arguments hj1)) 0 (ly_A3 (kf_C_arguments hj1)) rfl (aw_in_ok g_45) xd_C_hasInterfaceOf_45 ?_
      refine aw_icmp_eq (tgt := 51) C xd_C_hasInterfaceOf_46 (by decide) (fun c_46 => ?_) (fun c_46 => ?_)
      · rw [if_pos c_46] at hm
        refine aw_iinc (j := 2) (v := v2 + (1 : Int32)) (L' := [(2, .int (v2 + (1 : Int32))), (0, .ref (ad j0)), (1, .ref (ad j1))]) C xd_C_hasInterfaceOf_51 rfl rfl (by decide) rfl ?_
        refine aw_goto (tgt := 26) C xd_C_hasInterfaceOf_54 (by decide) ?_
        refine aw_loc (L' := [(0, .ref (ad j0)), (1, .ref (ad j1)), (2, .int (v2 + (1 : Int32)))]) C [1, 2, 0] rfl ?_
        exact ih j0 j1 (v2 + (1 : Int32)) hj0 hj1 hm
      · rw [if_neg c_46] at hm
        refine aw_iconst (v := (0 : Int32)) C xd_C_hasInterfaceOf_49 (by decide) ?_
        cases hm
        exact aw_zret C (by decide) xd_C_hasInterfaceOf_50
set_option maxHeartbeats 4000000 in
set_option maxRecDepth 100000 in
theorem xc_C_hasInterfaceOf (σ : aw_m) (k0 : Nat) (k1 : Nat) (q : Int32) (hk0 : kd_k k0 = 1) (hk1 : kd_k k1 = 1) (hm : xm_C_hasInterfaceOf σ k0 k1 = some q) : aw_M l D (ty_z ids) (zs_T ps) xy_C_hasInterfaceOf (xw_C_hasInterfaceOf :: gw_l) (rm_D (0)) [.ref (ad k0), .ref (ad k1)] (cw_w ad ids σ) (some (.int q)) (cw_w ad ids σ) := by
  refine aw_intro (cc := xb_C_hasInterfaceOf) (n := 3) (ret := (some .boolean)) "ModuleShelf$Code" rfl (by decide) rfl (Nat.le_of_ble_eq_true rfl) ?_
  intro κ C
  unfold xm_C_hasInterfaceOf at hm
  refine aw_aload_n C 0 xd_C_hasInterfaceOf_0 rfl rfl ?_
  refine aw_get C k0 (kd_lt hk0) (ly_C hk0) rfl (fun w h => List.mem_cons_of_mem _ (xi_C w h)) 0 (by decide) rfl (List.mem_cons_of_mem _ fl_C_27) xd_C_hasInterfaceOf_1 ?_
  refine aw_aload_n C 1 xd_C_hasInterfaceOf_4 rfl rfl ?_
  refine aw_get C k1 (kd_lt hk1) (ly_C hk1) rfl (fun w h => List.mem_cons_of_mem _ (xi_C w h)) 0 (by decide) rfl (List.mem_cons_of_mem _ fl_C_27) xd_C_hasInterfaceOf_5 ?_
  refine aw_icmp_ne (tgt := 22) C xd_C_hasInterfaceOf_8 (by decide) (fun c_8 => ?_) (fun c_8 => ?_)
  · rw [if_neg c_8] at hm
    refine aw_iconst (v := (0 : Int32)) C xd_C_hasInterfaceOf_22 (by decide) ?_
    cases hm
    exact aw_zret C (by decide) xd_C_hasInterfaceOf_23
  · rw [if_pos c_8] at hm
    refine aw_aload_n C 0 xd_C_hasInterfaceOf_11 rfl rfl ?_
    refine aw_get C k0 (kd_lt hk0) (ly_C hk0) rfl (fun w h => List.mem_cons_of_mem _ (xi_C w h)) 1 (by decide) rfl (List.mem_cons_of_mem _ fl_C_31) xd_C_hasInterfaceOf_12 ?_
    refine aw_aload_n C 1 xd_C_hasInterfaceOf_15 rfl rfl ?_
    refine aw_get C k1 (kd_lt hk1) (ly_C hk1) rfl (fun w h => List.mem_cons_of_mem _ (xi_C w h)) 1 (by decide) rfl (List.mem_cons_of_mem _ fl_C_31) xd_C_hasInterfaceOf_16 ?_
    refine aw_icmp_eq (tgt := 24) C xd_C_hasInterfaceOf_19 (by decide) (fun c_19 => ?_) (fun c_19 => ?_)
    · rw [if_pos c_19] at hm
      refine aw_iconst (v := (0 : Int32)) C xd_C_hasInterfaceOf_24 (by decide) ?_
      refine aw_istore_n (L' := [(2, .int (0 : Int32)), (0, .ref (ad k0)), (1, .ref (ad k1))]) C xd_C_hasInterfaceOf_25 rfl (by decide) rfl ?_
      refine aw_loc (L' := [(0, .ref (ad k0)), (1, .ref (ad k1)), (2, .int (0 : Int32))]) C [1, 2, 0] rfl ?_
      exact xl_C_hasInterfaceOf_26 σ _ C 64 k0 k1 (0 : Int32) hk0 hk1 hm
    · rw [if_neg c_19] at hm
      refine aw_iconst (v := (0 : Int32)) C xd_C_hasInterfaceOf_22 (by decide) ?_
      cases hm
      exact aw_zret C (by decide) xd_C_hasInterfaceOf_23
def xm_C_copyFrom (σ : aw_m) (k0 : Nat) (k1 : Nat) : Option aw_m := aw_l (aw_p σ k0 0 (σ k1 0)) fun s_5 => aw_l (aw_p s_5 k0 1 (s_5 k1 1)) fun s_13 => aw_l (aw_c s_13 (k1 + 1) (k0 + 1) 0 0 3) fun s_31 => aw_l (aw_c s_31 (k1 + 2) (k0 + 2) 0 0 3) fun s_49 => aw_l (aw_c s_49 (k1 + 3) (k0 + 3) 0 0 42) fun s_67 => aw_l (aw_c s_67 (k1 + 4) (k0 + 4) 0 0 42) fun s_85 => aw_l (aw_c s_85 (k1 + 5) (k0 + 5) 0 0 42) fun s_103 => some s_103
set_option maxHeartbeats 4000000 in
set_option maxRecDepth 100000 in
theorem xc_C_copyFrom (σ : aw_m) (k0 : Nat) (k1 : Nat) (q : aw_m) (hk0 : kd_k k0 = 1) (hk1 : kd_k k1 = 1) (hm : xm_C_copyFrom σ k0 k1 = some q) : aw_M l D (ty_z ids) (zs_T ps) xy_C_copyFrom (xw_C_copyFrom :: gw_l) (rm_D (1)) [.ref (ad k0), .ref (ad k1)] (cw_w ad ids σ) none (cw_w ad ids q) := by
  refine aw_intro (cc := xb_C_copyFrom) (n := 2) (ret := none) "ModuleShelf$Code" rfl (by decide) rfl (Nat.le_of_ble_eq_true rfl) ?_
  intro κ C
  unfold xm_C_copyFrom at hm
  refine aw_aload_n C 0 xd_C_copyFrom_0 rfl rfl ?_
  refine aw_aload_n C 1 xd_C_copyFrom_1 rfl rfl ?_
  refine aw_get C k1 (kd_lt hk1) (ly_C hk1) rfl (fun w h => List.mem_cons_of_mem _ (xi_C w h)) 0 (by decide) rfl (List.mem_cons_of_mem _ fl_C_27) xd_C_copyFrom_2 ?_
  obtain ⟨s_5, h_5, hm⟩ := aw_let hm
  refine aw_put (σ1 := s_5) (f := upd (σ k0) 0 (σ k1 0)) C k0 (kd_lt hk0) (ly_C hk0) rfl (fun w h => List.mem_cons_of_mem _ (xi_C w h)) xk_C xo_C xn_C 0 (by decide) (List.mem_cons_of_mem _ fl_C_27) rfl (ty := .int) (by decide +kernel) rfl rfl (Nat.le_of_ble_eq_true rfl) (ly_C hk0) h_5 xd_C_copyFrom_5 ?_
  refine aw_aload_n C 0 xd_C_copyFrom_8 rfl rfl ?_
  refine aw_aload_n C 1 xd_C_copyFrom_9 rfl rfl ?_
  refine aw_get C k1 (kd_lt hk1) (ly_C hk1) rfl (fun w h => List.mem_cons_of_mem _ (xi_C w h)) 1 (by decide) rfl (List.mem_cons_of_mem _ fl_C_31) xd_C_copyFrom_10 ?_
  obtain ⟨s_13, h_13, hm⟩ := aw_let hm
  refine aw_put (σ1 := s_13) (f := upd (s_5 k0) 1 (s_5 k1 1)) C k0 (kd_lt hk0) (ly_C hk0) rfl (fun w h => List.mem_cons_of_mem _ (xi_C w h)) xk_C xo_C xn_C 1 (by decide) (List.mem_cons_of_mem _ fl_C_31) rfl (ty := .int) (by decide +kernel) rfl rfl (Nat.le_of_ble_eq_true rfl) (ly_C hk0) h_13 xd_C_copyFrom_13 ?_
  refine aw_aload_n C 1 xd_C_copyFrom_16 rfl rfl ?_
  refine aw_get C k1 (kd_lt hk1) (ly_C hk1) rfl (fun w h => List.mem_cons_of_mem _ (xi_C w h)) 2 (by decide) rfl (List.mem_cons_of_mem _ fl_C_9) xd_C_copyFrom_17 ?_
  refine aw_iconst (v := (0 : Int32)) C xd_C_copyFrom_20 (by decide) ?_
  refine aw_aload_n C 0 xd_C_copyFrom_21 rfl rfl ?_
  refine aw_get C k0 (kd_lt hk0) (ly_C hk0) rfl (fun w h => List.mem_cons_of_mem _ (xi_C w h)) 2 (by decide) rfl (List.mem_cons_of_mem _ fl_C_9) xd_C_copyFrom_22 ?_
  refine aw_iconst (v := (0 : Int32)) C xd_C_copyFrom_25 (by decide) ?_
  refine aw_aload_n C 0 xd_C_copyFrom_26 rfl rfl ?_
  refine aw_get C k0 (kd_lt hk0) (ly_C hk0) rfl (fun w h => List.mem_cons_of_mem _ (xi_C w h)) 2 (by decide) rfl (List.mem_cons_of_mem _ fl_C_9) xd_C_copyFrom_27 ?_
  refine aw_alen (v := (3 : Int32)) C (k0 + 1) (kd_lt (kf_C_arguments hk0)) 0 (ly_A3 (kf_C_arguments hk0)) rfl rfl xd_C_copyFrom_30 ?_
  obtain ⟨s_31, h_31, hm⟩ := aw_let hm
  refine aw_copy (σ1 := s_31) (h := va_cpy (s_13 (k1 + 1)) (s_13 (k0 + 1)) 0 0 3) C (k1 + 1) (k0 + 1) (kd_lt (kf_C_arguments hk1)) (kd_lt (kf_C_arguments hk0)) 0 (ly_A3 (kf_C_arguments hk1)) (ly_A3 (kf_C_arguments hk0)) rfl (List.mem_cons_of_mem _ ml_C_42) (List.mem_cons_of_mem _ wn_copy) (List.mem_cons_of_mem _ ws_copy) (List.mem_cons_of_mem _ wi_sys) (by decide) (by decide) (by decide) (by decide) (by decide) (by decide) (by decide) (ly_A3 (kf_C_arguments hk0)) h_31 xd_C_copyFrom_31 ?_
  refine aw_aload_n C 1 xd_C_copyFrom_34 rfl rfl ?_
  refine aw_get C k1 (kd_lt hk1) (ly_C hk1) rfl (fun w h => List.mem_cons_of_mem _ (xi_C w h)) 3 (by decide) rfl (List.mem_cons_of_mem _ fl_C_15) xd_C_copyFrom_35 ?_
  refine aw_iconst (v := (0 : Int32)) C xd_C_copyFrom_38 (by decide) ?_
  refine aw_aload_n C 0 xd_C_copyFrom_39 rfl rfl ?_
  refine aw_get C k0 (kd_lt hk0) (ly_C hk0) rfl (fun w h => List.mem_cons_of_mem _ (xi_C w h)) 3 (by decide) rfl (List.mem_cons_of_mem _ fl_C_15) xd_C_copyFrom_40 ?_
  refine aw_iconst (v := (0 : Int32)) C xd_C_copyFrom_43 (by decide) ?_
  refine aw_aload_n C 0 xd_C_copyFrom_44 rfl rfl ?_
  refine aw_get C k0 (kd_lt hk0) (ly_C hk0) rfl (fun w h => List.mem_cons_of_mem _ (xi_C w h)) 3 (by decide) rfl (List.mem_cons_of_mem _ fl_C_15) xd_C_copyFrom_45 ?_
  refine aw_alen (v := (3 : Int32)) C (k0 + 2) (kd_lt (kf_C_lengths hk0)) 0 (ly_A3 (kf_C_lengths hk0)) rfl rfl xd_C_copyFrom_48 ?_
  obtain ⟨s_49, h_49, hm⟩ := aw_let hm
  refine aw_copy (σ1 := s_49) (h := va_cpy (s_31 (k1 + 2)) (s_31 (k0 + 2)) 0 0 3) C (k1 + 2) (k0 + 2) (kd_lt (kf_C_lengths hk1)) (kd_lt (kf_C_lengths hk0)) 0 (ly_A3 (kf_C_lengths hk1)) (ly_A3 (kf_C_lengths hk0)) rfl (List.mem_cons_of_mem _ ml_C_42) (List.mem_cons_of_mem _ wn_copy) (List.mem_cons_of_mem _ ws_copy) (List.mem_cons_of_mem _ wi_sys) (by decide) (by decide) (by decide) (by decide) (by decide) (by decide) (by decide) (ly_A3 (kf_C_lengths hk0)) h_49 xd_C_copyFrom_49 ?_
  refine aw_aload_n C 1 xd_C_copyFrom_52 rfl rfl ?_
  refine aw_get C k1 (kd_lt hk1) (ly_C hk1) rfl (fun w h => List.mem_cons_of_mem _ (xi_C w h)) 4 (by decide) rfl (List.mem_cons_of_mem _ fl_C_18) xd_C_copyFrom_53 ?_
  refine aw_iconst (v := (0 : Int32)) C xd_C_copyFrom_56 (by decide) ?_
  refine aw_aload_n C 0 xd_C_copyFrom_57 rfl rfl ?_
  refine aw_get C k0 (kd_lt hk0) (ly_C hk0) rfl (fun w h => List.mem_cons_of_mem _ (xi_C w h)) 4 (by decide) rfl (List.mem_cons_of_mem _ fl_C_18) xd_C_copyFrom_58 ?_
  refine aw_iconst (v := (0 : Int32)) C xd_C_copyFrom_61 (by decide) ?_
  refine aw_aload_n C 0 xd_C_copyFrom_62 rfl rfl ?_
  refine aw_get C k0 (kd_lt hk0) (ly_C hk0) rfl (fun w h => List.mem_cons_of_mem _ (xi_C w h)) 4 (by decide) rfl (List.mem_cons_of_mem _ fl_C_18) xd_C_copyFrom_63 ?_
  refine aw_alen (v := (42 : Int32)) C (k0 + 3) (kd_lt (kf_C_ops hk0)) 0 (ly_A42 (kf_C_ops hk0)) rfl rfl xd_C_copyFrom_66 ?_
  obtain ⟨s_67, h_67, hm⟩ := aw_let hm
  refine aw_copy (σ1 := s_67) (h := va_cpy (s_49 (k1 + 3)) (s_49 (k0 + 3)) 0 0 42) C (k1 + 3) (k0 + 3) (kd_lt (kf_C_ops hk1)) (kd_lt (kf_C_ops hk0)) 0 (ly_A42 (kf_C_ops hk1)) (ly_A42 (kf_C_ops hk0)) rfl (List.mem_cons_of_mem _ ml_C_42) (List.mem_cons_of_mem _ wn_copy) (List.mem_cons_of_mem _ ws_copy) (List.mem_cons_of_mem _ wi_sys) (by decide) (by decide) (by decide) (by decide) (by decide) (by decide) (by decide) (ly_A42 (kf_C_ops hk0)) h_67 xd_C_copyFrom_67 ?_
  refine aw_aload_n C 1 xd_C_copyFrom_70 rfl rfl ?_
  refine aw_get C k1 (kd_lt hk1) (ly_C hk1) rfl (fun w h => List.mem_cons_of_mem _ (xi_C w h)) 5 (by decide) rfl (List.mem_cons_of_mem _ fl_C_21) xd_C_copyFrom_71 ?_
  refine aw_iconst (v := (0 : Int32)) C xd_C_copyFrom_74 (by decide) ?_
  refine aw_aload_n C 0 xd_C_copyFrom_75 rfl rfl ?_
  refine aw_get C k0 (kd_lt hk0) (ly_C hk0) rfl (fun w h => List.mem_cons_of_mem _ (xi_C w h)) 5 (by decide) rfl (List.mem_cons_of_mem _ fl_C_21) xd_C_copyFrom_76 ?_
  refine aw_iconst (v := (0 : Int32)) C xd_C_copyFrom_79 (by decide) ?_
  refine aw_aload_n C 0 xd_C_copyFrom_80 rfl rfl ?_
  refine aw_get C k0 (kd_lt hk0) (ly_C hk0) rfl (fun w h => List.mem_cons_of_mem _ (xi_C w h)) 5 (by decide) rfl (List.mem_cons_of_mem _ fl_C_21) xd_C_copyFrom_81 ?_
  refine aw_alen (v := (42 : Int32)) C (k0 + 4) (kd_lt (kf_C_as hk0)) 0 (ly_A42 (kf_C_as hk0)) rfl rfl xd_C_copyFrom_84 ?_
  obtain ⟨s_85, h_85, hm⟩ := aw_let hm
  refine aw_copy (σ1 := s_85) (h := va_cpy (s_67 (k1 + 4)) (s_67 (k0 + 4)) 0 0 42) C (k1 + 4) (k0 + 4) (kd_lt (kf_C_as hk1)) (kd_lt (kf_C_as hk0)) 0 (ly_A42 (kf_C_as hk1)) (ly_A42 (kf_C_as hk0)) rfl (List.mem_cons_of_mem _ ml_C_42) (List.mem_cons_of_mem _ wn_copy) (List.mem_cons_of_mem _ ws_copy) (List.mem_cons_of_mem _ wi_sys) (by decide) (by decide) (by decide) (by decide) (by decide) (by decide) (by decide) (ly_A42 (kf_C_as hk0)) h_85 xd_C_copyFrom_85 ?_
  refine aw_aload_n C 1 xd_C_copyFrom_88 rfl rfl ?_
  refine aw_get C k1 (kd_lt hk1) (ly_C hk1) rfl (fun w h => List.mem_cons_of_mem _ (xi_C w h)) 6 (by decide) rfl (List.mem_cons_of_mem _ fl_C_24) xd_C_copyFrom_89 ?_
  refine aw_iconst (v := (0 : Int32)) C xd_C_copyFrom_92 (by decide) ?_
  refine aw_aload_n C 0 xd_C_copyFrom_93 rfl rfl ?_
  refine aw_get C k0 (kd_lt hk0) (ly_C hk0) rfl (fun w h => List.mem_cons_of_mem _ (xi_C w h)) 6 (by decide) rfl (List.mem_cons_of_mem _ fl_C_24) xd_C_copyFrom_94 ?_
  refine aw_iconst (v := (0 : Int32)) C xd_C_copyFrom_97 (by decide) ?_
  refine aw_aload_n C 0 xd_C_copyFrom_98 rfl rfl ?_
  refine aw_get C k0 (kd_lt hk0) (ly_C hk0) rfl (fun w h => List.mem_cons_of_mem _ (xi_C w h)) 6 (by decide) rfl (List.mem_cons_of_mem _ fl_C_24) xd_C_copyFrom_99 ?_
  refine aw_alen (v := (42 : Int32)) C (k0 + 5) (kd_lt (kf_C_bs hk0)) 0 (ly_A42 (kf_C_bs hk0)) rfl rfl xd_C_copyFrom_102 ?_
  obtain ⟨s_103, h_103, hm⟩ := aw_let hm
  refine aw_copy (σ1 := s_103) (h := va_cpy (s_85 (k1 + 5)) (s_85 (k0 + 5)) 0 0 42) C (k1 + 5) (k0 + 5) (kd_lt (kf_C_bs hk1)) (kd_lt (kf_C_bs hk0)) 0 (ly_A42 (kf_C_bs hk1)) (ly_A42 (kf_C_bs hk0)) rfl (List.mem_cons_of_mem _ ml_C_42) (List.mem_cons_of_mem _ wn_copy) (List.mem_cons_of_mem _ ws_copy) (List.mem_cons_of_mem _ wi_sys) (by decide) (by decide) (by decide) (by decide) (by decide) (by decide) (by decide) (ly_A42 (kf_C_bs hk0)) h_103 xd_C_copyFrom_103 ?_
  cases hm
  exact aw_vret C xd_C_copyFrom_106
end
end
section
theorem xd_A_fill_0 : decode xb_A_fill 0 = .ok (.iconst 0, 1) := by decide +kernel
theorem xd_A_fill_1 : decode xb_A_fill 1 = .ok (.istore_n 2, 1) := by decide +kernel
theorem xd_A_fill_2 : decode xb_A_fill 2 = .ok (.aload_n 0, 1) := by decide +kernel
theorem xd_A_fill_3 : decode xb_A_fill 3 = .ok (.arraylength, 1) := by decide +kernel
theorem xd_A_fill_4 : decode xb_A_fill 4 = .ok (.istore_n 3, 1) := by decide +kernel
theorem xd_A_fill_5 : decode xb_A_fill 5 = .ok (.iload_n 2, 1) := by decide +kernel
theorem xd_A_fill_6 : decode xb_A_fill 6 = .ok (.iload_n 3, 1) := by decide +kernel
theorem xd_A_fill_7 : decode xb_A_fill 7 = .ok (.if_icmp .ge 13, 3) := by decide +kernel
theorem xd_A_fill_10 : decode xb_A_fill 10 = .ok (.aload_n 0, 1) := by decide +kernel
theorem xd_A_fill_11 : decode xb_A_fill 11 = .ok (.iload_n 2, 1) := by decide +kernel
theorem xd_A_fill_12 : decode xb_A_fill 12 = .ok (.iload_n 1, 1) := by decide +kernel
theorem xd_A_fill_13 : decode xb_A_fill 13 = .ok (.iastore, 1) := by decide +kernel
theorem xd_A_fill_14 : decode xb_A_fill 14 = .ok (.iinc 2 1, 3) := by decide +kernel
theorem xd_A_fill_17 : decode xb_A_fill 17 = .ok (.goto (-12), 3) := by decide +kernel
theorem xd_A_fill_20 : decode xb_A_fill 20 = .ok (.return_, 1) := by decide +kernel
theorem xd_F_open_0 : decode xb_F_open 0 = .ok (.aload_n 0, 1) := by decide +kernel
theorem xd_F_open_1 : decode xb_F_open 1 = .ok (.iload_n 1, 1) := by decide +kernel
theorem xd_F_open_2 : decode xb_F_open 2 = .ok (.putfield 7, 3) := by decide +kernel
theorem xd_F_open_5 : decode xb_F_open 5 = .ok (.aload_n 0, 1) := by decide +kernel
theorem xd_F_open_6 : decode xb_F_open 6 = .ok (.iload_n 2, 1) := by decide +kernel
theorem xd_F_open_7 : decode xb_F_open 7 = .ok (.putfield 13, 3) := by decide +kernel
theorem xd_F_open_10 : decode xb_F_open 10 = .ok (.aload_n 0, 1) := by decide +kernel
theorem xd_F_open_11 : decode xb_F_open 11 = .ok (.iload_n 3, 1) := by decide +kernel
theorem xd_F_open_12 : decode xb_F_open 12 = .ok (.putfield 16, 3) := by decide +kernel
theorem xd_F_open_15 : decode xb_F_open 15 = .ok (.aload_n 0, 1) := by decide +kernel
theorem xd_F_open_16 : decode xb_F_open 16 = .ok (.iload 4, 2) := by decide +kernel
theorem xd_F_open_18 : decode xb_F_open 18 = .ok (.putfield 19, 3) := by decide +kernel
theorem xd_F_open_21 : decode xb_F_open 21 = .ok (.aload_n 0, 1) := by decide +kernel
theorem xd_F_open_22 : decode xb_F_open 22 = .ok (.iconst 0, 1) := by decide +kernel
theorem xd_F_open_23 : decode xb_F_open 23 = .ok (.putfield 22, 3) := by decide +kernel
theorem xd_F_open_26 : decode xb_F_open 26 = .ok (.return_, 1) := by decide +kernel
theorem xd_U_hasImport_0 : decode xb_U_hasImport 0 = .ok (.iconst 0, 1) := by decide +kernel
theorem xd_U_hasImport_1 : decode xb_U_hasImport 1 = .ok (.istore_n 2, 1) := by decide +kernel
theorem xd_U_hasImport_2 : decode xb_U_hasImport 2 = .ok (.iload_n 2, 1) := by decide +kernel
theorem xd_U_hasImport_3 : decode xb_U_hasImport 3 = .ok (.aload_n 0, 1) := by decide +kernel
theorem xd_U_hasImport_4 : decode xb_U_hasImport 4 = .ok (.getfield 25, 3) := by decide +kernel
theorem xd_U_hasImport_7 : decode xb_U_hasImport 7 = .ok (.if_icmp .ge 21, 3) := by decide +kernel
theorem xd_U_hasImport_10 : decode xb_U_hasImport 10 = .ok (.aload_n 0, 1) := by decide +kernel
theorem xd_U_hasImport_11 : decode xb_U_hasImport 11 = .ok (.getfield 9, 3) := by decide +kernel
theorem xd_U_hasImport_14 : decode xb_U_hasImport 14 = .ok (.iload_n 2, 1) := by decide +kernel
theorem xd_U_hasImport_15 : decode xb_U_hasImport 15 = .ok (.iaload, 1) := by decide +kernel
theorem xd_U_hasImport_16 : decode xb_U_hasImport 16 = .ok (.iload_n 1, 1) := by decide +kernel
theorem xd_U_hasImport_17 : decode xb_U_hasImport 17 = .ok (.if_icmp .ne 5, 3) := by decide +kernel
theorem xd_U_hasImport_20 : decode xb_U_hasImport 20 = .ok (.iconst 1, 1) := by decide +kernel
theorem xd_U_hasImport_21 : decode xb_U_hasImport 21 = .ok (.ireturn, 1) := by decide +kernel
theorem xd_U_hasImport_22 : decode xb_U_hasImport 22 = .ok (.iinc 2 1, 3) := by decide +kernel
theorem xd_U_hasImport_25 : decode xb_U_hasImport 25 = .ok (.goto (-23), 3) := by decide +kernel
theorem xd_U_hasImport_28 : decode xb_U_hasImport 28 = .ok (.iconst 0, 1) := by decide +kernel
theorem xd_U_hasImport_29 : decode xb_U_hasImport 29 = .ok (.ireturn, 1) := by decide +kernel
theorem xd_U_addImport_0 : decode xb_U_addImport 0 = .ok (.aload_n 0, 1) := by decide +kernel
theorem xd_U_addImport_1 : decode xb_U_addImport 1 = .ok (.getfield 25, 3) := by decide +kernel
theorem xd_U_addImport_4 : decode xb_U_addImport 4 = .ok (.bipush 6, 2) := by decide +kernel
theorem xd_U_addImport_6 : decode xb_U_addImport 6 = .ok (.if_icmp .ge 41, 3) := by decide +kernel
theorem xd_U_addImport_9 : decode xb_U_addImport 9 = .ok (.aload_n 0, 1) := by decide +kernel
theorem xd_U_addImport_10 : decode xb_U_addImport 10 = .ok (.iload_n 1, 1) := by decide +kernel
theorem xd_U_addImport_11 : decode xb_U_addImport 11 = .ok (.invokevirtual 29, 3) := by decide +kernel
theorem xd_U_addImport_14 : decode xb_U_addImport 14 = .ok (.ifCond .ne 33, 3) := by decide +kernel
theorem xd_U_addImport_17 : decode xb_U_addImport 17 = .ok (.aload_n 0, 1) := by decide +kernel
theorem xd_U_addImport_18 : decode xb_U_addImport 18 = .ok (.getfield 9, 3) := by decide +kernel
theorem xd_U_addImport_21 : decode xb_U_addImport 21 = .ok (.aload_n 0, 1) := by decide +kernel
theorem xd_U_addImport_22 : decode xb_U_addImport 22 = .ok (.getfield 25, 3) := by decide +kernel
theorem xd_U_addImport_25 : decode xb_U_addImport 25 = .ok (.iload_n 1, 1) := by decide +kernel
theorem xd_U_addImport_26 : decode xb_U_addImport 26 = .ok (.iastore, 1) := by decide +kernel
theorem xd_U_addImport_27 : decode xb_U_addImport 27 = .ok (.aload_n 0, 1) := by decide +kernel
theorem xd_U_addImport_28 : decode xb_U_addImport 28 = .ok (.getfield 15, 3) := by decide +kernel
theorem xd_U_addImport_31 : decode xb_U_addImport 31 = .ok (.aload_n 0, 1) := by decide +kernel
theorem xd_U_addImport_32 : decode xb_U_addImport 32 = .ok (.getfield 25, 3) := by decide +kernel
theorem xd_U_addImport_35 : decode xb_U_addImport 35 = .ok (.iload_n 2, 1) := by decide +kernel
theorem xd_U_addImport_36 : decode xb_U_addImport 36 = .ok (.iastore, 1) := by decide +kernel
theorem xd_U_addImport_37 : decode xb_U_addImport 37 = .ok (.aload_n 0, 1) := by decide +kernel
theorem xd_U_addImport_38 : decode xb_U_addImport 38 = .ok (.dup, 1) := by decide +kernel
theorem xd_U_addImport_39 : decode xb_U_addImport 39 = .ok (.getfield 25, 3) := by decide +kernel
theorem xd_U_addImport_42 : decode xb_U_addImport 42 = .ok (.iconst 1, 1) := by decide +kernel
theorem xd_U_addImport_43 : decode xb_U_addImport 43 = .ok (.iadd, 1) := by decide +kernel
theorem xd_U_addImport_44 : decode xb_U_addImport 44 = .ok (.putfield 25, 3) := by decide +kernel
theorem xd_U_addImport_47 : decode xb_U_addImport 47 = .ok (.return_, 1) := by decide +kernel
theorem xd_U_copyFrom_0 : decode xb_U_copyFrom 0 = .ok (.aload_n 0, 1) := by decide +kernel
theorem xd_U_copyFrom_1 : decode xb_U_copyFrom 1 = .ok (.aload_n 1, 1) := by decide +kernel
theorem xd_U_copyFrom_2 : decode xb_U_copyFrom 2 = .ok (.getfield 33, 3) := by decide +kernel
theorem xd_U_copyFrom_5 : decode xb_U_copyFrom 5 = .ok (.putfield 33, 3) := by decide +kernel
theorem xd_U_copyFrom_8 : decode xb_U_copyFrom 8 = .ok (.aload_n 0, 1) := by decide +kernel
theorem xd_U_copyFrom_9 : decode xb_U_copyFrom 9 = .ok (.aload_n 1, 1) := by decide +kernel
theorem xd_U_copyFrom_10 : decode xb_U_copyFrom 10 = .ok (.getfield 37, 3) := by decide +kernel
theorem xd_U_copyFrom_13 : decode xb_U_copyFrom 13 = .ok (.putfield 37, 3) := by decide +kernel
theorem xd_U_copyFrom_16 : decode xb_U_copyFrom 16 = .ok (.aload_n 0, 1) := by decide +kernel
theorem xd_U_copyFrom_17 : decode xb_U_copyFrom 17 = .ok (.aload_n 1, 1) := by decide +kernel
theorem xd_U_copyFrom_18 : decode xb_U_copyFrom 18 = .ok (.getfield 25, 3) := by decide +kernel
theorem xd_U_copyFrom_21 : decode xb_U_copyFrom 21 = .ok (.putfield 25, 3) := by decide +kernel
theorem xd_U_copyFrom_24 : decode xb_U_copyFrom 24 = .ok (.aload_n 1, 1) := by decide +kernel
theorem xd_U_copyFrom_25 : decode xb_U_copyFrom 25 = .ok (.getfield 9, 3) := by decide +kernel
theorem xd_U_copyFrom_28 : decode xb_U_copyFrom 28 = .ok (.iconst 0, 1) := by decide +kernel
theorem xd_U_copyFrom_29 : decode xb_U_copyFrom 29 = .ok (.aload_n 0, 1) := by decide +kernel
theorem xd_U_copyFrom_30 : decode xb_U_copyFrom 30 = .ok (.getfield 9, 3) := by decide +kernel
theorem xd_U_copyFrom_33 : decode xb_U_copyFrom 33 = .ok (.iconst 0, 1) := by decide +kernel
theorem xd_U_copyFrom_34 : decode xb_U_copyFrom 34 = .ok (.bipush 6, 2) := by decide +kernel
theorem xd_U_copyFrom_36 : decode xb_U_copyFrom 36 = .ok (.invokestatic 40, 3) := by decide +kernel
theorem xd_U_copyFrom_39 : decode xb_U_copyFrom 39 = .ok (.aload_n 1, 1) := by decide +kernel
theorem xd_U_copyFrom_40 : decode xb_U_copyFrom 40 = .ok (.getfield 15, 3) := by decide +kernel
theorem xd_U_copyFrom_43 : decode xb_U_copyFrom 43 = .ok (.iconst 0, 1) := by decide +kernel
theorem xd_U_copyFrom_44 : decode xb_U_copyFrom 44 = .ok (.aload_n 0, 1) := by decide +kernel
theorem xd_U_copyFrom_45 : decode xb_U_copyFrom 45 = .ok (.getfield 15, 3) := by decide +kernel
theorem xd_U_copyFrom_48 : decode xb_U_copyFrom 48 = .ok (.iconst 0, 1) := by decide +kernel
theorem xd_U_copyFrom_49 : decode xb_U_copyFrom 49 = .ok (.bipush 6, 2) := by decide +kernel
theorem xd_U_copyFrom_51 : decode xb_U_copyFrom 51 = .ok (.invokestatic 40, 3) := by decide +kernel
theorem xd_U_copyFrom_54 : decode xb_U_copyFrom 54 = .ok (.aload_n 0, 1) := by decide +kernel
theorem xd_U_copyFrom_55 : decode xb_U_copyFrom 55 = .ok (.getfield 21, 3) := by decide +kernel
theorem xd_U_copyFrom_58 : decode xb_U_copyFrom 58 = .ok (.aload_n 1, 1) := by decide +kernel
theorem xd_U_copyFrom_59 : decode xb_U_copyFrom 59 = .ok (.getfield 21, 3) := by decide +kernel
theorem xd_U_copyFrom_62 : decode xb_U_copyFrom 62 = .ok (.invokevirtual 46, 3) := by decide +kernel
theorem xd_U_copyFrom_65 : decode xb_U_copyFrom 65 = .ok (.return_, 1) := by decide +kernel
theorem xd_I_fill_0 : decode xb_I_fill 0 = .ok (.aload_n 0, 1) := by decide +kernel
theorem xd_I_fill_1 : decode xb_I_fill 1 = .ok (.getfield 12, 3) := by decide +kernel
theorem xd_I_fill_4 : decode xb_I_fill 4 = .ok (.aload_n 1, 1) := by decide +kernel
theorem xd_I_fill_5 : decode xb_I_fill 5 = .ok (.invokevirtual 22, 3) := by decide +kernel
theorem xd_I_fill_8 : decode xb_I_fill 8 = .ok (.aload_n 0, 1) := by decide +kernel
theorem xd_I_fill_9 : decode xb_I_fill 9 = .ok (.getfield 18, 3) := by decide +kernel
theorem xd_I_fill_12 : decode xb_I_fill 12 = .ok (.iconst 0, 1) := by decide +kernel
theorem xd_I_fill_13 : decode xb_I_fill 13 = .ok (.invokestatic 26, 3) := by decide +kernel
theorem xd_I_fill_16 : decode xb_I_fill 16 = .ok (.return_, 1) := by decide +kernel
theorem xd_S_isModule_0 : decode xb_S_isModule 0 = .ok (.iload_n 0, 1) := by decide +kernel
theorem xd_S_isModule_1 : decode xb_S_isModule 1 = .ok (.ifCond .lt 13, 3) := by decide +kernel
theorem xd_S_isModule_4 : decode xb_S_isModule 4 = .ok (.iload_n 0, 1) := by decide +kernel
theorem xd_S_isModule_5 : decode xb_S_isModule 5 = .ok (.bipush 6, 2) := by decide +kernel
theorem xd_S_isModule_7 : decode xb_S_isModule 7 = .ok (.if_icmp .ge 7, 3) := by decide +kernel
theorem xd_S_isModule_10 : decode xb_S_isModule 10 = .ok (.iconst 1, 1) := by decide +kernel
theorem xd_S_isModule_11 : decode xb_S_isModule 11 = .ok (.goto 4, 3) := by decide +kernel
theorem xd_S_isModule_14 : decode xb_S_isModule 14 = .ok (.iconst 0, 1) := by decide +kernel
theorem xd_S_isModule_15 : decode xb_S_isModule 15 = .ok (.ireturn, 1) := by decide +kernel
section
variable {l : Launch} {D : va_G} {ad : Nat → Nat} {ids : Nat → ClassId} {ps : Nat}
def xq_A_fill_5  : Nat → aw_m → Nat → Int32 → Int32 → Int32 → Option aw_m
  | 0, _, _, _, _, _ => none
  | n + 1, σ, j0, v1, v2, v3 => (if v3 ≤ v2 then some σ else if aw_in v2 3 = true then aw_l (aw_p σ j0 (Int32.toNatClampNeg v2) v1) fun s_13 => xq_A_fill_5 n s_13 j0 v1 (v2 + (1 : Int32)) v3 else none)
def xm_A_fill (σ : aw_m) (k0 : Nat) (a1 : Int32) : Option aw_m := xq_A_fill_5 64 σ k0 a1 (0 : Int32) (3 : Int32)
set_option maxHeartbeats 4000000 in
set_option maxRecDepth 100000 in
theorem xl_A_fill_5  {κ : aw_K} (q : aw_m) (C : aw_X l D (ty_z ids) (zs_T ps) (rm_D (0)) xb_A_fill 4 "java/util/Arrays" (xw_A_fill :: gw_l) none none (cw_w ad ids q) κ) : ∀ (n : Nat) (σ : aw_m) (j0 : Nat) (v1 : Int32) (v2 : Int32) (v3 : Int32) (hj0 : kd_k j0 = 2), xq_A_fill_5 n σ j0 v1 v2 v3 = some q → aw_J κ 0 0 (cw_w ad ids σ) [(0, .ref (ad j0)), (1, .int v1), (2, .int v2), (3, .int v3)] 5 [] := by
  intro n
  induction n with
  | zero => intro σ j0 v1 v2 v3 hj0 hm; cases hm
  | succ n ih =>
    intro σ j0 v1 v2 v3 hj0 hm
    rw [xq_A_fill_5] at hm
    refine aw_iload_n C 2 xd_A_fill_5 rfl rfl ?_
    refine aw_iload_n C 3 xd_A_fill_6 rfl rfl ?_
    refine aw_icmp_ge (tgt := 20) C xd_A_fill_7 (by decide) (fun c_7 => ?_) (fun c_7 => ?_)
    · rw [if_pos c_7] at hm
      cases hm
      exact aw_vret C xd_A_fill_20
    · rw [if_neg c_7] at hm
      refine aw_aload_n C 0 xd_A_fill_10 rfl rfl ?_
      refine aw_iload_n C 2 xd_A_fill_11 rfl rfl ?_
      refine aw_iload_n C 1 xd_A_fill_12 rfl rfl ?_
      obtain ⟨g_13, hm⟩ := aw_grd hm
      obtain ⟨s_13, h_13, hm⟩ := aw_let hm
      refine aw_iast (σ1 := s_13) (g := upd (σ j0) (Int32.toNatClampNeg v2) v1) C j0 (kd_lt hj0) 0 (ly_A3 hj0) rfl (aw_in_ok g_13) (ly_A3 hj0) h_13 xd_A_fill_13 ?_
      refine aw_iinc (j := 2) (v := v2 + (1 : Int32)) (L' := [(2, .int (v2 + (1 : Int32))), (0, .ref (ad j0)), (1, .int v1), (3, .int v3)]) C xd_A_fill_14 rfl rfl (by decide) rfl ?_
      refine aw_goto (tgt := 5) C xd_A_fill_17 (by decide) ?_
      refine aw_loc (L' := [(0, .ref (ad j0)), (1, .int v1), (2, .int (v2 + (1 : Int32))), (3, .int v3)]) C [1, 2, 0, 3] rfl ?_
      exact ih s_13 j0 v1 (v2 + (1 : Int32)) v3 hj0 hm
set_option maxHeartbeats 4000000 in
set_option maxRecDepth 100000 in
theorem xc_A_fill (σ : aw_m) (k0 : Nat) (a1 : Int32) (q : aw_m) (hk0 : kd_k k0 = 2) (hm : xm_A_fill σ k0 a1 = some q) : aw_M l D (ty_z ids) (zs_T ps) xy_A_fill (xw_A_fill :: gw_l) (rm_D (0)) [.ref (ad k0), .int a1] (cw_w ad ids σ) none (cw_w ad ids q) := by
  refine aw_intro (cc := xb_A_fill) (n := 4) (ret := none) "java/util/Arrays" rfl (by decide) rfl (Nat.le_of_ble_eq_true rfl) ?_
  intro κ C
  unfold xm_A_fill at hm
  refine aw_iconst (v := (0 : Int32)) C xd_A_fill_0 (by decide) ?_
  refine aw_istore_n (L' := [(2, .int (0 : Int32)), (0, .ref (ad k0)), (1, .int a1)]) C xd_A_fill_1 rfl (by decide) rfl ?_
  refine aw_aload_n C 1 xd_A_fill_2 rfl rfl ?_
  refine aw_alen (v := (3 : Int32)) C k0 (kd_lt hk0) 0 (ly_A3 hk0) rfl rfl xd_A_fill_3 ?_
  refine aw_istore_n (L' := [(3, .int (3 : Int32)), (2, .int (0 : Int32)), (0, .ref (ad k0)), (1, .int a1)]) C xd_A_fill_4 rfl (by decide) rfl ?_
  refine aw_loc (L' := [(0, .ref (ad k0)), (1, .int a1), (2, .int (0 : Int32)), (3, .int (3 : Int32))]) C [2, 3, 1, 0] rfl ?_
  exact xl_A_fill_5 _ C 64 σ k0 a1 (0 : Int32) (3 : Int32) hk0 hm
def xm_F_open (σ : aw_m) (k0 : Nat) (a1 : Int32) (a2 : Int32) (a3 : Int32) (a4 : Int32) : Option aw_m := aw_l (aw_p σ k0 0 a1) fun s_2 => aw_l (aw_p s_2 k0 1 a2) fun s_7 => aw_l (aw_p s_7 k0 2 a3) fun s_12 => aw_l (aw_p s_12 k0 3 a4) fun s_18 => aw_l (aw_p s_18 k0 4 (0 : Int32)) fun s_23 => some s_23
set_option maxHeartbeats 4000000 in
set_option maxRecDepth 100000 in
theorem xc_F_open (σ : aw_m) (k0 : Nat) (a1 : Int32) (a2 : Int32) (a3 : Int32) (a4 : Int32) (q : aw_m) (hk0 : kd_k k0 = 14) (hm : xm_F_open σ k0 a1 a2 a3 a4 = some q) : aw_M l D (ty_z ids) (zs_T ps) xy_F_open (xw_F_open :: gw_l) (rm_D (0)) [.ref (ad k0), .int a1, .int a2, .int a3, .int a4] (cw_w ad ids σ) none (cw_w ad ids q) := by
  refine aw_intro (cc := xb_F_open) (n := 5) (ret := none) "ModuleShelf$Frame" rfl (by decide) rfl (Nat.le_of_ble_eq_true rfl) ?_
  intro κ C
  unfold xm_F_open at hm
  refine aw_aload_n C 0 xd_F_open_0 rfl rfl ?_
  refine aw_iload_n C 1 xd_F_open_1 rfl rfl ?_
  obtain ⟨s_2, h_2, hm⟩ := aw_let hm
  refine aw_put (σ1 := s_2) (f := upd (σ k0) 0 a1) C k0 (kd_lt hk0) (ly_F hk0) rfl (fun w h => List.mem_cons_of_mem _ (xi_F w h)) xk_F xo_F xn_F 0 (by decide) (List.mem_cons_of_mem _ fl_F_7) rfl (ty := .int) (by decide +kernel) rfl rfl (Nat.le_of_ble_eq_true rfl) (ly_F hk0) h_2 xd_F_open_2 ?_
  refine aw_aload_n C 0 xd_F_open_5 rfl rfl ?_
  refine aw_iload_n C 2 xd_F_open_6 rfl rfl ?_
  obtain ⟨s_7, h_7, hm⟩ := aw_let hm
  refine aw_put (σ1 := s_7) (f := upd (s_2 k0) 1 a2) C k0 (kd_lt hk0) (ly_F hk0) rfl (fun w h => List.mem_cons_of_mem _ (xi_F w h)) xk_F xo_F xn_F 1 (by decide) (List.mem_cons_of_mem _ fl_F_13) rfl (ty := .int) (by decide +kernel) rfl rfl (Nat.le_of_ble_eq_true rfl) (ly_F hk0) h_7 xd_F_open_7 ?_
  refine aw_aload_n C 0 xd_F_open_10 rfl rfl ?_
  refine aw_iload_n C 3 xd_F_open_11 rfl rfl ?_
  obtain ⟨s_12, h_12, hm⟩ := aw_let hm
  refine aw_put (σ1 := s_12) (f := upd (s_7 k0) 2 a3) C k0 (kd_lt hk0) (ly_F hk0) rfl (fun w h => List.mem_cons_of_mem _ (xi_F w h)) xk_F xo_F xn_F 2 (by decide) (List.mem_cons_of_mem _ fl_F_16) rfl (ty := .int) (by decide +kernel) rfl rfl (Nat.le_of_ble_eq_true rfl) (ly_F hk0) h_12 xd_F_open_12 ?_
  refine aw_aload_n C 0 xd_F_open_15 rfl rfl ?_
  refine aw_iload C 4 xd_F_open_16 rfl ?_
  obtain ⟨s_18, h_18, hm⟩ := aw_let hm
  refine aw_put (σ1 := s_18) (f := upd (s_12 k0) 3 a4) C k0 (kd_lt hk0) (ly_F hk0) rfl (fun w h => List.mem_cons_of_mem _ (xi_F w h)) xk_F xo_F xn_F 3 (by decide) (List.mem_cons_of_mem _ fl_F_19) rfl (ty := .int) (by decide +kernel) rfl rfl (Nat.le_of_ble_eq_true rfl) (ly_F hk0) h_18 xd_F_open_18 ?_
  refine aw_aload_n C 0 xd_F_open_21 rfl rfl ?_
  refine aw_iconst (v := (0 : Int32)) C xd_F_open_22 (by decide) ?_
  obtain ⟨s_23, h_23, hm⟩ := aw_let hm
  refine aw_put (σ1 := s_23) (f := upd (s_18 k0) 4 (0 : Int32)) C k0 (kd_lt hk0) (ly_F hk0) rfl (fun w h => List.mem_cons_of_mem _ (xi_F w h)) xk_F xo_F xn_F 4 (by decide) (List.mem_cons_of_mem _ fl_F_22) rfl (ty := .int) (by decide +kernel) rfl rfl (Nat.le_of_ble_eq_true rfl) (ly_F hk0) h_23 xd_F_open_23 ?_
  cases hm
  exact aw_vret C xd_F_open_26
def xq_U_hasImport_2 (σ : aw_m)  : Nat → Nat → Int32 → Int32 → Option Int32
  | 0, _, _, _ => none
  | n + 1, j0, v1, v2 => (if σ j0 2 ≤ v2 then some (0 : Int32) else if aw_in v2 6 = true then (if σ (j0 + 1) (Int32.toNatClampNeg v2) = v1 then some (1 : Int32) else xq_U_hasImport_2 σ n j0 v1 (v2 + (1 : Int32))) else none)
def xm_U_hasImport (σ : aw_m) (k0 : Nat) (a1 : Int32) : Option Int32 := xq_U_hasImport_2 σ 64 k0 a1 (0 : Int32)
set_option maxHeartbeats 4000000 in
set_option maxRecDepth 100000 in
theorem xl_U_hasImport_2 (σ : aw_m)  {κ : aw_K} (q : Int32) (C : aw_X l D (ty_z ids) (zs_T ps) (rm_D (0)) xb_U_hasImport 3 "ModuleShelf$Unit" (xw_U_hasImport :: gw_l) (some .boolean) (some (.int q)) (cw_w ad ids σ) κ) : ∀ (n : Nat) (j0 : Nat) (v1 : Int32) (v2 : Int32) (hj0 : kd_k j0 = 6), xq_U_hasImport_2 σ n j0 v1 v2 = some q → aw_J κ 0 0 (cw_w ad ids σ) [(0, .ref (ad j0)), (1, .int v1), (2, .int v2)] 2 [] := by
  intro n
  induction n with
  | zero => intro j0 v1 v2 hj0 hm; cases hm
  | succ n ih =>
    intro j0 v1 v2 hj0 hm
    rw [xq_U_hasImport_2] at hm
    refine aw_iload_n C 2 xd_U_hasImport_2 rfl rfl ?_
    refine aw_aload_n C 0 xd_U_hasImport_3 rfl rfl ?_
    refine aw_get C j0 (kd_lt hj0) (ly_U hj0) rfl (fun w h => List.mem_cons_of_mem _ (xi_U w h)) 2 (by decide) rfl (List.mem_cons_of_mem _ fl_U_25) xd_U_hasImport_4 ?_
    refine aw_icmp_ge (tgt := 28) C xd_U_hasImport_7 (by decide) (fun c_7 => ?_) (fun c_7 => ?_)
    · rw [if_pos c_7] at hm
      refine aw_iconst (v := (0 : Int32)) C xd_U_hasImport_28 (by decide) ?_
      cases hm
      exact aw_zret C (by decide) xd_U_hasImport_29
    · rw [if_neg c_7] at hm
      refine aw_aload_n C 0 xd_U_hasImport_10 rfl rfl ?_
      refine aw_get C j0 (kd_lt hj0) (ly_U hj0) rfl (fun w h => List.mem_cons_of_mem _ (xi_U w h)) 3 (by decide) rfl (List.mem_cons_of_mem _ fl_U_9) xd_U_hasImport_11 ?_
      refine aw_iload_n C 2 xd_U_hasImport_14 rfl rfl ?_
      obtain ⟨g_15, hm⟩ := aw_grd hm
      refine aw_iald C (j0 + 1) (kd_lt (kf_U_importModules hj0)) 0 (ly_A6 (kf_U_importModules hj0)) rfl (aw_in_ok g_15) xd_U_hasImport_15 ?_
      refine aw_iload_n C 1 xd_U_hasImport_16 rfl rfl ?_
      refine aw_icmp_ne (tgt := 22) C xd_U_hasImport_17 (by decide) (fun c_17 => ?_) (fun c_17 => ?_)
      · rw [if_neg c_17] at hm
        refine aw_iinc (j := 2) (v := v2 + (1 : Int32)) (L' := [(2, .int (v2 + (1 : Int32))), (0, .ref (ad j0)), (1, .int v1)]) C xd_U_hasImport_22 rfl rfl (by decide) rfl ?_
        refine aw_goto (tgt := 2) C xd_U_hasImport_25 (by decide) ?_
        refine aw_loc (L' := [(0, .ref (ad j0)), (1, .int v1), (2, .int (v2 + (1 : Int32)))]) C [1, 2, 0] rfl ?_
        exact ih j0 v1 (v2 + (1 : Int32)) hj0 hm
      · rw [if_pos c_17] at hm
        refine aw_iconst (v := (1 : Int32)) C xd_U_hasImport_20 (by decide) ?_
        cases hm
        exact aw_zret C (by decide) xd_U_hasImport_21
set_option maxHeartbeats 4000000 in
set_option maxRecDepth 100000 in
theorem xc_U_hasImport (σ : aw_m) (k0 : Nat) (a1 : Int32) (q : Int32) (hk0 : kd_k k0 = 6) (hm : xm_U_hasImport σ k0 a1 = some q) : aw_M l D (ty_z ids) (zs_T ps) xy_U_hasImport (xw_U_hasImport :: gw_l) (rm_D (0)) [.ref (ad k0), .int a1] (cw_w ad ids σ) (some (.int q)) (cw_w ad ids σ) := by
  refine aw_intro (cc := xb_U_hasImport) (n := 3) (ret := (some .boolean)) "ModuleShelf$Unit" rfl (by decide) rfl (Nat.le_of_ble_eq_true rfl) ?_
  intro κ C
  unfold xm_U_hasImport at hm
  refine aw_iconst (v := (0 : Int32)) C xd_U_hasImport_0 (by decide) ?_
  refine aw_istore_n (L' := [(2, .int (0 : Int32)), (0, .ref (ad k0)), (1, .int a1)]) C xd_U_hasImport_1 rfl (by decide) rfl ?_
  refine aw_loc (L' := [(0, .ref (ad k0)), (1, .int a1), (2, .int (0 : Int32))]) C [1, 2, 0] rfl ?_
  exact xl_U_hasImport_2 σ _ C 64 k0 a1 (0 : Int32) hk0 hm
def xm_U_addImport (σ : aw_m) (k0 : Nat) (a1 : Int32) (a2 : Int32) : Option aw_m := (if (6 : Int32) ≤ σ k0 2 then some σ else (xm_U_hasImport σ k0 a1).bind fun q_11 => (if q_11 = 0 then if aw_in (σ k0 2) 6 = true then aw_l (aw_p σ (k0 + 1) (Int32.toNatClampNeg (σ k0 2)) a1) fun s_26 => if aw_in (s_26 k0 2) 6 = true then aw_l (aw_p s_26 (k0 + 2) (Int32.toNatClampNeg (s_26 k0 2)) a2) fun s_36 => aw_l (aw_p s_36 k0 2 ((s_36 k0 2) + (1 : Int32))) fun s_44 => some s_44 else none else none else some σ))
set_option maxHeartbeats 4000000 in
set_option maxRecDepth 100000 in
theorem xc_U_addImport (σ : aw_m) (k0 : Nat) (a1 : Int32) (a2 : Int32) (q : aw_m) (hk0 : kd_k k0 = 6) (hm : xm_U_addImport σ k0 a1 a2 = some q) : aw_M l D (ty_z ids) (zs_T ps) xy_U_addImport (xw_U_addImport :: gw_l) (rm_D (1)) [.ref (ad k0), .int a1, .int a2] (cw_w ad ids σ) none (cw_w ad ids q) := by
  refine aw_intro (cc := xb_U_addImport) (n := 3) (ret := none) "ModuleShelf$Unit" rfl (by decide) rfl (Nat.le_of_ble_eq_true rfl) ?_
  intro κ C
  unfold xm_U_addImport at hm
  refine aw_aload_n C 0 xd_U_addImport_0 rfl rfl ?_
  refine aw_get C k0 (kd_lt hk0) (ly_U hk0) rfl (fun w h => List.mem_cons_of_mem _ (xi_U w h)) 2 (by decide) rfl (List.mem_cons_of_mem _ fl_U_25) xd_U_addImport_1 ?_
  refine aw_bipush (v := (6 : Int32)) C xd_U_addImport_4 (by decide) ?_
  refine aw_icmp_ge (tgt := 47) C xd_U_addImport_6 (by decide) (fun c_6 => ?_) (fun c_6 => ?_)
  · rw [if_pos c_6] at hm
    cases hm
    exact aw_vret C xd_U_addImport_47
  · rw [if_neg c_6] at hm
    refine aw_aload_n C 0 xd_U_addImport_9 rfl rfl ?_
    refine aw_iload_n C 1 xd_U_addImport_10 rfl rfl ?_
    obtain ⟨q_11, e_11, hm⟩ := aw_bnd hm
    refine aw_callVi (As := [.int a1]) (rest := []) (b := ad k0) C (xc_U_hasImport σ k0 a1 _ hk0 e_11) rfl (gw_sub (gw_V xg_U_hasImport ml_U_29 im_U_hasImport se_U_hasImport wi_U)) na_U_hasImport (rm_lt (by decide) (by decide)) ⟨Nat.zero_le _, Nat.zero_le _⟩ k0 (at_U hk0) rfl rfl (Nat.le_of_ble_eq_true rfl) xd_U_addImport_11 ?_
    refine aw_if_ne (tgt := 47) C xd_U_addImport_14 (by decide) (fun c_14 => ?_) (fun c_14 => ?_)
    · rw [if_neg c_14] at hm
      cases hm
      exact aw_vret C xd_U_addImport_47
    · rw [if_pos c_14] at hm
      refine aw_aload_n C 0 xd_U_addImport_17 rfl rfl ?_
      refine aw_get C k0 (kd_lt hk0) (ly_U hk0) rfl (fun w h => List.mem_cons_of_mem _ (xi_U w h)) 3 (by decide) rfl (List.mem_cons_of_mem _ fl_U_9) xd_U_addImport_18 ?_
      refine aw_aload_n C 0 xd_U_addImport_21 rfl rfl ?_
      refine aw_get C k0 (kd_lt hk0) (ly_U hk0) rfl (fun w h => List.mem_cons_of_mem _ (xi_U w h)) 2 (by decide) rfl (List.mem_cons_of_mem _ fl_U_25) xd_U_addImport_22 ?_
      refine aw_iload_n C 1 xd_U_addImport_25 rfl rfl ?_
      obtain ⟨g_26, hm⟩ := aw_grd hm
      obtain ⟨s_26, h_26, hm⟩ := aw_let hm
      refine aw_iast (σ1 := s_26) (g := upd (σ (k0 + 1)) (Int32.toNatClampNeg (σ k0 2)) a1) C (k0 + 1) (kd_lt (kf_U_importModules hk0)) 0 (ly_A6 (kf_U_importModules hk0)) rfl (aw_in_ok g_26) (ly_A6 (kf_U_importModules hk0)) h_26 xd_U_addImport_26 ?_
      refine aw_aload_n C 0 xd_U_addImport_27 rfl rfl ?_
      refine aw_get C k0 (kd_lt hk0) (ly_U hk0) rfl (fun w h => List.mem_cons_of_mem _ (xi_U w h)) 4 (by decide) rfl (List.mem_cons_of_mem _ fl_U_15) xd_U_addImport_28 ?_
      refine aw_aload_n C 0 xd_U_addImport_31 rfl rfl ?_
      refine aw_get C k0 (kd_lt hk0) (ly_U hk0) rfl (fun w h => List.mem_cons_of_mem _ (xi_U w h)) 2 (by decide) rfl (List.mem_cons_of_mem _ fl_U_25) xd_U_addImport_32 ?_
      refine aw_iload_n C 2 xd_U_addImport_35 rfl rfl ?_
      obtain ⟨g_36, hm⟩ := aw_grd hm
      obtain ⟨s_36, h_36, hm⟩ := aw_let hm
      refine aw_iast (σ1 := s_36) (g := upd (s_26 (k0 + 2)) (Int32.toNatClampNeg (s_26 k0 2)) a2) C (k0 + 2) (kd_lt (kf_U_importKeys hk0)) 0 (ly_A6 (kf_U_importKeys hk0)) rfl (aw_in_ok g_36) (ly_A6 (kf_U_importKeys hk0)) h_36 xd_U_addImport_36 ?_
      refine aw_aload_n C 0 xd_U_addImport_37 rfl rfl ?_
      refine aw_dup C xd_U_addImport_38 rfl ?_
      refine aw_get C k0 (kd_lt hk0) (ly_U hk0) rfl (fun w h => List.mem_cons_of_mem _ (xi_U w h)) 2 (by decide) rfl (List.mem_cons_of_mem _ fl_U_25) xd_U_addImport_39 ?_
      refine aw_iconst (v := (1 : Int32)) C xd_U_addImport_42 (by decide) ?_
      refine aw_iadd C xd_U_addImport_43 ?_
      obtain ⟨s_44, h_44, hm⟩ := aw_let hm
      refine aw_put (σ1 := s_44) (f := upd (s_36 k0) 2 ((s_36 k0 2) + (1 : Int32))) C k0 (kd_lt hk0) (ly_U hk0) rfl (fun w h => List.mem_cons_of_mem _ (xi_U w h)) xk_U xo_U xn_U 2 (by decide) (List.mem_cons_of_mem _ fl_U_25) rfl (ty := .int) (by decide +kernel) rfl rfl (Nat.le_of_ble_eq_true rfl) (ly_U hk0) h_44 xd_U_addImport_44 ?_
      cases hm
      exact aw_vret C xd_U_addImport_47
def xm_U_copyFrom (σ : aw_m) (k0 : Nat) (k1 : Nat) : Option aw_m := if σ k1 0 = 0 ∨ σ k1 0 = 1 then aw_l (aw_p σ k0 0 (σ k1 0)) fun s_5 => aw_l (aw_p s_5 k0 1 (s_5 k1 1)) fun s_13 => aw_l (aw_p s_13 k0 2 (s_13 k1 2)) fun s_21 => aw_l (aw_c s_21 (k1 + 1) (k0 + 1) 0 0 6) fun s_36 => aw_l (aw_c s_36 (k1 + 2) (k0 + 2) 0 0 6) fun s_51 => (xm_C_copyFrom s_51 (k0 + 3) (k1 + 3)).bind fun q_62 => some q_62 else none
set_option maxHeartbeats 4000000 in
set_option maxRecDepth 100000 in
theorem xc_U_copyFrom (σ : aw_m) (k0 : Nat) (k1 : Nat) (q : aw_m) (hk0 : kd_k k0 = 6) (hk1 : kd_k k1 = 6) (hm : xm_U_copyFrom σ k0 k1 = some q) : aw_M l D (ty_z ids) (zs_T ps) xy_U_copyFrom (xw_U_copyFrom :: gw_l) (rm_D (2)) [.ref (ad k0), .ref (ad k1)] (cw_w ad ids σ) none (cw_w ad ids q) := by
  refine aw_intro (cc := xb_U_copyFrom) (n := 2) (ret := none) "ModuleShelf$Unit" rfl (by decide) rfl (Nat.le_of_ble_eq_true rfl) ?_
  intro κ C
  unfold xm_U_copyFrom at hm
  refine aw_aload_n C 0 xd_U_copyFrom_0 rfl rfl ?_
  refine aw_aload_n C 1 xd_U_copyFrom_1 rfl rfl ?_
  refine aw_get C k1 (kd_lt hk1) (ly_U hk1) rfl (fun w h => List.mem_cons_of_mem _ (xi_U w h)) 0 (by decide) rfl (List.mem_cons_of_mem _ fl_U_33) xd_U_copyFrom_2 ?_
  obtain ⟨g_5, hm⟩ := aw_grd hm
  obtain ⟨s_5, h_5, hm⟩ := aw_let hm
  refine aw_put (σ1 := s_5) (f := upd (σ k0) 0 (σ k1 0)) C k0 (kd_lt hk0) (ly_U hk0) rfl (fun w h => List.mem_cons_of_mem _ (xi_U w h)) xk_U xo_U xn_U 0 (by decide) (List.mem_cons_of_mem _ fl_U_33) rfl (ty := .boolean) (by decide +kernel) (by rcases g_5 with g | g <;> rw [g] <;> rfl) (by rcases g_5 with g | g <;> rw [g] <;> rfl) (Nat.le_of_ble_eq_true rfl) (ly_U hk0) h_5 xd_U_copyFrom_5 ?_
  refine aw_aload_n C 0 xd_U_copyFrom_8 rfl rfl ?_
  refine aw_aload_n C 1 xd_U_copyFrom_9 rfl rfl ?_
  refine aw_get C k1 (kd_lt hk1) (ly_U hk1) rfl (fun w h => List.mem_cons_of_mem _ (xi_U w h)) 1 (by decide) rfl (List.mem_cons_of_mem _ fl_U_37) xd_U_copyFrom_10 ?_
  obtain ⟨s_13, h_13, hm⟩ := aw_let hm
  refine aw_put (σ1 := s_13) (f := upd (s_5 k0) 1 (s_5 k1 1)) C k0 (kd_lt hk0) (ly_U hk0) rfl (fun w h => List.mem_cons_of_mem _ (xi_U w h)) xk_U xo_U xn_U 1 (by decide) (List.mem_cons_of_mem _ fl_U_37) rfl (ty := .int) (by decide +kernel) rfl rfl (Nat.le_of_ble_eq_true rfl) (ly_U hk0) h_13 xd_U_copyFrom_13 ?_
  refine aw_aload_n C 0 xd_U_copyFrom_16 rfl rfl ?_
  refine aw_aload_n C 1 xd_U_copyFrom_17 rfl rfl ?_
  refine aw_get C k1 (kd_lt hk1) (ly_U hk1) rfl (fun w h => List.mem_cons_of_mem _ (xi_U w h)) 2 (by decide) rfl (List.mem_cons_of_mem _ fl_U_25) xd_U_copyFrom_18 ?_
  obtain ⟨s_21, h_21, hm⟩ := aw_let hm
  refine aw_put (σ1 := s_21) (f := upd (s_13 k0) 2 (s_13 k1 2)) C k0 (kd_lt hk0) (ly_U hk0) rfl (fun w h => List.mem_cons_of_mem _ (xi_U w h)) xk_U xo_U xn_U 2 (by decide) (List.mem_cons_of_mem _ fl_U_25) rfl (ty := .int) (by decide +kernel) rfl rfl (Nat.le_of_ble_eq_true rfl) (ly_U hk0) h_21 xd_U_copyFrom_21 ?_
  refine aw_aload_n C 1 xd_U_copyFrom_24 rfl rfl ?_
  refine aw_get C k1 (kd_lt hk1) (ly_U hk1) rfl (fun w h => List.mem_cons_of_mem _ (xi_U w h)) 3 (by decide) rfl (List.mem_cons_of_mem _ fl_U_9) xd_U_copyFrom_25 ?_
  refine aw_iconst (v := (0 : Int32)) C xd_U_copyFrom_28 (by decide) ?_
  refine aw_aload_n C 0 xd_U_copyFrom_29 rfl rfl ?_
  refine aw_get C k0 (kd_lt hk0) (ly_U hk0) rfl (fun w h => List.mem_cons_of_mem _ (xi_U w h)) 3 (by decide) rfl (List.mem_cons_of_mem _ fl_U_9) xd_U_copyFrom_30 ?_
  refine aw_iconst (v := (0 : Int32)) C xd_U_copyFrom_33 (by decide) ?_
  refine aw_bipush (v := (6 : Int32)) C xd_U_copyFrom_34 (by decide) ?_
  obtain ⟨s_36, h_36, hm⟩ := aw_let hm
  refine aw_copy (σ1 := s_36) (h := va_cpy (s_21 (k1 + 1)) (s_21 (k0 + 1)) 0 0 6) C (k1 + 1) (k0 + 1) (kd_lt (kf_U_importModules hk1)) (kd_lt (kf_U_importModules hk0)) 0 (ly_A6 (kf_U_importModules hk1)) (ly_A6 (kf_U_importModules hk0)) rfl (List.mem_cons_of_mem _ ml_U_40) (List.mem_cons_of_mem _ wn_copy) (List.mem_cons_of_mem _ ws_copy) (List.mem_cons_of_mem _ wi_sys) (by decide) (by decide) (by decide) (by decide) (by decide) (by decide) (by decide) (ly_A6 (kf_U_importModules hk0)) h_36 xd_U_copyFrom_36 ?_
  refine aw_aload_n C 1 xd_U_copyFrom_39 rfl rfl ?_
  refine aw_get C k1 (kd_lt hk1) (ly_U hk1) rfl (fun w h => List.mem_cons_of_mem _ (xi_U w h)) 4 (by decide) rfl (List.mem_cons_of_mem _ fl_U_15) xd_U_copyFrom_40 ?_
  refine aw_iconst (v := (0 : Int32)) C xd_U_copyFrom_43 (by decide) ?_
  refine aw_aload_n C 0 xd_U_copyFrom_44 rfl rfl ?_
  refine aw_get C k0 (kd_lt hk0) (ly_U hk0) rfl (fun w h => List.mem_cons_of_mem _ (xi_U w h)) 4 (by decide) rfl (List.mem_cons_of_mem _ fl_U_15) xd_U_copyFrom_45 ?_
  refine aw_iconst (v := (0 : Int32)) C xd_U_copyFrom_48 (by decide) ?_
  refine aw_bipush (v := (6 : Int32)) C xd_U_copyFrom_49 (by decide) ?_
  obtain ⟨s_51, h_51, hm⟩ := aw_let hm
  refine aw_copy (σ1 := s_51) (h := va_cpy (s_36 (k1 + 2)) (s_36 (k0 + 2)) 0 0 6) C (k1 + 2) (k0 + 2) (kd_lt (kf_U_importKeys hk1)) (kd_lt (kf_U_importKeys hk0)) 0 (ly_A6 (kf_U_importKeys hk1)) (ly_A6 (kf_U_importKeys hk0)) rfl (List.mem_cons_of_mem _ ml_U_40) (List.mem_cons_of_mem _ wn_copy) (List.mem_cons_of_mem _ ws_copy) (List.mem_cons_of_mem _ wi_sys) (by decide) (by decide) (by decide) (by decide) (by decide) (by decide) (by decide) (ly_A6 (kf_U_importKeys hk0)) h_51 xd_U_copyFrom_51 ?_
  refine aw_aload_n C 0 xd_U_copyFrom_54 rfl rfl ?_
  refine aw_get C k0 (kd_lt hk0) (ly_U hk0) rfl (fun w h => List.mem_cons_of_mem _ (xi_U w h)) 5 (by decide) rfl (List.mem_cons_of_mem _ fl_U_21) xd_U_copyFrom_55 ?_
  refine aw_aload_n C 1 xd_U_copyFrom_58 rfl rfl ?_
  refine aw_get C k1 (kd_lt hk1) (ly_U hk1) rfl (fun w h => List.mem_cons_of_mem _ (xi_U w h)) 5 (by decide) rfl (List.mem_cons_of_mem _ fl_U_21) xd_U_copyFrom_59 ?_
  obtain ⟨q_62, e_62, hm⟩ := aw_bnd hm
  refine aw_callVv (As := [.ref (ad (k1 + 3))]) (rest := []) (b := ad (k0 + 3)) C (xc_C_copyFrom s_51 (k0 + 3) (k1 + 3) _ (kf_U_code hk0) (kf_U_code hk1) e_62) rfl (gw_sub (gw_V xg_C_copyFrom ml_U_46 im_C_copyFrom se_C_copyFrom wi_C)) na_C_copyFrom (rm_lt (by decide) (by decide)) ⟨Nat.zero_le _, Nat.zero_le _⟩ (k0 + 3) (at_C (kf_U_code hk0)) rfl rfl (Nat.le_of_ble_eq_true rfl) xd_U_copyFrom_62 ?_
  cases hm
  exact aw_vret C xd_U_copyFrom_65
def xm_I_fill (σ : aw_m) (k0 : Nat) (k1 : Nat) : Option aw_m := (xm_U_copyFrom σ (k0 + 1) k1).bind fun q_5 => (xm_A_fill q_5 (k0 + 10) (0 : Int32)).bind fun q_13 => some q_13
set_option maxHeartbeats 4000000 in
set_option maxRecDepth 100000 in
theorem xc_I_fill (σ : aw_m) (k0 : Nat) (k1 : Nat) (q : aw_m) (hk0 : kd_k k0 = 11) (hk1 : kd_k k1 = 6) (hm : xm_I_fill σ k0 k1 = some q) : aw_M l D (ty_z ids) (zs_T ps) xy_I_fill (xw_I_fill :: gw_l) (rm_D (3)) [.ref (ad k0), .ref (ad k1)] (cw_w ad ids σ) none (cw_w ad ids q) := by
  refine aw_intro (cc := xb_I_fill) (n := 2) (ret := none) "ModuleShelf$Image" rfl (by decide) rfl (Nat.le_of_ble_eq_true rfl) ?_
  intro κ C
  unfold xm_I_fill at hm
  refine aw_aload_n C 0 xd_I_fill_0 rfl rfl ?_
  refine aw_get C k0 (kd_lt hk0) (ly_I hk0) rfl (fun w h => List.mem_cons_of_mem _ (xi_I w h)) 0 (by decide) rfl (List.mem_cons_of_mem _ fl_I_12) xd_I_fill_1 ?_
  refine aw_aload_n C 1 xd_I_fill_4 rfl rfl ?_
  obtain ⟨q_5, e_5, hm⟩ := aw_bnd hm
  refine aw_callVv (As := [.ref (ad k1)]) (rest := []) (b := ad (k0 + 1)) C (xc_U_copyFrom σ (k0 + 1) k1 _ (kf_I_unit hk0) hk1 e_5) rfl (gw_sub (gw_V xg_U_copyFrom ml_I_22 im_U_copyFrom se_U_copyFrom wi_U)) na_U_copyFrom (rm_lt (by decide) (by decide)) ⟨Nat.zero_le _, Nat.zero_le _⟩ (k0 + 1) (at_U (kf_I_unit hk0)) rfl rfl (Nat.le_of_ble_eq_true rfl) xd_I_fill_5 ?_
  refine aw_aload_n C 0 xd_I_fill_8 rfl rfl ?_
  refine aw_get C k0 (kd_lt hk0) (ly_I hk0) rfl (fun w h => List.mem_cons_of_mem _ (xi_I w h)) 1 (by decide) rfl (List.mem_cons_of_mem _ fl_I_18) xd_I_fill_9 ?_
  refine aw_iconst (v := (0 : Int32)) C xd_I_fill_12 (by decide) ?_
  obtain ⟨q_13, e_13, hm⟩ := aw_bnd hm
  refine aw_callSv (As := [.ref (ad (k0 + 10)), .int (0 : Int32)]) (rest := []) C (xc_A_fill q_5 (k0 + 10) (0 : Int32) _ (kf_I_values hk0) e_13) rfl (gw_sub (gw_S xg_A_fill ml_I_26 st_A_fill wi_A)) na_A_fill (rm_lt (by decide) (by decide)) ⟨Nat.zero_le _, Nat.zero_le _⟩ rfl (Nat.le_of_ble_eq_true rfl) xd_I_fill_13 ?_
  cases hm
  exact aw_vret C xd_I_fill_16
def xm_S_isModule (σ : aw_m) (a0 : Int32) : Option Int32 := (if a0 < 0 then some (0 : Int32) else (if (6 : Int32) ≤ a0 then some (0 : Int32) else some (1 : Int32)))
set_option maxHeartbeats 4000000 in
set_option maxRecDepth 100000 in
theorem xc_S_isModule (σ : aw_m) (a0 : Int32) (q : Int32)  (hm : xm_S_isModule σ a0 = some q) : aw_M l D (ty_z ids) (zs_T ps) xy_S_isModule (xw_S_isModule :: gw_l) (rm_D (0)) [.int a0] (cw_w ad ids σ) (some (.int q)) (cw_w ad ids σ) := by
  refine aw_intro (cc := xb_S_isModule) (n := 1) (ret := (some .boolean)) "ModuleShelf" rfl (by decide) rfl (Nat.le_of_ble_eq_true rfl) ?_
  intro κ C
  unfold xm_S_isModule at hm
  refine aw_iload_n C 0 xd_S_isModule_0 rfl rfl ?_
  refine aw_if_lt (tgt := 14) C xd_S_isModule_1 (by decide) (fun c_1 => ?_) (fun c_1 => ?_)
  · rw [if_pos c_1] at hm
    refine aw_iconst (v := (0 : Int32)) C xd_S_isModule_14 (by decide) ?_
    cases hm
    exact aw_zret C (by decide) xd_S_isModule_15
  · rw [if_neg c_1] at hm
    refine aw_iload_n C 0 xd_S_isModule_4 rfl rfl ?_
    refine aw_bipush (v := (6 : Int32)) C xd_S_isModule_5 (by decide) ?_
    refine aw_icmp_ge (tgt := 14) C xd_S_isModule_7 (by decide) (fun c_7 => ?_) (fun c_7 => ?_)
    · rw [if_pos c_7] at hm
      refine aw_iconst (v := (0 : Int32)) C xd_S_isModule_14 (by decide) ?_
      cases hm
      exact aw_zret C (by decide) xd_S_isModule_15
    · rw [if_neg c_7] at hm
      refine aw_iconst (v := (1 : Int32)) C xd_S_isModule_10 (by decide) ?_
      refine aw_goto (tgt := 15) C xd_S_isModule_11 (by decide) ?_
      cases hm
      exact aw_zret C (by decide) xd_S_isModule_15
end
end
section
theorem xd_L_has_0 : decode xb_L_has 0 = .ok (.iload_n 1, 1) := by decide +kernel
theorem xd_L_has_1 : decode xb_L_has 1 = .ok (.invokestatic 18, 3) := by decide +kernel
theorem xd_L_has_4 : decode xb_L_has 4 = .ok (.ifCond .eq 19, 3) := by decide +kernel
theorem xd_L_has_7 : decode xb_L_has 7 = .ok (.aload_n 0, 1) := by decide +kernel
theorem xd_L_has_8 : decode xb_L_has 8 = .ok (.getfield 11, 3) := by decide +kernel
theorem xd_L_has_11 : decode xb_L_has 11 = .ok (.iload_n 1, 1) := by decide +kernel
theorem xd_L_has_12 : decode xb_L_has 12 = .ok (.aaload, 1) := by decide +kernel
theorem xd_L_has_13 : decode xb_L_has 13 = .ok (.getfield 22, 3) := by decide +kernel
theorem xd_L_has_16 : decode xb_L_has 16 = .ok (.ifCond .eq 7, 3) := by decide +kernel
theorem xd_L_has_19 : decode xb_L_has 19 = .ok (.iconst 1, 1) := by decide +kernel
theorem xd_L_has_20 : decode xb_L_has 20 = .ok (.goto 4, 3) := by decide +kernel
theorem xd_L_has_23 : decode xb_L_has 23 = .ok (.iconst 0, 1) := by decide +kernel
theorem xd_L_has_24 : decode xb_L_has 24 = .ok (.ireturn, 1) := by decide +kernel
theorem xd_L_held_0 : decode xb_L_held 0 = .ok (.iconst 0, 1) := by decide +kernel
theorem xd_L_held_1 : decode xb_L_held 1 = .ok (.istore_n 1, 1) := by decide +kernel
theorem xd_L_held_2 : decode xb_L_held 2 = .ok (.iconst 0, 1) := by decide +kernel
theorem xd_L_held_3 : decode xb_L_held 3 = .ok (.istore_n 2, 1) := by decide +kernel
theorem xd_L_held_4 : decode xb_L_held 4 = .ok (.iload_n 2, 1) := by decide +kernel
theorem xd_L_held_5 : decode xb_L_held 5 = .ok (.bipush 6, 2) := by decide +kernel
theorem xd_L_held_7 : decode xb_L_held 7 = .ok (.if_icmp .ge 25, 3) := by decide +kernel
theorem xd_L_held_10 : decode xb_L_held 10 = .ok (.iload_n 1, 1) := by decide +kernel
theorem xd_L_held_11 : decode xb_L_held 11 = .ok (.aload_n 0, 1) := by decide +kernel
theorem xd_L_held_12 : decode xb_L_held 12 = .ok (.iload_n 2, 1) := by decide +kernel
theorem xd_L_held_13 : decode xb_L_held 13 = .ok (.invokevirtual 26, 3) := by decide +kernel
theorem xd_L_held_16 : decode xb_L_held 16 = .ok (.ifCond .eq 7, 3) := by decide +kernel
theorem xd_L_held_19 : decode xb_L_held 19 = .ok (.iconst 1, 1) := by decide +kernel
theorem xd_L_held_20 : decode xb_L_held 20 = .ok (.goto 4, 3) := by decide +kernel
theorem xd_L_held_23 : decode xb_L_held 23 = .ok (.iconst 0, 1) := by decide +kernel
theorem xd_L_held_24 : decode xb_L_held 24 = .ok (.iadd, 1) := by decide +kernel
theorem xd_L_held_25 : decode xb_L_held 25 = .ok (.istore_n 1, 1) := by decide +kernel
theorem xd_L_held_26 : decode xb_L_held 26 = .ok (.iinc 2 1, 3) := by decide +kernel
theorem xd_L_held_29 : decode xb_L_held 29 = .ok (.goto (-25), 3) := by decide +kernel
theorem xd_L_held_32 : decode xb_L_held 32 = .ok (.iload_n 1, 1) := by decide +kernel
theorem xd_L_held_33 : decode xb_L_held 33 = .ok (.ireturn, 1) := by decide +kernel
theorem xd_L_argumentsOf_0 : decode xb_L_argumentsOf 0 = .ok (.iload_n 3, 1) := by decide +kernel
theorem xd_L_argumentsOf_1 : decode xb_L_argumentsOf 1 = .ok (.iload_n 2, 1) := by decide +kernel
theorem xd_L_argumentsOf_2 : decode xb_L_argumentsOf 2 = .ok (.if_icmp .ne 10, 3) := by decide +kernel
theorem xd_L_argumentsOf_5 : decode xb_L_argumentsOf 5 = .ok (.aload_n 1, 1) := by decide +kernel
theorem xd_L_argumentsOf_6 : decode xb_L_argumentsOf 6 = .ok (.iload 4, 2) := by decide +kernel
theorem xd_L_argumentsOf_8 : decode xb_L_argumentsOf 8 = .ok (.invokevirtual 67, 3) := by decide +kernel
theorem xd_L_argumentsOf_11 : decode xb_L_argumentsOf 11 = .ok (.ireturn, 1) := by decide +kernel
theorem xd_L_argumentsOf_12 : decode xb_L_argumentsOf 12 = .ok (.aload_n 0, 1) := by decide +kernel
theorem xd_L_argumentsOf_13 : decode xb_L_argumentsOf 13 = .ok (.iload_n 3, 1) := by decide +kernel
theorem xd_L_argumentsOf_14 : decode xb_L_argumentsOf 14 = .ok (.invokevirtual 26, 3) := by decide +kernel
theorem xd_L_argumentsOf_17 : decode xb_L_argumentsOf 17 = .ok (.ifCond .eq 20, 3) := by decide +kernel
theorem xd_L_argumentsOf_20 : decode xb_L_argumentsOf 20 = .ok (.aload_n 0, 1) := by decide +kernel
theorem xd_L_argumentsOf_21 : decode xb_L_argumentsOf 21 = .ok (.getfield 11, 3) := by decide +kernel
theorem xd_L_argumentsOf_24 : decode xb_L_argumentsOf 24 = .ok (.iload_n 3, 1) := by decide +kernel
theorem xd_L_argumentsOf_25 : decode xb_L_argumentsOf 25 = .ok (.aaload, 1) := by decide +kernel
theorem xd_L_argumentsOf_26 : decode xb_L_argumentsOf 26 = .ok (.getfield 73, 3) := by decide +kernel
theorem xd_L_argumentsOf_29 : decode xb_L_argumentsOf 29 = .ok (.iload 4, 2) := by decide +kernel
theorem xd_L_argumentsOf_31 : decode xb_L_argumentsOf 31 = .ok (.invokevirtual 67, 3) := by decide +kernel
theorem xd_L_argumentsOf_34 : decode xb_L_argumentsOf 34 = .ok (.goto 4, 3) := by decide +kernel
theorem xd_L_argumentsOf_37 : decode xb_L_argumentsOf 37 = .ok (.iconst (-1), 1) := by decide +kernel
theorem xd_L_argumentsOf_38 : decode xb_L_argumentsOf 38 = .ok (.ireturn, 1) := by decide +kernel
theorem xd_L_partsOf_0 : decode xb_L_partsOf 0 = .ok (.aload_n 1, 1) := by decide +kernel
theorem xd_L_partsOf_1 : decode xb_L_partsOf 1 = .ok (.getfield 64, 3) := by decide +kernel
theorem xd_L_partsOf_4 : decode xb_L_partsOf 4 = .ok (.iload_n 3, 1) := by decide +kernel
theorem xd_L_partsOf_5 : decode xb_L_partsOf 5 = .ok (.iaload, 1) := by decide +kernel
theorem xd_L_partsOf_6 : decode xb_L_partsOf 6 = .ok (.istore 4, 2) := by decide +kernel
theorem xd_L_partsOf_8 : decode xb_L_partsOf 8 = .ok (.iload 4, 2) := by decide +kernel
theorem xd_L_partsOf_10 : decode xb_L_partsOf 10 = .ok (.bipush 11, 2) := by decide +kernel
theorem xd_L_partsOf_12 : decode xb_L_partsOf 12 = .ok (.if_icmp .ne 24, 3) := by decide +kernel
theorem xd_L_partsOf_15 : decode xb_L_partsOf 15 = .ok (.aload_n 0, 1) := by decide +kernel
theorem xd_L_partsOf_16 : decode xb_L_partsOf 16 = .ok (.aload_n 1, 1) := by decide +kernel
theorem xd_L_partsOf_17 : decode xb_L_partsOf 17 = .ok (.iload_n 2, 1) := by decide +kernel
theorem xd_L_partsOf_18 : decode xb_L_partsOf 18 = .ok (.aload_n 1, 1) := by decide +kernel
theorem xd_L_partsOf_19 : decode xb_L_partsOf 19 = .ok (.getfield 57, 3) := by decide +kernel
theorem xd_L_partsOf_22 : decode xb_L_partsOf 22 = .ok (.iload_n 3, 1) := by decide +kernel
theorem xd_L_partsOf_23 : decode xb_L_partsOf 23 = .ok (.iaload, 1) := by decide +kernel
theorem xd_L_partsOf_24 : decode xb_L_partsOf 24 = .ok (.aload_n 1, 1) := by decide +kernel
theorem xd_L_partsOf_25 : decode xb_L_partsOf 25 = .ok (.getfield 61, 3) := by decide +kernel
theorem xd_L_partsOf_28 : decode xb_L_partsOf 28 = .ok (.iload_n 3, 1) := by decide +kernel
theorem xd_L_partsOf_29 : decode xb_L_partsOf 29 = .ok (.iaload, 1) := by decide +kernel
theorem xd_L_partsOf_30 : decode xb_L_partsOf 30 = .ok (.invokevirtual 77, 3) := by decide +kernel
theorem xd_L_partsOf_33 : decode xb_L_partsOf 33 = .ok (.goto 9, 3) := by decide +kernel
theorem xd_L_partsOf_36 : decode xb_L_partsOf 36 = .ok (.getstatic 80, 3) := by decide +kernel
theorem xd_L_partsOf_39 : decode xb_L_partsOf 39 = .ok (.iload 4, 2) := by decide +kernel
theorem xd_L_partsOf_41 : decode xb_L_partsOf 41 = .ok (.iaload, 1) := by decide +kernel
theorem xd_L_partsOf_42 : decode xb_L_partsOf 42 = .ok (.ireturn, 1) := by decide +kernel
theorem xd_L_isRight_0 : decode xb_L_isRight 0 = .ok (.aload_n 1, 1) := by decide +kernel
theorem xd_L_isRight_1 : decode xb_L_isRight 1 = .ok (.getfield 57, 3) := by decide +kernel
theorem xd_L_isRight_4 : decode xb_L_isRight 4 = .ok (.iload 4, 2) := by decide +kernel
theorem xd_L_isRight_6 : decode xb_L_isRight 6 = .ok (.iaload, 1) := by decide +kernel
theorem xd_L_isRight_7 : decode xb_L_isRight 7 = .ok (.istore 5, 2) := by decide +kernel
theorem xd_L_isRight_9 : decode xb_L_isRight 9 = .ok (.aload_n 1, 1) := by decide +kernel
theorem xd_L_isRight_10 : decode xb_L_isRight 10 = .ok (.getfield 61, 3) := by decide +kernel
theorem xd_L_isRight_13 : decode xb_L_isRight 13 = .ok (.iload 4, 2) := by decide +kernel
theorem xd_L_isRight_15 : decode xb_L_isRight 15 = .ok (.iaload, 1) := by decide +kernel
theorem xd_L_isRight_16 : decode xb_L_isRight 16 = .ok (.istore 6, 2) := by decide +kernel
theorem xd_L_isRight_18 : decode xb_L_isRight 18 = .ok (.aload_n 1, 1) := by decide +kernel
theorem xd_L_isRight_19 : decode xb_L_isRight 19 = .ok (.getfield 64, 3) := by decide +kernel
theorem xd_L_isRight_22 : decode xb_L_isRight 22 = .ok (.iload 4, 2) := by decide +kernel
theorem xd_L_isRight_24 : decode xb_L_isRight 24 = .ok (.iaload, 1) := by decide +kernel
theorem xd_L_isRight_25 : decode xb_L_isRight 25 = .ok (.lookupswitch 139 #[(1, 43), (2, 64), (3, 112), (11, 119)], 43) := by decide +kernel
theorem xd_L_isRight_68 : decode xb_L_isRight 68 = .ok (.iload 5, 2) := by decide +kernel
theorem xd_L_isRight_70 : decode xb_L_isRight 70 = .ok (.ifCond .lt 17, 3) := by decide +kernel
theorem xd_L_isRight_73 : decode xb_L_isRight 73 = .ok (.iload 5, 2) := by decide +kernel
theorem xd_L_isRight_75 : decode xb_L_isRight 75 = .ok (.aload_n 1, 1) := by decide +kernel
theorem xd_L_isRight_76 : decode xb_L_isRight 76 = .ok (.iload_n 3, 1) := by decide +kernel
theorem xd_L_isRight_77 : decode xb_L_isRight 77 = .ok (.invokevirtual 67, 3) := by decide +kernel
theorem xd_L_isRight_80 : decode xb_L_isRight 80 = .ok (.if_icmp .ge 7, 3) := by decide +kernel
theorem xd_L_isRight_83 : decode xb_L_isRight 83 = .ok (.iconst 1, 1) := by decide +kernel
theorem xd_L_isRight_84 : decode xb_L_isRight 84 = .ok (.goto 4, 3) := by decide +kernel
theorem xd_L_isRight_87 : decode xb_L_isRight 87 = .ok (.iconst 0, 1) := by decide +kernel
theorem xd_L_isRight_88 : decode xb_L_isRight 88 = .ok (.ireturn, 1) := by decide +kernel
theorem xd_L_isRight_89 : decode xb_L_isRight 89 = .ok (.iload 5, 2) := by decide +kernel
theorem xd_L_isRight_91 : decode xb_L_isRight 91 = .ok (.iload_n 2, 1) := by decide +kernel
theorem xd_L_isRight_92 : decode xb_L_isRight 92 = .ok (.if_icmp .ne 12, 3) := by decide +kernel
theorem xd_L_isRight_95 : decode xb_L_isRight 95 = .ok (.aload_n 1, 1) := by decide +kernel
theorem xd_L_isRight_96 : decode xb_L_isRight 96 = .ok (.iload 6, 2) := by decide +kernel
theorem xd_L_isRight_98 : decode xb_L_isRight 98 = .ok (.invokevirtual 70, 3) := by decide +kernel
theorem xd_L_isRight_101 : decode xb_L_isRight 101 = .ok (.goto 35, 3) := by decide +kernel
theorem xd_L_isRight_104 : decode xb_L_isRight 104 = .ok (.aload_n 0, 1) := by decide +kernel
theorem xd_L_isRight_105 : decode xb_L_isRight 105 = .ok (.iload 5, 2) := by decide +kernel
theorem xd_L_isRight_107 : decode xb_L_isRight 107 = .ok (.invokevirtual 26, 3) := by decide +kernel
theorem xd_L_isRight_110 : decode xb_L_isRight 110 = .ok (.ifCond .eq 25, 3) := by decide +kernel
theorem xd_L_isRight_113 : decode xb_L_isRight 113 = .ok (.aload_n 0, 1) := by decide +kernel
theorem xd_L_isRight_114 : decode xb_L_isRight 114 = .ok (.getfield 11, 3) := by decide +kernel
theorem xd_L_isRight_117 : decode xb_L_isRight 117 = .ok (.iload 5, 2) := by decide +kernel
theorem xd_L_isRight_119 : decode xb_L_isRight 119 = .ok (.aaload, 1) := by decide +kernel
theorem xd_L_isRight_120 : decode xb_L_isRight 120 = .ok (.getfield 73, 3) := by decide +kernel
theorem xd_L_isRight_123 : decode xb_L_isRight 123 = .ok (.iload 6, 2) := by decide +kernel
theorem xd_L_isRight_125 : decode xb_L_isRight 125 = .ok (.invokevirtual 70, 3) := by decide +kernel
theorem xd_L_isRight_128 : decode xb_L_isRight 128 = .ok (.ifCond .eq 7, 3) := by decide +kernel
theorem xd_L_isRight_131 : decode xb_L_isRight 131 = .ok (.iconst 1, 1) := by decide +kernel
theorem xd_L_isRight_132 : decode xb_L_isRight 132 = .ok (.goto 4, 3) := by decide +kernel
theorem xd_L_isRight_135 : decode xb_L_isRight 135 = .ok (.iconst 0, 1) := by decide +kernel
theorem xd_L_isRight_136 : decode xb_L_isRight 136 = .ok (.ireturn, 1) := by decide +kernel
theorem xd_L_isRight_137 : decode xb_L_isRight 137 = .ok (.aload_n 1, 1) := by decide +kernel
theorem xd_L_isRight_138 : decode xb_L_isRight 138 = .ok (.iload 6, 2) := by decide +kernel
theorem xd_L_isRight_140 : decode xb_L_isRight 140 = .ok (.invokevirtual 70, 3) := by decide +kernel
theorem xd_L_isRight_143 : decode xb_L_isRight 143 = .ok (.ireturn, 1) := by decide +kernel
theorem xd_L_isRight_144 : decode xb_L_isRight 144 = .ok (.aload_n 0, 1) := by decide +kernel
theorem xd_L_isRight_145 : decode xb_L_isRight 145 = .ok (.aload_n 1, 1) := by decide +kernel
theorem xd_L_isRight_146 : decode xb_L_isRight 146 = .ok (.iload_n 2, 1) := by decide +kernel
theorem xd_L_isRight_147 : decode xb_L_isRight 147 = .ok (.iload 5, 2) := by decide +kernel
theorem xd_L_isRight_149 : decode xb_L_isRight 149 = .ok (.iload 6, 2) := by decide +kernel
theorem xd_L_isRight_151 : decode xb_L_isRight 151 = .ok (.invokevirtual 77, 3) := by decide +kernel
theorem xd_L_isRight_154 : decode xb_L_isRight 154 = .ok (.iconst (-1), 1) := by decide +kernel
theorem xd_L_isRight_155 : decode xb_L_isRight 155 = .ok (.if_icmp .eq 7, 3) := by decide +kernel
theorem xd_L_isRight_158 : decode xb_L_isRight 158 = .ok (.iconst 1, 1) := by decide +kernel
theorem xd_L_isRight_159 : decode xb_L_isRight 159 = .ok (.goto 4, 3) := by decide +kernel
theorem xd_L_isRight_162 : decode xb_L_isRight 162 = .ok (.iconst 0, 1) := by decide +kernel
theorem xd_L_isRight_163 : decode xb_L_isRight 163 = .ok (.ireturn, 1) := by decide +kernel
theorem xd_L_isRight_164 : decode xb_L_isRight 164 = .ok (.iconst 1, 1) := by decide +kernel
theorem xd_L_isRight_165 : decode xb_L_isRight 165 = .ok (.ireturn, 1) := by decide +kernel
theorem xd_L_isExpression_0 : decode xb_L_isExpression 0 = .ok (.iload 4, 2) := by decide +kernel
theorem xd_L_isExpression_2 : decode xb_L_isExpression 2 = .ok (.iconst 4, 1) := by decide +kernel
theorem xd_L_isExpression_3 : decode xb_L_isExpression 3 = .ok (.if_icmp .gt 15, 3) := by decide +kernel
theorem xd_L_isExpression_6 : decode xb_L_isExpression 6 = .ok (.aload_n 0, 1) := by decide +kernel
theorem xd_L_isExpression_7 : decode xb_L_isExpression 7 = .ok (.getfield 35, 3) := by decide +kernel
theorem xd_L_isExpression_10 : decode xb_L_isExpression 10 = .ok (.aload_n 1, 1) := by decide +kernel
theorem xd_L_isExpression_11 : decode xb_L_isExpression 11 = .ok (.iload_n 3, 1) := by decide +kernel
theorem xd_L_isExpression_12 : decode xb_L_isExpression 12 = .ok (.invokevirtual 42, 3) := by decide +kernel
theorem xd_L_isExpression_15 : decode xb_L_isExpression 15 = .ok (.if_icmp .lt 5, 3) := by decide +kernel
theorem xd_L_isExpression_18 : decode xb_L_isExpression 18 = .ok (.iconst 0, 1) := by decide +kernel
theorem xd_L_isExpression_19 : decode xb_L_isExpression 19 = .ok (.ireturn, 1) := by decide +kernel
theorem xd_L_isExpression_20 : decode xb_L_isExpression 20 = .ok (.aload_n 1, 1) := by decide +kernel
theorem xd_L_isExpression_21 : decode xb_L_isExpression 21 = .ok (.iload_n 3, 1) := by decide +kernel
theorem xd_L_isExpression_22 : decode xb_L_isExpression 22 = .ok (.aload_n 0, 1) := by decide +kernel
theorem xd_L_isExpression_23 : decode xb_L_isExpression 23 = .ok (.getfield 35, 3) := by decide +kernel
theorem xd_L_isExpression_26 : decode xb_L_isExpression 26 = .ok (.invokevirtual 46, 3) := by decide +kernel
theorem xd_L_isExpression_29 : decode xb_L_isExpression 29 = .ok (.istore 5, 2) := by decide +kernel
theorem xd_L_isExpression_31 : decode xb_L_isExpression 31 = .ok (.aload_n 0, 1) := by decide +kernel
theorem xd_L_isExpression_32 : decode xb_L_isExpression 32 = .ok (.aload_n 1, 1) := by decide +kernel
theorem xd_L_isExpression_33 : decode xb_L_isExpression 33 = .ok (.iload_n 2, 1) := by decide +kernel
theorem xd_L_isExpression_34 : decode xb_L_isExpression 34 = .ok (.iload_n 3, 1) := by decide +kernel
theorem xd_L_isExpression_35 : decode xb_L_isExpression 35 = .ok (.iload 5, 2) := by decide +kernel
theorem xd_L_isExpression_37 : decode xb_L_isExpression 37 = .ok (.invokevirtual 50, 3) := by decide +kernel
theorem xd_L_isExpression_40 : decode xb_L_isExpression 40 = .ok (.ifCond .ne 5, 3) := by decide +kernel
theorem xd_L_isExpression_43 : decode xb_L_isExpression 43 = .ok (.iconst 0, 1) := by decide +kernel
theorem xd_L_isExpression_44 : decode xb_L_isExpression 44 = .ok (.ireturn, 1) := by decide +kernel
theorem xd_L_isExpression_45 : decode xb_L_isExpression 45 = .ok (.aload_n 0, 1) := by decide +kernel
theorem xd_L_isExpression_46 : decode xb_L_isExpression 46 = .ok (.aload_n 1, 1) := by decide +kernel
theorem xd_L_isExpression_47 : decode xb_L_isExpression 47 = .ok (.iload_n 2, 1) := by decide +kernel
theorem xd_L_isExpression_48 : decode xb_L_isExpression 48 = .ok (.iload 5, 2) := by decide +kernel
theorem xd_L_isExpression_50 : decode xb_L_isExpression 50 = .ok (.invokevirtual 53, 3) := by decide +kernel
theorem xd_L_isExpression_53 : decode xb_L_isExpression 53 = .ok (.istore 6, 2) := by decide +kernel
theorem xd_L_isExpression_55 : decode xb_L_isExpression 55 = .ok (.aload_n 0, 1) := by decide +kernel
theorem xd_L_isExpression_56 : decode xb_L_isExpression 56 = .ok (.dup, 1) := by decide +kernel
theorem xd_L_isExpression_57 : decode xb_L_isExpression 57 = .ok (.getfield 35, 3) := by decide +kernel
theorem xd_L_isExpression_60 : decode xb_L_isExpression 60 = .ok (.iconst 1, 1) := by decide +kernel
theorem xd_L_isExpression_61 : decode xb_L_isExpression 61 = .ok (.iadd, 1) := by decide +kernel
theorem xd_L_isExpression_62 : decode xb_L_isExpression 62 = .ok (.putfield 35, 3) := by decide +kernel
theorem xd_L_isExpression_65 : decode xb_L_isExpression 65 = .ok (.iconst 0, 1) := by decide +kernel
theorem xd_L_isExpression_66 : decode xb_L_isExpression 66 = .ok (.istore 7, 2) := by decide +kernel
theorem xd_L_isExpression_68 : decode xb_L_isExpression 68 = .ok (.iload 7, 2) := by decide +kernel
theorem xd_L_isExpression_70 : decode xb_L_isExpression 70 = .ok (.iload 6, 2) := by decide +kernel
theorem xd_L_isExpression_72 : decode xb_L_isExpression 72 = .ok (.if_icmp .ge 25, 3) := by decide +kernel
theorem xd_L_isExpression_75 : decode xb_L_isExpression 75 = .ok (.aload_n 0, 1) := by decide +kernel
theorem xd_L_isExpression_76 : decode xb_L_isExpression 76 = .ok (.aload_n 1, 1) := by decide +kernel
theorem xd_L_isExpression_77 : decode xb_L_isExpression 77 = .ok (.iload_n 2, 1) := by decide +kernel
theorem xd_L_isExpression_78 : decode xb_L_isExpression 78 = .ok (.iload_n 3, 1) := by decide +kernel
theorem xd_L_isExpression_79 : decode xb_L_isExpression 79 = .ok (.iload 4, 2) := by decide +kernel
theorem xd_L_isExpression_81 : decode xb_L_isExpression 81 = .ok (.iconst 1, 1) := by decide +kernel
theorem xd_L_isExpression_82 : decode xb_L_isExpression 82 = .ok (.iadd, 1) := by decide +kernel
theorem xd_L_isExpression_83 : decode xb_L_isExpression 83 = .ok (.invokevirtual 38, 3) := by decide +kernel
theorem xd_L_isExpression_86 : decode xb_L_isExpression 86 = .ok (.ifCond .ne 5, 3) := by decide +kernel
theorem xd_L_isExpression_89 : decode xb_L_isExpression 89 = .ok (.iconst 0, 1) := by decide +kernel
theorem xd_L_isExpression_90 : decode xb_L_isExpression 90 = .ok (.ireturn, 1) := by decide +kernel
theorem xd_L_isExpression_91 : decode xb_L_isExpression 91 = .ok (.iinc 7 1, 3) := by decide +kernel
theorem xd_L_isExpression_94 : decode xb_L_isExpression 94 = .ok (.goto (-26), 3) := by decide +kernel
theorem xd_L_isExpression_97 : decode xb_L_isExpression 97 = .ok (.iconst 1, 1) := by decide +kernel
theorem xd_L_isExpression_98 : decode xb_L_isExpression 98 = .ok (.ireturn, 1) := by decide +kernel
theorem xd_L_firstWrong_0 : decode xb_L_firstWrong 0 = .ok (.iconst 0, 1) := by decide +kernel
theorem xd_L_firstWrong_1 : decode xb_L_firstWrong 1 = .ok (.istore_n 3, 1) := by decide +kernel
theorem xd_L_firstWrong_2 : decode xb_L_firstWrong 2 = .ok (.iload_n 3, 1) := by decide +kernel
theorem xd_L_firstWrong_3 : decode xb_L_firstWrong 3 = .ok (.aload_n 1, 1) := by decide +kernel
theorem xd_L_firstWrong_4 : decode xb_L_firstWrong 4 = .ok (.getfield 29, 3) := by decide +kernel
theorem xd_L_firstWrong_7 : decode xb_L_firstWrong 7 = .ok (.if_icmp .ge 47, 3) := by decide +kernel
theorem xd_L_firstWrong_10 : decode xb_L_firstWrong 10 = .ok (.aload_n 0, 1) := by decide +kernel
theorem xd_L_firstWrong_11 : decode xb_L_firstWrong 11 = .ok (.iconst 0, 1) := by decide +kernel
theorem xd_L_firstWrong_12 : decode xb_L_firstWrong 12 = .ok (.putfield 35, 3) := by decide +kernel
theorem xd_L_firstWrong_15 : decode xb_L_firstWrong 15 = .ok (.aload_n 0, 1) := by decide +kernel
theorem xd_L_firstWrong_16 : decode xb_L_firstWrong 16 = .ok (.aload_n 1, 1) := by decide +kernel
theorem xd_L_firstWrong_17 : decode xb_L_firstWrong 17 = .ok (.iload_n 2, 1) := by decide +kernel
theorem xd_L_firstWrong_18 : decode xb_L_firstWrong 18 = .ok (.iload_n 3, 1) := by decide +kernel
theorem xd_L_firstWrong_19 : decode xb_L_firstWrong 19 = .ok (.iconst 0, 1) := by decide +kernel
theorem xd_L_firstWrong_20 : decode xb_L_firstWrong 20 = .ok (.invokevirtual 38, 3) := by decide +kernel
theorem xd_L_firstWrong_23 : decode xb_L_firstWrong 23 = .ok (.ifCond .eq 15, 3) := by decide +kernel
theorem xd_L_firstWrong_26 : decode xb_L_firstWrong 26 = .ok (.aload_n 0, 1) := by decide +kernel
theorem xd_L_firstWrong_27 : decode xb_L_firstWrong 27 = .ok (.getfield 35, 3) := by decide +kernel
theorem xd_L_firstWrong_30 : decode xb_L_firstWrong 30 = .ok (.aload_n 1, 1) := by decide +kernel
theorem xd_L_firstWrong_31 : decode xb_L_firstWrong 31 = .ok (.iload_n 3, 1) := by decide +kernel
theorem xd_L_firstWrong_32 : decode xb_L_firstWrong 32 = .ok (.invokevirtual 42, 3) := by decide +kernel
theorem xd_L_firstWrong_35 : decode xb_L_firstWrong 35 = .ok (.if_icmp .ge 13, 3) := by decide +kernel
theorem xd_L_firstWrong_38 : decode xb_L_firstWrong 38 = .ok (.bipush 16, 2) := by decide +kernel
theorem xd_L_firstWrong_40 : decode xb_L_firstWrong 40 = .ok (.iload_n 3, 1) := by decide +kernel
theorem xd_L_firstWrong_41 : decode xb_L_firstWrong 41 = .ok (.imul, 1) := by decide +kernel
theorem xd_L_firstWrong_42 : decode xb_L_firstWrong 42 = .ok (.aload_n 0, 1) := by decide +kernel
theorem xd_L_firstWrong_43 : decode xb_L_firstWrong 43 = .ok (.getfield 35, 3) := by decide +kernel
theorem xd_L_firstWrong_46 : decode xb_L_firstWrong 46 = .ok (.iadd, 1) := by decide +kernel
theorem xd_L_firstWrong_47 : decode xb_L_firstWrong 47 = .ok (.ireturn, 1) := by decide +kernel
theorem xd_L_firstWrong_48 : decode xb_L_firstWrong 48 = .ok (.iinc 3 1, 3) := by decide +kernel
theorem xd_L_firstWrong_51 : decode xb_L_firstWrong 51 = .ok (.goto (-49), 3) := by decide +kernel
theorem xd_L_firstWrong_54 : decode xb_L_firstWrong 54 = .ok (.iconst (-1), 1) := by decide +kernel
theorem xd_L_firstWrong_55 : decode xb_L_firstWrong 55 = .ok (.ireturn, 1) := by decide +kernel
theorem xd_L_gatherImports_0 : decode xb_L_gatherImports 0 = .ok (.aload_n 1, 1) := by decide +kernel
theorem xd_L_gatherImports_1 : decode xb_L_gatherImports 1 = .ok (.getfield 73, 3) := by decide +kernel
theorem xd_L_gatherImports_4 : decode xb_L_gatherImports 4 = .ok (.astore_n 3, 1) := by decide +kernel
theorem xd_L_gatherImports_5 : decode xb_L_gatherImports 5 = .ok (.aload_n 1, 1) := by decide +kernel
theorem xd_L_gatherImports_6 : decode xb_L_gatherImports 6 = .ok (.iconst 0, 1) := by decide +kernel
theorem xd_L_gatherImports_7 : decode xb_L_gatherImports 7 = .ok (.putfield 101, 3) := by decide +kernel
theorem xd_L_gatherImports_10 : decode xb_L_gatherImports 10 = .ok (.iconst 0, 1) := by decide +kernel
theorem xd_L_gatherImports_11 : decode xb_L_gatherImports 11 = .ok (.istore 4, 2) := by decide +kernel
theorem xd_L_gatherImports_13 : decode xb_L_gatherImports 13 = .ok (.iload 4, 2) := by decide +kernel
theorem xd_L_gatherImports_15 : decode xb_L_gatherImports 15 = .ok (.aload_n 3, 1) := by decide +kernel
theorem xd_L_gatherImports_16 : decode xb_L_gatherImports 16 = .ok (.getfield 29, 3) := by decide +kernel
theorem xd_L_gatherImports_19 : decode xb_L_gatherImports 19 = .ok (.if_icmp .ge 114, 3) := by decide +kernel
theorem xd_L_gatherImports_22 : decode xb_L_gatherImports 22 = .ok (.iconst 0, 1) := by decide +kernel
theorem xd_L_gatherImports_23 : decode xb_L_gatherImports 23 = .ok (.istore 5, 2) := by decide +kernel
theorem xd_L_gatherImports_25 : decode xb_L_gatherImports 25 = .ok (.iload 5, 2) := by decide +kernel
theorem xd_L_gatherImports_27 : decode xb_L_gatherImports 27 = .ok (.aload_n 3, 1) := by decide +kernel
theorem xd_L_gatherImports_28 : decode xb_L_gatherImports 28 = .ok (.iload 4, 2) := by decide +kernel
theorem xd_L_gatherImports_30 : decode xb_L_gatherImports 30 = .ok (.invokevirtual 42, 3) := by decide +kernel
theorem xd_L_gatherImports_33 : decode xb_L_gatherImports 33 = .ok (.if_icmp .ge 94, 3) := by decide +kernel
theorem xd_L_gatherImports_36 : decode xb_L_gatherImports 36 = .ok (.aload_n 3, 1) := by decide +kernel
theorem xd_L_gatherImports_37 : decode xb_L_gatherImports 37 = .ok (.iload 4, 2) := by decide +kernel
theorem xd_L_gatherImports_39 : decode xb_L_gatherImports 39 = .ok (.iload 5, 2) := by decide +kernel
theorem xd_L_gatherImports_41 : decode xb_L_gatherImports 41 = .ok (.invokevirtual 46, 3) := by decide +kernel
theorem xd_L_gatherImports_44 : decode xb_L_gatherImports 44 = .ok (.istore 6, 2) := by decide +kernel
theorem xd_L_gatherImports_46 : decode xb_L_gatherImports 46 = .ok (.aload_n 3, 1) := by decide +kernel
theorem xd_L_gatherImports_47 : decode xb_L_gatherImports 47 = .ok (.getfield 57, 3) := by decide +kernel
theorem xd_L_gatherImports_50 : decode xb_L_gatherImports 50 = .ok (.iload 6, 2) := by decide +kernel
theorem xd_L_gatherImports_52 : decode xb_L_gatherImports 52 = .ok (.iaload, 1) := by decide +kernel
theorem xd_L_gatherImports_53 : decode xb_L_gatherImports 53 = .ok (.istore 7, 2) := by decide +kernel
theorem xd_L_gatherImports_55 : decode xb_L_gatherImports 55 = .ok (.aload_n 3, 1) := by decide +kernel
theorem xd_L_gatherImports_56 : decode xb_L_gatherImports 56 = .ok (.getfield 64, 3) := by decide +kernel
theorem xd_L_gatherImports_59 : decode xb_L_gatherImports 59 = .ok (.iload 6, 2) := by decide +kernel
theorem xd_L_gatherImports_61 : decode xb_L_gatherImports 61 = .ok (.iaload, 1) := by decide +kernel
theorem xd_L_gatherImports_62 : decode xb_L_gatherImports 62 = .ok (.iconst 2, 1) := by decide +kernel
theorem xd_L_gatherImports_63 : decode xb_L_gatherImports 63 = .ok (.if_icmp .eq 15, 3) := by decide +kernel
theorem xd_L_gatherImports_66 : decode xb_L_gatherImports 66 = .ok (.aload_n 3, 1) := by decide +kernel
theorem xd_L_gatherImports_67 : decode xb_L_gatherImports 67 = .ok (.getfield 64, 3) := by decide +kernel
theorem xd_L_gatherImports_70 : decode xb_L_gatherImports 70 = .ok (.iload 6, 2) := by decide +kernel
theorem xd_L_gatherImports_72 : decode xb_L_gatherImports 72 = .ok (.iaload, 1) := by decide +kernel
theorem xd_L_gatherImports_73 : decode xb_L_gatherImports 73 = .ok (.bipush 11, 2) := by decide +kernel
theorem xd_L_gatherImports_75 : decode xb_L_gatherImports 75 = .ok (.if_icmp .ne 7, 3) := by decide +kernel
theorem xd_L_gatherImports_78 : decode xb_L_gatherImports 78 = .ok (.iconst 1, 1) := by decide +kernel
theorem xd_L_gatherImports_79 : decode xb_L_gatherImports 79 = .ok (.goto 4, 3) := by decide +kernel
theorem xd_L_gatherImports_82 : decode xb_L_gatherImports 82 = .ok (.iconst 0, 1) := by decide +kernel
theorem xd_L_gatherImports_83 : decode xb_L_gatherImports 83 = .ok (.istore 8, 2) := by decide +kernel
theorem xd_L_gatherImports_85 : decode xb_L_gatherImports 85 = .ok (.iload 8, 2) := by decide +kernel
theorem xd_L_gatherImports_87 : decode xb_L_gatherImports 87 = .ok (.ifCond .eq 34, 3) := by decide +kernel
theorem xd_L_gatherImports_90 : decode xb_L_gatherImports 90 = .ok (.iload 7, 2) := by decide +kernel
theorem xd_L_gatherImports_92 : decode xb_L_gatherImports 92 = .ok (.iload_n 2, 1) := by decide +kernel
theorem xd_L_gatherImports_93 : decode xb_L_gatherImports 93 = .ok (.if_icmp .eq 28, 3) := by decide +kernel
theorem xd_L_gatherImports_96 : decode xb_L_gatherImports 96 = .ok (.aload_n 0, 1) := by decide +kernel
theorem xd_L_gatherImports_97 : decode xb_L_gatherImports 97 = .ok (.iload 7, 2) := by decide +kernel
theorem xd_L_gatherImports_99 : decode xb_L_gatherImports 99 = .ok (.invokevirtual 26, 3) := by decide +kernel
theorem xd_L_gatherImports_102 : decode xb_L_gatherImports 102 = .ok (.ifCond .eq 19, 3) := by decide +kernel
theorem xd_L_gatherImports_105 : decode xb_L_gatherImports 105 = .ok (.aload_n 1, 1) := by decide +kernel
theorem xd_L_gatherImports_106 : decode xb_L_gatherImports 106 = .ok (.iload 7, 2) := by decide +kernel
theorem xd_L_gatherImports_108 : decode xb_L_gatherImports 108 = .ok (.aload_n 0, 1) := by decide +kernel
theorem xd_L_gatherImports_109 : decode xb_L_gatherImports 109 = .ok (.getfield 11, 3) := by decide +kernel
theorem xd_L_gatherImports_112 : decode xb_L_gatherImports 112 = .ok (.iload 7, 2) := by decide +kernel
theorem xd_L_gatherImports_114 : decode xb_L_gatherImports 114 = .ok (.aaload, 1) := by decide +kernel
theorem xd_L_gatherImports_115 : decode xb_L_gatherImports 115 = .ok (.getfield 90, 3) := by decide +kernel
theorem xd_L_gatherImports_118 : decode xb_L_gatherImports 118 = .ok (.invokevirtual 104, 3) := by decide +kernel
theorem xd_L_gatherImports_121 : decode xb_L_gatherImports 121 = .ok (.iinc 5 1, 3) := by decide +kernel
theorem xd_L_gatherImports_124 : decode xb_L_gatherImports 124 = .ok (.goto (-99), 3) := by decide +kernel
theorem xd_L_gatherImports_127 : decode xb_L_gatherImports 127 = .ok (.iinc 4 1, 3) := by decide +kernel
theorem xd_L_gatherImports_130 : decode xb_L_gatherImports 130 = .ok (.goto (-117), 3) := by decide +kernel
theorem xd_L_gatherImports_133 : decode xb_L_gatherImports 133 = .ok (.return_, 1) := by decide +kernel
theorem xd_L_keep_0 : decode xb_L_keep 0 = .ok (.aload_n 0, 1) := by decide +kernel
theorem xd_L_keep_1 : decode xb_L_keep 1 = .ok (.getfield 11, 3) := by decide +kernel
theorem xd_L_keep_4 : decode xb_L_keep 4 = .ok (.iload_n 2, 1) := by decide +kernel
theorem xd_L_keep_5 : decode xb_L_keep 5 = .ok (.aaload, 1) := by decide +kernel
theorem xd_L_keep_6 : decode xb_L_keep 6 = .ok (.astore_n 3, 1) := by decide +kernel
theorem xd_L_keep_7 : decode xb_L_keep 7 = .ok (.aload_n 3, 1) := by decide +kernel
theorem xd_L_keep_8 : decode xb_L_keep 8 = .ok (.getfield 22, 3) := by decide +kernel
theorem xd_L_keep_11 : decode xb_L_keep 11 = .ok (.ifCond .eq 14, 3) := by decide +kernel
theorem xd_L_keep_14 : decode xb_L_keep 14 = .ok (.aload_n 3, 1) := by decide +kernel
theorem xd_L_keep_15 : decode xb_L_keep 15 = .ok (.getfield 73, 3) := by decide +kernel
theorem xd_L_keep_18 : decode xb_L_keep 18 = .ok (.aload_n 1, 1) := by decide +kernel
theorem xd_L_keep_19 : decode xb_L_keep 19 = .ok (.invokevirtual 83, 3) := by decide +kernel
theorem xd_L_keep_22 : decode xb_L_keep 22 = .ok (.ifCond .ne 21, 3) := by decide +kernel
theorem xd_L_keep_25 : decode xb_L_keep 25 = .ok (.aload_n 0, 1) := by decide +kernel
theorem xd_L_keep_26 : decode xb_L_keep 26 = .ok (.dup, 1) := by decide +kernel
theorem xd_L_keep_27 : decode xb_L_keep 27 = .ok (.getfield 87, 3) := by decide +kernel
theorem xd_L_keep_30 : decode xb_L_keep 30 = .ok (.iconst 1, 1) := by decide +kernel
theorem xd_L_keep_31 : decode xb_L_keep 31 = .ok (.iadd, 1) := by decide +kernel
theorem xd_L_keep_32 : decode xb_L_keep 32 = .ok (.putfield 87, 3) := by decide +kernel
theorem xd_L_keep_35 : decode xb_L_keep 35 = .ok (.aload_n 3, 1) := by decide +kernel
theorem xd_L_keep_36 : decode xb_L_keep 36 = .ok (.aload_n 0, 1) := by decide +kernel
theorem xd_L_keep_37 : decode xb_L_keep 37 = .ok (.getfield 87, 3) := by decide +kernel
theorem xd_L_keep_40 : decode xb_L_keep 40 = .ok (.putfield 90, 3) := by decide +kernel
theorem xd_L_keep_43 : decode xb_L_keep 43 = .ok (.aload_n 3, 1) := by decide +kernel
theorem xd_L_keep_44 : decode xb_L_keep 44 = .ok (.iconst 1, 1) := by decide +kernel
theorem xd_L_keep_45 : decode xb_L_keep 45 = .ok (.putfield 22, 3) := by decide +kernel
theorem xd_L_keep_48 : decode xb_L_keep 48 = .ok (.aload_n 3, 1) := by decide +kernel
theorem xd_L_keep_49 : decode xb_L_keep 49 = .ok (.getfield 73, 3) := by decide +kernel
theorem xd_L_keep_52 : decode xb_L_keep 52 = .ok (.aload_n 1, 1) := by decide +kernel
theorem xd_L_keep_53 : decode xb_L_keep 53 = .ok (.invokevirtual 93, 3) := by decide +kernel
theorem xd_L_keep_56 : decode xb_L_keep 56 = .ok (.aload_n 0, 1) := by decide +kernel
theorem xd_L_keep_57 : decode xb_L_keep 57 = .ok (.aload_n 3, 1) := by decide +kernel
theorem xd_L_keep_58 : decode xb_L_keep 58 = .ok (.iload_n 2, 1) := by decide +kernel
theorem xd_L_keep_59 : decode xb_L_keep 59 = .ok (.invokevirtual 97, 3) := by decide +kernel
theorem xd_L_keep_62 : decode xb_L_keep 62 = .ok (.aload_n 3, 1) := by decide +kernel
theorem xd_L_keep_63 : decode xb_L_keep 63 = .ok (.getfield 90, 3) := by decide +kernel
theorem xd_L_keep_66 : decode xb_L_keep 66 = .ok (.ireturn, 1) := by decide +kernel
section
variable {l : Launch} {D : va_G} {ad : Nat → Nat} {ids : Nat → ClassId} {ps : Nat}
def xm_L_has (σ : aw_m) (k0 : Nat) (a1 : Int32) : Option Int32 := (xm_S_isModule σ a1).bind fun q_1 => (if q_1 = 0 then some (0 : Int32) else if aw_in a1 6 = true then (if σ (k0 + 1 + 1 + 9 * (Int32.toNatClampNeg a1)) 0 = 0 then some (0 : Int32) else some (1 : Int32)) else none)
set_option maxHeartbeats 4000000 in
set_option maxRecDepth 100000 in
theorem xc_L_has (σ : aw_m) (k0 : Nat) (a1 : Int32) (q : Int32) (hk0 : kd_k k0 = 4) (hm : xm_L_has σ k0 a1 = some q) : aw_M l D (ty_z ids) (zs_T ps) xy_L_has (xw_L_has :: gw_l) (rm_D (1)) [.ref (ad k0), .int a1] (cw_w ad ids σ) (some (.int q)) (cw_w ad ids σ) := by
  refine aw_intro (cc := xb_L_has) (n := 2) (ret := (some .boolean)) "ModuleShelf$Library" rfl (by decide) rfl (Nat.le_of_ble_eq_true rfl) ?_
  intro κ C
  unfold xm_L_has at hm
  refine aw_iload_n C 1 xd_L_has_0 rfl rfl ?_
  obtain ⟨q_1, e_1, hm⟩ := aw_bnd hm
  refine aw_callSNi (As := [.int a1]) (rest := []) C (xc_S_isModule σ a1 _  e_1) rfl (gw_sub (gw_C xg_S_isModule)) (List.mem_of_getElem? (i := 3) rfl) (List.mem_cons_of_mem _ wi_S) (List.mem_cons_of_mem _ st_S_isModule) na_S_isModule (rm_lt (by decide) (by decide)) ⟨Nat.zero_le _, Nat.zero_le _⟩ rfl (Nat.le_of_ble_eq_true rfl) xd_L_has_1 ?_
  refine aw_if_eq (tgt := 23) C xd_L_has_4 (by decide) (fun c_4 => ?_) (fun c_4 => ?_)
  · rw [if_pos c_4] at hm
    refine aw_iconst (v := (0 : Int32)) C xd_L_has_23 (by decide) ?_
    cases hm
    exact aw_zret C (by decide) xd_L_has_24
  · rw [if_neg c_4] at hm
    refine aw_aload_n C 0 xd_L_has_7 rfl rfl ?_
    refine aw_get C k0 (kd_lt hk0) (ly_L hk0) rfl (fun w h => List.mem_cons_of_mem _ (xi_L w h)) 0 (by decide) rfl (List.mem_cons_of_mem _ fl_L_11) xd_L_has_8 ?_
    refine aw_iload_n C 1 xd_L_has_11 rfl rfl ?_
    obtain ⟨g_12, hm⟩ := aw_grd hm
    refine aw_aald C (k0 + 1) (kd_lt (kf_L_units hk0)) 2 (ly_U6 (kf_L_units hk0)) rfl (aw_in_ok g_12) rfl xd_L_has_12 ?_
    refine aw_get C (k0 + 1 + 1 + 9 * (Int32.toNatClampNeg a1)) (kd_lt (ka_U6 (kf_L_units hk0) (aw_in_lt g_12))) (ly_U (ka_U6 (kf_L_units hk0) (aw_in_lt g_12))) rfl (fun w h => List.mem_cons_of_mem _ (xi_U w h)) 0 (by decide) rfl (List.mem_cons_of_mem _ fl_L_22) xd_L_has_13 ?_
    refine aw_if_eq (tgt := 23) C xd_L_has_16 (by decide) (fun c_16 => ?_) (fun c_16 => ?_)
    · rw [if_pos c_16] at hm
      refine aw_iconst (v := (0 : Int32)) C xd_L_has_23 (by decide) ?_
      cases hm
      exact aw_zret C (by decide) xd_L_has_24
    · rw [if_neg c_16] at hm
      refine aw_iconst (v := (1 : Int32)) C xd_L_has_19 (by decide) ?_
      refine aw_goto (tgt := 24) C xd_L_has_20 (by decide) ?_
      cases hm
      exact aw_zret C (by decide) xd_L_has_24
def xq_L_held_4 (σ : aw_m)  : Nat → Nat → Int32 → Int32 → Option Int32
  | 0, _, _, _ => none
  | n + 1, j0, v1, v2 => (if (6 : Int32) ≤ v2 then some v1 else (xm_L_has σ j0 v2).bind fun q_13 => (if q_13 = 0 then xq_L_held_4 σ n j0 (v1 + (0 : Int32)) (v2 + (1 : Int32)) else xq_L_held_4 σ n j0 (v1 + (1 : Int32)) (v2 + (1 : Int32))))
def xm_L_held (σ : aw_m) (k0 : Nat) : Option Int32 := xq_L_held_4 σ 64 k0 (0 : Int32) (0 : Int32)
set_option maxHeartbeats 4000000 in
set_option maxRecDepth 100000 in
theorem xl_L_held_4 (σ : aw_m)  {κ : aw_K} (q : Int32) (C : aw_X l D (ty_z ids) (zs_T ps) (rm_D (2)) xb_L_held 3 "ModuleShelf$Library" (xw_L_held :: gw_l) (some .int) (some (.int q)) (cw_w ad ids σ) κ) : ∀ (n : Nat) (j0 : Nat) (v1 : Int32) (v2 : Int32) (hj0 : kd_k j0 = 4), xq_L_held_4 σ n j0 v1 v2 = some q → aw_J κ 0 0 (cw_w ad ids σ) [(0, .ref (ad j0)), (1, .int v1), (2, .int v2)] 4 [] := by
  intro n
  induction n with
  | zero => intro j0 v1 v2 hj0 hm; cases hm
  | succ n ih =>
    intro j0 v1 v2 hj0 hm
    rw [xq_L_held_4] at hm
    refine aw_iload_n C 2 xd_L_held_4 rfl rfl ?_
    refine aw_bipush (v := (6 : Int32)) C xd_L_held_5 (by decide) ?_
    refine aw_icmp_ge (tgt := 32) C xd_L_held_7 (by decide) (fun c_7 => ?_) (fun c_7 => ?_)
    · rw [if_pos c_7] at hm
      refine aw_iload_n C 1 xd_L_held_32 rfl rfl ?_
      cases hm
      exact aw_iret C xd_L_held_33
    · rw [if_neg c_7] at hm
      refine aw_iload_n C 1 xd_L_held_10 rfl rfl ?_
      refine aw_aload_n C 0 xd_L_held_11 rfl rfl ?_
      refine aw_iload_n C 2 xd_L_held_12 rfl rfl ?_
      obtain ⟨q_13, e_13, hm⟩ := aw_bnd hm
      refine aw_callVi (As := [.int v2]) (rest := [.int v1]) (b := ad j0) C (xc_L_has σ j0 v2 _ hj0 e_13) rfl (gw_sub (gw_V xg_L_has ml_L_26 im_L_has se_L_has wi_L)) na_L_has (rm_lt (by decide) (by decide)) ⟨Nat.zero_le _, Nat.zero_le _⟩ j0 (at_L hj0) rfl rfl (Nat.le_of_ble_eq_true rfl) xd_L_held_13 ?_
      refine aw_if_eq (tgt := 23) C xd_L_held_16 (by decide) (fun c_16 => ?_) (fun c_16 => ?_)
      · rw [if_pos c_16] at hm
        refine aw_iconst (v := (0 : Int32)) C xd_L_held_23 (by decide) ?_
        refine aw_iadd C xd_L_held_24 ?_
        refine aw_istore_n (L' := [(1, .int (v1 + (0 : Int32))), (0, .ref (ad j0)), (2, .int v2)]) C xd_L_held_25 rfl (by decide) rfl ?_
        refine aw_iinc (j := 2) (v := v2 + (1 : Int32)) (L' := [(2, .int (v2 + (1 : Int32))), (1, .int (v1 + (0 : Int32))), (0, .ref (ad j0))]) C xd_L_held_26 rfl rfl (by decide) rfl ?_
        refine aw_goto (tgt := 4) C xd_L_held_29 (by decide) ?_
        refine aw_loc (L' := [(0, .ref (ad j0)), (1, .int (v1 + (0 : Int32))), (2, .int (v2 + (1 : Int32)))]) C [2, 1, 0] rfl ?_
        exact ih j0 (v1 + (0 : Int32)) (v2 + (1 : Int32)) hj0 hm
      · rw [if_neg c_16] at hm
        refine aw_iconst (v := (1 : Int32)) C xd_L_held_19 (by decide) ?_
        refine aw_goto (tgt := 24) C xd_L_held_20 (by decide) ?_
        refine aw_iadd C xd_L_held_24 ?_
        refine aw_istore_n (L' := [(1, .int (v1 + (1 : Int32))), (0, .ref (ad j0)), (2, .int v2)]) C xd_L_held_25 rfl (by decide) rfl ?_
        refine aw_iinc (j := 2) (v := v2 + (1 : Int32)) (L' := [(2, .int (v2 + (1 : Int32))), (1, .int (v1 + (1 : Int32))), (0, .ref (ad j0))]) C xd_L_held_26 rfl rfl (by decide) rfl ?_
        refine aw_goto (tgt := 4) C xd_L_held_29 (by decide) ?_
        refine aw_loc (L' := [(0, .ref (ad j0)), (1, .int (v1 + (1 : Int32))), (2, .int (v2 + (1 : Int32)))]) C [2, 1, 0] rfl ?_
        exact ih j0 (v1 + (1 : Int32)) (v2 + (1 : Int32)) hj0 hm
set_option maxHeartbeats 4000000 in
set_option maxRecDepth 100000 in
theorem xc_L_held (σ : aw_m) (k0 : Nat) (q : Int32) (hk0 : kd_k k0 = 4) (hm : xm_L_held σ k0 = some q) : aw_M l D (ty_z ids) (zs_T ps) xy_L_held (xw_L_held :: gw_l) (rm_D (2)) [.ref (ad k0)] (cw_w ad ids σ) (some (.int q)) (cw_w ad ids σ) := by
  refine aw_intro (cc := xb_L_held) (n := 3) (ret := (some .int)) "ModuleShelf$Library" rfl (by decide) rfl (Nat.le_of_ble_eq_true rfl) ?_
  intro κ C
  unfold xm_L_held at hm
  refine aw_iconst (v := (0 : Int32)) C xd_L_held_0 (by decide) ?_
  refine aw_istore_n (L' := [(1, .int (0 : Int32)), (0, .ref (ad k0))]) C xd_L_held_1 rfl (by decide) rfl ?_
  refine aw_iconst (v := (0 : Int32)) C xd_L_held_2 (by decide) ?_
  refine aw_istore_n (L' := [(2, .int (0 : Int32)), (1, .int (0 : Int32)), (0, .ref (ad k0))]) C xd_L_held_3 rfl (by decide) rfl ?_
  refine aw_loc (L' := [(0, .ref (ad k0)), (1, .int (0 : Int32)), (2, .int (0 : Int32))]) C [2, 1, 0] rfl ?_
  exact xl_L_held_4 σ _ C 64 k0 (0 : Int32) (0 : Int32) hk0 hm
def xm_L_argumentsOf (σ : aw_m) (k0 : Nat) (k1 : Nat) (a2 : Int32) (a3 : Int32) (a4 : Int32) : Option Int32 := (if a3 = a2 then (xm_C_argumentsOf σ k1 a4).bind fun q_8 => some q_8 else (xm_L_has σ k0 a3).bind fun q_14 => (if q_14 = 0 then some (-1 : Int32) else if aw_in a3 6 = true then (xm_C_argumentsOf σ ((k0 + 1 + 1 + 9 * (Int32.toNatClampNeg a3)) + 3) a4).bind fun q_31 => some q_31 else none))
set_option maxHeartbeats 4000000 in
set_option maxRecDepth 100000 in
theorem xc_L_argumentsOf (σ : aw_m) (k0 : Nat) (k1 : Nat) (a2 : Int32) (a3 : Int32) (a4 : Int32) (q : Int32) (hk0 : kd_k k0 = 4) (hk1 : kd_k k1 = 1) (hm : xm_L_argumentsOf σ k0 k1 a2 a3 a4 = some q) : aw_M l D (ty_z ids) (zs_T ps) xy_L_argumentsOf (xw_L_argumentsOf :: gw_l) (rm_D (2)) [.ref (ad k0), .ref (ad k1), .int a2, .int a3, .int a4] (cw_w ad ids σ) (some (.int q)) (cw_w ad ids σ) := by
  refine aw_intro (cc := xb_L_argumentsOf) (n := 5) (ret := (some .int)) "ModuleShelf$Library" rfl (by decide) rfl (Nat.le_of_ble_eq_true rfl) ?_
  intro κ C
  unfold xm_L_argumentsOf at hm
  refine aw_iload_n C 3 xd_L_argumentsOf_0 rfl rfl ?_
  refine aw_iload_n C 2 xd_L_argumentsOf_1 rfl rfl ?_
  refine aw_icmp_ne (tgt := 12) C xd_L_argumentsOf_2 (by decide) (fun c_2 => ?_) (fun c_2 => ?_)
  · rw [if_neg c_2] at hm
    refine aw_aload_n C 0 xd_L_argumentsOf_12 rfl rfl ?_
    refine aw_iload_n C 3 xd_L_argumentsOf_13 rfl rfl ?_
    obtain ⟨q_14, e_14, hm⟩ := aw_bnd hm
    refine aw_callVi (As := [.int a3]) (rest := []) (b := ad k0) C (xc_L_has σ k0 a3 _ hk0 e_14) rfl (gw_sub (gw_V xg_L_has ml_L_26 im_L_has se_L_has wi_L)) na_L_has (rm_lt (by decide) (by decide)) ⟨Nat.zero_le _, Nat.zero_le _⟩ k0 (at_L hk0) rfl rfl (Nat.le_of_ble_eq_true rfl) xd_L_argumentsOf_14 ?_
    refine aw_if_eq (tgt := 37) C xd_L_argumentsOf_17 (by decide) (fun c_17 => ?_) (fun c_17 => ?_)
    · rw [if_pos c_17] at hm
      refine aw_iconst (v := (-1 : Int32)) C xd_L_argumentsOf_37 (by decide) ?_
      cases hm
      exact aw_iret C xd_L_argumentsOf_38
    · rw [if_neg c_17] at hm
      refine aw_aload_n C 0 xd_L_argumentsOf_20 rfl rfl ?_
      refine aw_get C k0 (kd_lt hk0) (ly_L hk0) rfl (fun w h => List.mem_cons_of_mem _ (xi_L w h)) 0 (by decide) rfl (List.mem_cons_of_mem _ fl_L_11) xd_L_argumentsOf_21 ?_
      refine aw_iload_n C 3 xd_L_argumentsOf_24 rfl rfl ?_
      obtain ⟨g_25, hm⟩ := aw_grd hm
      refine aw_aald C (k0 + 1) (kd_lt (kf_L_units hk0)) 2 (ly_U6 (kf_L_units hk0)) rfl (aw_in_ok g_25) rfl xd_L_argumentsOf_25 ?_
      refine aw_get C (k0 + 1 + 1 + 9 * (Int32.toNatClampNeg a3)) (kd_lt (ka_U6 (kf_L_units hk0) (aw_in_lt g_25))) (ly_U (ka_U6 (kf_L_units hk0) (aw_in_lt g_25))) rfl (fun w h => List.mem_cons_of_mem _ (xi_U w h)) 5 (by decide) rfl (List.mem_cons_of_mem _ fl_L_73) xd_L_argumentsOf_26 ?_
      refine aw_iload C 4 xd_L_argumentsOf_29 rfl ?_
      obtain ⟨q_31, e_31, hm⟩ := aw_bnd hm
      refine aw_callVi (As := [.int a4]) (rest := []) (b := ad ((k0 + 1 + 1 + 9 * (Int32.toNatClampNeg a3)) + 3)) C (xc_C_argumentsOf σ ((k0 + 1 + 1 + 9 * (Int32.toNatClampNeg a3)) + 3) a4 _ (kf_U_code (ka_U6 (kf_L_units hk0) (aw_in_lt g_25))) e_31) rfl (gw_sub (gw_V xg_C_argumentsOf ml_L_67 im_C_argumentsOf se_C_argumentsOf wi_C)) na_C_argumentsOf (rm_lt (by decide) (by decide)) ⟨Nat.zero_le _, Nat.zero_le _⟩ ((k0 + 1 + 1 + 9 * (Int32.toNatClampNeg a3)) + 3) (at_C (kf_U_code (ka_U6 (kf_L_units hk0) (aw_in_lt g_25)))) rfl rfl (Nat.le_of_ble_eq_true rfl) xd_L_argumentsOf_31 ?_
      refine aw_goto (tgt := 38) C xd_L_argumentsOf_34 (by decide) ?_
      cases hm
      exact aw_iret C xd_L_argumentsOf_38
  · rw [if_pos c_2] at hm
    refine aw_aload_n C 1 xd_L_argumentsOf_5 rfl rfl ?_
    refine aw_iload C 4 xd_L_argumentsOf_6 rfl ?_
    obtain ⟨q_8, e_8, hm⟩ := aw_bnd hm
    refine aw_callVi (As := [.int a4]) (rest := []) (b := ad k1) C (xc_C_argumentsOf σ k1 a4 _ hk1 e_8) rfl (gw_sub (gw_V xg_C_argumentsOf ml_L_67 im_C_argumentsOf se_C_argumentsOf wi_C)) na_C_argumentsOf (rm_lt (by decide) (by decide)) ⟨Nat.zero_le _, Nat.zero_le _⟩ k1 (at_C hk1) rfl rfl (Nat.le_of_ble_eq_true rfl) xd_L_argumentsOf_8 ?_
    cases hm
    exact aw_iret C xd_L_argumentsOf_11
def xm_L_partsOf (σ : aw_m) (k0 : Nat) (k1 : Nat) (a2 : Int32) (a3 : Int32) : Option Int32 := if aw_in a3 42 = true then (if σ (k1 + 3) (Int32.toNatClampNeg a3) = (11 : Int32) then if aw_in a3 42 = true then if aw_in a3 42 = true then (xm_L_argumentsOf σ k0 k1 a2 (σ (k1 + 4) (Int32.toNatClampNeg a3)) (σ (k1 + 5) (Int32.toNatClampNeg a3))).bind fun q_30 => some q_30 else none else none else if aw_in (σ (k1 + 3) (Int32.toNatClampNeg a3)) 12 = true then some (zp_parts (Int32.toNatClampNeg (σ (k1 + 3) (Int32.toNatClampNeg a3)))) else none) else none
set_option maxHeartbeats 4000000 in
set_option maxRecDepth 100000 in
theorem xc_L_partsOf (σ : aw_m) (k0 : Nat) (k1 : Nat) (a2 : Int32) (a3 : Int32) (q : Int32) (hk0 : kd_k k0 = 4) (hk1 : kd_k k1 = 1) (hm : xm_L_partsOf σ k0 k1 a2 a3 = some q) : aw_M l D (ty_z ids) (zs_T ps) xy_L_partsOf (xw_L_partsOf :: gw_l) (rm_D (3)) [.ref (ad k0), .ref (ad k1), .int a2, .int a3] (cw_w ad ids σ) (some (.int q)) (cw_w ad ids σ) := by
  refine aw_intro (cc := xb_L_partsOf) (n := 5) (ret := (some .int)) "ModuleShelf$Library" rfl (by decide) rfl (Nat.le_of_ble_eq_true rfl) ?_
  intro κ C
  unfold xm_L_partsOf at hm
  refine aw_aload_n C 1 xd_L_partsOf_0 rfl rfl ?_
  refine aw_get C k1 (kd_lt hk1) (ly_C hk1) rfl (fun w h => List.mem_cons_of_mem _ (xi_C w h)) 4 (by decide) rfl (List.mem_cons_of_mem _ fl_L_64) xd_L_partsOf_1 ?_
  refine aw_iload_n C 3 xd_L_partsOf_4 rfl rfl ?_
  obtain ⟨g_5, hm⟩ := aw_grd hm
  refine aw_iald C (k1 + 3) (kd_lt (kf_C_ops hk1)) 0 (ly_A42 (kf_C_ops hk1)) rfl (aw_in_ok g_5) xd_L_partsOf_5 ?_
  refine aw_istore (L' := [(4, .int (σ (k1 + 3) (Int32.toNatClampNeg a3))), (0, .ref (ad k0)), (1, .ref (ad k1)), (2, .int a2), (3, .int a3)]) C xd_L_partsOf_6 (by decide) rfl ?_
  refine aw_iload C 0 xd_L_partsOf_8 rfl ?_
  refine aw_bipush (v := (11 : Int32)) C xd_L_partsOf_10 (by decide) ?_
  refine aw_icmp_ne (tgt := 36) C xd_L_partsOf_12 (by decide) (fun c_12 => ?_) (fun c_12 => ?_)
  · rw [if_neg c_12] at hm
    refine aw_getsN C (z := (("ModuleShelf", "PARTS"), ps, 12, zp_parts)) List.mem_cons_self (List.mem_of_getElem? (i := 8) rfl) xd_L_partsOf_36 ?_
    refine aw_iload C 0 xd_L_partsOf_39 rfl ?_
    obtain ⟨g_41, hm⟩ := aw_grd hm
    refine aw_sald C (z := (("ModuleShelf", "PARTS"), ps, 12, zp_parts)) List.mem_cons_self (aw_in_ok g_41) xd_L_partsOf_41 ?_
    cases hm
    exact aw_iret C xd_L_partsOf_42
  · rw [if_pos c_12] at hm
    refine aw_aload_n C 1 xd_L_partsOf_15 rfl rfl ?_
    refine aw_aload_n C 2 xd_L_partsOf_16 rfl rfl ?_
    refine aw_iload_n C 3 xd_L_partsOf_17 rfl rfl ?_
    refine aw_aload_n C 2 xd_L_partsOf_18 rfl rfl ?_
    refine aw_get C k1 (kd_lt hk1) (ly_C hk1) rfl (fun w h => List.mem_cons_of_mem _ (xi_C w h)) 5 (by decide) rfl (List.mem_cons_of_mem _ fl_L_57) xd_L_partsOf_19 ?_
    refine aw_iload_n C 4 xd_L_partsOf_22 rfl rfl ?_
    obtain ⟨g_23, hm⟩ := aw_grd hm
    refine aw_iald C (k1 + 4) (kd_lt (kf_C_as hk1)) 0 (ly_A42 (kf_C_as hk1)) rfl (aw_in_ok g_23) xd_L_partsOf_23 ?_
    refine aw_aload_n C 2 xd_L_partsOf_24 rfl rfl ?_
    refine aw_get C k1 (kd_lt hk1) (ly_C hk1) rfl (fun w h => List.mem_cons_of_mem _ (xi_C w h)) 6 (by decide) rfl (List.mem_cons_of_mem _ fl_L_61) xd_L_partsOf_25 ?_
    refine aw_iload_n C 4 xd_L_partsOf_28 rfl rfl ?_
    obtain ⟨g_29, hm⟩ := aw_grd hm
    refine aw_iald C (k1 + 5) (kd_lt (kf_C_bs hk1)) 0 (ly_A42 (kf_C_bs hk1)) rfl (aw_in_ok g_29) xd_L_partsOf_29 ?_
    obtain ⟨q_30, e_30, hm⟩ := aw_bnd hm
    refine aw_callVi (As := [.ref (ad k1), .int a2, .int (σ (k1 + 4) (Int32.toNatClampNeg a3)), .int (σ (k1 + 5) (Int32.toNatClampNeg a3))]) (rest := []) (b := ad k0) C (xc_L_argumentsOf σ k0 k1 a2 (σ (k1 + 4) (Int32.toNatClampNeg a3)) (σ (k1 + 5) (Int32.toNatClampNeg a3)) _ hk0 hk1 e_30) rfl (gw_sub (gw_V xg_L_argumentsOf ml_L_77 im_L_argumentsOf se_L_argumentsOf wi_L)) na_L_argumentsOf (rm_lt (by decide) (by decide)) ⟨Nat.zero_le _, Nat.zero_le _⟩ k0 (at_L hk0) rfl rfl (Nat.le_of_ble_eq_true rfl) xd_L_partsOf_30 ?_
    refine aw_goto (tgt := 42) C xd_L_partsOf_33 (by decide) ?_
    cases hm
    exact aw_iret C xd_L_partsOf_42
def xm_L_isRight (σ : aw_m) (k0 : Nat) (k1 : Nat) (a2 : Int32) (a3 : Int32) (a4 : Int32) : Option Int32 := if aw_in a4 42 = true then if aw_in a4 42 = true then if aw_in a4 42 = true then (if σ (k1 + 3) (Int32.toNatClampNeg a4) = (1 : Int32) then (if σ (k1 + 4) (Int32.toNatClampNeg a4) < 0 then some (0 : Int32) else (xm_C_argumentsOf σ k1 a3).bind fun q_77 => (if q_77 ≤ σ (k1 + 4) (Int32.toNatClampNeg a4) then some (0 : Int32) else some (1 : Int32))) else (if σ (k1 + 3) (Int32.toNatClampNeg a4) = (2 : Int32) then (if σ (k1 + 4) (Int32.toNatClampNeg a4) = a2 then (xm_C_hasVariable σ k1 (σ (k1 + 5) (Int32.toNatClampNeg a4))).bind fun q_98 => if q_98 = 0 ∨ q_98 = 1 then some q_98 else none else (xm_L_has σ k0 (σ (k1 + 4) (Int32.toNatClampNeg a4))).bind fun q_107 => (if q_107 = 0 then some (0 : Int32) else if aw_in (σ (k1 + 4) (Int32.toNatClampNeg a4)) 6 = true then (xm_C_hasVariable σ ((k0 + 1 + 1 + 9 * (Int32.toNatClampNeg (σ (k1 + 4) (Int32.toNatClampNeg a4)))) + 3) (σ (k1 + 5) (Int32.toNatClampNeg a4))).bind fun q_125 => (if q_125 = 0 then some (0 : Int32) else some (1 : Int32)) else none)) else (if σ (k1 + 3) (Int32.toNatClampNeg a4) = (3 : Int32) then (xm_C_hasVariable σ k1 (σ (k1 + 5) (Int32.toNatClampNeg a4))).bind fun q_140 => if q_140 = 0 ∨ q_140 = 1 then some q_140 else none else (if σ (k1 + 3) (Int32.toNatClampNeg a4) = (11 : Int32) then (xm_L_argumentsOf σ k0 k1 a2 (σ (k1 + 4) (Int32.toNatClampNeg a4)) (σ (k1 + 5) (Int32.toNatClampNeg a4))).bind fun q_151 => (if q_151 = (-1 : Int32) then some (0 : Int32) else some (1 : Int32)) else some (1 : Int32))))) else none else none else none
set_option maxHeartbeats 4000000 in
set_option maxRecDepth 100000 in
theorem xc_L_isRight (σ : aw_m) (k0 : Nat) (k1 : Nat) (a2 : Int32) (a3 : Int32) (a4 : Int32) (q : Int32) (hk0 : kd_k k0 = 4) (hk1 : kd_k k1 = 1) (hm : xm_L_isRight σ k0 k1 a2 a3 a4 = some q) : aw_M l D (ty_z ids) (zs_T ps) xy_L_isRight (xw_L_isRight :: gw_l) (rm_D (3)) [.ref (ad k0), .ref (ad k1), .int a2, .int a3, .int a4] (cw_w ad ids σ) (some (.int q)) (cw_w ad ids σ) := by
  refine aw_intro (cc := xb_L_isRight) (n := 7) (ret := (some .boolean)) "ModuleShelf$Library" rfl (by decide) rfl (Nat.le_of_ble_eq_true rfl) ?_
  intro κ C
  unfold xm_L_isRight at hm
  refine aw_aload_n C 1 xd_L_isRight_0 rfl rfl ?_
  refine aw_get C k1 (kd_lt hk1) (ly_C hk1) rfl (fun w h => List.mem_cons_of_mem _ (xi_C w h)) 5 (by decide) rfl (List.mem_cons_of_mem _ fl_L_57) xd_L_isRight_1 ?_
  refine aw_iload C 4 xd_L_isRight_4 rfl ?_
  obtain ⟨g_6, hm⟩ := aw_grd hm
  refine aw_iald C (k1 + 4) (kd_lt (kf_C_as hk1)) 0 (ly_A42 (kf_C_as hk1)) rfl (aw_in_ok g_6) xd_L_isRight_6 ?_
  refine aw_istore (L' := [(5, .int (σ (k1 + 4) (Int32.toNatClampNeg a4))), (0, .ref (ad k0)), (1, .ref (ad k1)), (2, .int a2), (3, .int a3), (4, .int a4)]) C xd_L_isRight_7 (by decide) rfl ?_
  refine aw_aload_n C 2 xd_L_isRight_9 rfl rfl ?_
  refine aw_get C k1 (kd_lt hk1) (ly_C hk1) rfl (fun w h => List.mem_cons_of_mem _ (xi_C w h)) 6 (by decide) rfl (List.mem_cons_of_mem _ fl_L_61) xd_L_isRight_10 ?_
  refine aw_iload C 5 xd_L_isRight_13 rfl ?_
  obtain ⟨g_15, hm⟩ := aw_grd hm
  refine aw_iald C (k1 + 5) (kd_lt (kf_C_bs hk1)) 0 (ly_A42 (kf_C_bs hk1)) rfl (aw_in_ok g_15) xd_L_isRight_15 ?_
  refine aw_istore (L' := [(6, .int (σ (k1 + 5) (Int32.toNatClampNeg a4))), (5, .int (σ (k1 + 4) (Int32.toNatClampNeg a4))), (0, .ref (ad k0)), (1, .ref (ad k1)), (2, .int a2), (3, .int a3), (4, .int a4)]) C xd_L_isRight_16 (by decide) rfl ?_
  refine aw_aload_n C 3 xd_L_isRight_18 rfl rfl ?_
  refine aw_get C k1 (kd_lt hk1) (ly_C hk1) rfl (fun w h => List.mem_cons_of_mem _ (xi_C w h)) 4 (by decide) rfl (List.mem_cons_of_mem _ fl_L_64) xd_L_isRight_19 ?_
  refine aw_iload C 6 xd_L_isRight_22 rfl ?_
  obtain ⟨g_24, hm⟩ := aw_grd hm
  refine aw_iald C (k1 + 3) (kd_lt (kf_C_ops hk1)) 0 (ly_A42 (kf_C_ops hk1)) rfl (aw_in_ok g_24) xd_L_isRight_24 ?_
  by_cases c_25_1 : σ (k1 + 3) (Int32.toNatClampNeg a4) = (1 : Int32)
  · rw [if_pos c_25_1] at hm
    refine aw_lookup (off := 43) (tgt := 68) C xd_L_isRight_25 (by decide) (by rw [c_25_1]; decide) (by decide) ?_
    refine aw_iload C 1 xd_L_isRight_68 rfl ?_
    refine aw_if_lt (tgt := 87) C xd_L_isRight_70 (by decide) (fun c_70 => ?_) (fun c_70 => ?_)
    · rw [if_pos c_70] at hm
      refine aw_iconst (v := (0 : Int32)) C xd_L_isRight_87 (by decide) ?_
      cases hm
      exact aw_zret C (by decide) xd_L_isRight_88
    · rw [if_neg c_70] at hm
      refine aw_iload C 1 xd_L_isRight_73 rfl ?_
      refine aw_aload_n C 3 xd_L_isRight_75 rfl rfl ?_
      refine aw_iload_n C 5 xd_L_isRight_76 rfl rfl ?_
      obtain ⟨q_77, e_77, hm⟩ := aw_bnd hm
      refine aw_callVi (As := [.int a3]) (rest := [.int (σ (k1 + 4) (Int32.toNatClampNeg a4))]) (b := ad k1) C (xc_C_argumentsOf σ k1 a3 _ hk1 e_77) rfl (gw_sub (gw_V xg_C_argumentsOf ml_L_67 im_C_argumentsOf se_C_argumentsOf wi_C)) na_C_argumentsOf (rm_lt (by decide) (by decide)) ⟨Nat.zero_le _, Nat.zero_le _⟩ k1 (at_C hk1) rfl rfl (Nat.le_of_ble_eq_true rfl) xd_L_isRight_77 ?_
      refine aw_icmp_ge (tgt := 87) C xd_L_isRight_80 (by decide) (fun c_80 => ?_) (fun c_80 => ?_)
      · rw [if_pos c_80] at hm
        refine aw_iconst (v := (0 : Int32)) C xd_L_isRight_87 (by decide) ?_
        cases hm
        exact aw_zret C (by decide) xd_L_isRight_88
      · rw [if_neg c_80] at hm
        refine aw_iconst (v := (1 : Int32)) C xd_L_isRight_83 (by decide) ?_
        refine aw_goto (tgt := 88) C xd_L_isRight_84 (by decide) ?_
        cases hm
        exact aw_zret C (by decide) xd_L_isRight_88
  rw [if_neg c_25_1] at hm
  by_cases c_25_2 : σ (k1 + 3) (Int32.toNatClampNeg a4) = (2 : Int32)
  · rw [if_pos c_25_2] at hm
    refine aw_lookup (off := 64) (tgt := 89) C xd_L_isRight_25 (by decide) (by rw [c_25_2]; decide) (by decide) ?_
    refine aw_iload C 1 xd_L_isRight_89 rfl ?_
    refine aw_iload_n C 4 xd_L_isRight_91 rfl rfl ?_
    refine aw_icmp_ne (tgt := 104) C xd_L_isRight_92 (by decide) (fun c_92 => ?_) (fun c_92 => ?_)
    · rw [if_neg c_92] at hm
      refine aw_aload_n C 2 xd_L_isRight_104 rfl rfl ?_
      refine aw_iload C 1 xd_L_isRight_105 rfl ?_
      obtain ⟨q_107, e_107, hm⟩ := aw_bnd hm
      refine aw_callVi (As := [.int (σ (k1 + 4) (Int32.toNatClampNeg a4))]) (rest := []) (b := ad k0) C (xc_L_has σ k0 (σ (k1 + 4) (Int32.toNatClampNeg a4)) _ hk0 e_107) rfl (gw_sub (gw_V xg_L_has ml_L_26 im_L_has se_L_has wi_L)) na_L_has (rm_lt (by decide) (by decide)) ⟨Nat.zero_le _, Nat.zero_le _⟩ k0 (at_L hk0) rfl rfl (Nat.le_of_ble_eq_true rfl) xd_L_isRight_107 ?_
      refine aw_if_eq (tgt := 135) C xd_L_isRight_110 (by decide) (fun c_110 => ?_) (fun c_110 => ?_)
      · rw [if_pos c_110] at hm
        refine aw_iconst (v := (0 : Int32)) C xd_L_isRight_135 (by decide) ?_
        cases hm
        exact aw_zret C (by decide) xd_L_isRight_136
      · rw [if_neg c_110] at hm
        refine aw_aload_n C 2 xd_L_isRight_113 rfl rfl ?_
        refine aw_get C k0 (kd_lt hk0) (ly_L hk0) rfl (fun w h => List.mem_cons_of_mem _ (xi_L w h)) 0 (by decide) rfl (List.mem_cons_of_mem _ fl_L_11) xd_L_isRight_114 ?_
        refine aw_iload C 1 xd_L_isRight_117 rfl ?_
        obtain ⟨g_119, hm⟩ := aw_grd hm
        refine aw_aald C (k0 + 1) (kd_lt (kf_L_units hk0)) 2 (ly_U6 (kf_L_units hk0)) rfl (aw_in_ok g_119) rfl xd_L_isRight_119 ?_
        refine aw_get C (k0 + 1 + 1 + 9 * (Int32.toNatClampNeg (σ (k1 + 4) (Int32.toNatClampNeg a4)))) (kd_lt (ka_U6 (kf_L_units hk0) (aw_in_lt g_119))) (ly_U (ka_U6 (kf_L_units hk0) (aw_in_lt g_119))) rfl (fun w h => List.mem_cons_of_mem _ (xi_U w h)) 5 (by decide) rfl (List.mem_cons_of_mem _ fl_L_73) xd_L_isRight_120 ?_
        refine aw_iload C 0 xd_L_isRight_123 rfl ?_
        obtain ⟨q_125, e_125, hm⟩ := aw_bnd hm
        refine aw_callVi (As := [.int (σ (k1 + 5) (Int32.toNatClampNeg a4))]) (rest := []) (b := ad ((k0 + 1 + 1 + 9 * (Int32.toNatClampNeg (σ (k1 + 4) (Int32.toNatClampNeg a4)))) + 3)) C (xc_C_hasVariable σ ((k0 + 1 + 1 + 9 * (Int32.toNatClampNeg (σ (k1 + 4) (Int32.toNatClampNeg a4)))) + 3) (σ (k1 + 5) (Int32.toNatClampNeg a4)) _ (kf_U_code (ka_U6 (kf_L_units hk0) (aw_in_lt g_119))) e_125) rfl (gw_sub (gw_V xg_C_hasVariable ml_L_70 im_C_hasVariable se_C_hasVariable wi_C)) na_C_hasVariable (rm_lt (by decide) (by decide)) ⟨Nat.zero_le _, Nat.zero_le _⟩ ((k0 + 1 + 1 + 9 * (Int32.toNatClampNeg (σ (k1 + 4) (Int32.toNatClampNeg a4)))) + 3) (at_C (kf_U_code (ka_U6 (kf_L_units hk0) (aw_in_lt g_119)))) rfl rfl (Nat.le_of_ble_eq_true rfl) xd_L_isRight_125 ?_
        refine aw_if_eq (tgt := 135) C xd_L_isRight_128 (by decide) (fun c_128 => ?_) (fun c_128 => ?_)
        · rw [if_pos c_128] at hm
          refine aw_iconst (v := (0 : Int32)) C xd_L_isRight_135 (by decide) ?_
          cases hm
          exact aw_zret C (by decide) xd_L_isRight_136
        · rw [if_neg c_128] at hm
          refine aw_iconst (v := (1 : Int32)) C xd_L_isRight_131 (by decide) ?_
          refine aw_goto (tgt := 136) C xd_L_isRight_132 (by decide) ?_
          cases hm
          exact aw_zret C (by decide) xd_L_isRight_136
    · rw [if_pos c_92] at hm
      refine aw_aload_n C 3 xd_L_isRight_95 rfl rfl ?_
      refine aw_iload C 0 xd_L_isRight_96 rfl ?_
      obtain ⟨q_98, e_98, hm⟩ := aw_bnd hm
      refine aw_callVi (As := [.int (σ (k1 + 5) (Int32.toNatClampNeg a4))]) (rest := []) (b := ad k1) C (xc_C_hasVariable σ k1 (σ (k1 + 5) (Int32.toNatClampNeg a4)) _ hk1 e_98) rfl (gw_sub (gw_V xg_C_hasVariable ml_L_70 im_C_hasVariable se_C_hasVariable wi_C)) na_C_hasVariable (rm_lt (by decide) (by decide)) ⟨Nat.zero_le _, Nat.zero_le _⟩ k1 (at_C hk1) rfl rfl (Nat.le_of_ble_eq_true rfl) xd_L_isRight_98 ?_
      refine aw_goto (tgt := 136) C xd_L_isRight_101 (by decide) ?_
      obtain ⟨g_136, hm⟩ := aw_grd hm
      cases hm
      exact aw_zret C g_136 xd_L_isRight_136
  rw [if_neg c_25_2] at hm
  by_cases c_25_3 : σ (k1 + 3) (Int32.toNatClampNeg a4) = (3 : Int32)
  · rw [if_pos c_25_3] at hm
    refine aw_lookup (off := 112) (tgt := 137) C xd_L_isRight_25 (by decide) (by rw [c_25_3]; decide) (by decide) ?_
    refine aw_aload_n C 3 xd_L_isRight_137 rfl rfl ?_
    refine aw_iload C 0 xd_L_isRight_138 rfl ?_
    obtain ⟨q_140, e_140, hm⟩ := aw_bnd hm
    refine aw_callVi (As := [.int (σ (k1 + 5) (Int32.toNatClampNeg a4))]) (rest := []) (b := ad k1) C (xc_C_hasVariable σ k1 (σ (k1 + 5) (Int32.toNatClampNeg a4)) _ hk1 e_140) rfl (gw_sub (gw_V xg_C_hasVariable ml_L_70 im_C_hasVariable se_C_hasVariable wi_C)) na_C_hasVariable (rm_lt (by decide) (by decide)) ⟨Nat.zero_le _, Nat.zero_le _⟩ k1 (at_C hk1) rfl rfl (Nat.le_of_ble_eq_true rfl) xd_L_isRight_140 ?_
    obtain ⟨g_143, hm⟩ := aw_grd hm
    cases hm
    exact aw_zret C g_143 xd_L_isRight_143
  rw [if_neg c_25_3] at hm
  by_cases c_25_11 : σ (k1 + 3) (Int32.toNatClampNeg a4) = (11 : Int32)
  · rw [if_pos c_25_11] at hm
    refine aw_lookup (off := 119) (tgt := 144) C xd_L_isRight_25 (by decide) (by rw [c_25_11]; decide) (by decide) ?_
    refine aw_aload_n C 2 xd_L_isRight_144 rfl rfl ?_
    refine aw_aload_n C 3 xd_L_isRight_145 rfl rfl ?_
    refine aw_iload_n C 4 xd_L_isRight_146 rfl rfl ?_
    refine aw_iload C 1 xd_L_isRight_147 rfl ?_
    refine aw_iload C 0 xd_L_isRight_149 rfl ?_
    obtain ⟨q_151, e_151, hm⟩ := aw_bnd hm
    refine aw_callVi (As := [.ref (ad k1), .int a2, .int (σ (k1 + 4) (Int32.toNatClampNeg a4)), .int (σ (k1 + 5) (Int32.toNatClampNeg a4))]) (rest := []) (b := ad k0) C (xc_L_argumentsOf σ k0 k1 a2 (σ (k1 + 4) (Int32.toNatClampNeg a4)) (σ (k1 + 5) (Int32.toNatClampNeg a4)) _ hk0 hk1 e_151) rfl (gw_sub (gw_V xg_L_argumentsOf ml_L_77 im_L_argumentsOf se_L_argumentsOf wi_L)) na_L_argumentsOf (rm_lt (by decide) (by decide)) ⟨Nat.zero_le _, Nat.zero_le _⟩ k0 (at_L hk0) rfl rfl (Nat.le_of_ble_eq_true rfl) xd_L_isRight_151 ?_
    refine aw_iconst (v := (-1 : Int32)) C xd_L_isRight_154 (by decide) ?_
    refine aw_icmp_eq (tgt := 162) C xd_L_isRight_155 (by decide) (fun c_155 => ?_) (fun c_155 => ?_)
    · rw [if_pos c_155] at hm
      refine aw_iconst (v := (0 : Int32)) C xd_L_isRight_162 (by decide) ?_
      cases hm
      exact aw_zret C (by decide) xd_L_isRight_163
    · rw [if_neg c_155] at hm
      refine aw_iconst (v := (1 : Int32)) C xd_L_isRight_158 (by decide) ?_
      refine aw_goto (tgt := 163) C xd_L_isRight_159 (by decide) ?_
      cases hm
      exact aw_zret C (by decide) xd_L_isRight_163
  rw [if_neg c_25_11] at hm
  refine aw_lookup (off := 139) (tgt := 164) C xd_L_isRight_25 (by decide) (by show Op.lookupswitch.offset [(1, 43), (2, 64), (3, 112), (11, 119)] _ _ = _; rw [lv_osw c_25_1 (by decide), lv_osw c_25_2 (by decide), lv_osw c_25_3 (by decide), lv_osw c_25_11 (by decide)]; rfl) (by decide) ?_
  refine aw_iconst (v := (1 : Int32)) C xd_L_isRight_164 (by decide) ?_
  cases hm
  exact aw_zret C (by decide) xd_L_isRight_165
def xq_L_isExpression_68 (W : aw_m → Nat → Nat → Int32 → Int32 → Int32 → Option (Int32 × aw_m))  : Nat → aw_m → Nat → Nat → Int32 → Int32 → Int32 → Int32 → Int32 → Int32 → Option (Int32 × aw_m)
  | 0, _, _, _, _, _, _, _, _, _ => none
  | n + 1, σ, j0, j1, v2, v3, v4, v5, v6, v7 => (if v6 ≤ v7 then some ((1 : Int32), σ) else (W σ j0 j1 v2 v3 (v4 + (1 : Int32))).bind fun q_83 => (if q_83.1 = 0 then some ((0 : Int32), q_83.2) else xq_L_isExpression_68 W n q_83.2 j0 j1 v2 v3 v4 v5 v6 (v7 + (1 : Int32))))
def xm_L_isExpression_b (W : aw_m → Nat → Nat → Int32 → Int32 → Int32 → Option (Int32 × aw_m)) (σ : aw_m) (k0 : Nat) (k1 : Nat) (a2 : Int32) (a3 : Int32) (a4 : Int32) : Option (Int32 × aw_m) := (if (4 : Int32) < a4 then some ((0 : Int32), σ) else (xm_C_lengthOf σ k1 a3).bind fun q_12 => (if σ k0 2 < q_12 then (xm_C_cellOf σ k1 a3 (σ k0 2)).bind fun q_26 => (xm_L_isRight σ k0 k1 a2 a3 q_26).bind fun q_37 => (if q_37 = 0 then some ((0 : Int32), σ) else (xm_L_partsOf σ k0 k1 a2 q_26).bind fun q_50 => aw_l (aw_p σ k0 2 ((σ k0 2) + (1 : Int32))) fun s_62 => xq_L_isExpression_68 W 64 s_62 k0 k1 a2 a3 a4 q_26 q_50 (0 : Int32)) else some ((0 : Int32), σ)))
def xm_L_isExpression : Nat → aw_m → Nat → Nat → Int32 → Int32 → Int32 → Option (Int32 × aw_m)
  | 0 => fun _ _ _ _ _ _ => none
  | d + 1 => xm_L_isExpression_b (xm_L_isExpression d)
set_option maxHeartbeats 4000000 in
set_option maxRecDepth 100000 in
theorem xl_L_isExpression_68 (W : aw_m → Nat → Nat → Int32 → Int32 → Int32 → Option (Int32 × aw_m)) (dw : Nat) (hW : ∀ (σ : aw_m) (k0 : Nat) (k1 : Nat) (a2 : Int32) (a3 : Int32) (a4 : Int32) (q : Int32 × aw_m) (hk0 : kd_k k0 = 4) (hk1 : kd_k k1 = 1), W σ k0 k1 a2 a3 a4 = some q → aw_M l D (ty_z ids) (zs_T ps) xy_L_isExpression (xw_L_isExpression :: gw_l) (rm_D (dw)) [.ref (ad k0), .ref (ad k1), .int a2, .int a3, .int a4] (cw_w ad ids σ) (some (.int q.1)) (cw_w ad ids q.2))  {κ : aw_K} (q : Int32 × aw_m) (C : aw_X l D (ty_z ids) (zs_T ps) (rm_D (dw + 4)) xb_L_isExpression 8 "ModuleShelf$Library" (xw_L_isExpression :: gw_l) (some .boolean) (some (.int q.1)) (cw_w ad ids q.2) κ) : ∀ (n : Nat) (σ : aw_m) (j0 : Nat) (j1 : Nat) (v2 : Int32) (v3 : Int32) (v4 : Int32) (v5 : Int32) (v6 : Int32) (v7 : Int32) (hj0 : kd_k j0 = 4) (hj1 : kd_k j1 = 1), xq_L_isExpression_68 W n σ j0 j1 v2 v3 v4 v5 v6 v7 = some q → aw_J κ 0 0 (cw_w ad ids σ) [(0, .ref (ad j0)), (1, .ref (ad j1)), (2, .int v2), (3, .int v3), (4, .int v4), (5, .int v5), (6, .int v6), (7, .int v7)] 68 [] := by
  intro n
  induction n with
  | zero => intro σ j0 j1 v2 v3 v4 v5 v6 v7 hj0 hj1 hm; cases hm
  | succ n ih =>
    intro σ j0 j1 v2 v3 v4 v5 v6 v7 hj0 hj1 hm
    rw [xq_L_isExpression_68] at hm
    refine aw_iload C 7 xd_L_isExpression_68 rfl ?_
    refine aw_iload C 6 xd_L_isExpression_70 rfl ?_
    refine aw_icmp_ge (tgt := 97) C xd_L_isExpression_72 (by decide) (fun c_72 => ?_) (fun c_72 => ?_)
    · rw [if_pos c_72] at hm
      refine aw_iconst (v := (1 : Int32)) C xd_L_isExpression_97 (by decide) ?_
      cases hm
      exact aw_zret C (by decide) xd_L_isExpression_98
    · rw [if_neg c_72] at hm
      refine aw_aload_n C 0 xd_L_isExpression_75 rfl rfl ?_
      refine aw_aload_n C 1 xd_L_isExpression_76 rfl rfl ?_
      refine aw_iload_n C 2 xd_L_isExpression_77 rfl rfl ?_
      refine aw_iload_n C 3 xd_L_isExpression_78 rfl rfl ?_
      refine aw_iload C 4 xd_L_isExpression_79 rfl ?_
      refine aw_iconst (v := (1 : Int32)) C xd_L_isExpression_81 (by decide) ?_
      refine aw_iadd C xd_L_isExpression_82 ?_
      obtain ⟨q_83, e_83, hm⟩ := aw_bnd hm
      refine aw_callVi (As := [.ref (ad j1), .int v2, .int v3, .int (v4 + (1 : Int32))]) (rest := []) (b := ad j0) C (hW σ j0 j1 v2 v3 (v4 + (1 : Int32)) _ hj0 hj1 e_83) rfl (gw_sub (gw_V xg_L_isExpression ml_L_38 im_L_isExpression se_L_isExpression wi_L)) na_L_isExpression (rm_lt (by omega) (by decide)) ⟨Nat.zero_le _, Nat.zero_le _⟩ j0 (at_L hj0) rfl rfl (Nat.le_of_ble_eq_true rfl) xd_L_isExpression_83 ?_
      refine aw_if_ne (tgt := 91) C xd_L_isExpression_86 (by decide) (fun c_86 => ?_) (fun c_86 => ?_)
      · rw [if_neg c_86] at hm
        refine aw_iinc (j := 7) (v := v7 + (1 : Int32)) (L' := [(7, .int (v7 + (1 : Int32))), (0, .ref (ad j0)), (1, .ref (ad j1)), (2, .int v2), (3, .int v3), (4, .int v4), (5, .int v5), (6, .int v6)]) C xd_L_isExpression_91 rfl rfl (by decide) rfl ?_
        refine aw_goto (tgt := 68) C xd_L_isExpression_94 (by decide) ?_
        refine aw_loc (L' := [(0, .ref (ad j0)), (1, .ref (ad j1)), (2, .int v2), (3, .int v3), (4, .int v4), (5, .int v5), (6, .int v6), (7, .int (v7 + (1 : Int32)))]) C [1, 2, 3, 4, 5, 6, 7, 0] rfl ?_
        exact ih q_83.2 j0 j1 v2 v3 v4 v5 v6 (v7 + (1 : Int32)) hj0 hj1 hm
      · rw [if_pos c_86] at hm
        refine aw_iconst (v := (0 : Int32)) C xd_L_isExpression_89 (by decide) ?_
        cases hm
        exact aw_zret C (by decide) xd_L_isExpression_90
set_option maxHeartbeats 4000000 in
set_option maxRecDepth 100000 in
theorem xc_L_isExpression_b (W : aw_m → Nat → Nat → Int32 → Int32 → Int32 → Option (Int32 × aw_m)) (dw : Nat) (hW : ∀ (σ : aw_m) (k0 : Nat) (k1 : Nat) (a2 : Int32) (a3 : Int32) (a4 : Int32) (q : Int32 × aw_m) (hk0 : kd_k k0 = 4) (hk1 : kd_k k1 = 1), W σ k0 k1 a2 a3 a4 = some q → aw_M l D (ty_z ids) (zs_T ps) xy_L_isExpression (xw_L_isExpression :: gw_l) (rm_D (dw)) [.ref (ad k0), .ref (ad k1), .int a2, .int a3, .int a4] (cw_w ad ids σ) (some (.int q.1)) (cw_w ad ids q.2)) (σ : aw_m) (k0 : Nat) (k1 : Nat) (a2 : Int32) (a3 : Int32) (a4 : Int32) (q : Int32 × aw_m) (hk0 : kd_k k0 = 4) (hk1 : kd_k k1 = 1) (hm : xm_L_isExpression_b W σ k0 k1 a2 a3 a4 = some q) : aw_M l D (ty_z ids) (zs_T ps) xy_L_isExpression (xw_L_isExpression :: gw_l) (rm_D (dw + 4)) [.ref (ad k0), .ref (ad k1), .int a2, .int a3, .int a4] (cw_w ad ids σ) (some (.int q.1)) (cw_w ad ids q.2) := by
  refine aw_intro (cc := xb_L_isExpression) (n := 8) (ret := (some .boolean)) "ModuleShelf$Library" rfl (by decide) rfl (Nat.le_of_ble_eq_true rfl) ?_
  intro κ C
  unfold xm_L_isExpression_b at hm
  refine aw_iload C 4 xd_L_isExpression_0 rfl ?_
  refine aw_iconst (v := (4 : Int32)) C xd_L_isExpression_2 (by decide) ?_
  refine aw_icmp_gt (tgt := 18) C xd_L_isExpression_3 (by decide) (fun c_3 => ?_) (fun c_3 => ?_)
  · rw [if_pos c_3] at hm
    refine aw_iconst (v := (0 : Int32)) C xd_L_isExpression_18 (by decide) ?_
    cases hm
    exact aw_zret C (by decide) xd_L_isExpression_19
  · rw [if_neg c_3] at hm
    refine aw_aload_n C 0 xd_L_isExpression_6 rfl rfl ?_
    refine aw_get C k0 (kd_lt hk0) (ly_L hk0) rfl (fun w h => List.mem_cons_of_mem _ (xi_L w h)) 2 (by decide) rfl (List.mem_cons_of_mem _ fl_L_35) xd_L_isExpression_7 ?_
    refine aw_aload_n C 1 xd_L_isExpression_10 rfl rfl ?_
    refine aw_iload_n C 3 xd_L_isExpression_11 rfl rfl ?_
    obtain ⟨q_12, e_12, hm⟩ := aw_bnd hm
    refine aw_callVi (As := [.int a3]) (rest := [.int (σ k0 2)]) (b := ad k1) C (xc_C_lengthOf σ k1 a3 _ hk1 e_12) rfl (gw_sub (gw_V xg_C_lengthOf ml_L_42 im_C_lengthOf se_C_lengthOf wi_C)) na_C_lengthOf (rm_lt (by omega) (by decide)) ⟨Nat.zero_le _, Nat.zero_le _⟩ k1 (at_C hk1) rfl rfl (Nat.le_of_ble_eq_true rfl) xd_L_isExpression_12 ?_
    refine aw_icmp_lt (tgt := 20) C xd_L_isExpression_15 (by decide) (fun c_15 => ?_) (fun c_15 => ?_)
    · rw [if_pos c_15] at hm
      refine aw_aload_n C 1 xd_L_isExpression_20 rfl rfl ?_
      refine aw_iload_n C 3 xd_L_isExpression_21 rfl rfl ?_
      refine aw_aload_n C 0 xd_L_isExpression_22 rfl rfl ?_
      refine aw_get C k0 (kd_lt hk0) (ly_L hk0) rfl (fun w h => List.mem_cons_of_mem _ (xi_L w h)) 2 (by decide) rfl (List.mem_cons_of_mem _ fl_L_35) xd_L_isExpression_23 ?_
      obtain ⟨q_26, e_26, hm⟩ := aw_bnd hm
      refine aw_callVi (As := [.int a3, .int (σ k0 2)]) (rest := []) (b := ad k1) C (xc_C_cellOf σ k1 a3 (σ k0 2) _ hk1 e_26) rfl (gw_sub (gw_V xg_C_cellOf ml_L_46 im_C_cellOf se_C_cellOf wi_C)) na_C_cellOf (rm_lt (by omega) (by decide)) ⟨Nat.zero_le _, Nat.zero_le _⟩ k1 (at_C hk1) rfl rfl (Nat.le_of_ble_eq_true rfl) xd_L_isExpression_26 ?_
      refine aw_istore (L' := [(5, .int q_26), (0, .ref (ad k0)), (1, .ref (ad k1)), (2, .int a2), (3, .int a3), (4, .int a4)]) C xd_L_isExpression_29 (by decide) rfl ?_
      refine aw_aload_n C 1 xd_L_isExpression_31 rfl rfl ?_
      refine aw_aload_n C 2 xd_L_isExpression_32 rfl rfl ?_
      refine aw_iload_n C 3 xd_L_isExpression_33 rfl rfl ?_
      refine aw_iload_n C 4 xd_L_isExpression_34 rfl rfl ?_
      refine aw_iload C 0 xd_L_isExpression_35 rfl ?_
      obtain ⟨q_37, e_37, hm⟩ := aw_bnd hm
      refine aw_callVi (As := [.ref (ad k1), .int a2, .int a3, .int q_26]) (rest := []) (b := ad k0) C (xc_L_isRight σ k0 k1 a2 a3 q_26 _ hk0 hk1 e_37) rfl (gw_sub (gw_V xg_L_isRight ml_L_50 im_L_isRight se_L_isRight wi_L)) na_L_isRight (rm_lt (by omega) (by decide)) ⟨Nat.zero_le _, Nat.zero_le _⟩ k0 (at_L hk0) rfl rfl (Nat.le_of_ble_eq_true rfl) xd_L_isExpression_37 ?_
      refine aw_if_ne (tgt := 45) C xd_L_isExpression_40 (by decide) (fun c_40 => ?_) (fun c_40 => ?_)
      · rw [if_neg c_40] at hm
        refine aw_aload_n C 1 xd_L_isExpression_45 rfl rfl ?_
        refine aw_aload_n C 2 xd_L_isExpression_46 rfl rfl ?_
        refine aw_iload_n C 3 xd_L_isExpression_47 rfl rfl ?_
        refine aw_iload C 0 xd_L_isExpression_48 rfl ?_
        obtain ⟨q_50, e_50, hm⟩ := aw_bnd hm
        refine aw_callVi (As := [.ref (ad k1), .int a2, .int q_26]) (rest := []) (b := ad k0) C (xc_L_partsOf σ k0 k1 a2 q_26 _ hk0 hk1 e_50) rfl (gw_sub (gw_V xg_L_partsOf ml_L_53 im_L_partsOf se_L_partsOf wi_L)) na_L_partsOf (rm_lt (by omega) (by decide)) ⟨Nat.zero_le _, Nat.zero_le _⟩ k0 (at_L hk0) rfl rfl (Nat.le_of_ble_eq_true rfl) xd_L_isExpression_50 ?_
        refine aw_istore (L' := [(6, .int q_50), (5, .int q_26), (0, .ref (ad k0)), (1, .ref (ad k1)), (2, .int a2), (3, .int a3), (4, .int a4)]) C xd_L_isExpression_53 (by decide) rfl ?_
        refine aw_aload_n C 2 xd_L_isExpression_55 rfl rfl ?_
        refine aw_dup C xd_L_isExpression_56 rfl ?_
        refine aw_get C k0 (kd_lt hk0) (ly_L hk0) rfl (fun w h => List.mem_cons_of_mem _ (xi_L w h)) 2 (by decide) rfl (List.mem_cons_of_mem _ fl_L_35) xd_L_isExpression_57 ?_
        refine aw_iconst (v := (1 : Int32)) C xd_L_isExpression_60 (by decide) ?_
        refine aw_iadd C xd_L_isExpression_61 ?_
        obtain ⟨s_62, h_62, hm⟩ := aw_let hm
        refine aw_put (σ1 := s_62) (f := upd (σ k0) 2 ((σ k0 2) + (1 : Int32))) C k0 (kd_lt hk0) (ly_L hk0) rfl (fun w h => List.mem_cons_of_mem _ (xi_L w h)) xk_L xo_L xn_L 2 (by decide) (List.mem_cons_of_mem _ fl_L_35) rfl (ty := .int) (by decide +kernel) rfl rfl (Nat.le_of_ble_eq_true rfl) (ly_L hk0) h_62 xd_L_isExpression_62 ?_
        refine aw_iconst (v := (0 : Int32)) C xd_L_isExpression_65 (by decide) ?_
        refine aw_istore (L' := [(7, .int (0 : Int32)), (6, .int q_50), (5, .int q_26), (0, .ref (ad k0)), (1, .ref (ad k1)), (2, .int a2), (3, .int a3), (4, .int a4)]) C xd_L_isExpression_66 (by decide) rfl ?_
        refine aw_loc (L' := [(0, .ref (ad k0)), (1, .ref (ad k1)), (2, .int a2), (3, .int a3), (4, .int a4), (5, .int q_26), (6, .int q_50), (7, .int (0 : Int32))]) C [3, 4, 5, 6, 7, 2, 1, 0] rfl ?_
        exact xl_L_isExpression_68 W dw hW _ C 64 s_62 k0 k1 a2 a3 a4 q_26 q_50 (0 : Int32) hk0 hk1 hm
      · rw [if_pos c_40] at hm
        refine aw_iconst (v := (0 : Int32)) C xd_L_isExpression_43 (by decide) ?_
        cases hm
        exact aw_zret C (by decide) xd_L_isExpression_44
    · rw [if_neg c_15] at hm
      refine aw_iconst (v := (0 : Int32)) C xd_L_isExpression_18 (by decide) ?_
      cases hm
      exact aw_zret C (by decide) xd_L_isExpression_19
theorem xc_L_isExpression (d : Nat) : ∀ (σ : aw_m) (k0 : Nat) (k1 : Nat) (a2 : Int32) (a3 : Int32) (a4 : Int32) (q : Int32 × aw_m) (hk0 : kd_k k0 = 4) (hk1 : kd_k k1 = 1), xm_L_isExpression d σ k0 k1 a2 a3 a4 = some q → aw_M l D (ty_z ids) (zs_T ps) xy_L_isExpression (xw_L_isExpression :: gw_l) (rm_D (4 * d)) [.ref (ad k0), .ref (ad k1), .int a2, .int a3, .int a4] (cw_w ad ids σ) (some (.int q.1)) (cw_w ad ids q.2) := by
  induction d with
  | zero => intro σ k0 k1 a2 a3 a4 q hk0 hk1 hm; cases hm
  | succ d ih =>
    intro σ k0 k1 a2 a3 a4 q hk0 hk1 hm
    have h := xc_L_isExpression_b (xm_L_isExpression d) (4 * d) ih σ k0 k1 a2 a3 a4 q hk0 hk1 hm
    exact h
def xq_L_firstWrong_2  : Nat → aw_m → Nat → Nat → Int32 → Int32 → Option (Int32 × aw_m)
  | 0, _, _, _, _, _ => none
  | n + 1, σ, j0, j1, v2, v3 => (if σ j1 1 ≤ v3 then some ((-1 : Int32), σ) else aw_l (aw_p σ j0 2 (0 : Int32)) fun s_12 => (xm_L_isExpression 8 s_12 j0 j1 v2 v3 (0 : Int32)).bind fun q_20 => (if q_20.1 = 0 then some (((16 : Int32) * v3) + (q_20.2 j0 2), q_20.2) else (xm_C_lengthOf q_20.2 j1 v3).bind fun q_32 => (if q_32 ≤ q_20.2 j0 2 then xq_L_firstWrong_2 n q_20.2 j0 j1 v2 (v3 + (1 : Int32)) else some (((16 : Int32) * v3) + (q_20.2 j0 2), q_20.2))))
def xm_L_firstWrong (σ : aw_m) (k0 : Nat) (k1 : Nat) (a2 : Int32) : Option (Int32 × aw_m) := xq_L_firstWrong_2 64 σ k0 k1 a2 (0 : Int32)
set_option maxHeartbeats 4000000 in
set_option maxRecDepth 100000 in
theorem xl_L_firstWrong_2  {κ : aw_K} (q : Int32 × aw_m) (C : aw_X l D (ty_z ids) (zs_T ps) (rm_D (33)) xb_L_firstWrong 4 "ModuleShelf$Library" (xw_L_firstWrong :: gw_l) (some .int) (some (.int q.1)) (cw_w ad ids q.2) κ) : ∀ (n : Nat) (σ : aw_m) (j0 : Nat) (j1 : Nat) (v2 : Int32) (v3 : Int32) (hj0 : kd_k j0 = 4) (hj1 : kd_k j1 = 1), xq_L_firstWrong_2 n σ j0 j1 v2 v3 = some q → aw_J κ 0 0 (cw_w ad ids σ) [(0, .ref (ad j0)), (1, .ref (ad j1)), (2, .int v2), (3, .int v3)] 2 [] := by
  intro n
  induction n with
  | zero => intro σ j0 j1 v2 v3 hj0 hj1 hm; cases hm
  | succ n ih =>
    intro σ j0 j1 v2 v3 hj0 hj1 hm
    rw [xq_L_firstWrong_2] at hm
    refine aw_iload_n C 3 xd_L_firstWrong_2 rfl rfl ?_
    refine aw_aload_n C 1 xd_L_firstWrong_3 rfl rfl ?_
    refine aw_get C j1 (kd_lt hj1) (ly_C hj1) rfl (fun w h => List.mem_cons_of_mem _ (xi_C w h)) 1 (by decide) rfl (List.mem_cons_of_mem _ fl_L_29) xd_L_firstWrong_4 ?_
    refine aw_icmp_ge (tgt := 54) C xd_L_firstWrong_7 (by decide) (fun c_7 => ?_) (fun c_7 => ?_)
    · rw [if_pos c_7] at hm
      refine aw_iconst (v := (-1 : Int32)) C xd_L_firstWrong_54 (by decide) ?_
      cases hm
      exact aw_iret C xd_L_firstWrong_55
    · rw [if_neg c_7] at hm
      refine aw_aload_n C 0 xd_L_firstWrong_10 rfl rfl ?_
      refine aw_iconst (v := (0 : Int32)) C xd_L_firstWrong_11 (by decide) ?_
      obtain ⟨s_12, h_12, hm⟩ := aw_let hm
      refine aw_put (σ1 := s_12) (f := upd (σ j0) 2 (0 : Int32)) C j0 (kd_lt hj0) (ly_L hj0) rfl (fun w h => List.mem_cons_of_mem _ (xi_L w h)) xk_L xo_L xn_L 2 (by decide) (List.mem_cons_of_mem _ fl_L_35) rfl (ty := .int) (by decide +kernel) rfl rfl (Nat.le_of_ble_eq_true rfl) (ly_L hj0) h_12 xd_L_firstWrong_12 ?_
      refine aw_aload_n C 0 xd_L_firstWrong_15 rfl rfl ?_
      refine aw_aload_n C 1 xd_L_firstWrong_16 rfl rfl ?_
      refine aw_iload_n C 2 xd_L_firstWrong_17 rfl rfl ?_
      refine aw_iload_n C 3 xd_L_firstWrong_18 rfl rfl ?_
      refine aw_iconst (v := (0 : Int32)) C xd_L_firstWrong_19 (by decide) ?_
      obtain ⟨q_20, e_20, hm⟩ := aw_bnd hm
      refine aw_callVi (As := [.ref (ad j1), .int v2, .int v3, .int (0 : Int32)]) (rest := []) (b := ad j0) C (xc_L_isExpression 8 s_12 j0 j1 v2 v3 (0 : Int32) _ hj0 hj1 e_20) rfl (gw_sub (gw_V xg_L_isExpression ml_L_38 im_L_isExpression se_L_isExpression wi_L)) na_L_isExpression (rm_lt (by decide) (by decide)) ⟨Nat.zero_le _, Nat.zero_le _⟩ j0 (at_L hj0) rfl rfl (Nat.le_of_ble_eq_true rfl) xd_L_firstWrong_20 ?_
      refine aw_if_eq (tgt := 38) C xd_L_firstWrong_23 (by decide) (fun c_23 => ?_) (fun c_23 => ?_)
      · rw [if_pos c_23] at hm
        refine aw_bipush (v := (16 : Int32)) C xd_L_firstWrong_38 (by decide) ?_
        refine aw_iload_n C 3 xd_L_firstWrong_40 rfl rfl ?_
        refine aw_imul C xd_L_firstWrong_41 ?_
        refine aw_aload_n C 0 xd_L_firstWrong_42 rfl rfl ?_
        refine aw_get C j0 (kd_lt hj0) (ly_L hj0) rfl (fun w h => List.mem_cons_of_mem _ (xi_L w h)) 2 (by decide) rfl (List.mem_cons_of_mem _ fl_L_35) xd_L_firstWrong_43 ?_
        refine aw_iadd C xd_L_firstWrong_46 ?_
        cases hm
        exact aw_iret C xd_L_firstWrong_47
      · rw [if_neg c_23] at hm
        refine aw_aload_n C 0 xd_L_firstWrong_26 rfl rfl ?_
        refine aw_get C j0 (kd_lt hj0) (ly_L hj0) rfl (fun w h => List.mem_cons_of_mem _ (xi_L w h)) 2 (by decide) rfl (List.mem_cons_of_mem _ fl_L_35) xd_L_firstWrong_27 ?_
        refine aw_aload_n C 1 xd_L_firstWrong_30 rfl rfl ?_
        refine aw_iload_n C 3 xd_L_firstWrong_31 rfl rfl ?_
        obtain ⟨q_32, e_32, hm⟩ := aw_bnd hm
        refine aw_callVi (As := [.int v3]) (rest := [.int (q_20.2 j0 2)]) (b := ad j1) C (xc_C_lengthOf q_20.2 j1 v3 _ hj1 e_32) rfl (gw_sub (gw_V xg_C_lengthOf ml_L_42 im_C_lengthOf se_C_lengthOf wi_C)) na_C_lengthOf (rm_lt (by decide) (by decide)) ⟨Nat.zero_le _, Nat.zero_le _⟩ j1 (at_C hj1) rfl rfl (Nat.le_of_ble_eq_true rfl) xd_L_firstWrong_32 ?_
        refine aw_icmp_ge (tgt := 48) C xd_L_firstWrong_35 (by decide) (fun c_35 => ?_) (fun c_35 => ?_)
        · rw [if_pos c_35] at hm
          refine aw_iinc (j := 3) (v := v3 + (1 : Int32)) (L' := [(3, .int (v3 + (1 : Int32))), (0, .ref (ad j0)), (1, .ref (ad j1)), (2, .int v2)]) C xd_L_firstWrong_48 rfl rfl (by decide) rfl ?_
          refine aw_goto (tgt := 2) C xd_L_firstWrong_51 (by decide) ?_
          refine aw_loc (L' := [(0, .ref (ad j0)), (1, .ref (ad j1)), (2, .int v2), (3, .int (v3 + (1 : Int32)))]) C [1, 2, 3, 0] rfl ?_
          exact ih q_20.2 j0 j1 v2 (v3 + (1 : Int32)) hj0 hj1 hm
        · rw [if_neg c_35] at hm
          refine aw_bipush (v := (16 : Int32)) C xd_L_firstWrong_38 (by decide) ?_
          refine aw_iload_n C 3 xd_L_firstWrong_40 rfl rfl ?_
          refine aw_imul C xd_L_firstWrong_41 ?_
          refine aw_aload_n C 0 xd_L_firstWrong_42 rfl rfl ?_
          refine aw_get C j0 (kd_lt hj0) (ly_L hj0) rfl (fun w h => List.mem_cons_of_mem _ (xi_L w h)) 2 (by decide) rfl (List.mem_cons_of_mem _ fl_L_35) xd_L_firstWrong_43 ?_
          refine aw_iadd C xd_L_firstWrong_46 ?_
          cases hm
          exact aw_iret C xd_L_firstWrong_47
set_option maxHeartbeats 4000000 in
set_option maxRecDepth 100000 in
theorem xc_L_firstWrong (σ : aw_m) (k0 : Nat) (k1 : Nat) (a2 : Int32) (q : Int32 × aw_m) (hk0 : kd_k k0 = 4) (hk1 : kd_k k1 = 1) (hm : xm_L_firstWrong σ k0 k1 a2 = some q) : aw_M l D (ty_z ids) (zs_T ps) xy_L_firstWrong (xw_L_firstWrong :: gw_l) (rm_D (33)) [.ref (ad k0), .ref (ad k1), .int a2] (cw_w ad ids σ) (some (.int q.1)) (cw_w ad ids q.2) := by
  refine aw_intro (cc := xb_L_firstWrong) (n := 4) (ret := (some .int)) "ModuleShelf$Library" rfl (by decide) rfl (Nat.le_of_ble_eq_true rfl) ?_
  intro κ C
  unfold xm_L_firstWrong at hm
  refine aw_iconst (v := (0 : Int32)) C xd_L_firstWrong_0 (by decide) ?_
  refine aw_istore_n (L' := [(3, .int (0 : Int32)), (0, .ref (ad k0)), (1, .ref (ad k1)), (2, .int a2)]) C xd_L_firstWrong_1 rfl (by decide) rfl ?_
  refine aw_loc (L' := [(0, .ref (ad k0)), (1, .ref (ad k1)), (2, .int a2), (3, .int (0 : Int32))]) C [1, 2, 3, 0] rfl ?_
  exact xl_L_firstWrong_2 _ C 64 σ k0 k1 a2 (0 : Int32) hk0 hk1 hm
def xq_L_gatherImports_25 (c_13 : aw_m → Nat → Nat → Int32 → Nat → Int32 → Option aw_m) : Nat → aw_m → Nat → Nat → Int32 → Nat → Int32 → Int32 → Option aw_m
  | 0, _, _, _, _, _, _, _ => none
  | n + 1, σ, j0, j1, v2, j3, v4, v5 => (xm_C_lengthOf σ j3 v4).bind fun q_30 => (if q_30 ≤ v5 then c_13 σ j0 j1 v2 j3 (v4 + (1 : Int32)) else (xm_C_cellOf σ j3 v4 v5).bind fun q_41 => if aw_in q_41 42 = true then if aw_in q_41 42 = true then (if σ (j3 + 3) (Int32.toNatClampNeg q_41) = (2 : Int32) then (if σ (j3 + 4) (Int32.toNatClampNeg q_41) = v2 then xq_L_gatherImports_25 c_13 n σ j0 j1 v2 j3 v4 (v5 + (1 : Int32)) else (xm_L_has σ j0 (σ (j3 + 4) (Int32.toNatClampNeg q_41))).bind fun q_99 => (if q_99 = 0 then xq_L_gatherImports_25 c_13 n σ j0 j1 v2 j3 v4 (v5 + (1 : Int32)) else if aw_in (σ (j3 + 4) (Int32.toNatClampNeg q_41)) 6 = true then (xm_U_addImport σ j1 (σ (j3 + 4) (Int32.toNatClampNeg q_41)) (σ (j0 + 1 + 1 + 9 * (Int32.toNatClampNeg (σ (j3 + 4) (Int32.toNatClampNeg q_41)))) 1)).bind fun q_118 => xq_L_gatherImports_25 c_13 n q_118 j0 j1 v2 j3 v4 (v5 + (1 : Int32)) else none)) else if aw_in q_41 42 = true then (if σ (j3 + 3) (Int32.toNatClampNeg q_41) = (11 : Int32) then (if σ (j3 + 4) (Int32.toNatClampNeg q_41) = v2 then xq_L_gatherImports_25 c_13 n σ j0 j1 v2 j3 v4 (v5 + (1 : Int32)) else (xm_L_has σ j0 (σ (j3 + 4) (Int32.toNatClampNeg q_41))).bind fun q_99 => (if q_99 = 0 then xq_L_gatherImports_25 c_13 n σ j0 j1 v2 j3 v4 (v5 + (1 : Int32)) else if aw_in (σ (j3 + 4) (Int32.toNatClampNeg q_41)) 6 = true then (xm_U_addImport σ j1 (σ (j3 + 4) (Int32.toNatClampNeg q_41)) (σ (j0 + 1 + 1 + 9 * (Int32.toNatClampNeg (σ (j3 + 4) (Int32.toNatClampNeg q_41)))) 1)).bind fun q_118 => xq_L_gatherImports_25 c_13 n q_118 j0 j1 v2 j3 v4 (v5 + (1 : Int32)) else none)) else xq_L_gatherImports_25 c_13 n σ j0 j1 v2 j3 v4 (v5 + (1 : Int32))) else none) else none else none)
def xq_L_gatherImports_13  : Nat → aw_m → Nat → Nat → Int32 → Nat → Int32 → Option aw_m
  | 0, _, _, _, _, _, _ => none
  | n + 1, σ, j0, j1, v2, j3, v4 => (if σ j3 1 ≤ v4 then some σ else xq_L_gatherImports_25 (xq_L_gatherImports_13 n) 64 σ j0 j1 v2 j3 v4 (0 : Int32))
def xm_L_gatherImports (σ : aw_m) (k0 : Nat) (k1 : Nat) (a2 : Int32) : Option aw_m := aw_l (aw_p σ k1 2 (0 : Int32)) fun s_7 => xq_L_gatherImports_13 64 s_7 k0 k1 a2 (k1 + 3) (0 : Int32)
set_option maxHeartbeats 4000000 in
set_option maxRecDepth 100000 in
theorem xl_L_gatherImports_25 (c_13 : aw_m → Nat → Nat → Int32 → Nat → Int32 → Option aw_m) {κ : aw_K} (q : aw_m) (C : aw_X l D (ty_z ids) (zs_T ps) (rm_D (2)) xb_L_gatherImports 9 "ModuleShelf$Library" (xw_L_gatherImports :: gw_l) none none (cw_w ad ids q) κ) (hc_13 : ∀ (σ : aw_m) (j0 : Nat) (j1 : Nat) (v2 : Int32) (j3 : Nat) (v4 : Int32) (hj0 : kd_k j0 = 4) (hj1 : kd_k j1 = 6) (hj3 : kd_k j3 = 1), c_13 σ j0 j1 v2 j3 v4 = some q → aw_J κ 0 0 (cw_w ad ids σ) [(0, .ref (ad j0)), (1, .ref (ad j1)), (2, .int v2), (3, .ref (ad j3)), (4, .int v4)] 13 []) : ∀ (n : Nat) (σ : aw_m) (j0 : Nat) (j1 : Nat) (v2 : Int32) (j3 : Nat) (v4 : Int32) (v5 : Int32) (hj0 : kd_k j0 = 4) (hj1 : kd_k j1 = 6) (hj3 : kd_k j3 = 1), xq_L_gatherImports_25 c_13 n σ j0 j1 v2 j3 v4 v5 = some q → aw_J κ 0 0 (cw_w ad ids σ) [(0, .ref (ad j0)), (1, .ref (ad j1)), (2, .int v2), (3, .ref (ad j3)), (4, .int v4), (5, .int v5)] 25 [] := by
  intro n
  induction n with
  | zero => intro σ j0 j1 v2 j3 v4 v5 hj0 hj1 hj3 hm; cases hm
  | succ n ih =>
    intro σ j0 j1 v2 j3 v4 v5 hj0 hj1 hj3 hm
    rw [xq_L_gatherImports_25] at hm
    refine aw_iload C 5 xd_L_gatherImports_25 rfl ?_
    refine aw_aload_n C 3 xd_L_gatherImports_27 rfl rfl ?_
    refine aw_iload C 4 xd_L_gatherImports_28 rfl ?_
    obtain ⟨q_30, e_30, hm⟩ := aw_bnd hm
    refine aw_callVi (As := [.int v4]) (rest := [.int v5]) (b := ad j3) C (xc_C_lengthOf σ j3 v4 _ hj3 e_30) rfl (gw_sub (gw_V xg_C_lengthOf ml_L_42 im_C_lengthOf se_C_lengthOf wi_C)) na_C_lengthOf (rm_lt (by decide) (by decide)) ⟨Nat.zero_le _, Nat.zero_le _⟩ j3 (at_C hj3) rfl rfl (Nat.le_of_ble_eq_true rfl) xd_L_gatherImports_30 ?_
    refine aw_icmp_ge (tgt := 127) C xd_L_gatherImports_33 (by decide) (fun c_33 => ?_) (fun c_33 => ?_)
    · rw [if_pos c_33] at hm
      refine aw_iinc (j := 4) (v := v4 + (1 : Int32)) (L' := [(4, .int (v4 + (1 : Int32))), (0, .ref (ad j0)), (1, .ref (ad j1)), (2, .int v2), (3, .ref (ad j3)), (5, .int v5)]) C xd_L_gatherImports_127 rfl rfl (by decide) rfl ?_
      refine aw_goto (tgt := 13) C xd_L_gatherImports_130 (by decide) ?_
      refine aw_loc (L' := [(0, .ref (ad j0)), (1, .ref (ad j1)), (2, .int v2), (3, .ref (ad j3)), (4, .int (v4 + (1 : Int32)))]) C [1, 2, 3, 4, 0] rfl ?_
      exact hc_13 σ j0 j1 v2 j3 (v4 + (1 : Int32)) hj0 hj1 hj3 hm
    · rw [if_neg c_33] at hm
      refine aw_aload_n C 3 xd_L_gatherImports_36 rfl rfl ?_
      refine aw_iload C 4 xd_L_gatherImports_37 rfl ?_
      refine aw_iload C 5 xd_L_gatherImports_39 rfl ?_
      obtain ⟨q_41, e_41, hm⟩ := aw_bnd hm
      refine aw_callVi (As := [.int v4, .int v5]) (rest := []) (b := ad j3) C (xc_C_cellOf σ j3 v4 v5 _ hj3 e_41) rfl (gw_sub (gw_V xg_C_cellOf ml_L_46 im_C_cellOf se_C_cellOf wi_C)) na_C_cellOf (rm_lt (by decide) (by decide)) ⟨Nat.zero_le _, Nat.zero_le _⟩ j3 (at_C hj3) rfl rfl (Nat.le_of_ble_eq_true rfl) xd_L_gatherImports_41 ?_
      refine aw_istore (L' := [(6, .int q_41), (0, .ref (ad j0)), (1, .ref (ad j1)), (2, .int v2), (3, .ref (ad j3)), (4, .int v4), (5, .int v5)]) C xd_L_gatherImports_44 (by decide) rfl ?_
      refine aw_aload_n C 4 xd_L_gatherImports_46 rfl rfl ?_
      refine aw_get C j3 (kd_lt hj3) (ly_C hj3) rfl (fun w h => List.mem_cons_of_mem _ (xi_C w h)) 5 (by decide) rfl (List.mem_cons_of_mem _ fl_L_57) xd_L_gatherImports_47 ?_
      refine aw_iload C 0 xd_L_gatherImports_50 rfl ?_
      obtain ⟨g_52, hm⟩ := aw_grd hm
      refine aw_iald C (j3 + 4) (kd_lt (kf_C_as hj3)) 0 (ly_A42 (kf_C_as hj3)) rfl (aw_in_ok g_52) xd_L_gatherImports_52 ?_
      refine aw_istore (L' := [(7, .int (σ (j3 + 4) (Int32.toNatClampNeg q_41))), (6, .int q_41), (0, .ref (ad j0)), (1, .ref (ad j1)), (2, .int v2), (3, .ref (ad j3)), (4, .int v4), (5, .int v5)]) C xd_L_gatherImports_53 (by decide) rfl ?_
      refine aw_aload_n C 5 xd_L_gatherImports_55 rfl rfl ?_
      refine aw_get C j3 (kd_lt hj3) (ly_C hj3) rfl (fun w h => List.mem_cons_of_mem _ (xi_C w h)) 4 (by decide) rfl (List.mem_cons_of_mem _ fl_L_64) xd_L_gatherImports_56 ?_
      refine aw_iload C 1 xd_L_gatherImports_59 rfl ?_
      obtain ⟨g_61, hm⟩ := aw_grd hm
      refine aw_iald C (j3 + 3) (kd_lt (kf_C_ops hj3)) 0 (ly_A42 (kf_C_ops hj3)) rfl (aw_in_ok g_61) xd_L_gatherImports_61 ?_
      refine aw_iconst (v := (2 : Int32)) C xd_L_gatherImports_62 (by decide) ?_
      refine aw_icmp_eq (tgt := 78) C xd_L_gatherImports_63 (by decide) (fun c_63 => ?_) (fun c_63 => ?_)
      · rw [if_pos c_63] at hm
        refine aw_iconst (v := (1 : Int32)) C xd_L_gatherImports_78 (by decide) ?_
        refine aw_goto (tgt := 83) C xd_L_gatherImports_79 (by decide) ?_
        refine aw_istore (L' := [(8, .int (1 : Int32)), (7, .int (σ (j3 + 4) (Int32.toNatClampNeg q_41))), (6, .int q_41), (0, .ref (ad j0)), (1, .ref (ad j1)), (2, .int v2), (3, .ref (ad j3)), (4, .int v4), (5, .int v5)]) C xd_L_gatherImports_83 (by decide) rfl ?_
        refine aw_iload C 0 xd_L_gatherImports_85 rfl ?_
        refine aw_if_eq (tgt := 121) C xd_L_gatherImports_87 (by decide) (fun c_0 => absurd c_0 (by decide)) (fun _ => ?_)
        refine aw_iload C 1 xd_L_gatherImports_90 rfl ?_
        refine aw_iload_n C 5 xd_L_gatherImports_92 rfl rfl ?_
        refine aw_icmp_eq (tgt := 121) C xd_L_gatherImports_93 (by decide) (fun c_93 => ?_) (fun c_93 => ?_)
        · rw [if_pos c_93] at hm
          refine aw_iinc (j := 8) (v := v5 + (1 : Int32)) (L' := [(5, .int (v5 + (1 : Int32))), (8, .int (1 : Int32)), (7, .int (σ (j3 + 4) (Int32.toNatClampNeg q_41))), (6, .int q_41), (0, .ref (ad j0)), (1, .ref (ad j1)), (2, .int v2), (3, .ref (ad j3)), (4, .int v4)]) C xd_L_gatherImports_121 rfl rfl (by decide) rfl ?_
          refine aw_goto (tgt := 25) C xd_L_gatherImports_124 (by decide) ?_
          refine aw_loc (L' := [(0, .ref (ad j0)), (1, .ref (ad j1)), (2, .int v2), (3, .ref (ad j3)), (4, .int v4), (5, .int (v5 + (1 : Int32)))]) C [4, 5, 6, 7, 8, 0] rfl ?_
          exact ih σ j0 j1 v2 j3 v4 (v5 + (1 : Int32)) hj0 hj1 hj3 hm
        · rw [if_neg c_93] at hm
          refine aw_aload_n C 3 xd_L_gatherImports_96 rfl rfl ?_
          refine aw_iload C 1 xd_L_gatherImports_97 rfl ?_
          obtain ⟨q_99, e_99, hm⟩ := aw_bnd hm
          refine aw_callVi (As := [.int (σ (j3 + 4) (Int32.toNatClampNeg q_41))]) (rest := []) (b := ad j0) C (xc_L_has σ j0 (σ (j3 + 4) (Int32.toNatClampNeg q_41)) _ hj0 e_99) rfl (gw_sub (gw_V xg_L_has ml_L_26 im_L_has se_L_has wi_L)) na_L_has (rm_lt (by decide) (by decide)) ⟨Nat.zero_le _, Nat.zero_le _⟩ j0 (at_L hj0) rfl rfl (Nat.le_of_ble_eq_true rfl) xd_L_gatherImports_99 ?_
          refine aw_if_eq (tgt := 121) C xd_L_gatherImports_102 (by decide) (fun c_102 => ?_) (fun c_102 => ?_)
          · rw [if_pos c_102] at hm
            refine aw_iinc (j := 8) (v := v5 + (1 : Int32)) (L' := [(5, .int (v5 + (1 : Int32))), (8, .int (1 : Int32)), (7, .int (σ (j3 + 4) (Int32.toNatClampNeg q_41))), (6, .int q_41), (0, .ref (ad j0)), (1, .ref (ad j1)), (2, .int v2), (3, .ref (ad j3)), (4, .int v4)]) C xd_L_gatherImports_121 rfl rfl (by decide) rfl ?_
            refine aw_goto (tgt := 25) C xd_L_gatherImports_124 (by decide) ?_
            refine aw_loc (L' := [(0, .ref (ad j0)), (1, .ref (ad j1)), (2, .int v2), (3, .ref (ad j3)), (4, .int v4), (5, .int (v5 + (1 : Int32)))]) C [4, 5, 6, 7, 8, 0] rfl ?_
            exact ih σ j0 j1 v2 j3 v4 (v5 + (1 : Int32)) hj0 hj1 hj3 hm
          · rw [if_neg c_102] at hm
            refine aw_aload_n C 4 xd_L_gatherImports_105 rfl rfl ?_
            refine aw_iload C 1 xd_L_gatherImports_106 rfl ?_
            refine aw_aload_n C 3 xd_L_gatherImports_108 rfl rfl ?_
            refine aw_get C j0 (kd_lt hj0) (ly_L hj0) rfl (fun w h => List.mem_cons_of_mem _ (xi_L w h)) 0 (by decide) rfl (List.mem_cons_of_mem _ fl_L_11) xd_L_gatherImports_109 ?_
            refine aw_iload C 1 xd_L_gatherImports_112 rfl ?_
            obtain ⟨g_114, hm⟩ := aw_grd hm
            refine aw_aald C (j0 + 1) (kd_lt (kf_L_units hj0)) 2 (ly_U6 (kf_L_units hj0)) rfl (aw_in_ok g_114) rfl xd_L_gatherImports_114 ?_
            refine aw_get C (j0 + 1 + 1 + 9 * (Int32.toNatClampNeg (σ (j3 + 4) (Int32.toNatClampNeg q_41)))) (kd_lt (ka_U6 (kf_L_units hj0) (aw_in_lt g_114))) (ly_U (ka_U6 (kf_L_units hj0) (aw_in_lt g_114))) rfl (fun w h => List.mem_cons_of_mem _ (xi_U w h)) 1 (by decide) rfl (List.mem_cons_of_mem _ fl_L_90) xd_L_gatherImports_115 ?_
            obtain ⟨q_118, e_118, hm⟩ := aw_bnd hm
            refine aw_callVv (As := [.int (σ (j3 + 4) (Int32.toNatClampNeg q_41)), .int (σ (j0 + 1 + 1 + 9 * (Int32.toNatClampNeg (σ (j3 + 4) (Int32.toNatClampNeg q_41)))) 1)]) (rest := []) (b := ad j1) C (xc_U_addImport σ j1 (σ (j3 + 4) (Int32.toNatClampNeg q_41)) (σ (j0 + 1 + 1 + 9 * (Int32.toNatClampNeg (σ (j3 + 4) (Int32.toNatClampNeg q_41)))) 1) _ hj1 e_118) rfl (gw_sub (gw_V xg_U_addImport ml_L_104 im_U_addImport se_U_addImport wi_U)) na_U_addImport (rm_lt (by decide) (by decide)) ⟨Nat.zero_le _, Nat.zero_le _⟩ j1 (at_U hj1) rfl rfl (Nat.le_of_ble_eq_true rfl) xd_L_gatherImports_118 ?_
            refine aw_iinc (j := 8) (v := v5 + (1 : Int32)) (L' := [(5, .int (v5 + (1 : Int32))), (8, .int (1 : Int32)), (7, .int (σ (j3 + 4) (Int32.toNatClampNeg q_41))), (6, .int q_41), (0, .ref (ad j0)), (1, .ref (ad j1)), (2, .int v2), (3, .ref (ad j3)), (4, .int v4)]) C xd_L_gatherImports_121 rfl rfl (by decide) rfl ?_
            refine aw_goto (tgt := 25) C xd_L_gatherImports_124 (by decide) ?_
            refine aw_loc (L' := [(0, .ref (ad j0)), (1, .ref (ad j1)), (2, .int v2), (3, .ref (ad j3)), (4, .int v4), (5, .int (v5 + (1 : Int32)))]) C [4, 5, 6, 7, 8, 0] rfl ?_
            exact ih q_118 j0 j1 v2 j3 v4 (v5 + (1 : Int32)) hj0 hj1 hj3 hm
      · rw [if_neg c_63] at hm
        refine aw_aload_n C 5 xd_L_gatherImports_66 rfl rfl ?_
        refine aw_get C j3 (kd_lt hj3) (ly_C hj3) rfl (fun w h => List.mem_cons_of_mem _ (xi_C w h)) 4 (by decide) rfl (List.mem_cons_of_mem _ fl_L_64) xd_L_gatherImports_67 ?_
        refine aw_iload C 1 xd_L_gatherImports_70 rfl ?_
        obtain ⟨g_72, hm⟩ := aw_grd hm
        refine aw_iald C (j3 + 3) (kd_lt (kf_C_ops hj3)) 0 (ly_A42 (kf_C_ops hj3)) rfl (aw_in_ok g_72) xd_L_gatherImports_72 ?_
        refine aw_bipush (v := (11 : Int32)) C xd_L_gatherImports_73 (by decide) ?_
        refine aw_icmp_ne (tgt := 82) C xd_L_gatherImports_75 (by decide) (fun c_75 => ?_) (fun c_75 => ?_)
        · rw [if_neg c_75] at hm
          refine aw_iconst (v := (0 : Int32)) C xd_L_gatherImports_82 (by decide) ?_
          refine aw_istore (L' := [(8, .int (0 : Int32)), (7, .int (σ (j3 + 4) (Int32.toNatClampNeg q_41))), (6, .int q_41), (0, .ref (ad j0)), (1, .ref (ad j1)), (2, .int v2), (3, .ref (ad j3)), (4, .int v4), (5, .int v5)]) C xd_L_gatherImports_83 (by decide) rfl ?_
          refine aw_iload C 0 xd_L_gatherImports_85 rfl ?_
          refine aw_if_eq (tgt := 121) C xd_L_gatherImports_87 (by decide) (fun _ => ?_) (fun c_0 => absurd c_0 (by decide))
          refine aw_iinc (j := 8) (v := v5 + (1 : Int32)) (L' := [(5, .int (v5 + (1 : Int32))), (8, .int (0 : Int32)), (7, .int (σ (j3 + 4) (Int32.toNatClampNeg q_41))), (6, .int q_41), (0, .ref (ad j0)), (1, .ref (ad j1)), (2, .int v2), (3, .ref (ad j3)), (4, .int v4)]) C xd_L_gatherImports_121 rfl rfl (by decide) rfl ?_
          refine aw_goto (tgt := 25) C xd_L_gatherImports_124 (by decide) ?_
          refine aw_loc (L' := [(0, .ref (ad j0)), (1, .ref (ad j1)), (2, .int v2), (3, .ref (ad j3)), (4, .int v4), (5, .int (v5 + (1 : Int32)))]) C [4, 5, 6, 7, 8, 0] rfl ?_
          exact ih σ j0 j1 v2 j3 v4 (v5 + (1 : Int32)) hj0 hj1 hj3 hm
        · rw [if_pos c_75] at hm
          refine aw_iconst (v := (1 : Int32)) C xd_L_gatherImports_78 (by decide) ?_
          refine aw_goto (tgt := 83) C xd_L_gatherImports_79 (by decide) ?_
          refine aw_istore (L' := [(8, .int (1 : Int32)), (7, .int (σ (j3 + 4) (Int32.toNatClampNeg q_41))), (6, .int q_41), (0, .ref (ad j0)), (1, .ref (ad j1)), (2, .int v2), (3, .ref (ad j3)), (4, .int v4), (5, .int v5)]) C xd_L_gatherImports_83 (by decide) rfl ?_
          refine aw_iload C 0 xd_L_gatherImports_85 rfl ?_
          refine aw_if_eq (tgt := 121) C xd_L_gatherImports_87 (by decide) (fun c_0 => absurd c_0 (by decide)) (fun _ => ?_)
          refine aw_iload C 1 xd_L_gatherImports_90 rfl ?_
          refine aw_iload_n C 5 xd_L_gatherImports_92 rfl rfl ?_
          refine aw_icmp_eq (tgt := 121) C xd_L_gatherImports_93 (by decide) (fun c_93 => ?_) (fun c_93 => ?_)
          · rw [if_pos c_93] at hm
            refine aw_iinc (j := 8) (v := v5 + (1 : Int32)) (L' := [(5, .int (v5 + (1 : Int32))), (8, .int (1 : Int32)), (7, .int (σ (j3 + 4) (Int32.toNatClampNeg q_41))), (6, .int q_41), (0, .ref (ad j0)), (1, .ref (ad j1)), (2, .int v2), (3, .ref (ad j3)), (4, .int v4)]) C xd_L_gatherImports_121 rfl rfl (by decide) rfl ?_
            refine aw_goto (tgt := 25) C xd_L_gatherImports_124 (by decide) ?_
            refine aw_loc (L' := [(0, .ref (ad j0)), (1, .ref (ad j1)), (2, .int v2), (3, .ref (ad j3)), (4, .int v4), (5, .int (v5 + (1 : Int32)))]) C [4, 5, 6, 7, 8, 0] rfl ?_
            exact ih σ j0 j1 v2 j3 v4 (v5 + (1 : Int32)) hj0 hj1 hj3 hm
          · rw [if_neg c_93] at hm
            refine aw_aload_n C 3 xd_L_gatherImports_96 rfl rfl ?_
            refine aw_iload C 1 xd_L_gatherImports_97 rfl ?_
            obtain ⟨q_99, e_99, hm⟩ := aw_bnd hm
            refine aw_callVi (As := [.int (σ (j3 + 4) (Int32.toNatClampNeg q_41))]) (rest := []) (b := ad j0) C (xc_L_has σ j0 (σ (j3 + 4) (Int32.toNatClampNeg q_41)) _ hj0 e_99) rfl (gw_sub (gw_V xg_L_has ml_L_26 im_L_has se_L_has wi_L)) na_L_has (rm_lt (by decide) (by decide)) ⟨Nat.zero_le _, Nat.zero_le _⟩ j0 (at_L hj0) rfl rfl (Nat.le_of_ble_eq_true rfl) xd_L_gatherImports_99 ?_
            refine aw_if_eq (tgt := 121) C xd_L_gatherImports_102 (by decide) (fun c_102 => ?_) (fun c_102 => ?_)
            · rw [if_pos c_102] at hm
              refine aw_iinc (j := 8) (v := v5 + (1 : Int32)) (L' := [(5, .int (v5 + (1 : Int32))), (8, .int (1 : Int32)), (7, .int (σ (j3 + 4) (Int32.toNatClampNeg q_41))), (6, .int q_41), (0, .ref (ad j0)), (1, .ref (ad j1)), (2, .int v2), (3, .ref (ad j3)), (4, .int v4)]) C xd_L_gatherImports_121 rfl rfl (by decide) rfl ?_
              refine aw_goto (tgt := 25) C xd_L_gatherImports_124 (by decide) ?_
              refine aw_loc (L' := [(0, .ref (ad j0)), (1, .ref (ad j1)), (2, .int v2), (3, .ref (ad j3)), (4, .int v4), (5, .int (v5 + (1 : Int32)))]) C [4, 5, 6, 7, 8, 0] rfl ?_
              exact ih σ j0 j1 v2 j3 v4 (v5 + (1 : Int32)) hj0 hj1 hj3 hm
            · rw [if_neg c_102] at hm
              refine aw_aload_n C 4 xd_L_gatherImports_105 rfl rfl ?_
              refine aw_iload C 1 xd_L_gatherImports_106 rfl ?_
              refine aw_aload_n C 3 xd_L_gatherImports_108 rfl rfl ?_
              refine aw_get C j0 (kd_lt hj0) (ly_L hj0) rfl (fun w h => List.mem_cons_of_mem _ (xi_L w h)) 0 (by decide) rfl (List.mem_cons_of_mem _ fl_L_11) xd_L_gatherImports_109 ?_
              refine aw_iload C 1 xd_L_gatherImports_112 rfl ?_
              obtain ⟨g_114, hm⟩ := aw_grd hm
              refine aw_aald C (j0 + 1) (kd_lt (kf_L_units hj0)) 2 (ly_U6 (kf_L_units hj0)) rfl (aw_in_ok g_114) rfl xd_L_gatherImports_114 ?_
              refine aw_get C (j0 + 1 + 1 + 9 * (Int32.toNatClampNeg (σ (j3 + 4) (Int32.toNatClampNeg q_41)))) (kd_lt (ka_U6 (kf_L_units hj0) (aw_in_lt g_114))) (ly_U (ka_U6 (kf_L_units hj0) (aw_in_lt g_114))) rfl (fun w h => List.mem_cons_of_mem _ (xi_U w h)) 1 (by decide) rfl (List.mem_cons_of_mem _ fl_L_90) xd_L_gatherImports_115 ?_
              obtain ⟨q_118, e_118, hm⟩ := aw_bnd hm
              refine aw_callVv (As := [.int (σ (j3 + 4) (Int32.toNatClampNeg q_41)), .int (σ (j0 + 1 + 1 + 9 * (Int32.toNatClampNeg (σ (j3 + 4) (Int32.toNatClampNeg q_41)))) 1)]) (rest := []) (b := ad j1) C (xc_U_addImport σ j1 (σ (j3 + 4) (Int32.toNatClampNeg q_41)) (σ (j0 + 1 + 1 + 9 * (Int32.toNatClampNeg (σ (j3 + 4) (Int32.toNatClampNeg q_41)))) 1) _ hj1 e_118) rfl (gw_sub (gw_V xg_U_addImport ml_L_104 im_U_addImport se_U_addImport wi_U)) na_U_addImport (rm_lt (by decide) (by decide)) ⟨Nat.zero_le _, Nat.zero_le _⟩ j1 (at_U hj1) rfl rfl (Nat.le_of_ble_eq_true rfl) xd_L_gatherImports_118 ?_
              refine aw_iinc (j := 8) (v := v5 + (1 : Int32)) (L' := [(5, .int (v5 + (1 : Int32))), (8, .int (1 : Int32)), (7, .int (σ (j3 + 4) (Int32.toNatClampNeg q_41))), (6, .int q_41), (0, .ref (ad j0)), (1, .ref (ad j1)), (2, .int v2), (3, .ref (ad j3)), (4, .int v4)]) C xd_L_gatherImports_121 rfl rfl (by decide) rfl ?_
              refine aw_goto (tgt := 25) C xd_L_gatherImports_124 (by decide) ?_
              refine aw_loc (L' := [(0, .ref (ad j0)), (1, .ref (ad j1)), (2, .int v2), (3, .ref (ad j3)), (4, .int v4), (5, .int (v5 + (1 : Int32)))]) C [4, 5, 6, 7, 8, 0] rfl ?_
              exact ih q_118 j0 j1 v2 j3 v4 (v5 + (1 : Int32)) hj0 hj1 hj3 hm
set_option maxHeartbeats 4000000 in
set_option maxRecDepth 100000 in
theorem xl_L_gatherImports_13  {κ : aw_K} (q : aw_m) (C : aw_X l D (ty_z ids) (zs_T ps) (rm_D (2)) xb_L_gatherImports 9 "ModuleShelf$Library" (xw_L_gatherImports :: gw_l) none none (cw_w ad ids q) κ) : ∀ (n : Nat) (σ : aw_m) (j0 : Nat) (j1 : Nat) (v2 : Int32) (j3 : Nat) (v4 : Int32) (hj0 : kd_k j0 = 4) (hj1 : kd_k j1 = 6) (hj3 : kd_k j3 = 1), xq_L_gatherImports_13 n σ j0 j1 v2 j3 v4 = some q → aw_J κ 0 0 (cw_w ad ids σ) [(0, .ref (ad j0)), (1, .ref (ad j1)), (2, .int v2), (3, .ref (ad j3)), (4, .int v4)] 13 [] := by
  intro n
  induction n with
  | zero => intro σ j0 j1 v2 j3 v4 hj0 hj1 hj3 hm; cases hm
  | succ n ih =>
    intro σ j0 j1 v2 j3 v4 hj0 hj1 hj3 hm
    rw [xq_L_gatherImports_13] at hm
    refine aw_iload C 4 xd_L_gatherImports_13 rfl ?_
    refine aw_aload_n C 3 xd_L_gatherImports_15 rfl rfl ?_
    refine aw_get C j3 (kd_lt hj3) (ly_C hj3) rfl (fun w h => List.mem_cons_of_mem _ (xi_C w h)) 1 (by decide) rfl (List.mem_cons_of_mem _ fl_L_29) xd_L_gatherImports_16 ?_
    refine aw_icmp_ge (tgt := 133) C xd_L_gatherImports_19 (by decide) (fun c_19 => ?_) (fun c_19 => ?_)
    · rw [if_pos c_19] at hm
      cases hm
      exact aw_vret C xd_L_gatherImports_133
    · rw [if_neg c_19] at hm
      refine aw_iconst (v := (0 : Int32)) C xd_L_gatherImports_22 (by decide) ?_
      refine aw_istore (L' := [(5, .int (0 : Int32)), (0, .ref (ad j0)), (1, .ref (ad j1)), (2, .int v2), (3, .ref (ad j3)), (4, .int v4)]) C xd_L_gatherImports_23 (by decide) rfl ?_
      refine aw_loc (L' := [(0, .ref (ad j0)), (1, .ref (ad j1)), (2, .int v2), (3, .ref (ad j3)), (4, .int v4), (5, .int (0 : Int32))]) C [1, 2, 3, 4, 5, 0] rfl ?_
      exact xl_L_gatherImports_25 (xq_L_gatherImports_13 n) _ C ih 64 σ j0 j1 v2 j3 v4 (0 : Int32) hj0 hj1 hj3 hm
set_option maxHeartbeats 4000000 in
set_option maxRecDepth 100000 in
theorem xc_L_gatherImports (σ : aw_m) (k0 : Nat) (k1 : Nat) (a2 : Int32) (q : aw_m) (hk0 : kd_k k0 = 4) (hk1 : kd_k k1 = 6) (hm : xm_L_gatherImports σ k0 k1 a2 = some q) : aw_M l D (ty_z ids) (zs_T ps) xy_L_gatherImports (xw_L_gatherImports :: gw_l) (rm_D (2)) [.ref (ad k0), .ref (ad k1), .int a2] (cw_w ad ids σ) none (cw_w ad ids q) := by
  refine aw_intro (cc := xb_L_gatherImports) (n := 9) (ret := none) "ModuleShelf$Library" rfl (by decide) rfl (Nat.le_of_ble_eq_true rfl) ?_
  intro κ C
  unfold xm_L_gatherImports at hm
  refine aw_aload_n C 1 xd_L_gatherImports_0 rfl rfl ?_
  refine aw_get C k1 (kd_lt hk1) (ly_U hk1) rfl (fun w h => List.mem_cons_of_mem _ (xi_U w h)) 5 (by decide) rfl (List.mem_cons_of_mem _ fl_L_73) xd_L_gatherImports_1 ?_
  refine aw_astore_n (L' := [(3, .ref (ad (k1 + 3))), (0, .ref (ad k0)), (1, .ref (ad k1)), (2, .int a2)]) C xd_L_gatherImports_4 rfl (by decide) rfl ?_
  refine aw_aload_n C 2 xd_L_gatherImports_5 rfl rfl ?_
  refine aw_iconst (v := (0 : Int32)) C xd_L_gatherImports_6 (by decide) ?_
  obtain ⟨s_7, h_7, hm⟩ := aw_let hm
  refine aw_put (σ1 := s_7) (f := upd (σ k1) 2 (0 : Int32)) C k1 (kd_lt hk1) (ly_U hk1) rfl (fun w h => List.mem_cons_of_mem _ (xi_U w h)) xk_U xo_U xn_U 2 (by decide) (List.mem_cons_of_mem _ fl_L_101) rfl (ty := .int) (by decide +kernel) rfl rfl (Nat.le_of_ble_eq_true rfl) (ly_U hk1) h_7 xd_L_gatherImports_7 ?_
  refine aw_iconst (v := (0 : Int32)) C xd_L_gatherImports_10 (by decide) ?_
  refine aw_istore (L' := [(4, .int (0 : Int32)), (3, .ref (ad (k1 + 3))), (0, .ref (ad k0)), (1, .ref (ad k1)), (2, .int a2)]) C xd_L_gatherImports_11 (by decide) rfl ?_
  refine aw_loc (L' := [(0, .ref (ad k0)), (1, .ref (ad k1)), (2, .int a2), (3, .ref (ad (k1 + 3))), (4, .int (0 : Int32))]) C [2, 3, 4, 1, 0] rfl ?_
  exact xl_L_gatherImports_13 _ C 64 s_7 k0 k1 a2 (k1 + 3) (0 : Int32) hk0 hk1 (kf_U_code hk1) hm
def xm_L_keep (σ : aw_m) (k0 : Nat) (k1 : Nat) (a2 : Int32) : Option (Int32 × aw_m) := if aw_in a2 6 = true then (if σ (k0 + 1 + 1 + 9 * (Int32.toNatClampNeg a2)) 0 = 0 then aw_l (aw_p σ k0 1 ((σ k0 1) + (1 : Int32))) fun s_32 => aw_l (aw_p s_32 (k0 + 1 + 1 + 9 * (Int32.toNatClampNeg a2)) 1 (s_32 k0 1)) fun s_40 => aw_l (aw_p s_40 (k0 + 1 + 1 + 9 * (Int32.toNatClampNeg a2)) 0 (1 : Int32)) fun s_45 => (xm_C_copyFrom s_45 ((k0 + 1 + 1 + 9 * (Int32.toNatClampNeg a2)) + 3) k1).bind fun q_53 => (xm_L_gatherImports q_53 k0 (k0 + 1 + 1 + 9 * (Int32.toNatClampNeg a2)) a2).bind fun q_59 => some (q_59 (k0 + 1 + 1 + 9 * (Int32.toNatClampNeg a2)) 1, q_59) else (xm_C_hasInterfaceOf σ ((k0 + 1 + 1 + 9 * (Int32.toNatClampNeg a2)) + 3) k1).bind fun q_19 => (if q_19 = 0 then aw_l (aw_p σ k0 1 ((σ k0 1) + (1 : Int32))) fun s_32 => aw_l (aw_p s_32 (k0 + 1 + 1 + 9 * (Int32.toNatClampNeg a2)) 1 (s_32 k0 1)) fun s_40 => aw_l (aw_p s_40 (k0 + 1 + 1 + 9 * (Int32.toNatClampNeg a2)) 0 (1 : Int32)) fun s_45 => (xm_C_copyFrom s_45 ((k0 + 1 + 1 + 9 * (Int32.toNatClampNeg a2)) + 3) k1).bind fun q_53 => (xm_L_gatherImports q_53 k0 (k0 + 1 + 1 + 9 * (Int32.toNatClampNeg a2)) a2).bind fun q_59 => some (q_59 (k0 + 1 + 1 + 9 * (Int32.toNatClampNeg a2)) 1, q_59) else aw_l (aw_p σ (k0 + 1 + 1 + 9 * (Int32.toNatClampNeg a2)) 0 (1 : Int32)) fun s_45 => (xm_C_copyFrom s_45 ((k0 + 1 + 1 + 9 * (Int32.toNatClampNeg a2)) + 3) k1).bind fun q_53 => (xm_L_gatherImports q_53 k0 (k0 + 1 + 1 + 9 * (Int32.toNatClampNeg a2)) a2).bind fun q_59 => some (q_59 (k0 + 1 + 1 + 9 * (Int32.toNatClampNeg a2)) 1, q_59))) else none
set_option maxHeartbeats 4000000 in
set_option maxRecDepth 100000 in
theorem xc_L_keep (σ : aw_m) (k0 : Nat) (k1 : Nat) (a2 : Int32) (q : Int32 × aw_m) (hk0 : kd_k k0 = 4) (hk1 : kd_k k1 = 1) (hm : xm_L_keep σ k0 k1 a2 = some q) : aw_M l D (ty_z ids) (zs_T ps) xy_L_keep (xw_L_keep :: gw_l) (rm_D (3)) [.ref (ad k0), .ref (ad k1), .int a2] (cw_w ad ids σ) (some (.int q.1)) (cw_w ad ids q.2) := by
  refine aw_intro (cc := xb_L_keep) (n := 4) (ret := (some .int)) "ModuleShelf$Library" rfl (by decide) rfl (Nat.le_of_ble_eq_true rfl) ?_
  intro κ C
  unfold xm_L_keep at hm
  refine aw_aload_n C 0 xd_L_keep_0 rfl rfl ?_
  refine aw_get C k0 (kd_lt hk0) (ly_L hk0) rfl (fun w h => List.mem_cons_of_mem _ (xi_L w h)) 0 (by decide) rfl (List.mem_cons_of_mem _ fl_L_11) xd_L_keep_1 ?_
  refine aw_iload_n C 2 xd_L_keep_4 rfl rfl ?_
  obtain ⟨g_5, hm⟩ := aw_grd hm
  refine aw_aald C (k0 + 1) (kd_lt (kf_L_units hk0)) 2 (ly_U6 (kf_L_units hk0)) rfl (aw_in_ok g_5) rfl xd_L_keep_5 ?_
  refine aw_astore_n (L' := [(3, .ref (ad (k0 + 1 + 1 + 9 * (Int32.toNatClampNeg a2)))), (0, .ref (ad k0)), (1, .ref (ad k1)), (2, .int a2)]) C xd_L_keep_6 rfl (by decide) rfl ?_
  refine aw_aload_n C 0 xd_L_keep_7 rfl rfl ?_
  refine aw_get C (k0 + 1 + 1 + 9 * (Int32.toNatClampNeg a2)) (kd_lt (ka_U6 (kf_L_units hk0) (aw_in_lt g_5))) (ly_U (ka_U6 (kf_L_units hk0) (aw_in_lt g_5))) rfl (fun w h => List.mem_cons_of_mem _ (xi_U w h)) 0 (by decide) rfl (List.mem_cons_of_mem _ fl_L_22) xd_L_keep_8 ?_
  refine aw_if_eq (tgt := 25) C xd_L_keep_11 (by decide) (fun c_11 => ?_) (fun c_11 => ?_)
  · rw [if_pos c_11] at hm
    refine aw_aload_n C 1 xd_L_keep_25 rfl rfl ?_
    refine aw_dup C xd_L_keep_26 rfl ?_
    refine aw_get C k0 (kd_lt hk0) (ly_L hk0) rfl (fun w h => List.mem_cons_of_mem _ (xi_L w h)) 1 (by decide) rfl (List.mem_cons_of_mem _ fl_L_87) xd_L_keep_27 ?_
    refine aw_iconst (v := (1 : Int32)) C xd_L_keep_30 (by decide) ?_
    refine aw_iadd C xd_L_keep_31 ?_
    obtain ⟨s_32, h_32, hm⟩ := aw_let hm
    refine aw_put (σ1 := s_32) (f := upd (σ k0) 1 ((σ k0 1) + (1 : Int32))) C k0 (kd_lt hk0) (ly_L hk0) rfl (fun w h => List.mem_cons_of_mem _ (xi_L w h)) xk_L xo_L xn_L 1 (by decide) (List.mem_cons_of_mem _ fl_L_87) rfl (ty := .int) (by decide +kernel) rfl rfl (Nat.le_of_ble_eq_true rfl) (ly_L hk0) h_32 xd_L_keep_32 ?_
    refine aw_aload_n C 0 xd_L_keep_35 rfl rfl ?_
    refine aw_aload_n C 1 xd_L_keep_36 rfl rfl ?_
    refine aw_get C k0 (kd_lt hk0) (ly_L hk0) rfl (fun w h => List.mem_cons_of_mem _ (xi_L w h)) 1 (by decide) rfl (List.mem_cons_of_mem _ fl_L_87) xd_L_keep_37 ?_
    obtain ⟨s_40, h_40, hm⟩ := aw_let hm
    refine aw_put (σ1 := s_40) (f := upd (s_32 (k0 + 1 + 1 + 9 * (Int32.toNatClampNeg a2))) 1 (s_32 k0 1)) C (k0 + 1 + 1 + 9 * (Int32.toNatClampNeg a2)) (kd_lt (ka_U6 (kf_L_units hk0) (aw_in_lt g_5))) (ly_U (ka_U6 (kf_L_units hk0) (aw_in_lt g_5))) rfl (fun w h => List.mem_cons_of_mem _ (xi_U w h)) xk_U xo_U xn_U 1 (by decide) (List.mem_cons_of_mem _ fl_L_90) rfl (ty := .int) (by decide +kernel) rfl rfl (Nat.le_of_ble_eq_true rfl) (ly_U (ka_U6 (kf_L_units hk0) (aw_in_lt g_5))) h_40 xd_L_keep_40 ?_
    refine aw_aload_n C 0 xd_L_keep_43 rfl rfl ?_
    refine aw_iconst (v := (1 : Int32)) C xd_L_keep_44 (by decide) ?_
    obtain ⟨s_45, h_45, hm⟩ := aw_let hm
    refine aw_put (σ1 := s_45) (f := upd (s_40 (k0 + 1 + 1 + 9 * (Int32.toNatClampNeg a2))) 0 (1 : Int32)) C (k0 + 1 + 1 + 9 * (Int32.toNatClampNeg a2)) (kd_lt (ka_U6 (kf_L_units hk0) (aw_in_lt g_5))) (ly_U (ka_U6 (kf_L_units hk0) (aw_in_lt g_5))) rfl (fun w h => List.mem_cons_of_mem _ (xi_U w h)) xk_U xo_U xn_U 0 (by decide) (List.mem_cons_of_mem _ fl_L_22) rfl (ty := .boolean) (by decide +kernel) rfl rfl (Nat.le_of_ble_eq_true rfl) (ly_U (ka_U6 (kf_L_units hk0) (aw_in_lt g_5))) h_45 xd_L_keep_45 ?_
    refine aw_aload_n C 0 xd_L_keep_48 rfl rfl ?_
    refine aw_get C (k0 + 1 + 1 + 9 * (Int32.toNatClampNeg a2)) (kd_lt (ka_U6 (kf_L_units hk0) (aw_in_lt g_5))) (ly_U (ka_U6 (kf_L_units hk0) (aw_in_lt g_5))) rfl (fun w h => List.mem_cons_of_mem _ (xi_U w h)) 5 (by decide) rfl (List.mem_cons_of_mem _ fl_L_73) xd_L_keep_49 ?_
    refine aw_aload_n C 2 xd_L_keep_52 rfl rfl ?_
    obtain ⟨q_53, e_53, hm⟩ := aw_bnd hm
    refine aw_callVv (As := [.ref (ad k1)]) (rest := []) (b := ad ((k0 + 1 + 1 + 9 * (Int32.toNatClampNeg a2)) + 3)) C (xc_C_copyFrom s_45 ((k0 + 1 + 1 + 9 * (Int32.toNatClampNeg a2)) + 3) k1 _ (kf_U_code (ka_U6 (kf_L_units hk0) (aw_in_lt g_5))) hk1 e_53) rfl (gw_sub (gw_V xg_C_copyFrom ml_L_93 im_C_copyFrom se_C_copyFrom wi_C)) na_C_copyFrom (rm_lt (by decide) (by decide)) ⟨Nat.zero_le _, Nat.zero_le _⟩ ((k0 + 1 + 1 + 9 * (Int32.toNatClampNeg a2)) + 3) (at_C (kf_U_code (ka_U6 (kf_L_units hk0) (aw_in_lt g_5)))) rfl rfl (Nat.le_of_ble_eq_true rfl) xd_L_keep_53 ?_
    refine aw_aload_n C 1 xd_L_keep_56 rfl rfl ?_
    refine aw_aload_n C 0 xd_L_keep_57 rfl rfl ?_
    refine aw_iload_n C 3 xd_L_keep_58 rfl rfl ?_
    obtain ⟨q_59, e_59, hm⟩ := aw_bnd hm
    refine aw_callVv (As := [.ref (ad (k0 + 1 + 1 + 9 * (Int32.toNatClampNeg a2))), .int a2]) (rest := []) (b := ad k0) C (xc_L_gatherImports q_53 k0 (k0 + 1 + 1 + 9 * (Int32.toNatClampNeg a2)) a2 _ hk0 (ka_U6 (kf_L_units hk0) (aw_in_lt g_5)) e_59) rfl (gw_sub (gw_V xg_L_gatherImports ml_L_97 im_L_gatherImports se_L_gatherImports wi_L)) na_L_gatherImports (rm_lt (by decide) (by decide)) ⟨Nat.zero_le _, Nat.zero_le _⟩ k0 (at_L hk0) rfl rfl (Nat.le_of_ble_eq_true rfl) xd_L_keep_59 ?_
    refine aw_aload_n C 0 xd_L_keep_62 rfl rfl ?_
    refine aw_get C (k0 + 1 + 1 + 9 * (Int32.toNatClampNeg a2)) (kd_lt (ka_U6 (kf_L_units hk0) (aw_in_lt g_5))) (ly_U (ka_U6 (kf_L_units hk0) (aw_in_lt g_5))) rfl (fun w h => List.mem_cons_of_mem _ (xi_U w h)) 1 (by decide) rfl (List.mem_cons_of_mem _ fl_L_90) xd_L_keep_63 ?_
    cases hm
    exact aw_iret C xd_L_keep_66
  · rw [if_neg c_11] at hm
    refine aw_aload_n C 0 xd_L_keep_14 rfl rfl ?_
    refine aw_get C (k0 + 1 + 1 + 9 * (Int32.toNatClampNeg a2)) (kd_lt (ka_U6 (kf_L_units hk0) (aw_in_lt g_5))) (ly_U (ka_U6 (kf_L_units hk0) (aw_in_lt g_5))) rfl (fun w h => List.mem_cons_of_mem _ (xi_U w h)) 5 (by decide) rfl (List.mem_cons_of_mem _ fl_L_73) xd_L_keep_15 ?_
    refine aw_aload_n C 2 xd_L_keep_18 rfl rfl ?_
    obtain ⟨q_19, e_19, hm⟩ := aw_bnd hm
    refine aw_callVi (As := [.ref (ad k1)]) (rest := []) (b := ad ((k0 + 1 + 1 + 9 * (Int32.toNatClampNeg a2)) + 3)) C (xc_C_hasInterfaceOf σ ((k0 + 1 + 1 + 9 * (Int32.toNatClampNeg a2)) + 3) k1 _ (kf_U_code (ka_U6 (kf_L_units hk0) (aw_in_lt g_5))) hk1 e_19) rfl (gw_sub (gw_V xg_C_hasInterfaceOf ml_L_83 im_C_hasInterfaceOf se_C_hasInterfaceOf wi_C)) na_C_hasInterfaceOf (rm_lt (by decide) (by decide)) ⟨Nat.zero_le _, Nat.zero_le _⟩ ((k0 + 1 + 1 + 9 * (Int32.toNatClampNeg a2)) + 3) (at_C (kf_U_code (ka_U6 (kf_L_units hk0) (aw_in_lt g_5)))) rfl rfl (Nat.le_of_ble_eq_true rfl) xd_L_keep_19 ?_
    refine aw_if_ne (tgt := 43) C xd_L_keep_22 (by decide) (fun c_22 => ?_) (fun c_22 => ?_)
    · rw [if_neg c_22] at hm
      refine aw_aload_n C 0 xd_L_keep_43 rfl rfl ?_
      refine aw_iconst (v := (1 : Int32)) C xd_L_keep_44 (by decide) ?_
      obtain ⟨s_45, h_45, hm⟩ := aw_let hm
      refine aw_put (σ1 := s_45) (f := upd (σ (k0 + 1 + 1 + 9 * (Int32.toNatClampNeg a2))) 0 (1 : Int32)) C (k0 + 1 + 1 + 9 * (Int32.toNatClampNeg a2)) (kd_lt (ka_U6 (kf_L_units hk0) (aw_in_lt g_5))) (ly_U (ka_U6 (kf_L_units hk0) (aw_in_lt g_5))) rfl (fun w h => List.mem_cons_of_mem _ (xi_U w h)) xk_U xo_U xn_U 0 (by decide) (List.mem_cons_of_mem _ fl_L_22) rfl (ty := .boolean) (by decide +kernel) rfl rfl (Nat.le_of_ble_eq_true rfl) (ly_U (ka_U6 (kf_L_units hk0) (aw_in_lt g_5))) h_45 xd_L_keep_45 ?_
      refine aw_aload_n C 0 xd_L_keep_48 rfl rfl ?_
      refine aw_get C (k0 + 1 + 1 + 9 * (Int32.toNatClampNeg a2)) (kd_lt (ka_U6 (kf_L_units hk0) (aw_in_lt g_5))) (ly_U (ka_U6 (kf_L_units hk0) (aw_in_lt g_5))) rfl (fun w h => List.mem_cons_of_mem _ (xi_U w h)) 5 (by decide) rfl (List.mem_cons_of_mem _ fl_L_73) xd_L_keep_49 ?_
      refine aw_aload_n C 2 xd_L_keep_52 rfl rfl ?_
      obtain ⟨q_53, e_53, hm⟩ := aw_bnd hm
      refine aw_callVv (As := [.ref (ad k1)]) (rest := []) (b := ad ((k0 + 1 + 1 + 9 * (Int32.toNatClampNeg a2)) + 3)) C (xc_C_copyFrom s_45 ((k0 + 1 + 1 + 9 * (Int32.toNatClampNeg a2)) + 3) k1 _ (kf_U_code (ka_U6 (kf_L_units hk0) (aw_in_lt g_5))) hk1 e_53) rfl (gw_sub (gw_V xg_C_copyFrom ml_L_93 im_C_copyFrom se_C_copyFrom wi_C)) na_C_copyFrom (rm_lt (by decide) (by decide)) ⟨Nat.zero_le _, Nat.zero_le _⟩ ((k0 + 1 + 1 + 9 * (Int32.toNatClampNeg a2)) + 3) (at_C (kf_U_code (ka_U6 (kf_L_units hk0) (aw_in_lt g_5)))) rfl rfl (Nat.le_of_ble_eq_true rfl) xd_L_keep_53 ?_
      refine aw_aload_n C 1 xd_L_keep_56 rfl rfl ?_
      refine aw_aload_n C 0 xd_L_keep_57 rfl rfl ?_
      refine aw_iload_n C 3 xd_L_keep_58 rfl rfl ?_
      obtain ⟨q_59, e_59, hm⟩ := aw_bnd hm
      refine aw_callVv (As := [.ref (ad (k0 + 1 + 1 + 9 * (Int32.toNatClampNeg a2))), .int a2]) (rest := []) (b := ad k0) C (xc_L_gatherImports q_53 k0 (k0 + 1 + 1 + 9 * (Int32.toNatClampNeg a2)) a2 _ hk0 (ka_U6 (kf_L_units hk0) (aw_in_lt g_5)) e_59) rfl (gw_sub (gw_V xg_L_gatherImports ml_L_97 im_L_gatherImports se_L_gatherImports wi_L)) na_L_gatherImports (rm_lt (by decide) (by decide)) ⟨Nat.zero_le _, Nat.zero_le _⟩ k0 (at_L hk0) rfl rfl (Nat.le_of_ble_eq_true rfl) xd_L_keep_59 ?_
      refine aw_aload_n C 0 xd_L_keep_62 rfl rfl ?_
      refine aw_get C (k0 + 1 + 1 + 9 * (Int32.toNatClampNeg a2)) (kd_lt (ka_U6 (kf_L_units hk0) (aw_in_lt g_5))) (ly_U (ka_U6 (kf_L_units hk0) (aw_in_lt g_5))) rfl (fun w h => List.mem_cons_of_mem _ (xi_U w h)) 1 (by decide) rfl (List.mem_cons_of_mem _ fl_L_90) xd_L_keep_63 ?_
      cases hm
      exact aw_iret C xd_L_keep_66
    · rw [if_pos c_22] at hm
      refine aw_aload_n C 1 xd_L_keep_25 rfl rfl ?_
      refine aw_dup C xd_L_keep_26 rfl ?_
      refine aw_get C k0 (kd_lt hk0) (ly_L hk0) rfl (fun w h => List.mem_cons_of_mem _ (xi_L w h)) 1 (by decide) rfl (List.mem_cons_of_mem _ fl_L_87) xd_L_keep_27 ?_
      refine aw_iconst (v := (1 : Int32)) C xd_L_keep_30 (by decide) ?_
      refine aw_iadd C xd_L_keep_31 ?_
      obtain ⟨s_32, h_32, hm⟩ := aw_let hm
      refine aw_put (σ1 := s_32) (f := upd (σ k0) 1 ((σ k0 1) + (1 : Int32))) C k0 (kd_lt hk0) (ly_L hk0) rfl (fun w h => List.mem_cons_of_mem _ (xi_L w h)) xk_L xo_L xn_L 1 (by decide) (List.mem_cons_of_mem _ fl_L_87) rfl (ty := .int) (by decide +kernel) rfl rfl (Nat.le_of_ble_eq_true rfl) (ly_L hk0) h_32 xd_L_keep_32 ?_
      refine aw_aload_n C 0 xd_L_keep_35 rfl rfl ?_
      refine aw_aload_n C 1 xd_L_keep_36 rfl rfl ?_
      refine aw_get C k0 (kd_lt hk0) (ly_L hk0) rfl (fun w h => List.mem_cons_of_mem _ (xi_L w h)) 1 (by decide) rfl (List.mem_cons_of_mem _ fl_L_87) xd_L_keep_37 ?_
      obtain ⟨s_40, h_40, hm⟩ := aw_let hm
      refine aw_put (σ1 := s_40) (f := upd (s_32 (k0 + 1 + 1 + 9 * (Int32.toNatClampNeg a2))) 1 (s_32 k0 1)) C (k0 + 1 + 1 + 9 * (Int32.toNatClampNeg a2)) (kd_lt (ka_U6 (kf_L_units hk0) (aw_in_lt g_5))) (ly_U (ka_U6 (kf_L_units hk0) (aw_in_lt g_5))) rfl (fun w h => List.mem_cons_of_mem _ (xi_U w h)) xk_U xo_U xn_U 1 (by decide) (List.mem_cons_of_mem _ fl_L_90) rfl (ty := .int) (by decide +kernel) rfl rfl (Nat.le_of_ble_eq_true rfl) (ly_U (ka_U6 (kf_L_units hk0) (aw_in_lt g_5))) h_40 xd_L_keep_40 ?_
      refine aw_aload_n C 0 xd_L_keep_43 rfl rfl ?_
      refine aw_iconst (v := (1 : Int32)) C xd_L_keep_44 (by decide) ?_
      obtain ⟨s_45, h_45, hm⟩ := aw_let hm
      refine aw_put (σ1 := s_45) (f := upd (s_40 (k0 + 1 + 1 + 9 * (Int32.toNatClampNeg a2))) 0 (1 : Int32)) C (k0 + 1 + 1 + 9 * (Int32.toNatClampNeg a2)) (kd_lt (ka_U6 (kf_L_units hk0) (aw_in_lt g_5))) (ly_U (ka_U6 (kf_L_units hk0) (aw_in_lt g_5))) rfl (fun w h => List.mem_cons_of_mem _ (xi_U w h)) xk_U xo_U xn_U 0 (by decide) (List.mem_cons_of_mem _ fl_L_22) rfl (ty := .boolean) (by decide +kernel) rfl rfl (Nat.le_of_ble_eq_true rfl) (ly_U (ka_U6 (kf_L_units hk0) (aw_in_lt g_5))) h_45 xd_L_keep_45 ?_
      refine aw_aload_n C 0 xd_L_keep_48 rfl rfl ?_
      refine aw_get C (k0 + 1 + 1 + 9 * (Int32.toNatClampNeg a2)) (kd_lt (ka_U6 (kf_L_units hk0) (aw_in_lt g_5))) (ly_U (ka_U6 (kf_L_units hk0) (aw_in_lt g_5))) rfl (fun w h => List.mem_cons_of_mem _ (xi_U w h)) 5 (by decide) rfl (List.mem_cons_of_mem _ fl_L_73) xd_L_keep_49 ?_
      refine aw_aload_n C 2 xd_L_keep_52 rfl rfl ?_
      obtain ⟨q_53, e_53, hm⟩ := aw_bnd hm
      refine aw_callVv (As := [.ref (ad k1)]) (rest := []) (b := ad ((k0 + 1 + 1 + 9 * (Int32.toNatClampNeg a2)) + 3)) C (xc_C_copyFrom s_45 ((k0 + 1 + 1 + 9 * (Int32.toNatClampNeg a2)) + 3) k1 _ (kf_U_code (ka_U6 (kf_L_units hk0) (aw_in_lt g_5))) hk1 e_53) rfl (gw_sub (gw_V xg_C_copyFrom ml_L_93 im_C_copyFrom se_C_copyFrom wi_C)) na_C_copyFrom (rm_lt (by decide) (by decide)) ⟨Nat.zero_le _, Nat.zero_le _⟩ ((k0 + 1 + 1 + 9 * (Int32.toNatClampNeg a2)) + 3) (at_C (kf_U_code (ka_U6 (kf_L_units hk0) (aw_in_lt g_5)))) rfl rfl (Nat.le_of_ble_eq_true rfl) xd_L_keep_53 ?_
      refine aw_aload_n C 1 xd_L_keep_56 rfl rfl ?_
      refine aw_aload_n C 0 xd_L_keep_57 rfl rfl ?_
      refine aw_iload_n C 3 xd_L_keep_58 rfl rfl ?_
      obtain ⟨q_59, e_59, hm⟩ := aw_bnd hm
      refine aw_callVv (As := [.ref (ad (k0 + 1 + 1 + 9 * (Int32.toNatClampNeg a2))), .int a2]) (rest := []) (b := ad k0) C (xc_L_gatherImports q_53 k0 (k0 + 1 + 1 + 9 * (Int32.toNatClampNeg a2)) a2 _ hk0 (ka_U6 (kf_L_units hk0) (aw_in_lt g_5)) e_59) rfl (gw_sub (gw_V xg_L_gatherImports ml_L_97 im_L_gatherImports se_L_gatherImports wi_L)) na_L_gatherImports (rm_lt (by decide) (by decide)) ⟨Nat.zero_le _, Nat.zero_le _⟩ k0 (at_L hk0) rfl rfl (Nat.le_of_ble_eq_true rfl) xd_L_keep_59 ?_
      refine aw_aload_n C 0 xd_L_keep_62 rfl rfl ?_
      refine aw_get C (k0 + 1 + 1 + 9 * (Int32.toNatClampNeg a2)) (kd_lt (ka_U6 (kf_L_units hk0) (aw_in_lt g_5))) (ly_U (ka_U6 (kf_L_units hk0) (aw_in_lt g_5))) rfl (fun w h => List.mem_cons_of_mem _ (xi_U w h)) 1 (by decide) rfl (List.mem_cons_of_mem _ fl_L_90) xd_L_keep_63 ?_
      cases hm
      exact aw_iret C xd_L_keep_66
end
end
section
theorem xd_M_has_0 : decode xb_M_has 0 = .ok (.iload_n 1, 1) := by decide +kernel
theorem xd_M_has_1 : decode xb_M_has 1 = .ok (.invokestatic 22, 3) := by decide +kernel
theorem xd_M_has_4 : decode xb_M_has 4 = .ok (.ifCond .eq 22, 3) := by decide +kernel
theorem xd_M_has_7 : decode xb_M_has 7 = .ok (.aload_n 0, 1) := by decide +kernel
theorem xd_M_has_8 : decode xb_M_has 8 = .ok (.getfield 11, 3) := by decide +kernel
theorem xd_M_has_11 : decode xb_M_has 11 = .ok (.iload_n 1, 1) := by decide +kernel
theorem xd_M_has_12 : decode xb_M_has 12 = .ok (.aaload, 1) := by decide +kernel
theorem xd_M_has_13 : decode xb_M_has 13 = .ok (.getfield 26, 3) := by decide +kernel
theorem xd_M_has_16 : decode xb_M_has 16 = .ok (.getfield 30, 3) := by decide +kernel
theorem xd_M_has_19 : decode xb_M_has 19 = .ok (.ifCond .eq 7, 3) := by decide +kernel
theorem xd_M_has_22 : decode xb_M_has 22 = .ok (.iconst 1, 1) := by decide +kernel
theorem xd_M_has_23 : decode xb_M_has 23 = .ok (.goto 4, 3) := by decide +kernel
theorem xd_M_has_26 : decode xb_M_has 26 = .ok (.iconst 0, 1) := by decide +kernel
theorem xd_M_has_27 : decode xb_M_has 27 = .ok (.ireturn, 1) := by decide +kernel
theorem xd_M_held_0 : decode xb_M_held 0 = .ok (.iconst 0, 1) := by decide +kernel
theorem xd_M_held_1 : decode xb_M_held 1 = .ok (.istore_n 1, 1) := by decide +kernel
theorem xd_M_held_2 : decode xb_M_held 2 = .ok (.iconst 0, 1) := by decide +kernel
theorem xd_M_held_3 : decode xb_M_held 3 = .ok (.istore_n 2, 1) := by decide +kernel
theorem xd_M_held_4 : decode xb_M_held 4 = .ok (.iload_n 2, 1) := by decide +kernel
theorem xd_M_held_5 : decode xb_M_held 5 = .ok (.bipush 6, 2) := by decide +kernel
theorem xd_M_held_7 : decode xb_M_held 7 = .ok (.if_icmp .ge 25, 3) := by decide +kernel
theorem xd_M_held_10 : decode xb_M_held 10 = .ok (.iload_n 1, 1) := by decide +kernel
theorem xd_M_held_11 : decode xb_M_held 11 = .ok (.aload_n 0, 1) := by decide +kernel
theorem xd_M_held_12 : decode xb_M_held 12 = .ok (.iload_n 2, 1) := by decide +kernel
theorem xd_M_held_13 : decode xb_M_held 13 = .ok (.invokevirtual 36, 3) := by decide +kernel
theorem xd_M_held_16 : decode xb_M_held 16 = .ok (.ifCond .eq 7, 3) := by decide +kernel
theorem xd_M_held_19 : decode xb_M_held 19 = .ok (.iconst 1, 1) := by decide +kernel
theorem xd_M_held_20 : decode xb_M_held 20 = .ok (.goto 4, 3) := by decide +kernel
theorem xd_M_held_23 : decode xb_M_held 23 = .ok (.iconst 0, 1) := by decide +kernel
theorem xd_M_held_24 : decode xb_M_held 24 = .ok (.iadd, 1) := by decide +kernel
theorem xd_M_held_25 : decode xb_M_held 25 = .ok (.istore_n 1, 1) := by decide +kernel
theorem xd_M_held_26 : decode xb_M_held 26 = .ok (.iinc 2 1, 3) := by decide +kernel
theorem xd_M_held_29 : decode xb_M_held 29 = .ok (.goto (-25), 3) := by decide +kernel
theorem xd_M_held_32 : decode xb_M_held 32 = .ok (.iload_n 1, 1) := by decide +kernel
theorem xd_M_held_33 : decode xb_M_held 33 = .ok (.ireturn, 1) := by decide +kernel
theorem xd_M_size_0 : decode xb_M_size 0 = .ok (.iconst 0, 1) := by decide +kernel
theorem xd_M_size_1 : decode xb_M_size 1 = .ok (.istore_n 1, 1) := by decide +kernel
theorem xd_M_size_2 : decode xb_M_size 2 = .ok (.iconst 0, 1) := by decide +kernel
theorem xd_M_size_3 : decode xb_M_size 3 = .ok (.istore_n 2, 1) := by decide +kernel
theorem xd_M_size_4 : decode xb_M_size 4 = .ok (.iload_n 2, 1) := by decide +kernel
theorem xd_M_size_5 : decode xb_M_size 5 = .ok (.bipush 6, 2) := by decide +kernel
theorem xd_M_size_7 : decode xb_M_size 7 = .ok (.if_icmp .ge 39, 3) := by decide +kernel
theorem xd_M_size_10 : decode xb_M_size 10 = .ok (.iload_n 1, 1) := by decide +kernel
theorem xd_M_size_11 : decode xb_M_size 11 = .ok (.aload_n 0, 1) := by decide +kernel
theorem xd_M_size_12 : decode xb_M_size 12 = .ok (.iload_n 2, 1) := by decide +kernel
theorem xd_M_size_13 : decode xb_M_size 13 = .ok (.invokevirtual 36, 3) := by decide +kernel
theorem xd_M_size_16 : decode xb_M_size 16 = .ok (.ifCond .eq 21, 3) := by decide +kernel
theorem xd_M_size_19 : decode xb_M_size 19 = .ok (.aload_n 0, 1) := by decide +kernel
theorem xd_M_size_20 : decode xb_M_size 20 = .ok (.getfield 11, 3) := by decide +kernel
theorem xd_M_size_23 : decode xb_M_size 23 = .ok (.iload_n 2, 1) := by decide +kernel
theorem xd_M_size_24 : decode xb_M_size 24 = .ok (.aaload, 1) := by decide +kernel
theorem xd_M_size_25 : decode xb_M_size 25 = .ok (.getfield 26, 3) := by decide +kernel
theorem xd_M_size_28 : decode xb_M_size 28 = .ok (.getfield 39, 3) := by decide +kernel
theorem xd_M_size_31 : decode xb_M_size 31 = .ok (.invokevirtual 43, 3) := by decide +kernel
theorem xd_M_size_34 : decode xb_M_size 34 = .ok (.goto 4, 3) := by decide +kernel
theorem xd_M_size_37 : decode xb_M_size 37 = .ok (.iconst 0, 1) := by decide +kernel
theorem xd_M_size_38 : decode xb_M_size 38 = .ok (.iadd, 1) := by decide +kernel
theorem xd_M_size_39 : decode xb_M_size 39 = .ok (.istore_n 1, 1) := by decide +kernel
theorem xd_M_size_40 : decode xb_M_size 40 = .ok (.iinc 2 1, 3) := by decide +kernel
theorem xd_M_size_43 : decode xb_M_size 43 = .ok (.goto (-39), 3) := by decide +kernel
theorem xd_M_size_46 : decode xb_M_size 46 = .ok (.iload_n 1, 1) := by decide +kernel
theorem xd_M_size_47 : decode xb_M_size 47 = .ok (.ireturn, 1) := by decide +kernel
theorem xd_M_isImported_0 : decode xb_M_isImported 0 = .ok (.iconst 0, 1) := by decide +kernel
theorem xd_M_isImported_1 : decode xb_M_isImported 1 = .ok (.istore_n 2, 1) := by decide +kernel
theorem xd_M_isImported_2 : decode xb_M_isImported 2 = .ok (.iload_n 2, 1) := by decide +kernel
theorem xd_M_isImported_3 : decode xb_M_isImported 3 = .ok (.bipush 6, 2) := by decide +kernel
theorem xd_M_isImported_5 : decode xb_M_isImported 5 = .ok (.if_icmp .ge 35, 3) := by decide +kernel
theorem xd_M_isImported_8 : decode xb_M_isImported 8 = .ok (.aload_n 0, 1) := by decide +kernel
theorem xd_M_isImported_9 : decode xb_M_isImported 9 = .ok (.iload_n 2, 1) := by decide +kernel
theorem xd_M_isImported_10 : decode xb_M_isImported 10 = .ok (.invokevirtual 36, 3) := by decide +kernel
theorem xd_M_isImported_13 : decode xb_M_isImported 13 = .ok (.ifCond .eq 21, 3) := by decide +kernel
theorem xd_M_isImported_16 : decode xb_M_isImported 16 = .ok (.aload_n 0, 1) := by decide +kernel
theorem xd_M_isImported_17 : decode xb_M_isImported 17 = .ok (.getfield 11, 3) := by decide +kernel
theorem xd_M_isImported_20 : decode xb_M_isImported 20 = .ok (.iload_n 2, 1) := by decide +kernel
theorem xd_M_isImported_21 : decode xb_M_isImported 21 = .ok (.aaload, 1) := by decide +kernel
theorem xd_M_isImported_22 : decode xb_M_isImported 22 = .ok (.getfield 26, 3) := by decide +kernel
theorem xd_M_isImported_25 : decode xb_M_isImported 25 = .ok (.iload_n 1, 1) := by decide +kernel
theorem xd_M_isImported_26 : decode xb_M_isImported 26 = .ok (.invokevirtual 49, 3) := by decide +kernel
theorem xd_M_isImported_29 : decode xb_M_isImported 29 = .ok (.ifCond .eq 5, 3) := by decide +kernel
theorem xd_M_isImported_32 : decode xb_M_isImported 32 = .ok (.iconst 1, 1) := by decide +kernel
theorem xd_M_isImported_33 : decode xb_M_isImported 33 = .ok (.ireturn, 1) := by decide +kernel
theorem xd_M_isImported_34 : decode xb_M_isImported 34 = .ok (.iinc 2 1, 3) := by decide +kernel
theorem xd_M_isImported_37 : decode xb_M_isImported 37 = .ok (.goto (-35), 3) := by decide +kernel
theorem xd_M_isImported_40 : decode xb_M_isImported 40 = .ok (.iconst 0, 1) := by decide +kernel
theorem xd_M_isImported_41 : decode xb_M_isImported 41 = .ok (.ireturn, 1) := by decide +kernel
theorem xd_M_argumentsOf_0 : decode xb_M_argumentsOf 0 = .ok (.aload_n 0, 1) := by decide +kernel
theorem xd_M_argumentsOf_1 : decode xb_M_argumentsOf 1 = .ok (.iload_n 1, 1) := by decide +kernel
theorem xd_M_argumentsOf_2 : decode xb_M_argumentsOf 2 = .ok (.invokevirtual 36, 3) := by decide +kernel
theorem xd_M_argumentsOf_5 : decode xb_M_argumentsOf 5 = .ok (.ifCond .eq 22, 3) := by decide +kernel
theorem xd_M_argumentsOf_8 : decode xb_M_argumentsOf 8 = .ok (.aload_n 0, 1) := by decide +kernel
theorem xd_M_argumentsOf_9 : decode xb_M_argumentsOf 9 = .ok (.getfield 11, 3) := by decide +kernel
theorem xd_M_argumentsOf_12 : decode xb_M_argumentsOf 12 = .ok (.iload_n 1, 1) := by decide +kernel
theorem xd_M_argumentsOf_13 : decode xb_M_argumentsOf 13 = .ok (.aaload, 1) := by decide +kernel
theorem xd_M_argumentsOf_14 : decode xb_M_argumentsOf 14 = .ok (.getfield 26, 3) := by decide +kernel
theorem xd_M_argumentsOf_17 : decode xb_M_argumentsOf 17 = .ok (.getfield 39, 3) := by decide +kernel
theorem xd_M_argumentsOf_20 : decode xb_M_argumentsOf 20 = .ok (.iload_n 2, 1) := by decide +kernel
theorem xd_M_argumentsOf_21 : decode xb_M_argumentsOf 21 = .ok (.invokevirtual 52, 3) := by decide +kernel
theorem xd_M_argumentsOf_24 : decode xb_M_argumentsOf 24 = .ok (.goto 4, 3) := by decide +kernel
theorem xd_M_argumentsOf_27 : decode xb_M_argumentsOf 27 = .ok (.iconst (-1), 1) := by decide +kernel
theorem xd_M_argumentsOf_28 : decode xb_M_argumentsOf 28 = .ok (.ireturn, 1) := by decide +kernel
theorem xd_M_valueOf_0 : decode xb_M_valueOf 0 = .ok (.aload_n 0, 1) := by decide +kernel
theorem xd_M_valueOf_1 : decode xb_M_valueOf 1 = .ok (.iload_n 1, 1) := by decide +kernel
theorem xd_M_valueOf_2 : decode xb_M_valueOf 2 = .ok (.invokevirtual 36, 3) := by decide +kernel
theorem xd_M_valueOf_5 : decode xb_M_valueOf 5 = .ok (.ifCond .eq 22, 3) := by decide +kernel
theorem xd_M_valueOf_8 : decode xb_M_valueOf 8 = .ok (.aload_n 0, 1) := by decide +kernel
theorem xd_M_valueOf_9 : decode xb_M_valueOf 9 = .ok (.getfield 11, 3) := by decide +kernel
theorem xd_M_valueOf_12 : decode xb_M_valueOf 12 = .ok (.iload_n 1, 1) := by decide +kernel
theorem xd_M_valueOf_13 : decode xb_M_valueOf 13 = .ok (.aaload, 1) := by decide +kernel
theorem xd_M_valueOf_14 : decode xb_M_valueOf 14 = .ok (.getfield 26, 3) := by decide +kernel
theorem xd_M_valueOf_17 : decode xb_M_valueOf 17 = .ok (.getfield 39, 3) := by decide +kernel
theorem xd_M_valueOf_20 : decode xb_M_valueOf 20 = .ok (.iload_n 2, 1) := by decide +kernel
theorem xd_M_valueOf_21 : decode xb_M_valueOf 21 = .ok (.invokevirtual 56, 3) := by decide +kernel
theorem xd_M_valueOf_24 : decode xb_M_valueOf 24 = .ok (.ifCond .ne 5, 3) := by decide +kernel
theorem xd_M_valueOf_27 : decode xb_M_valueOf 27 = .ok (.iconst 0, 1) := by decide +kernel
theorem xd_M_valueOf_28 : decode xb_M_valueOf 28 = .ok (.ireturn, 1) := by decide +kernel
theorem xd_M_valueOf_29 : decode xb_M_valueOf 29 = .ok (.aload_n 0, 1) := by decide +kernel
theorem xd_M_valueOf_30 : decode xb_M_valueOf 30 = .ok (.getfield 11, 3) := by decide +kernel
theorem xd_M_valueOf_33 : decode xb_M_valueOf 33 = .ok (.iload_n 1, 1) := by decide +kernel
theorem xd_M_valueOf_34 : decode xb_M_valueOf 34 = .ok (.aaload, 1) := by decide +kernel
theorem xd_M_valueOf_35 : decode xb_M_valueOf 35 = .ok (.getfield 59, 3) := by decide +kernel
theorem xd_M_valueOf_38 : decode xb_M_valueOf 38 = .ok (.iload_n 2, 1) := by decide +kernel
theorem xd_M_valueOf_39 : decode xb_M_valueOf 39 = .ok (.iaload, 1) := by decide +kernel
theorem xd_M_valueOf_40 : decode xb_M_valueOf 40 = .ok (.ireturn, 1) := by decide +kernel
theorem xd_M_setValue_0 : decode xb_M_setValue 0 = .ok (.aload_n 0, 1) := by decide +kernel
theorem xd_M_setValue_1 : decode xb_M_setValue 1 = .ok (.iload_n 1, 1) := by decide +kernel
theorem xd_M_setValue_2 : decode xb_M_setValue 2 = .ok (.invokevirtual 36, 3) := by decide +kernel
theorem xd_M_setValue_5 : decode xb_M_setValue 5 = .ok (.ifCond .eq 34, 3) := by decide +kernel
theorem xd_M_setValue_8 : decode xb_M_setValue 8 = .ok (.aload_n 0, 1) := by decide +kernel
theorem xd_M_setValue_9 : decode xb_M_setValue 9 = .ok (.getfield 11, 3) := by decide +kernel
theorem xd_M_setValue_12 : decode xb_M_setValue 12 = .ok (.iload_n 1, 1) := by decide +kernel
theorem xd_M_setValue_13 : decode xb_M_setValue 13 = .ok (.aaload, 1) := by decide +kernel
theorem xd_M_setValue_14 : decode xb_M_setValue 14 = .ok (.getfield 26, 3) := by decide +kernel
theorem xd_M_setValue_17 : decode xb_M_setValue 17 = .ok (.getfield 39, 3) := by decide +kernel
theorem xd_M_setValue_20 : decode xb_M_setValue 20 = .ok (.iload_n 2, 1) := by decide +kernel
theorem xd_M_setValue_21 : decode xb_M_setValue 21 = .ok (.invokevirtual 56, 3) := by decide +kernel
theorem xd_M_setValue_24 : decode xb_M_setValue 24 = .ok (.ifCond .eq 15, 3) := by decide +kernel
theorem xd_M_setValue_27 : decode xb_M_setValue 27 = .ok (.aload_n 0, 1) := by decide +kernel
theorem xd_M_setValue_28 : decode xb_M_setValue 28 = .ok (.getfield 11, 3) := by decide +kernel
theorem xd_M_setValue_31 : decode xb_M_setValue 31 = .ok (.iload_n 1, 1) := by decide +kernel
theorem xd_M_setValue_32 : decode xb_M_setValue 32 = .ok (.aaload, 1) := by decide +kernel
theorem xd_M_setValue_33 : decode xb_M_setValue 33 = .ok (.getfield 59, 3) := by decide +kernel
theorem xd_M_setValue_36 : decode xb_M_setValue 36 = .ok (.iload_n 2, 1) := by decide +kernel
theorem xd_M_setValue_37 : decode xb_M_setValue 37 = .ok (.iload_n 3, 1) := by decide +kernel
theorem xd_M_setValue_38 : decode xb_M_setValue 38 = .ok (.iastore, 1) := by decide +kernel
theorem xd_M_setValue_39 : decode xb_M_setValue 39 = .ok (.return_, 1) := by decide +kernel
theorem xd_M_dropBegun_0 : decode xb_M_dropBegun 0 = .ok (.iconst 0, 1) := by decide +kernel
theorem xd_M_dropBegun_1 : decode xb_M_dropBegun 1 = .ok (.istore_n 1, 1) := by decide +kernel
theorem xd_M_dropBegun_2 : decode xb_M_dropBegun 2 = .ok (.iload_n 1, 1) := by decide +kernel
theorem xd_M_dropBegun_3 : decode xb_M_dropBegun 3 = .ok (.bipush 6, 2) := by decide +kernel
theorem xd_M_dropBegun_5 : decode xb_M_dropBegun 5 = .ok (.if_icmp .ge 31, 3) := by decide +kernel
theorem xd_M_dropBegun_8 : decode xb_M_dropBegun 8 = .ok (.aload_n 0, 1) := by decide +kernel
theorem xd_M_dropBegun_9 : decode xb_M_dropBegun 9 = .ok (.getfield 17, 3) := by decide +kernel
theorem xd_M_dropBegun_12 : decode xb_M_dropBegun 12 = .ok (.iload_n 1, 1) := by decide +kernel
theorem xd_M_dropBegun_13 : decode xb_M_dropBegun 13 = .ok (.baload, 1) := by decide +kernel
theorem xd_M_dropBegun_14 : decode xb_M_dropBegun 14 = .ok (.ifCond .eq 16, 3) := by decide +kernel
theorem xd_M_dropBegun_17 : decode xb_M_dropBegun 17 = .ok (.aload_n 0, 1) := by decide +kernel
theorem xd_M_dropBegun_18 : decode xb_M_dropBegun 18 = .ok (.getfield 11, 3) := by decide +kernel
theorem xd_M_dropBegun_21 : decode xb_M_dropBegun 21 = .ok (.iload_n 1, 1) := by decide +kernel
theorem xd_M_dropBegun_22 : decode xb_M_dropBegun 22 = .ok (.aaload, 1) := by decide +kernel
theorem xd_M_dropBegun_23 : decode xb_M_dropBegun 23 = .ok (.getfield 26, 3) := by decide +kernel
theorem xd_M_dropBegun_26 : decode xb_M_dropBegun 26 = .ok (.iconst 0, 1) := by decide +kernel
theorem xd_M_dropBegun_27 : decode xb_M_dropBegun 27 = .ok (.putfield 30, 3) := by decide +kernel
theorem xd_M_dropBegun_30 : decode xb_M_dropBegun 30 = .ok (.iinc 1 1, 3) := by decide +kernel
theorem xd_M_dropBegun_33 : decode xb_M_dropBegun 33 = .ok (.goto (-31), 3) := by decide +kernel
theorem xd_M_dropBegun_36 : decode xb_M_dropBegun 36 = .ok (.return_, 1) := by decide +kernel
theorem xd_M_bringOne_0 : decode xb_M_bringOne 0 = .ok (.aload_n 0, 1) := by decide +kernel
theorem xd_M_bringOne_1 : decode xb_M_bringOne 1 = .ok (.iload_n 2, 1) := by decide +kernel
theorem xd_M_bringOne_2 : decode xb_M_bringOne 2 = .ok (.invokevirtual 36, 3) := by decide +kernel
theorem xd_M_bringOne_5 : decode xb_M_bringOne 5 = .ok (.ifCond .eq 5, 3) := by decide +kernel
theorem xd_M_bringOne_8 : decode xb_M_bringOne 8 = .ok (.iconst 0, 1) := by decide +kernel
theorem xd_M_bringOne_9 : decode xb_M_bringOne 9 = .ok (.ireturn, 1) := by decide +kernel
theorem xd_M_bringOne_10 : decode xb_M_bringOne 10 = .ok (.iload_n 3, 1) := by decide +kernel
theorem xd_M_bringOne_11 : decode xb_M_bringOne 11 = .ok (.bipush 6, 2) := by decide +kernel
theorem xd_M_bringOne_13 : decode xb_M_bringOne 13 = .ok (.if_icmp .ge 12, 3) := by decide +kernel
theorem xd_M_bringOne_16 : decode xb_M_bringOne 16 = .ok (.aload_n 0, 1) := by decide +kernel
theorem xd_M_bringOne_17 : decode xb_M_bringOne 17 = .ok (.getfield 17, 3) := by decide +kernel
theorem xd_M_bringOne_20 : decode xb_M_bringOne 20 = .ok (.iload_n 2, 1) := by decide +kernel
theorem xd_M_bringOne_21 : decode xb_M_bringOne 21 = .ok (.baload, 1) := by decide +kernel
theorem xd_M_bringOne_22 : decode xb_M_bringOne 22 = .ok (.ifCond .eq 6, 3) := by decide +kernel
theorem xd_M_bringOne_25 : decode xb_M_bringOne 25 = .ok (.bipush (-6), 2) := by decide +kernel
theorem xd_M_bringOne_27 : decode xb_M_bringOne 27 = .ok (.ireturn, 1) := by decide +kernel
theorem xd_M_bringOne_28 : decode xb_M_bringOne 28 = .ok (.aload_n 1, 1) := by decide +kernel
theorem xd_M_bringOne_29 : decode xb_M_bringOne 29 = .ok (.iload_n 2, 1) := by decide +kernel
theorem xd_M_bringOne_30 : decode xb_M_bringOne 30 = .ok (.invokevirtual 73, 3) := by decide +kernel
theorem xd_M_bringOne_33 : decode xb_M_bringOne 33 = .ok (.ifCond .ne 6, 3) := by decide +kernel
theorem xd_M_bringOne_36 : decode xb_M_bringOne 36 = .ok (.bipush (-4), 2) := by decide +kernel
theorem xd_M_bringOne_38 : decode xb_M_bringOne 38 = .ok (.ireturn, 1) := by decide +kernel
theorem xd_M_bringOne_39 : decode xb_M_bringOne 39 = .ok (.aload_n 0, 1) := by decide +kernel
theorem xd_M_bringOne_40 : decode xb_M_bringOne 40 = .ok (.getfield 17, 3) := by decide +kernel
theorem xd_M_bringOne_43 : decode xb_M_bringOne 43 = .ok (.iload_n 2, 1) := by decide +kernel
theorem xd_M_bringOne_44 : decode xb_M_bringOne 44 = .ok (.iconst 1, 1) := by decide +kernel
theorem xd_M_bringOne_45 : decode xb_M_bringOne 45 = .ok (.bastore, 1) := by decide +kernel
theorem xd_M_bringOne_46 : decode xb_M_bringOne 46 = .ok (.aload_n 1, 1) := by decide +kernel
theorem xd_M_bringOne_47 : decode xb_M_bringOne 47 = .ok (.getfield 76, 3) := by decide +kernel
theorem xd_M_bringOne_50 : decode xb_M_bringOne 50 = .ok (.iload_n 2, 1) := by decide +kernel
theorem xd_M_bringOne_51 : decode xb_M_bringOne 51 = .ok (.aaload, 1) := by decide +kernel
theorem xd_M_bringOne_52 : decode xb_M_bringOne 52 = .ok (.astore 4, 2) := by decide +kernel
theorem xd_M_bringOne_54 : decode xb_M_bringOne 54 = .ok (.iconst 0, 1) := by decide +kernel
theorem xd_M_bringOne_55 : decode xb_M_bringOne 55 = .ok (.istore 5, 2) := by decide +kernel
theorem xd_M_bringOne_57 : decode xb_M_bringOne 57 = .ok (.iload 5, 2) := by decide +kernel
theorem xd_M_bringOne_59 : decode xb_M_bringOne 59 = .ok (.aload 4, 2) := by decide +kernel
theorem xd_M_bringOne_61 : decode xb_M_bringOne 61 = .ok (.getfield 80, 3) := by decide +kernel
theorem xd_M_bringOne_64 : decode xb_M_bringOne 64 = .ok (.if_icmp .ge 68, 3) := by decide +kernel
theorem xd_M_bringOne_67 : decode xb_M_bringOne 67 = .ok (.aload_n 0, 1) := by decide +kernel
theorem xd_M_bringOne_68 : decode xb_M_bringOne 68 = .ok (.aload_n 1, 1) := by decide +kernel
theorem xd_M_bringOne_69 : decode xb_M_bringOne 69 = .ok (.aload 4, 2) := by decide +kernel
theorem xd_M_bringOne_71 : decode xb_M_bringOne 71 = .ok (.getfield 84, 3) := by decide +kernel
theorem xd_M_bringOne_74 : decode xb_M_bringOne 74 = .ok (.iload 5, 2) := by decide +kernel
theorem xd_M_bringOne_76 : decode xb_M_bringOne 76 = .ok (.iaload, 1) := by decide +kernel
theorem xd_M_bringOne_77 : decode xb_M_bringOne 77 = .ok (.iload_n 3, 1) := by decide +kernel
theorem xd_M_bringOne_78 : decode xb_M_bringOne 78 = .ok (.iconst 1, 1) := by decide +kernel
theorem xd_M_bringOne_79 : decode xb_M_bringOne 79 = .ok (.iadd, 1) := by decide +kernel
theorem xd_M_bringOne_80 : decode xb_M_bringOne 80 = .ok (.invokevirtual 66, 3) := by decide +kernel
theorem xd_M_bringOne_83 : decode xb_M_bringOne 83 = .ok (.istore 6, 2) := by decide +kernel
theorem xd_M_bringOne_85 : decode xb_M_bringOne 85 = .ok (.iload 6, 2) := by decide +kernel
theorem xd_M_bringOne_87 : decode xb_M_bringOne 87 = .ok (.ifCond .eq 6, 3) := by decide +kernel
theorem xd_M_bringOne_90 : decode xb_M_bringOne 90 = .ok (.iload 6, 2) := by decide +kernel
theorem xd_M_bringOne_92 : decode xb_M_bringOne 92 = .ok (.ireturn, 1) := by decide +kernel
theorem xd_M_bringOne_93 : decode xb_M_bringOne 93 = .ok (.aload_n 0, 1) := by decide +kernel
theorem xd_M_bringOne_94 : decode xb_M_bringOne 94 = .ok (.getfield 11, 3) := by decide +kernel
theorem xd_M_bringOne_97 : decode xb_M_bringOne 97 = .ok (.aload 4, 2) := by decide +kernel
theorem xd_M_bringOne_99 : decode xb_M_bringOne 99 = .ok (.getfield 84, 3) := by decide +kernel
theorem xd_M_bringOne_102 : decode xb_M_bringOne 102 = .ok (.iload 5, 2) := by decide +kernel
theorem xd_M_bringOne_104 : decode xb_M_bringOne 104 = .ok (.iaload, 1) := by decide +kernel
theorem xd_M_bringOne_105 : decode xb_M_bringOne 105 = .ok (.aaload, 1) := by decide +kernel
theorem xd_M_bringOne_106 : decode xb_M_bringOne 106 = .ok (.getfield 26, 3) := by decide +kernel
theorem xd_M_bringOne_109 : decode xb_M_bringOne 109 = .ok (.getfield 87, 3) := by decide +kernel
theorem xd_M_bringOne_112 : decode xb_M_bringOne 112 = .ok (.aload 4, 2) := by decide +kernel
theorem xd_M_bringOne_114 : decode xb_M_bringOne 114 = .ok (.getfield 90, 3) := by decide +kernel
theorem xd_M_bringOne_117 : decode xb_M_bringOne 117 = .ok (.iload 5, 2) := by decide +kernel
theorem xd_M_bringOne_119 : decode xb_M_bringOne 119 = .ok (.iaload, 1) := by decide +kernel
theorem xd_M_bringOne_120 : decode xb_M_bringOne 120 = .ok (.if_icmp .eq 6, 3) := by decide +kernel
theorem xd_M_bringOne_123 : decode xb_M_bringOne 123 = .ok (.bipush (-5), 2) := by decide +kernel
theorem xd_M_bringOne_125 : decode xb_M_bringOne 125 = .ok (.ireturn, 1) := by decide +kernel
theorem xd_M_bringOne_126 : decode xb_M_bringOne 126 = .ok (.iinc 5 1, 3) := by decide +kernel
theorem xd_M_bringOne_129 : decode xb_M_bringOne 129 = .ok (.goto (-72), 3) := by decide +kernel
theorem xd_M_bringOne_132 : decode xb_M_bringOne 132 = .ok (.aload_n 0, 1) := by decide +kernel
theorem xd_M_bringOne_133 : decode xb_M_bringOne 133 = .ok (.invokevirtual 93, 3) := by decide +kernel
theorem xd_M_bringOne_136 : decode xb_M_bringOne 136 = .ok (.aload 4, 2) := by decide +kernel
theorem xd_M_bringOne_138 : decode xb_M_bringOne 138 = .ok (.getfield 39, 3) := by decide +kernel
theorem xd_M_bringOne_141 : decode xb_M_bringOne 141 = .ok (.invokevirtual 43, 3) := by decide +kernel
theorem xd_M_bringOne_144 : decode xb_M_bringOne 144 = .ok (.iadd, 1) := by decide +kernel
theorem xd_M_bringOne_145 : decode xb_M_bringOne 145 = .ok (.bipush 50, 2) := by decide +kernel
theorem xd_M_bringOne_147 : decode xb_M_bringOne 147 = .ok (.if_icmp .le 6, 3) := by decide +kernel
theorem xd_M_bringOne_150 : decode xb_M_bringOne 150 = .ok (.bipush (-2), 2) := by decide +kernel
theorem xd_M_bringOne_152 : decode xb_M_bringOne 152 = .ok (.ireturn, 1) := by decide +kernel
theorem xd_M_bringOne_153 : decode xb_M_bringOne 153 = .ok (.aload_n 0, 1) := by decide +kernel
theorem xd_M_bringOne_154 : decode xb_M_bringOne 154 = .ok (.getfield 11, 3) := by decide +kernel
theorem xd_M_bringOne_157 : decode xb_M_bringOne 157 = .ok (.iload_n 2, 1) := by decide +kernel
theorem xd_M_bringOne_158 : decode xb_M_bringOne 158 = .ok (.aaload, 1) := by decide +kernel
theorem xd_M_bringOne_159 : decode xb_M_bringOne 159 = .ok (.aload 4, 2) := by decide +kernel
theorem xd_M_bringOne_161 : decode xb_M_bringOne 161 = .ok (.invokevirtual 94, 3) := by decide +kernel
theorem xd_M_bringOne_164 : decode xb_M_bringOne 164 = .ok (.iconst 0, 1) := by decide +kernel
theorem xd_M_bringOne_165 : decode xb_M_bringOne 165 = .ok (.ireturn, 1) := by decide +kernel
theorem xd_M_bring_0 : decode xb_M_bring 0 = .ok (.aload_n 0, 1) := by decide +kernel
theorem xd_M_bring_1 : decode xb_M_bring 1 = .ok (.invokevirtual 63, 3) := by decide +kernel
theorem xd_M_bring_4 : decode xb_M_bring 4 = .ok (.istore_n 3, 1) := by decide +kernel
theorem xd_M_bring_5 : decode xb_M_bring 5 = .ok (.iconst 0, 1) := by decide +kernel
theorem xd_M_bring_6 : decode xb_M_bring 6 = .ok (.istore 4, 2) := by decide +kernel
theorem xd_M_bring_8 : decode xb_M_bring 8 = .ok (.iload 4, 2) := by decide +kernel
theorem xd_M_bring_10 : decode xb_M_bring 10 = .ok (.bipush 6, 2) := by decide +kernel
theorem xd_M_bring_12 : decode xb_M_bring 12 = .ok (.if_icmp .ge 17, 3) := by decide +kernel
theorem xd_M_bring_15 : decode xb_M_bring 15 = .ok (.aload_n 0, 1) := by decide +kernel
theorem xd_M_bring_16 : decode xb_M_bring 16 = .ok (.getfield 17, 3) := by decide +kernel
theorem xd_M_bring_19 : decode xb_M_bring 19 = .ok (.iload 4, 2) := by decide +kernel
theorem xd_M_bring_21 : decode xb_M_bring 21 = .ok (.iconst 0, 1) := by decide +kernel
theorem xd_M_bring_22 : decode xb_M_bring 22 = .ok (.bastore, 1) := by decide +kernel
theorem xd_M_bring_23 : decode xb_M_bring 23 = .ok (.iinc 4 1, 3) := by decide +kernel
theorem xd_M_bring_26 : decode xb_M_bring 26 = .ok (.goto (-18), 3) := by decide +kernel
theorem xd_M_bring_29 : decode xb_M_bring 29 = .ok (.aload_n 0, 1) := by decide +kernel
theorem xd_M_bring_30 : decode xb_M_bring 30 = .ok (.aload_n 1, 1) := by decide +kernel
theorem xd_M_bring_31 : decode xb_M_bring 31 = .ok (.iload_n 2, 1) := by decide +kernel
theorem xd_M_bring_32 : decode xb_M_bring 32 = .ok (.iconst 0, 1) := by decide +kernel
theorem xd_M_bring_33 : decode xb_M_bring 33 = .ok (.invokevirtual 66, 3) := by decide +kernel
theorem xd_M_bring_36 : decode xb_M_bring 36 = .ok (.istore 4, 2) := by decide +kernel
theorem xd_M_bring_38 : decode xb_M_bring 38 = .ok (.iload 4, 2) := by decide +kernel
theorem xd_M_bring_40 : decode xb_M_bring 40 = .ok (.ifCond .ne 10, 3) := by decide +kernel
theorem xd_M_bring_43 : decode xb_M_bring 43 = .ok (.aload_n 0, 1) := by decide +kernel
theorem xd_M_bring_44 : decode xb_M_bring 44 = .ok (.invokevirtual 63, 3) := by decide +kernel
theorem xd_M_bring_47 : decode xb_M_bring 47 = .ok (.iload_n 3, 1) := by decide +kernel
theorem xd_M_bring_48 : decode xb_M_bring 48 = .ok (.isub, 1) := by decide +kernel
theorem xd_M_bring_49 : decode xb_M_bring 49 = .ok (.ireturn, 1) := by decide +kernel
theorem xd_M_bring_50 : decode xb_M_bring 50 = .ok (.aload_n 0, 1) := by decide +kernel
theorem xd_M_bring_51 : decode xb_M_bring 51 = .ok (.invokevirtual 70, 3) := by decide +kernel
theorem xd_M_bring_54 : decode xb_M_bring 54 = .ok (.iload 4, 2) := by decide +kernel
theorem xd_M_bring_56 : decode xb_M_bring 56 = .ok (.ireturn, 1) := by decide +kernel
section
variable {l : Launch} {D : va_G} {ad : Nat → Nat} {ids : Nat → ClassId} {ps : Nat}
def xm_M_has (σ : aw_m) (k0 : Nat) (a1 : Int32) : Option Int32 := (xm_S_isModule σ a1).bind fun q_1 => (if q_1 = 0 then some (0 : Int32) else if aw_in a1 6 = true then (if σ ((k0 + 1 + 2 + 11 * (Int32.toNatClampNeg a1)) + 1) 0 = 0 then some (0 : Int32) else some (1 : Int32)) else none)
set_option maxHeartbeats 4000000 in
set_option maxRecDepth 100000 in
theorem xc_M_has (σ : aw_m) (k0 : Nat) (a1 : Int32) (q : Int32) (hk0 : kd_k k0 = 8) (hm : xm_M_has σ k0 a1 = some q) : aw_M l D (ty_z ids) (zs_T ps) xy_M_has (xw_M_has :: gw_l) (rm_D (1)) [.ref (ad k0), .int a1] (cw_w ad ids σ) (some (.int q)) (cw_w ad ids σ) := by
  refine aw_intro (cc := xb_M_has) (n := 2) (ret := (some .boolean)) "ModuleShelf$Memory" rfl (by decide) rfl (Nat.le_of_ble_eq_true rfl) ?_
  intro κ C
  unfold xm_M_has at hm
  refine aw_iload_n C 1 xd_M_has_0 rfl rfl ?_
  obtain ⟨q_1, e_1, hm⟩ := aw_bnd hm
  refine aw_callSNi (As := [.int a1]) (rest := []) C (xc_S_isModule σ a1 _  e_1) rfl (gw_sub (gw_C xg_S_isModule)) (List.mem_of_getElem? (i := 6) rfl) (List.mem_cons_of_mem _ wi_S) (List.mem_cons_of_mem _ st_S_isModule) na_S_isModule (rm_lt (by decide) (by decide)) ⟨Nat.zero_le _, Nat.zero_le _⟩ rfl (Nat.le_of_ble_eq_true rfl) xd_M_has_1 ?_
  refine aw_if_eq (tgt := 26) C xd_M_has_4 (by decide) (fun c_4 => ?_) (fun c_4 => ?_)
  · rw [if_pos c_4] at hm
    refine aw_iconst (v := (0 : Int32)) C xd_M_has_26 (by decide) ?_
    cases hm
    exact aw_zret C (by decide) xd_M_has_27
  · rw [if_neg c_4] at hm
    refine aw_aload_n C 0 xd_M_has_7 rfl rfl ?_
    refine aw_get C k0 (kd_lt hk0) (ly_M hk0) rfl (fun w h => List.mem_cons_of_mem _ (xi_M w h)) 0 (by decide) rfl (List.mem_cons_of_mem _ fl_M_11) xd_M_has_8 ?_
    refine aw_iload_n C 1 xd_M_has_11 rfl rfl ?_
    obtain ⟨g_12, hm⟩ := aw_grd hm
    refine aw_aald C (k0 + 1) (kd_lt (kf_M_images hk0)) 3 (ly_I6 (kf_M_images hk0)) rfl (aw_in_ok g_12) rfl xd_M_has_12 ?_
    refine aw_get C (k0 + 1 + 2 + 11 * (Int32.toNatClampNeg a1)) (kd_lt (ka_I6 (kf_M_images hk0) (aw_in_lt g_12))) (ly_I (ka_I6 (kf_M_images hk0) (aw_in_lt g_12))) rfl (fun w h => List.mem_cons_of_mem _ (xi_I w h)) 0 (by decide) rfl (List.mem_cons_of_mem _ fl_M_26) xd_M_has_13 ?_
    refine aw_get C ((k0 + 1 + 2 + 11 * (Int32.toNatClampNeg a1)) + 1) (kd_lt (kf_I_unit (ka_I6 (kf_M_images hk0) (aw_in_lt g_12)))) (ly_U (kf_I_unit (ka_I6 (kf_M_images hk0) (aw_in_lt g_12)))) rfl (fun w h => List.mem_cons_of_mem _ (xi_U w h)) 0 (by decide) rfl (List.mem_cons_of_mem _ fl_M_30) xd_M_has_16 ?_
    refine aw_if_eq (tgt := 26) C xd_M_has_19 (by decide) (fun c_19 => ?_) (fun c_19 => ?_)
    · rw [if_pos c_19] at hm
      refine aw_iconst (v := (0 : Int32)) C xd_M_has_26 (by decide) ?_
      cases hm
      exact aw_zret C (by decide) xd_M_has_27
    · rw [if_neg c_19] at hm
      refine aw_iconst (v := (1 : Int32)) C xd_M_has_22 (by decide) ?_
      refine aw_goto (tgt := 27) C xd_M_has_23 (by decide) ?_
      cases hm
      exact aw_zret C (by decide) xd_M_has_27
def xq_M_held_4 (σ : aw_m)  : Nat → Nat → Int32 → Int32 → Option Int32
  | 0, _, _, _ => none
  | n + 1, j0, v1, v2 => (if (6 : Int32) ≤ v2 then some v1 else (xm_M_has σ j0 v2).bind fun q_13 => (if q_13 = 0 then xq_M_held_4 σ n j0 (v1 + (0 : Int32)) (v2 + (1 : Int32)) else xq_M_held_4 σ n j0 (v1 + (1 : Int32)) (v2 + (1 : Int32))))
def xm_M_held (σ : aw_m) (k0 : Nat) : Option Int32 := xq_M_held_4 σ 64 k0 (0 : Int32) (0 : Int32)
set_option maxHeartbeats 4000000 in
set_option maxRecDepth 100000 in
theorem xl_M_held_4 (σ : aw_m)  {κ : aw_K} (q : Int32) (C : aw_X l D (ty_z ids) (zs_T ps) (rm_D (2)) xb_M_held 3 "ModuleShelf$Memory" (xw_M_held :: gw_l) (some .int) (some (.int q)) (cw_w ad ids σ) κ) : ∀ (n : Nat) (j0 : Nat) (v1 : Int32) (v2 : Int32) (hj0 : kd_k j0 = 8), xq_M_held_4 σ n j0 v1 v2 = some q → aw_J κ 0 0 (cw_w ad ids σ) [(0, .ref (ad j0)), (1, .int v1), (2, .int v2)] 4 [] := by
  intro n
  induction n with
  | zero => intro j0 v1 v2 hj0 hm; cases hm
  | succ n ih =>
    intro j0 v1 v2 hj0 hm
    rw [xq_M_held_4] at hm
    refine aw_iload_n C 2 xd_M_held_4 rfl rfl ?_
    refine aw_bipush (v := (6 : Int32)) C xd_M_held_5 (by decide) ?_
    refine aw_icmp_ge (tgt := 32) C xd_M_held_7 (by decide) (fun c_7 => ?_) (fun c_7 => ?_)
    · rw [if_pos c_7] at hm
      refine aw_iload_n C 1 xd_M_held_32 rfl rfl ?_
      cases hm
      exact aw_iret C xd_M_held_33
    · rw [if_neg c_7] at hm
      refine aw_iload_n C 1 xd_M_held_10 rfl rfl ?_
      refine aw_aload_n C 0 xd_M_held_11 rfl rfl ?_
      refine aw_iload_n C 2 xd_M_held_12 rfl rfl ?_
      obtain ⟨q_13, e_13, hm⟩ := aw_bnd hm
      refine aw_callVi (As := [.int v2]) (rest := [.int v1]) (b := ad j0) C (xc_M_has σ j0 v2 _ hj0 e_13) rfl (gw_sub (gw_V xg_M_has ml_M_36 im_M_has se_M_has wi_M)) na_M_has (rm_lt (by decide) (by decide)) ⟨Nat.zero_le _, Nat.zero_le _⟩ j0 (at_M hj0) rfl rfl (Nat.le_of_ble_eq_true rfl) xd_M_held_13 ?_
      refine aw_if_eq (tgt := 23) C xd_M_held_16 (by decide) (fun c_16 => ?_) (fun c_16 => ?_)
      · rw [if_pos c_16] at hm
        refine aw_iconst (v := (0 : Int32)) C xd_M_held_23 (by decide) ?_
        refine aw_iadd C xd_M_held_24 ?_
        refine aw_istore_n (L' := [(1, .int (v1 + (0 : Int32))), (0, .ref (ad j0)), (2, .int v2)]) C xd_M_held_25 rfl (by decide) rfl ?_
        refine aw_iinc (j := 2) (v := v2 + (1 : Int32)) (L' := [(2, .int (v2 + (1 : Int32))), (1, .int (v1 + (0 : Int32))), (0, .ref (ad j0))]) C xd_M_held_26 rfl rfl (by decide) rfl ?_
        refine aw_goto (tgt := 4) C xd_M_held_29 (by decide) ?_
        refine aw_loc (L' := [(0, .ref (ad j0)), (1, .int (v1 + (0 : Int32))), (2, .int (v2 + (1 : Int32)))]) C [2, 1, 0] rfl ?_
        exact ih j0 (v1 + (0 : Int32)) (v2 + (1 : Int32)) hj0 hm
      · rw [if_neg c_16] at hm
        refine aw_iconst (v := (1 : Int32)) C xd_M_held_19 (by decide) ?_
        refine aw_goto (tgt := 24) C xd_M_held_20 (by decide) ?_
        refine aw_iadd C xd_M_held_24 ?_
        refine aw_istore_n (L' := [(1, .int (v1 + (1 : Int32))), (0, .ref (ad j0)), (2, .int v2)]) C xd_M_held_25 rfl (by decide) rfl ?_
        refine aw_iinc (j := 2) (v := v2 + (1 : Int32)) (L' := [(2, .int (v2 + (1 : Int32))), (1, .int (v1 + (1 : Int32))), (0, .ref (ad j0))]) C xd_M_held_26 rfl rfl (by decide) rfl ?_
        refine aw_goto (tgt := 4) C xd_M_held_29 (by decide) ?_
        refine aw_loc (L' := [(0, .ref (ad j0)), (1, .int (v1 + (1 : Int32))), (2, .int (v2 + (1 : Int32)))]) C [2, 1, 0] rfl ?_
        exact ih j0 (v1 + (1 : Int32)) (v2 + (1 : Int32)) hj0 hm
set_option maxHeartbeats 4000000 in
set_option maxRecDepth 100000 in
theorem xc_M_held (σ : aw_m) (k0 : Nat) (q : Int32) (hk0 : kd_k k0 = 8) (hm : xm_M_held σ k0 = some q) : aw_M l D (ty_z ids) (zs_T ps) xy_M_held (xw_M_held :: gw_l) (rm_D (2)) [.ref (ad k0)] (cw_w ad ids σ) (some (.int q)) (cw_w ad ids σ) := by
  refine aw_intro (cc := xb_M_held) (n := 3) (ret := (some .int)) "ModuleShelf$Memory" rfl (by decide) rfl (Nat.le_of_ble_eq_true rfl) ?_
  intro κ C
  unfold xm_M_held at hm
  refine aw_iconst (v := (0 : Int32)) C xd_M_held_0 (by decide) ?_
  refine aw_istore_n (L' := [(1, .int (0 : Int32)), (0, .ref (ad k0))]) C xd_M_held_1 rfl (by decide) rfl ?_
  refine aw_iconst (v := (0 : Int32)) C xd_M_held_2 (by decide) ?_
  refine aw_istore_n (L' := [(2, .int (0 : Int32)), (1, .int (0 : Int32)), (0, .ref (ad k0))]) C xd_M_held_3 rfl (by decide) rfl ?_
  refine aw_loc (L' := [(0, .ref (ad k0)), (1, .int (0 : Int32)), (2, .int (0 : Int32))]) C [2, 1, 0] rfl ?_
  exact xl_M_held_4 σ _ C 64 k0 (0 : Int32) (0 : Int32) hk0 hm
def xq_M_size_4 (σ : aw_m)  : Nat → Nat → Int32 → Int32 → Option Int32
  | 0, _, _, _ => none
  | n + 1, j0, v1, v2 => (if (6 : Int32) ≤ v2 then some v1 else (xm_M_has σ j0 v2).bind fun q_13 => (if q_13 = 0 then xq_M_size_4 σ n j0 (v1 + (0 : Int32)) (v2 + (1 : Int32)) else if aw_in v2 6 = true then (xm_C_size σ (((j0 + 1 + 2 + 11 * (Int32.toNatClampNeg v2)) + 1) + 3)).bind fun q_31 => xq_M_size_4 σ n j0 (v1 + q_31) (v2 + (1 : Int32)) else none))
def xm_M_size (σ : aw_m) (k0 : Nat) : Option Int32 := xq_M_size_4 σ 64 k0 (0 : Int32) (0 : Int32)
set_option maxHeartbeats 4000000 in
set_option maxRecDepth 100000 in
theorem xl_M_size_4 (σ : aw_m)  {κ : aw_K} (q : Int32) (C : aw_X l D (ty_z ids) (zs_T ps) (rm_D (2)) xb_M_size 3 "ModuleShelf$Memory" (xw_M_size :: gw_l) (some .int) (some (.int q)) (cw_w ad ids σ) κ) : ∀ (n : Nat) (j0 : Nat) (v1 : Int32) (v2 : Int32) (hj0 : kd_k j0 = 8), xq_M_size_4 σ n j0 v1 v2 = some q → aw_J κ 0 0 (cw_w ad ids σ) [(0, .ref (ad j0)), (1, .int v1), (2, .int v2)] 4 [] := by
  intro n
  induction n with
  | zero => intro j0 v1 v2 hj0 hm; cases hm
  | succ n ih =>
    intro j0 v1 v2 hj0 hm
    rw [xq_M_size_4] at hm
    refine aw_iload_n C 2 xd_M_size_4 rfl rfl ?_
    refine aw_bipush (v := (6 : Int32)) C xd_M_size_5 (by decide) ?_
    refine aw_icmp_ge (tgt := 46) C xd_M_size_7 (by decide) (fun c_7 => ?_) (fun c_7 => ?_)
    · rw [if_pos c_7] at hm
      refine aw_iload_n C 1 xd_M_size_46 rfl rfl ?_
      cases hm
      exact aw_iret C xd_M_size_47
    · rw [if_neg c_7] at hm
      refine aw_iload_n C 1 xd_M_size_10 rfl rfl ?_
      refine aw_aload_n C 0 xd_M_size_11 rfl rfl ?_
      refine aw_iload_n C 2 xd_M_size_12 rfl rfl ?_
      obtain ⟨q_13, e_13, hm⟩ := aw_bnd hm
      refine aw_callVi (As := [.int v2]) (rest := [.int v1]) (b := ad j0) C (xc_M_has σ j0 v2 _ hj0 e_13) rfl (gw_sub (gw_V xg_M_has ml_M_36 im_M_has se_M_has wi_M)) na_M_has (rm_lt (by decide) (by decide)) ⟨Nat.zero_le _, Nat.zero_le _⟩ j0 (at_M hj0) rfl rfl (Nat.le_of_ble_eq_true rfl) xd_M_size_13 ?_
      refine aw_if_eq (tgt := 37) C xd_M_size_16 (by decide) (fun c_16 => ?_) (fun c_16 => ?_)
      · rw [if_pos c_16] at hm
        refine aw_iconst (v := (0 : Int32)) C xd_M_size_37 (by decide) ?_
        refine aw_iadd C xd_M_size_38 ?_
        refine aw_istore_n (L' := [(1, .int (v1 + (0 : Int32))), (0, .ref (ad j0)), (2, .int v2)]) C xd_M_size_39 rfl (by decide) rfl ?_
        refine aw_iinc (j := 2) (v := v2 + (1 : Int32)) (L' := [(2, .int (v2 + (1 : Int32))), (1, .int (v1 + (0 : Int32))), (0, .ref (ad j0))]) C xd_M_size_40 rfl rfl (by decide) rfl ?_
        refine aw_goto (tgt := 4) C xd_M_size_43 (by decide) ?_
        refine aw_loc (L' := [(0, .ref (ad j0)), (1, .int (v1 + (0 : Int32))), (2, .int (v2 + (1 : Int32)))]) C [2, 1, 0] rfl ?_
        exact ih j0 (v1 + (0 : Int32)) (v2 + (1 : Int32)) hj0 hm
      · rw [if_neg c_16] at hm
        refine aw_aload_n C 0 xd_M_size_19 rfl rfl ?_
        refine aw_get C j0 (kd_lt hj0) (ly_M hj0) rfl (fun w h => List.mem_cons_of_mem _ (xi_M w h)) 0 (by decide) rfl (List.mem_cons_of_mem _ fl_M_11) xd_M_size_20 ?_
        refine aw_iload_n C 2 xd_M_size_23 rfl rfl ?_
        obtain ⟨g_24, hm⟩ := aw_grd hm
        refine aw_aald C (j0 + 1) (kd_lt (kf_M_images hj0)) 3 (ly_I6 (kf_M_images hj0)) rfl (aw_in_ok g_24) rfl xd_M_size_24 ?_
        refine aw_get C (j0 + 1 + 2 + 11 * (Int32.toNatClampNeg v2)) (kd_lt (ka_I6 (kf_M_images hj0) (aw_in_lt g_24))) (ly_I (ka_I6 (kf_M_images hj0) (aw_in_lt g_24))) rfl (fun w h => List.mem_cons_of_mem _ (xi_I w h)) 0 (by decide) rfl (List.mem_cons_of_mem _ fl_M_26) xd_M_size_25 ?_
        refine aw_get C ((j0 + 1 + 2 + 11 * (Int32.toNatClampNeg v2)) + 1) (kd_lt (kf_I_unit (ka_I6 (kf_M_images hj0) (aw_in_lt g_24)))) (ly_U (kf_I_unit (ka_I6 (kf_M_images hj0) (aw_in_lt g_24)))) rfl (fun w h => List.mem_cons_of_mem _ (xi_U w h)) 5 (by decide) rfl (List.mem_cons_of_mem _ fl_M_39) xd_M_size_28 ?_
        obtain ⟨q_31, e_31, hm⟩ := aw_bnd hm
        refine aw_callVi (As := []) (rest := [.int v1]) (b := ad (((j0 + 1 + 2 + 11 * (Int32.toNatClampNeg v2)) + 1) + 3)) C (xc_C_size σ (((j0 + 1 + 2 + 11 * (Int32.toNatClampNeg v2)) + 1) + 3) _ (kf_U_code (kf_I_unit (ka_I6 (kf_M_images hj0) (aw_in_lt g_24)))) e_31) rfl (gw_sub (gw_V xg_C_size ml_M_43 im_C_size se_C_size wi_C)) na_C_size (rm_lt (by decide) (by decide)) ⟨Nat.zero_le _, Nat.zero_le _⟩ (((j0 + 1 + 2 + 11 * (Int32.toNatClampNeg v2)) + 1) + 3) (at_C (kf_U_code (kf_I_unit (ka_I6 (kf_M_images hj0) (aw_in_lt g_24))))) rfl rfl (Nat.le_of_ble_eq_true rfl) xd_M_size_31 ?_
        refine aw_goto (tgt := 38) C xd_M_size_34 (by decide) ?_
        refine aw_iadd C xd_M_size_38 ?_
        refine aw_istore_n (L' := [(1, .int (v1 + q_31)), (0, .ref (ad j0)), (2, .int v2)]) C xd_M_size_39 rfl (by decide) rfl ?_
        refine aw_iinc (j := 2) (v := v2 + (1 : Int32)) (L' := [(2, .int (v2 + (1 : Int32))), (1, .int (v1 + q_31)), (0, .ref (ad j0))]) C xd_M_size_40 rfl rfl (by decide) rfl ?_
        refine aw_goto (tgt := 4) C xd_M_size_43 (by decide) ?_
        refine aw_loc (L' := [(0, .ref (ad j0)), (1, .int (v1 + q_31)), (2, .int (v2 + (1 : Int32)))]) C [2, 1, 0] rfl ?_
        exact ih j0 (v1 + q_31) (v2 + (1 : Int32)) hj0 hm
set_option maxHeartbeats 4000000 in
set_option maxRecDepth 100000 in
theorem xc_M_size (σ : aw_m) (k0 : Nat) (q : Int32) (hk0 : kd_k k0 = 8) (hm : xm_M_size σ k0 = some q) : aw_M l D (ty_z ids) (zs_T ps) xy_M_size (xw_M_size :: gw_l) (rm_D (2)) [.ref (ad k0)] (cw_w ad ids σ) (some (.int q)) (cw_w ad ids σ) := by
  refine aw_intro (cc := xb_M_size) (n := 3) (ret := (some .int)) "ModuleShelf$Memory" rfl (by decide) rfl (Nat.le_of_ble_eq_true rfl) ?_
  intro κ C
  unfold xm_M_size at hm
  refine aw_iconst (v := (0 : Int32)) C xd_M_size_0 (by decide) ?_
  refine aw_istore_n (L' := [(1, .int (0 : Int32)), (0, .ref (ad k0))]) C xd_M_size_1 rfl (by decide) rfl ?_
  refine aw_iconst (v := (0 : Int32)) C xd_M_size_2 (by decide) ?_
  refine aw_istore_n (L' := [(2, .int (0 : Int32)), (1, .int (0 : Int32)), (0, .ref (ad k0))]) C xd_M_size_3 rfl (by decide) rfl ?_
  refine aw_loc (L' := [(0, .ref (ad k0)), (1, .int (0 : Int32)), (2, .int (0 : Int32))]) C [2, 1, 0] rfl ?_
  exact xl_M_size_4 σ _ C 64 k0 (0 : Int32) (0 : Int32) hk0 hm
def xq_M_isImported_2 (σ : aw_m)  : Nat → Nat → Int32 → Int32 → Option Int32
  | 0, _, _, _ => none
  | n + 1, j0, v1, v2 => (if (6 : Int32) ≤ v2 then some (0 : Int32) else (xm_M_has σ j0 v2).bind fun q_10 => (if q_10 = 0 then xq_M_isImported_2 σ n j0 v1 (v2 + (1 : Int32)) else if aw_in v2 6 = true then (xm_U_hasImport σ ((j0 + 1 + 2 + 11 * (Int32.toNatClampNeg v2)) + 1) v1).bind fun q_26 => (if q_26 = 0 then xq_M_isImported_2 σ n j0 v1 (v2 + (1 : Int32)) else some (1 : Int32)) else none))
def xm_M_isImported (σ : aw_m) (k0 : Nat) (a1 : Int32) : Option Int32 := xq_M_isImported_2 σ 64 k0 a1 (0 : Int32)
set_option maxHeartbeats 4000000 in
set_option maxRecDepth 100000 in
theorem xl_M_isImported_2 (σ : aw_m)  {κ : aw_K} (q : Int32) (C : aw_X l D (ty_z ids) (zs_T ps) (rm_D (2)) xb_M_isImported 3 "ModuleShelf$Memory" (xw_M_isImported :: gw_l) (some .boolean) (some (.int q)) (cw_w ad ids σ) κ) : ∀ (n : Nat) (j0 : Nat) (v1 : Int32) (v2 : Int32) (hj0 : kd_k j0 = 8), xq_M_isImported_2 σ n j0 v1 v2 = some q → aw_J κ 0 0 (cw_w ad ids σ) [(0, .ref (ad j0)), (1, .int v1), (2, .int v2)] 2 [] := by
  intro n
  induction n with
  | zero => intro j0 v1 v2 hj0 hm; cases hm
  | succ n ih =>
    intro j0 v1 v2 hj0 hm
    rw [xq_M_isImported_2] at hm
    refine aw_iload_n C 2 xd_M_isImported_2 rfl rfl ?_
    refine aw_bipush (v := (6 : Int32)) C xd_M_isImported_3 (by decide) ?_
    refine aw_icmp_ge (tgt := 40) C xd_M_isImported_5 (by decide) (fun c_5 => ?_) (fun c_5 => ?_)
    · rw [if_pos c_5] at hm
      refine aw_iconst (v := (0 : Int32)) C xd_M_isImported_40 (by decide) ?_
      cases hm
      exact aw_zret C (by decide) xd_M_isImported_41
    · rw [if_neg c_5] at hm
      refine aw_aload_n C 0 xd_M_isImported_8 rfl rfl ?_
      refine aw_iload_n C 2 xd_M_isImported_9 rfl rfl ?_
      obtain ⟨q_10, e_10, hm⟩ := aw_bnd hm
      refine aw_callVi (As := [.int v2]) (rest := []) (b := ad j0) C (xc_M_has σ j0 v2 _ hj0 e_10) rfl (gw_sub (gw_V xg_M_has ml_M_36 im_M_has se_M_has wi_M)) na_M_has (rm_lt (by decide) (by decide)) ⟨Nat.zero_le _, Nat.zero_le _⟩ j0 (at_M hj0) rfl rfl (Nat.le_of_ble_eq_true rfl) xd_M_isImported_10 ?_
      refine aw_if_eq (tgt := 34) C xd_M_isImported_13 (by decide) (fun c_13 => ?_) (fun c_13 => ?_)
      · rw [if_pos c_13] at hm
        refine aw_iinc (j := 2) (v := v2 + (1 : Int32)) (L' := [(2, .int (v2 + (1 : Int32))), (0, .ref (ad j0)), (1, .int v1)]) C xd_M_isImported_34 rfl rfl (by decide) rfl ?_
        refine aw_goto (tgt := 2) C xd_M_isImported_37 (by decide) ?_
        refine aw_loc (L' := [(0, .ref (ad j0)), (1, .int v1), (2, .int (v2 + (1 : Int32)))]) C [1, 2, 0] rfl ?_
        exact ih j0 v1 (v2 + (1 : Int32)) hj0 hm
      · rw [if_neg c_13] at hm
        refine aw_aload_n C 0 xd_M_isImported_16 rfl rfl ?_
        refine aw_get C j0 (kd_lt hj0) (ly_M hj0) rfl (fun w h => List.mem_cons_of_mem _ (xi_M w h)) 0 (by decide) rfl (List.mem_cons_of_mem _ fl_M_11) xd_M_isImported_17 ?_
        refine aw_iload_n C 2 xd_M_isImported_20 rfl rfl ?_
        obtain ⟨g_21, hm⟩ := aw_grd hm
        refine aw_aald C (j0 + 1) (kd_lt (kf_M_images hj0)) 3 (ly_I6 (kf_M_images hj0)) rfl (aw_in_ok g_21) rfl xd_M_isImported_21 ?_
        refine aw_get C (j0 + 1 + 2 + 11 * (Int32.toNatClampNeg v2)) (kd_lt (ka_I6 (kf_M_images hj0) (aw_in_lt g_21))) (ly_I (ka_I6 (kf_M_images hj0) (aw_in_lt g_21))) rfl (fun w h => List.mem_cons_of_mem _ (xi_I w h)) 0 (by decide) rfl (List.mem_cons_of_mem _ fl_M_26) xd_M_isImported_22 ?_
        refine aw_iload_n C 1 xd_M_isImported_25 rfl rfl ?_
        obtain ⟨q_26, e_26, hm⟩ := aw_bnd hm
        refine aw_callVi (As := [.int v1]) (rest := []) (b := ad ((j0 + 1 + 2 + 11 * (Int32.toNatClampNeg v2)) + 1)) C (xc_U_hasImport σ ((j0 + 1 + 2 + 11 * (Int32.toNatClampNeg v2)) + 1) v1 _ (kf_I_unit (ka_I6 (kf_M_images hj0) (aw_in_lt g_21))) e_26) rfl (gw_sub (gw_V xg_U_hasImport ml_M_49 im_U_hasImport se_U_hasImport wi_U)) na_U_hasImport (rm_lt (by decide) (by decide)) ⟨Nat.zero_le _, Nat.zero_le _⟩ ((j0 + 1 + 2 + 11 * (Int32.toNatClampNeg v2)) + 1) (at_U (kf_I_unit (ka_I6 (kf_M_images hj0) (aw_in_lt g_21)))) rfl rfl (Nat.le_of_ble_eq_true rfl) xd_M_isImported_26 ?_
        refine aw_if_eq (tgt := 34) C xd_M_isImported_29 (by decide) (fun c_29 => ?_) (fun c_29 => ?_)
        · rw [if_pos c_29] at hm
          refine aw_iinc (j := 2) (v := v2 + (1 : Int32)) (L' := [(2, .int (v2 + (1 : Int32))), (0, .ref (ad j0)), (1, .int v1)]) C xd_M_isImported_34 rfl rfl (by decide) rfl ?_
          refine aw_goto (tgt := 2) C xd_M_isImported_37 (by decide) ?_
          refine aw_loc (L' := [(0, .ref (ad j0)), (1, .int v1), (2, .int (v2 + (1 : Int32)))]) C [1, 2, 0] rfl ?_
          exact ih j0 v1 (v2 + (1 : Int32)) hj0 hm
        · rw [if_neg c_29] at hm
          refine aw_iconst (v := (1 : Int32)) C xd_M_isImported_32 (by decide) ?_
          cases hm
          exact aw_zret C (by decide) xd_M_isImported_33
set_option maxHeartbeats 4000000 in
set_option maxRecDepth 100000 in
theorem xc_M_isImported (σ : aw_m) (k0 : Nat) (a1 : Int32) (q : Int32) (hk0 : kd_k k0 = 8) (hm : xm_M_isImported σ k0 a1 = some q) : aw_M l D (ty_z ids) (zs_T ps) xy_M_isImported (xw_M_isImported :: gw_l) (rm_D (2)) [.ref (ad k0), .int a1] (cw_w ad ids σ) (some (.int q)) (cw_w ad ids σ) := by
  refine aw_intro (cc := xb_M_isImported) (n := 3) (ret := (some .boolean)) "ModuleShelf$Memory" rfl (by decide) rfl (Nat.le_of_ble_eq_true rfl) ?_
  intro κ C
  unfold xm_M_isImported at hm
  refine aw_iconst (v := (0 : Int32)) C xd_M_isImported_0 (by decide) ?_
  refine aw_istore_n (L' := [(2, .int (0 : Int32)), (0, .ref (ad k0)), (1, .int a1)]) C xd_M_isImported_1 rfl (by decide) rfl ?_
  refine aw_loc (L' := [(0, .ref (ad k0)), (1, .int a1), (2, .int (0 : Int32))]) C [1, 2, 0] rfl ?_
  exact xl_M_isImported_2 σ _ C 64 k0 a1 (0 : Int32) hk0 hm
def xm_M_argumentsOf (σ : aw_m) (k0 : Nat) (a1 : Int32) (a2 : Int32) : Option Int32 := (xm_M_has σ k0 a1).bind fun q_2 => (if q_2 = 0 then some (-1 : Int32) else if aw_in a1 6 = true then (xm_C_argumentsOf σ (((k0 + 1 + 2 + 11 * (Int32.toNatClampNeg a1)) + 1) + 3) a2).bind fun q_21 => some q_21 else none)
set_option maxHeartbeats 4000000 in
set_option maxRecDepth 100000 in
theorem xc_M_argumentsOf (σ : aw_m) (k0 : Nat) (a1 : Int32) (a2 : Int32) (q : Int32) (hk0 : kd_k k0 = 8) (hm : xm_M_argumentsOf σ k0 a1 a2 = some q) : aw_M l D (ty_z ids) (zs_T ps) xy_M_argumentsOf (xw_M_argumentsOf :: gw_l) (rm_D (2)) [.ref (ad k0), .int a1, .int a2] (cw_w ad ids σ) (some (.int q)) (cw_w ad ids σ) := by
  refine aw_intro (cc := xb_M_argumentsOf) (n := 3) (ret := (some .int)) "ModuleShelf$Memory" rfl (by decide) rfl (Nat.le_of_ble_eq_true rfl) ?_
  intro κ C
  unfold xm_M_argumentsOf at hm
  refine aw_aload_n C 0 xd_M_argumentsOf_0 rfl rfl ?_
  refine aw_iload_n C 1 xd_M_argumentsOf_1 rfl rfl ?_
  obtain ⟨q_2, e_2, hm⟩ := aw_bnd hm
  refine aw_callVi (As := [.int a1]) (rest := []) (b := ad k0) C (xc_M_has σ k0 a1 _ hk0 e_2) rfl (gw_sub (gw_V xg_M_has ml_M_36 im_M_has se_M_has wi_M)) na_M_has (rm_lt (by decide) (by decide)) ⟨Nat.zero_le _, Nat.zero_le _⟩ k0 (at_M hk0) rfl rfl (Nat.le_of_ble_eq_true rfl) xd_M_argumentsOf_2 ?_
  refine aw_if_eq (tgt := 27) C xd_M_argumentsOf_5 (by decide) (fun c_5 => ?_) (fun c_5 => ?_)
  · rw [if_pos c_5] at hm
    refine aw_iconst (v := (-1 : Int32)) C xd_M_argumentsOf_27 (by decide) ?_
    cases hm
    exact aw_iret C xd_M_argumentsOf_28
  · rw [if_neg c_5] at hm
    refine aw_aload_n C 0 xd_M_argumentsOf_8 rfl rfl ?_
    refine aw_get C k0 (kd_lt hk0) (ly_M hk0) rfl (fun w h => List.mem_cons_of_mem _ (xi_M w h)) 0 (by decide) rfl (List.mem_cons_of_mem _ fl_M_11) xd_M_argumentsOf_9 ?_
    refine aw_iload_n C 1 xd_M_argumentsOf_12 rfl rfl ?_
    obtain ⟨g_13, hm⟩ := aw_grd hm
    refine aw_aald C (k0 + 1) (kd_lt (kf_M_images hk0)) 3 (ly_I6 (kf_M_images hk0)) rfl (aw_in_ok g_13) rfl xd_M_argumentsOf_13 ?_
    refine aw_get C (k0 + 1 + 2 + 11 * (Int32.toNatClampNeg a1)) (kd_lt (ka_I6 (kf_M_images hk0) (aw_in_lt g_13))) (ly_I (ka_I6 (kf_M_images hk0) (aw_in_lt g_13))) rfl (fun w h => List.mem_cons_of_mem _ (xi_I w h)) 0 (by decide) rfl (List.mem_cons_of_mem _ fl_M_26) xd_M_argumentsOf_14 ?_
    refine aw_get C ((k0 + 1 + 2 + 11 * (Int32.toNatClampNeg a1)) + 1) (kd_lt (kf_I_unit (ka_I6 (kf_M_images hk0) (aw_in_lt g_13)))) (ly_U (kf_I_unit (ka_I6 (kf_M_images hk0) (aw_in_lt g_13)))) rfl (fun w h => List.mem_cons_of_mem _ (xi_U w h)) 5 (by decide) rfl (List.mem_cons_of_mem _ fl_M_39) xd_M_argumentsOf_17 ?_
    refine aw_iload_n C 2 xd_M_argumentsOf_20 rfl rfl ?_
    obtain ⟨q_21, e_21, hm⟩ := aw_bnd hm
    refine aw_callVi (As := [.int a2]) (rest := []) (b := ad (((k0 + 1 + 2 + 11 * (Int32.toNatClampNeg a1)) + 1) + 3)) C (xc_C_argumentsOf σ (((k0 + 1 + 2 + 11 * (Int32.toNatClampNeg a1)) + 1) + 3) a2 _ (kf_U_code (kf_I_unit (ka_I6 (kf_M_images hk0) (aw_in_lt g_13)))) e_21) rfl (gw_sub (gw_V xg_C_argumentsOf ml_M_52 im_C_argumentsOf se_C_argumentsOf wi_C)) na_C_argumentsOf (rm_lt (by decide) (by decide)) ⟨Nat.zero_le _, Nat.zero_le _⟩ (((k0 + 1 + 2 + 11 * (Int32.toNatClampNeg a1)) + 1) + 3) (at_C (kf_U_code (kf_I_unit (ka_I6 (kf_M_images hk0) (aw_in_lt g_13))))) rfl rfl (Nat.le_of_ble_eq_true rfl) xd_M_argumentsOf_21 ?_
    refine aw_goto (tgt := 28) C xd_M_argumentsOf_24 (by decide) ?_
    cases hm
    exact aw_iret C xd_M_argumentsOf_28
def xm_M_valueOf (σ : aw_m) (k0 : Nat) (a1 : Int32) (a2 : Int32) : Option Int32 := (xm_M_has σ k0 a1).bind fun q_2 => (if q_2 = 0 then some (0 : Int32) else if aw_in a1 6 = true then (xm_C_hasVariable σ (((k0 + 1 + 2 + 11 * (Int32.toNatClampNeg a1)) + 1) + 3) a2).bind fun q_21 => (if q_21 = 0 then some (0 : Int32) else if aw_in a1 6 = true then if aw_in a2 3 = true then some (σ ((k0 + 1 + 2 + 11 * (Int32.toNatClampNeg a1)) + 10) (Int32.toNatClampNeg a2)) else none else none) else none)
set_option maxHeartbeats 4000000 in
set_option maxRecDepth 100000 in
theorem xc_M_valueOf (σ : aw_m) (k0 : Nat) (a1 : Int32) (a2 : Int32) (q : Int32) (hk0 : kd_k k0 = 8) (hm : xm_M_valueOf σ k0 a1 a2 = some q) : aw_M l D (ty_z ids) (zs_T ps) xy_M_valueOf (xw_M_valueOf :: gw_l) (rm_D (2)) [.ref (ad k0), .int a1, .int a2] (cw_w ad ids σ) (some (.int q)) (cw_w ad ids σ) := by
  refine aw_intro (cc := xb_M_valueOf) (n := 3) (ret := (some .int)) "ModuleShelf$Memory" rfl (by decide) rfl (Nat.le_of_ble_eq_true rfl) ?_
  intro κ C
  unfold xm_M_valueOf at hm
  refine aw_aload_n C 0 xd_M_valueOf_0 rfl rfl ?_
  refine aw_iload_n C 1 xd_M_valueOf_1 rfl rfl ?_
  obtain ⟨q_2, e_2, hm⟩ := aw_bnd hm
  refine aw_callVi (As := [.int a1]) (rest := []) (b := ad k0) C (xc_M_has σ k0 a1 _ hk0 e_2) rfl (gw_sub (gw_V xg_M_has ml_M_36 im_M_has se_M_has wi_M)) na_M_has (rm_lt (by decide) (by decide)) ⟨Nat.zero_le _, Nat.zero_le _⟩ k0 (at_M hk0) rfl rfl (Nat.le_of_ble_eq_true rfl) xd_M_valueOf_2 ?_
  refine aw_if_eq (tgt := 27) C xd_M_valueOf_5 (by decide) (fun c_5 => ?_) (fun c_5 => ?_)
  · rw [if_pos c_5] at hm
    refine aw_iconst (v := (0 : Int32)) C xd_M_valueOf_27 (by decide) ?_
    cases hm
    exact aw_iret C xd_M_valueOf_28
  · rw [if_neg c_5] at hm
    refine aw_aload_n C 0 xd_M_valueOf_8 rfl rfl ?_
    refine aw_get C k0 (kd_lt hk0) (ly_M hk0) rfl (fun w h => List.mem_cons_of_mem _ (xi_M w h)) 0 (by decide) rfl (List.mem_cons_of_mem _ fl_M_11) xd_M_valueOf_9 ?_
    refine aw_iload_n C 1 xd_M_valueOf_12 rfl rfl ?_
    obtain ⟨g_13, hm⟩ := aw_grd hm
    refine aw_aald C (k0 + 1) (kd_lt (kf_M_images hk0)) 3 (ly_I6 (kf_M_images hk0)) rfl (aw_in_ok g_13) rfl xd_M_valueOf_13 ?_
    refine aw_get C (k0 + 1 + 2 + 11 * (Int32.toNatClampNeg a1)) (kd_lt (ka_I6 (kf_M_images hk0) (aw_in_lt g_13))) (ly_I (ka_I6 (kf_M_images hk0) (aw_in_lt g_13))) rfl (fun w h => List.mem_cons_of_mem _ (xi_I w h)) 0 (by decide) rfl (List.mem_cons_of_mem _ fl_M_26) xd_M_valueOf_14 ?_
    refine aw_get C ((k0 + 1 + 2 + 11 * (Int32.toNatClampNeg a1)) + 1) (kd_lt (kf_I_unit (ka_I6 (kf_M_images hk0) (aw_in_lt g_13)))) (ly_U (kf_I_unit (ka_I6 (kf_M_images hk0) (aw_in_lt g_13)))) rfl (fun w h => List.mem_cons_of_mem _ (xi_U w h)) 5 (by decide) rfl (List.mem_cons_of_mem _ fl_M_39) xd_M_valueOf_17 ?_
    refine aw_iload_n C 2 xd_M_valueOf_20 rfl rfl ?_
    obtain ⟨q_21, e_21, hm⟩ := aw_bnd hm
    refine aw_callVi (As := [.int a2]) (rest := []) (b := ad (((k0 + 1 + 2 + 11 * (Int32.toNatClampNeg a1)) + 1) + 3)) C (xc_C_hasVariable σ (((k0 + 1 + 2 + 11 * (Int32.toNatClampNeg a1)) + 1) + 3) a2 _ (kf_U_code (kf_I_unit (ka_I6 (kf_M_images hk0) (aw_in_lt g_13)))) e_21) rfl (gw_sub (gw_V xg_C_hasVariable ml_M_56 im_C_hasVariable se_C_hasVariable wi_C)) na_C_hasVariable (rm_lt (by decide) (by decide)) ⟨Nat.zero_le _, Nat.zero_le _⟩ (((k0 + 1 + 2 + 11 * (Int32.toNatClampNeg a1)) + 1) + 3) (at_C (kf_U_code (kf_I_unit (ka_I6 (kf_M_images hk0) (aw_in_lt g_13))))) rfl rfl (Nat.le_of_ble_eq_true rfl) xd_M_valueOf_21 ?_
    refine aw_if_ne (tgt := 29) C xd_M_valueOf_24 (by decide) (fun c_24 => ?_) (fun c_24 => ?_)
    · rw [if_neg c_24] at hm
      refine aw_aload_n C 0 xd_M_valueOf_29 rfl rfl ?_
      refine aw_get C k0 (kd_lt hk0) (ly_M hk0) rfl (fun w h => List.mem_cons_of_mem _ (xi_M w h)) 0 (by decide) rfl (List.mem_cons_of_mem _ fl_M_11) xd_M_valueOf_30 ?_
      refine aw_iload_n C 1 xd_M_valueOf_33 rfl rfl ?_
      obtain ⟨g_34, hm⟩ := aw_grd hm
      refine aw_aald C (k0 + 1) (kd_lt (kf_M_images hk0)) 3 (ly_I6 (kf_M_images hk0)) rfl (aw_in_ok g_34) rfl xd_M_valueOf_34 ?_
      refine aw_get C (k0 + 1 + 2 + 11 * (Int32.toNatClampNeg a1)) (kd_lt (ka_I6 (kf_M_images hk0) (aw_in_lt g_34))) (ly_I (ka_I6 (kf_M_images hk0) (aw_in_lt g_34))) rfl (fun w h => List.mem_cons_of_mem _ (xi_I w h)) 1 (by decide) rfl (List.mem_cons_of_mem _ fl_M_59) xd_M_valueOf_35 ?_
      refine aw_iload_n C 2 xd_M_valueOf_38 rfl rfl ?_
      obtain ⟨g_39, hm⟩ := aw_grd hm
      refine aw_iald C ((k0 + 1 + 2 + 11 * (Int32.toNatClampNeg a1)) + 10) (kd_lt (kf_I_values (ka_I6 (kf_M_images hk0) (aw_in_lt g_34)))) 0 (ly_A3 (kf_I_values (ka_I6 (kf_M_images hk0) (aw_in_lt g_34)))) rfl (aw_in_ok g_39) xd_M_valueOf_39 ?_
      cases hm
      exact aw_iret C xd_M_valueOf_40
    · rw [if_pos c_24] at hm
      refine aw_iconst (v := (0 : Int32)) C xd_M_valueOf_27 (by decide) ?_
      cases hm
      exact aw_iret C xd_M_valueOf_28
def xm_M_setValue (σ : aw_m) (k0 : Nat) (a1 : Int32) (a2 : Int32) (a3 : Int32) : Option aw_m := (xm_M_has σ k0 a1).bind fun q_2 => (if q_2 = 0 then some σ else if aw_in a1 6 = true then (xm_C_hasVariable σ (((k0 + 1 + 2 + 11 * (Int32.toNatClampNeg a1)) + 1) + 3) a2).bind fun q_21 => (if q_21 = 0 then some σ else if aw_in a1 6 = true then if aw_in a2 3 = true then aw_l (aw_p σ ((k0 + 1 + 2 + 11 * (Int32.toNatClampNeg a1)) + 10) (Int32.toNatClampNeg a2) a3) fun s_38 => some s_38 else none else none) else none)
set_option maxHeartbeats 4000000 in
set_option maxRecDepth 100000 in
theorem xc_M_setValue (σ : aw_m) (k0 : Nat) (a1 : Int32) (a2 : Int32) (a3 : Int32) (q : aw_m) (hk0 : kd_k k0 = 8) (hm : xm_M_setValue σ k0 a1 a2 a3 = some q) : aw_M l D (ty_z ids) (zs_T ps) xy_M_setValue (xw_M_setValue :: gw_l) (rm_D (2)) [.ref (ad k0), .int a1, .int a2, .int a3] (cw_w ad ids σ) none (cw_w ad ids q) := by
  refine aw_intro (cc := xb_M_setValue) (n := 4) (ret := none) "ModuleShelf$Memory" rfl (by decide) rfl (Nat.le_of_ble_eq_true rfl) ?_
  intro κ C
  unfold xm_M_setValue at hm
  refine aw_aload_n C 0 xd_M_setValue_0 rfl rfl ?_
  refine aw_iload_n C 1 xd_M_setValue_1 rfl rfl ?_
  obtain ⟨q_2, e_2, hm⟩ := aw_bnd hm
  refine aw_callVi (As := [.int a1]) (rest := []) (b := ad k0) C (xc_M_has σ k0 a1 _ hk0 e_2) rfl (gw_sub (gw_V xg_M_has ml_M_36 im_M_has se_M_has wi_M)) na_M_has (rm_lt (by decide) (by decide)) ⟨Nat.zero_le _, Nat.zero_le _⟩ k0 (at_M hk0) rfl rfl (Nat.le_of_ble_eq_true rfl) xd_M_setValue_2 ?_
  refine aw_if_eq (tgt := 39) C xd_M_setValue_5 (by decide) (fun c_5 => ?_) (fun c_5 => ?_)
  · rw [if_pos c_5] at hm
    cases hm
    exact aw_vret C xd_M_setValue_39
  · rw [if_neg c_5] at hm
    refine aw_aload_n C 0 xd_M_setValue_8 rfl rfl ?_
    refine aw_get C k0 (kd_lt hk0) (ly_M hk0) rfl (fun w h => List.mem_cons_of_mem _ (xi_M w h)) 0 (by decide) rfl (List.mem_cons_of_mem _ fl_M_11) xd_M_setValue_9 ?_
    refine aw_iload_n C 1 xd_M_setValue_12 rfl rfl ?_
    obtain ⟨g_13, hm⟩ := aw_grd hm
    refine aw_aald C (k0 + 1) (kd_lt (kf_M_images hk0)) 3 (ly_I6 (kf_M_images hk0)) rfl (aw_in_ok g_13) rfl xd_M_setValue_13 ?_
    refine aw_get C (k0 + 1 + 2 + 11 * (Int32.toNatClampNeg a1)) (kd_lt (ka_I6 (kf_M_images hk0) (aw_in_lt g_13))) (ly_I (ka_I6 (kf_M_images hk0) (aw_in_lt g_13))) rfl (fun w h => List.mem_cons_of_mem _ (xi_I w h)) 0 (by decide) rfl (List.mem_cons_of_mem _ fl_M_26) xd_M_setValue_14 ?_
    refine aw_get C ((k0 + 1 + 2 + 11 * (Int32.toNatClampNeg a1)) + 1) (kd_lt (kf_I_unit (ka_I6 (kf_M_images hk0) (aw_in_lt g_13)))) (ly_U (kf_I_unit (ka_I6 (kf_M_images hk0) (aw_in_lt g_13)))) rfl (fun w h => List.mem_cons_of_mem _ (xi_U w h)) 5 (by decide) rfl (List.mem_cons_of_mem _ fl_M_39) xd_M_setValue_17 ?_
    refine aw_iload_n C 2 xd_M_setValue_20 rfl rfl ?_
    obtain ⟨q_21, e_21, hm⟩ := aw_bnd hm
    refine aw_callVi (As := [.int a2]) (rest := []) (b := ad (((k0 + 1 + 2 + 11 * (Int32.toNatClampNeg a1)) + 1) + 3)) C (xc_C_hasVariable σ (((k0 + 1 + 2 + 11 * (Int32.toNatClampNeg a1)) + 1) + 3) a2 _ (kf_U_code (kf_I_unit (ka_I6 (kf_M_images hk0) (aw_in_lt g_13)))) e_21) rfl (gw_sub (gw_V xg_C_hasVariable ml_M_56 im_C_hasVariable se_C_hasVariable wi_C)) na_C_hasVariable (rm_lt (by decide) (by decide)) ⟨Nat.zero_le _, Nat.zero_le _⟩ (((k0 + 1 + 2 + 11 * (Int32.toNatClampNeg a1)) + 1) + 3) (at_C (kf_U_code (kf_I_unit (ka_I6 (kf_M_images hk0) (aw_in_lt g_13))))) rfl rfl (Nat.le_of_ble_eq_true rfl) xd_M_setValue_21 ?_
    refine aw_if_eq (tgt := 39) C xd_M_setValue_24 (by decide) (fun c_24 => ?_) (fun c_24 => ?_)
    · rw [if_pos c_24] at hm
      cases hm
      exact aw_vret C xd_M_setValue_39
    · rw [if_neg c_24] at hm
      refine aw_aload_n C 0 xd_M_setValue_27 rfl rfl ?_
      refine aw_get C k0 (kd_lt hk0) (ly_M hk0) rfl (fun w h => List.mem_cons_of_mem _ (xi_M w h)) 0 (by decide) rfl (List.mem_cons_of_mem _ fl_M_11) xd_M_setValue_28 ?_
      refine aw_iload_n C 1 xd_M_setValue_31 rfl rfl ?_
      obtain ⟨g_32, hm⟩ := aw_grd hm
      refine aw_aald C (k0 + 1) (kd_lt (kf_M_images hk0)) 3 (ly_I6 (kf_M_images hk0)) rfl (aw_in_ok g_32) rfl xd_M_setValue_32 ?_
      refine aw_get C (k0 + 1 + 2 + 11 * (Int32.toNatClampNeg a1)) (kd_lt (ka_I6 (kf_M_images hk0) (aw_in_lt g_32))) (ly_I (ka_I6 (kf_M_images hk0) (aw_in_lt g_32))) rfl (fun w h => List.mem_cons_of_mem _ (xi_I w h)) 1 (by decide) rfl (List.mem_cons_of_mem _ fl_M_59) xd_M_setValue_33 ?_
      refine aw_iload_n C 2 xd_M_setValue_36 rfl rfl ?_
      refine aw_iload_n C 3 xd_M_setValue_37 rfl rfl ?_
      obtain ⟨g_38, hm⟩ := aw_grd hm
      obtain ⟨s_38, h_38, hm⟩ := aw_let hm
      refine aw_iast (σ1 := s_38) (g := upd (σ ((k0 + 1 + 2 + 11 * (Int32.toNatClampNeg a1)) + 10)) (Int32.toNatClampNeg a2) a3) C ((k0 + 1 + 2 + 11 * (Int32.toNatClampNeg a1)) + 10) (kd_lt (kf_I_values (ka_I6 (kf_M_images hk0) (aw_in_lt g_32)))) 0 (ly_A3 (kf_I_values (ka_I6 (kf_M_images hk0) (aw_in_lt g_32)))) rfl (aw_in_ok g_38) (ly_A3 (kf_I_values (ka_I6 (kf_M_images hk0) (aw_in_lt g_32)))) h_38 xd_M_setValue_38 ?_
      cases hm
      exact aw_vret C xd_M_setValue_39
def xq_M_dropBegun_2  : Nat → aw_m → Nat → Int32 → Option aw_m
  | 0, _, _, _ => none
  | n + 1, σ, j0, v1 => (if (6 : Int32) ≤ v1 then some σ else if aw_in v1 6 = true then (if σ (j0 + 2) (Int32.toNatClampNeg v1) = 0 then xq_M_dropBegun_2 n σ j0 (v1 + (1 : Int32)) else if aw_in v1 6 = true then aw_l (aw_p σ ((j0 + 1 + 2 + 11 * (Int32.toNatClampNeg v1)) + 1) 0 (0 : Int32)) fun s_27 => xq_M_dropBegun_2 n s_27 j0 (v1 + (1 : Int32)) else none) else none)
def xm_M_dropBegun (σ : aw_m) (k0 : Nat) : Option aw_m := xq_M_dropBegun_2 64 σ k0 (0 : Int32)
set_option maxHeartbeats 4000000 in
set_option maxRecDepth 100000 in
theorem xl_M_dropBegun_2  {κ : aw_K} (q : aw_m) (C : aw_X l D (ty_z ids) (zs_T ps) (rm_D (0)) xb_M_dropBegun 2 "ModuleShelf$Memory" (xw_M_dropBegun :: gw_l) none none (cw_w ad ids q) κ) : ∀ (n : Nat) (σ : aw_m) (j0 : Nat) (v1 : Int32) (hj0 : kd_k j0 = 8), xq_M_dropBegun_2 n σ j0 v1 = some q → aw_J κ 0 0 (cw_w ad ids σ) [(0, .ref (ad j0)), (1, .int v1)] 2 [] := by
  intro n
  induction n with
  | zero => intro σ j0 v1 hj0 hm; cases hm
  | succ n ih =>
    intro σ j0 v1 hj0 hm
    rw [xq_M_dropBegun_2] at hm
    refine aw_iload_n C 1 xd_M_dropBegun_2 rfl rfl ?_
    refine aw_bipush (v := (6 : Int32)) C xd_M_dropBegun_3 (by decide) ?_
    refine aw_icmp_ge (tgt := 36) C xd_M_dropBegun_5 (by decide) (fun c_5 => ?_) (fun c_5 => ?_)
    · rw [if_pos c_5] at hm
      cases hm
      exact aw_vret C xd_M_dropBegun_36
    · rw [if_neg c_5] at hm
      refine aw_aload_n C 0 xd_M_dropBegun_8 rfl rfl ?_
      refine aw_get C j0 (kd_lt hj0) (ly_M hj0) rfl (fun w h => List.mem_cons_of_mem _ (xi_M w h)) 1 (by decide) rfl (List.mem_cons_of_mem _ fl_M_17) xd_M_dropBegun_9 ?_
      refine aw_iload_n C 1 xd_M_dropBegun_12 rfl rfl ?_
      obtain ⟨g_13, hm⟩ := aw_grd hm
      refine aw_zald C (j0 + 2) (kd_lt (kf_M_begun hj0)) 1 (ly_Z6 (kf_M_begun hj0)) rfl (aw_in_ok g_13) xd_M_dropBegun_13 ?_
      refine aw_if_eq (tgt := 30) C xd_M_dropBegun_14 (by decide) (fun c_14 => ?_) (fun c_14 => ?_)
      · rw [if_pos c_14] at hm
        refine aw_iinc (j := 1) (v := v1 + (1 : Int32)) (L' := [(1, .int (v1 + (1 : Int32))), (0, .ref (ad j0))]) C xd_M_dropBegun_30 rfl rfl (by decide) rfl ?_
        refine aw_goto (tgt := 2) C xd_M_dropBegun_33 (by decide) ?_
        refine aw_loc (L' := [(0, .ref (ad j0)), (1, .int (v1 + (1 : Int32)))]) C [1, 0] rfl ?_
        exact ih σ j0 (v1 + (1 : Int32)) hj0 hm
      · rw [if_neg c_14] at hm
        refine aw_aload_n C 0 xd_M_dropBegun_17 rfl rfl ?_
        refine aw_get C j0 (kd_lt hj0) (ly_M hj0) rfl (fun w h => List.mem_cons_of_mem _ (xi_M w h)) 0 (by decide) rfl (List.mem_cons_of_mem _ fl_M_11) xd_M_dropBegun_18 ?_
        refine aw_iload_n C 1 xd_M_dropBegun_21 rfl rfl ?_
        obtain ⟨g_22, hm⟩ := aw_grd hm
        refine aw_aald C (j0 + 1) (kd_lt (kf_M_images hj0)) 3 (ly_I6 (kf_M_images hj0)) rfl (aw_in_ok g_22) rfl xd_M_dropBegun_22 ?_
        refine aw_get C (j0 + 1 + 2 + 11 * (Int32.toNatClampNeg v1)) (kd_lt (ka_I6 (kf_M_images hj0) (aw_in_lt g_22))) (ly_I (ka_I6 (kf_M_images hj0) (aw_in_lt g_22))) rfl (fun w h => List.mem_cons_of_mem _ (xi_I w h)) 0 (by decide) rfl (List.mem_cons_of_mem _ fl_M_26) xd_M_dropBegun_23 ?_
        refine aw_iconst (v := (0 : Int32)) C xd_M_dropBegun_26 (by decide) ?_
        obtain ⟨s_27, h_27, hm⟩ := aw_let hm
        refine aw_put (σ1 := s_27) (f := upd (σ ((j0 + 1 + 2 + 11 * (Int32.toNatClampNeg v1)) + 1)) 0 (0 : Int32)) C ((j0 + 1 + 2 + 11 * (Int32.toNatClampNeg v1)) + 1) (kd_lt (kf_I_unit (ka_I6 (kf_M_images hj0) (aw_in_lt g_22)))) (ly_U (kf_I_unit (ka_I6 (kf_M_images hj0) (aw_in_lt g_22)))) rfl (fun w h => List.mem_cons_of_mem _ (xi_U w h)) xk_U xo_U xn_U 0 (by decide) (List.mem_cons_of_mem _ fl_M_30) rfl (ty := .boolean) (by decide +kernel) rfl rfl (Nat.le_of_ble_eq_true rfl) (ly_U (kf_I_unit (ka_I6 (kf_M_images hj0) (aw_in_lt g_22)))) h_27 xd_M_dropBegun_27 ?_
        refine aw_iinc (j := 1) (v := v1 + (1 : Int32)) (L' := [(1, .int (v1 + (1 : Int32))), (0, .ref (ad j0))]) C xd_M_dropBegun_30 rfl rfl (by decide) rfl ?_
        refine aw_goto (tgt := 2) C xd_M_dropBegun_33 (by decide) ?_
        refine aw_loc (L' := [(0, .ref (ad j0)), (1, .int (v1 + (1 : Int32)))]) C [1, 0] rfl ?_
        exact ih s_27 j0 (v1 + (1 : Int32)) hj0 hm
set_option maxHeartbeats 4000000 in
set_option maxRecDepth 100000 in
theorem xc_M_dropBegun (σ : aw_m) (k0 : Nat) (q : aw_m) (hk0 : kd_k k0 = 8) (hm : xm_M_dropBegun σ k0 = some q) : aw_M l D (ty_z ids) (zs_T ps) xy_M_dropBegun (xw_M_dropBegun :: gw_l) (rm_D (0)) [.ref (ad k0)] (cw_w ad ids σ) none (cw_w ad ids q) := by
  refine aw_intro (cc := xb_M_dropBegun) (n := 2) (ret := none) "ModuleShelf$Memory" rfl (by decide) rfl (Nat.le_of_ble_eq_true rfl) ?_
  intro κ C
  unfold xm_M_dropBegun at hm
  refine aw_iconst (v := (0 : Int32)) C xd_M_dropBegun_0 (by decide) ?_
  refine aw_istore_n (L' := [(1, .int (0 : Int32)), (0, .ref (ad k0))]) C xd_M_dropBegun_1 rfl (by decide) rfl ?_
  refine aw_loc (L' := [(0, .ref (ad k0)), (1, .int (0 : Int32))]) C [1, 0] rfl ?_
  exact xl_M_dropBegun_2 _ C 64 σ k0 (0 : Int32) hk0 hm
def xq_M_bringOne_57 (W : aw_m → Nat → Nat → Int32 → Int32 → Option (Int32 × aw_m))  : Nat → aw_m → Nat → Nat → Int32 → Int32 → Nat → Int32 → Option (Int32 × aw_m)
  | 0, _, _, _, _, _, _, _ => none
  | n + 1, σ, j0, j1, v2, v3, j4, v5 => (if σ j4 2 ≤ v5 then (xm_M_size σ j0).bind fun q_133 => (xm_C_size σ (j4 + 3)).bind fun q_141 => (if q_133 + q_141 ≤ (50 : Int32) then if aw_in v2 6 = true then (xm_I_fill σ (j0 + 1 + 2 + 11 * (Int32.toNatClampNeg v2)) j4).bind fun q_161 => some ((0 : Int32), q_161) else none else some ((-2 : Int32), σ)) else if aw_in v5 6 = true then (W σ j0 j1 (σ (j4 + 1) (Int32.toNatClampNeg v5)) (v3 + (1 : Int32))).bind fun q_80 => (if q_80.1 = 0 then if aw_in v5 6 = true then if aw_in (q_80.2 (j4 + 1) (Int32.toNatClampNeg v5)) 6 = true then if aw_in v5 6 = true then (if q_80.2 ((j0 + 1 + 2 + 11 * (Int32.toNatClampNeg (q_80.2 (j4 + 1) (Int32.toNatClampNeg v5)))) + 1) 1 = q_80.2 (j4 + 2) (Int32.toNatClampNeg v5) then xq_M_bringOne_57 W n q_80.2 j0 j1 v2 v3 j4 (v5 + (1 : Int32)) else some ((-5 : Int32), q_80.2)) else none else none else none else some (q_80.1, q_80.2)) else none)
def xm_M_bringOne_b (W : aw_m → Nat → Nat → Int32 → Int32 → Option (Int32 × aw_m)) (σ : aw_m) (k0 : Nat) (k1 : Nat) (a2 : Int32) (a3 : Int32) : Option (Int32 × aw_m) := (xm_M_has σ k0 a2).bind fun q_2 => (if q_2 = 0 then (if (6 : Int32) ≤ a3 then some ((-6 : Int32), σ) else if aw_in a2 6 = true then (if σ (k0 + 2) (Int32.toNatClampNeg a2) = 0 then (xm_L_has σ k1 a2).bind fun q_30 => (if q_30 = 0 then some ((-4 : Int32), σ) else if aw_in a2 6 = true then aw_l (aw_p σ (k0 + 2) (Int32.toNatClampNeg a2) (1 : Int32)) fun s_45 => if aw_in a2 6 = true then xq_M_bringOne_57 W 64 s_45 k0 k1 a2 a3 (k1 + 1 + 1 + 9 * (Int32.toNatClampNeg a2)) (0 : Int32) else none else none) else some ((-6 : Int32), σ)) else none) else some ((0 : Int32), σ))
def xm_M_bringOne : Nat → aw_m → Nat → Nat → Int32 → Int32 → Option (Int32 × aw_m)
  | 0 => fun _ _ _ _ _ => none
  | d + 1 => xm_M_bringOne_b (xm_M_bringOne d)
set_option maxHeartbeats 4000000 in
set_option maxRecDepth 100000 in
theorem xl_M_bringOne_57 (W : aw_m → Nat → Nat → Int32 → Int32 → Option (Int32 × aw_m)) (dw : Nat) (hW : ∀ (σ : aw_m) (k0 : Nat) (k1 : Nat) (a2 : Int32) (a3 : Int32) (q : Int32 × aw_m) (hk0 : kd_k k0 = 8) (hk1 : kd_k k1 = 4), W σ k0 k1 a2 a3 = some q → aw_M l D (ty_z ids) (zs_T ps) xy_M_bringOne (xw_M_bringOne :: gw_l) (rm_D (dw)) [.ref (ad k0), .ref (ad k1), .int a2, .int a3] (cw_w ad ids σ) (some (.int q.1)) (cw_w ad ids q.2))  {κ : aw_K} (q : Int32 × aw_m) (C : aw_X l D (ty_z ids) (zs_T ps) (rm_D (dw + 4)) xb_M_bringOne 7 "ModuleShelf$Memory" (xw_M_bringOne :: gw_l) (some .int) (some (.int q.1)) (cw_w ad ids q.2) κ) : ∀ (n : Nat) (σ : aw_m) (j0 : Nat) (j1 : Nat) (v2 : Int32) (v3 : Int32) (j4 : Nat) (v5 : Int32) (hj0 : kd_k j0 = 8) (hj1 : kd_k j1 = 4) (hj4 : kd_k j4 = 6), xq_M_bringOne_57 W n σ j0 j1 v2 v3 j4 v5 = some q → aw_J κ 0 0 (cw_w ad ids σ) [(0, .ref (ad j0)), (1, .ref (ad j1)), (2, .int v2), (3, .int v3), (4, .ref (ad j4)), (5, .int v5)] 57 [] := by
  intro n
  induction n with
  | zero => intro σ j0 j1 v2 v3 j4 v5 hj0 hj1 hj4 hm; cases hm
  | succ n ih =>
    intro σ j0 j1 v2 v3 j4 v5 hj0 hj1 hj4 hm
    rw [xq_M_bringOne_57] at hm
    refine aw_iload C 5 xd_M_bringOne_57 rfl ?_
    refine aw_aload C 4 xd_M_bringOne_59 rfl ?_
    refine aw_get C j4 (kd_lt hj4) (ly_U hj4) rfl (fun w h => List.mem_cons_of_mem _ (xi_U w h)) 2 (by decide) rfl (List.mem_cons_of_mem _ fl_M_80) xd_M_bringOne_61 ?_
    refine aw_icmp_ge (tgt := 132) C xd_M_bringOne_64 (by decide) (fun c_64 => ?_) (fun c_64 => ?_)
    · rw [if_pos c_64] at hm
      refine aw_aload_n C 0 xd_M_bringOne_132 rfl rfl ?_
      obtain ⟨q_133, e_133, hm⟩ := aw_bnd hm
      refine aw_callVi (As := []) (rest := []) (b := ad j0) C (xc_M_size σ j0 _ hj0 e_133) rfl (gw_sub (gw_V xg_M_size ml_M_93 im_M_size se_M_size wi_M)) na_M_size (rm_lt (by omega) (by decide)) ⟨Nat.zero_le _, Nat.zero_le _⟩ j0 (at_M hj0) rfl rfl (Nat.le_of_ble_eq_true rfl) xd_M_bringOne_133 ?_
      refine aw_aload C 4 xd_M_bringOne_136 rfl ?_
      refine aw_get C j4 (kd_lt hj4) (ly_U hj4) rfl (fun w h => List.mem_cons_of_mem _ (xi_U w h)) 5 (by decide) rfl (List.mem_cons_of_mem _ fl_M_39) xd_M_bringOne_138 ?_
      obtain ⟨q_141, e_141, hm⟩ := aw_bnd hm
      refine aw_callVi (As := []) (rest := [.int q_133]) (b := ad (j4 + 3)) C (xc_C_size σ (j4 + 3) _ (kf_U_code hj4) e_141) rfl (gw_sub (gw_V xg_C_size ml_M_43 im_C_size se_C_size wi_C)) na_C_size (rm_lt (by omega) (by decide)) ⟨Nat.zero_le _, Nat.zero_le _⟩ (j4 + 3) (at_C (kf_U_code hj4)) rfl rfl (Nat.le_of_ble_eq_true rfl) xd_M_bringOne_141 ?_
      refine aw_iadd C xd_M_bringOne_144 ?_
      refine aw_bipush (v := (50 : Int32)) C xd_M_bringOne_145 (by decide) ?_
      refine aw_icmp_le (tgt := 153) C xd_M_bringOne_147 (by decide) (fun c_147 => ?_) (fun c_147 => ?_)
      · rw [if_pos c_147] at hm
        refine aw_aload_n C 0 xd_M_bringOne_153 rfl rfl ?_
        refine aw_get C j0 (kd_lt hj0) (ly_M hj0) rfl (fun w h => List.mem_cons_of_mem _ (xi_M w h)) 0 (by decide) rfl (List.mem_cons_of_mem _ fl_M_11) xd_M_bringOne_154 ?_
        refine aw_iload_n C 2 xd_M_bringOne_157 rfl rfl ?_
        obtain ⟨g_158, hm⟩ := aw_grd hm
        refine aw_aald C (j0 + 1) (kd_lt (kf_M_images hj0)) 3 (ly_I6 (kf_M_images hj0)) rfl (aw_in_ok g_158) rfl xd_M_bringOne_158 ?_
        refine aw_aload C 4 xd_M_bringOne_159 rfl ?_
        obtain ⟨q_161, e_161, hm⟩ := aw_bnd hm
        refine aw_callVv (As := [.ref (ad j4)]) (rest := []) (b := ad (j0 + 1 + 2 + 11 * (Int32.toNatClampNeg v2))) C (xc_I_fill σ (j0 + 1 + 2 + 11 * (Int32.toNatClampNeg v2)) j4 _ (ka_I6 (kf_M_images hj0) (aw_in_lt g_158)) hj4 e_161) rfl (gw_sub (gw_V xg_I_fill ml_M_94 im_I_fill se_I_fill wi_I)) na_I_fill (rm_lt (by omega) (by decide)) ⟨Nat.zero_le _, Nat.zero_le _⟩ (j0 + 1 + 2 + 11 * (Int32.toNatClampNeg v2)) (at_I (ka_I6 (kf_M_images hj0) (aw_in_lt g_158))) rfl rfl (Nat.le_of_ble_eq_true rfl) xd_M_bringOne_161 ?_
        refine aw_iconst (v := (0 : Int32)) C xd_M_bringOne_164 (by decide) ?_
        cases hm
        exact aw_iret C xd_M_bringOne_165
      · rw [if_neg c_147] at hm
        refine aw_bipush (v := (-2 : Int32)) C xd_M_bringOne_150 (by decide) ?_
        cases hm
        exact aw_iret C xd_M_bringOne_152
    · rw [if_neg c_64] at hm
      refine aw_aload_n C 0 xd_M_bringOne_67 rfl rfl ?_
      refine aw_aload_n C 1 xd_M_bringOne_68 rfl rfl ?_
      refine aw_aload C 4 xd_M_bringOne_69 rfl ?_
      refine aw_get C j4 (kd_lt hj4) (ly_U hj4) rfl (fun w h => List.mem_cons_of_mem _ (xi_U w h)) 3 (by decide) rfl (List.mem_cons_of_mem _ fl_M_84) xd_M_bringOne_71 ?_
      refine aw_iload C 5 xd_M_bringOne_74 rfl ?_
      obtain ⟨g_76, hm⟩ := aw_grd hm
      refine aw_iald C (j4 + 1) (kd_lt (kf_U_importModules hj4)) 0 (ly_A6 (kf_U_importModules hj4)) rfl (aw_in_ok g_76) xd_M_bringOne_76 ?_
      refine aw_iload_n C 3 xd_M_bringOne_77 rfl rfl ?_
      refine aw_iconst (v := (1 : Int32)) C xd_M_bringOne_78 (by decide) ?_
      refine aw_iadd C xd_M_bringOne_79 ?_
      obtain ⟨q_80, e_80, hm⟩ := aw_bnd hm
      refine aw_callVi (As := [.ref (ad j1), .int (σ (j4 + 1) (Int32.toNatClampNeg v5)), .int (v3 + (1 : Int32))]) (rest := []) (b := ad j0) C (hW σ j0 j1 (σ (j4 + 1) (Int32.toNatClampNeg v5)) (v3 + (1 : Int32)) _ hj0 hj1 e_80) rfl (gw_sub (gw_V xg_M_bringOne ml_M_66 im_M_bringOne se_M_bringOne wi_M)) na_M_bringOne (rm_lt (by omega) (by decide)) ⟨Nat.zero_le _, Nat.zero_le _⟩ j0 (at_M hj0) rfl rfl (Nat.le_of_ble_eq_true rfl) xd_M_bringOne_80 ?_
      refine aw_istore (L' := [(6, .int q_80.1), (0, .ref (ad j0)), (1, .ref (ad j1)), (2, .int v2), (3, .int v3), (4, .ref (ad j4)), (5, .int v5)]) C xd_M_bringOne_83 (by decide) rfl ?_
      refine aw_iload C 0 xd_M_bringOne_85 rfl ?_
      refine aw_if_eq (tgt := 93) C xd_M_bringOne_87 (by decide) (fun c_87 => ?_) (fun c_87 => ?_)
      · rw [if_pos c_87] at hm
        refine aw_aload_n C 1 xd_M_bringOne_93 rfl rfl ?_
        refine aw_get C j0 (kd_lt hj0) (ly_M hj0) rfl (fun w h => List.mem_cons_of_mem _ (xi_M w h)) 0 (by decide) rfl (List.mem_cons_of_mem _ fl_M_11) xd_M_bringOne_94 ?_
        refine aw_aload C 5 xd_M_bringOne_97 rfl ?_
        refine aw_get C j4 (kd_lt hj4) (ly_U hj4) rfl (fun w h => List.mem_cons_of_mem _ (xi_U w h)) 3 (by decide) rfl (List.mem_cons_of_mem _ fl_M_84) xd_M_bringOne_99 ?_
        refine aw_iload C 6 xd_M_bringOne_102 rfl ?_
        obtain ⟨g_104, hm⟩ := aw_grd hm
        refine aw_iald C (j4 + 1) (kd_lt (kf_U_importModules hj4)) 0 (ly_A6 (kf_U_importModules hj4)) rfl (aw_in_ok g_104) xd_M_bringOne_104 ?_
        obtain ⟨g_105, hm⟩ := aw_grd hm
        refine aw_aald C (j0 + 1) (kd_lt (kf_M_images hj0)) 3 (ly_I6 (kf_M_images hj0)) rfl (aw_in_ok g_105) rfl xd_M_bringOne_105 ?_
        refine aw_get C (j0 + 1 + 2 + 11 * (Int32.toNatClampNeg (q_80.2 (j4 + 1) (Int32.toNatClampNeg v5)))) (kd_lt (ka_I6 (kf_M_images hj0) (aw_in_lt g_105))) (ly_I (ka_I6 (kf_M_images hj0) (aw_in_lt g_105))) rfl (fun w h => List.mem_cons_of_mem _ (xi_I w h)) 0 (by decide) rfl (List.mem_cons_of_mem _ fl_M_26) xd_M_bringOne_106 ?_
        refine aw_get C ((j0 + 1 + 2 + 11 * (Int32.toNatClampNeg (q_80.2 (j4 + 1) (Int32.toNatClampNeg v5)))) + 1) (kd_lt (kf_I_unit (ka_I6 (kf_M_images hj0) (aw_in_lt g_105)))) (ly_U (kf_I_unit (ka_I6 (kf_M_images hj0) (aw_in_lt g_105)))) rfl (fun w h => List.mem_cons_of_mem _ (xi_U w h)) 1 (by decide) rfl (List.mem_cons_of_mem _ fl_M_87) xd_M_bringOne_109 ?_
        refine aw_aload C 5 xd_M_bringOne_112 rfl ?_
        refine aw_get C j4 (kd_lt hj4) (ly_U hj4) rfl (fun w h => List.mem_cons_of_mem _ (xi_U w h)) 4 (by decide) rfl (List.mem_cons_of_mem _ fl_M_90) xd_M_bringOne_114 ?_
        refine aw_iload C 6 xd_M_bringOne_117 rfl ?_
        obtain ⟨g_119, hm⟩ := aw_grd hm
        refine aw_iald C (j4 + 2) (kd_lt (kf_U_importKeys hj4)) 0 (ly_A6 (kf_U_importKeys hj4)) rfl (aw_in_ok g_119) xd_M_bringOne_119 ?_
        refine aw_icmp_eq (tgt := 126) C xd_M_bringOne_120 (by decide) (fun c_120 => ?_) (fun c_120 => ?_)
        · rw [if_pos c_120] at hm
          refine aw_iinc (j := 6) (v := v5 + (1 : Int32)) (L' := [(5, .int (v5 + (1 : Int32))), (6, .int q_80.1), (0, .ref (ad j0)), (1, .ref (ad j1)), (2, .int v2), (3, .int v3), (4, .ref (ad j4))]) C xd_M_bringOne_126 rfl rfl (by decide) rfl ?_
          refine aw_goto (tgt := 57) C xd_M_bringOne_129 (by decide) ?_
          refine aw_loc (L' := [(0, .ref (ad j0)), (1, .ref (ad j1)), (2, .int v2), (3, .int v3), (4, .ref (ad j4)), (5, .int (v5 + (1 : Int32)))]) C [2, 3, 4, 5, 6, 0] rfl ?_
          exact ih q_80.2 j0 j1 v2 v3 j4 (v5 + (1 : Int32)) hj0 hj1 hj4 hm
        · rw [if_neg c_120] at hm
          refine aw_bipush (v := (-5 : Int32)) C xd_M_bringOne_123 (by decide) ?_
          cases hm
          exact aw_iret C xd_M_bringOne_125
      · rw [if_neg c_87] at hm
        refine aw_iload C 0 xd_M_bringOne_90 rfl ?_
        cases hm
        exact aw_iret C xd_M_bringOne_92
set_option maxHeartbeats 4000000 in
set_option maxRecDepth 100000 in
theorem xc_M_bringOne_b (W : aw_m → Nat → Nat → Int32 → Int32 → Option (Int32 × aw_m)) (dw : Nat) (hW : ∀ (σ : aw_m) (k0 : Nat) (k1 : Nat) (a2 : Int32) (a3 : Int32) (q : Int32 × aw_m) (hk0 : kd_k k0 = 8) (hk1 : kd_k k1 = 4), W σ k0 k1 a2 a3 = some q → aw_M l D (ty_z ids) (zs_T ps) xy_M_bringOne (xw_M_bringOne :: gw_l) (rm_D (dw)) [.ref (ad k0), .ref (ad k1), .int a2, .int a3] (cw_w ad ids σ) (some (.int q.1)) (cw_w ad ids q.2)) (σ : aw_m) (k0 : Nat) (k1 : Nat) (a2 : Int32) (a3 : Int32) (q : Int32 × aw_m) (hk0 : kd_k k0 = 8) (hk1 : kd_k k1 = 4) (hm : xm_M_bringOne_b W σ k0 k1 a2 a3 = some q) : aw_M l D (ty_z ids) (zs_T ps) xy_M_bringOne (xw_M_bringOne :: gw_l) (rm_D (dw + 4)) [.ref (ad k0), .ref (ad k1), .int a2, .int a3] (cw_w ad ids σ) (some (.int q.1)) (cw_w ad ids q.2) := by
  refine aw_intro (cc := xb_M_bringOne) (n := 7) (ret := (some .int)) "ModuleShelf$Memory" rfl (by decide) rfl (Nat.le_of_ble_eq_true rfl) ?_
  intro κ C
  unfold xm_M_bringOne_b at hm
  refine aw_aload_n C 0 xd_M_bringOne_0 rfl rfl ?_
  refine aw_iload_n C 2 xd_M_bringOne_1 rfl rfl ?_
  obtain ⟨q_2, e_2, hm⟩ := aw_bnd hm
  refine aw_callVi (As := [.int a2]) (rest := []) (b := ad k0) C (xc_M_has σ k0 a2 _ hk0 e_2) rfl (gw_sub (gw_V xg_M_has ml_M_36 im_M_has se_M_has wi_M)) na_M_has (rm_lt (by omega) (by decide)) ⟨Nat.zero_le _, Nat.zero_le _⟩ k0 (at_M hk0) rfl rfl (Nat.le_of_ble_eq_true rfl) xd_M_bringOne_2 ?_
  refine aw_if_eq (tgt := 10) C xd_M_bringOne_5 (by decide) (fun c_5 => ?_) (fun c_5 => ?_)
  · rw [if_pos c_5] at hm
    refine aw_iload_n C 3 xd_M_bringOne_10 rfl rfl ?_
    refine aw_bipush (v := (6 : Int32)) C xd_M_bringOne_11 (by decide) ?_
    refine aw_icmp_ge (tgt := 25) C xd_M_bringOne_13 (by decide) (fun c_13 => ?_) (fun c_13 => ?_)
    · rw [if_pos c_13] at hm
      refine aw_bipush (v := (-6 : Int32)) C xd_M_bringOne_25 (by decide) ?_
      cases hm
      exact aw_iret C xd_M_bringOne_27
    · rw [if_neg c_13] at hm
      refine aw_aload_n C 0 xd_M_bringOne_16 rfl rfl ?_
      refine aw_get C k0 (kd_lt hk0) (ly_M hk0) rfl (fun w h => List.mem_cons_of_mem _ (xi_M w h)) 1 (by decide) rfl (List.mem_cons_of_mem _ fl_M_17) xd_M_bringOne_17 ?_
      refine aw_iload_n C 2 xd_M_bringOne_20 rfl rfl ?_
      obtain ⟨g_21, hm⟩ := aw_grd hm
      refine aw_zald C (k0 + 2) (kd_lt (kf_M_begun hk0)) 1 (ly_Z6 (kf_M_begun hk0)) rfl (aw_in_ok g_21) xd_M_bringOne_21 ?_
      refine aw_if_eq (tgt := 28) C xd_M_bringOne_22 (by decide) (fun c_22 => ?_) (fun c_22 => ?_)
      · rw [if_pos c_22] at hm
        refine aw_aload_n C 1 xd_M_bringOne_28 rfl rfl ?_
        refine aw_iload_n C 2 xd_M_bringOne_29 rfl rfl ?_
        obtain ⟨q_30, e_30, hm⟩ := aw_bnd hm
        refine aw_callVi (As := [.int a2]) (rest := []) (b := ad k1) C (xc_L_has σ k1 a2 _ hk1 e_30) rfl (gw_sub (gw_V xg_L_has ml_M_73 im_L_has se_L_has wi_L)) na_L_has (rm_lt (by omega) (by decide)) ⟨Nat.zero_le _, Nat.zero_le _⟩ k1 (at_L hk1) rfl rfl (Nat.le_of_ble_eq_true rfl) xd_M_bringOne_30 ?_
        refine aw_if_ne (tgt := 39) C xd_M_bringOne_33 (by decide) (fun c_33 => ?_) (fun c_33 => ?_)
        · rw [if_neg c_33] at hm
          refine aw_aload_n C 0 xd_M_bringOne_39 rfl rfl ?_
          refine aw_get C k0 (kd_lt hk0) (ly_M hk0) rfl (fun w h => List.mem_cons_of_mem _ (xi_M w h)) 1 (by decide) rfl (List.mem_cons_of_mem _ fl_M_17) xd_M_bringOne_40 ?_
          refine aw_iload_n C 2 xd_M_bringOne_43 rfl rfl ?_
          refine aw_iconst (v := (1 : Int32)) C xd_M_bringOne_44 (by decide) ?_
          obtain ⟨g_45, hm⟩ := aw_grd hm
          obtain ⟨s_45, h_45, hm⟩ := aw_let hm
          refine aw_zast (σ1 := s_45) (g := upd (σ (k0 + 2)) (Int32.toNatClampNeg a2) (1 : Int32)) C (k0 + 2) (kd_lt (kf_M_begun hk0)) 1 (ly_Z6 (kf_M_begun hk0)) rfl (aw_in_ok g_45) (by decide) (ly_Z6 (kf_M_begun hk0)) h_45 xd_M_bringOne_45 ?_
          refine aw_aload_n C 1 xd_M_bringOne_46 rfl rfl ?_
          refine aw_get C k1 (kd_lt hk1) (ly_L hk1) rfl (fun w h => List.mem_cons_of_mem _ (xi_L w h)) 0 (by decide) rfl (List.mem_cons_of_mem _ fl_M_76) xd_M_bringOne_47 ?_
          refine aw_iload_n C 2 xd_M_bringOne_50 rfl rfl ?_
          obtain ⟨g_51, hm⟩ := aw_grd hm
          refine aw_aald C (k1 + 1) (kd_lt (kf_L_units hk1)) 2 (ly_U6 (kf_L_units hk1)) rfl (aw_in_ok g_51) rfl xd_M_bringOne_51 ?_
          refine aw_astore (L' := [(4, .ref (ad (k1 + 1 + 1 + 9 * (Int32.toNatClampNeg a2)))), (0, .ref (ad k0)), (1, .ref (ad k1)), (2, .int a2), (3, .int a3)]) C xd_M_bringOne_52 (by decide) rfl ?_
          refine aw_iconst (v := (0 : Int32)) C xd_M_bringOne_54 (by decide) ?_
          refine aw_istore (L' := [(5, .int (0 : Int32)), (4, .ref (ad (k1 + 1 + 1 + 9 * (Int32.toNatClampNeg a2)))), (0, .ref (ad k0)), (1, .ref (ad k1)), (2, .int a2), (3, .int a3)]) C xd_M_bringOne_55 (by decide) rfl ?_
          refine aw_loc (L' := [(0, .ref (ad k0)), (1, .ref (ad k1)), (2, .int a2), (3, .int a3), (4, .ref (ad (k1 + 1 + 1 + 9 * (Int32.toNatClampNeg a2)))), (5, .int (0 : Int32))]) C [2, 3, 4, 5, 1, 0] rfl ?_
          exact xl_M_bringOne_57 W dw hW _ C 64 s_45 k0 k1 a2 a3 (k1 + 1 + 1 + 9 * (Int32.toNatClampNeg a2)) (0 : Int32) hk0 hk1 (ka_U6 (kf_L_units hk1) (aw_in_lt g_51)) hm
        · rw [if_pos c_33] at hm
          refine aw_bipush (v := (-4 : Int32)) C xd_M_bringOne_36 (by decide) ?_
          cases hm
          exact aw_iret C xd_M_bringOne_38
      · rw [if_neg c_22] at hm
        refine aw_bipush (v := (-6 : Int32)) C xd_M_bringOne_25 (by decide) ?_
        cases hm
        exact aw_iret C xd_M_bringOne_27
  · rw [if_neg c_5] at hm
    refine aw_iconst (v := (0 : Int32)) C xd_M_bringOne_8 (by decide) ?_
    cases hm
    exact aw_iret C xd_M_bringOne_9
theorem xc_M_bringOne (d : Nat) : ∀ (σ : aw_m) (k0 : Nat) (k1 : Nat) (a2 : Int32) (a3 : Int32) (q : Int32 × aw_m) (hk0 : kd_k k0 = 8) (hk1 : kd_k k1 = 4), xm_M_bringOne d σ k0 k1 a2 a3 = some q → aw_M l D (ty_z ids) (zs_T ps) xy_M_bringOne (xw_M_bringOne :: gw_l) (rm_D (4 * d)) [.ref (ad k0), .ref (ad k1), .int a2, .int a3] (cw_w ad ids σ) (some (.int q.1)) (cw_w ad ids q.2) := by
  induction d with
  | zero => intro σ k0 k1 a2 a3 q hk0 hk1 hm; cases hm
  | succ d ih =>
    intro σ k0 k1 a2 a3 q hk0 hk1 hm
    have h := xc_M_bringOne_b (xm_M_bringOne d) (4 * d) ih σ k0 k1 a2 a3 q hk0 hk1 hm
    exact h
def xq_M_bring_8  : Nat → aw_m → Nat → Nat → Int32 → Int32 → Int32 → Option (Int32 × aw_m)
  | 0, _, _, _, _, _, _ => none
  | n + 1, σ, j0, j1, v2, v3, v4 => (if (6 : Int32) ≤ v4 then (xm_M_bringOne 9 σ j0 j1 v2 (0 : Int32)).bind fun q_33 => (if q_33.1 = 0 then (xm_M_held q_33.2 j0).bind fun q_44 => some (q_44 - v3, q_33.2) else (xm_M_dropBegun q_33.2 j0).bind fun q_51 => some (q_33.1, q_51)) else if aw_in v4 6 = true then aw_l (aw_p σ (j0 + 2) (Int32.toNatClampNeg v4) (0 : Int32)) fun s_22 => xq_M_bring_8 n s_22 j0 j1 v2 v3 (v4 + (1 : Int32)) else none)
def xm_M_bring (σ : aw_m) (k0 : Nat) (k1 : Nat) (a2 : Int32) : Option (Int32 × aw_m) := (xm_M_held σ k0).bind fun q_1 => xq_M_bring_8 64 σ k0 k1 a2 q_1 (0 : Int32)
set_option maxHeartbeats 4000000 in
set_option maxRecDepth 100000 in
theorem xl_M_bring_8  {κ : aw_K} (q : Int32 × aw_m) (C : aw_X l D (ty_z ids) (zs_T ps) (rm_D (37)) xb_M_bring 5 "ModuleShelf$Memory" (xw_M_bring :: gw_l) (some .int) (some (.int q.1)) (cw_w ad ids q.2) κ) : ∀ (n : Nat) (σ : aw_m) (j0 : Nat) (j1 : Nat) (v2 : Int32) (v3 : Int32) (v4 : Int32) (hj0 : kd_k j0 = 8) (hj1 : kd_k j1 = 4), xq_M_bring_8 n σ j0 j1 v2 v3 v4 = some q → aw_J κ 0 0 (cw_w ad ids σ) [(0, .ref (ad j0)), (1, .ref (ad j1)), (2, .int v2), (3, .int v3), (4, .int v4)] 8 [] := by
  intro n
  induction n with
  | zero => intro σ j0 j1 v2 v3 v4 hj0 hj1 hm; cases hm
  | succ n ih =>
    intro σ j0 j1 v2 v3 v4 hj0 hj1 hm
    rw [xq_M_bring_8] at hm
    refine aw_iload C 4 xd_M_bring_8 rfl ?_
    refine aw_bipush (v := (6 : Int32)) C xd_M_bring_10 (by decide) ?_
    refine aw_icmp_ge (tgt := 29) C xd_M_bring_12 (by decide) (fun c_12 => ?_) (fun c_12 => ?_)
    · rw [if_pos c_12] at hm
      refine aw_aload_n C 0 xd_M_bring_29 rfl rfl ?_
      refine aw_aload_n C 1 xd_M_bring_30 rfl rfl ?_
      refine aw_iload_n C 2 xd_M_bring_31 rfl rfl ?_
      refine aw_iconst (v := (0 : Int32)) C xd_M_bring_32 (by decide) ?_
      obtain ⟨q_33, e_33, hm⟩ := aw_bnd hm
      refine aw_callVi (As := [.ref (ad j1), .int v2, .int (0 : Int32)]) (rest := []) (b := ad j0) C (xc_M_bringOne 9 σ j0 j1 v2 (0 : Int32) _ hj0 hj1 e_33) rfl (gw_sub (gw_V xg_M_bringOne ml_M_66 im_M_bringOne se_M_bringOne wi_M)) na_M_bringOne (rm_lt (by decide) (by decide)) ⟨Nat.zero_le _, Nat.zero_le _⟩ j0 (at_M hj0) rfl rfl (Nat.le_of_ble_eq_true rfl) xd_M_bring_33 ?_
      refine aw_istore (L' := [(4, .int q_33.1), (0, .ref (ad j0)), (1, .ref (ad j1)), (2, .int v2), (3, .int v3)]) C xd_M_bring_36 (by decide) rfl ?_
      refine aw_iload C 0 xd_M_bring_38 rfl ?_
      refine aw_if_ne (tgt := 50) C xd_M_bring_40 (by decide) (fun c_40 => ?_) (fun c_40 => ?_)
      · rw [if_neg c_40] at hm
        refine aw_aload_n C 1 xd_M_bring_50 rfl rfl ?_
        obtain ⟨q_51, e_51, hm⟩ := aw_bnd hm
        refine aw_callVv (As := []) (rest := []) (b := ad j0) C (xc_M_dropBegun q_33.2 j0 _ hj0 e_51) rfl (gw_sub (gw_V xg_M_dropBegun ml_M_70 im_M_dropBegun se_M_dropBegun wi_M)) na_M_dropBegun (rm_lt (by decide) (by decide)) ⟨Nat.zero_le _, Nat.zero_le _⟩ j0 (at_M hj0) rfl rfl (Nat.le_of_ble_eq_true rfl) xd_M_bring_51 ?_
        refine aw_iload C 0 xd_M_bring_54 rfl ?_
        cases hm
        exact aw_iret C xd_M_bring_56
      · rw [if_pos c_40] at hm
        refine aw_aload_n C 1 xd_M_bring_43 rfl rfl ?_
        obtain ⟨q_44, e_44, hm⟩ := aw_bnd hm
        refine aw_callVi (As := []) (rest := []) (b := ad j0) C (xc_M_held q_33.2 j0 _ hj0 e_44) rfl (gw_sub (gw_V xg_M_held ml_M_63 im_M_held se_M_held wi_M)) na_M_held (rm_lt (by decide) (by decide)) ⟨Nat.zero_le _, Nat.zero_le _⟩ j0 (at_M hj0) rfl rfl (Nat.le_of_ble_eq_true rfl) xd_M_bring_44 ?_
        refine aw_iload_n C 4 xd_M_bring_47 rfl rfl ?_
        refine aw_isub C xd_M_bring_48 ?_
        cases hm
        exact aw_iret C xd_M_bring_49
    · rw [if_neg c_12] at hm
      refine aw_aload_n C 0 xd_M_bring_15 rfl rfl ?_
      refine aw_get C j0 (kd_lt hj0) (ly_M hj0) rfl (fun w h => List.mem_cons_of_mem _ (xi_M w h)) 1 (by decide) rfl (List.mem_cons_of_mem _ fl_M_17) xd_M_bring_16 ?_
      refine aw_iload C 4 xd_M_bring_19 rfl ?_
      refine aw_iconst (v := (0 : Int32)) C xd_M_bring_21 (by decide) ?_
      obtain ⟨g_22, hm⟩ := aw_grd hm
      obtain ⟨s_22, h_22, hm⟩ := aw_let hm
      refine aw_zast (σ1 := s_22) (g := upd (σ (j0 + 2)) (Int32.toNatClampNeg v4) (0 : Int32)) C (j0 + 2) (kd_lt (kf_M_begun hj0)) 1 (ly_Z6 (kf_M_begun hj0)) rfl (aw_in_ok g_22) (by decide) (ly_Z6 (kf_M_begun hj0)) h_22 xd_M_bring_22 ?_
      refine aw_iinc (j := 4) (v := v4 + (1 : Int32)) (L' := [(4, .int (v4 + (1 : Int32))), (0, .ref (ad j0)), (1, .ref (ad j1)), (2, .int v2), (3, .int v3)]) C xd_M_bring_23 rfl rfl (by decide) rfl ?_
      refine aw_goto (tgt := 8) C xd_M_bring_26 (by decide) ?_
      refine aw_loc (L' := [(0, .ref (ad j0)), (1, .ref (ad j1)), (2, .int v2), (3, .int v3), (4, .int (v4 + (1 : Int32)))]) C [1, 2, 3, 4, 0] rfl ?_
      exact ih s_22 j0 j1 v2 v3 (v4 + (1 : Int32)) hj0 hj1 hm
set_option maxHeartbeats 4000000 in
set_option maxRecDepth 100000 in
theorem xc_M_bring (σ : aw_m) (k0 : Nat) (k1 : Nat) (a2 : Int32) (q : Int32 × aw_m) (hk0 : kd_k k0 = 8) (hk1 : kd_k k1 = 4) (hm : xm_M_bring σ k0 k1 a2 = some q) : aw_M l D (ty_z ids) (zs_T ps) xy_M_bring (xw_M_bring :: gw_l) (rm_D (37)) [.ref (ad k0), .ref (ad k1), .int a2] (cw_w ad ids σ) (some (.int q.1)) (cw_w ad ids q.2) := by
  refine aw_intro (cc := xb_M_bring) (n := 5) (ret := (some .int)) "ModuleShelf$Memory" rfl (by decide) rfl (Nat.le_of_ble_eq_true rfl) ?_
  intro κ C
  unfold xm_M_bring at hm
  refine aw_aload_n C 0 xd_M_bring_0 rfl rfl ?_
  obtain ⟨q_1, e_1, hm⟩ := aw_bnd hm
  refine aw_callVi (As := []) (rest := []) (b := ad k0) C (xc_M_held σ k0 _ hk0 e_1) rfl (gw_sub (gw_V xg_M_held ml_M_63 im_M_held se_M_held wi_M)) na_M_held (rm_lt (by decide) (by decide)) ⟨Nat.zero_le _, Nat.zero_le _⟩ k0 (at_M hk0) rfl rfl (Nat.le_of_ble_eq_true rfl) xd_M_bring_1 ?_
  refine aw_istore_n (L' := [(3, .int q_1), (0, .ref (ad k0)), (1, .ref (ad k1)), (2, .int a2)]) C xd_M_bring_4 rfl (by decide) rfl ?_
  refine aw_iconst (v := (0 : Int32)) C xd_M_bring_5 (by decide) ?_
  refine aw_istore (L' := [(4, .int (0 : Int32)), (3, .int q_1), (0, .ref (ad k0)), (1, .ref (ad k1)), (2, .int a2)]) C xd_M_bring_6 (by decide) rfl ?_
  refine aw_loc (L' := [(0, .ref (ad k0)), (1, .ref (ad k1)), (2, .int a2), (3, .int q_1), (4, .int (0 : Int32))]) C [2, 3, 4, 1, 0] rfl ?_
  exact xl_M_bring_8 _ C 64 σ k0 k1 a2 q_1 (0 : Int32) hk0 hk1 hm
end
end
section
theorem xd_N_fail_0 : decode xb_N_fail 0 = .ok (.aload_n 0, 1) := by decide +kernel
theorem xd_N_fail_1 : decode xb_N_fail 1 = .ok (.iload_n 1, 1) := by decide +kernel
theorem xd_N_fail_2 : decode xb_N_fail 2 = .ok (.putfield 22, 3) := by decide +kernel
theorem xd_N_fail_5 : decode xb_N_fail 5 = .ok (.iconst 0, 1) := by decide +kernel
theorem xd_N_fail_6 : decode xb_N_fail 6 = .ok (.ireturn, 1) := by decide +kernel
theorem xd_N_partsOf_0 : decode xb_N_partsOf 0 = .ok (.aload_n 2, 1) := by decide +kernel
theorem xd_N_partsOf_1 : decode xb_N_partsOf 1 = .ok (.getfield 80, 3) := by decide +kernel
theorem xd_N_partsOf_4 : decode xb_N_partsOf 4 = .ok (.iload_n 3, 1) := by decide +kernel
theorem xd_N_partsOf_5 : decode xb_N_partsOf 5 = .ok (.iaload, 1) := by decide +kernel
theorem xd_N_partsOf_6 : decode xb_N_partsOf 6 = .ok (.istore 4, 2) := by decide +kernel
theorem xd_N_partsOf_8 : decode xb_N_partsOf 8 = .ok (.iload 4, 2) := by decide +kernel
theorem xd_N_partsOf_10 : decode xb_N_partsOf 10 = .ok (.bipush 11, 2) := by decide +kernel
theorem xd_N_partsOf_12 : decode xb_N_partsOf 12 = .ok (.if_icmp .eq 10, 3) := by decide +kernel
theorem xd_N_partsOf_15 : decode xb_N_partsOf 15 = .ok (.getstatic 121, 3) := by decide +kernel
theorem xd_N_partsOf_18 : decode xb_N_partsOf 18 = .ok (.iload 4, 2) := by decide +kernel
theorem xd_N_partsOf_20 : decode xb_N_partsOf 20 = .ok (.iaload, 1) := by decide +kernel
theorem xd_N_partsOf_21 : decode xb_N_partsOf 21 = .ok (.ireturn, 1) := by decide +kernel
theorem xd_N_partsOf_22 : decode xb_N_partsOf 22 = .ok (.iconst 0, 1) := by decide +kernel
theorem xd_N_partsOf_23 : decode xb_N_partsOf 23 = .ok (.aload_n 1, 1) := by decide +kernel
theorem xd_N_partsOf_24 : decode xb_N_partsOf 24 = .ok (.aload_n 2, 1) := by decide +kernel
theorem xd_N_partsOf_25 : decode xb_N_partsOf 25 = .ok (.getfield 73, 3) := by decide +kernel
theorem xd_N_partsOf_28 : decode xb_N_partsOf 28 = .ok (.iload_n 3, 1) := by decide +kernel
theorem xd_N_partsOf_29 : decode xb_N_partsOf 29 = .ok (.iaload, 1) := by decide +kernel
theorem xd_N_partsOf_30 : decode xb_N_partsOf 30 = .ok (.aload_n 2, 1) := by decide +kernel
theorem xd_N_partsOf_31 : decode xb_N_partsOf 31 = .ok (.getfield 77, 3) := by decide +kernel
theorem xd_N_partsOf_34 : decode xb_N_partsOf 34 = .ok (.iload_n 3, 1) := by decide +kernel
theorem xd_N_partsOf_35 : decode xb_N_partsOf 35 = .ok (.iaload, 1) := by decide +kernel
theorem xd_N_partsOf_36 : decode xb_N_partsOf 36 = .ok (.invokevirtual 114, 3) := by decide +kernel
theorem xd_N_partsOf_39 : decode xb_N_partsOf 39 = .ok (.invokestatic 124, 3) := by decide +kernel
theorem xd_N_partsOf_42 : decode xb_N_partsOf 42 = .ok (.ireturn, 1) := by decide +kernel
theorem xd_N_skip_0 : decode xb_N_skip 0 = .ok (.aload_n 1, 1) := by decide +kernel
theorem xd_N_skip_1 : decode xb_N_skip 1 = .ok (.getfield 33, 3) := by decide +kernel
theorem xd_N_skip_4 : decode xb_N_skip 4 = .ok (.aload_n 2, 1) := by decide +kernel
theorem xd_N_skip_5 : decode xb_N_skip 5 = .ok (.getfield 39, 3) := by decide +kernel
theorem xd_N_skip_8 : decode xb_N_skip 8 = .ok (.aaload, 1) := by decide +kernel
theorem xd_N_skip_9 : decode xb_N_skip 9 = .ok (.getfield 42, 3) := by decide +kernel
theorem xd_N_skip_12 : decode xb_N_skip 12 = .ok (.getfield 48, 3) := by decide +kernel
theorem xd_N_skip_15 : decode xb_N_skip 15 = .ok (.astore_n 3, 1) := by decide +kernel
theorem xd_N_skip_16 : decode xb_N_skip 16 = .ok (.aload_n 3, 1) := by decide +kernel
theorem xd_N_skip_17 : decode xb_N_skip 17 = .ok (.aload_n 2, 1) := by decide +kernel
theorem xd_N_skip_18 : decode xb_N_skip 18 = .ok (.getfield 57, 3) := by decide +kernel
theorem xd_N_skip_21 : decode xb_N_skip 21 = .ok (.invokevirtual 60, 3) := by decide +kernel
theorem xd_N_skip_24 : decode xb_N_skip 24 = .ok (.istore 4, 2) := by decide +kernel
theorem xd_N_skip_26 : decode xb_N_skip 26 = .ok (.iconst 1, 1) := by decide +kernel
theorem xd_N_skip_27 : decode xb_N_skip 27 = .ok (.istore 5, 2) := by decide +kernel
theorem xd_N_skip_29 : decode xb_N_skip 29 = .ok (.iload 5, 2) := by decide +kernel
theorem xd_N_skip_31 : decode xb_N_skip 31 = .ok (.ifCond .le 50, 3) := by decide +kernel
theorem xd_N_skip_34 : decode xb_N_skip 34 = .ok (.aload_n 2, 1) := by decide +kernel
theorem xd_N_skip_35 : decode xb_N_skip 35 = .ok (.getfield 54, 3) := by decide +kernel
theorem xd_N_skip_38 : decode xb_N_skip 38 = .ok (.iload 4, 2) := by decide +kernel
theorem xd_N_skip_40 : decode xb_N_skip 40 = .ok (.if_icmp .ge 41, 3) := by decide +kernel
theorem xd_N_skip_43 : decode xb_N_skip 43 = .ok (.iload 5, 2) := by decide +kernel
theorem xd_N_skip_45 : decode xb_N_skip 45 = .ok (.aload_n 0, 1) := by decide +kernel
theorem xd_N_skip_46 : decode xb_N_skip 46 = .ok (.aload_n 1, 1) := by decide +kernel
theorem xd_N_skip_47 : decode xb_N_skip 47 = .ok (.aload_n 3, 1) := by decide +kernel
theorem xd_N_skip_48 : decode xb_N_skip 48 = .ok (.aload_n 3, 1) := by decide +kernel
theorem xd_N_skip_49 : decode xb_N_skip 49 = .ok (.aload_n 2, 1) := by decide +kernel
theorem xd_N_skip_50 : decode xb_N_skip 50 = .ok (.getfield 57, 3) := by decide +kernel
theorem xd_N_skip_53 : decode xb_N_skip 53 = .ok (.aload_n 2, 1) := by decide +kernel
theorem xd_N_skip_54 : decode xb_N_skip 54 = .ok (.getfield 54, 3) := by decide +kernel
theorem xd_N_skip_57 : decode xb_N_skip 57 = .ok (.invokevirtual 69, 3) := by decide +kernel
theorem xd_N_skip_60 : decode xb_N_skip 60 = .ok (.invokevirtual 117, 3) := by decide +kernel
theorem xd_N_skip_63 : decode xb_N_skip 63 = .ok (.iconst 1, 1) := by decide +kernel
theorem xd_N_skip_64 : decode xb_N_skip 64 = .ok (.isub, 1) := by decide +kernel
theorem xd_N_skip_65 : decode xb_N_skip 65 = .ok (.iadd, 1) := by decide +kernel
theorem xd_N_skip_66 : decode xb_N_skip 66 = .ok (.istore 5, 2) := by decide +kernel
theorem xd_N_skip_68 : decode xb_N_skip 68 = .ok (.aload_n 2, 1) := by decide +kernel
theorem xd_N_skip_69 : decode xb_N_skip 69 = .ok (.dup, 1) := by decide +kernel
theorem xd_N_skip_70 : decode xb_N_skip 70 = .ok (.getfield 54, 3) := by decide +kernel
theorem xd_N_skip_73 : decode xb_N_skip 73 = .ok (.iconst 1, 1) := by decide +kernel
theorem xd_N_skip_74 : decode xb_N_skip 74 = .ok (.iadd, 1) := by decide +kernel
theorem xd_N_skip_75 : decode xb_N_skip 75 = .ok (.putfield 54, 3) := by decide +kernel
theorem xd_N_skip_78 : decode xb_N_skip 78 = .ok (.goto (-49), 3) := by decide +kernel
theorem xd_N_skip_81 : decode xb_N_skip 81 = .ok (.return_, 1) := by decide +kernel
theorem xd_N_assign_0 : decode xb_N_assign 0 = .ok (.aload_n 0, 1) := by decide +kernel
theorem xd_N_assign_1 : decode xb_N_assign 1 = .ok (.aload_n 1, 1) := by decide +kernel
theorem xd_N_assign_2 : decode xb_N_assign 2 = .ok (.iload_n 2, 1) := by decide +kernel
theorem xd_N_assign_3 : decode xb_N_assign 3 = .ok (.iload_n 3, 1) := by decide +kernel
theorem xd_N_assign_4 : decode xb_N_assign 4 = .ok (.iconst 1, 1) := by decide +kernel
theorem xd_N_assign_5 : decode xb_N_assign 5 = .ok (.iadd, 1) := by decide +kernel
theorem xd_N_assign_6 : decode xb_N_assign 6 = .ok (.invokevirtual 29, 3) := by decide +kernel
theorem xd_N_assign_9 : decode xb_N_assign 9 = .ok (.istore 5, 2) := by decide +kernel
theorem xd_N_assign_11 : decode xb_N_assign 11 = .ok (.aload_n 0, 1) := by decide +kernel
theorem xd_N_assign_12 : decode xb_N_assign 12 = .ok (.getfield 22, 3) := by decide +kernel
theorem xd_N_assign_15 : decode xb_N_assign 15 = .ok (.ifCond .ne 20, 3) := by decide +kernel
theorem xd_N_assign_18 : decode xb_N_assign 18 = .ok (.aload_n 1, 1) := by decide +kernel
theorem xd_N_assign_19 : decode xb_N_assign 19 = .ok (.aload_n 0, 1) := by decide +kernel
theorem xd_N_assign_20 : decode xb_N_assign 20 = .ok (.getfield 11, 3) := by decide +kernel
theorem xd_N_assign_23 : decode xb_N_assign 23 = .ok (.iload_n 2, 1) := by decide +kernel
theorem xd_N_assign_24 : decode xb_N_assign 24 = .ok (.aaload, 1) := by decide +kernel
theorem xd_N_assign_25 : decode xb_N_assign 25 = .ok (.getfield 39, 3) := by decide +kernel
theorem xd_N_assign_28 : decode xb_N_assign 28 = .ok (.iload 4, 2) := by decide +kernel
theorem xd_N_assign_30 : decode xb_N_assign 30 = .ok (.iload 5, 2) := by decide +kernel
theorem xd_N_assign_32 : decode xb_N_assign 32 = .ok (.invokevirtual 106, 3) := by decide +kernel
theorem xd_N_assign_35 : decode xb_N_assign 35 = .ok (.iload 5, 2) := by decide +kernel
theorem xd_N_assign_37 : decode xb_N_assign 37 = .ok (.ireturn, 1) := by decide +kernel
theorem xd_N_choose_0 : decode xb_N_choose 0 = .ok (.aload_n 0, 1) := by decide +kernel
theorem xd_N_choose_1 : decode xb_N_choose 1 = .ok (.aload_n 1, 1) := by decide +kernel
theorem xd_N_choose_2 : decode xb_N_choose 2 = .ok (.iload_n 2, 1) := by decide +kernel
theorem xd_N_choose_3 : decode xb_N_choose 3 = .ok (.iload_n 3, 1) := by decide +kernel
theorem xd_N_choose_4 : decode xb_N_choose 4 = .ok (.iconst 1, 1) := by decide +kernel
theorem xd_N_choose_5 : decode xb_N_choose 5 = .ok (.iadd, 1) := by decide +kernel
theorem xd_N_choose_6 : decode xb_N_choose 6 = .ok (.invokevirtual 29, 3) := by decide +kernel
theorem xd_N_choose_9 : decode xb_N_choose 9 = .ok (.istore 4, 2) := by decide +kernel
theorem xd_N_choose_11 : decode xb_N_choose 11 = .ok (.iload 4, 2) := by decide +kernel
theorem xd_N_choose_13 : decode xb_N_choose 13 = .ok (.ifCond .ne 24, 3) := by decide +kernel
theorem xd_N_choose_16 : decode xb_N_choose 16 = .ok (.aload_n 0, 1) := by decide +kernel
theorem xd_N_choose_17 : decode xb_N_choose 17 = .ok (.aload_n 1, 1) := by decide +kernel
theorem xd_N_choose_18 : decode xb_N_choose 18 = .ok (.aload_n 0, 1) := by decide +kernel
theorem xd_N_choose_19 : decode xb_N_choose 19 = .ok (.getfield 11, 3) := by decide +kernel
theorem xd_N_choose_22 : decode xb_N_choose 22 = .ok (.iload_n 2, 1) := by decide +kernel
theorem xd_N_choose_23 : decode xb_N_choose 23 = .ok (.aaload, 1) := by decide +kernel
theorem xd_N_choose_24 : decode xb_N_choose 24 = .ok (.invokevirtual 110, 3) := by decide +kernel
theorem xd_N_choose_27 : decode xb_N_choose 27 = .ok (.aload_n 0, 1) := by decide +kernel
theorem xd_N_choose_28 : decode xb_N_choose 28 = .ok (.aload_n 1, 1) := by decide +kernel
theorem xd_N_choose_29 : decode xb_N_choose 29 = .ok (.iload_n 2, 1) := by decide +kernel
theorem xd_N_choose_30 : decode xb_N_choose 30 = .ok (.iload_n 3, 1) := by decide +kernel
theorem xd_N_choose_31 : decode xb_N_choose 31 = .ok (.iconst 1, 1) := by decide +kernel
theorem xd_N_choose_32 : decode xb_N_choose 32 = .ok (.iadd, 1) := by decide +kernel
theorem xd_N_choose_33 : decode xb_N_choose 33 = .ok (.invokevirtual 29, 3) := by decide +kernel
theorem xd_N_choose_36 : decode xb_N_choose 36 = .ok (.ireturn, 1) := by decide +kernel
theorem xd_N_choose_37 : decode xb_N_choose 37 = .ok (.aload_n 0, 1) := by decide +kernel
theorem xd_N_choose_38 : decode xb_N_choose 38 = .ok (.aload_n 1, 1) := by decide +kernel
theorem xd_N_choose_39 : decode xb_N_choose 39 = .ok (.iload_n 2, 1) := by decide +kernel
theorem xd_N_choose_40 : decode xb_N_choose 40 = .ok (.iload_n 3, 1) := by decide +kernel
theorem xd_N_choose_41 : decode xb_N_choose 41 = .ok (.iconst 1, 1) := by decide +kernel
theorem xd_N_choose_42 : decode xb_N_choose 42 = .ok (.iadd, 1) := by decide +kernel
theorem xd_N_choose_43 : decode xb_N_choose 43 = .ok (.invokevirtual 29, 3) := by decide +kernel
theorem xd_N_choose_46 : decode xb_N_choose 46 = .ok (.istore 5, 2) := by decide +kernel
theorem xd_N_choose_48 : decode xb_N_choose 48 = .ok (.aload_n 0, 1) := by decide +kernel
theorem xd_N_choose_49 : decode xb_N_choose 49 = .ok (.aload_n 1, 1) := by decide +kernel
theorem xd_N_choose_50 : decode xb_N_choose 50 = .ok (.aload_n 0, 1) := by decide +kernel
theorem xd_N_choose_51 : decode xb_N_choose 51 = .ok (.getfield 11, 3) := by decide +kernel
theorem xd_N_choose_54 : decode xb_N_choose 54 = .ok (.iload_n 2, 1) := by decide +kernel
theorem xd_N_choose_55 : decode xb_N_choose 55 = .ok (.aaload, 1) := by decide +kernel
theorem xd_N_choose_56 : decode xb_N_choose 56 = .ok (.invokevirtual 110, 3) := by decide +kernel
theorem xd_N_choose_59 : decode xb_N_choose 59 = .ok (.iload 5, 2) := by decide +kernel
theorem xd_N_choose_61 : decode xb_N_choose 61 = .ok (.ireturn, 1) := by decide +kernel
theorem xd_N_enter_0 : decode xb_N_enter 0 = .ok (.aload_n 1, 1) := by decide +kernel
theorem xd_N_enter_1 : decode xb_N_enter 1 = .ok (.iload 4, 2) := by decide +kernel
theorem xd_N_enter_3 : decode xb_N_enter 3 = .ok (.iload 5, 2) := by decide +kernel
theorem xd_N_enter_5 : decode xb_N_enter 5 = .ok (.invokevirtual 114, 3) := by decide +kernel
theorem xd_N_enter_8 : decode xb_N_enter 8 = .ok (.istore 6, 2) := by decide +kernel
theorem xd_N_enter_10 : decode xb_N_enter 10 = .ok (.iload 6, 2) := by decide +kernel
theorem xd_N_enter_12 : decode xb_N_enter 12 = .ok (.ifCond .le 15, 3) := by decide +kernel
theorem xd_N_enter_15 : decode xb_N_enter 15 = .ok (.aload_n 0, 1) := by decide +kernel
theorem xd_N_enter_16 : decode xb_N_enter 16 = .ok (.aload_n 1, 1) := by decide +kernel
theorem xd_N_enter_17 : decode xb_N_enter 17 = .ok (.iload_n 2, 1) := by decide +kernel
theorem xd_N_enter_18 : decode xb_N_enter 18 = .ok (.iload_n 3, 1) := by decide +kernel
theorem xd_N_enter_19 : decode xb_N_enter 19 = .ok (.iconst 1, 1) := by decide +kernel
theorem xd_N_enter_20 : decode xb_N_enter 20 = .ok (.iadd, 1) := by decide +kernel
theorem xd_N_enter_21 : decode xb_N_enter 21 = .ok (.invokevirtual 29, 3) := by decide +kernel
theorem xd_N_enter_24 : decode xb_N_enter 24 = .ok (.goto 4, 3) := by decide +kernel
theorem xd_N_enter_27 : decode xb_N_enter 27 = .ok (.iconst 0, 1) := by decide +kernel
theorem xd_N_enter_28 : decode xb_N_enter 28 = .ok (.istore 7, 2) := by decide +kernel
theorem xd_N_enter_30 : decode xb_N_enter 30 = .ok (.iload 6, 2) := by decide +kernel
theorem xd_N_enter_32 : decode xb_N_enter 32 = .ok (.iconst 1, 1) := by decide +kernel
theorem xd_N_enter_33 : decode xb_N_enter 33 = .ok (.if_icmp .le 15, 3) := by decide +kernel
theorem xd_N_enter_36 : decode xb_N_enter 36 = .ok (.aload_n 0, 1) := by decide +kernel
theorem xd_N_enter_37 : decode xb_N_enter 37 = .ok (.aload_n 1, 1) := by decide +kernel
theorem xd_N_enter_38 : decode xb_N_enter 38 = .ok (.iload_n 2, 1) := by decide +kernel
theorem xd_N_enter_39 : decode xb_N_enter 39 = .ok (.iload_n 3, 1) := by decide +kernel
theorem xd_N_enter_40 : decode xb_N_enter 40 = .ok (.iconst 1, 1) := by decide +kernel
theorem xd_N_enter_41 : decode xb_N_enter 41 = .ok (.iadd, 1) := by decide +kernel
theorem xd_N_enter_42 : decode xb_N_enter 42 = .ok (.invokevirtual 29, 3) := by decide +kernel
theorem xd_N_enter_45 : decode xb_N_enter 45 = .ok (.goto 4, 3) := by decide +kernel
theorem xd_N_enter_48 : decode xb_N_enter 48 = .ok (.iconst 0, 1) := by decide +kernel
theorem xd_N_enter_49 : decode xb_N_enter 49 = .ok (.istore 8, 2) := by decide +kernel
theorem xd_N_enter_51 : decode xb_N_enter 51 = .ok (.aload_n 0, 1) := by decide +kernel
theorem xd_N_enter_52 : decode xb_N_enter 52 = .ok (.getfield 22, 3) := by decide +kernel
theorem xd_N_enter_55 : decode xb_N_enter 55 = .ok (.ifCond .ne 9, 3) := by decide +kernel
theorem xd_N_enter_58 : decode xb_N_enter 58 = .ok (.iload 6, 2) := by decide +kernel
theorem xd_N_enter_60 : decode xb_N_enter 60 = .ok (.iconst (-1), 1) := by decide +kernel
theorem xd_N_enter_61 : decode xb_N_enter 61 = .ok (.if_icmp .ne 5, 3) := by decide +kernel
theorem xd_N_enter_64 : decode xb_N_enter 64 = .ok (.iconst 0, 1) := by decide +kernel
theorem xd_N_enter_65 : decode xb_N_enter 65 = .ok (.ireturn, 1) := by decide +kernel
theorem xd_N_enter_66 : decode xb_N_enter 66 = .ok (.iload_n 2, 1) := by decide +kernel
theorem xd_N_enter_67 : decode xb_N_enter 67 = .ok (.iconst 5, 1) := by decide +kernel
theorem xd_N_enter_68 : decode xb_N_enter 68 = .ok (.if_icmp .lt 10, 3) := by decide +kernel
theorem xd_N_enter_71 : decode xb_N_enter 71 = .ok (.aload_n 0, 1) := by decide +kernel
theorem xd_N_enter_72 : decode xb_N_enter 72 = .ok (.bipush (-9), 2) := by decide +kernel
theorem xd_N_enter_74 : decode xb_N_enter 74 = .ok (.invokevirtual 66, 3) := by decide +kernel
theorem xd_N_enter_77 : decode xb_N_enter 77 = .ok (.ireturn, 1) := by decide +kernel
theorem xd_N_enter_78 : decode xb_N_enter 78 = .ok (.aload_n 0, 1) := by decide +kernel
theorem xd_N_enter_79 : decode xb_N_enter 79 = .ok (.getfield 11, 3) := by decide +kernel
theorem xd_N_enter_82 : decode xb_N_enter 82 = .ok (.iload_n 2, 1) := by decide +kernel
theorem xd_N_enter_83 : decode xb_N_enter 83 = .ok (.iconst 1, 1) := by decide +kernel
theorem xd_N_enter_84 : decode xb_N_enter 84 = .ok (.iadd, 1) := by decide +kernel
theorem xd_N_enter_85 : decode xb_N_enter 85 = .ok (.aaload, 1) := by decide +kernel
theorem xd_N_enter_86 : decode xb_N_enter 86 = .ok (.iload 4, 2) := by decide +kernel
theorem xd_N_enter_88 : decode xb_N_enter 88 = .ok (.iload 5, 2) := by decide +kernel
theorem xd_N_enter_90 : decode xb_N_enter 90 = .ok (.iload 7, 2) := by decide +kernel
theorem xd_N_enter_92 : decode xb_N_enter 92 = .ok (.iload 8, 2) := by decide +kernel
theorem xd_N_enter_94 : decode xb_N_enter 94 = .ok (.invokevirtual 25, 3) := by decide +kernel
theorem xd_N_enter_97 : decode xb_N_enter 97 = .ok (.aload_n 0, 1) := by decide +kernel
theorem xd_N_enter_98 : decode xb_N_enter 98 = .ok (.aload_n 1, 1) := by decide +kernel
theorem xd_N_enter_99 : decode xb_N_enter 99 = .ok (.iload_n 2, 1) := by decide +kernel
theorem xd_N_enter_100 : decode xb_N_enter 100 = .ok (.iconst 1, 1) := by decide +kernel
theorem xd_N_enter_101 : decode xb_N_enter 101 = .ok (.iadd, 1) := by decide +kernel
theorem xd_N_enter_102 : decode xb_N_enter 102 = .ok (.iconst 0, 1) := by decide +kernel
theorem xd_N_enter_103 : decode xb_N_enter 103 = .ok (.invokevirtual 29, 3) := by decide +kernel
theorem xd_N_enter_106 : decode xb_N_enter 106 = .ok (.ireturn, 1) := by decide +kernel
theorem xd_N_combine_0 : decode xb_N_combine 0 = .ok (.aload_n 0, 1) := by decide +kernel
theorem xd_N_combine_1 : decode xb_N_combine 1 = .ok (.aload_n 1, 1) := by decide +kernel
theorem xd_N_combine_2 : decode xb_N_combine 2 = .ok (.iload_n 2, 1) := by decide +kernel
theorem xd_N_combine_3 : decode xb_N_combine 3 = .ok (.iload_n 3, 1) := by decide +kernel
theorem xd_N_combine_4 : decode xb_N_combine 4 = .ok (.iconst 1, 1) := by decide +kernel
theorem xd_N_combine_5 : decode xb_N_combine 5 = .ok (.iadd, 1) := by decide +kernel
theorem xd_N_combine_6 : decode xb_N_combine 6 = .ok (.invokevirtual 29, 3) := by decide +kernel
theorem xd_N_combine_9 : decode xb_N_combine 9 = .ok (.istore 5, 2) := by decide +kernel
theorem xd_N_combine_11 : decode xb_N_combine 11 = .ok (.aload_n 0, 1) := by decide +kernel
theorem xd_N_combine_12 : decode xb_N_combine 12 = .ok (.aload_n 1, 1) := by decide +kernel
theorem xd_N_combine_13 : decode xb_N_combine 13 = .ok (.iload_n 2, 1) := by decide +kernel
theorem xd_N_combine_14 : decode xb_N_combine 14 = .ok (.iload_n 3, 1) := by decide +kernel
theorem xd_N_combine_15 : decode xb_N_combine 15 = .ok (.iconst 1, 1) := by decide +kernel
theorem xd_N_combine_16 : decode xb_N_combine 16 = .ok (.iadd, 1) := by decide +kernel
theorem xd_N_combine_17 : decode xb_N_combine 17 = .ok (.invokevirtual 29, 3) := by decide +kernel
theorem xd_N_combine_20 : decode xb_N_combine 20 = .ok (.istore 6, 2) := by decide +kernel
theorem xd_N_combine_22 : decode xb_N_combine 22 = .ok (.aload_n 0, 1) := by decide +kernel
theorem xd_N_combine_23 : decode xb_N_combine 23 = .ok (.getfield 22, 3) := by decide +kernel
theorem xd_N_combine_26 : decode xb_N_combine 26 = .ok (.ifCond .eq 5, 3) := by decide +kernel
theorem xd_N_combine_29 : decode xb_N_combine 29 = .ok (.iconst 0, 1) := by decide +kernel
theorem xd_N_combine_30 : decode xb_N_combine 30 = .ok (.ireturn, 1) := by decide +kernel
theorem xd_N_combine_31 : decode xb_N_combine 31 = .ok (.iload 4, 2) := by decide +kernel
theorem xd_N_combine_33 : decode xb_N_combine 33 = .ok (.tableswitch 97 4 10 #[43, 49, 55, 61, 81, 97, 94], 43) := by decide +kernel
theorem xd_N_combine_76 : decode xb_N_combine 76 = .ok (.iload 5, 2) := by decide +kernel
theorem xd_N_combine_78 : decode xb_N_combine 78 = .ok (.iload 6, 2) := by decide +kernel
theorem xd_N_combine_80 : decode xb_N_combine 80 = .ok (.iadd, 1) := by decide +kernel
theorem xd_N_combine_81 : decode xb_N_combine 81 = .ok (.ireturn, 1) := by decide +kernel
theorem xd_N_combine_82 : decode xb_N_combine 82 = .ok (.iload 5, 2) := by decide +kernel
theorem xd_N_combine_84 : decode xb_N_combine 84 = .ok (.iload 6, 2) := by decide +kernel
theorem xd_N_combine_86 : decode xb_N_combine 86 = .ok (.isub, 1) := by decide +kernel
theorem xd_N_combine_87 : decode xb_N_combine 87 = .ok (.ireturn, 1) := by decide +kernel
theorem xd_N_combine_88 : decode xb_N_combine 88 = .ok (.iload 5, 2) := by decide +kernel
theorem xd_N_combine_90 : decode xb_N_combine 90 = .ok (.iload 6, 2) := by decide +kernel
theorem xd_N_combine_92 : decode xb_N_combine 92 = .ok (.imul, 1) := by decide +kernel
theorem xd_N_combine_93 : decode xb_N_combine 93 = .ok (.ireturn, 1) := by decide +kernel
theorem xd_N_combine_94 : decode xb_N_combine 94 = .ok (.iload 6, 2) := by decide +kernel
theorem xd_N_combine_96 : decode xb_N_combine 96 = .ok (.ifCond .ne 12, 3) := by decide +kernel
theorem xd_N_combine_99 : decode xb_N_combine 99 = .ok (.aload_n 0, 1) := by decide +kernel
theorem xd_N_combine_100 : decode xb_N_combine 100 = .ok (.bipush (-8), 2) := by decide +kernel
theorem xd_N_combine_102 : decode xb_N_combine 102 = .ok (.invokevirtual 66, 3) := by decide +kernel
theorem xd_N_combine_105 : decode xb_N_combine 105 = .ok (.goto 8, 3) := by decide +kernel
theorem xd_N_combine_108 : decode xb_N_combine 108 = .ok (.iload 5, 2) := by decide +kernel
theorem xd_N_combine_110 : decode xb_N_combine 110 = .ok (.iload 6, 2) := by decide +kernel
theorem xd_N_combine_112 : decode xb_N_combine 112 = .ok (.idiv, 1) := by decide +kernel
theorem xd_N_combine_113 : decode xb_N_combine 113 = .ok (.ireturn, 1) := by decide +kernel
theorem xd_N_combine_114 : decode xb_N_combine 114 = .ok (.iload 5, 2) := by decide +kernel
theorem xd_N_combine_116 : decode xb_N_combine 116 = .ok (.iload 6, 2) := by decide +kernel
theorem xd_N_combine_118 : decode xb_N_combine 118 = .ok (.if_icmp .ge 7, 3) := by decide +kernel
theorem xd_N_combine_121 : decode xb_N_combine 121 = .ok (.iconst 1, 1) := by decide +kernel
theorem xd_N_combine_122 : decode xb_N_combine 122 = .ok (.goto 4, 3) := by decide +kernel
theorem xd_N_combine_125 : decode xb_N_combine 125 = .ok (.iconst 0, 1) := by decide +kernel
theorem xd_N_combine_126 : decode xb_N_combine 126 = .ok (.ireturn, 1) := by decide +kernel
theorem xd_N_combine_127 : decode xb_N_combine 127 = .ok (.iload 6, 2) := by decide +kernel
theorem xd_N_combine_129 : decode xb_N_combine 129 = .ok (.ireturn, 1) := by decide +kernel
theorem xd_N_combine_130 : decode xb_N_combine 130 = .ok (.iconst 0, 1) := by decide +kernel
theorem xd_N_combine_131 : decode xb_N_combine 131 = .ok (.ireturn, 1) := by decide +kernel
theorem xd_N_work_0 : decode xb_N_work 0 = .ok (.aload_n 0, 1) := by decide +kernel
theorem xd_N_work_1 : decode xb_N_work 1 = .ok (.getfield 11, 3) := by decide +kernel
theorem xd_N_work_4 : decode xb_N_work 4 = .ok (.iload_n 2, 1) := by decide +kernel
theorem xd_N_work_5 : decode xb_N_work 5 = .ok (.aaload, 1) := by decide +kernel
theorem xd_N_work_6 : decode xb_N_work 6 = .ok (.astore 4, 2) := by decide +kernel
theorem xd_N_work_8 : decode xb_N_work 8 = .ok (.aload_n 1, 1) := by decide +kernel
theorem xd_N_work_9 : decode xb_N_work 9 = .ok (.getfield 33, 3) := by decide +kernel
theorem xd_N_work_12 : decode xb_N_work 12 = .ok (.aload 4, 2) := by decide +kernel
theorem xd_N_work_14 : decode xb_N_work 14 = .ok (.getfield 39, 3) := by decide +kernel
theorem xd_N_work_17 : decode xb_N_work 17 = .ok (.aaload, 1) := by decide +kernel
theorem xd_N_work_18 : decode xb_N_work 18 = .ok (.getfield 42, 3) := by decide +kernel
theorem xd_N_work_21 : decode xb_N_work 21 = .ok (.getfield 48, 3) := by decide +kernel
theorem xd_N_work_24 : decode xb_N_work 24 = .ok (.astore 5, 2) := by decide +kernel
theorem xd_N_work_26 : decode xb_N_work 26 = .ok (.aload_n 0, 1) := by decide +kernel
theorem xd_N_work_27 : decode xb_N_work 27 = .ok (.getfield 22, 3) := by decide +kernel
theorem xd_N_work_30 : decode xb_N_work 30 = .ok (.ifCond .ne 26, 3) := by decide +kernel
theorem xd_N_work_33 : decode xb_N_work 33 = .ok (.iload_n 3, 1) := by decide +kernel
theorem xd_N_work_34 : decode xb_N_work 34 = .ok (.iconst 4, 1) := by decide +kernel
theorem xd_N_work_35 : decode xb_N_work 35 = .ok (.if_icmp .gt 21, 3) := by decide +kernel
theorem xd_N_work_38 : decode xb_N_work 38 = .ok (.aload 4, 2) := by decide +kernel
theorem xd_N_work_40 : decode xb_N_work 40 = .ok (.getfield 54, 3) := by decide +kernel
theorem xd_N_work_43 : decode xb_N_work 43 = .ok (.aload 5, 2) := by decide +kernel
theorem xd_N_work_45 : decode xb_N_work 45 = .ok (.aload 4, 2) := by decide +kernel
theorem xd_N_work_47 : decode xb_N_work 47 = .ok (.getfield 57, 3) := by decide +kernel
theorem xd_N_work_50 : decode xb_N_work 50 = .ok (.invokevirtual 60, 3) := by decide +kernel
theorem xd_N_work_53 : decode xb_N_work 53 = .ok (.if_icmp .lt 5, 3) := by decide +kernel
theorem xd_N_work_56 : decode xb_N_work 56 = .ok (.iconst 0, 1) := by decide +kernel
theorem xd_N_work_57 : decode xb_N_work 57 = .ok (.ireturn, 1) := by decide +kernel
theorem xd_N_work_58 : decode xb_N_work 58 = .ok (.aload_n 0, 1) := by decide +kernel
theorem xd_N_work_59 : decode xb_N_work 59 = .ok (.getfield 18, 3) := by decide +kernel
theorem xd_N_work_62 : decode xb_N_work 62 = .ok (.bipush 120, 2) := by decide +kernel
theorem xd_N_work_64 : decode xb_N_work 64 = .ok (.if_icmp .lt 10, 3) := by decide +kernel
theorem xd_N_work_67 : decode xb_N_work 67 = .ok (.aload_n 0, 1) := by decide +kernel
theorem xd_N_work_68 : decode xb_N_work 68 = .ok (.bipush (-10), 2) := by decide +kernel
theorem xd_N_work_70 : decode xb_N_work 70 = .ok (.invokevirtual 66, 3) := by decide +kernel
theorem xd_N_work_73 : decode xb_N_work 73 = .ok (.ireturn, 1) := by decide +kernel
theorem xd_N_work_74 : decode xb_N_work 74 = .ok (.aload_n 0, 1) := by decide +kernel
theorem xd_N_work_75 : decode xb_N_work 75 = .ok (.dup, 1) := by decide +kernel
theorem xd_N_work_76 : decode xb_N_work 76 = .ok (.getfield 18, 3) := by decide +kernel
theorem xd_N_work_79 : decode xb_N_work 79 = .ok (.iconst 1, 1) := by decide +kernel
theorem xd_N_work_80 : decode xb_N_work 80 = .ok (.iadd, 1) := by decide +kernel
theorem xd_N_work_81 : decode xb_N_work 81 = .ok (.putfield 18, 3) := by decide +kernel
theorem xd_N_work_84 : decode xb_N_work 84 = .ok (.aload 5, 2) := by decide +kernel
theorem xd_N_work_86 : decode xb_N_work 86 = .ok (.aload 4, 2) := by decide +kernel
theorem xd_N_work_88 : decode xb_N_work 88 = .ok (.getfield 57, 3) := by decide +kernel
theorem xd_N_work_91 : decode xb_N_work 91 = .ok (.aload 4, 2) := by decide +kernel
theorem xd_N_work_93 : decode xb_N_work 93 = .ok (.getfield 54, 3) := by decide +kernel
theorem xd_N_work_96 : decode xb_N_work 96 = .ok (.invokevirtual 69, 3) := by decide +kernel
theorem xd_N_work_99 : decode xb_N_work 99 = .ok (.istore 6, 2) := by decide +kernel
theorem xd_N_work_101 : decode xb_N_work 101 = .ok (.aload 4, 2) := by decide +kernel
theorem xd_N_work_103 : decode xb_N_work 103 = .ok (.dup, 1) := by decide +kernel
theorem xd_N_work_104 : decode xb_N_work 104 = .ok (.getfield 54, 3) := by decide +kernel
theorem xd_N_work_107 : decode xb_N_work 107 = .ok (.iconst 1, 1) := by decide +kernel
theorem xd_N_work_108 : decode xb_N_work 108 = .ok (.iadd, 1) := by decide +kernel
theorem xd_N_work_109 : decode xb_N_work 109 = .ok (.putfield 54, 3) := by decide +kernel
theorem xd_N_work_112 : decode xb_N_work 112 = .ok (.aload 5, 2) := by decide +kernel
theorem xd_N_work_114 : decode xb_N_work 114 = .ok (.getfield 73, 3) := by decide +kernel
theorem xd_N_work_117 : decode xb_N_work 117 = .ok (.iload 6, 2) := by decide +kernel
theorem xd_N_work_119 : decode xb_N_work 119 = .ok (.iaload, 1) := by decide +kernel
theorem xd_N_work_120 : decode xb_N_work 120 = .ok (.istore 7, 2) := by decide +kernel
theorem xd_N_work_122 : decode xb_N_work 122 = .ok (.aload 5, 2) := by decide +kernel
theorem xd_N_work_124 : decode xb_N_work 124 = .ok (.getfield 77, 3) := by decide +kernel
theorem xd_N_work_127 : decode xb_N_work 127 = .ok (.iload 6, 2) := by decide +kernel
theorem xd_N_work_129 : decode xb_N_work 129 = .ok (.iaload, 1) := by decide +kernel
theorem xd_N_work_130 : decode xb_N_work 130 = .ok (.istore 8, 2) := by decide +kernel
theorem xd_N_work_132 : decode xb_N_work 132 = .ok (.aload 5, 2) := by decide +kernel
theorem xd_N_work_134 : decode xb_N_work 134 = .ok (.getfield 80, 3) := by decide +kernel
theorem xd_N_work_137 : decode xb_N_work 137 = .ok (.iload 6, 2) := by decide +kernel
theorem xd_N_work_139 : decode xb_N_work 139 = .ok (.iaload, 1) := by decide +kernel
theorem xd_N_work_140 : decode xb_N_work 140 = .ok (.tableswitch 125 0 11 #[64, 67, 86, 95, 125, 125, 125, 125, 125, 105, 125, 113], 64) := by decide +kernel
theorem xd_N_work_204 : decode xb_N_work 204 = .ok (.iload 7, 2) := by decide +kernel
theorem xd_N_work_206 : decode xb_N_work 206 = .ok (.ireturn, 1) := by decide +kernel
theorem xd_N_work_207 : decode xb_N_work 207 = .ok (.iload 7, 2) := by decide +kernel
theorem xd_N_work_209 : decode xb_N_work 209 = .ok (.ifCond .ne 11, 3) := by decide +kernel
theorem xd_N_work_212 : decode xb_N_work 212 = .ok (.aload 4, 2) := by decide +kernel
theorem xd_N_work_214 : decode xb_N_work 214 = .ok (.getfield 83, 3) := by decide +kernel
theorem xd_N_work_217 : decode xb_N_work 217 = .ok (.goto 8, 3) := by decide +kernel
theorem xd_N_work_220 : decode xb_N_work 220 = .ok (.aload 4, 2) := by decide +kernel
theorem xd_N_work_222 : decode xb_N_work 222 = .ok (.getfield 86, 3) := by decide +kernel
theorem xd_N_work_225 : decode xb_N_work 225 = .ok (.ireturn, 1) := by decide +kernel
theorem xd_N_work_226 : decode xb_N_work 226 = .ok (.aload_n 1, 1) := by decide +kernel
theorem xd_N_work_227 : decode xb_N_work 227 = .ok (.iload 7, 2) := by decide +kernel
theorem xd_N_work_229 : decode xb_N_work 229 = .ok (.iload 8, 2) := by decide +kernel
theorem xd_N_work_231 : decode xb_N_work 231 = .ok (.invokevirtual 89, 3) := by decide +kernel
theorem xd_N_work_234 : decode xb_N_work 234 = .ok (.ireturn, 1) := by decide +kernel
theorem xd_N_work_235 : decode xb_N_work 235 = .ok (.aload_n 0, 1) := by decide +kernel
theorem xd_N_work_236 : decode xb_N_work 236 = .ok (.aload_n 1, 1) := by decide +kernel
theorem xd_N_work_237 : decode xb_N_work 237 = .ok (.iload_n 2, 1) := by decide +kernel
theorem xd_N_work_238 : decode xb_N_work 238 = .ok (.iload_n 3, 1) := by decide +kernel
theorem xd_N_work_239 : decode xb_N_work 239 = .ok (.iload 8, 2) := by decide +kernel
theorem xd_N_work_241 : decode xb_N_work 241 = .ok (.invokevirtual 92, 3) := by decide +kernel
theorem xd_N_work_244 : decode xb_N_work 244 = .ok (.ireturn, 1) := by decide +kernel
theorem xd_N_work_245 : decode xb_N_work 245 = .ok (.aload_n 0, 1) := by decide +kernel
theorem xd_N_work_246 : decode xb_N_work 246 = .ok (.aload_n 1, 1) := by decide +kernel
theorem xd_N_work_247 : decode xb_N_work 247 = .ok (.iload_n 2, 1) := by decide +kernel
theorem xd_N_work_248 : decode xb_N_work 248 = .ok (.iload_n 3, 1) := by decide +kernel
theorem xd_N_work_249 : decode xb_N_work 249 = .ok (.invokevirtual 96, 3) := by decide +kernel
theorem xd_N_work_252 : decode xb_N_work 252 = .ok (.ireturn, 1) := by decide +kernel
theorem xd_N_work_253 : decode xb_N_work 253 = .ok (.aload_n 0, 1) := by decide +kernel
theorem xd_N_work_254 : decode xb_N_work 254 = .ok (.aload_n 1, 1) := by decide +kernel
theorem xd_N_work_255 : decode xb_N_work 255 = .ok (.iload_n 2, 1) := by decide +kernel
theorem xd_N_work_256 : decode xb_N_work 256 = .ok (.iload_n 3, 1) := by decide +kernel
theorem xd_N_work_257 : decode xb_N_work 257 = .ok (.iload 7, 2) := by decide +kernel
theorem xd_N_work_259 : decode xb_N_work 259 = .ok (.iload 8, 2) := by decide +kernel
theorem xd_N_work_261 : decode xb_N_work 261 = .ok (.invokevirtual 99, 3) := by decide +kernel
theorem xd_N_work_264 : decode xb_N_work 264 = .ok (.ireturn, 1) := by decide +kernel
theorem xd_N_work_265 : decode xb_N_work 265 = .ok (.aload_n 0, 1) := by decide +kernel
theorem xd_N_work_266 : decode xb_N_work 266 = .ok (.aload_n 1, 1) := by decide +kernel
theorem xd_N_work_267 : decode xb_N_work 267 = .ok (.iload_n 2, 1) := by decide +kernel
theorem xd_N_work_268 : decode xb_N_work 268 = .ok (.iload_n 3, 1) := by decide +kernel
theorem xd_N_work_269 : decode xb_N_work 269 = .ok (.aload 5, 2) := by decide +kernel
theorem xd_N_work_271 : decode xb_N_work 271 = .ok (.getfield 80, 3) := by decide +kernel
theorem xd_N_work_274 : decode xb_N_work 274 = .ok (.iload 6, 2) := by decide +kernel
theorem xd_N_work_276 : decode xb_N_work 276 = .ok (.iaload, 1) := by decide +kernel
theorem xd_N_work_277 : decode xb_N_work 277 = .ok (.invokevirtual 103, 3) := by decide +kernel
theorem xd_N_work_280 : decode xb_N_work 280 = .ok (.ireturn, 1) := by decide +kernel
theorem xd_N_start_0 : decode xb_N_start 0 = .ok (.aload_n 0, 1) := by decide +kernel
theorem xd_N_start_1 : decode xb_N_start 1 = .ok (.iconst 0, 1) := by decide +kernel
theorem xd_N_start_2 : decode xb_N_start 2 = .ok (.putfield 18, 3) := by decide +kernel
theorem xd_N_start_5 : decode xb_N_start 5 = .ok (.aload_n 0, 1) := by decide +kernel
theorem xd_N_start_6 : decode xb_N_start 6 = .ok (.iconst 0, 1) := by decide +kernel
theorem xd_N_start_7 : decode xb_N_start 7 = .ok (.putfield 22, 3) := by decide +kernel
theorem xd_N_start_10 : decode xb_N_start 10 = .ok (.aload_n 0, 1) := by decide +kernel
theorem xd_N_start_11 : decode xb_N_start 11 = .ok (.getfield 11, 3) := by decide +kernel
theorem xd_N_start_14 : decode xb_N_start 14 = .ok (.iconst 0, 1) := by decide +kernel
theorem xd_N_start_15 : decode xb_N_start 15 = .ok (.aaload, 1) := by decide +kernel
theorem xd_N_start_16 : decode xb_N_start 16 = .ok (.iload_n 2, 1) := by decide +kernel
theorem xd_N_start_17 : decode xb_N_start 17 = .ok (.iload_n 3, 1) := by decide +kernel
theorem xd_N_start_18 : decode xb_N_start 18 = .ok (.iload 4, 2) := by decide +kernel
theorem xd_N_start_20 : decode xb_N_start 20 = .ok (.iload 5, 2) := by decide +kernel
theorem xd_N_start_22 : decode xb_N_start 22 = .ok (.invokevirtual 25, 3) := by decide +kernel
theorem xd_N_start_25 : decode xb_N_start 25 = .ok (.aload_n 0, 1) := by decide +kernel
theorem xd_N_start_26 : decode xb_N_start 26 = .ok (.aload_n 1, 1) := by decide +kernel
theorem xd_N_start_27 : decode xb_N_start 27 = .ok (.iconst 0, 1) := by decide +kernel
theorem xd_N_start_28 : decode xb_N_start 28 = .ok (.iconst 0, 1) := by decide +kernel
theorem xd_N_start_29 : decode xb_N_start 29 = .ok (.invokevirtual 29, 3) := by decide +kernel
theorem xd_N_start_32 : decode xb_N_start 32 = .ok (.ireturn, 1) := by decide +kernel
section
variable {l : Launch} {D : va_G} {ad : Nat → Nat} {ids : Nat → ClassId} {ps : Nat}
def xm_N_fail (σ : aw_m) (k0 : Nat) (a1 : Int32) : Option (Int32 × aw_m) := aw_l (aw_p σ k0 2 a1) fun s_2 => some ((0 : Int32), s_2)
set_option maxHeartbeats 4000000 in
set_option maxRecDepth 100000 in
theorem xc_N_fail (σ : aw_m) (k0 : Nat) (a1 : Int32) (q : Int32 × aw_m) (hk0 : kd_k k0 = 12) (hm : xm_N_fail σ k0 a1 = some q) : aw_M l D (ty_z ids) (zs_T ps) xy_N_fail (xw_N_fail :: gw_l) (rm_D (0)) [.ref (ad k0), .int a1] (cw_w ad ids σ) (some (.int q.1)) (cw_w ad ids q.2) := by
  refine aw_intro (cc := xb_N_fail) (n := 2) (ret := (some .int)) "ModuleShelf$Machine" rfl (by decide) rfl (Nat.le_of_ble_eq_true rfl) ?_
  intro κ C
  unfold xm_N_fail at hm
  refine aw_aload_n C 0 xd_N_fail_0 rfl rfl ?_
  refine aw_iload_n C 1 xd_N_fail_1 rfl rfl ?_
  obtain ⟨s_2, h_2, hm⟩ := aw_let hm
  refine aw_put (σ1 := s_2) (f := upd (σ k0) 2 a1) C k0 (kd_lt hk0) (ly_N hk0) rfl (fun w h => List.mem_cons_of_mem _ (xi_N w h)) xk_N xo_N xn_N 2 (by decide) (List.mem_cons_of_mem _ fl_N_22) rfl (ty := .int) (by decide +kernel) rfl rfl (Nat.le_of_ble_eq_true rfl) (ly_N hk0) h_2 xd_N_fail_2 ?_
  refine aw_iconst (v := (0 : Int32)) C xd_N_fail_5 (by decide) ?_
  cases hm
  exact aw_iret C xd_N_fail_6
def xm_N_partsOf (σ : aw_m) (k0 : Nat) (k1 : Nat) (k2 : Nat) (a3 : Int32) : Option Int32 := if aw_in a3 42 = true then (if σ (k2 + 3) (Int32.toNatClampNeg a3) = (11 : Int32) then if aw_in a3 42 = true then if aw_in a3 42 = true then (xm_M_argumentsOf σ k1 (σ (k2 + 4) (Int32.toNatClampNeg a3)) (σ (k2 + 5) (Int32.toNatClampNeg a3))).bind fun q_36 => some (aw_max (0 : Int32) q_36) else none else none else if aw_in (σ (k2 + 3) (Int32.toNatClampNeg a3)) 12 = true then some (zp_parts (Int32.toNatClampNeg (σ (k2 + 3) (Int32.toNatClampNeg a3)))) else none) else none
set_option maxHeartbeats 4000000 in
set_option maxRecDepth 100000 in
theorem xc_N_partsOf (σ : aw_m) (k0 : Nat) (k1 : Nat) (k2 : Nat) (a3 : Int32) (q : Int32) (hk0 : kd_k k0 = 12) (hk1 : kd_k k1 = 8) (hk2 : kd_k k2 = 1) (hm : xm_N_partsOf σ k0 k1 k2 a3 = some q) : aw_M l D (ty_z ids) (zs_T ps) xy_N_partsOf (xw_N_partsOf :: gw_l) (rm_D (3)) [.ref (ad k0), .ref (ad k1), .ref (ad k2), .int a3] (cw_w ad ids σ) (some (.int q)) (cw_w ad ids σ) := by
  refine aw_intro (cc := xb_N_partsOf) (n := 5) (ret := (some .int)) "ModuleShelf$Machine" rfl (by decide) rfl (Nat.le_of_ble_eq_true rfl) ?_
  intro κ C
  unfold xm_N_partsOf at hm
  refine aw_aload_n C 2 xd_N_partsOf_0 rfl rfl ?_
  refine aw_get C k2 (kd_lt hk2) (ly_C hk2) rfl (fun w h => List.mem_cons_of_mem _ (xi_C w h)) 4 (by decide) rfl (List.mem_cons_of_mem _ fl_N_80) xd_N_partsOf_1 ?_
  refine aw_iload_n C 3 xd_N_partsOf_4 rfl rfl ?_
  obtain ⟨g_5, hm⟩ := aw_grd hm
  refine aw_iald C (k2 + 3) (kd_lt (kf_C_ops hk2)) 0 (ly_A42 (kf_C_ops hk2)) rfl (aw_in_ok g_5) xd_N_partsOf_5 ?_
  refine aw_istore (L' := [(4, .int (σ (k2 + 3) (Int32.toNatClampNeg a3))), (0, .ref (ad k0)), (1, .ref (ad k1)), (2, .ref (ad k2)), (3, .int a3)]) C xd_N_partsOf_6 (by decide) rfl ?_
  refine aw_iload C 0 xd_N_partsOf_8 rfl ?_
  refine aw_bipush (v := (11 : Int32)) C xd_N_partsOf_10 (by decide) ?_
  refine aw_icmp_eq (tgt := 22) C xd_N_partsOf_12 (by decide) (fun c_12 => ?_) (fun c_12 => ?_)
  · rw [if_pos c_12] at hm
    refine aw_iconst (v := (0 : Int32)) C xd_N_partsOf_22 (by decide) ?_
    refine aw_aload_n C 2 xd_N_partsOf_23 rfl rfl ?_
    refine aw_aload_n C 3 xd_N_partsOf_24 rfl rfl ?_
    refine aw_get C k2 (kd_lt hk2) (ly_C hk2) rfl (fun w h => List.mem_cons_of_mem _ (xi_C w h)) 5 (by decide) rfl (List.mem_cons_of_mem _ fl_N_73) xd_N_partsOf_25 ?_
    refine aw_iload_n C 4 xd_N_partsOf_28 rfl rfl ?_
    obtain ⟨g_29, hm⟩ := aw_grd hm
    refine aw_iald C (k2 + 4) (kd_lt (kf_C_as hk2)) 0 (ly_A42 (kf_C_as hk2)) rfl (aw_in_ok g_29) xd_N_partsOf_29 ?_
    refine aw_aload_n C 3 xd_N_partsOf_30 rfl rfl ?_
    refine aw_get C k2 (kd_lt hk2) (ly_C hk2) rfl (fun w h => List.mem_cons_of_mem _ (xi_C w h)) 6 (by decide) rfl (List.mem_cons_of_mem _ fl_N_77) xd_N_partsOf_31 ?_
    refine aw_iload_n C 4 xd_N_partsOf_34 rfl rfl ?_
    obtain ⟨g_35, hm⟩ := aw_grd hm
    refine aw_iald C (k2 + 5) (kd_lt (kf_C_bs hk2)) 0 (ly_A42 (kf_C_bs hk2)) rfl (aw_in_ok g_35) xd_N_partsOf_35 ?_
    obtain ⟨q_36, e_36, hm⟩ := aw_bnd hm
    refine aw_callVi (As := [.int (σ (k2 + 4) (Int32.toNatClampNeg a3)), .int (σ (k2 + 5) (Int32.toNatClampNeg a3))]) (rest := [.int (0 : Int32)]) (b := ad k1) C (xc_M_argumentsOf σ k1 (σ (k2 + 4) (Int32.toNatClampNeg a3)) (σ (k2 + 5) (Int32.toNatClampNeg a3)) _ hk1 e_36) rfl (gw_sub (gw_V xg_M_argumentsOf ml_N_114 im_M_argumentsOf se_M_argumentsOf wi_M)) na_M_argumentsOf (rm_lt (by decide) (by decide)) ⟨Nat.zero_le _, Nat.zero_le _⟩ k1 (at_M hk1) rfl rfl (Nat.le_of_ble_eq_true rfl) xd_N_partsOf_36 ?_
    refine aw_mmax C (List.mem_cons_of_mem _ ml_N_124) (List.mem_cons_of_mem _ ws_max) (List.mem_cons_of_mem _ wi_math) (List.mem_cons_of_mem _ wc_max) (by decide) (by decide) ⟨Nat.zero_le _, Nat.zero_le _⟩ xd_N_partsOf_39 ?_
    cases hm
    exact aw_iret C xd_N_partsOf_42
  · rw [if_neg c_12] at hm
    refine aw_getsN C (z := (("ModuleShelf", "PARTS"), ps, 12, zp_parts)) List.mem_cons_self (List.mem_of_getElem? (i := 9) rfl) xd_N_partsOf_15 ?_
    refine aw_iload C 0 xd_N_partsOf_18 rfl ?_
    obtain ⟨g_20, hm⟩ := aw_grd hm
    refine aw_sald C (z := (("ModuleShelf", "PARTS"), ps, 12, zp_parts)) List.mem_cons_self (aw_in_ok g_20) xd_N_partsOf_20 ?_
    cases hm
    exact aw_iret C xd_N_partsOf_21
def xq_N_skip_29  : Nat → aw_m → Nat → Nat → Nat → Nat → Int32 → Int32 → Option aw_m
  | 0, _, _, _, _, _, _, _ => none
  | n + 1, σ, j0, j1, j2, j3, v4, v5 => (if v5 ≤ 0 then some σ else (if v4 ≤ σ j2 4 then some σ else (xm_C_cellOf σ j3 (σ j2 1) (σ j2 4)).bind fun q_57 => (xm_N_partsOf σ j0 j1 j3 q_57).bind fun q_60 => aw_l (aw_p σ j2 4 ((σ j2 4) + (1 : Int32))) fun s_75 => xq_N_skip_29 n s_75 j0 j1 j2 j3 v4 (v5 + (q_60 - (1 : Int32)))))
def xm_N_skip (σ : aw_m) (k0 : Nat) (k1 : Nat) (k2 : Nat) : Option aw_m := if aw_in (σ k2 0) 6 = true then (xm_C_lengthOf σ (((k1 + 1 + 2 + 11 * (Int32.toNatClampNeg (σ k2 0))) + 1) + 3) (σ k2 1)).bind fun q_21 => xq_N_skip_29 64 σ k0 k1 k2 (((k1 + 1 + 2 + 11 * (Int32.toNatClampNeg (σ k2 0))) + 1) + 3) q_21 (1 : Int32) else none
set_option maxHeartbeats 4000000 in
set_option maxRecDepth 100000 in
theorem xl_N_skip_29  {κ : aw_K} (q : aw_m) (C : aw_X l D (ty_z ids) (zs_T ps) (rm_D (4)) xb_N_skip 6 "ModuleShelf$Machine" (xw_N_skip :: gw_l) none none (cw_w ad ids q) κ) : ∀ (n : Nat) (σ : aw_m) (j0 : Nat) (j1 : Nat) (j2 : Nat) (j3 : Nat) (v4 : Int32) (v5 : Int32) (hj0 : kd_k j0 = 12) (hj1 : kd_k j1 = 8) (hj2 : kd_k j2 = 14) (hj3 : kd_k j3 = 1), xq_N_skip_29 n σ j0 j1 j2 j3 v4 v5 = some q → aw_J κ 0 0 (cw_w ad ids σ) [(0, .ref (ad j0)), (1, .ref (ad j1)), (2, .ref (ad j2)), (3, .ref (ad j3)), (4, .int v4), (5, .int v5)] 29 [] := by
  intro n
  induction n with
  | zero => intro σ j0 j1 j2 j3 v4 v5 hj0 hj1 hj2 hj3 hm; cases hm
  | succ n ih =>
    intro σ j0 j1 j2 j3 v4 v5 hj0 hj1 hj2 hj3 hm
    rw [xq_N_skip_29] at hm
    refine aw_iload C 5 xd_N_skip_29 rfl ?_
    refine aw_if_le (tgt := 81) C xd_N_skip_31 (by decide) (fun c_31 => ?_) (fun c_31 => ?_)
    · rw [if_pos c_31] at hm
      cases hm
      exact aw_vret C xd_N_skip_81
    · rw [if_neg c_31] at hm
      refine aw_aload_n C 2 xd_N_skip_34 rfl rfl ?_
      refine aw_get C j2 (kd_lt hj2) (ly_F hj2) rfl (fun w h => List.mem_cons_of_mem _ (xi_F w h)) 4 (by decide) rfl (List.mem_cons_of_mem _ fl_N_54) xd_N_skip_35 ?_
      refine aw_iload C 4 xd_N_skip_38 rfl ?_
      refine aw_icmp_ge (tgt := 81) C xd_N_skip_40 (by decide) (fun c_40 => ?_) (fun c_40 => ?_)
      · rw [if_pos c_40] at hm
        cases hm
        exact aw_vret C xd_N_skip_81
      · rw [if_neg c_40] at hm
        refine aw_iload C 5 xd_N_skip_43 rfl ?_
        refine aw_aload_n C 0 xd_N_skip_45 rfl rfl ?_
        refine aw_aload_n C 1 xd_N_skip_46 rfl rfl ?_
        refine aw_aload_n C 3 xd_N_skip_47 rfl rfl ?_
        refine aw_aload_n C 3 xd_N_skip_48 rfl rfl ?_
        refine aw_aload_n C 2 xd_N_skip_49 rfl rfl ?_
        refine aw_get C j2 (kd_lt hj2) (ly_F hj2) rfl (fun w h => List.mem_cons_of_mem _ (xi_F w h)) 1 (by decide) rfl (List.mem_cons_of_mem _ fl_N_57) xd_N_skip_50 ?_
        refine aw_aload_n C 2 xd_N_skip_53 rfl rfl ?_
        refine aw_get C j2 (kd_lt hj2) (ly_F hj2) rfl (fun w h => List.mem_cons_of_mem _ (xi_F w h)) 4 (by decide) rfl (List.mem_cons_of_mem _ fl_N_54) xd_N_skip_54 ?_
        obtain ⟨q_57, e_57, hm⟩ := aw_bnd hm
        refine aw_callVi (As := [.int (σ j2 1), .int (σ j2 4)]) (rest := [.ref (ad j3), .ref (ad j1), .ref (ad j0), .int v5]) (b := ad j3) C (xc_C_cellOf σ j3 (σ j2 1) (σ j2 4) _ hj3 e_57) rfl (gw_sub (gw_V xg_C_cellOf ml_N_69 im_C_cellOf se_C_cellOf wi_C)) na_C_cellOf (rm_lt (by decide) (by decide)) ⟨Nat.zero_le _, Nat.zero_le _⟩ j3 (at_C hj3) rfl rfl (Nat.le_of_ble_eq_true rfl) xd_N_skip_57 ?_
        obtain ⟨q_60, e_60, hm⟩ := aw_bnd hm
        refine aw_callVi (As := [.ref (ad j1), .ref (ad j3), .int q_57]) (rest := [.int v5]) (b := ad j0) C (xc_N_partsOf σ j0 j1 j3 q_57 _ hj0 hj1 hj3 e_60) rfl (gw_sub (gw_V xg_N_partsOf ml_N_117 im_N_partsOf se_N_partsOf wi_N)) na_N_partsOf (rm_lt (by decide) (by decide)) ⟨Nat.zero_le _, Nat.zero_le _⟩ j0 (at_N hj0) rfl rfl (Nat.le_of_ble_eq_true rfl) xd_N_skip_60 ?_
        refine aw_iconst (v := (1 : Int32)) C xd_N_skip_63 (by decide) ?_
        refine aw_isub C xd_N_skip_64 ?_
        refine aw_iadd C xd_N_skip_65 ?_
        refine aw_istore (L' := [(5, .int (v5 + (q_60 - (1 : Int32)))), (0, .ref (ad j0)), (1, .ref (ad j1)), (2, .ref (ad j2)), (3, .ref (ad j3)), (4, .int v4)]) C xd_N_skip_66 (by decide) rfl ?_
        refine aw_aload_n C 3 xd_N_skip_68 rfl rfl ?_
        refine aw_dup C xd_N_skip_69 rfl ?_
        refine aw_get C j2 (kd_lt hj2) (ly_F hj2) rfl (fun w h => List.mem_cons_of_mem _ (xi_F w h)) 4 (by decide) rfl (List.mem_cons_of_mem _ fl_N_54) xd_N_skip_70 ?_
        refine aw_iconst (v := (1 : Int32)) C xd_N_skip_73 (by decide) ?_
        refine aw_iadd C xd_N_skip_74 ?_
        obtain ⟨s_75, h_75, hm⟩ := aw_let hm
        refine aw_put (σ1 := s_75) (f := upd (σ j2) 4 ((σ j2 4) + (1 : Int32))) C j2 (kd_lt hj2) (ly_F hj2) rfl (fun w h => List.mem_cons_of_mem _ (xi_F w h)) xk_F xo_F xn_F 4 (by decide) (List.mem_cons_of_mem _ fl_N_54) rfl (ty := .int) (by decide +kernel) rfl rfl (Nat.le_of_ble_eq_true rfl) (ly_F hj2) h_75 xd_N_skip_75 ?_
        refine aw_goto (tgt := 29) C xd_N_skip_78 (by decide) ?_
        refine aw_loc (L' := [(0, .ref (ad j0)), (1, .ref (ad j1)), (2, .ref (ad j2)), (3, .ref (ad j3)), (4, .int v4), (5, .int (v5 + (q_60 - (1 : Int32))))]) C [1, 2, 3, 4, 5, 0] rfl ?_
        exact ih s_75 j0 j1 j2 j3 v4 (v5 + (q_60 - (1 : Int32))) hj0 hj1 hj2 hj3 hm
set_option maxHeartbeats 4000000 in
set_option maxRecDepth 100000 in
theorem xc_N_skip (σ : aw_m) (k0 : Nat) (k1 : Nat) (k2 : Nat) (q : aw_m) (hk0 : kd_k k0 = 12) (hk1 : kd_k k1 = 8) (hk2 : kd_k k2 = 14) (hm : xm_N_skip σ k0 k1 k2 = some q) : aw_M l D (ty_z ids) (zs_T ps) xy_N_skip (xw_N_skip :: gw_l) (rm_D (4)) [.ref (ad k0), .ref (ad k1), .ref (ad k2)] (cw_w ad ids σ) none (cw_w ad ids q) := by
  refine aw_intro (cc := xb_N_skip) (n := 6) (ret := none) "ModuleShelf$Machine" rfl (by decide) rfl (Nat.le_of_ble_eq_true rfl) ?_
  intro κ C
  unfold xm_N_skip at hm
  refine aw_aload_n C 1 xd_N_skip_0 rfl rfl ?_
  refine aw_get C k1 (kd_lt hk1) (ly_M hk1) rfl (fun w h => List.mem_cons_of_mem _ (xi_M w h)) 0 (by decide) rfl (List.mem_cons_of_mem _ fl_N_33) xd_N_skip_1 ?_
  refine aw_aload_n C 2 xd_N_skip_4 rfl rfl ?_
  refine aw_get C k2 (kd_lt hk2) (ly_F hk2) rfl (fun w h => List.mem_cons_of_mem _ (xi_F w h)) 0 (by decide) rfl (List.mem_cons_of_mem _ fl_N_39) xd_N_skip_5 ?_
  obtain ⟨g_8, hm⟩ := aw_grd hm
  refine aw_aald C (k1 + 1) (kd_lt (kf_M_images hk1)) 3 (ly_I6 (kf_M_images hk1)) rfl (aw_in_ok g_8) rfl xd_N_skip_8 ?_
  refine aw_get C (k1 + 1 + 2 + 11 * (Int32.toNatClampNeg (σ k2 0))) (kd_lt (ka_I6 (kf_M_images hk1) (aw_in_lt g_8))) (ly_I (ka_I6 (kf_M_images hk1) (aw_in_lt g_8))) rfl (fun w h => List.mem_cons_of_mem _ (xi_I w h)) 0 (by decide) rfl (List.mem_cons_of_mem _ fl_N_42) xd_N_skip_9 ?_
  refine aw_get C ((k1 + 1 + 2 + 11 * (Int32.toNatClampNeg (σ k2 0))) + 1) (kd_lt (kf_I_unit (ka_I6 (kf_M_images hk1) (aw_in_lt g_8)))) (ly_U (kf_I_unit (ka_I6 (kf_M_images hk1) (aw_in_lt g_8)))) rfl (fun w h => List.mem_cons_of_mem _ (xi_U w h)) 5 (by decide) rfl (List.mem_cons_of_mem _ fl_N_48) xd_N_skip_12 ?_
  refine aw_astore_n (L' := [(3, .ref (ad (((k1 + 1 + 2 + 11 * (Int32.toNatClampNeg (σ k2 0))) + 1) + 3))), (0, .ref (ad k0)), (1, .ref (ad k1)), (2, .ref (ad k2))]) C xd_N_skip_15 rfl (by decide) rfl ?_
  refine aw_aload_n C 0 xd_N_skip_16 rfl rfl ?_
  refine aw_aload_n C 3 xd_N_skip_17 rfl rfl ?_
  refine aw_get C k2 (kd_lt hk2) (ly_F hk2) rfl (fun w h => List.mem_cons_of_mem _ (xi_F w h)) 1 (by decide) rfl (List.mem_cons_of_mem _ fl_N_57) xd_N_skip_18 ?_
  obtain ⟨q_21, e_21, hm⟩ := aw_bnd hm
  refine aw_callVi (As := [.int (σ k2 1)]) (rest := []) (b := ad (((k1 + 1 + 2 + 11 * (Int32.toNatClampNeg (σ k2 0))) + 1) + 3)) C (xc_C_lengthOf σ (((k1 + 1 + 2 + 11 * (Int32.toNatClampNeg (σ k2 0))) + 1) + 3) (σ k2 1) _ (kf_U_code (kf_I_unit (ka_I6 (kf_M_images hk1) (aw_in_lt g_8)))) e_21) rfl (gw_sub (gw_V xg_C_lengthOf ml_N_60 im_C_lengthOf se_C_lengthOf wi_C)) na_C_lengthOf (rm_lt (by decide) (by decide)) ⟨Nat.zero_le _, Nat.zero_le _⟩ (((k1 + 1 + 2 + 11 * (Int32.toNatClampNeg (σ k2 0))) + 1) + 3) (at_C (kf_U_code (kf_I_unit (ka_I6 (kf_M_images hk1) (aw_in_lt g_8))))) rfl rfl (Nat.le_of_ble_eq_true rfl) xd_N_skip_21 ?_
  refine aw_istore (L' := [(4, .int q_21), (3, .ref (ad (((k1 + 1 + 2 + 11 * (Int32.toNatClampNeg (σ k2 0))) + 1) + 3))), (0, .ref (ad k0)), (1, .ref (ad k1)), (2, .ref (ad k2))]) C xd_N_skip_24 (by decide) rfl ?_
  refine aw_iconst (v := (1 : Int32)) C xd_N_skip_26 (by decide) ?_
  refine aw_istore (L' := [(5, .int (1 : Int32)), (4, .int q_21), (3, .ref (ad (((k1 + 1 + 2 + 11 * (Int32.toNatClampNeg (σ k2 0))) + 1) + 3))), (0, .ref (ad k0)), (1, .ref (ad k1)), (2, .ref (ad k2))]) C xd_N_skip_27 (by decide) rfl ?_
  refine aw_loc (L' := [(0, .ref (ad k0)), (1, .ref (ad k1)), (2, .ref (ad k2)), (3, .ref (ad (((k1 + 1 + 2 + 11 * (Int32.toNatClampNeg (σ k2 0))) + 1) + 3))), (4, .int q_21), (5, .int (1 : Int32))]) C [3, 4, 5, 2, 1, 0] rfl ?_
  exact xl_N_skip_29 _ C 64 σ k0 k1 k2 (((k1 + 1 + 2 + 11 * (Int32.toNatClampNeg (σ k2 0))) + 1) + 3) q_21 (1 : Int32) hk0 hk1 hk2 (kf_U_code (kf_I_unit (ka_I6 (kf_M_images hk1) (aw_in_lt g_8)))) hm
def xm_N_assign (W : aw_m → Nat → Nat → Int32 → Int32 → Option (Int32 × aw_m)) (σ : aw_m) (k0 : Nat) (k1 : Nat) (a2 : Int32) (a3 : Int32) (a4 : Int32) : Option (Int32 × aw_m) := (W σ k0 k1 a2 (a3 + (1 : Int32))).bind fun q_6 => (if q_6.2 k0 2 = 0 then if aw_in a2 6 = true then (xm_M_setValue q_6.2 k1 (q_6.2 (k0 + 1 + 1 + (Int32.toNatClampNeg a2)) 0) a4 q_6.1).bind fun q_32 => some (q_6.1, q_32) else none else some (q_6.1, q_6.2))
set_option maxHeartbeats 4000000 in
set_option maxRecDepth 100000 in
theorem xc_N_assign (W : aw_m → Nat → Nat → Int32 → Int32 → Option (Int32 × aw_m)) (dw : Nat) (hW : ∀ (σ : aw_m) (k0 : Nat) (k1 : Nat) (a2 : Int32) (a3 : Int32) (q : Int32 × aw_m) (hk0 : kd_k k0 = 12) (hk1 : kd_k k1 = 8), W σ k0 k1 a2 a3 = some q → aw_M l D (ty_z ids) (zs_T ps) xy_N_work (xw_N_work :: gw_l) (rm_D (dw)) [.ref (ad k0), .ref (ad k1), .int a2, .int a3] (cw_w ad ids σ) (some (.int q.1)) (cw_w ad ids q.2)) (σ : aw_m) (k0 : Nat) (k1 : Nat) (a2 : Int32) (a3 : Int32) (a4 : Int32) (q : Int32 × aw_m) (hk0 : kd_k k0 = 12) (hk1 : kd_k k1 = 8) (hm : xm_N_assign W σ k0 k1 a2 a3 a4 = some q) : aw_M l D (ty_z ids) (zs_T ps) xy_N_assign (xw_N_assign :: gw_l) (rm_D (dw + 3)) [.ref (ad k0), .ref (ad k1), .int a2, .int a3, .int a4] (cw_w ad ids σ) (some (.int q.1)) (cw_w ad ids q.2) := by
  refine aw_intro (cc := xb_N_assign) (n := 6) (ret := (some .int)) "ModuleShelf$Machine" rfl (by decide) rfl (Nat.le_of_ble_eq_true rfl) ?_
  intro κ C
  unfold xm_N_assign at hm
  refine aw_aload_n C 0 xd_N_assign_0 rfl rfl ?_
  refine aw_aload_n C 1 xd_N_assign_1 rfl rfl ?_
  refine aw_iload_n C 2 xd_N_assign_2 rfl rfl ?_
  refine aw_iload_n C 3 xd_N_assign_3 rfl rfl ?_
  refine aw_iconst (v := (1 : Int32)) C xd_N_assign_4 (by decide) ?_
  refine aw_iadd C xd_N_assign_5 ?_
  obtain ⟨q_6, e_6, hm⟩ := aw_bnd hm
  refine aw_callVi (As := [.ref (ad k1), .int a2, .int (a3 + (1 : Int32))]) (rest := []) (b := ad k0) C (hW σ k0 k1 a2 (a3 + (1 : Int32)) _ hk0 hk1 e_6) rfl (gw_sub (gw_V xg_N_work ml_N_29 im_N_work se_N_work wi_N)) na_N_work (rm_lt (by omega) (by decide)) ⟨Nat.zero_le _, Nat.zero_le _⟩ k0 (at_N hk0) rfl rfl (Nat.le_of_ble_eq_true rfl) xd_N_assign_6 ?_
  refine aw_istore (L' := [(5, .int q_6.1), (0, .ref (ad k0)), (1, .ref (ad k1)), (2, .int a2), (3, .int a3), (4, .int a4)]) C xd_N_assign_9 (by decide) rfl ?_
  refine aw_aload_n C 1 xd_N_assign_11 rfl rfl ?_
  refine aw_get C k0 (kd_lt hk0) (ly_N hk0) rfl (fun w h => List.mem_cons_of_mem _ (xi_N w h)) 2 (by decide) rfl (List.mem_cons_of_mem _ fl_N_22) xd_N_assign_12 ?_
  refine aw_if_ne (tgt := 35) C xd_N_assign_15 (by decide) (fun c_15 => ?_) (fun c_15 => ?_)
  · rw [if_neg c_15] at hm
    refine aw_iload C 0 xd_N_assign_35 rfl ?_
    cases hm
    exact aw_iret C xd_N_assign_37
  · rw [if_pos c_15] at hm
    refine aw_aload_n C 2 xd_N_assign_18 rfl rfl ?_
    refine aw_aload_n C 1 xd_N_assign_19 rfl rfl ?_
    refine aw_get C k0 (kd_lt hk0) (ly_N hk0) rfl (fun w h => List.mem_cons_of_mem _ (xi_N w h)) 0 (by decide) rfl (List.mem_cons_of_mem _ fl_N_11) xd_N_assign_20 ?_
    refine aw_iload_n C 3 xd_N_assign_23 rfl rfl ?_
    obtain ⟨g_24, hm⟩ := aw_grd hm
    refine aw_aald C (k0 + 1) (kd_lt (kf_N_frames hk0)) 4 (ly_F6 (kf_N_frames hk0)) rfl (aw_in_ok g_24) rfl xd_N_assign_24 ?_
    refine aw_get C (k0 + 1 + 1 + (Int32.toNatClampNeg a2)) (kd_lt (ka_F6 (kf_N_frames hk0) (aw_in_lt g_24))) (ly_F (ka_F6 (kf_N_frames hk0) (aw_in_lt g_24))) rfl (fun w h => List.mem_cons_of_mem _ (xi_F w h)) 0 (by decide) rfl (List.mem_cons_of_mem _ fl_N_39) xd_N_assign_25 ?_
    refine aw_iload C 5 xd_N_assign_28 rfl ?_
    refine aw_iload C 0 xd_N_assign_30 rfl ?_
    obtain ⟨q_32, e_32, hm⟩ := aw_bnd hm
    refine aw_callVv (As := [.int (q_6.2 (k0 + 1 + 1 + (Int32.toNatClampNeg a2)) 0), .int a4, .int q_6.1]) (rest := []) (b := ad k1) C (xc_M_setValue q_6.2 k1 (q_6.2 (k0 + 1 + 1 + (Int32.toNatClampNeg a2)) 0) a4 q_6.1 _ hk1 e_32) rfl (gw_sub (gw_V xg_M_setValue ml_N_106 im_M_setValue se_M_setValue wi_M)) na_M_setValue (rm_lt (by omega) (by decide)) ⟨Nat.zero_le _, Nat.zero_le _⟩ k1 (at_M hk1) rfl rfl (Nat.le_of_ble_eq_true rfl) xd_N_assign_32 ?_
    refine aw_iload C 0 xd_N_assign_35 rfl ?_
    cases hm
    exact aw_iret C xd_N_assign_37
def xm_N_choose (W : aw_m → Nat → Nat → Int32 → Int32 → Option (Int32 × aw_m)) (σ : aw_m) (k0 : Nat) (k1 : Nat) (a2 : Int32) (a3 : Int32) : Option (Int32 × aw_m) := (W σ k0 k1 a2 (a3 + (1 : Int32))).bind fun q_6 => (if q_6.1 = 0 then if aw_in a2 6 = true then (xm_N_skip q_6.2 k0 k1 (k0 + 1 + 1 + (Int32.toNatClampNeg a2))).bind fun q_24 => (W q_24 k0 k1 a2 (a3 + (1 : Int32))).bind fun q_33 => some (q_33.1, q_33.2) else none else (W q_6.2 k0 k1 a2 (a3 + (1 : Int32))).bind fun q_43 => if aw_in a2 6 = true then (xm_N_skip q_43.2 k0 k1 (k0 + 1 + 1 + (Int32.toNatClampNeg a2))).bind fun q_56 => some (q_43.1, q_56) else none)
set_option maxHeartbeats 4000000 in
set_option maxRecDepth 100000 in
theorem xc_N_choose (W : aw_m → Nat → Nat → Int32 → Int32 → Option (Int32 × aw_m)) (dw : Nat) (hW : ∀ (σ : aw_m) (k0 : Nat) (k1 : Nat) (a2 : Int32) (a3 : Int32) (q : Int32 × aw_m) (hk0 : kd_k k0 = 12) (hk1 : kd_k k1 = 8), W σ k0 k1 a2 a3 = some q → aw_M l D (ty_z ids) (zs_T ps) xy_N_work (xw_N_work :: gw_l) (rm_D (dw)) [.ref (ad k0), .ref (ad k1), .int a2, .int a3] (cw_w ad ids σ) (some (.int q.1)) (cw_w ad ids q.2)) (σ : aw_m) (k0 : Nat) (k1 : Nat) (a2 : Int32) (a3 : Int32) (q : Int32 × aw_m) (hk0 : kd_k k0 = 12) (hk1 : kd_k k1 = 8) (hm : xm_N_choose W σ k0 k1 a2 a3 = some q) : aw_M l D (ty_z ids) (zs_T ps) xy_N_choose (xw_N_choose :: gw_l) (rm_D (dw + 5)) [.ref (ad k0), .ref (ad k1), .int a2, .int a3] (cw_w ad ids σ) (some (.int q.1)) (cw_w ad ids q.2) := by
  refine aw_intro (cc := xb_N_choose) (n := 6) (ret := (some .int)) "ModuleShelf$Machine" rfl (by decide) rfl (Nat.le_of_ble_eq_true rfl) ?_
  intro κ C
  unfold xm_N_choose at hm
  refine aw_aload_n C 0 xd_N_choose_0 rfl rfl ?_
  refine aw_aload_n C 1 xd_N_choose_1 rfl rfl ?_
  refine aw_iload_n C 2 xd_N_choose_2 rfl rfl ?_
  refine aw_iload_n C 3 xd_N_choose_3 rfl rfl ?_
  refine aw_iconst (v := (1 : Int32)) C xd_N_choose_4 (by decide) ?_
  refine aw_iadd C xd_N_choose_5 ?_
  obtain ⟨q_6, e_6, hm⟩ := aw_bnd hm
  refine aw_callVi (As := [.ref (ad k1), .int a2, .int (a3 + (1 : Int32))]) (rest := []) (b := ad k0) C (hW σ k0 k1 a2 (a3 + (1 : Int32)) _ hk0 hk1 e_6) rfl (gw_sub (gw_V xg_N_work ml_N_29 im_N_work se_N_work wi_N)) na_N_work (rm_lt (by omega) (by decide)) ⟨Nat.zero_le _, Nat.zero_le _⟩ k0 (at_N hk0) rfl rfl (Nat.le_of_ble_eq_true rfl) xd_N_choose_6 ?_
  refine aw_istore (L' := [(4, .int q_6.1), (0, .ref (ad k0)), (1, .ref (ad k1)), (2, .int a2), (3, .int a3)]) C xd_N_choose_9 (by decide) rfl ?_
  refine aw_iload C 0 xd_N_choose_11 rfl ?_
  refine aw_if_ne (tgt := 37) C xd_N_choose_13 (by decide) (fun c_13 => ?_) (fun c_13 => ?_)
  · rw [if_neg c_13] at hm
    refine aw_aload_n C 1 xd_N_choose_37 rfl rfl ?_
    refine aw_aload_n C 2 xd_N_choose_38 rfl rfl ?_
    refine aw_iload_n C 3 xd_N_choose_39 rfl rfl ?_
    refine aw_iload_n C 4 xd_N_choose_40 rfl rfl ?_
    refine aw_iconst (v := (1 : Int32)) C xd_N_choose_41 (by decide) ?_
    refine aw_iadd C xd_N_choose_42 ?_
    obtain ⟨q_43, e_43, hm⟩ := aw_bnd hm
    refine aw_callVi (As := [.ref (ad k1), .int a2, .int (a3 + (1 : Int32))]) (rest := []) (b := ad k0) C (hW q_6.2 k0 k1 a2 (a3 + (1 : Int32)) _ hk0 hk1 e_43) rfl (gw_sub (gw_V xg_N_work ml_N_29 im_N_work se_N_work wi_N)) na_N_work (rm_lt (by omega) (by decide)) ⟨Nat.zero_le _, Nat.zero_le _⟩ k0 (at_N hk0) rfl rfl (Nat.le_of_ble_eq_true rfl) xd_N_choose_43 ?_
    refine aw_istore (L' := [(5, .int q_43.1), (4, .int q_6.1), (0, .ref (ad k0)), (1, .ref (ad k1)), (2, .int a2), (3, .int a3)]) C xd_N_choose_46 (by decide) rfl ?_
    refine aw_aload_n C 2 xd_N_choose_48 rfl rfl ?_
    refine aw_aload_n C 3 xd_N_choose_49 rfl rfl ?_
    refine aw_aload_n C 2 xd_N_choose_50 rfl rfl ?_
    refine aw_get C k0 (kd_lt hk0) (ly_N hk0) rfl (fun w h => List.mem_cons_of_mem _ (xi_N w h)) 0 (by decide) rfl (List.mem_cons_of_mem _ fl_N_11) xd_N_choose_51 ?_
    refine aw_iload_n C 4 xd_N_choose_54 rfl rfl ?_
    obtain ⟨g_55, hm⟩ := aw_grd hm
    refine aw_aald C (k0 + 1) (kd_lt (kf_N_frames hk0)) 4 (ly_F6 (kf_N_frames hk0)) rfl (aw_in_ok g_55) rfl xd_N_choose_55 ?_
    obtain ⟨q_56, e_56, hm⟩ := aw_bnd hm
    refine aw_callVv (As := [.ref (ad k1), .ref (ad (k0 + 1 + 1 + (Int32.toNatClampNeg a2)))]) (rest := []) (b := ad k0) C (xc_N_skip q_43.2 k0 k1 (k0 + 1 + 1 + (Int32.toNatClampNeg a2)) _ hk0 hk1 (ka_F6 (kf_N_frames hk0) (aw_in_lt g_55)) e_56) rfl (gw_sub (gw_V xg_N_skip ml_N_110 im_N_skip se_N_skip wi_N)) na_N_skip (rm_lt (by omega) (by decide)) ⟨Nat.zero_le _, Nat.zero_le _⟩ k0 (at_N hk0) rfl rfl (Nat.le_of_ble_eq_true rfl) xd_N_choose_56 ?_
    refine aw_iload C 0 xd_N_choose_59 rfl ?_
    cases hm
    exact aw_iret C xd_N_choose_61
  · rw [if_pos c_13] at hm
    refine aw_aload_n C 1 xd_N_choose_16 rfl rfl ?_
    refine aw_aload_n C 2 xd_N_choose_17 rfl rfl ?_
    refine aw_aload_n C 1 xd_N_choose_18 rfl rfl ?_
    refine aw_get C k0 (kd_lt hk0) (ly_N hk0) rfl (fun w h => List.mem_cons_of_mem _ (xi_N w h)) 0 (by decide) rfl (List.mem_cons_of_mem _ fl_N_11) xd_N_choose_19 ?_
    refine aw_iload_n C 3 xd_N_choose_22 rfl rfl ?_
    obtain ⟨g_23, hm⟩ := aw_grd hm
    refine aw_aald C (k0 + 1) (kd_lt (kf_N_frames hk0)) 4 (ly_F6 (kf_N_frames hk0)) rfl (aw_in_ok g_23) rfl xd_N_choose_23 ?_
    obtain ⟨q_24, e_24, hm⟩ := aw_bnd hm
    refine aw_callVv (As := [.ref (ad k1), .ref (ad (k0 + 1 + 1 + (Int32.toNatClampNeg a2)))]) (rest := []) (b := ad k0) C (xc_N_skip q_6.2 k0 k1 (k0 + 1 + 1 + (Int32.toNatClampNeg a2)) _ hk0 hk1 (ka_F6 (kf_N_frames hk0) (aw_in_lt g_23)) e_24) rfl (gw_sub (gw_V xg_N_skip ml_N_110 im_N_skip se_N_skip wi_N)) na_N_skip (rm_lt (by omega) (by decide)) ⟨Nat.zero_le _, Nat.zero_le _⟩ k0 (at_N hk0) rfl rfl (Nat.le_of_ble_eq_true rfl) xd_N_choose_24 ?_
    refine aw_aload_n C 1 xd_N_choose_27 rfl rfl ?_
    refine aw_aload_n C 2 xd_N_choose_28 rfl rfl ?_
    refine aw_iload_n C 3 xd_N_choose_29 rfl rfl ?_
    refine aw_iload_n C 4 xd_N_choose_30 rfl rfl ?_
    refine aw_iconst (v := (1 : Int32)) C xd_N_choose_31 (by decide) ?_
    refine aw_iadd C xd_N_choose_32 ?_
    obtain ⟨q_33, e_33, hm⟩ := aw_bnd hm
    refine aw_callVi (As := [.ref (ad k1), .int a2, .int (a3 + (1 : Int32))]) (rest := []) (b := ad k0) C (hW q_24 k0 k1 a2 (a3 + (1 : Int32)) _ hk0 hk1 e_33) rfl (gw_sub (gw_V xg_N_work ml_N_29 im_N_work se_N_work wi_N)) na_N_work (rm_lt (by omega) (by decide)) ⟨Nat.zero_le _, Nat.zero_le _⟩ k0 (at_N hk0) rfl rfl (Nat.le_of_ble_eq_true rfl) xd_N_choose_33 ?_
    cases hm
    exact aw_iret C xd_N_choose_36
def xm_N_enter (W : aw_m → Nat → Nat → Int32 → Int32 → Option (Int32 × aw_m)) (σ : aw_m) (k0 : Nat) (k1 : Nat) (a2 : Int32) (a3 : Int32) (a4 : Int32) (a5 : Int32) : Option (Int32 × aw_m) := (xm_M_argumentsOf σ k1 a4 a5).bind fun q_5 => (if q_5 ≤ 0 then (if q_5 ≤ (1 : Int32) then (if σ k0 2 = 0 then (if q_5 = (-1 : Int32) then some ((0 : Int32), σ) else (if a2 < (5 : Int32) then if aw_in (a2 + (1 : Int32)) 6 = true then (xm_F_open σ (k0 + 1 + 1 + (Int32.toNatClampNeg (a2 + (1 : Int32)))) a4 a5 (0 : Int32) (0 : Int32)).bind fun q_94 => (W q_94 k0 k1 (a2 + (1 : Int32)) (0 : Int32)).bind fun q_103 => some (q_103.1, q_103.2) else none else (xm_N_fail σ k0 (-9 : Int32)).bind fun q_74 => some (q_74.1, q_74.2))) else some ((0 : Int32), σ)) else (W σ k0 k1 a2 (a3 + (1 : Int32))).bind fun q_42 => (if q_42.2 k0 2 = 0 then (if q_5 = (-1 : Int32) then some ((0 : Int32), q_42.2) else (if a2 < (5 : Int32) then if aw_in (a2 + (1 : Int32)) 6 = true then (xm_F_open q_42.2 (k0 + 1 + 1 + (Int32.toNatClampNeg (a2 + (1 : Int32)))) a4 a5 (0 : Int32) q_42.1).bind fun q_94 => (W q_94 k0 k1 (a2 + (1 : Int32)) (0 : Int32)).bind fun q_103 => some (q_103.1, q_103.2) else none else (xm_N_fail q_42.2 k0 (-9 : Int32)).bind fun q_74 => some (q_74.1, q_74.2))) else some ((0 : Int32), q_42.2))) else (W σ k0 k1 a2 (a3 + (1 : Int32))).bind fun q_21 => (if q_5 ≤ (1 : Int32) then (if q_21.2 k0 2 = 0 then (if q_5 = (-1 : Int32) then some ((0 : Int32), q_21.2) else (if a2 < (5 : Int32) then if aw_in (a2 + (1 : Int32)) 6 = true then (xm_F_open q_21.2 (k0 + 1 + 1 + (Int32.toNatClampNeg (a2 + (1 : Int32)))) a4 a5 q_21.1 (0 : Int32)).bind fun q_94 => (W q_94 k0 k1 (a2 + (1 : Int32)) (0 : Int32)).bind fun q_103 => some (q_103.1, q_103.2) else none else (xm_N_fail q_21.2 k0 (-9 : Int32)).bind fun q_74 => some (q_74.1, q_74.2))) else some ((0 : Int32), q_21.2)) else (W q_21.2 k0 k1 a2 (a3 + (1 : Int32))).bind fun q_42 => (if q_42.2 k0 2 = 0 then (if q_5 = (-1 : Int32) then some ((0 : Int32), q_42.2) else (if a2 < (5 : Int32) then if aw_in (a2 + (1 : Int32)) 6 = true then (xm_F_open q_42.2 (k0 + 1 + 1 + (Int32.toNatClampNeg (a2 + (1 : Int32)))) a4 a5 q_21.1 q_42.1).bind fun q_94 => (W q_94 k0 k1 (a2 + (1 : Int32)) (0 : Int32)).bind fun q_103 => some (q_103.1, q_103.2) else none else (xm_N_fail q_42.2 k0 (-9 : Int32)).bind fun q_74 => some (q_74.1, q_74.2))) else some ((0 : Int32), q_42.2))))
set_option maxHeartbeats 4000000 in
set_option maxRecDepth 100000 in
theorem xc_N_enter (W : aw_m → Nat → Nat → Int32 → Int32 → Option (Int32 × aw_m)) (dw : Nat) (hW : ∀ (σ : aw_m) (k0 : Nat) (k1 : Nat) (a2 : Int32) (a3 : Int32) (q : Int32 × aw_m) (hk0 : kd_k k0 = 12) (hk1 : kd_k k1 = 8), W σ k0 k1 a2 a3 = some q → aw_M l D (ty_z ids) (zs_T ps) xy_N_work (xw_N_work :: gw_l) (rm_D (dw)) [.ref (ad k0), .ref (ad k1), .int a2, .int a3] (cw_w ad ids σ) (some (.int q.1)) (cw_w ad ids q.2)) (σ : aw_m) (k0 : Nat) (k1 : Nat) (a2 : Int32) (a3 : Int32) (a4 : Int32) (a5 : Int32) (q : Int32 × aw_m) (hk0 : kd_k k0 = 12) (hk1 : kd_k k1 = 8) (hm : xm_N_enter W σ k0 k1 a2 a3 a4 a5 = some q) : aw_M l D (ty_z ids) (zs_T ps) xy_N_enter (xw_N_enter :: gw_l) (rm_D (dw + 3)) [.ref (ad k0), .ref (ad k1), .int a2, .int a3, .int a4, .int a5] (cw_w ad ids σ) (some (.int q.1)) (cw_w ad ids q.2) := by
  refine aw_intro (cc := xb_N_enter) (n := 9) (ret := (some .int)) "ModuleShelf$Machine" rfl (by decide) rfl (Nat.le_of_ble_eq_true rfl) ?_
  intro κ C
  unfold xm_N_enter at hm
  refine aw_aload_n C 1 xd_N_enter_0 rfl rfl ?_
  refine aw_iload C 4 xd_N_enter_1 rfl ?_
  refine aw_iload C 5 xd_N_enter_3 rfl ?_
  obtain ⟨q_5, e_5, hm⟩ := aw_bnd hm
  refine aw_callVi (As := [.int a4, .int a5]) (rest := []) (b := ad k1) C (xc_M_argumentsOf σ k1 a4 a5 _ hk1 e_5) rfl (gw_sub (gw_V xg_M_argumentsOf ml_N_114 im_M_argumentsOf se_M_argumentsOf wi_M)) na_M_argumentsOf (rm_lt (by omega) (by decide)) ⟨Nat.zero_le _, Nat.zero_le _⟩ k1 (at_M hk1) rfl rfl (Nat.le_of_ble_eq_true rfl) xd_N_enter_5 ?_
  refine aw_istore (L' := [(6, .int q_5), (0, .ref (ad k0)), (1, .ref (ad k1)), (2, .int a2), (3, .int a3), (4, .int a4), (5, .int a5)]) C xd_N_enter_8 (by decide) rfl ?_
  refine aw_iload C 0 xd_N_enter_10 rfl ?_
  refine aw_if_le (tgt := 27) C xd_N_enter_12 (by decide) (fun c_12 => ?_) (fun c_12 => ?_)
  · rw [if_pos c_12] at hm
    refine aw_iconst (v := (0 : Int32)) C xd_N_enter_27 (by decide) ?_
    refine aw_istore (L' := [(7, .int (0 : Int32)), (6, .int q_5), (0, .ref (ad k0)), (1, .ref (ad k1)), (2, .int a2), (3, .int a3), (4, .int a4), (5, .int a5)]) C xd_N_enter_28 (by decide) rfl ?_
    refine aw_iload C 1 xd_N_enter_30 rfl ?_
    refine aw_iconst (v := (1 : Int32)) C xd_N_enter_32 (by decide) ?_
    refine aw_icmp_le (tgt := 48) C xd_N_enter_33 (by decide) (fun c_33 => ?_) (fun c_33 => ?_)
    · rw [if_pos c_33] at hm
      refine aw_iconst (v := (0 : Int32)) C xd_N_enter_48 (by decide) ?_
      refine aw_istore (L' := [(8, .int (0 : Int32)), (7, .int (0 : Int32)), (6, .int q_5), (0, .ref (ad k0)), (1, .ref (ad k1)), (2, .int a2), (3, .int a3), (4, .int a4), (5, .int a5)]) C xd_N_enter_49 (by decide) rfl ?_
      refine aw_aload_n C 3 xd_N_enter_51 rfl rfl ?_
      refine aw_get C k0 (kd_lt hk0) (ly_N hk0) rfl (fun w h => List.mem_cons_of_mem _ (xi_N w h)) 2 (by decide) rfl (List.mem_cons_of_mem _ fl_N_22) xd_N_enter_52 ?_
      refine aw_if_ne (tgt := 64) C xd_N_enter_55 (by decide) (fun c_55 => ?_) (fun c_55 => ?_)
      · rw [if_neg c_55] at hm
        refine aw_iconst (v := (0 : Int32)) C xd_N_enter_64 (by decide) ?_
        cases hm
        exact aw_iret C xd_N_enter_65
      · rw [if_pos c_55] at hm
        refine aw_iload C 2 xd_N_enter_58 rfl ?_
        refine aw_iconst (v := (-1 : Int32)) C xd_N_enter_60 (by decide) ?_
        refine aw_icmp_ne (tgt := 66) C xd_N_enter_61 (by decide) (fun c_61 => ?_) (fun c_61 => ?_)
        · rw [if_neg c_61] at hm
          refine aw_iload_n C 5 xd_N_enter_66 rfl rfl ?_
          refine aw_iconst (v := (5 : Int32)) C xd_N_enter_67 (by decide) ?_
          refine aw_icmp_lt (tgt := 78) C xd_N_enter_68 (by decide) (fun c_68 => ?_) (fun c_68 => ?_)
          · rw [if_pos c_68] at hm
            refine aw_aload_n C 3 xd_N_enter_78 rfl rfl ?_
            refine aw_get C k0 (kd_lt hk0) (ly_N hk0) rfl (fun w h => List.mem_cons_of_mem _ (xi_N w h)) 0 (by decide) rfl (List.mem_cons_of_mem _ fl_N_11) xd_N_enter_79 ?_
            refine aw_iload_n C 5 xd_N_enter_82 rfl rfl ?_
            refine aw_iconst (v := (1 : Int32)) C xd_N_enter_83 (by decide) ?_
            refine aw_iadd C xd_N_enter_84 ?_
            obtain ⟨g_85, hm⟩ := aw_grd hm
            refine aw_aald C (k0 + 1) (kd_lt (kf_N_frames hk0)) 4 (ly_F6 (kf_N_frames hk0)) rfl (aw_in_ok g_85) rfl xd_N_enter_85 ?_
            refine aw_iload C 7 xd_N_enter_86 rfl ?_
            refine aw_iload C 8 xd_N_enter_88 rfl ?_
            refine aw_iload C 1 xd_N_enter_90 rfl ?_
            refine aw_iload C 0 xd_N_enter_92 rfl ?_
            obtain ⟨q_94, e_94, hm⟩ := aw_bnd hm
            refine aw_callVv (As := [.int a4, .int a5, .int (0 : Int32), .int (0 : Int32)]) (rest := []) (b := ad (k0 + 1 + 1 + (Int32.toNatClampNeg (a2 + (1 : Int32))))) C (xc_F_open σ (k0 + 1 + 1 + (Int32.toNatClampNeg (a2 + (1 : Int32)))) a4 a5 (0 : Int32) (0 : Int32) _ (ka_F6 (kf_N_frames hk0) (aw_in_lt g_85)) e_94) rfl (gw_sub (gw_V xg_F_open ml_N_25 im_F_open se_F_open wi_F)) na_F_open (rm_lt (by omega) (by decide)) ⟨Nat.zero_le _, Nat.zero_le _⟩ (k0 + 1 + 1 + (Int32.toNatClampNeg (a2 + (1 : Int32)))) (at_F (ka_F6 (kf_N_frames hk0) (aw_in_lt g_85))) rfl rfl (Nat.le_of_ble_eq_true rfl) xd_N_enter_94 ?_
            refine aw_aload_n C 3 xd_N_enter_97 rfl rfl ?_
            refine aw_aload_n C 4 xd_N_enter_98 rfl rfl ?_
            refine aw_iload_n C 5 xd_N_enter_99 rfl rfl ?_
            refine aw_iconst (v := (1 : Int32)) C xd_N_enter_100 (by decide) ?_
            refine aw_iadd C xd_N_enter_101 ?_
            refine aw_iconst (v := (0 : Int32)) C xd_N_enter_102 (by decide) ?_
            obtain ⟨q_103, e_103, hm⟩ := aw_bnd hm
            refine aw_callVi (As := [.ref (ad k1), .int (a2 + (1 : Int32)), .int (0 : Int32)]) (rest := []) (b := ad k0) C (hW q_94 k0 k1 (a2 + (1 : Int32)) (0 : Int32) _ hk0 hk1 e_103) rfl (gw_sub (gw_V xg_N_work ml_N_29 im_N_work se_N_work wi_N)) na_N_work (rm_lt (by omega) (by decide)) ⟨Nat.zero_le _, Nat.zero_le _⟩ k0 (at_N hk0) rfl rfl (Nat.le_of_ble_eq_true rfl) xd_N_enter_103 ?_
            cases hm
            exact aw_iret C xd_N_enter_106
          · rw [if_neg c_68] at hm
            refine aw_aload_n C 3 xd_N_enter_71 rfl rfl ?_
            refine aw_bipush (v := (-9 : Int32)) C xd_N_enter_72 (by decide) ?_
            obtain ⟨q_74, e_74, hm⟩ := aw_bnd hm
            refine aw_callVi (As := [.int (-9 : Int32)]) (rest := []) (b := ad k0) C (xc_N_fail σ k0 (-9 : Int32) _ hk0 e_74) rfl (gw_sub (gw_V xg_N_fail ml_N_66 im_N_fail se_N_fail wi_N)) na_N_fail (rm_lt (by omega) (by decide)) ⟨Nat.zero_le _, Nat.zero_le _⟩ k0 (at_N hk0) rfl rfl (Nat.le_of_ble_eq_true rfl) xd_N_enter_74 ?_
            cases hm
            exact aw_iret C xd_N_enter_77
        · rw [if_pos c_61] at hm
          refine aw_iconst (v := (0 : Int32)) C xd_N_enter_64 (by decide) ?_
          cases hm
          exact aw_iret C xd_N_enter_65
    · rw [if_neg c_33] at hm
      refine aw_aload_n C 2 xd_N_enter_36 rfl rfl ?_
      refine aw_aload_n C 3 xd_N_enter_37 rfl rfl ?_
      refine aw_iload_n C 4 xd_N_enter_38 rfl rfl ?_
      refine aw_iload_n C 5 xd_N_enter_39 rfl rfl ?_
      refine aw_iconst (v := (1 : Int32)) C xd_N_enter_40 (by decide) ?_
      refine aw_iadd C xd_N_enter_41 ?_
      obtain ⟨q_42, e_42, hm⟩ := aw_bnd hm
      refine aw_callVi (As := [.ref (ad k1), .int a2, .int (a3 + (1 : Int32))]) (rest := []) (b := ad k0) C (hW σ k0 k1 a2 (a3 + (1 : Int32)) _ hk0 hk1 e_42) rfl (gw_sub (gw_V xg_N_work ml_N_29 im_N_work se_N_work wi_N)) na_N_work (rm_lt (by omega) (by decide)) ⟨Nat.zero_le _, Nat.zero_le _⟩ k0 (at_N hk0) rfl rfl (Nat.le_of_ble_eq_true rfl) xd_N_enter_42 ?_
      refine aw_goto (tgt := 49) C xd_N_enter_45 (by decide) ?_
      refine aw_istore (L' := [(8, .int q_42.1), (7, .int (0 : Int32)), (6, .int q_5), (0, .ref (ad k0)), (1, .ref (ad k1)), (2, .int a2), (3, .int a3), (4, .int a4), (5, .int a5)]) C xd_N_enter_49 (by decide) rfl ?_
      refine aw_aload_n C 3 xd_N_enter_51 rfl rfl ?_
      refine aw_get C k0 (kd_lt hk0) (ly_N hk0) rfl (fun w h => List.mem_cons_of_mem _ (xi_N w h)) 2 (by decide) rfl (List.mem_cons_of_mem _ fl_N_22) xd_N_enter_52 ?_
      refine aw_if_ne (tgt := 64) C xd_N_enter_55 (by decide) (fun c_55 => ?_) (fun c_55 => ?_)
      · rw [if_neg c_55] at hm
        refine aw_iconst (v := (0 : Int32)) C xd_N_enter_64 (by decide) ?_
        cases hm
        exact aw_iret C xd_N_enter_65
      · rw [if_pos c_55] at hm
        refine aw_iload C 2 xd_N_enter_58 rfl ?_
        refine aw_iconst (v := (-1 : Int32)) C xd_N_enter_60 (by decide) ?_
        refine aw_icmp_ne (tgt := 66) C xd_N_enter_61 (by decide) (fun c_61 => ?_) (fun c_61 => ?_)
        · rw [if_neg c_61] at hm
          refine aw_iload_n C 5 xd_N_enter_66 rfl rfl ?_
          refine aw_iconst (v := (5 : Int32)) C xd_N_enter_67 (by decide) ?_
          refine aw_icmp_lt (tgt := 78) C xd_N_enter_68 (by decide) (fun c_68 => ?_) (fun c_68 => ?_)
          · rw [if_pos c_68] at hm
            refine aw_aload_n C 3 xd_N_enter_78 rfl rfl ?_
            refine aw_get C k0 (kd_lt hk0) (ly_N hk0) rfl (fun w h => List.mem_cons_of_mem _ (xi_N w h)) 0 (by decide) rfl (List.mem_cons_of_mem _ fl_N_11) xd_N_enter_79 ?_
            refine aw_iload_n C 5 xd_N_enter_82 rfl rfl ?_
            refine aw_iconst (v := (1 : Int32)) C xd_N_enter_83 (by decide) ?_
            refine aw_iadd C xd_N_enter_84 ?_
            obtain ⟨g_85, hm⟩ := aw_grd hm
            refine aw_aald C (k0 + 1) (kd_lt (kf_N_frames hk0)) 4 (ly_F6 (kf_N_frames hk0)) rfl (aw_in_ok g_85) rfl xd_N_enter_85 ?_
            refine aw_iload C 7 xd_N_enter_86 rfl ?_
            refine aw_iload C 8 xd_N_enter_88 rfl ?_
            refine aw_iload C 1 xd_N_enter_90 rfl ?_
            refine aw_iload C 0 xd_N_enter_92 rfl ?_
            obtain ⟨q_94, e_94, hm⟩ := aw_bnd hm
            refine aw_callVv (As := [.int a4, .int a5, .int (0 : Int32), .int q_42.1]) (rest := []) (b := ad (k0 + 1 + 1 + (Int32.toNatClampNeg (a2 + (1 : Int32))))) C (xc_F_open q_42.2 (k0 + 1 + 1 + (Int32.toNatClampNeg (a2 + (1 : Int32)))) a4 a5 (0 : Int32) q_42.1 _ (ka_F6 (kf_N_frames hk0) (aw_in_lt g_85)) e_94) rfl (gw_sub (gw_V xg_F_open ml_N_25 im_F_open se_F_open wi_F)) na_F_open (rm_lt (by omega) (by decide)) ⟨Nat.zero_le _, Nat.zero_le _⟩ (k0 + 1 + 1 + (Int32.toNatClampNeg (a2 + (1 : Int32)))) (at_F (ka_F6 (kf_N_frames hk0) (aw_in_lt g_85))) rfl rfl (Nat.le_of_ble_eq_true rfl) xd_N_enter_94 ?_
            refine aw_aload_n C 3 xd_N_enter_97 rfl rfl ?_
            refine aw_aload_n C 4 xd_N_enter_98 rfl rfl ?_
            refine aw_iload_n C 5 xd_N_enter_99 rfl rfl ?_
            refine aw_iconst (v := (1 : Int32)) C xd_N_enter_100 (by decide) ?_
            refine aw_iadd C xd_N_enter_101 ?_
            refine aw_iconst (v := (0 : Int32)) C xd_N_enter_102 (by decide) ?_
            obtain ⟨q_103, e_103, hm⟩ := aw_bnd hm
            refine aw_callVi (As := [.ref (ad k1), .int (a2 + (1 : Int32)), .int (0 : Int32)]) (rest := []) (b := ad k0) C (hW q_94 k0 k1 (a2 + (1 : Int32)) (0 : Int32) _ hk0 hk1 e_103) rfl (gw_sub (gw_V xg_N_work ml_N_29 im_N_work se_N_work wi_N)) na_N_work (rm_lt (by omega) (by decide)) ⟨Nat.zero_le _, Nat.zero_le _⟩ k0 (at_N hk0) rfl rfl (Nat.le_of_ble_eq_true rfl) xd_N_enter_103 ?_
            cases hm
            exact aw_iret C xd_N_enter_106
          · rw [if_neg c_68] at hm
            refine aw_aload_n C 3 xd_N_enter_71 rfl rfl ?_
            refine aw_bipush (v := (-9 : Int32)) C xd_N_enter_72 (by decide) ?_
            obtain ⟨q_74, e_74, hm⟩ := aw_bnd hm
            refine aw_callVi (As := [.int (-9 : Int32)]) (rest := []) (b := ad k0) C (xc_N_fail q_42.2 k0 (-9 : Int32) _ hk0 e_74) rfl (gw_sub (gw_V xg_N_fail ml_N_66 im_N_fail se_N_fail wi_N)) na_N_fail (rm_lt (by omega) (by decide)) ⟨Nat.zero_le _, Nat.zero_le _⟩ k0 (at_N hk0) rfl rfl (Nat.le_of_ble_eq_true rfl) xd_N_enter_74 ?_
            cases hm
            exact aw_iret C xd_N_enter_77
        · rw [if_pos c_61] at hm
          refine aw_iconst (v := (0 : Int32)) C xd_N_enter_64 (by decide) ?_
          cases hm
          exact aw_iret C xd_N_enter_65
  · rw [if_neg c_12] at hm
    refine aw_aload_n C 1 xd_N_enter_15 rfl rfl ?_
    refine aw_aload_n C 2 xd_N_enter_16 rfl rfl ?_
    refine aw_iload_n C 3 xd_N_enter_17 rfl rfl ?_
    refine aw_iload_n C 4 xd_N_enter_18 rfl rfl ?_
    refine aw_iconst (v := (1 : Int32)) C xd_N_enter_19 (by decide) ?_
    refine aw_iadd C xd_N_enter_20 ?_
    obtain ⟨q_21, e_21, hm⟩ := aw_bnd hm
    refine aw_callVi (As := [.ref (ad k1), .int a2, .int (a3 + (1 : Int32))]) (rest := []) (b := ad k0) C (hW σ k0 k1 a2 (a3 + (1 : Int32)) _ hk0 hk1 e_21) rfl (gw_sub (gw_V xg_N_work ml_N_29 im_N_work se_N_work wi_N)) na_N_work (rm_lt (by omega) (by decide)) ⟨Nat.zero_le _, Nat.zero_le _⟩ k0 (at_N hk0) rfl rfl (Nat.le_of_ble_eq_true rfl) xd_N_enter_21 ?_
    refine aw_goto (tgt := 28) C xd_N_enter_24 (by decide) ?_
    refine aw_istore (L' := [(7, .int q_21.1), (6, .int q_5), (0, .ref (ad k0)), (1, .ref (ad k1)), (2, .int a2), (3, .int a3), (4, .int a4), (5, .int a5)]) C xd_N_enter_28 (by decide) rfl ?_
    refine aw_iload C 1 xd_N_enter_30 rfl ?_
    refine aw_iconst (v := (1 : Int32)) C xd_N_enter_32 (by decide) ?_
    refine aw_icmp_le (tgt := 48) C xd_N_enter_33 (by decide) (fun c_33 => ?_) (fun c_33 => ?_)
    · rw [if_pos c_33] at hm
      refine aw_iconst (v := (0 : Int32)) C xd_N_enter_48 (by decide) ?_
      refine aw_istore (L' := [(8, .int (0 : Int32)), (7, .int q_21.1), (6, .int q_5), (0, .ref (ad k0)), (1, .ref (ad k1)), (2, .int a2), (3, .int a3), (4, .int a4), (5, .int a5)]) C xd_N_enter_49 (by decide) rfl ?_
      refine aw_aload_n C 3 xd_N_enter_51 rfl rfl ?_
      refine aw_get C k0 (kd_lt hk0) (ly_N hk0) rfl (fun w h => List.mem_cons_of_mem _ (xi_N w h)) 2 (by decide) rfl (List.mem_cons_of_mem _ fl_N_22) xd_N_enter_52 ?_
      refine aw_if_ne (tgt := 64) C xd_N_enter_55 (by decide) (fun c_55 => ?_) (fun c_55 => ?_)
      · rw [if_neg c_55] at hm
        refine aw_iconst (v := (0 : Int32)) C xd_N_enter_64 (by decide) ?_
        cases hm
        exact aw_iret C xd_N_enter_65
      · rw [if_pos c_55] at hm
        refine aw_iload C 2 xd_N_enter_58 rfl ?_
        refine aw_iconst (v := (-1 : Int32)) C xd_N_enter_60 (by decide) ?_
        refine aw_icmp_ne (tgt := 66) C xd_N_enter_61 (by decide) (fun c_61 => ?_) (fun c_61 => ?_)
        · rw [if_neg c_61] at hm
          refine aw_iload_n C 5 xd_N_enter_66 rfl rfl ?_
          refine aw_iconst (v := (5 : Int32)) C xd_N_enter_67 (by decide) ?_
          refine aw_icmp_lt (tgt := 78) C xd_N_enter_68 (by decide) (fun c_68 => ?_) (fun c_68 => ?_)
          · rw [if_pos c_68] at hm
            refine aw_aload_n C 3 xd_N_enter_78 rfl rfl ?_
            refine aw_get C k0 (kd_lt hk0) (ly_N hk0) rfl (fun w h => List.mem_cons_of_mem _ (xi_N w h)) 0 (by decide) rfl (List.mem_cons_of_mem _ fl_N_11) xd_N_enter_79 ?_
            refine aw_iload_n C 5 xd_N_enter_82 rfl rfl ?_
            refine aw_iconst (v := (1 : Int32)) C xd_N_enter_83 (by decide) ?_
            refine aw_iadd C xd_N_enter_84 ?_
            obtain ⟨g_85, hm⟩ := aw_grd hm
            refine aw_aald C (k0 + 1) (kd_lt (kf_N_frames hk0)) 4 (ly_F6 (kf_N_frames hk0)) rfl (aw_in_ok g_85) rfl xd_N_enter_85 ?_
            refine aw_iload C 7 xd_N_enter_86 rfl ?_
            refine aw_iload C 8 xd_N_enter_88 rfl ?_
            refine aw_iload C 1 xd_N_enter_90 rfl ?_
            refine aw_iload C 0 xd_N_enter_92 rfl ?_
            obtain ⟨q_94, e_94, hm⟩ := aw_bnd hm
            refine aw_callVv (As := [.int a4, .int a5, .int q_21.1, .int (0 : Int32)]) (rest := []) (b := ad (k0 + 1 + 1 + (Int32.toNatClampNeg (a2 + (1 : Int32))))) C (xc_F_open q_21.2 (k0 + 1 + 1 + (Int32.toNatClampNeg (a2 + (1 : Int32)))) a4 a5 q_21.1 (0 : Int32) _ (ka_F6 (kf_N_frames hk0) (aw_in_lt g_85)) e_94) rfl (gw_sub (gw_V xg_F_open ml_N_25 im_F_open se_F_open wi_F)) na_F_open (rm_lt (by omega) (by decide)) ⟨Nat.zero_le _, Nat.zero_le _⟩ (k0 + 1 + 1 + (Int32.toNatClampNeg (a2 + (1 : Int32)))) (at_F (ka_F6 (kf_N_frames hk0) (aw_in_lt g_85))) rfl rfl (Nat.le_of_ble_eq_true rfl) xd_N_enter_94 ?_
            refine aw_aload_n C 3 xd_N_enter_97 rfl rfl ?_
            refine aw_aload_n C 4 xd_N_enter_98 rfl rfl ?_
            refine aw_iload_n C 5 xd_N_enter_99 rfl rfl ?_
            refine aw_iconst (v := (1 : Int32)) C xd_N_enter_100 (by decide) ?_
            refine aw_iadd C xd_N_enter_101 ?_
            refine aw_iconst (v := (0 : Int32)) C xd_N_enter_102 (by decide) ?_
            obtain ⟨q_103, e_103, hm⟩ := aw_bnd hm
            refine aw_callVi (As := [.ref (ad k1), .int (a2 + (1 : Int32)), .int (0 : Int32)]) (rest := []) (b := ad k0) C (hW q_94 k0 k1 (a2 + (1 : Int32)) (0 : Int32) _ hk0 hk1 e_103) rfl (gw_sub (gw_V xg_N_work ml_N_29 im_N_work se_N_work wi_N)) na_N_work (rm_lt (by omega) (by decide)) ⟨Nat.zero_le _, Nat.zero_le _⟩ k0 (at_N hk0) rfl rfl (Nat.le_of_ble_eq_true rfl) xd_N_enter_103 ?_
            cases hm
            exact aw_iret C xd_N_enter_106
          · rw [if_neg c_68] at hm
            refine aw_aload_n C 3 xd_N_enter_71 rfl rfl ?_
            refine aw_bipush (v := (-9 : Int32)) C xd_N_enter_72 (by decide) ?_
            obtain ⟨q_74, e_74, hm⟩ := aw_bnd hm
            refine aw_callVi (As := [.int (-9 : Int32)]) (rest := []) (b := ad k0) C (xc_N_fail q_21.2 k0 (-9 : Int32) _ hk0 e_74) rfl (gw_sub (gw_V xg_N_fail ml_N_66 im_N_fail se_N_fail wi_N)) na_N_fail (rm_lt (by omega) (by decide)) ⟨Nat.zero_le _, Nat.zero_le _⟩ k0 (at_N hk0) rfl rfl (Nat.le_of_ble_eq_true rfl) xd_N_enter_74 ?_
            cases hm
            exact aw_iret C xd_N_enter_77
        · rw [if_pos c_61] at hm
          refine aw_iconst (v := (0 : Int32)) C xd_N_enter_64 (by decide) ?_
          cases hm
          exact aw_iret C xd_N_enter_65
    · rw [if_neg c_33] at hm
      refine aw_aload_n C 2 xd_N_enter_36 rfl rfl ?_
      refine aw_aload_n C 3 xd_N_enter_37 rfl rfl ?_
      refine aw_iload_n C 4 xd_N_enter_38 rfl rfl ?_
      refine aw_iload_n C 5 xd_N_enter_39 rfl rfl ?_
      refine aw_iconst (v := (1 : Int32)) C xd_N_enter_40 (by decide) ?_
      refine aw_iadd C xd_N_enter_41 ?_
      obtain ⟨q_42, e_42, hm⟩ := aw_bnd hm
      refine aw_callVi (As := [.ref (ad k1), .int a2, .int (a3 + (1 : Int32))]) (rest := []) (b := ad k0) C (hW q_21.2 k0 k1 a2 (a3 + (1 : Int32)) _ hk0 hk1 e_42) rfl (gw_sub (gw_V xg_N_work ml_N_29 im_N_work se_N_work wi_N)) na_N_work (rm_lt (by omega) (by decide)) ⟨Nat.zero_le _, Nat.zero_le _⟩ k0 (at_N hk0) rfl rfl (Nat.le_of_ble_eq_true rfl) xd_N_enter_42 ?_
      refine aw_goto (tgt := 49) C xd_N_enter_45 (by decide) ?_
      refine aw_istore (L' := [(8, .int q_42.1), (7, .int q_21.1), (6, .int q_5), (0, .ref (ad k0)), (1, .ref (ad k1)), (2, .int a2), (3, .int a3), (4, .int a4), (5, .int a5)]) C xd_N_enter_49 (by decide) rfl ?_
      refine aw_aload_n C 3 xd_N_enter_51 rfl rfl ?_
      refine aw_get C k0 (kd_lt hk0) (ly_N hk0) rfl (fun w h => List.mem_cons_of_mem _ (xi_N w h)) 2 (by decide) rfl (List.mem_cons_of_mem _ fl_N_22) xd_N_enter_52 ?_
      refine aw_if_ne (tgt := 64) C xd_N_enter_55 (by decide) (fun c_55 => ?_) (fun c_55 => ?_)
      · rw [if_neg c_55] at hm
        refine aw_iconst (v := (0 : Int32)) C xd_N_enter_64 (by decide) ?_
        cases hm
        exact aw_iret C xd_N_enter_65
      · rw [if_pos c_55] at hm
        refine aw_iload C 2 xd_N_enter_58 rfl ?_
        refine aw_iconst (v := (-1 : Int32)) C xd_N_enter_60 (by decide) ?_
        refine aw_icmp_ne (tgt := 66) C xd_N_enter_61 (by decide) (fun c_61 => ?_) (fun c_61 => ?_)
        · rw [if_neg c_61] at hm
          refine aw_iload_n C 5 xd_N_enter_66 rfl rfl ?_
          refine aw_iconst (v := (5 : Int32)) C xd_N_enter_67 (by decide) ?_
          refine aw_icmp_lt (tgt := 78) C xd_N_enter_68 (by decide) (fun c_68 => ?_) (fun c_68 => ?_)
          · rw [if_pos c_68] at hm
            refine aw_aload_n C 3 xd_N_enter_78 rfl rfl ?_
            refine aw_get C k0 (kd_lt hk0) (ly_N hk0) rfl (fun w h => List.mem_cons_of_mem _ (xi_N w h)) 0 (by decide) rfl (List.mem_cons_of_mem _ fl_N_11) xd_N_enter_79 ?_
            refine aw_iload_n C 5 xd_N_enter_82 rfl rfl ?_
            refine aw_iconst (v := (1 : Int32)) C xd_N_enter_83 (by decide) ?_
            refine aw_iadd C xd_N_enter_84 ?_
            obtain ⟨g_85, hm⟩ := aw_grd hm
            refine aw_aald C (k0 + 1) (kd_lt (kf_N_frames hk0)) 4 (ly_F6 (kf_N_frames hk0)) rfl (aw_in_ok g_85) rfl xd_N_enter_85 ?_
            refine aw_iload C 7 xd_N_enter_86 rfl ?_
            refine aw_iload C 8 xd_N_enter_88 rfl ?_
            refine aw_iload C 1 xd_N_enter_90 rfl ?_
            refine aw_iload C 0 xd_N_enter_92 rfl ?_
            obtain ⟨q_94, e_94, hm⟩ := aw_bnd hm
            refine aw_callVv (As := [.int a4, .int a5, .int q_21.1, .int q_42.1]) (rest := []) (b := ad (k0 + 1 + 1 + (Int32.toNatClampNeg (a2 + (1 : Int32))))) C (xc_F_open q_42.2 (k0 + 1 + 1 + (Int32.toNatClampNeg (a2 + (1 : Int32)))) a4 a5 q_21.1 q_42.1 _ (ka_F6 (kf_N_frames hk0) (aw_in_lt g_85)) e_94) rfl (gw_sub (gw_V xg_F_open ml_N_25 im_F_open se_F_open wi_F)) na_F_open (rm_lt (by omega) (by decide)) ⟨Nat.zero_le _, Nat.zero_le _⟩ (k0 + 1 + 1 + (Int32.toNatClampNeg (a2 + (1 : Int32)))) (at_F (ka_F6 (kf_N_frames hk0) (aw_in_lt g_85))) rfl rfl (Nat.le_of_ble_eq_true rfl) xd_N_enter_94 ?_
            refine aw_aload_n C 3 xd_N_enter_97 rfl rfl ?_
            refine aw_aload_n C 4 xd_N_enter_98 rfl rfl ?_
            refine aw_iload_n C 5 xd_N_enter_99 rfl rfl ?_
            refine aw_iconst (v := (1 : Int32)) C xd_N_enter_100 (by decide) ?_
            refine aw_iadd C xd_N_enter_101 ?_
            refine aw_iconst (v := (0 : Int32)) C xd_N_enter_102 (by decide) ?_
            obtain ⟨q_103, e_103, hm⟩ := aw_bnd hm
            refine aw_callVi (As := [.ref (ad k1), .int (a2 + (1 : Int32)), .int (0 : Int32)]) (rest := []) (b := ad k0) C (hW q_94 k0 k1 (a2 + (1 : Int32)) (0 : Int32) _ hk0 hk1 e_103) rfl (gw_sub (gw_V xg_N_work ml_N_29 im_N_work se_N_work wi_N)) na_N_work (rm_lt (by omega) (by decide)) ⟨Nat.zero_le _, Nat.zero_le _⟩ k0 (at_N hk0) rfl rfl (Nat.le_of_ble_eq_true rfl) xd_N_enter_103 ?_
            cases hm
            exact aw_iret C xd_N_enter_106
          · rw [if_neg c_68] at hm
            refine aw_aload_n C 3 xd_N_enter_71 rfl rfl ?_
            refine aw_bipush (v := (-9 : Int32)) C xd_N_enter_72 (by decide) ?_
            obtain ⟨q_74, e_74, hm⟩ := aw_bnd hm
            refine aw_callVi (As := [.int (-9 : Int32)]) (rest := []) (b := ad k0) C (xc_N_fail q_42.2 k0 (-9 : Int32) _ hk0 e_74) rfl (gw_sub (gw_V xg_N_fail ml_N_66 im_N_fail se_N_fail wi_N)) na_N_fail (rm_lt (by omega) (by decide)) ⟨Nat.zero_le _, Nat.zero_le _⟩ k0 (at_N hk0) rfl rfl (Nat.le_of_ble_eq_true rfl) xd_N_enter_74 ?_
            cases hm
            exact aw_iret C xd_N_enter_77
        · rw [if_pos c_61] at hm
          refine aw_iconst (v := (0 : Int32)) C xd_N_enter_64 (by decide) ?_
          cases hm
          exact aw_iret C xd_N_enter_65
def xm_N_combine (W : aw_m → Nat → Nat → Int32 → Int32 → Option (Int32 × aw_m)) (σ : aw_m) (k0 : Nat) (k1 : Nat) (a2 : Int32) (a3 : Int32) (a4 : Int32) : Option (Int32 × aw_m) := (W σ k0 k1 a2 (a3 + (1 : Int32))).bind fun q_6 => (W q_6.2 k0 k1 a2 (a3 + (1 : Int32))).bind fun q_17 => (if q_17.2 k0 2 = 0 then (if a4 = (4 : Int32) then some (q_6.1 + q_17.1, q_17.2) else (if a4 = (5 : Int32) then some (q_6.1 - q_17.1, q_17.2) else (if a4 = (6 : Int32) then some (q_6.1 * q_17.1, q_17.2) else (if a4 = (7 : Int32) then (if q_17.1 = 0 then (xm_N_fail q_17.2 k0 (-8 : Int32)).bind fun q_102 => some (q_102.1, q_102.2) else if ¬ q_17.1 = 0 then some (q_6.1 / q_17.1, q_17.2) else none) else (if a4 = (8 : Int32) then (if q_17.1 ≤ q_6.1 then some ((0 : Int32), q_17.2) else some ((1 : Int32), q_17.2)) else (if a4 = (9 : Int32) then some ((0 : Int32), q_17.2) else (if a4 = (10 : Int32) then some (q_17.1, q_17.2) else some ((0 : Int32), q_17.2)))))))) else some ((0 : Int32), q_17.2))
set_option maxHeartbeats 4000000 in
set_option maxRecDepth 100000 in
theorem xc_N_combine (W : aw_m → Nat → Nat → Int32 → Int32 → Option (Int32 × aw_m)) (dw : Nat) (hW : ∀ (σ : aw_m) (k0 : Nat) (k1 : Nat) (a2 : Int32) (a3 : Int32) (q : Int32 × aw_m) (hk0 : kd_k k0 = 12) (hk1 : kd_k k1 = 8), W σ k0 k1 a2 a3 = some q → aw_M l D (ty_z ids) (zs_T ps) xy_N_work (xw_N_work :: gw_l) (rm_D (dw)) [.ref (ad k0), .ref (ad k1), .int a2, .int a3] (cw_w ad ids σ) (some (.int q.1)) (cw_w ad ids q.2)) (σ : aw_m) (k0 : Nat) (k1 : Nat) (a2 : Int32) (a3 : Int32) (a4 : Int32) (q : Int32 × aw_m) (hk0 : kd_k k0 = 12) (hk1 : kd_k k1 = 8) (hm : xm_N_combine W σ k0 k1 a2 a3 a4 = some q) : aw_M l D (ty_z ids) (zs_T ps) xy_N_combine (xw_N_combine :: gw_l) (rm_D (dw + 1)) [.ref (ad k0), .ref (ad k1), .int a2, .int a3, .int a4] (cw_w ad ids σ) (some (.int q.1)) (cw_w ad ids q.2) := by
  refine aw_intro (cc := xb_N_combine) (n := 7) (ret := (some .int)) "ModuleShelf$Machine" rfl (by decide) rfl (Nat.le_of_ble_eq_true rfl) ?_
  intro κ C
  unfold xm_N_combine at hm
  refine aw_aload_n C 0 xd_N_combine_0 rfl rfl ?_
  refine aw_aload_n C 1 xd_N_combine_1 rfl rfl ?_
  refine aw_iload_n C 2 xd_N_combine_2 rfl rfl ?_
  refine aw_iload_n C 3 xd_N_combine_3 rfl rfl ?_
  refine aw_iconst (v := (1 : Int32)) C xd_N_combine_4 (by decide) ?_
  refine aw_iadd C xd_N_combine_5 ?_
  obtain ⟨q_6, e_6, hm⟩ := aw_bnd hm
  refine aw_callVi (As := [.ref (ad k1), .int a2, .int (a3 + (1 : Int32))]) (rest := []) (b := ad k0) C (hW σ k0 k1 a2 (a3 + (1 : Int32)) _ hk0 hk1 e_6) rfl (gw_sub (gw_V xg_N_work ml_N_29 im_N_work se_N_work wi_N)) na_N_work (rm_lt (by omega) (by decide)) ⟨Nat.zero_le _, Nat.zero_le _⟩ k0 (at_N hk0) rfl rfl (Nat.le_of_ble_eq_true rfl) xd_N_combine_6 ?_
  refine aw_istore (L' := [(5, .int q_6.1), (0, .ref (ad k0)), (1, .ref (ad k1)), (2, .int a2), (3, .int a3), (4, .int a4)]) C xd_N_combine_9 (by decide) rfl ?_
  refine aw_aload_n C 1 xd_N_combine_11 rfl rfl ?_
  refine aw_aload_n C 2 xd_N_combine_12 rfl rfl ?_
  refine aw_iload_n C 3 xd_N_combine_13 rfl rfl ?_
  refine aw_iload_n C 4 xd_N_combine_14 rfl rfl ?_
  refine aw_iconst (v := (1 : Int32)) C xd_N_combine_15 (by decide) ?_
  refine aw_iadd C xd_N_combine_16 ?_
  obtain ⟨q_17, e_17, hm⟩ := aw_bnd hm
  refine aw_callVi (As := [.ref (ad k1), .int a2, .int (a3 + (1 : Int32))]) (rest := []) (b := ad k0) C (hW q_6.2 k0 k1 a2 (a3 + (1 : Int32)) _ hk0 hk1 e_17) rfl (gw_sub (gw_V xg_N_work ml_N_29 im_N_work se_N_work wi_N)) na_N_work (rm_lt (by omega) (by decide)) ⟨Nat.zero_le _, Nat.zero_le _⟩ k0 (at_N hk0) rfl rfl (Nat.le_of_ble_eq_true rfl) xd_N_combine_17 ?_
  refine aw_istore (L' := [(6, .int q_17.1), (5, .int q_6.1), (0, .ref (ad k0)), (1, .ref (ad k1)), (2, .int a2), (3, .int a3), (4, .int a4)]) C xd_N_combine_20 (by decide) rfl ?_
  refine aw_aload_n C 2 xd_N_combine_22 rfl rfl ?_
  refine aw_get C k0 (kd_lt hk0) (ly_N hk0) rfl (fun w h => List.mem_cons_of_mem _ (xi_N w h)) 2 (by decide) rfl (List.mem_cons_of_mem _ fl_N_22) xd_N_combine_23 ?_
  refine aw_if_eq (tgt := 31) C xd_N_combine_26 (by decide) (fun c_26 => ?_) (fun c_26 => ?_)
  · rw [if_pos c_26] at hm
    refine aw_iload C 6 xd_N_combine_31 rfl ?_
    by_cases c_33_4 : a4 = (4 : Int32)
    · rw [if_pos c_33_4] at hm
      refine aw_tabIn (off := 43) (tgt := 76) C xd_N_combine_33 (by rw [c_33_4]; decide) (by rw [c_33_4]; decide) (by rw [c_33_4]; rfl) (by decide) ?_
      refine aw_iload C 1 xd_N_combine_76 rfl ?_
      refine aw_iload C 0 xd_N_combine_78 rfl ?_
      refine aw_iadd C xd_N_combine_80 ?_
      cases hm
      exact aw_iret C xd_N_combine_81
    rw [if_neg c_33_4] at hm
    by_cases c_33_5 : a4 = (5 : Int32)
    · rw [if_pos c_33_5] at hm
      refine aw_tabIn (off := 49) (tgt := 82) C xd_N_combine_33 (by rw [c_33_5]; decide) (by rw [c_33_5]; decide) (by rw [c_33_5]; rfl) (by decide) ?_
      refine aw_iload C 1 xd_N_combine_82 rfl ?_
      refine aw_iload C 0 xd_N_combine_84 rfl ?_
      refine aw_isub C xd_N_combine_86 ?_
      cases hm
      exact aw_iret C xd_N_combine_87
    rw [if_neg c_33_5] at hm
    by_cases c_33_6 : a4 = (6 : Int32)
    · rw [if_pos c_33_6] at hm
      refine aw_tabIn (off := 55) (tgt := 88) C xd_N_combine_33 (by rw [c_33_6]; decide) (by rw [c_33_6]; decide) (by rw [c_33_6]; rfl) (by decide) ?_
      refine aw_iload C 1 xd_N_combine_88 rfl ?_
      refine aw_iload C 0 xd_N_combine_90 rfl ?_
      refine aw_imul C xd_N_combine_92 ?_
      cases hm
      exact aw_iret C xd_N_combine_93
    rw [if_neg c_33_6] at hm
    by_cases c_33_7 : a4 = (7 : Int32)
    · rw [if_pos c_33_7] at hm
      refine aw_tabIn (off := 61) (tgt := 94) C xd_N_combine_33 (by rw [c_33_7]; decide) (by rw [c_33_7]; decide) (by rw [c_33_7]; rfl) (by decide) ?_
      refine aw_iload C 0 xd_N_combine_94 rfl ?_
      refine aw_if_ne (tgt := 108) C xd_N_combine_96 (by decide) (fun c_96 => ?_) (fun c_96 => ?_)
      · rw [if_neg c_96] at hm
        refine aw_iload C 1 xd_N_combine_108 rfl ?_
        refine aw_iload C 0 xd_N_combine_110 rfl ?_
        obtain ⟨g_112, hm⟩ := aw_grd hm
        refine aw_idiv C xd_N_combine_112 g_112 ?_
        cases hm
        exact aw_iret C xd_N_combine_113
      · rw [if_pos c_96] at hm
        refine aw_aload_n C 2 xd_N_combine_99 rfl rfl ?_
        refine aw_bipush (v := (-8 : Int32)) C xd_N_combine_100 (by decide) ?_
        obtain ⟨q_102, e_102, hm⟩ := aw_bnd hm
        refine aw_callVi (As := [.int (-8 : Int32)]) (rest := []) (b := ad k0) C (xc_N_fail q_17.2 k0 (-8 : Int32) _ hk0 e_102) rfl (gw_sub (gw_V xg_N_fail ml_N_66 im_N_fail se_N_fail wi_N)) na_N_fail (rm_lt (by omega) (by decide)) ⟨Nat.zero_le _, Nat.zero_le _⟩ k0 (at_N hk0) rfl rfl (Nat.le_of_ble_eq_true rfl) xd_N_combine_102 ?_
        refine aw_goto (tgt := 113) C xd_N_combine_105 (by decide) ?_
        cases hm
        exact aw_iret C xd_N_combine_113
    rw [if_neg c_33_7] at hm
    by_cases c_33_8 : a4 = (8 : Int32)
    · rw [if_pos c_33_8] at hm
      refine aw_tabIn (off := 81) (tgt := 114) C xd_N_combine_33 (by rw [c_33_8]; decide) (by rw [c_33_8]; decide) (by rw [c_33_8]; rfl) (by decide) ?_
      refine aw_iload C 1 xd_N_combine_114 rfl ?_
      refine aw_iload C 0 xd_N_combine_116 rfl ?_
      refine aw_icmp_ge (tgt := 125) C xd_N_combine_118 (by decide) (fun c_118 => ?_) (fun c_118 => ?_)
      · rw [if_pos c_118] at hm
        refine aw_iconst (v := (0 : Int32)) C xd_N_combine_125 (by decide) ?_
        cases hm
        exact aw_iret C xd_N_combine_126
      · rw [if_neg c_118] at hm
        refine aw_iconst (v := (1 : Int32)) C xd_N_combine_121 (by decide) ?_
        refine aw_goto (tgt := 126) C xd_N_combine_122 (by decide) ?_
        cases hm
        exact aw_iret C xd_N_combine_126
    rw [if_neg c_33_8] at hm
    by_cases c_33_9 : a4 = (9 : Int32)
    · rw [if_pos c_33_9] at hm
      refine aw_tabIn (off := 97) (tgt := 130) C xd_N_combine_33 (by rw [c_33_9]; decide) (by rw [c_33_9]; decide) (by rw [c_33_9]; rfl) (by decide) ?_
      refine aw_iconst (v := (0 : Int32)) C xd_N_combine_130 (by decide) ?_
      cases hm
      exact aw_iret C xd_N_combine_131
    rw [if_neg c_33_9] at hm
    by_cases c_33_10 : a4 = (10 : Int32)
    · rw [if_pos c_33_10] at hm
      refine aw_tabIn (off := 94) (tgt := 127) C xd_N_combine_33 (by rw [c_33_10]; decide) (by rw [c_33_10]; decide) (by rw [c_33_10]; rfl) (by decide) ?_
      refine aw_iload C 0 xd_N_combine_127 rfl ?_
      cases hm
      exact aw_iret C xd_N_combine_129
    rw [if_neg c_33_10] at hm
    have t_33_4 := lv_neT c_33_4 (a := 4) (by decide)
    have t_33_5 := lv_neT c_33_5 (a := 5) (by decide)
    have t_33_6 := lv_neT c_33_6 (a := 6) (by decide)
    have t_33_7 := lv_neT c_33_7 (a := 7) (by decide)
    have t_33_8 := lv_neT c_33_8 (a := 8) (by decide)
    have t_33_9 := lv_neT c_33_9 (a := 9) (by decide)
    have t_33_10 := lv_neT c_33_10 (a := 10) (by decide)
    refine aw_tabOut (tgt := 130) C xd_N_combine_33 (by omega) (by decide) ?_
    refine aw_iconst (v := (0 : Int32)) C xd_N_combine_130 (by decide) ?_
    cases hm
    exact aw_iret C xd_N_combine_131
  · rw [if_neg c_26] at hm
    refine aw_iconst (v := (0 : Int32)) C xd_N_combine_29 (by decide) ?_
    cases hm
    exact aw_iret C xd_N_combine_30
def xm_N_work_b (W : aw_m → Nat → Nat → Int32 → Int32 → Option (Int32 × aw_m)) (σ : aw_m) (k0 : Nat) (k1 : Nat) (a2 : Int32) (a3 : Int32) : Option (Int32 × aw_m) := if aw_in a2 6 = true then if aw_in (σ (k0 + 1 + 1 + (Int32.toNatClampNeg a2)) 0) 6 = true then (if σ k0 2 = 0 then (if (4 : Int32) < a3 then some ((0 : Int32), σ) else (xm_C_lengthOf σ (((k1 + 1 + 2 + 11 * (Int32.toNatClampNeg (σ (k0 + 1 + 1 + (Int32.toNatClampNeg a2)) 0))) + 1) + 3) (σ (k0 + 1 + 1 + (Int32.toNatClampNeg a2)) 1)).bind fun q_50 => (if σ (k0 + 1 + 1 + (Int32.toNatClampNeg a2)) 4 < q_50 then (if σ k0 1 < (120 : Int32) then aw_l (aw_p σ k0 1 ((σ k0 1) + (1 : Int32))) fun s_81 => (xm_C_cellOf s_81 (((k1 + 1 + 2 + 11 * (Int32.toNatClampNeg (σ (k0 + 1 + 1 + (Int32.toNatClampNeg a2)) 0))) + 1) + 3) (s_81 (k0 + 1 + 1 + (Int32.toNatClampNeg a2)) 1) (s_81 (k0 + 1 + 1 + (Int32.toNatClampNeg a2)) 4)).bind fun q_96 => aw_l (aw_p s_81 (k0 + 1 + 1 + (Int32.toNatClampNeg a2)) 4 ((s_81 (k0 + 1 + 1 + (Int32.toNatClampNeg a2)) 4) + (1 : Int32))) fun s_109 => if aw_in q_96 42 = true then if aw_in q_96 42 = true then if aw_in q_96 42 = true then (if s_109 ((((k1 + 1 + 2 + 11 * (Int32.toNatClampNeg (σ (k0 + 1 + 1 + (Int32.toNatClampNeg a2)) 0))) + 1) + 3) + 3) (Int32.toNatClampNeg q_96) = (0 : Int32) then some (s_109 ((((k1 + 1 + 2 + 11 * (Int32.toNatClampNeg (σ (k0 + 1 + 1 + (Int32.toNatClampNeg a2)) 0))) + 1) + 3) + 4) (Int32.toNatClampNeg q_96), s_109) else (if s_109 ((((k1 + 1 + 2 + 11 * (Int32.toNatClampNeg (σ (k0 + 1 + 1 + (Int32.toNatClampNeg a2)) 0))) + 1) + 3) + 3) (Int32.toNatClampNeg q_96) = (1 : Int32) then (if s_109 ((((k1 + 1 + 2 + 11 * (Int32.toNatClampNeg (σ (k0 + 1 + 1 + (Int32.toNatClampNeg a2)) 0))) + 1) + 3) + 4) (Int32.toNatClampNeg q_96) = 0 then some (s_109 (k0 + 1 + 1 + (Int32.toNatClampNeg a2)) 2, s_109) else some (s_109 (k0 + 1 + 1 + (Int32.toNatClampNeg a2)) 3, s_109)) else (if s_109 ((((k1 + 1 + 2 + 11 * (Int32.toNatClampNeg (σ (k0 + 1 + 1 + (Int32.toNatClampNeg a2)) 0))) + 1) + 3) + 3) (Int32.toNatClampNeg q_96) = (2 : Int32) then (xm_M_valueOf s_109 k1 (s_109 ((((k1 + 1 + 2 + 11 * (Int32.toNatClampNeg (σ (k0 + 1 + 1 + (Int32.toNatClampNeg a2)) 0))) + 1) + 3) + 4) (Int32.toNatClampNeg q_96)) (s_109 ((((k1 + 1 + 2 + 11 * (Int32.toNatClampNeg (σ (k0 + 1 + 1 + (Int32.toNatClampNeg a2)) 0))) + 1) + 3) + 5) (Int32.toNatClampNeg q_96))).bind fun q_231 => some (q_231, s_109) else (if s_109 ((((k1 + 1 + 2 + 11 * (Int32.toNatClampNeg (σ (k0 + 1 + 1 + (Int32.toNatClampNeg a2)) 0))) + 1) + 3) + 3) (Int32.toNatClampNeg q_96) = (3 : Int32) then (xm_N_assign W s_109 k0 k1 a2 a3 (s_109 ((((k1 + 1 + 2 + 11 * (Int32.toNatClampNeg (σ (k0 + 1 + 1 + (Int32.toNatClampNeg a2)) 0))) + 1) + 3) + 5) (Int32.toNatClampNeg q_96))).bind fun q_241 => some (q_241.1, q_241.2) else (if s_109 ((((k1 + 1 + 2 + 11 * (Int32.toNatClampNeg (σ (k0 + 1 + 1 + (Int32.toNatClampNeg a2)) 0))) + 1) + 3) + 3) (Int32.toNatClampNeg q_96) = (4 : Int32) then if aw_in q_96 42 = true then (xm_N_combine W s_109 k0 k1 a2 a3 (s_109 ((((k1 + 1 + 2 + 11 * (Int32.toNatClampNeg (σ (k0 + 1 + 1 + (Int32.toNatClampNeg a2)) 0))) + 1) + 3) + 3) (Int32.toNatClampNeg q_96))).bind fun q_277 => some (q_277.1, q_277.2) else none else (if s_109 ((((k1 + 1 + 2 + 11 * (Int32.toNatClampNeg (σ (k0 + 1 + 1 + (Int32.toNatClampNeg a2)) 0))) + 1) + 3) + 3) (Int32.toNatClampNeg q_96) = (5 : Int32) then if aw_in q_96 42 = true then (xm_N_combine W s_109 k0 k1 a2 a3 (s_109 ((((k1 + 1 + 2 + 11 * (Int32.toNatClampNeg (σ (k0 + 1 + 1 + (Int32.toNatClampNeg a2)) 0))) + 1) + 3) + 3) (Int32.toNatClampNeg q_96))).bind fun q_277 => some (q_277.1, q_277.2) else none else (if s_109 ((((k1 + 1 + 2 + 11 * (Int32.toNatClampNeg (σ (k0 + 1 + 1 + (Int32.toNatClampNeg a2)) 0))) + 1) + 3) + 3) (Int32.toNatClampNeg q_96) = (6 : Int32) then if aw_in q_96 42 = true then (xm_N_combine W s_109 k0 k1 a2 a3 (s_109 ((((k1 + 1 + 2 + 11 * (Int32.toNatClampNeg (σ (k0 + 1 + 1 + (Int32.toNatClampNeg a2)) 0))) + 1) + 3) + 3) (Int32.toNatClampNeg q_96))).bind fun q_277 => some (q_277.1, q_277.2) else none else (if s_109 ((((k1 + 1 + 2 + 11 * (Int32.toNatClampNeg (σ (k0 + 1 + 1 + (Int32.toNatClampNeg a2)) 0))) + 1) + 3) + 3) (Int32.toNatClampNeg q_96) = (7 : Int32) then if aw_in q_96 42 = true then (xm_N_combine W s_109 k0 k1 a2 a3 (s_109 ((((k1 + 1 + 2 + 11 * (Int32.toNatClampNeg (σ (k0 + 1 + 1 + (Int32.toNatClampNeg a2)) 0))) + 1) + 3) + 3) (Int32.toNatClampNeg q_96))).bind fun q_277 => some (q_277.1, q_277.2) else none else (if s_109 ((((k1 + 1 + 2 + 11 * (Int32.toNatClampNeg (σ (k0 + 1 + 1 + (Int32.toNatClampNeg a2)) 0))) + 1) + 3) + 3) (Int32.toNatClampNeg q_96) = (8 : Int32) then if aw_in q_96 42 = true then (xm_N_combine W s_109 k0 k1 a2 a3 (s_109 ((((k1 + 1 + 2 + 11 * (Int32.toNatClampNeg (σ (k0 + 1 + 1 + (Int32.toNatClampNeg a2)) 0))) + 1) + 3) + 3) (Int32.toNatClampNeg q_96))).bind fun q_277 => some (q_277.1, q_277.2) else none else (if s_109 ((((k1 + 1 + 2 + 11 * (Int32.toNatClampNeg (σ (k0 + 1 + 1 + (Int32.toNatClampNeg a2)) 0))) + 1) + 3) + 3) (Int32.toNatClampNeg q_96) = (9 : Int32) then (xm_N_choose W s_109 k0 k1 a2 a3).bind fun q_249 => some (q_249.1, q_249.2) else (if s_109 ((((k1 + 1 + 2 + 11 * (Int32.toNatClampNeg (σ (k0 + 1 + 1 + (Int32.toNatClampNeg a2)) 0))) + 1) + 3) + 3) (Int32.toNatClampNeg q_96) = (10 : Int32) then if aw_in q_96 42 = true then (xm_N_combine W s_109 k0 k1 a2 a3 (s_109 ((((k1 + 1 + 2 + 11 * (Int32.toNatClampNeg (σ (k0 + 1 + 1 + (Int32.toNatClampNeg a2)) 0))) + 1) + 3) + 3) (Int32.toNatClampNeg q_96))).bind fun q_277 => some (q_277.1, q_277.2) else none else (if s_109 ((((k1 + 1 + 2 + 11 * (Int32.toNatClampNeg (σ (k0 + 1 + 1 + (Int32.toNatClampNeg a2)) 0))) + 1) + 3) + 3) (Int32.toNatClampNeg q_96) = (11 : Int32) then (xm_N_enter W s_109 k0 k1 a2 a3 (s_109 ((((k1 + 1 + 2 + 11 * (Int32.toNatClampNeg (σ (k0 + 1 + 1 + (Int32.toNatClampNeg a2)) 0))) + 1) + 3) + 4) (Int32.toNatClampNeg q_96)) (s_109 ((((k1 + 1 + 2 + 11 * (Int32.toNatClampNeg (σ (k0 + 1 + 1 + (Int32.toNatClampNeg a2)) 0))) + 1) + 3) + 5) (Int32.toNatClampNeg q_96))).bind fun q_261 => some (q_261.1, q_261.2) else if aw_in q_96 42 = true then (xm_N_combine W s_109 k0 k1 a2 a3 (s_109 ((((k1 + 1 + 2 + 11 * (Int32.toNatClampNeg (σ (k0 + 1 + 1 + (Int32.toNatClampNeg a2)) 0))) + 1) + 3) + 3) (Int32.toNatClampNeg q_96))).bind fun q_277 => some (q_277.1, q_277.2) else none)))))))))))) else none else none else none else (xm_N_fail σ k0 (-10 : Int32)).bind fun q_70 => some (q_70.1, q_70.2)) else some ((0 : Int32), σ))) else some ((0 : Int32), σ)) else none else none
def xm_N_work : Nat → aw_m → Nat → Nat → Int32 → Int32 → Option (Int32 × aw_m)
  | 0 => fun _ _ _ _ _ => none
  | d + 1 => xm_N_work_b (xm_N_work d)
set_option maxHeartbeats 4000000 in
set_option maxRecDepth 100000 in
theorem xc_N_work_b (W : aw_m → Nat → Nat → Int32 → Int32 → Option (Int32 × aw_m)) (dw : Nat) (hW : ∀ (σ : aw_m) (k0 : Nat) (k1 : Nat) (a2 : Int32) (a3 : Int32) (q : Int32 × aw_m) (hk0 : kd_k k0 = 12) (hk1 : kd_k k1 = 8), W σ k0 k1 a2 a3 = some q → aw_M l D (ty_z ids) (zs_T ps) xy_N_work (xw_N_work :: gw_l) (rm_D (dw)) [.ref (ad k0), .ref (ad k1), .int a2, .int a3] (cw_w ad ids σ) (some (.int q.1)) (cw_w ad ids q.2)) (σ : aw_m) (k0 : Nat) (k1 : Nat) (a2 : Int32) (a3 : Int32) (q : Int32 × aw_m) (hk0 : kd_k k0 = 12) (hk1 : kd_k k1 = 8) (hm : xm_N_work_b W σ k0 k1 a2 a3 = some q) : aw_M l D (ty_z ids) (zs_T ps) xy_N_work (xw_N_work :: gw_l) (rm_D (dw + 6)) [.ref (ad k0), .ref (ad k1), .int a2, .int a3] (cw_w ad ids σ) (some (.int q.1)) (cw_w ad ids q.2) := by
  refine aw_intro (cc := xb_N_work) (n := 9) (ret := (some .int)) "ModuleShelf$Machine" rfl (by decide) rfl (Nat.le_of_ble_eq_true rfl) ?_
  intro κ C
  unfold xm_N_work_b at hm
  refine aw_aload_n C 0 xd_N_work_0 rfl rfl ?_
  refine aw_get C k0 (kd_lt hk0) (ly_N hk0) rfl (fun w h => List.mem_cons_of_mem _ (xi_N w h)) 0 (by decide) rfl (List.mem_cons_of_mem _ fl_N_11) xd_N_work_1 ?_
  refine aw_iload_n C 2 xd_N_work_4 rfl rfl ?_
  obtain ⟨g_5, hm⟩ := aw_grd hm
  refine aw_aald C (k0 + 1) (kd_lt (kf_N_frames hk0)) 4 (ly_F6 (kf_N_frames hk0)) rfl (aw_in_ok g_5) rfl xd_N_work_5 ?_
  refine aw_astore (L' := [(4, .ref (ad (k0 + 1 + 1 + (Int32.toNatClampNeg a2)))), (0, .ref (ad k0)), (1, .ref (ad k1)), (2, .int a2), (3, .int a3)]) C xd_N_work_6 (by decide) rfl ?_
  refine aw_aload_n C 2 xd_N_work_8 rfl rfl ?_
  refine aw_get C k1 (kd_lt hk1) (ly_M hk1) rfl (fun w h => List.mem_cons_of_mem _ (xi_M w h)) 0 (by decide) rfl (List.mem_cons_of_mem _ fl_N_33) xd_N_work_9 ?_
  refine aw_aload C 0 xd_N_work_12 rfl ?_
  refine aw_get C (k0 + 1 + 1 + (Int32.toNatClampNeg a2)) (kd_lt (ka_F6 (kf_N_frames hk0) (aw_in_lt g_5))) (ly_F (ka_F6 (kf_N_frames hk0) (aw_in_lt g_5))) rfl (fun w h => List.mem_cons_of_mem _ (xi_F w h)) 0 (by decide) rfl (List.mem_cons_of_mem _ fl_N_39) xd_N_work_14 ?_
  obtain ⟨g_17, hm⟩ := aw_grd hm
  refine aw_aald C (k1 + 1) (kd_lt (kf_M_images hk1)) 3 (ly_I6 (kf_M_images hk1)) rfl (aw_in_ok g_17) rfl xd_N_work_17 ?_
  refine aw_get C (k1 + 1 + 2 + 11 * (Int32.toNatClampNeg (σ (k0 + 1 + 1 + (Int32.toNatClampNeg a2)) 0))) (kd_lt (ka_I6 (kf_M_images hk1) (aw_in_lt g_17))) (ly_I (ka_I6 (kf_M_images hk1) (aw_in_lt g_17))) rfl (fun w h => List.mem_cons_of_mem _ (xi_I w h)) 0 (by decide) rfl (List.mem_cons_of_mem _ fl_N_42) xd_N_work_18 ?_
  refine aw_get C ((k1 + 1 + 2 + 11 * (Int32.toNatClampNeg (σ (k0 + 1 + 1 + (Int32.toNatClampNeg a2)) 0))) + 1) (kd_lt (kf_I_unit (ka_I6 (kf_M_images hk1) (aw_in_lt g_17)))) (ly_U (kf_I_unit (ka_I6 (kf_M_images hk1) (aw_in_lt g_17)))) rfl (fun w h => List.mem_cons_of_mem _ (xi_U w h)) 5 (by decide) rfl (List.mem_cons_of_mem _ fl_N_48) xd_N_work_21 ?_
  refine aw_astore (L' := [(5, .ref (ad (((k1 + 1 + 2 + 11 * (Int32.toNatClampNeg (σ (k0 + 1 + 1 + (Int32.toNatClampNeg a2)) 0))) + 1) + 3))), (4, .ref (ad (k0 + 1 + 1 + (Int32.toNatClampNeg a2)))), (0, .ref (ad k0)), (1, .ref (ad k1)), (2, .int a2), (3, .int a3)]) C xd_N_work_24 (by decide) rfl ?_
  refine aw_aload_n C 2 xd_N_work_26 rfl rfl ?_
  refine aw_get C k0 (kd_lt hk0) (ly_N hk0) rfl (fun w h => List.mem_cons_of_mem _ (xi_N w h)) 2 (by decide) rfl (List.mem_cons_of_mem _ fl_N_22) xd_N_work_27 ?_
  refine aw_if_ne (tgt := 56) C xd_N_work_30 (by decide) (fun c_30 => ?_) (fun c_30 => ?_)
  · rw [if_neg c_30] at hm
    refine aw_iconst (v := (0 : Int32)) C xd_N_work_56 (by decide) ?_
    cases hm
    exact aw_iret C xd_N_work_57
  · rw [if_pos c_30] at hm
    refine aw_iload_n C 5 xd_N_work_33 rfl rfl ?_
    refine aw_iconst (v := (4 : Int32)) C xd_N_work_34 (by decide) ?_
    refine aw_icmp_gt (tgt := 56) C xd_N_work_35 (by decide) (fun c_35 => ?_) (fun c_35 => ?_)
    · rw [if_pos c_35] at hm
      refine aw_iconst (v := (0 : Int32)) C xd_N_work_56 (by decide) ?_
      cases hm
      exact aw_iret C xd_N_work_57
    · rw [if_neg c_35] at hm
      refine aw_aload C 1 xd_N_work_38 rfl ?_
      refine aw_get C (k0 + 1 + 1 + (Int32.toNatClampNeg a2)) (kd_lt (ka_F6 (kf_N_frames hk0) (aw_in_lt g_5))) (ly_F (ka_F6 (kf_N_frames hk0) (aw_in_lt g_5))) rfl (fun w h => List.mem_cons_of_mem _ (xi_F w h)) 4 (by decide) rfl (List.mem_cons_of_mem _ fl_N_54) xd_N_work_40 ?_
      refine aw_aload C 0 xd_N_work_43 rfl ?_
      refine aw_aload C 1 xd_N_work_45 rfl ?_
      refine aw_get C (k0 + 1 + 1 + (Int32.toNatClampNeg a2)) (kd_lt (ka_F6 (kf_N_frames hk0) (aw_in_lt g_5))) (ly_F (ka_F6 (kf_N_frames hk0) (aw_in_lt g_5))) rfl (fun w h => List.mem_cons_of_mem _ (xi_F w h)) 1 (by decide) rfl (List.mem_cons_of_mem _ fl_N_57) xd_N_work_47 ?_
      obtain ⟨q_50, e_50, hm⟩ := aw_bnd hm
      refine aw_callVi (As := [.int (σ (k0 + 1 + 1 + (Int32.toNatClampNeg a2)) 1)]) (rest := [.int (σ (k0 + 1 + 1 + (Int32.toNatClampNeg a2)) 4)]) (b := ad (((k1 + 1 + 2 + 11 * (Int32.toNatClampNeg (σ (k0 + 1 + 1 + (Int32.toNatClampNeg a2)) 0))) + 1) + 3)) C (xc_C_lengthOf σ (((k1 + 1 + 2 + 11 * (Int32.toNatClampNeg (σ (k0 + 1 + 1 + (Int32.toNatClampNeg a2)) 0))) + 1) + 3) (σ (k0 + 1 + 1 + (Int32.toNatClampNeg a2)) 1) _ (kf_U_code (kf_I_unit (ka_I6 (kf_M_images hk1) (aw_in_lt g_17)))) e_50) rfl (gw_sub (gw_V xg_C_lengthOf ml_N_60 im_C_lengthOf se_C_lengthOf wi_C)) na_C_lengthOf (rm_lt (by omega) (by decide)) ⟨Nat.zero_le _, Nat.zero_le _⟩ (((k1 + 1 + 2 + 11 * (Int32.toNatClampNeg (σ (k0 + 1 + 1 + (Int32.toNatClampNeg a2)) 0))) + 1) + 3) (at_C (kf_U_code (kf_I_unit (ka_I6 (kf_M_images hk1) (aw_in_lt g_17))))) rfl rfl (Nat.le_of_ble_eq_true rfl) xd_N_work_50 ?_
      refine aw_icmp_lt (tgt := 58) C xd_N_work_53 (by decide) (fun c_53 => ?_) (fun c_53 => ?_)
      · rw [if_pos c_53] at hm
        refine aw_aload_n C 2 xd_N_work_58 rfl rfl ?_
        refine aw_get C k0 (kd_lt hk0) (ly_N hk0) rfl (fun w h => List.mem_cons_of_mem _ (xi_N w h)) 1 (by decide) rfl (List.mem_cons_of_mem _ fl_N_18) xd_N_work_59 ?_
        refine aw_bipush (v := (120 : Int32)) C xd_N_work_62 (by decide) ?_
        refine aw_icmp_lt (tgt := 74) C xd_N_work_64 (by decide) (fun c_64 => ?_) (fun c_64 => ?_)
        · rw [if_pos c_64] at hm
          refine aw_aload_n C 2 xd_N_work_74 rfl rfl ?_
          refine aw_dup C xd_N_work_75 rfl ?_
          refine aw_get C k0 (kd_lt hk0) (ly_N hk0) rfl (fun w h => List.mem_cons_of_mem _ (xi_N w h)) 1 (by decide) rfl (List.mem_cons_of_mem _ fl_N_18) xd_N_work_76 ?_
          refine aw_iconst (v := (1 : Int32)) C xd_N_work_79 (by decide) ?_
          refine aw_iadd C xd_N_work_80 ?_
          obtain ⟨s_81, h_81, hm⟩ := aw_let hm
          refine aw_put (σ1 := s_81) (f := upd (σ k0) 1 ((σ k0 1) + (1 : Int32))) C k0 (kd_lt hk0) (ly_N hk0) rfl (fun w h => List.mem_cons_of_mem _ (xi_N w h)) xk_N xo_N xn_N 1 (by decide) (List.mem_cons_of_mem _ fl_N_18) rfl (ty := .int) (by decide +kernel) rfl rfl (Nat.le_of_ble_eq_true rfl) (ly_N hk0) h_81 xd_N_work_81 ?_
          refine aw_aload C 0 xd_N_work_84 rfl ?_
          refine aw_aload C 1 xd_N_work_86 rfl ?_
          refine aw_get C (k0 + 1 + 1 + (Int32.toNatClampNeg a2)) (kd_lt (ka_F6 (kf_N_frames hk0) (aw_in_lt g_5))) (ly_F (ka_F6 (kf_N_frames hk0) (aw_in_lt g_5))) rfl (fun w h => List.mem_cons_of_mem _ (xi_F w h)) 1 (by decide) rfl (List.mem_cons_of_mem _ fl_N_57) xd_N_work_88 ?_
          refine aw_aload C 1 xd_N_work_91 rfl ?_
          refine aw_get C (k0 + 1 + 1 + (Int32.toNatClampNeg a2)) (kd_lt (ka_F6 (kf_N_frames hk0) (aw_in_lt g_5))) (ly_F (ka_F6 (kf_N_frames hk0) (aw_in_lt g_5))) rfl (fun w h => List.mem_cons_of_mem _ (xi_F w h)) 4 (by decide) rfl (List.mem_cons_of_mem _ fl_N_54) xd_N_work_93 ?_
          obtain ⟨q_96, e_96, hm⟩ := aw_bnd hm
          refine aw_callVi (As := [.int (s_81 (k0 + 1 + 1 + (Int32.toNatClampNeg a2)) 1), .int (s_81 (k0 + 1 + 1 + (Int32.toNatClampNeg a2)) 4)]) (rest := []) (b := ad (((k1 + 1 + 2 + 11 * (Int32.toNatClampNeg (σ (k0 + 1 + 1 + (Int32.toNatClampNeg a2)) 0))) + 1) + 3)) C (xc_C_cellOf s_81 (((k1 + 1 + 2 + 11 * (Int32.toNatClampNeg (σ (k0 + 1 + 1 + (Int32.toNatClampNeg a2)) 0))) + 1) + 3) (s_81 (k0 + 1 + 1 + (Int32.toNatClampNeg a2)) 1) (s_81 (k0 + 1 + 1 + (Int32.toNatClampNeg a2)) 4) _ (kf_U_code (kf_I_unit (ka_I6 (kf_M_images hk1) (aw_in_lt g_17)))) e_96) rfl (gw_sub (gw_V xg_C_cellOf ml_N_69 im_C_cellOf se_C_cellOf wi_C)) na_C_cellOf (rm_lt (by omega) (by decide)) ⟨Nat.zero_le _, Nat.zero_le _⟩ (((k1 + 1 + 2 + 11 * (Int32.toNatClampNeg (σ (k0 + 1 + 1 + (Int32.toNatClampNeg a2)) 0))) + 1) + 3) (at_C (kf_U_code (kf_I_unit (ka_I6 (kf_M_images hk1) (aw_in_lt g_17))))) rfl rfl (Nat.le_of_ble_eq_true rfl) xd_N_work_96 ?_
          refine aw_istore (L' := [(6, .int q_96), (5, .ref (ad (((k1 + 1 + 2 + 11 * (Int32.toNatClampNeg (σ (k0 + 1 + 1 + (Int32.toNatClampNeg a2)) 0))) + 1) + 3))), (4, .ref (ad (k0 + 1 + 1 + (Int32.toNatClampNeg a2)))), (0, .ref (ad k0)), (1, .ref (ad k1)), (2, .int a2), (3, .int a3)]) C xd_N_work_99 (by decide) rfl ?_
          refine aw_aload C 2 xd_N_work_101 rfl ?_
          refine aw_dup C xd_N_work_103 rfl ?_
          refine aw_get C (k0 + 1 + 1 + (Int32.toNatClampNeg a2)) (kd_lt (ka_F6 (kf_N_frames hk0) (aw_in_lt g_5))) (ly_F (ka_F6 (kf_N_frames hk0) (aw_in_lt g_5))) rfl (fun w h => List.mem_cons_of_mem _ (xi_F w h)) 4 (by decide) rfl (List.mem_cons_of_mem _ fl_N_54) xd_N_work_104 ?_
          refine aw_iconst (v := (1 : Int32)) C xd_N_work_107 (by decide) ?_
          refine aw_iadd C xd_N_work_108 ?_
          obtain ⟨s_109, h_109, hm⟩ := aw_let hm
          refine aw_put (σ1 := s_109) (f := upd (s_81 (k0 + 1 + 1 + (Int32.toNatClampNeg a2))) 4 ((s_81 (k0 + 1 + 1 + (Int32.toNatClampNeg a2)) 4) + (1 : Int32))) C (k0 + 1 + 1 + (Int32.toNatClampNeg a2)) (kd_lt (ka_F6 (kf_N_frames hk0) (aw_in_lt g_5))) (ly_F (ka_F6 (kf_N_frames hk0) (aw_in_lt g_5))) rfl (fun w h => List.mem_cons_of_mem _ (xi_F w h)) xk_F xo_F xn_F 4 (by decide) (List.mem_cons_of_mem _ fl_N_54) rfl (ty := .int) (by decide +kernel) rfl rfl (Nat.le_of_ble_eq_true rfl) (ly_F (ka_F6 (kf_N_frames hk0) (aw_in_lt g_5))) h_109 xd_N_work_109 ?_
          refine aw_aload C 1 xd_N_work_112 rfl ?_
          refine aw_get C (((k1 + 1 + 2 + 11 * (Int32.toNatClampNeg (σ (k0 + 1 + 1 + (Int32.toNatClampNeg a2)) 0))) + 1) + 3) (kd_lt (kf_U_code (kf_I_unit (ka_I6 (kf_M_images hk1) (aw_in_lt g_17))))) (ly_C (kf_U_code (kf_I_unit (ka_I6 (kf_M_images hk1) (aw_in_lt g_17))))) rfl (fun w h => List.mem_cons_of_mem _ (xi_C w h)) 5 (by decide) rfl (List.mem_cons_of_mem _ fl_N_73) xd_N_work_114 ?_
          refine aw_iload C 0 xd_N_work_117 rfl ?_
          obtain ⟨g_119, hm⟩ := aw_grd hm
          refine aw_iald C ((((k1 + 1 + 2 + 11 * (Int32.toNatClampNeg (σ (k0 + 1 + 1 + (Int32.toNatClampNeg a2)) 0))) + 1) + 3) + 4) (kd_lt (kf_C_as (kf_U_code (kf_I_unit (ka_I6 (kf_M_images hk1) (aw_in_lt g_17)))))) 0 (ly_A42 (kf_C_as (kf_U_code (kf_I_unit (ka_I6 (kf_M_images hk1) (aw_in_lt g_17)))))) rfl (aw_in_ok g_119) xd_N_work_119 ?_
          refine aw_istore (L' := [(7, .int (s_109 ((((k1 + 1 + 2 + 11 * (Int32.toNatClampNeg (σ (k0 + 1 + 1 + (Int32.toNatClampNeg a2)) 0))) + 1) + 3) + 4) (Int32.toNatClampNeg q_96))), (6, .int q_96), (5, .ref (ad (((k1 + 1 + 2 + 11 * (Int32.toNatClampNeg (σ (k0 + 1 + 1 + (Int32.toNatClampNeg a2)) 0))) + 1) + 3))), (4, .ref (ad (k0 + 1 + 1 + (Int32.toNatClampNeg a2)))), (0, .ref (ad k0)), (1, .ref (ad k1)), (2, .int a2), (3, .int a3)]) C xd_N_work_120 (by decide) rfl ?_
          refine aw_aload C 2 xd_N_work_122 rfl ?_
          refine aw_get C (((k1 + 1 + 2 + 11 * (Int32.toNatClampNeg (σ (k0 + 1 + 1 + (Int32.toNatClampNeg a2)) 0))) + 1) + 3) (kd_lt (kf_U_code (kf_I_unit (ka_I6 (kf_M_images hk1) (aw_in_lt g_17))))) (ly_C (kf_U_code (kf_I_unit (ka_I6 (kf_M_images hk1) (aw_in_lt g_17))))) rfl (fun w h => List.mem_cons_of_mem _ (xi_C w h)) 6 (by decide) rfl (List.mem_cons_of_mem _ fl_N_77) xd_N_work_124 ?_
          refine aw_iload C 1 xd_N_work_127 rfl ?_
          obtain ⟨g_129, hm⟩ := aw_grd hm
          refine aw_iald C ((((k1 + 1 + 2 + 11 * (Int32.toNatClampNeg (σ (k0 + 1 + 1 + (Int32.toNatClampNeg a2)) 0))) + 1) + 3) + 5) (kd_lt (kf_C_bs (kf_U_code (kf_I_unit (ka_I6 (kf_M_images hk1) (aw_in_lt g_17)))))) 0 (ly_A42 (kf_C_bs (kf_U_code (kf_I_unit (ka_I6 (kf_M_images hk1) (aw_in_lt g_17)))))) rfl (aw_in_ok g_129) xd_N_work_129 ?_
          refine aw_istore (L' := [(8, .int (s_109 ((((k1 + 1 + 2 + 11 * (Int32.toNatClampNeg (σ (k0 + 1 + 1 + (Int32.toNatClampNeg a2)) 0))) + 1) + 3) + 5) (Int32.toNatClampNeg q_96))), (7, .int (s_109 ((((k1 + 1 + 2 + 11 * (Int32.toNatClampNeg (σ (k0 + 1 + 1 + (Int32.toNatClampNeg a2)) 0))) + 1) + 3) + 4) (Int32.toNatClampNeg q_96))), (6, .int q_96), (5, .ref (ad (((k1 + 1 + 2 + 11 * (Int32.toNatClampNeg (σ (k0 + 1 + 1 + (Int32.toNatClampNeg a2)) 0))) + 1) + 3))), (4, .ref (ad (k0 + 1 + 1 + (Int32.toNatClampNeg a2)))), (0, .ref (ad k0)), (1, .ref (ad k1)), (2, .int a2), (3, .int a3)]) C xd_N_work_130 (by decide) rfl ?_
          refine aw_aload C 3 xd_N_work_132 rfl ?_
          refine aw_get C (((k1 + 1 + 2 + 11 * (Int32.toNatClampNeg (σ (k0 + 1 + 1 + (Int32.toNatClampNeg a2)) 0))) + 1) + 3) (kd_lt (kf_U_code (kf_I_unit (ka_I6 (kf_M_images hk1) (aw_in_lt g_17))))) (ly_C (kf_U_code (kf_I_unit (ka_I6 (kf_M_images hk1) (aw_in_lt g_17))))) rfl (fun w h => List.mem_cons_of_mem _ (xi_C w h)) 4 (by decide) rfl (List.mem_cons_of_mem _ fl_N_80) xd_N_work_134 ?_
          refine aw_iload C 2 xd_N_work_137 rfl ?_
          obtain ⟨g_139, hm⟩ := aw_grd hm
          refine aw_iald C ((((k1 + 1 + 2 + 11 * (Int32.toNatClampNeg (σ (k0 + 1 + 1 + (Int32.toNatClampNeg a2)) 0))) + 1) + 3) + 3) (kd_lt (kf_C_ops (kf_U_code (kf_I_unit (ka_I6 (kf_M_images hk1) (aw_in_lt g_17)))))) 0 (ly_A42 (kf_C_ops (kf_U_code (kf_I_unit (ka_I6 (kf_M_images hk1) (aw_in_lt g_17)))))) rfl (aw_in_ok g_139) xd_N_work_139 ?_
          by_cases c_140_0 : s_109 ((((k1 + 1 + 2 + 11 * (Int32.toNatClampNeg (σ (k0 + 1 + 1 + (Int32.toNatClampNeg a2)) 0))) + 1) + 3) + 3) (Int32.toNatClampNeg q_96) = (0 : Int32)
          · rw [if_pos c_140_0] at hm
            refine aw_tabIn (off := 64) (tgt := 204) C xd_N_work_140 (by rw [c_140_0]; decide) (by rw [c_140_0]; decide) (by rw [c_140_0]; rfl) (by decide) ?_
            refine aw_iload C 1 xd_N_work_204 rfl ?_
            cases hm
            exact aw_iret C xd_N_work_206
          rw [if_neg c_140_0] at hm
          by_cases c_140_1 : s_109 ((((k1 + 1 + 2 + 11 * (Int32.toNatClampNeg (σ (k0 + 1 + 1 + (Int32.toNatClampNeg a2)) 0))) + 1) + 3) + 3) (Int32.toNatClampNeg q_96) = (1 : Int32)
          · rw [if_pos c_140_1] at hm
            refine aw_tabIn (off := 67) (tgt := 207) C xd_N_work_140 (by rw [c_140_1]; decide) (by rw [c_140_1]; decide) (by rw [c_140_1]; rfl) (by decide) ?_
            refine aw_iload C 1 xd_N_work_207 rfl ?_
            refine aw_if_ne (tgt := 220) C xd_N_work_209 (by decide) (fun c_209 => ?_) (fun c_209 => ?_)
            · rw [if_neg c_209] at hm
              refine aw_aload C 4 xd_N_work_220 rfl ?_
              refine aw_get C (k0 + 1 + 1 + (Int32.toNatClampNeg a2)) (kd_lt (ka_F6 (kf_N_frames hk0) (aw_in_lt g_5))) (ly_F (ka_F6 (kf_N_frames hk0) (aw_in_lt g_5))) rfl (fun w h => List.mem_cons_of_mem _ (xi_F w h)) 3 (by decide) rfl (List.mem_cons_of_mem _ fl_N_86) xd_N_work_222 ?_
              cases hm
              exact aw_iret C xd_N_work_225
            · rw [if_pos c_209] at hm
              refine aw_aload C 4 xd_N_work_212 rfl ?_
              refine aw_get C (k0 + 1 + 1 + (Int32.toNatClampNeg a2)) (kd_lt (ka_F6 (kf_N_frames hk0) (aw_in_lt g_5))) (ly_F (ka_F6 (kf_N_frames hk0) (aw_in_lt g_5))) rfl (fun w h => List.mem_cons_of_mem _ (xi_F w h)) 2 (by decide) rfl (List.mem_cons_of_mem _ fl_N_83) xd_N_work_214 ?_
              refine aw_goto (tgt := 225) C xd_N_work_217 (by decide) ?_
              cases hm
              exact aw_iret C xd_N_work_225
          rw [if_neg c_140_1] at hm
          by_cases c_140_2 : s_109 ((((k1 + 1 + 2 + 11 * (Int32.toNatClampNeg (σ (k0 + 1 + 1 + (Int32.toNatClampNeg a2)) 0))) + 1) + 3) + 3) (Int32.toNatClampNeg q_96) = (2 : Int32)
          · rw [if_pos c_140_2] at hm
            refine aw_tabIn (off := 86) (tgt := 226) C xd_N_work_140 (by rw [c_140_2]; decide) (by rw [c_140_2]; decide) (by rw [c_140_2]; rfl) (by decide) ?_
            refine aw_aload_n C 6 xd_N_work_226 rfl rfl ?_
            refine aw_iload C 1 xd_N_work_227 rfl ?_
            refine aw_iload C 0 xd_N_work_229 rfl ?_
            obtain ⟨q_231, e_231, hm⟩ := aw_bnd hm
            refine aw_callVi (As := [.int (s_109 ((((k1 + 1 + 2 + 11 * (Int32.toNatClampNeg (σ (k0 + 1 + 1 + (Int32.toNatClampNeg a2)) 0))) + 1) + 3) + 4) (Int32.toNatClampNeg q_96)), .int (s_109 ((((k1 + 1 + 2 + 11 * (Int32.toNatClampNeg (σ (k0 + 1 + 1 + (Int32.toNatClampNeg a2)) 0))) + 1) + 3) + 5) (Int32.toNatClampNeg q_96))]) (rest := []) (b := ad k1) C (xc_M_valueOf s_109 k1 (s_109 ((((k1 + 1 + 2 + 11 * (Int32.toNatClampNeg (σ (k0 + 1 + 1 + (Int32.toNatClampNeg a2)) 0))) + 1) + 3) + 4) (Int32.toNatClampNeg q_96)) (s_109 ((((k1 + 1 + 2 + 11 * (Int32.toNatClampNeg (σ (k0 + 1 + 1 + (Int32.toNatClampNeg a2)) 0))) + 1) + 3) + 5) (Int32.toNatClampNeg q_96)) _ hk1 e_231) rfl (gw_sub (gw_V xg_M_valueOf ml_N_89 im_M_valueOf se_M_valueOf wi_M)) na_M_valueOf (rm_lt (by omega) (by decide)) ⟨Nat.zero_le _, Nat.zero_le _⟩ k1 (at_M hk1) rfl rfl (Nat.le_of_ble_eq_true rfl) xd_N_work_231 ?_
            cases hm
            exact aw_iret C xd_N_work_234
          rw [if_neg c_140_2] at hm
          by_cases c_140_3 : s_109 ((((k1 + 1 + 2 + 11 * (Int32.toNatClampNeg (σ (k0 + 1 + 1 + (Int32.toNatClampNeg a2)) 0))) + 1) + 3) + 3) (Int32.toNatClampNeg q_96) = (3 : Int32)
          · rw [if_pos c_140_3] at hm
            refine aw_tabIn (off := 95) (tgt := 235) C xd_N_work_140 (by rw [c_140_3]; decide) (by rw [c_140_3]; decide) (by rw [c_140_3]; rfl) (by decide) ?_
            refine aw_aload_n C 5 xd_N_work_235 rfl rfl ?_
            refine aw_aload_n C 6 xd_N_work_236 rfl rfl ?_
            refine aw_iload_n C 7 xd_N_work_237 rfl rfl ?_
            refine aw_iload_n C 8 xd_N_work_238 rfl rfl ?_
            refine aw_iload C 0 xd_N_work_239 rfl ?_
            obtain ⟨q_241, e_241, hm⟩ := aw_bnd hm
            refine aw_callVi (As := [.ref (ad k1), .int a2, .int a3, .int (s_109 ((((k1 + 1 + 2 + 11 * (Int32.toNatClampNeg (σ (k0 + 1 + 1 + (Int32.toNatClampNeg a2)) 0))) + 1) + 3) + 5) (Int32.toNatClampNeg q_96))]) (rest := []) (b := ad k0) C (xc_N_assign W dw hW s_109 k0 k1 a2 a3 (s_109 ((((k1 + 1 + 2 + 11 * (Int32.toNatClampNeg (σ (k0 + 1 + 1 + (Int32.toNatClampNeg a2)) 0))) + 1) + 3) + 5) (Int32.toNatClampNeg q_96)) _ hk0 hk1 e_241) rfl (gw_sub (gw_V xg_N_assign ml_N_92 im_N_assign se_N_assign wi_N)) na_N_assign (rm_lt (by omega) (by decide)) ⟨Nat.zero_le _, Nat.zero_le _⟩ k0 (at_N hk0) rfl rfl (Nat.le_of_ble_eq_true rfl) xd_N_work_241 ?_
            cases hm
            exact aw_iret C xd_N_work_244
          rw [if_neg c_140_3] at hm
          by_cases c_140_4 : s_109 ((((k1 + 1 + 2 + 11 * (Int32.toNatClampNeg (σ (k0 + 1 + 1 + (Int32.toNatClampNeg a2)) 0))) + 1) + 3) + 3) (Int32.toNatClampNeg q_96) = (4 : Int32)
          · rw [if_pos c_140_4] at hm
            refine aw_tabIn (off := 125) (tgt := 265) C xd_N_work_140 (by rw [c_140_4]; decide) (by rw [c_140_4]; decide) (by rw [c_140_4]; rfl) (by decide) ?_
            refine aw_aload_n C 5 xd_N_work_265 rfl rfl ?_
            refine aw_aload_n C 6 xd_N_work_266 rfl rfl ?_
            refine aw_iload_n C 7 xd_N_work_267 rfl rfl ?_
            refine aw_iload_n C 8 xd_N_work_268 rfl rfl ?_
            refine aw_aload C 3 xd_N_work_269 rfl ?_
            refine aw_get C (((k1 + 1 + 2 + 11 * (Int32.toNatClampNeg (σ (k0 + 1 + 1 + (Int32.toNatClampNeg a2)) 0))) + 1) + 3) (kd_lt (kf_U_code (kf_I_unit (ka_I6 (kf_M_images hk1) (aw_in_lt g_17))))) (ly_C (kf_U_code (kf_I_unit (ka_I6 (kf_M_images hk1) (aw_in_lt g_17))))) rfl (fun w h => List.mem_cons_of_mem _ (xi_C w h)) 4 (by decide) rfl (List.mem_cons_of_mem _ fl_N_80) xd_N_work_271 ?_
            refine aw_iload C 2 xd_N_work_274 rfl ?_
            obtain ⟨g_276, hm⟩ := aw_grd hm
            refine aw_iald C ((((k1 + 1 + 2 + 11 * (Int32.toNatClampNeg (σ (k0 + 1 + 1 + (Int32.toNatClampNeg a2)) 0))) + 1) + 3) + 3) (kd_lt (kf_C_ops (kf_U_code (kf_I_unit (ka_I6 (kf_M_images hk1) (aw_in_lt g_17)))))) 0 (ly_A42 (kf_C_ops (kf_U_code (kf_I_unit (ka_I6 (kf_M_images hk1) (aw_in_lt g_17)))))) rfl (aw_in_ok g_276) xd_N_work_276 ?_
            obtain ⟨q_277, e_277, hm⟩ := aw_bnd hm
            refine aw_callVi (As := [.ref (ad k1), .int a2, .int a3, .int (s_109 ((((k1 + 1 + 2 + 11 * (Int32.toNatClampNeg (σ (k0 + 1 + 1 + (Int32.toNatClampNeg a2)) 0))) + 1) + 3) + 3) (Int32.toNatClampNeg q_96))]) (rest := []) (b := ad k0) C (xc_N_combine W dw hW s_109 k0 k1 a2 a3 (s_109 ((((k1 + 1 + 2 + 11 * (Int32.toNatClampNeg (σ (k0 + 1 + 1 + (Int32.toNatClampNeg a2)) 0))) + 1) + 3) + 3) (Int32.toNatClampNeg q_96)) _ hk0 hk1 e_277) rfl (gw_sub (gw_V xg_N_combine ml_N_103 im_N_combine se_N_combine wi_N)) na_N_combine (rm_lt (by omega) (by decide)) ⟨Nat.zero_le _, Nat.zero_le _⟩ k0 (at_N hk0) rfl rfl (Nat.le_of_ble_eq_true rfl) xd_N_work_277 ?_
            cases hm
            exact aw_iret C xd_N_work_280
          rw [if_neg c_140_4] at hm
          by_cases c_140_5 : s_109 ((((k1 + 1 + 2 + 11 * (Int32.toNatClampNeg (σ (k0 + 1 + 1 + (Int32.toNatClampNeg a2)) 0))) + 1) + 3) + 3) (Int32.toNatClampNeg q_96) = (5 : Int32)
          · rw [if_pos c_140_5] at hm
            refine aw_tabIn (off := 125) (tgt := 265) C xd_N_work_140 (by rw [c_140_5]; decide) (by rw [c_140_5]; decide) (by rw [c_140_5]; rfl) (by decide) ?_
            refine aw_aload_n C 5 xd_N_work_265 rfl rfl ?_
            refine aw_aload_n C 6 xd_N_work_266 rfl rfl ?_
            refine aw_iload_n C 7 xd_N_work_267 rfl rfl ?_
            refine aw_iload_n C 8 xd_N_work_268 rfl rfl ?_
            refine aw_aload C 3 xd_N_work_269 rfl ?_
            refine aw_get C (((k1 + 1 + 2 + 11 * (Int32.toNatClampNeg (σ (k0 + 1 + 1 + (Int32.toNatClampNeg a2)) 0))) + 1) + 3) (kd_lt (kf_U_code (kf_I_unit (ka_I6 (kf_M_images hk1) (aw_in_lt g_17))))) (ly_C (kf_U_code (kf_I_unit (ka_I6 (kf_M_images hk1) (aw_in_lt g_17))))) rfl (fun w h => List.mem_cons_of_mem _ (xi_C w h)) 4 (by decide) rfl (List.mem_cons_of_mem _ fl_N_80) xd_N_work_271 ?_
            refine aw_iload C 2 xd_N_work_274 rfl ?_
            obtain ⟨g_276, hm⟩ := aw_grd hm
            refine aw_iald C ((((k1 + 1 + 2 + 11 * (Int32.toNatClampNeg (σ (k0 + 1 + 1 + (Int32.toNatClampNeg a2)) 0))) + 1) + 3) + 3) (kd_lt (kf_C_ops (kf_U_code (kf_I_unit (ka_I6 (kf_M_images hk1) (aw_in_lt g_17)))))) 0 (ly_A42 (kf_C_ops (kf_U_code (kf_I_unit (ka_I6 (kf_M_images hk1) (aw_in_lt g_17)))))) rfl (aw_in_ok g_276) xd_N_work_276 ?_
            obtain ⟨q_277, e_277, hm⟩ := aw_bnd hm
            refine aw_callVi (As := [.ref (ad k1), .int a2, .int a3, .int (s_109 ((((k1 + 1 + 2 + 11 * (Int32.toNatClampNeg (σ (k0 + 1 + 1 + (Int32.toNatClampNeg a2)) 0))) + 1) + 3) + 3) (Int32.toNatClampNeg q_96))]) (rest := []) (b := ad k0) C (xc_N_combine W dw hW s_109 k0 k1 a2 a3 (s_109 ((((k1 + 1 + 2 + 11 * (Int32.toNatClampNeg (σ (k0 + 1 + 1 + (Int32.toNatClampNeg a2)) 0))) + 1) + 3) + 3) (Int32.toNatClampNeg q_96)) _ hk0 hk1 e_277) rfl (gw_sub (gw_V xg_N_combine ml_N_103 im_N_combine se_N_combine wi_N)) na_N_combine (rm_lt (by omega) (by decide)) ⟨Nat.zero_le _, Nat.zero_le _⟩ k0 (at_N hk0) rfl rfl (Nat.le_of_ble_eq_true rfl) xd_N_work_277 ?_
            cases hm
            exact aw_iret C xd_N_work_280
          rw [if_neg c_140_5] at hm
          by_cases c_140_6 : s_109 ((((k1 + 1 + 2 + 11 * (Int32.toNatClampNeg (σ (k0 + 1 + 1 + (Int32.toNatClampNeg a2)) 0))) + 1) + 3) + 3) (Int32.toNatClampNeg q_96) = (6 : Int32)
          · rw [if_pos c_140_6] at hm
            refine aw_tabIn (off := 125) (tgt := 265) C xd_N_work_140 (by rw [c_140_6]; decide) (by rw [c_140_6]; decide) (by rw [c_140_6]; rfl) (by decide) ?_
            refine aw_aload_n C 5 xd_N_work_265 rfl rfl ?_
            refine aw_aload_n C 6 xd_N_work_266 rfl rfl ?_
            refine aw_iload_n C 7 xd_N_work_267 rfl rfl ?_
            refine aw_iload_n C 8 xd_N_work_268 rfl rfl ?_
            refine aw_aload C 3 xd_N_work_269 rfl ?_
            refine aw_get C (((k1 + 1 + 2 + 11 * (Int32.toNatClampNeg (σ (k0 + 1 + 1 + (Int32.toNatClampNeg a2)) 0))) + 1) + 3) (kd_lt (kf_U_code (kf_I_unit (ka_I6 (kf_M_images hk1) (aw_in_lt g_17))))) (ly_C (kf_U_code (kf_I_unit (ka_I6 (kf_M_images hk1) (aw_in_lt g_17))))) rfl (fun w h => List.mem_cons_of_mem _ (xi_C w h)) 4 (by decide) rfl (List.mem_cons_of_mem _ fl_N_80) xd_N_work_271 ?_
            refine aw_iload C 2 xd_N_work_274 rfl ?_
            obtain ⟨g_276, hm⟩ := aw_grd hm
            refine aw_iald C ((((k1 + 1 + 2 + 11 * (Int32.toNatClampNeg (σ (k0 + 1 + 1 + (Int32.toNatClampNeg a2)) 0))) + 1) + 3) + 3) (kd_lt (kf_C_ops (kf_U_code (kf_I_unit (ka_I6 (kf_M_images hk1) (aw_in_lt g_17)))))) 0 (ly_A42 (kf_C_ops (kf_U_code (kf_I_unit (ka_I6 (kf_M_images hk1) (aw_in_lt g_17)))))) rfl (aw_in_ok g_276) xd_N_work_276 ?_
            obtain ⟨q_277, e_277, hm⟩ := aw_bnd hm
            refine aw_callVi (As := [.ref (ad k1), .int a2, .int a3, .int (s_109 ((((k1 + 1 + 2 + 11 * (Int32.toNatClampNeg (σ (k0 + 1 + 1 + (Int32.toNatClampNeg a2)) 0))) + 1) + 3) + 3) (Int32.toNatClampNeg q_96))]) (rest := []) (b := ad k0) C (xc_N_combine W dw hW s_109 k0 k1 a2 a3 (s_109 ((((k1 + 1 + 2 + 11 * (Int32.toNatClampNeg (σ (k0 + 1 + 1 + (Int32.toNatClampNeg a2)) 0))) + 1) + 3) + 3) (Int32.toNatClampNeg q_96)) _ hk0 hk1 e_277) rfl (gw_sub (gw_V xg_N_combine ml_N_103 im_N_combine se_N_combine wi_N)) na_N_combine (rm_lt (by omega) (by decide)) ⟨Nat.zero_le _, Nat.zero_le _⟩ k0 (at_N hk0) rfl rfl (Nat.le_of_ble_eq_true rfl) xd_N_work_277 ?_
            cases hm
            exact aw_iret C xd_N_work_280
          rw [if_neg c_140_6] at hm
          by_cases c_140_7 : s_109 ((((k1 + 1 + 2 + 11 * (Int32.toNatClampNeg (σ (k0 + 1 + 1 + (Int32.toNatClampNeg a2)) 0))) + 1) + 3) + 3) (Int32.toNatClampNeg q_96) = (7 : Int32)
          · rw [if_pos c_140_7] at hm
            refine aw_tabIn (off := 125) (tgt := 265) C xd_N_work_140 (by rw [c_140_7]; decide) (by rw [c_140_7]; decide) (by rw [c_140_7]; rfl) (by decide) ?_
            refine aw_aload_n C 5 xd_N_work_265 rfl rfl ?_
            refine aw_aload_n C 6 xd_N_work_266 rfl rfl ?_
            refine aw_iload_n C 7 xd_N_work_267 rfl rfl ?_
            refine aw_iload_n C 8 xd_N_work_268 rfl rfl ?_
            refine aw_aload C 3 xd_N_work_269 rfl ?_
            refine aw_get C (((k1 + 1 + 2 + 11 * (Int32.toNatClampNeg (σ (k0 + 1 + 1 + (Int32.toNatClampNeg a2)) 0))) + 1) + 3) (kd_lt (kf_U_code (kf_I_unit (ka_I6 (kf_M_images hk1) (aw_in_lt g_17))))) (ly_C (kf_U_code (kf_I_unit (ka_I6 (kf_M_images hk1) (aw_in_lt g_17))))) rfl (fun w h => List.mem_cons_of_mem _ (xi_C w h)) 4 (by decide) rfl (List.mem_cons_of_mem _ fl_N_80) xd_N_work_271 ?_
            refine aw_iload C 2 xd_N_work_274 rfl ?_
            obtain ⟨g_276, hm⟩ := aw_grd hm
            refine aw_iald C ((((k1 + 1 + 2 + 11 * (Int32.toNatClampNeg (σ (k0 + 1 + 1 + (Int32.toNatClampNeg a2)) 0))) + 1) + 3) + 3) (kd_lt (kf_C_ops (kf_U_code (kf_I_unit (ka_I6 (kf_M_images hk1) (aw_in_lt g_17)))))) 0 (ly_A42 (kf_C_ops (kf_U_code (kf_I_unit (ka_I6 (kf_M_images hk1) (aw_in_lt g_17)))))) rfl (aw_in_ok g_276) xd_N_work_276 ?_
            obtain ⟨q_277, e_277, hm⟩ := aw_bnd hm
            refine aw_callVi (As := [.ref (ad k1), .int a2, .int a3, .int (s_109 ((((k1 + 1 + 2 + 11 * (Int32.toNatClampNeg (σ (k0 + 1 + 1 + (Int32.toNatClampNeg a2)) 0))) + 1) + 3) + 3) (Int32.toNatClampNeg q_96))]) (rest := []) (b := ad k0) C (xc_N_combine W dw hW s_109 k0 k1 a2 a3 (s_109 ((((k1 + 1 + 2 + 11 * (Int32.toNatClampNeg (σ (k0 + 1 + 1 + (Int32.toNatClampNeg a2)) 0))) + 1) + 3) + 3) (Int32.toNatClampNeg q_96)) _ hk0 hk1 e_277) rfl (gw_sub (gw_V xg_N_combine ml_N_103 im_N_combine se_N_combine wi_N)) na_N_combine (rm_lt (by omega) (by decide)) ⟨Nat.zero_le _, Nat.zero_le _⟩ k0 (at_N hk0) rfl rfl (Nat.le_of_ble_eq_true rfl) xd_N_work_277 ?_
            cases hm
            exact aw_iret C xd_N_work_280
          rw [if_neg c_140_7] at hm
          by_cases c_140_8 : s_109 ((((k1 + 1 + 2 + 11 * (Int32.toNatClampNeg (σ (k0 + 1 + 1 + (Int32.toNatClampNeg a2)) 0))) + 1) + 3) + 3) (Int32.toNatClampNeg q_96) = (8 : Int32)
          · rw [if_pos c_140_8] at hm
            refine aw_tabIn (off := 125) (tgt := 265) C xd_N_work_140 (by rw [c_140_8]; decide) (by rw [c_140_8]; decide) (by rw [c_140_8]; rfl) (by decide) ?_
            refine aw_aload_n C 5 xd_N_work_265 rfl rfl ?_
            refine aw_aload_n C 6 xd_N_work_266 rfl rfl ?_
            refine aw_iload_n C 7 xd_N_work_267 rfl rfl ?_
            refine aw_iload_n C 8 xd_N_work_268 rfl rfl ?_
            refine aw_aload C 3 xd_N_work_269 rfl ?_
            refine aw_get C (((k1 + 1 + 2 + 11 * (Int32.toNatClampNeg (σ (k0 + 1 + 1 + (Int32.toNatClampNeg a2)) 0))) + 1) + 3) (kd_lt (kf_U_code (kf_I_unit (ka_I6 (kf_M_images hk1) (aw_in_lt g_17))))) (ly_C (kf_U_code (kf_I_unit (ka_I6 (kf_M_images hk1) (aw_in_lt g_17))))) rfl (fun w h => List.mem_cons_of_mem _ (xi_C w h)) 4 (by decide) rfl (List.mem_cons_of_mem _ fl_N_80) xd_N_work_271 ?_
            refine aw_iload C 2 xd_N_work_274 rfl ?_
            obtain ⟨g_276, hm⟩ := aw_grd hm
            refine aw_iald C ((((k1 + 1 + 2 + 11 * (Int32.toNatClampNeg (σ (k0 + 1 + 1 + (Int32.toNatClampNeg a2)) 0))) + 1) + 3) + 3) (kd_lt (kf_C_ops (kf_U_code (kf_I_unit (ka_I6 (kf_M_images hk1) (aw_in_lt g_17)))))) 0 (ly_A42 (kf_C_ops (kf_U_code (kf_I_unit (ka_I6 (kf_M_images hk1) (aw_in_lt g_17)))))) rfl (aw_in_ok g_276) xd_N_work_276 ?_
            obtain ⟨q_277, e_277, hm⟩ := aw_bnd hm
            refine aw_callVi (As := [.ref (ad k1), .int a2, .int a3, .int (s_109 ((((k1 + 1 + 2 + 11 * (Int32.toNatClampNeg (σ (k0 + 1 + 1 + (Int32.toNatClampNeg a2)) 0))) + 1) + 3) + 3) (Int32.toNatClampNeg q_96))]) (rest := []) (b := ad k0) C (xc_N_combine W dw hW s_109 k0 k1 a2 a3 (s_109 ((((k1 + 1 + 2 + 11 * (Int32.toNatClampNeg (σ (k0 + 1 + 1 + (Int32.toNatClampNeg a2)) 0))) + 1) + 3) + 3) (Int32.toNatClampNeg q_96)) _ hk0 hk1 e_277) rfl (gw_sub (gw_V xg_N_combine ml_N_103 im_N_combine se_N_combine wi_N)) na_N_combine (rm_lt (by omega) (by decide)) ⟨Nat.zero_le _, Nat.zero_le _⟩ k0 (at_N hk0) rfl rfl (Nat.le_of_ble_eq_true rfl) xd_N_work_277 ?_
            cases hm
            exact aw_iret C xd_N_work_280
          rw [if_neg c_140_8] at hm
          by_cases c_140_9 : s_109 ((((k1 + 1 + 2 + 11 * (Int32.toNatClampNeg (σ (k0 + 1 + 1 + (Int32.toNatClampNeg a2)) 0))) + 1) + 3) + 3) (Int32.toNatClampNeg q_96) = (9 : Int32)
          · rw [if_pos c_140_9] at hm
            refine aw_tabIn (off := 105) (tgt := 245) C xd_N_work_140 (by rw [c_140_9]; decide) (by rw [c_140_9]; decide) (by rw [c_140_9]; rfl) (by decide) ?_
            refine aw_aload_n C 5 xd_N_work_245 rfl rfl ?_
            refine aw_aload_n C 6 xd_N_work_246 rfl rfl ?_
            refine aw_iload_n C 7 xd_N_work_247 rfl rfl ?_
            refine aw_iload_n C 8 xd_N_work_248 rfl rfl ?_
            obtain ⟨q_249, e_249, hm⟩ := aw_bnd hm
            refine aw_callVi (As := [.ref (ad k1), .int a2, .int a3]) (rest := []) (b := ad k0) C (xc_N_choose W dw hW s_109 k0 k1 a2 a3 _ hk0 hk1 e_249) rfl (gw_sub (gw_V xg_N_choose ml_N_96 im_N_choose se_N_choose wi_N)) na_N_choose (rm_lt (by omega) (by decide)) ⟨Nat.zero_le _, Nat.zero_le _⟩ k0 (at_N hk0) rfl rfl (Nat.le_of_ble_eq_true rfl) xd_N_work_249 ?_
            cases hm
            exact aw_iret C xd_N_work_252
          rw [if_neg c_140_9] at hm
          by_cases c_140_10 : s_109 ((((k1 + 1 + 2 + 11 * (Int32.toNatClampNeg (σ (k0 + 1 + 1 + (Int32.toNatClampNeg a2)) 0))) + 1) + 3) + 3) (Int32.toNatClampNeg q_96) = (10 : Int32)
          · rw [if_pos c_140_10] at hm
            refine aw_tabIn (off := 125) (tgt := 265) C xd_N_work_140 (by rw [c_140_10]; decide) (by rw [c_140_10]; decide) (by rw [c_140_10]; rfl) (by decide) ?_
            refine aw_aload_n C 5 xd_N_work_265 rfl rfl ?_
            refine aw_aload_n C 6 xd_N_work_266 rfl rfl ?_
            refine aw_iload_n C 7 xd_N_work_267 rfl rfl ?_
            refine aw_iload_n C 8 xd_N_work_268 rfl rfl ?_
            refine aw_aload C 3 xd_N_work_269 rfl ?_
            refine aw_get C (((k1 + 1 + 2 + 11 * (Int32.toNatClampNeg (σ (k0 + 1 + 1 + (Int32.toNatClampNeg a2)) 0))) + 1) + 3) (kd_lt (kf_U_code (kf_I_unit (ka_I6 (kf_M_images hk1) (aw_in_lt g_17))))) (ly_C (kf_U_code (kf_I_unit (ka_I6 (kf_M_images hk1) (aw_in_lt g_17))))) rfl (fun w h => List.mem_cons_of_mem _ (xi_C w h)) 4 (by decide) rfl (List.mem_cons_of_mem _ fl_N_80) xd_N_work_271 ?_
            refine aw_iload C 2 xd_N_work_274 rfl ?_
            obtain ⟨g_276, hm⟩ := aw_grd hm
            refine aw_iald C ((((k1 + 1 + 2 + 11 * (Int32.toNatClampNeg (σ (k0 + 1 + 1 + (Int32.toNatClampNeg a2)) 0))) + 1) + 3) + 3) (kd_lt (kf_C_ops (kf_U_code (kf_I_unit (ka_I6 (kf_M_images hk1) (aw_in_lt g_17)))))) 0 (ly_A42 (kf_C_ops (kf_U_code (kf_I_unit (ka_I6 (kf_M_images hk1) (aw_in_lt g_17)))))) rfl (aw_in_ok g_276) xd_N_work_276 ?_
            obtain ⟨q_277, e_277, hm⟩ := aw_bnd hm
            refine aw_callVi (As := [.ref (ad k1), .int a2, .int a3, .int (s_109 ((((k1 + 1 + 2 + 11 * (Int32.toNatClampNeg (σ (k0 + 1 + 1 + (Int32.toNatClampNeg a2)) 0))) + 1) + 3) + 3) (Int32.toNatClampNeg q_96))]) (rest := []) (b := ad k0) C (xc_N_combine W dw hW s_109 k0 k1 a2 a3 (s_109 ((((k1 + 1 + 2 + 11 * (Int32.toNatClampNeg (σ (k0 + 1 + 1 + (Int32.toNatClampNeg a2)) 0))) + 1) + 3) + 3) (Int32.toNatClampNeg q_96)) _ hk0 hk1 e_277) rfl (gw_sub (gw_V xg_N_combine ml_N_103 im_N_combine se_N_combine wi_N)) na_N_combine (rm_lt (by omega) (by decide)) ⟨Nat.zero_le _, Nat.zero_le _⟩ k0 (at_N hk0) rfl rfl (Nat.le_of_ble_eq_true rfl) xd_N_work_277 ?_
            cases hm
            exact aw_iret C xd_N_work_280
          rw [if_neg c_140_10] at hm
          by_cases c_140_11 : s_109 ((((k1 + 1 + 2 + 11 * (Int32.toNatClampNeg (σ (k0 + 1 + 1 + (Int32.toNatClampNeg a2)) 0))) + 1) + 3) + 3) (Int32.toNatClampNeg q_96) = (11 : Int32)
          · rw [if_pos c_140_11] at hm
            refine aw_tabIn (off := 113) (tgt := 253) C xd_N_work_140 (by rw [c_140_11]; decide) (by rw [c_140_11]; decide) (by rw [c_140_11]; rfl) (by decide) ?_
            refine aw_aload_n C 5 xd_N_work_253 rfl rfl ?_
            refine aw_aload_n C 6 xd_N_work_254 rfl rfl ?_
            refine aw_iload_n C 7 xd_N_work_255 rfl rfl ?_
            refine aw_iload_n C 8 xd_N_work_256 rfl rfl ?_
            refine aw_iload C 1 xd_N_work_257 rfl ?_
            refine aw_iload C 0 xd_N_work_259 rfl ?_
            obtain ⟨q_261, e_261, hm⟩ := aw_bnd hm
            refine aw_callVi (As := [.ref (ad k1), .int a2, .int a3, .int (s_109 ((((k1 + 1 + 2 + 11 * (Int32.toNatClampNeg (σ (k0 + 1 + 1 + (Int32.toNatClampNeg a2)) 0))) + 1) + 3) + 4) (Int32.toNatClampNeg q_96)), .int (s_109 ((((k1 + 1 + 2 + 11 * (Int32.toNatClampNeg (σ (k0 + 1 + 1 + (Int32.toNatClampNeg a2)) 0))) + 1) + 3) + 5) (Int32.toNatClampNeg q_96))]) (rest := []) (b := ad k0) C (xc_N_enter W dw hW s_109 k0 k1 a2 a3 (s_109 ((((k1 + 1 + 2 + 11 * (Int32.toNatClampNeg (σ (k0 + 1 + 1 + (Int32.toNatClampNeg a2)) 0))) + 1) + 3) + 4) (Int32.toNatClampNeg q_96)) (s_109 ((((k1 + 1 + 2 + 11 * (Int32.toNatClampNeg (σ (k0 + 1 + 1 + (Int32.toNatClampNeg a2)) 0))) + 1) + 3) + 5) (Int32.toNatClampNeg q_96)) _ hk0 hk1 e_261) rfl (gw_sub (gw_V xg_N_enter ml_N_99 im_N_enter se_N_enter wi_N)) na_N_enter (rm_lt (by omega) (by decide)) ⟨Nat.zero_le _, Nat.zero_le _⟩ k0 (at_N hk0) rfl rfl (Nat.le_of_ble_eq_true rfl) xd_N_work_261 ?_
            cases hm
            exact aw_iret C xd_N_work_264
          rw [if_neg c_140_11] at hm
          have t_140_0 := lv_neT c_140_0 (a := 0) (by decide)
          have t_140_1 := lv_neT c_140_1 (a := 1) (by decide)
          have t_140_2 := lv_neT c_140_2 (a := 2) (by decide)
          have t_140_3 := lv_neT c_140_3 (a := 3) (by decide)
          have t_140_4 := lv_neT c_140_4 (a := 4) (by decide)
          have t_140_5 := lv_neT c_140_5 (a := 5) (by decide)
          have t_140_6 := lv_neT c_140_6 (a := 6) (by decide)
          have t_140_7 := lv_neT c_140_7 (a := 7) (by decide)
          have t_140_8 := lv_neT c_140_8 (a := 8) (by decide)
          have t_140_9 := lv_neT c_140_9 (a := 9) (by decide)
          have t_140_10 := lv_neT c_140_10 (a := 10) (by decide)
          have t_140_11 := lv_neT c_140_11 (a := 11) (by decide)
          refine aw_tabOut (tgt := 265) C xd_N_work_140 (by omega) (by decide) ?_
          refine aw_aload_n C 5 xd_N_work_265 rfl rfl ?_
          refine aw_aload_n C 6 xd_N_work_266 rfl rfl ?_
          refine aw_iload_n C 7 xd_N_work_267 rfl rfl ?_
          refine aw_iload_n C 8 xd_N_work_268 rfl rfl ?_
          refine aw_aload C 3 xd_N_work_269 rfl ?_
          refine aw_get C (((k1 + 1 + 2 + 11 * (Int32.toNatClampNeg (σ (k0 + 1 + 1 + (Int32.toNatClampNeg a2)) 0))) + 1) + 3) (kd_lt (kf_U_code (kf_I_unit (ka_I6 (kf_M_images hk1) (aw_in_lt g_17))))) (ly_C (kf_U_code (kf_I_unit (ka_I6 (kf_M_images hk1) (aw_in_lt g_17))))) rfl (fun w h => List.mem_cons_of_mem _ (xi_C w h)) 4 (by decide) rfl (List.mem_cons_of_mem _ fl_N_80) xd_N_work_271 ?_
          refine aw_iload C 2 xd_N_work_274 rfl ?_
          obtain ⟨g_276, hm⟩ := aw_grd hm
          refine aw_iald C ((((k1 + 1 + 2 + 11 * (Int32.toNatClampNeg (σ (k0 + 1 + 1 + (Int32.toNatClampNeg a2)) 0))) + 1) + 3) + 3) (kd_lt (kf_C_ops (kf_U_code (kf_I_unit (ka_I6 (kf_M_images hk1) (aw_in_lt g_17)))))) 0 (ly_A42 (kf_C_ops (kf_U_code (kf_I_unit (ka_I6 (kf_M_images hk1) (aw_in_lt g_17)))))) rfl (aw_in_ok g_276) xd_N_work_276 ?_
          obtain ⟨q_277, e_277, hm⟩ := aw_bnd hm
          refine aw_callVi (As := [.ref (ad k1), .int a2, .int a3, .int (s_109 ((((k1 + 1 + 2 + 11 * (Int32.toNatClampNeg (σ (k0 + 1 + 1 + (Int32.toNatClampNeg a2)) 0))) + 1) + 3) + 3) (Int32.toNatClampNeg q_96))]) (rest := []) (b := ad k0) C (xc_N_combine W dw hW s_109 k0 k1 a2 a3 (s_109 ((((k1 + 1 + 2 + 11 * (Int32.toNatClampNeg (σ (k0 + 1 + 1 + (Int32.toNatClampNeg a2)) 0))) + 1) + 3) + 3) (Int32.toNatClampNeg q_96)) _ hk0 hk1 e_277) rfl (gw_sub (gw_V xg_N_combine ml_N_103 im_N_combine se_N_combine wi_N)) na_N_combine (rm_lt (by omega) (by decide)) ⟨Nat.zero_le _, Nat.zero_le _⟩ k0 (at_N hk0) rfl rfl (Nat.le_of_ble_eq_true rfl) xd_N_work_277 ?_
          cases hm
          exact aw_iret C xd_N_work_280
        · rw [if_neg c_64] at hm
          refine aw_aload_n C 2 xd_N_work_67 rfl rfl ?_
          refine aw_bipush (v := (-10 : Int32)) C xd_N_work_68 (by decide) ?_
          obtain ⟨q_70, e_70, hm⟩ := aw_bnd hm
          refine aw_callVi (As := [.int (-10 : Int32)]) (rest := []) (b := ad k0) C (xc_N_fail σ k0 (-10 : Int32) _ hk0 e_70) rfl (gw_sub (gw_V xg_N_fail ml_N_66 im_N_fail se_N_fail wi_N)) na_N_fail (rm_lt (by omega) (by decide)) ⟨Nat.zero_le _, Nat.zero_le _⟩ k0 (at_N hk0) rfl rfl (Nat.le_of_ble_eq_true rfl) xd_N_work_70 ?_
          cases hm
          exact aw_iret C xd_N_work_73
      · rw [if_neg c_53] at hm
        refine aw_iconst (v := (0 : Int32)) C xd_N_work_56 (by decide) ?_
        cases hm
        exact aw_iret C xd_N_work_57
theorem xc_N_work (d : Nat) : ∀ (σ : aw_m) (k0 : Nat) (k1 : Nat) (a2 : Int32) (a3 : Int32) (q : Int32 × aw_m) (hk0 : kd_k k0 = 12) (hk1 : kd_k k1 = 8), xm_N_work d σ k0 k1 a2 a3 = some q → aw_M l D (ty_z ids) (zs_T ps) xy_N_work (xw_N_work :: gw_l) (rm_D (6 * d)) [.ref (ad k0), .ref (ad k1), .int a2, .int a3] (cw_w ad ids σ) (some (.int q.1)) (cw_w ad ids q.2) := by
  induction d with
  | zero => intro σ k0 k1 a2 a3 q hk0 hk1 hm; cases hm
  | succ d ih =>
    intro σ k0 k1 a2 a3 q hk0 hk1 hm
    have h := xc_N_work_b (xm_N_work d) (6 * d) ih σ k0 k1 a2 a3 q hk0 hk1 hm
    exact h
def xm_N_start (σ : aw_m) (k0 : Nat) (k1 : Nat) (a2 : Int32) (a3 : Int32) (a4 : Int32) (a5 : Int32) : Option (Int32 × aw_m) := aw_l (aw_p σ k0 1 (0 : Int32)) fun s_2 => aw_l (aw_p s_2 k0 2 (0 : Int32)) fun s_7 => (xm_F_open s_7 (k0 + 1 + 1 + (Int32.toNatClampNeg (0 : Int32))) a2 a3 a4 a5).bind fun q_22 => (xm_N_work 40 q_22 k0 k1 (0 : Int32) (0 : Int32)).bind fun q_29 => some (q_29.1, q_29.2)
set_option maxHeartbeats 4000000 in
set_option maxRecDepth 100000 in
theorem xc_N_start (σ : aw_m) (k0 : Nat) (k1 : Nat) (a2 : Int32) (a3 : Int32) (a4 : Int32) (a5 : Int32) (q : Int32 × aw_m) (hk0 : kd_k k0 = 12) (hk1 : kd_k k1 = 8) (hm : xm_N_start σ k0 k1 a2 a3 a4 a5 = some q) : aw_M l D (ty_z ids) (zs_T ps) xy_N_start (xw_N_start :: gw_l) (rm_D (241)) [.ref (ad k0), .ref (ad k1), .int a2, .int a3, .int a4, .int a5] (cw_w ad ids σ) (some (.int q.1)) (cw_w ad ids q.2) := by
  refine aw_intro (cc := xb_N_start) (n := 6) (ret := (some .int)) "ModuleShelf$Machine" rfl (by decide) rfl (Nat.le_of_ble_eq_true rfl) ?_
  intro κ C
  unfold xm_N_start at hm
  refine aw_aload_n C 0 xd_N_start_0 rfl rfl ?_
  refine aw_iconst (v := (0 : Int32)) C xd_N_start_1 (by decide) ?_
  obtain ⟨s_2, h_2, hm⟩ := aw_let hm
  refine aw_put (σ1 := s_2) (f := upd (σ k0) 1 (0 : Int32)) C k0 (kd_lt hk0) (ly_N hk0) rfl (fun w h => List.mem_cons_of_mem _ (xi_N w h)) xk_N xo_N xn_N 1 (by decide) (List.mem_cons_of_mem _ fl_N_18) rfl (ty := .int) (by decide +kernel) rfl rfl (Nat.le_of_ble_eq_true rfl) (ly_N hk0) h_2 xd_N_start_2 ?_
  refine aw_aload_n C 0 xd_N_start_5 rfl rfl ?_
  refine aw_iconst (v := (0 : Int32)) C xd_N_start_6 (by decide) ?_
  obtain ⟨s_7, h_7, hm⟩ := aw_let hm
  refine aw_put (σ1 := s_7) (f := upd (s_2 k0) 2 (0 : Int32)) C k0 (kd_lt hk0) (ly_N hk0) rfl (fun w h => List.mem_cons_of_mem _ (xi_N w h)) xk_N xo_N xn_N 2 (by decide) (List.mem_cons_of_mem _ fl_N_22) rfl (ty := .int) (by decide +kernel) rfl rfl (Nat.le_of_ble_eq_true rfl) (ly_N hk0) h_7 xd_N_start_7 ?_
  refine aw_aload_n C 0 xd_N_start_10 rfl rfl ?_
  refine aw_get C k0 (kd_lt hk0) (ly_N hk0) rfl (fun w h => List.mem_cons_of_mem _ (xi_N w h)) 0 (by decide) rfl (List.mem_cons_of_mem _ fl_N_11) xd_N_start_11 ?_
  refine aw_iconst (v := (0 : Int32)) C xd_N_start_14 (by decide) ?_
  refine aw_aald C (k0 + 1) (kd_lt (kf_N_frames hk0)) 4 (ly_F6 (kf_N_frames hk0)) rfl (aw_in_ok (rfl : aw_in (0 : Int32) 6 = true)) rfl xd_N_start_15 ?_
  refine aw_iload_n C 2 xd_N_start_16 rfl rfl ?_
  refine aw_iload_n C 3 xd_N_start_17 rfl rfl ?_
  refine aw_iload C 4 xd_N_start_18 rfl ?_
  refine aw_iload C 5 xd_N_start_20 rfl ?_
  obtain ⟨q_22, e_22, hm⟩ := aw_bnd hm
  refine aw_callVv (As := [.int a2, .int a3, .int a4, .int a5]) (rest := []) (b := ad (k0 + 1 + 1 + (Int32.toNatClampNeg (0 : Int32)))) C (xc_F_open s_7 (k0 + 1 + 1 + (Int32.toNatClampNeg (0 : Int32))) a2 a3 a4 a5 _ (ka_F6 (kf_N_frames hk0) (aw_in_lt (rfl : aw_in (0 : Int32) 6 = true))) e_22) rfl (gw_sub (gw_V xg_F_open ml_N_25 im_F_open se_F_open wi_F)) na_F_open (rm_lt (by decide) (by decide)) ⟨Nat.zero_le _, Nat.zero_le _⟩ (k0 + 1 + 1 + (Int32.toNatClampNeg (0 : Int32))) (at_F (ka_F6 (kf_N_frames hk0) (aw_in_lt (rfl : aw_in (0 : Int32) 6 = true)))) rfl rfl (Nat.le_of_ble_eq_true rfl) xd_N_start_22 ?_
  refine aw_aload_n C 0 xd_N_start_25 rfl rfl ?_
  refine aw_aload_n C 1 xd_N_start_26 rfl rfl ?_
  refine aw_iconst (v := (0 : Int32)) C xd_N_start_27 (by decide) ?_
  refine aw_iconst (v := (0 : Int32)) C xd_N_start_28 (by decide) ?_
  obtain ⟨q_29, e_29, hm⟩ := aw_bnd hm
  refine aw_callVi (As := [.ref (ad k1), .int (0 : Int32), .int (0 : Int32)]) (rest := []) (b := ad k0) C (xc_N_work 40 q_22 k0 k1 (0 : Int32) (0 : Int32) _ hk0 hk1 e_29) rfl (gw_sub (gw_V xg_N_work ml_N_29 im_N_work se_N_work wi_N)) na_N_work (rm_lt (by decide) (by decide)) ⟨Nat.zero_le _, Nat.zero_le _⟩ k0 (at_N hk0) rfl rfl (Nat.le_of_ble_eq_true rfl) xd_N_start_29 ?_
  cases hm
  exact aw_iret C xd_N_start_32
end
end
section
theorem xd_S_begin_0 : decode xb_S_begin 0 = .ok (.iload_n 1, 1) := by decide +kernel
theorem xd_S_begin_1 : decode xb_S_begin 1 = .ok (.ifCond .lt 8, 3) := by decide +kernel
theorem xd_S_begin_4 : decode xb_S_begin 4 = .ok (.iload_n 1, 1) := by decide +kernel
theorem xd_S_begin_5 : decode xb_S_begin 5 = .ok (.iconst 3, 1) := by decide +kernel
theorem xd_S_begin_6 : decode xb_S_begin 6 = .ok (.if_icmp .le 5, 3) := by decide +kernel
theorem xd_S_begin_9 : decode xb_S_begin 9 = .ok (.iconst (-1), 1) := by decide +kernel
theorem xd_S_begin_10 : decode xb_S_begin 10 = .ok (.ireturn, 1) := by decide +kernel
theorem xd_S_begin_11 : decode xb_S_begin 11 = .ok (.aload_n 0, 1) := by decide +kernel
theorem xd_S_begin_12 : decode xb_S_begin 12 = .ok (.getfield 10, 3) := by decide +kernel
theorem xd_S_begin_15 : decode xb_S_begin 15 = .ok (.iload_n 1, 1) := by decide +kernel
theorem xd_S_begin_16 : decode xb_S_begin 16 = .ok (.invokevirtual 44, 3) := by decide +kernel
theorem xd_S_begin_19 : decode xb_S_begin 19 = .ok (.iconst 0, 1) := by decide +kernel
theorem xd_S_begin_20 : decode xb_S_begin 20 = .ok (.ireturn, 1) := by decide +kernel
theorem xd_S_procedure_0 : decode xb_S_procedure 0 = .ok (.iload_n 1, 1) := by decide +kernel
theorem xd_S_procedure_1 : decode xb_S_procedure 1 = .ok (.ifCond .lt 8, 3) := by decide +kernel
theorem xd_S_procedure_4 : decode xb_S_procedure 4 = .ok (.iload_n 1, 1) := by decide +kernel
theorem xd_S_procedure_5 : decode xb_S_procedure 5 = .ok (.iconst 2, 1) := by decide +kernel
theorem xd_S_procedure_6 : decode xb_S_procedure 6 = .ok (.if_icmp .le 5, 3) := by decide +kernel
theorem xd_S_procedure_9 : decode xb_S_procedure 9 = .ok (.iconst (-1), 1) := by decide +kernel
theorem xd_S_procedure_10 : decode xb_S_procedure 10 = .ok (.ireturn, 1) := by decide +kernel
theorem xd_S_procedure_11 : decode xb_S_procedure 11 = .ok (.aload_n 0, 1) := by decide +kernel
theorem xd_S_procedure_12 : decode xb_S_procedure 12 = .ok (.getfield 10, 3) := by decide +kernel
theorem xd_S_procedure_15 : decode xb_S_procedure 15 = .ok (.iload_n 1, 1) := by decide +kernel
theorem xd_S_procedure_16 : decode xb_S_procedure 16 = .ok (.invokevirtual 48, 3) := by decide +kernel
theorem xd_S_procedure_19 : decode xb_S_procedure 19 = .ok (.ireturn, 1) := by decide +kernel
theorem xd_S_token_0 : decode xb_S_token 0 = .ok (.iload_n 1, 1) := by decide +kernel
theorem xd_S_token_1 : decode xb_S_token 1 = .ok (.ifCond .lt 9, 3) := by decide +kernel
theorem xd_S_token_4 : decode xb_S_token 4 = .ok (.iload_n 1, 1) := by decide +kernel
theorem xd_S_token_5 : decode xb_S_token 5 = .ok (.bipush 11, 2) := by decide +kernel
theorem xd_S_token_7 : decode xb_S_token 7 = .ok (.if_icmp .le 5, 3) := by decide +kernel
theorem xd_S_token_10 : decode xb_S_token 10 = .ok (.iconst (-1), 1) := by decide +kernel
theorem xd_S_token_11 : decode xb_S_token 11 = .ok (.ireturn, 1) := by decide +kernel
theorem xd_S_token_12 : decode xb_S_token 12 = .ok (.aload_n 0, 1) := by decide +kernel
theorem xd_S_token_13 : decode xb_S_token 13 = .ok (.getfield 10, 3) := by decide +kernel
theorem xd_S_token_16 : decode xb_S_token 16 = .ok (.iload_n 1, 1) := by decide +kernel
theorem xd_S_token_17 : decode xb_S_token 17 = .ok (.iload_n 2, 1) := by decide +kernel
theorem xd_S_token_18 : decode xb_S_token 18 = .ok (.iload_n 3, 1) := by decide +kernel
theorem xd_S_token_19 : decode xb_S_token 19 = .ok (.invokevirtual 52, 3) := by decide +kernel
theorem xd_S_token_22 : decode xb_S_token 22 = .ok (.ireturn, 1) := by decide +kernel
theorem xd_S_compile_0 : decode xb_S_compile 0 = .ok (.aload_n 0, 1) := by decide +kernel
theorem xd_S_compile_1 : decode xb_S_compile 1 = .ok (.iconst (-1), 1) := by decide +kernel
theorem xd_S_compile_2 : decode xb_S_compile 2 = .ok (.putfield 37, 3) := by decide +kernel
theorem xd_S_compile_5 : decode xb_S_compile 5 = .ok (.iload_n 1, 1) := by decide +kernel
theorem xd_S_compile_6 : decode xb_S_compile 6 = .ok (.invokestatic 56, 3) := by decide +kernel
theorem xd_S_compile_9 : decode xb_S_compile 9 = .ok (.ifCond .ne 5, 3) := by decide +kernel
theorem xd_S_compile_12 : decode xb_S_compile 12 = .ok (.iconst (-1), 1) := by decide +kernel
theorem xd_S_compile_13 : decode xb_S_compile 13 = .ok (.ireturn, 1) := by decide +kernel
theorem xd_S_compile_14 : decode xb_S_compile 14 = .ok (.aload_n 0, 1) := by decide +kernel
theorem xd_S_compile_15 : decode xb_S_compile 15 = .ok (.getfield 19, 3) := by decide +kernel
theorem xd_S_compile_18 : decode xb_S_compile 18 = .ok (.aload_n 0, 1) := by decide +kernel
theorem xd_S_compile_19 : decode xb_S_compile 19 = .ok (.getfield 10, 3) := by decide +kernel
theorem xd_S_compile_22 : decode xb_S_compile 22 = .ok (.iload_n 1, 1) := by decide +kernel
theorem xd_S_compile_23 : decode xb_S_compile 23 = .ok (.invokevirtual 60, 3) := by decide +kernel
theorem xd_S_compile_26 : decode xb_S_compile 26 = .ok (.istore_n 2, 1) := by decide +kernel
theorem xd_S_compile_27 : decode xb_S_compile 27 = .ok (.iload_n 2, 1) := by decide +kernel
theorem xd_S_compile_28 : decode xb_S_compile 28 = .ok (.iconst (-1), 1) := by decide +kernel
theorem xd_S_compile_29 : decode xb_S_compile 29 = .ok (.if_icmp .eq 11, 3) := by decide +kernel
theorem xd_S_compile_32 : decode xb_S_compile 32 = .ok (.aload_n 0, 1) := by decide +kernel
theorem xd_S_compile_33 : decode xb_S_compile 33 = .ok (.iload_n 2, 1) := by decide +kernel
theorem xd_S_compile_34 : decode xb_S_compile 34 = .ok (.putfield 37, 3) := by decide +kernel
theorem xd_S_compile_37 : decode xb_S_compile 37 = .ok (.bipush (-3), 2) := by decide +kernel
theorem xd_S_compile_39 : decode xb_S_compile 39 = .ok (.ireturn, 1) := by decide +kernel
theorem xd_S_compile_40 : decode xb_S_compile 40 = .ok (.aload_n 0, 1) := by decide +kernel
theorem xd_S_compile_41 : decode xb_S_compile 41 = .ok (.getfield 19, 3) := by decide +kernel
theorem xd_S_compile_44 : decode xb_S_compile 44 = .ok (.aload_n 0, 1) := by decide +kernel
theorem xd_S_compile_45 : decode xb_S_compile 45 = .ok (.getfield 10, 3) := by decide +kernel
theorem xd_S_compile_48 : decode xb_S_compile 48 = .ok (.iload_n 1, 1) := by decide +kernel
theorem xd_S_compile_49 : decode xb_S_compile 49 = .ok (.invokevirtual 64, 3) := by decide +kernel
theorem xd_S_compile_52 : decode xb_S_compile 52 = .ok (.ireturn, 1) := by decide +kernel
theorem xd_S_place_0 : decode xb_S_place 0 = .ok (.aload_n 0, 1) := by decide +kernel
theorem xd_S_place_1 : decode xb_S_place 1 = .ok (.getfield 37, 3) := by decide +kernel
theorem xd_S_place_4 : decode xb_S_place 4 = .ok (.ireturn, 1) := by decide +kernel
theorem xd_S_remove_0 : decode xb_S_remove 0 = .ok (.aload_n 0, 1) := by decide +kernel
theorem xd_S_remove_1 : decode xb_S_remove 1 = .ok (.getfield 19, 3) := by decide +kernel
theorem xd_S_remove_4 : decode xb_S_remove 4 = .ok (.iload_n 1, 1) := by decide +kernel
theorem xd_S_remove_5 : decode xb_S_remove 5 = .ok (.invokevirtual 67, 3) := by decide +kernel
theorem xd_S_remove_8 : decode xb_S_remove 8 = .ok (.ifCond .ne 5, 3) := by decide +kernel
theorem xd_S_remove_11 : decode xb_S_remove 11 = .ok (.iconst (-1), 1) := by decide +kernel
theorem xd_S_remove_12 : decode xb_S_remove 12 = .ok (.ireturn, 1) := by decide +kernel
theorem xd_S_remove_13 : decode xb_S_remove 13 = .ok (.aload_n 0, 1) := by decide +kernel
theorem xd_S_remove_14 : decode xb_S_remove 14 = .ok (.getfield 19, 3) := by decide +kernel
theorem xd_S_remove_17 : decode xb_S_remove 17 = .ok (.getfield 70, 3) := by decide +kernel
theorem xd_S_remove_20 : decode xb_S_remove 20 = .ok (.iload_n 1, 1) := by decide +kernel
theorem xd_S_remove_21 : decode xb_S_remove 21 = .ok (.aaload, 1) := by decide +kernel
theorem xd_S_remove_22 : decode xb_S_remove 22 = .ok (.iconst 0, 1) := by decide +kernel
theorem xd_S_remove_23 : decode xb_S_remove 23 = .ok (.putfield 74, 3) := by decide +kernel
theorem xd_S_remove_26 : decode xb_S_remove 26 = .ok (.iconst 0, 1) := by decide +kernel
theorem xd_S_remove_27 : decode xb_S_remove 27 = .ok (.ireturn, 1) := by decide +kernel
theorem xd_S_load_0 : decode xb_S_load 0 = .ok (.iload_n 1, 1) := by decide +kernel
theorem xd_S_load_1 : decode xb_S_load 1 = .ok (.invokestatic 56, 3) := by decide +kernel
theorem xd_S_load_4 : decode xb_S_load 4 = .ok (.ifCond .ne 5, 3) := by decide +kernel
theorem xd_S_load_7 : decode xb_S_load 7 = .ok (.iconst (-1), 1) := by decide +kernel
theorem xd_S_load_8 : decode xb_S_load 8 = .ok (.ireturn, 1) := by decide +kernel
theorem xd_S_load_9 : decode xb_S_load 9 = .ok (.aload_n 0, 1) := by decide +kernel
theorem xd_S_load_10 : decode xb_S_load 10 = .ok (.getfield 26, 3) := by decide +kernel
theorem xd_S_load_13 : decode xb_S_load 13 = .ok (.aload_n 0, 1) := by decide +kernel
theorem xd_S_load_14 : decode xb_S_load 14 = .ok (.getfield 19, 3) := by decide +kernel
theorem xd_S_load_17 : decode xb_S_load 17 = .ok (.iload_n 1, 1) := by decide +kernel
theorem xd_S_load_18 : decode xb_S_load 18 = .ok (.invokevirtual 80, 3) := by decide +kernel
theorem xd_S_load_21 : decode xb_S_load 21 = .ok (.ireturn, 1) := by decide +kernel
theorem xd_S_unload_0 : decode xb_S_unload 0 = .ok (.aload_n 0, 1) := by decide +kernel
theorem xd_S_unload_1 : decode xb_S_unload 1 = .ok (.getfield 26, 3) := by decide +kernel
theorem xd_S_unload_4 : decode xb_S_unload 4 = .ok (.iload_n 1, 1) := by decide +kernel
theorem xd_S_unload_5 : decode xb_S_unload 5 = .ok (.invokevirtual 84, 3) := by decide +kernel
theorem xd_S_unload_8 : decode xb_S_unload 8 = .ok (.ifCond .ne 5, 3) := by decide +kernel
theorem xd_S_unload_11 : decode xb_S_unload 11 = .ok (.iconst (-1), 1) := by decide +kernel
theorem xd_S_unload_12 : decode xb_S_unload 12 = .ok (.ireturn, 1) := by decide +kernel
theorem xd_S_unload_13 : decode xb_S_unload 13 = .ok (.aload_n 0, 1) := by decide +kernel
theorem xd_S_unload_14 : decode xb_S_unload 14 = .ok (.getfield 26, 3) := by decide +kernel
theorem xd_S_unload_17 : decode xb_S_unload 17 = .ok (.iload_n 1, 1) := by decide +kernel
theorem xd_S_unload_18 : decode xb_S_unload 18 = .ok (.invokevirtual 85, 3) := by decide +kernel
theorem xd_S_unload_21 : decode xb_S_unload 21 = .ok (.ifCond .eq 6, 3) := by decide +kernel
theorem xd_S_unload_24 : decode xb_S_unload 24 = .ok (.bipush (-7), 2) := by decide +kernel
theorem xd_S_unload_26 : decode xb_S_unload 26 = .ok (.ireturn, 1) := by decide +kernel
theorem xd_S_unload_27 : decode xb_S_unload 27 = .ok (.aload_n 0, 1) := by decide +kernel
theorem xd_S_unload_28 : decode xb_S_unload 28 = .ok (.getfield 26, 3) := by decide +kernel
theorem xd_S_unload_31 : decode xb_S_unload 31 = .ok (.getfield 88, 3) := by decide +kernel
theorem xd_S_unload_34 : decode xb_S_unload 34 = .ok (.iload_n 1, 1) := by decide +kernel
theorem xd_S_unload_35 : decode xb_S_unload 35 = .ok (.aaload, 1) := by decide +kernel
theorem xd_S_unload_36 : decode xb_S_unload 36 = .ok (.getfield 92, 3) := by decide +kernel
theorem xd_S_unload_39 : decode xb_S_unload 39 = .ok (.iconst 0, 1) := by decide +kernel
theorem xd_S_unload_40 : decode xb_S_unload 40 = .ok (.putfield 74, 3) := by decide +kernel
theorem xd_S_unload_43 : decode xb_S_unload 43 = .ok (.iconst 0, 1) := by decide +kernel
theorem xd_S_unload_44 : decode xb_S_unload 44 = .ok (.ireturn, 1) := by decide +kernel
theorem xd_S_run_0 : decode xb_S_run 0 = .ok (.aload_n 0, 1) := by decide +kernel
theorem xd_S_run_1 : decode xb_S_run 1 = .ok (.getfield 26, 3) := by decide +kernel
theorem xd_S_run_4 : decode xb_S_run 4 = .ok (.iload_n 1, 1) := by decide +kernel
theorem xd_S_run_5 : decode xb_S_run 5 = .ok (.iload_n 2, 1) := by decide +kernel
theorem xd_S_run_6 : decode xb_S_run 6 = .ok (.invokevirtual 98, 3) := by decide +kernel
theorem xd_S_run_9 : decode xb_S_run 9 = .ok (.iconst (-1), 1) := by decide +kernel
theorem xd_S_run_10 : decode xb_S_run 10 = .ok (.if_icmp .ne 5, 3) := by decide +kernel
theorem xd_S_run_13 : decode xb_S_run 13 = .ok (.iconst (-1), 1) := by decide +kernel
theorem xd_S_run_14 : decode xb_S_run 14 = .ok (.ireturn, 1) := by decide +kernel
theorem xd_S_run_15 : decode xb_S_run 15 = .ok (.aload_n 0, 1) := by decide +kernel
theorem xd_S_run_16 : decode xb_S_run 16 = .ok (.getfield 33, 3) := by decide +kernel
theorem xd_S_run_19 : decode xb_S_run 19 = .ok (.aload_n 0, 1) := by decide +kernel
theorem xd_S_run_20 : decode xb_S_run 20 = .ok (.getfield 26, 3) := by decide +kernel
theorem xd_S_run_23 : decode xb_S_run 23 = .ok (.iload_n 1, 1) := by decide +kernel
theorem xd_S_run_24 : decode xb_S_run 24 = .ok (.iload_n 2, 1) := by decide +kernel
theorem xd_S_run_25 : decode xb_S_run 25 = .ok (.iload_n 3, 1) := by decide +kernel
theorem xd_S_run_26 : decode xb_S_run 26 = .ok (.iload 4, 2) := by decide +kernel
theorem xd_S_run_28 : decode xb_S_run 28 = .ok (.invokevirtual 102, 3) := by decide +kernel
theorem xd_S_run_31 : decode xb_S_run 31 = .ok (.istore 5, 2) := by decide +kernel
theorem xd_S_run_33 : decode xb_S_run 33 = .ok (.aload_n 0, 1) := by decide +kernel
theorem xd_S_run_34 : decode xb_S_run 34 = .ok (.getfield 33, 3) := by decide +kernel
theorem xd_S_run_37 : decode xb_S_run 37 = .ok (.getfield 106, 3) := by decide +kernel
theorem xd_S_run_40 : decode xb_S_run 40 = .ok (.ifCond .eq 11, 3) := by decide +kernel
theorem xd_S_run_43 : decode xb_S_run 43 = .ok (.aload_n 0, 1) := by decide +kernel
theorem xd_S_run_44 : decode xb_S_run 44 = .ok (.getfield 33, 3) := by decide +kernel
theorem xd_S_run_47 : decode xb_S_run 47 = .ok (.getfield 106, 3) := by decide +kernel
theorem xd_S_run_50 : decode xb_S_run 50 = .ok (.ireturn, 1) := by decide +kernel
theorem xd_S_run_51 : decode xb_S_run 51 = .ok (.aload_n 0, 1) := by decide +kernel
theorem xd_S_run_52 : decode xb_S_run 52 = .ok (.iload 5, 2) := by decide +kernel
theorem xd_S_run_54 : decode xb_S_run 54 = .ok (.putfield 41, 3) := by decide +kernel
theorem xd_S_run_57 : decode xb_S_run 57 = .ok (.iconst 0, 1) := by decide +kernel
theorem xd_S_run_58 : decode xb_S_run 58 = .ok (.ireturn, 1) := by decide +kernel
theorem xd_S_value_0 : decode xb_S_value 0 = .ok (.aload_n 0, 1) := by decide +kernel
theorem xd_S_value_1 : decode xb_S_value 1 = .ok (.getfield 41, 3) := by decide +kernel
theorem xd_S_value_4 : decode xb_S_value 4 = .ok (.ireturn, 1) := by decide +kernel
theorem xd_S_steps_0 : decode xb_S_steps 0 = .ok (.aload_n 0, 1) := by decide +kernel
theorem xd_S_steps_1 : decode xb_S_steps 1 = .ok (.getfield 33, 3) := by decide +kernel
theorem xd_S_steps_4 : decode xb_S_steps 4 = .ok (.getfield 109, 3) := by decide +kernel
theorem xd_S_steps_7 : decode xb_S_steps 7 = .ok (.ireturn, 1) := by decide +kernel
theorem xd_S_variable_0 : decode xb_S_variable 0 = .ok (.aload_n 0, 1) := by decide +kernel
theorem xd_S_variable_1 : decode xb_S_variable 1 = .ok (.getfield 26, 3) := by decide +kernel
theorem xd_S_variable_4 : decode xb_S_variable 4 = .ok (.iload_n 1, 1) := by decide +kernel
theorem xd_S_variable_5 : decode xb_S_variable 5 = .ok (.iload_n 2, 1) := by decide +kernel
theorem xd_S_variable_6 : decode xb_S_variable 6 = .ok (.invokevirtual 112, 3) := by decide +kernel
theorem xd_S_variable_9 : decode xb_S_variable 9 = .ok (.ireturn, 1) := by decide +kernel
theorem xd_S_key_0 : decode xb_S_key 0 = .ok (.aload_n 0, 1) := by decide +kernel
theorem xd_S_key_1 : decode xb_S_key 1 = .ok (.getfield 19, 3) := by decide +kernel
theorem xd_S_key_4 : decode xb_S_key 4 = .ok (.iload_n 1, 1) := by decide +kernel
theorem xd_S_key_5 : decode xb_S_key 5 = .ok (.invokevirtual 67, 3) := by decide +kernel
theorem xd_S_key_8 : decode xb_S_key 8 = .ok (.ifCond .eq 18, 3) := by decide +kernel
theorem xd_S_key_11 : decode xb_S_key 11 = .ok (.aload_n 0, 1) := by decide +kernel
theorem xd_S_key_12 : decode xb_S_key 12 = .ok (.getfield 19, 3) := by decide +kernel
theorem xd_S_key_15 : decode xb_S_key 15 = .ok (.getfield 70, 3) := by decide +kernel
theorem xd_S_key_18 : decode xb_S_key 18 = .ok (.iload_n 1, 1) := by decide +kernel
theorem xd_S_key_19 : decode xb_S_key 19 = .ok (.aaload, 1) := by decide +kernel
theorem xd_S_key_20 : decode xb_S_key 20 = .ok (.getfield 115, 3) := by decide +kernel
theorem xd_S_key_23 : decode xb_S_key 23 = .ok (.goto 4, 3) := by decide +kernel
theorem xd_S_key_26 : decode xb_S_key 26 = .ok (.iconst (-1), 1) := by decide +kernel
theorem xd_S_key_27 : decode xb_S_key 27 = .ok (.ireturn, 1) := by decide +kernel
theorem xd_S_loaded_0 : decode xb_S_loaded 0 = .ok (.aload_n 0, 1) := by decide +kernel
theorem xd_S_loaded_1 : decode xb_S_loaded 1 = .ok (.getfield 26, 3) := by decide +kernel
theorem xd_S_loaded_4 : decode xb_S_loaded 4 = .ok (.iload_n 1, 1) := by decide +kernel
theorem xd_S_loaded_5 : decode xb_S_loaded 5 = .ok (.invokevirtual 84, 3) := by decide +kernel
theorem xd_S_loaded_8 : decode xb_S_loaded 8 = .ok (.ifCond .eq 21, 3) := by decide +kernel
theorem xd_S_loaded_11 : decode xb_S_loaded 11 = .ok (.aload_n 0, 1) := by decide +kernel
theorem xd_S_loaded_12 : decode xb_S_loaded 12 = .ok (.getfield 26, 3) := by decide +kernel
theorem xd_S_loaded_15 : decode xb_S_loaded 15 = .ok (.getfield 88, 3) := by decide +kernel
theorem xd_S_loaded_18 : decode xb_S_loaded 18 = .ok (.iload_n 1, 1) := by decide +kernel
theorem xd_S_loaded_19 : decode xb_S_loaded 19 = .ok (.aaload, 1) := by decide +kernel
theorem xd_S_loaded_20 : decode xb_S_loaded 20 = .ok (.getfield 92, 3) := by decide +kernel
theorem xd_S_loaded_23 : decode xb_S_loaded 23 = .ok (.getfield 115, 3) := by decide +kernel
theorem xd_S_loaded_26 : decode xb_S_loaded 26 = .ok (.goto 4, 3) := by decide +kernel
theorem xd_S_loaded_29 : decode xb_S_loaded 29 = .ok (.iconst (-1), 1) := by decide +kernel
theorem xd_S_loaded_30 : decode xb_S_loaded 30 = .ok (.ireturn, 1) := by decide +kernel
theorem xd_S_imported_0 : decode xb_S_imported 0 = .ok (.aload_n 0, 1) := by decide +kernel
theorem xd_S_imported_1 : decode xb_S_imported 1 = .ok (.getfield 19, 3) := by decide +kernel
theorem xd_S_imported_4 : decode xb_S_imported 4 = .ok (.iload_n 1, 1) := by decide +kernel
theorem xd_S_imported_5 : decode xb_S_imported 5 = .ok (.invokevirtual 67, 3) := by decide +kernel
theorem xd_S_imported_8 : decode xb_S_imported 8 = .ok (.ifCond .ne 5, 3) := by decide +kernel
theorem xd_S_imported_11 : decode xb_S_imported 11 = .ok (.iconst (-1), 1) := by decide +kernel
theorem xd_S_imported_12 : decode xb_S_imported 12 = .ok (.ireturn, 1) := by decide +kernel
theorem xd_S_imported_13 : decode xb_S_imported 13 = .ok (.aload_n 0, 1) := by decide +kernel
theorem xd_S_imported_14 : decode xb_S_imported 14 = .ok (.getfield 19, 3) := by decide +kernel
theorem xd_S_imported_17 : decode xb_S_imported 17 = .ok (.getfield 70, 3) := by decide +kernel
theorem xd_S_imported_20 : decode xb_S_imported 20 = .ok (.iload_n 1, 1) := by decide +kernel
theorem xd_S_imported_21 : decode xb_S_imported 21 = .ok (.aaload, 1) := by decide +kernel
theorem xd_S_imported_22 : decode xb_S_imported 22 = .ok (.astore_n 3, 1) := by decide +kernel
theorem xd_S_imported_23 : decode xb_S_imported 23 = .ok (.iload_n 2, 1) := by decide +kernel
theorem xd_S_imported_24 : decode xb_S_imported 24 = .ok (.ifCond .lt 11, 3) := by decide +kernel
theorem xd_S_imported_27 : decode xb_S_imported 27 = .ok (.iload_n 2, 1) := by decide +kernel
theorem xd_S_imported_28 : decode xb_S_imported 28 = .ok (.aload_n 3, 1) := by decide +kernel
theorem xd_S_imported_29 : decode xb_S_imported 29 = .ok (.getfield 118, 3) := by decide +kernel
theorem xd_S_imported_32 : decode xb_S_imported 32 = .ok (.if_icmp .lt 5, 3) := by decide +kernel
theorem xd_S_imported_35 : decode xb_S_imported 35 = .ok (.iconst (-1), 1) := by decide +kernel
theorem xd_S_imported_36 : decode xb_S_imported 36 = .ok (.ireturn, 1) := by decide +kernel
theorem xd_S_imported_37 : decode xb_S_imported 37 = .ok (.aload_n 3, 1) := by decide +kernel
theorem xd_S_imported_38 : decode xb_S_imported 38 = .ok (.getfield 121, 3) := by decide +kernel
theorem xd_S_imported_41 : decode xb_S_imported 41 = .ok (.iload_n 2, 1) := by decide +kernel
theorem xd_S_imported_42 : decode xb_S_imported 42 = .ok (.iaload, 1) := by decide +kernel
theorem xd_S_imported_43 : decode xb_S_imported 43 = .ok (.bipush 8, 2) := by decide +kernel
theorem xd_S_imported_45 : decode xb_S_imported 45 = .ok (.aload_n 3, 1) := by decide +kernel
theorem xd_S_imported_46 : decode xb_S_imported 46 = .ok (.getfield 125, 3) := by decide +kernel
theorem xd_S_imported_49 : decode xb_S_imported 49 = .ok (.iload_n 2, 1) := by decide +kernel
theorem xd_S_imported_50 : decode xb_S_imported 50 = .ok (.iaload, 1) := by decide +kernel
theorem xd_S_imported_51 : decode xb_S_imported 51 = .ok (.imul, 1) := by decide +kernel
theorem xd_S_imported_52 : decode xb_S_imported 52 = .ok (.iadd, 1) := by decide +kernel
theorem xd_S_imported_53 : decode xb_S_imported 53 = .ok (.ireturn, 1) := by decide +kernel
theorem xd_S_count_0 : decode xb_S_count 0 = .ok (.iload_n 1, 1) := by decide +kernel
theorem xd_S_count_1 : decode xb_S_count 1 = .ok (.tableswitch 96 0 5 #[39, 47, 64, 72, 80, 88], 39) := by decide +kernel
theorem xd_S_count_40 : decode xb_S_count 40 = .ok (.aload_n 0, 1) := by decide +kernel
theorem xd_S_count_41 : decode xb_S_count 41 = .ok (.getfield 10, 3) := by decide +kernel
theorem xd_S_count_44 : decode xb_S_count 44 = .ok (.getfield 128, 3) := by decide +kernel
theorem xd_S_count_47 : decode xb_S_count 47 = .ok (.ireturn, 1) := by decide +kernel
theorem xd_S_count_48 : decode xb_S_count 48 = .ok (.aload_n 0, 1) := by decide +kernel
theorem xd_S_count_49 : decode xb_S_count 49 = .ok (.getfield 10, 3) := by decide +kernel
theorem xd_S_count_52 : decode xb_S_count 52 = .ok (.aload_n 0, 1) := by decide +kernel
theorem xd_S_count_53 : decode xb_S_count 53 = .ok (.getfield 10, 3) := by decide +kernel
theorem xd_S_count_56 : decode xb_S_count 56 = .ok (.getfield 128, 3) := by decide +kernel
theorem xd_S_count_59 : decode xb_S_count 59 = .ok (.iconst 1, 1) := by decide +kernel
theorem xd_S_count_60 : decode xb_S_count 60 = .ok (.isub, 1) := by decide +kernel
theorem xd_S_count_61 : decode xb_S_count 61 = .ok (.invokevirtual 131, 3) := by decide +kernel
theorem xd_S_count_64 : decode xb_S_count 64 = .ok (.ireturn, 1) := by decide +kernel
theorem xd_S_count_65 : decode xb_S_count 65 = .ok (.aload_n 0, 1) := by decide +kernel
theorem xd_S_count_66 : decode xb_S_count 66 = .ok (.getfield 19, 3) := by decide +kernel
theorem xd_S_count_69 : decode xb_S_count 69 = .ok (.invokevirtual 134, 3) := by decide +kernel
theorem xd_S_count_72 : decode xb_S_count 72 = .ok (.ireturn, 1) := by decide +kernel
theorem xd_S_count_73 : decode xb_S_count 73 = .ok (.aload_n 0, 1) := by decide +kernel
theorem xd_S_count_74 : decode xb_S_count 74 = .ok (.getfield 26, 3) := by decide +kernel
theorem xd_S_count_77 : decode xb_S_count 77 = .ok (.invokevirtual 138, 3) := by decide +kernel
theorem xd_S_count_80 : decode xb_S_count 80 = .ok (.ireturn, 1) := by decide +kernel
theorem xd_S_count_81 : decode xb_S_count 81 = .ok (.aload_n 0, 1) := by decide +kernel
theorem xd_S_count_82 : decode xb_S_count 82 = .ok (.getfield 26, 3) := by decide +kernel
theorem xd_S_count_85 : decode xb_S_count 85 = .ok (.invokevirtual 139, 3) := by decide +kernel
theorem xd_S_count_88 : decode xb_S_count 88 = .ok (.ireturn, 1) := by decide +kernel
theorem xd_S_count_89 : decode xb_S_count 89 = .ok (.aload_n 0, 1) := by decide +kernel
theorem xd_S_count_90 : decode xb_S_count 90 = .ok (.getfield 19, 3) := by decide +kernel
theorem xd_S_count_93 : decode xb_S_count 93 = .ok (.getfield 142, 3) := by decide +kernel
theorem xd_S_count_96 : decode xb_S_count 96 = .ok (.ireturn, 1) := by decide +kernel
theorem xd_S_count_97 : decode xb_S_count 97 = .ok (.iconst (-1), 1) := by decide +kernel
theorem xd_S_count_98 : decode xb_S_count 98 = .ok (.ireturn, 1) := by decide +kernel
section
variable {l : Launch} {D : va_G} {ad : Nat → Nat} {ids : Nat → ClassId} {ps : Nat}
def xm_S_begin (σ : aw_m) (a1 : Int32) : Option (Int32 × aw_m) := (if a1 < 0 then some ((-1 : Int32), σ) else (if a1 ≤ (3 : Int32) then (xm_C_clear σ 1 a1).bind fun q_16 => some ((0 : Int32), q_16) else some ((-1 : Int32), σ)))
set_option maxHeartbeats 4000000 in
set_option maxRecDepth 100000 in
theorem xc_S_begin (σ : aw_m) (a1 : Int32) (q : Int32 × aw_m)  (hm : xm_S_begin σ a1 = some q) : aw_M l D (ty_z ids) (zs_T ps) xy_S_begin (xw_S_begin :: gw_l) (rm_D (1)) [.ref (ad 0), .int a1] (cw_w ad ids σ) (some (.int q.1)) (cw_w ad ids q.2) := by
  refine aw_intro (cc := xb_S_begin) (n := 2) (ret := (some .int)) "ModuleShelf" rfl (by decide) rfl (Nat.le_of_ble_eq_true rfl) ?_
  intro κ C
  unfold xm_S_begin at hm
  refine aw_iload_n C 1 xd_S_begin_0 rfl rfl ?_
  refine aw_if_lt (tgt := 9) C xd_S_begin_1 (by decide) (fun c_1 => ?_) (fun c_1 => ?_)
  · rw [if_pos c_1] at hm
    refine aw_iconst (v := (-1 : Int32)) C xd_S_begin_9 (by decide) ?_
    cases hm
    exact aw_iret C xd_S_begin_10
  · rw [if_neg c_1] at hm
    refine aw_iload_n C 1 xd_S_begin_4 rfl rfl ?_
    refine aw_iconst (v := (3 : Int32)) C xd_S_begin_5 (by decide) ?_
    refine aw_icmp_le (tgt := 11) C xd_S_begin_6 (by decide) (fun c_6 => ?_) (fun c_6 => ?_)
    · rw [if_pos c_6] at hm
      refine aw_aload_n C 0 xd_S_begin_11 rfl rfl ?_
      refine aw_get C 0 (kd_lt (rfl : kd_k 0 = 15)) (ly_S (rfl : kd_k 0 = 15)) rfl (fun w h => List.mem_cons_of_mem _ (xi_S w h)) 0 (by decide) rfl (List.mem_cons_of_mem _ fl_S_10) xd_S_begin_12 ?_
      refine aw_iload_n C 1 xd_S_begin_15 rfl rfl ?_
      obtain ⟨q_16, e_16, hm⟩ := aw_bnd hm
      refine aw_callVv (As := [.int a1]) (rest := []) (b := ad 1) C (xc_C_clear σ 1 a1 _ (rfl : kd_k 1 = 1) e_16) rfl (gw_sub (gw_V xg_C_clear ml_S_44 im_C_clear se_C_clear wi_C)) na_C_clear (rm_lt (by decide) (by decide)) ⟨Nat.zero_le _, Nat.zero_le _⟩ 1 (at_C (rfl : kd_k 1 = 1)) rfl rfl (Nat.le_of_ble_eq_true rfl) xd_S_begin_16 ?_
      refine aw_iconst (v := (0 : Int32)) C xd_S_begin_19 (by decide) ?_
      cases hm
      exact aw_iret C xd_S_begin_20
    · rw [if_neg c_6] at hm
      refine aw_iconst (v := (-1 : Int32)) C xd_S_begin_9 (by decide) ?_
      cases hm
      exact aw_iret C xd_S_begin_10
def xm_S_procedure (σ : aw_m) (a1 : Int32) : Option (Int32 × aw_m) := (if a1 < 0 then some ((-1 : Int32), σ) else (if a1 ≤ (2 : Int32) then (xm_C_addProcedure σ 1 a1).bind fun q_16 => some (q_16.1, q_16.2) else some ((-1 : Int32), σ)))
set_option maxHeartbeats 4000000 in
set_option maxRecDepth 100000 in
theorem xc_S_procedure (σ : aw_m) (a1 : Int32) (q : Int32 × aw_m)  (hm : xm_S_procedure σ a1 = some q) : aw_M l D (ty_z ids) (zs_T ps) xy_S_procedure (xw_S_procedure :: gw_l) (rm_D (1)) [.ref (ad 0), .int a1] (cw_w ad ids σ) (some (.int q.1)) (cw_w ad ids q.2) := by
  refine aw_intro (cc := xb_S_procedure) (n := 2) (ret := (some .int)) "ModuleShelf" rfl (by decide) rfl (Nat.le_of_ble_eq_true rfl) ?_
  intro κ C
  unfold xm_S_procedure at hm
  refine aw_iload_n C 1 xd_S_procedure_0 rfl rfl ?_
  refine aw_if_lt (tgt := 9) C xd_S_procedure_1 (by decide) (fun c_1 => ?_) (fun c_1 => ?_)
  · rw [if_pos c_1] at hm
    refine aw_iconst (v := (-1 : Int32)) C xd_S_procedure_9 (by decide) ?_
    cases hm
    exact aw_iret C xd_S_procedure_10
  · rw [if_neg c_1] at hm
    refine aw_iload_n C 1 xd_S_procedure_4 rfl rfl ?_
    refine aw_iconst (v := (2 : Int32)) C xd_S_procedure_5 (by decide) ?_
    refine aw_icmp_le (tgt := 11) C xd_S_procedure_6 (by decide) (fun c_6 => ?_) (fun c_6 => ?_)
    · rw [if_pos c_6] at hm
      refine aw_aload_n C 0 xd_S_procedure_11 rfl rfl ?_
      refine aw_get C 0 (kd_lt (rfl : kd_k 0 = 15)) (ly_S (rfl : kd_k 0 = 15)) rfl (fun w h => List.mem_cons_of_mem _ (xi_S w h)) 0 (by decide) rfl (List.mem_cons_of_mem _ fl_S_10) xd_S_procedure_12 ?_
      refine aw_iload_n C 1 xd_S_procedure_15 rfl rfl ?_
      obtain ⟨q_16, e_16, hm⟩ := aw_bnd hm
      refine aw_callVi (As := [.int a1]) (rest := []) (b := ad 1) C (xc_C_addProcedure σ 1 a1 _ (rfl : kd_k 1 = 1) e_16) rfl (gw_sub (gw_V xg_C_addProcedure ml_S_48 im_C_addProcedure se_C_addProcedure wi_C)) na_C_addProcedure (rm_lt (by decide) (by decide)) ⟨Nat.zero_le _, Nat.zero_le _⟩ 1 (at_C (rfl : kd_k 1 = 1)) rfl rfl (Nat.le_of_ble_eq_true rfl) xd_S_procedure_16 ?_
      cases hm
      exact aw_iret C xd_S_procedure_19
    · rw [if_neg c_6] at hm
      refine aw_iconst (v := (-1 : Int32)) C xd_S_procedure_9 (by decide) ?_
      cases hm
      exact aw_iret C xd_S_procedure_10
def xm_S_token (σ : aw_m) (a1 : Int32) (a2 : Int32) (a3 : Int32) : Option (Int32 × aw_m) := (if a1 < 0 then some ((-1 : Int32), σ) else (if a1 ≤ (11 : Int32) then (xm_C_addToken σ 1 a1 a2 a3).bind fun q_19 => some (q_19.1, q_19.2) else some ((-1 : Int32), σ)))
set_option maxHeartbeats 4000000 in
set_option maxRecDepth 100000 in
theorem xc_S_token (σ : aw_m) (a1 : Int32) (a2 : Int32) (a3 : Int32) (q : Int32 × aw_m)  (hm : xm_S_token σ a1 a2 a3 = some q) : aw_M l D (ty_z ids) (zs_T ps) xy_S_token (xw_S_token :: gw_l) (rm_D (2)) [.ref (ad 0), .int a1, .int a2, .int a3] (cw_w ad ids σ) (some (.int q.1)) (cw_w ad ids q.2) := by
  refine aw_intro (cc := xb_S_token) (n := 4) (ret := (some .int)) "ModuleShelf" rfl (by decide) rfl (Nat.le_of_ble_eq_true rfl) ?_
  intro κ C
  unfold xm_S_token at hm
  refine aw_iload_n C 1 xd_S_token_0 rfl rfl ?_
  refine aw_if_lt (tgt := 10) C xd_S_token_1 (by decide) (fun c_1 => ?_) (fun c_1 => ?_)
  · rw [if_pos c_1] at hm
    refine aw_iconst (v := (-1 : Int32)) C xd_S_token_10 (by decide) ?_
    cases hm
    exact aw_iret C xd_S_token_11
  · rw [if_neg c_1] at hm
    refine aw_iload_n C 1 xd_S_token_4 rfl rfl ?_
    refine aw_bipush (v := (11 : Int32)) C xd_S_token_5 (by decide) ?_
    refine aw_icmp_le (tgt := 12) C xd_S_token_7 (by decide) (fun c_7 => ?_) (fun c_7 => ?_)
    · rw [if_pos c_7] at hm
      refine aw_aload_n C 0 xd_S_token_12 rfl rfl ?_
      refine aw_get C 0 (kd_lt (rfl : kd_k 0 = 15)) (ly_S (rfl : kd_k 0 = 15)) rfl (fun w h => List.mem_cons_of_mem _ (xi_S w h)) 0 (by decide) rfl (List.mem_cons_of_mem _ fl_S_10) xd_S_token_13 ?_
      refine aw_iload_n C 1 xd_S_token_16 rfl rfl ?_
      refine aw_iload_n C 2 xd_S_token_17 rfl rfl ?_
      refine aw_iload_n C 3 xd_S_token_18 rfl rfl ?_
      obtain ⟨q_19, e_19, hm⟩ := aw_bnd hm
      refine aw_callVi (As := [.int a1, .int a2, .int a3]) (rest := []) (b := ad 1) C (xc_C_addToken σ 1 a1 a2 a3 _ (rfl : kd_k 1 = 1) e_19) rfl (gw_sub (gw_V xg_C_addToken ml_S_52 im_C_addToken se_C_addToken wi_C)) na_C_addToken (rm_lt (by decide) (by decide)) ⟨Nat.zero_le _, Nat.zero_le _⟩ 1 (at_C (rfl : kd_k 1 = 1)) rfl rfl (Nat.le_of_ble_eq_true rfl) xd_S_token_19 ?_
      cases hm
      exact aw_iret C xd_S_token_22
    · rw [if_neg c_7] at hm
      refine aw_iconst (v := (-1 : Int32)) C xd_S_token_10 (by decide) ?_
      cases hm
      exact aw_iret C xd_S_token_11
def xm_S_compile (σ : aw_m) (a1 : Int32) : Option (Int32 × aw_m) := aw_l (aw_p σ 0 4 (-1 : Int32)) fun s_2 => (xm_S_isModule s_2 a1).bind fun q_6 => (if q_6 = 0 then some ((-1 : Int32), s_2) else (xm_L_firstWrong s_2 7 1 a1).bind fun q_23 => (if q_23.1 = (-1 : Int32) then (xm_L_keep q_23.2 7 1 a1).bind fun q_49 => some (q_49.1, q_49.2) else aw_l (aw_p q_23.2 0 4 q_23.1) fun s_34 => some ((-3 : Int32), s_34)))
set_option maxHeartbeats 4000000 in
set_option maxRecDepth 100000 in
theorem xc_S_compile (σ : aw_m) (a1 : Int32) (q : Int32 × aw_m)  (hm : xm_S_compile σ a1 = some q) : aw_M l D (ty_z ids) (zs_T ps) xy_S_compile (xw_S_compile :: gw_l) (rm_D (34)) [.ref (ad 0), .int a1] (cw_w ad ids σ) (some (.int q.1)) (cw_w ad ids q.2) := by
  refine aw_intro (cc := xb_S_compile) (n := 3) (ret := (some .int)) "ModuleShelf" rfl (by decide) rfl (Nat.le_of_ble_eq_true rfl) ?_
  intro κ C
  unfold xm_S_compile at hm
  refine aw_aload_n C 0 xd_S_compile_0 rfl rfl ?_
  refine aw_iconst (v := (-1 : Int32)) C xd_S_compile_1 (by decide) ?_
  obtain ⟨s_2, h_2, hm⟩ := aw_let hm
  refine aw_put (σ1 := s_2) (f := upd (σ 0) 4 (-1 : Int32)) C 0 (kd_lt (rfl : kd_k 0 = 15)) (ly_S (rfl : kd_k 0 = 15)) rfl (fun w h => List.mem_cons_of_mem _ (xi_S w h)) xk_S xo_S xn_S 4 (by decide) (List.mem_cons_of_mem _ fl_S_37) rfl (ty := .int) (by decide +kernel) rfl rfl (Nat.le_of_ble_eq_true rfl) (ly_S (rfl : kd_k 0 = 15)) h_2 xd_S_compile_2 ?_
  refine aw_iload_n C 1 xd_S_compile_5 rfl rfl ?_
  obtain ⟨q_6, e_6, hm⟩ := aw_bnd hm
  refine aw_callSi (As := [.int a1]) (rest := []) C (xc_S_isModule s_2 a1 _  e_6) rfl (gw_sub (gw_S xg_S_isModule ml_S_56 st_S_isModule wi_S)) na_S_isModule (rm_lt (by decide) (by decide)) ⟨Nat.zero_le _, Nat.zero_le _⟩ rfl (Nat.le_of_ble_eq_true rfl) xd_S_compile_6 ?_
  refine aw_if_ne (tgt := 14) C xd_S_compile_9 (by decide) (fun c_9 => ?_) (fun c_9 => ?_)
  · rw [if_neg c_9] at hm
    refine aw_aload_n C 0 xd_S_compile_14 rfl rfl ?_
    refine aw_get C 0 (kd_lt (rfl : kd_k 0 = 15)) (ly_S (rfl : kd_k 0 = 15)) rfl (fun w h => List.mem_cons_of_mem _ (xi_S w h)) 1 (by decide) rfl (List.mem_cons_of_mem _ fl_S_19) xd_S_compile_15 ?_
    refine aw_aload_n C 0 xd_S_compile_18 rfl rfl ?_
    refine aw_get C 0 (kd_lt (rfl : kd_k 0 = 15)) (ly_S (rfl : kd_k 0 = 15)) rfl (fun w h => List.mem_cons_of_mem _ (xi_S w h)) 0 (by decide) rfl (List.mem_cons_of_mem _ fl_S_10) xd_S_compile_19 ?_
    refine aw_iload_n C 1 xd_S_compile_22 rfl rfl ?_
    obtain ⟨q_23, e_23, hm⟩ := aw_bnd hm
    refine aw_callVi (As := [.ref (ad 1), .int a1]) (rest := []) (b := ad 7) C (xc_L_firstWrong s_2 7 1 a1 _ (rfl : kd_k 7 = 4) (rfl : kd_k 1 = 1) e_23) rfl (gw_sub (gw_V xg_L_firstWrong ml_S_60 im_L_firstWrong se_L_firstWrong wi_L)) na_L_firstWrong (rm_lt (by decide) (by decide)) ⟨Nat.zero_le _, Nat.zero_le _⟩ 7 (at_L (rfl : kd_k 7 = 4)) rfl rfl (Nat.le_of_ble_eq_true rfl) xd_S_compile_23 ?_
    refine aw_istore_n (L' := [(2, .int q_23.1), (0, .ref (ad 0)), (1, .int a1)]) C xd_S_compile_26 rfl (by decide) rfl ?_
    refine aw_iload_n C 0 xd_S_compile_27 rfl rfl ?_
    refine aw_iconst (v := (-1 : Int32)) C xd_S_compile_28 (by decide) ?_
    refine aw_icmp_eq (tgt := 40) C xd_S_compile_29 (by decide) (fun c_29 => ?_) (fun c_29 => ?_)
    · rw [if_pos c_29] at hm
      refine aw_aload_n C 1 xd_S_compile_40 rfl rfl ?_
      refine aw_get C 0 (kd_lt (rfl : kd_k 0 = 15)) (ly_S (rfl : kd_k 0 = 15)) rfl (fun w h => List.mem_cons_of_mem _ (xi_S w h)) 1 (by decide) rfl (List.mem_cons_of_mem _ fl_S_19) xd_S_compile_41 ?_
      refine aw_aload_n C 1 xd_S_compile_44 rfl rfl ?_
      refine aw_get C 0 (kd_lt (rfl : kd_k 0 = 15)) (ly_S (rfl : kd_k 0 = 15)) rfl (fun w h => List.mem_cons_of_mem _ (xi_S w h)) 0 (by decide) rfl (List.mem_cons_of_mem _ fl_S_10) xd_S_compile_45 ?_
      refine aw_iload_n C 2 xd_S_compile_48 rfl rfl ?_
      obtain ⟨q_49, e_49, hm⟩ := aw_bnd hm
      refine aw_callVi (As := [.ref (ad 1), .int a1]) (rest := []) (b := ad 7) C (xc_L_keep q_23.2 7 1 a1 _ (rfl : kd_k 7 = 4) (rfl : kd_k 1 = 1) e_49) rfl (gw_sub (gw_V xg_L_keep ml_S_64 im_L_keep se_L_keep wi_L)) na_L_keep (rm_lt (by decide) (by decide)) ⟨Nat.zero_le _, Nat.zero_le _⟩ 7 (at_L (rfl : kd_k 7 = 4)) rfl rfl (Nat.le_of_ble_eq_true rfl) xd_S_compile_49 ?_
      cases hm
      exact aw_iret C xd_S_compile_52
    · rw [if_neg c_29] at hm
      refine aw_aload_n C 1 xd_S_compile_32 rfl rfl ?_
      refine aw_iload_n C 0 xd_S_compile_33 rfl rfl ?_
      obtain ⟨s_34, h_34, hm⟩ := aw_let hm
      refine aw_put (σ1 := s_34) (f := upd (q_23.2 0) 4 q_23.1) C 0 (kd_lt (rfl : kd_k 0 = 15)) (ly_S (rfl : kd_k 0 = 15)) rfl (fun w h => List.mem_cons_of_mem _ (xi_S w h)) xk_S xo_S xn_S 4 (by decide) (List.mem_cons_of_mem _ fl_S_37) rfl (ty := .int) (by decide +kernel) rfl rfl (Nat.le_of_ble_eq_true rfl) (ly_S (rfl : kd_k 0 = 15)) h_34 xd_S_compile_34 ?_
      refine aw_bipush (v := (-3 : Int32)) C xd_S_compile_37 (by decide) ?_
      cases hm
      exact aw_iret C xd_S_compile_39
  · rw [if_pos c_9] at hm
    refine aw_iconst (v := (-1 : Int32)) C xd_S_compile_12 (by decide) ?_
    cases hm
    exact aw_iret C xd_S_compile_13
def xm_S_place (σ : aw_m)  : Option Int32 := some (σ 0 4)
set_option maxHeartbeats 4000000 in
set_option maxRecDepth 100000 in
theorem xc_S_place (σ : aw_m)  (q : Int32)  (hm : xm_S_place σ  = some q) : aw_M l D (ty_z ids) (zs_T ps) xy_S_place (xw_S_place :: gw_l) (rm_D (0)) [.ref (ad 0)] (cw_w ad ids σ) (some (.int q)) (cw_w ad ids σ) := by
  refine aw_intro (cc := xb_S_place) (n := 1) (ret := (some .int)) "ModuleShelf" rfl (by decide) rfl (Nat.le_of_ble_eq_true rfl) ?_
  intro κ C
  unfold xm_S_place at hm
  refine aw_aload_n C 0 xd_S_place_0 rfl rfl ?_
  refine aw_get C 0 (kd_lt (rfl : kd_k 0 = 15)) (ly_S (rfl : kd_k 0 = 15)) rfl (fun w h => List.mem_cons_of_mem _ (xi_S w h)) 4 (by decide) rfl (List.mem_cons_of_mem _ fl_S_37) xd_S_place_1 ?_
  cases hm
  exact aw_iret C xd_S_place_4
def xm_S_remove (σ : aw_m) (a1 : Int32) : Option (Int32 × aw_m) := (xm_L_has σ 7 a1).bind fun q_5 => (if q_5 = 0 then some ((-1 : Int32), σ) else if aw_in a1 6 = true then aw_l (aw_p σ (8 + 1 + 9 * (Int32.toNatClampNeg a1)) 0 (0 : Int32)) fun s_23 => some ((0 : Int32), s_23) else none)
set_option maxHeartbeats 4000000 in
set_option maxRecDepth 100000 in
theorem xc_S_remove (σ : aw_m) (a1 : Int32) (q : Int32 × aw_m)  (hm : xm_S_remove σ a1 = some q) : aw_M l D (ty_z ids) (zs_T ps) xy_S_remove (xw_S_remove :: gw_l) (rm_D (2)) [.ref (ad 0), .int a1] (cw_w ad ids σ) (some (.int q.1)) (cw_w ad ids q.2) := by
  refine aw_intro (cc := xb_S_remove) (n := 2) (ret := (some .int)) "ModuleShelf" rfl (by decide) rfl (Nat.le_of_ble_eq_true rfl) ?_
  intro κ C
  unfold xm_S_remove at hm
  refine aw_aload_n C 0 xd_S_remove_0 rfl rfl ?_
  refine aw_get C 0 (kd_lt (rfl : kd_k 0 = 15)) (ly_S (rfl : kd_k 0 = 15)) rfl (fun w h => List.mem_cons_of_mem _ (xi_S w h)) 1 (by decide) rfl (List.mem_cons_of_mem _ fl_S_19) xd_S_remove_1 ?_
  refine aw_iload_n C 1 xd_S_remove_4 rfl rfl ?_
  obtain ⟨q_5, e_5, hm⟩ := aw_bnd hm
  refine aw_callVi (As := [.int a1]) (rest := []) (b := ad 7) C (xc_L_has σ 7 a1 _ (rfl : kd_k 7 = 4) e_5) rfl (gw_sub (gw_V xg_L_has ml_S_67 im_L_has se_L_has wi_L)) na_L_has (rm_lt (by decide) (by decide)) ⟨Nat.zero_le _, Nat.zero_le _⟩ 7 (at_L (rfl : kd_k 7 = 4)) rfl rfl (Nat.le_of_ble_eq_true rfl) xd_S_remove_5 ?_
  refine aw_if_ne (tgt := 13) C xd_S_remove_8 (by decide) (fun c_8 => ?_) (fun c_8 => ?_)
  · rw [if_neg c_8] at hm
    refine aw_aload_n C 0 xd_S_remove_13 rfl rfl ?_
    refine aw_get C 0 (kd_lt (rfl : kd_k 0 = 15)) (ly_S (rfl : kd_k 0 = 15)) rfl (fun w h => List.mem_cons_of_mem _ (xi_S w h)) 1 (by decide) rfl (List.mem_cons_of_mem _ fl_S_19) xd_S_remove_14 ?_
    refine aw_get C 7 (kd_lt (rfl : kd_k 7 = 4)) (ly_L (rfl : kd_k 7 = 4)) rfl (fun w h => List.mem_cons_of_mem _ (xi_L w h)) 0 (by decide) rfl (List.mem_cons_of_mem _ fl_S_70) xd_S_remove_17 ?_
    refine aw_iload_n C 1 xd_S_remove_20 rfl rfl ?_
    obtain ⟨g_21, hm⟩ := aw_grd hm
    refine aw_aald C 8 (kd_lt (kf_L_units rfl)) 2 (ly_U6 (kf_L_units rfl)) rfl (aw_in_ok g_21) rfl xd_S_remove_21 ?_
    refine aw_iconst (v := (0 : Int32)) C xd_S_remove_22 (by decide) ?_
    obtain ⟨s_23, h_23, hm⟩ := aw_let hm
    refine aw_put (σ1 := s_23) (f := upd (σ (8 + 1 + 9 * (Int32.toNatClampNeg a1))) 0 (0 : Int32)) C (8 + 1 + 9 * (Int32.toNatClampNeg a1)) (kd_lt (ka_U6 (kf_L_units rfl) (aw_in_lt g_21))) (ly_U (ka_U6 (kf_L_units rfl) (aw_in_lt g_21))) rfl (fun w h => List.mem_cons_of_mem _ (xi_U w h)) xk_U xo_U xn_U 0 (by decide) (List.mem_cons_of_mem _ fl_S_74) rfl (ty := .boolean) (by decide +kernel) rfl rfl (Nat.le_of_ble_eq_true rfl) (ly_U (ka_U6 (kf_L_units rfl) (aw_in_lt g_21))) h_23 xd_S_remove_23 ?_
    refine aw_iconst (v := (0 : Int32)) C xd_S_remove_26 (by decide) ?_
    cases hm
    exact aw_iret C xd_S_remove_27
  · rw [if_pos c_8] at hm
    refine aw_iconst (v := (-1 : Int32)) C xd_S_remove_11 (by decide) ?_
    cases hm
    exact aw_iret C xd_S_remove_12
def xm_S_load (σ : aw_m) (a1 : Int32) : Option (Int32 × aw_m) := (xm_S_isModule σ a1).bind fun q_1 => (if q_1 = 0 then some ((-1 : Int32), σ) else (xm_M_bring σ 63 7 a1).bind fun q_18 => some (q_18.1, q_18.2))
set_option maxHeartbeats 4000000 in
set_option maxRecDepth 100000 in
theorem xc_S_load (σ : aw_m) (a1 : Int32) (q : Int32 × aw_m)  (hm : xm_S_load σ a1 = some q) : aw_M l D (ty_z ids) (zs_T ps) xy_S_load (xw_S_load :: gw_l) (rm_D (38)) [.ref (ad 0), .int a1] (cw_w ad ids σ) (some (.int q.1)) (cw_w ad ids q.2) := by
  refine aw_intro (cc := xb_S_load) (n := 2) (ret := (some .int)) "ModuleShelf" rfl (by decide) rfl (Nat.le_of_ble_eq_true rfl) ?_
  intro κ C
  unfold xm_S_load at hm
  refine aw_iload_n C 1 xd_S_load_0 rfl rfl ?_
  obtain ⟨q_1, e_1, hm⟩ := aw_bnd hm
  refine aw_callSi (As := [.int a1]) (rest := []) C (xc_S_isModule σ a1 _  e_1) rfl (gw_sub (gw_S xg_S_isModule ml_S_56 st_S_isModule wi_S)) na_S_isModule (rm_lt (by decide) (by decide)) ⟨Nat.zero_le _, Nat.zero_le _⟩ rfl (Nat.le_of_ble_eq_true rfl) xd_S_load_1 ?_
  refine aw_if_ne (tgt := 9) C xd_S_load_4 (by decide) (fun c_4 => ?_) (fun c_4 => ?_)
  · rw [if_neg c_4] at hm
    refine aw_aload_n C 0 xd_S_load_9 rfl rfl ?_
    refine aw_get C 0 (kd_lt (rfl : kd_k 0 = 15)) (ly_S (rfl : kd_k 0 = 15)) rfl (fun w h => List.mem_cons_of_mem _ (xi_S w h)) 2 (by decide) rfl (List.mem_cons_of_mem _ fl_S_26) xd_S_load_10 ?_
    refine aw_aload_n C 0 xd_S_load_13 rfl rfl ?_
    refine aw_get C 0 (kd_lt (rfl : kd_k 0 = 15)) (ly_S (rfl : kd_k 0 = 15)) rfl (fun w h => List.mem_cons_of_mem _ (xi_S w h)) 1 (by decide) rfl (List.mem_cons_of_mem _ fl_S_19) xd_S_load_14 ?_
    refine aw_iload_n C 1 xd_S_load_17 rfl rfl ?_
    obtain ⟨q_18, e_18, hm⟩ := aw_bnd hm
    refine aw_callVi (As := [.ref (ad 7), .int a1]) (rest := []) (b := ad 63) C (xc_M_bring σ 63 7 a1 _ (rfl : kd_k 63 = 8) (rfl : kd_k 7 = 4) e_18) rfl (gw_sub (gw_V xg_M_bring ml_S_80 im_M_bring se_M_bring wi_M)) na_M_bring (rm_lt (by decide) (by decide)) ⟨Nat.zero_le _, Nat.zero_le _⟩ 63 (at_M (rfl : kd_k 63 = 8)) rfl rfl (Nat.le_of_ble_eq_true rfl) xd_S_load_18 ?_
    cases hm
    exact aw_iret C xd_S_load_21
  · rw [if_pos c_4] at hm
    refine aw_iconst (v := (-1 : Int32)) C xd_S_load_7 (by decide) ?_
    cases hm
    exact aw_iret C xd_S_load_8
def xm_S_unload (σ : aw_m) (a1 : Int32) : Option (Int32 × aw_m) := (xm_M_has σ 63 a1).bind fun q_5 => (if q_5 = 0 then some ((-1 : Int32), σ) else (xm_M_isImported σ 63 a1).bind fun q_18 => (if q_18 = 0 then if aw_in a1 6 = true then aw_l (aw_p σ ((64 + 2 + 11 * (Int32.toNatClampNeg a1)) + 1) 0 (0 : Int32)) fun s_40 => some ((0 : Int32), s_40) else none else some ((-7 : Int32), σ)))
set_option maxHeartbeats 4000000 in
set_option maxRecDepth 100000 in
theorem xc_S_unload (σ : aw_m) (a1 : Int32) (q : Int32 × aw_m)  (hm : xm_S_unload σ a1 = some q) : aw_M l D (ty_z ids) (zs_T ps) xy_S_unload (xw_S_unload :: gw_l) (rm_D (3)) [.ref (ad 0), .int a1] (cw_w ad ids σ) (some (.int q.1)) (cw_w ad ids q.2) := by
  refine aw_intro (cc := xb_S_unload) (n := 2) (ret := (some .int)) "ModuleShelf" rfl (by decide) rfl (Nat.le_of_ble_eq_true rfl) ?_
  intro κ C
  unfold xm_S_unload at hm
  refine aw_aload_n C 0 xd_S_unload_0 rfl rfl ?_
  refine aw_get C 0 (kd_lt (rfl : kd_k 0 = 15)) (ly_S (rfl : kd_k 0 = 15)) rfl (fun w h => List.mem_cons_of_mem _ (xi_S w h)) 2 (by decide) rfl (List.mem_cons_of_mem _ fl_S_26) xd_S_unload_1 ?_
  refine aw_iload_n C 1 xd_S_unload_4 rfl rfl ?_
  obtain ⟨q_5, e_5, hm⟩ := aw_bnd hm
  refine aw_callVi (As := [.int a1]) (rest := []) (b := ad 63) C (xc_M_has σ 63 a1 _ (rfl : kd_k 63 = 8) e_5) rfl (gw_sub (gw_V xg_M_has ml_S_84 im_M_has se_M_has wi_M)) na_M_has (rm_lt (by decide) (by decide)) ⟨Nat.zero_le _, Nat.zero_le _⟩ 63 (at_M (rfl : kd_k 63 = 8)) rfl rfl (Nat.le_of_ble_eq_true rfl) xd_S_unload_5 ?_
  refine aw_if_ne (tgt := 13) C xd_S_unload_8 (by decide) (fun c_8 => ?_) (fun c_8 => ?_)
  · rw [if_neg c_8] at hm
    refine aw_aload_n C 0 xd_S_unload_13 rfl rfl ?_
    refine aw_get C 0 (kd_lt (rfl : kd_k 0 = 15)) (ly_S (rfl : kd_k 0 = 15)) rfl (fun w h => List.mem_cons_of_mem _ (xi_S w h)) 2 (by decide) rfl (List.mem_cons_of_mem _ fl_S_26) xd_S_unload_14 ?_
    refine aw_iload_n C 1 xd_S_unload_17 rfl rfl ?_
    obtain ⟨q_18, e_18, hm⟩ := aw_bnd hm
    refine aw_callVi (As := [.int a1]) (rest := []) (b := ad 63) C (xc_M_isImported σ 63 a1 _ (rfl : kd_k 63 = 8) e_18) rfl (gw_sub (gw_V xg_M_isImported ml_S_85 im_M_isImported se_M_isImported wi_M)) na_M_isImported (rm_lt (by decide) (by decide)) ⟨Nat.zero_le _, Nat.zero_le _⟩ 63 (at_M (rfl : kd_k 63 = 8)) rfl rfl (Nat.le_of_ble_eq_true rfl) xd_S_unload_18 ?_
    refine aw_if_eq (tgt := 27) C xd_S_unload_21 (by decide) (fun c_21 => ?_) (fun c_21 => ?_)
    · rw [if_pos c_21] at hm
      refine aw_aload_n C 0 xd_S_unload_27 rfl rfl ?_
      refine aw_get C 0 (kd_lt (rfl : kd_k 0 = 15)) (ly_S (rfl : kd_k 0 = 15)) rfl (fun w h => List.mem_cons_of_mem _ (xi_S w h)) 2 (by decide) rfl (List.mem_cons_of_mem _ fl_S_26) xd_S_unload_28 ?_
      refine aw_get C 63 (kd_lt (rfl : kd_k 63 = 8)) (ly_M (rfl : kd_k 63 = 8)) rfl (fun w h => List.mem_cons_of_mem _ (xi_M w h)) 0 (by decide) rfl (List.mem_cons_of_mem _ fl_S_88) xd_S_unload_31 ?_
      refine aw_iload_n C 1 xd_S_unload_34 rfl rfl ?_
      obtain ⟨g_35, hm⟩ := aw_grd hm
      refine aw_aald C 64 (kd_lt (kf_M_images rfl)) 3 (ly_I6 (kf_M_images rfl)) rfl (aw_in_ok g_35) rfl xd_S_unload_35 ?_
      refine aw_get C (64 + 2 + 11 * (Int32.toNatClampNeg a1)) (kd_lt (ka_I6 (kf_M_images rfl) (aw_in_lt g_35))) (ly_I (ka_I6 (kf_M_images rfl) (aw_in_lt g_35))) rfl (fun w h => List.mem_cons_of_mem _ (xi_I w h)) 0 (by decide) rfl (List.mem_cons_of_mem _ fl_S_92) xd_S_unload_36 ?_
      refine aw_iconst (v := (0 : Int32)) C xd_S_unload_39 (by decide) ?_
      obtain ⟨s_40, h_40, hm⟩ := aw_let hm
      refine aw_put (σ1 := s_40) (f := upd (σ ((64 + 2 + 11 * (Int32.toNatClampNeg a1)) + 1)) 0 (0 : Int32)) C ((64 + 2 + 11 * (Int32.toNatClampNeg a1)) + 1) (kd_lt (kf_I_unit (ka_I6 (kf_M_images rfl) (aw_in_lt g_35)))) (ly_U (kf_I_unit (ka_I6 (kf_M_images rfl) (aw_in_lt g_35)))) rfl (fun w h => List.mem_cons_of_mem _ (xi_U w h)) xk_U xo_U xn_U 0 (by decide) (List.mem_cons_of_mem _ fl_S_74) rfl (ty := .boolean) (by decide +kernel) rfl rfl (Nat.le_of_ble_eq_true rfl) (ly_U (kf_I_unit (ka_I6 (kf_M_images rfl) (aw_in_lt g_35)))) h_40 xd_S_unload_40 ?_
      refine aw_iconst (v := (0 : Int32)) C xd_S_unload_43 (by decide) ?_
      cases hm
      exact aw_iret C xd_S_unload_44
    · rw [if_neg c_21] at hm
      refine aw_bipush (v := (-7 : Int32)) C xd_S_unload_24 (by decide) ?_
      cases hm
      exact aw_iret C xd_S_unload_26
  · rw [if_pos c_8] at hm
    refine aw_iconst (v := (-1 : Int32)) C xd_S_unload_11 (by decide) ?_
    cases hm
    exact aw_iret C xd_S_unload_12
def xm_S_run (σ : aw_m) (a1 : Int32) (a2 : Int32) (a3 : Int32) (a4 : Int32) : Option (Int32 × aw_m) := (xm_M_argumentsOf σ 63 a1 a2).bind fun q_6 => (if q_6 = (-1 : Int32) then some ((-1 : Int32), σ) else (xm_N_start σ 132 63 a1 a2 a3 a4).bind fun q_28 => (if q_28.2 132 2 = 0 then aw_l (aw_p q_28.2 0 5 q_28.1) fun s_54 => some ((0 : Int32), s_54) else some (q_28.2 132 2, q_28.2)))
set_option maxHeartbeats 4000000 in
set_option maxRecDepth 100000 in
theorem xc_S_run (σ : aw_m) (a1 : Int32) (a2 : Int32) (a3 : Int32) (a4 : Int32) (q : Int32 × aw_m)  (hm : xm_S_run σ a1 a2 a3 a4 = some q) : aw_M l D (ty_z ids) (zs_T ps) xy_S_run (xw_S_run :: gw_l) (rm_D (242)) [.ref (ad 0), .int a1, .int a2, .int a3, .int a4] (cw_w ad ids σ) (some (.int q.1)) (cw_w ad ids q.2) := by
  refine aw_intro (cc := xb_S_run) (n := 6) (ret := (some .int)) "ModuleShelf" rfl (by decide) rfl (Nat.le_of_ble_eq_true rfl) ?_
  intro κ C
  unfold xm_S_run at hm
  refine aw_aload_n C 0 xd_S_run_0 rfl rfl ?_
  refine aw_get C 0 (kd_lt (rfl : kd_k 0 = 15)) (ly_S (rfl : kd_k 0 = 15)) rfl (fun w h => List.mem_cons_of_mem _ (xi_S w h)) 2 (by decide) rfl (List.mem_cons_of_mem _ fl_S_26) xd_S_run_1 ?_
  refine aw_iload_n C 1 xd_S_run_4 rfl rfl ?_
  refine aw_iload_n C 2 xd_S_run_5 rfl rfl ?_
  obtain ⟨q_6, e_6, hm⟩ := aw_bnd hm
  refine aw_callVi (As := [.int a1, .int a2]) (rest := []) (b := ad 63) C (xc_M_argumentsOf σ 63 a1 a2 _ (rfl : kd_k 63 = 8) e_6) rfl (gw_sub (gw_V xg_M_argumentsOf ml_S_98 im_M_argumentsOf se_M_argumentsOf wi_M)) na_M_argumentsOf (rm_lt (by decide) (by decide)) ⟨Nat.zero_le _, Nat.zero_le _⟩ 63 (at_M (rfl : kd_k 63 = 8)) rfl rfl (Nat.le_of_ble_eq_true rfl) xd_S_run_6 ?_
  refine aw_iconst (v := (-1 : Int32)) C xd_S_run_9 (by decide) ?_
  refine aw_icmp_ne (tgt := 15) C xd_S_run_10 (by decide) (fun c_10 => ?_) (fun c_10 => ?_)
  · rw [if_neg c_10] at hm
    refine aw_aload_n C 0 xd_S_run_15 rfl rfl ?_
    refine aw_get C 0 (kd_lt (rfl : kd_k 0 = 15)) (ly_S (rfl : kd_k 0 = 15)) rfl (fun w h => List.mem_cons_of_mem _ (xi_S w h)) 3 (by decide) rfl (List.mem_cons_of_mem _ fl_S_33) xd_S_run_16 ?_
    refine aw_aload_n C 0 xd_S_run_19 rfl rfl ?_
    refine aw_get C 0 (kd_lt (rfl : kd_k 0 = 15)) (ly_S (rfl : kd_k 0 = 15)) rfl (fun w h => List.mem_cons_of_mem _ (xi_S w h)) 2 (by decide) rfl (List.mem_cons_of_mem _ fl_S_26) xd_S_run_20 ?_
    refine aw_iload_n C 1 xd_S_run_23 rfl rfl ?_
    refine aw_iload_n C 2 xd_S_run_24 rfl rfl ?_
    refine aw_iload_n C 3 xd_S_run_25 rfl rfl ?_
    refine aw_iload C 4 xd_S_run_26 rfl ?_
    obtain ⟨q_28, e_28, hm⟩ := aw_bnd hm
    refine aw_callVi (As := [.ref (ad 63), .int a1, .int a2, .int a3, .int a4]) (rest := []) (b := ad 132) C (xc_N_start σ 132 63 a1 a2 a3 a4 _ (rfl : kd_k 132 = 12) (rfl : kd_k 63 = 8) e_28) rfl (gw_sub (gw_V xg_N_start ml_S_102 im_N_start se_N_start wi_N)) na_N_start (rm_lt (by decide) (by decide)) ⟨Nat.zero_le _, Nat.zero_le _⟩ 132 (at_N (rfl : kd_k 132 = 12)) rfl rfl (Nat.le_of_ble_eq_true rfl) xd_S_run_28 ?_
    refine aw_istore (L' := [(5, .int q_28.1), (0, .ref (ad 0)), (1, .int a1), (2, .int a2), (3, .int a3), (4, .int a4)]) C xd_S_run_31 (by decide) rfl ?_
    refine aw_aload_n C 1 xd_S_run_33 rfl rfl ?_
    refine aw_get C 0 (kd_lt (rfl : kd_k 0 = 15)) (ly_S (rfl : kd_k 0 = 15)) rfl (fun w h => List.mem_cons_of_mem _ (xi_S w h)) 3 (by decide) rfl (List.mem_cons_of_mem _ fl_S_33) xd_S_run_34 ?_
    refine aw_get C 132 (kd_lt (rfl : kd_k 132 = 12)) (ly_N (rfl : kd_k 132 = 12)) rfl (fun w h => List.mem_cons_of_mem _ (xi_N w h)) 2 (by decide) rfl (List.mem_cons_of_mem _ fl_S_106) xd_S_run_37 ?_
    refine aw_if_eq (tgt := 51) C xd_S_run_40 (by decide) (fun c_40 => ?_) (fun c_40 => ?_)
    · rw [if_pos c_40] at hm
      refine aw_aload_n C 1 xd_S_run_51 rfl rfl ?_
      refine aw_iload C 0 xd_S_run_52 rfl ?_
      obtain ⟨s_54, h_54, hm⟩ := aw_let hm
      refine aw_put (σ1 := s_54) (f := upd (q_28.2 0) 5 q_28.1) C 0 (kd_lt (rfl : kd_k 0 = 15)) (ly_S (rfl : kd_k 0 = 15)) rfl (fun w h => List.mem_cons_of_mem _ (xi_S w h)) xk_S xo_S xn_S 5 (by decide) (List.mem_cons_of_mem _ fl_S_41) rfl (ty := .int) (by decide +kernel) rfl rfl (Nat.le_of_ble_eq_true rfl) (ly_S (rfl : kd_k 0 = 15)) h_54 xd_S_run_54 ?_
      refine aw_iconst (v := (0 : Int32)) C xd_S_run_57 (by decide) ?_
      cases hm
      exact aw_iret C xd_S_run_58
    · rw [if_neg c_40] at hm
      refine aw_aload_n C 1 xd_S_run_43 rfl rfl ?_
      refine aw_get C 0 (kd_lt (rfl : kd_k 0 = 15)) (ly_S (rfl : kd_k 0 = 15)) rfl (fun w h => List.mem_cons_of_mem _ (xi_S w h)) 3 (by decide) rfl (List.mem_cons_of_mem _ fl_S_33) xd_S_run_44 ?_
      refine aw_get C 132 (kd_lt (rfl : kd_k 132 = 12)) (ly_N (rfl : kd_k 132 = 12)) rfl (fun w h => List.mem_cons_of_mem _ (xi_N w h)) 2 (by decide) rfl (List.mem_cons_of_mem _ fl_S_106) xd_S_run_47 ?_
      cases hm
      exact aw_iret C xd_S_run_50
  · rw [if_pos c_10] at hm
    refine aw_iconst (v := (-1 : Int32)) C xd_S_run_13 (by decide) ?_
    cases hm
    exact aw_iret C xd_S_run_14
def xm_S_value (σ : aw_m)  : Option Int32 := some (σ 0 5)
set_option maxHeartbeats 4000000 in
set_option maxRecDepth 100000 in
theorem xc_S_value (σ : aw_m)  (q : Int32)  (hm : xm_S_value σ  = some q) : aw_M l D (ty_z ids) (zs_T ps) xy_S_value (xw_S_value :: gw_l) (rm_D (0)) [.ref (ad 0)] (cw_w ad ids σ) (some (.int q)) (cw_w ad ids σ) := by
  refine aw_intro (cc := xb_S_value) (n := 1) (ret := (some .int)) "ModuleShelf" rfl (by decide) rfl (Nat.le_of_ble_eq_true rfl) ?_
  intro κ C
  unfold xm_S_value at hm
  refine aw_aload_n C 0 xd_S_value_0 rfl rfl ?_
  refine aw_get C 0 (kd_lt (rfl : kd_k 0 = 15)) (ly_S (rfl : kd_k 0 = 15)) rfl (fun w h => List.mem_cons_of_mem _ (xi_S w h)) 5 (by decide) rfl (List.mem_cons_of_mem _ fl_S_41) xd_S_value_1 ?_
  cases hm
  exact aw_iret C xd_S_value_4
def xm_S_steps (σ : aw_m)  : Option Int32 := some (σ 132 1)
set_option maxHeartbeats 4000000 in
set_option maxRecDepth 100000 in
theorem xc_S_steps (σ : aw_m)  (q : Int32)  (hm : xm_S_steps σ  = some q) : aw_M l D (ty_z ids) (zs_T ps) xy_S_steps (xw_S_steps :: gw_l) (rm_D (0)) [.ref (ad 0)] (cw_w ad ids σ) (some (.int q)) (cw_w ad ids σ) := by
  refine aw_intro (cc := xb_S_steps) (n := 1) (ret := (some .int)) "ModuleShelf" rfl (by decide) rfl (Nat.le_of_ble_eq_true rfl) ?_
  intro κ C
  unfold xm_S_steps at hm
  refine aw_aload_n C 0 xd_S_steps_0 rfl rfl ?_
  refine aw_get C 0 (kd_lt (rfl : kd_k 0 = 15)) (ly_S (rfl : kd_k 0 = 15)) rfl (fun w h => List.mem_cons_of_mem _ (xi_S w h)) 3 (by decide) rfl (List.mem_cons_of_mem _ fl_S_33) xd_S_steps_1 ?_
  refine aw_get C 132 (kd_lt (rfl : kd_k 132 = 12)) (ly_N (rfl : kd_k 132 = 12)) rfl (fun w h => List.mem_cons_of_mem _ (xi_N w h)) 1 (by decide) rfl (List.mem_cons_of_mem _ fl_S_109) xd_S_steps_4 ?_
  cases hm
  exact aw_iret C xd_S_steps_7
def xm_S_variable (σ : aw_m) (a1 : Int32) (a2 : Int32) : Option Int32 := (xm_M_valueOf σ 63 a1 a2).bind fun q_6 => some q_6
set_option maxHeartbeats 4000000 in
set_option maxRecDepth 100000 in
theorem xc_S_variable (σ : aw_m) (a1 : Int32) (a2 : Int32) (q : Int32)  (hm : xm_S_variable σ a1 a2 = some q) : aw_M l D (ty_z ids) (zs_T ps) xy_S_variable (xw_S_variable :: gw_l) (rm_D (3)) [.ref (ad 0), .int a1, .int a2] (cw_w ad ids σ) (some (.int q)) (cw_w ad ids σ) := by
  refine aw_intro (cc := xb_S_variable) (n := 3) (ret := (some .int)) "ModuleShelf" rfl (by decide) rfl (Nat.le_of_ble_eq_true rfl) ?_
  intro κ C
  unfold xm_S_variable at hm
  refine aw_aload_n C 0 xd_S_variable_0 rfl rfl ?_
  refine aw_get C 0 (kd_lt (rfl : kd_k 0 = 15)) (ly_S (rfl : kd_k 0 = 15)) rfl (fun w h => List.mem_cons_of_mem _ (xi_S w h)) 2 (by decide) rfl (List.mem_cons_of_mem _ fl_S_26) xd_S_variable_1 ?_
  refine aw_iload_n C 1 xd_S_variable_4 rfl rfl ?_
  refine aw_iload_n C 2 xd_S_variable_5 rfl rfl ?_
  obtain ⟨q_6, e_6, hm⟩ := aw_bnd hm
  refine aw_callVi (As := [.int a1, .int a2]) (rest := []) (b := ad 63) C (xc_M_valueOf σ 63 a1 a2 _ (rfl : kd_k 63 = 8) e_6) rfl (gw_sub (gw_V xg_M_valueOf ml_S_112 im_M_valueOf se_M_valueOf wi_M)) na_M_valueOf (rm_lt (by decide) (by decide)) ⟨Nat.zero_le _, Nat.zero_le _⟩ 63 (at_M (rfl : kd_k 63 = 8)) rfl rfl (Nat.le_of_ble_eq_true rfl) xd_S_variable_6 ?_
  cases hm
  exact aw_iret C xd_S_variable_9
def xm_S_key (σ : aw_m) (a1 : Int32) : Option Int32 := (xm_L_has σ 7 a1).bind fun q_5 => (if q_5 = 0 then some (-1 : Int32) else if aw_in a1 6 = true then some (σ (8 + 1 + 9 * (Int32.toNatClampNeg a1)) 1) else none)
set_option maxHeartbeats 4000000 in
set_option maxRecDepth 100000 in
theorem xc_S_key (σ : aw_m) (a1 : Int32) (q : Int32)  (hm : xm_S_key σ a1 = some q) : aw_M l D (ty_z ids) (zs_T ps) xy_S_key (xw_S_key :: gw_l) (rm_D (2)) [.ref (ad 0), .int a1] (cw_w ad ids σ) (some (.int q)) (cw_w ad ids σ) := by
  refine aw_intro (cc := xb_S_key) (n := 2) (ret := (some .int)) "ModuleShelf" rfl (by decide) rfl (Nat.le_of_ble_eq_true rfl) ?_
  intro κ C
  unfold xm_S_key at hm
  refine aw_aload_n C 0 xd_S_key_0 rfl rfl ?_
  refine aw_get C 0 (kd_lt (rfl : kd_k 0 = 15)) (ly_S (rfl : kd_k 0 = 15)) rfl (fun w h => List.mem_cons_of_mem _ (xi_S w h)) 1 (by decide) rfl (List.mem_cons_of_mem _ fl_S_19) xd_S_key_1 ?_
  refine aw_iload_n C 1 xd_S_key_4 rfl rfl ?_
  obtain ⟨q_5, e_5, hm⟩ := aw_bnd hm
  refine aw_callVi (As := [.int a1]) (rest := []) (b := ad 7) C (xc_L_has σ 7 a1 _ (rfl : kd_k 7 = 4) e_5) rfl (gw_sub (gw_V xg_L_has ml_S_67 im_L_has se_L_has wi_L)) na_L_has (rm_lt (by decide) (by decide)) ⟨Nat.zero_le _, Nat.zero_le _⟩ 7 (at_L (rfl : kd_k 7 = 4)) rfl rfl (Nat.le_of_ble_eq_true rfl) xd_S_key_5 ?_
  refine aw_if_eq (tgt := 26) C xd_S_key_8 (by decide) (fun c_8 => ?_) (fun c_8 => ?_)
  · rw [if_pos c_8] at hm
    refine aw_iconst (v := (-1 : Int32)) C xd_S_key_26 (by decide) ?_
    cases hm
    exact aw_iret C xd_S_key_27
  · rw [if_neg c_8] at hm
    refine aw_aload_n C 0 xd_S_key_11 rfl rfl ?_
    refine aw_get C 0 (kd_lt (rfl : kd_k 0 = 15)) (ly_S (rfl : kd_k 0 = 15)) rfl (fun w h => List.mem_cons_of_mem _ (xi_S w h)) 1 (by decide) rfl (List.mem_cons_of_mem _ fl_S_19) xd_S_key_12 ?_
    refine aw_get C 7 (kd_lt (rfl : kd_k 7 = 4)) (ly_L (rfl : kd_k 7 = 4)) rfl (fun w h => List.mem_cons_of_mem _ (xi_L w h)) 0 (by decide) rfl (List.mem_cons_of_mem _ fl_S_70) xd_S_key_15 ?_
    refine aw_iload_n C 1 xd_S_key_18 rfl rfl ?_
    obtain ⟨g_19, hm⟩ := aw_grd hm
    refine aw_aald C 8 (kd_lt (kf_L_units rfl)) 2 (ly_U6 (kf_L_units rfl)) rfl (aw_in_ok g_19) rfl xd_S_key_19 ?_
    refine aw_get C (8 + 1 + 9 * (Int32.toNatClampNeg a1)) (kd_lt (ka_U6 (kf_L_units rfl) (aw_in_lt g_19))) (ly_U (ka_U6 (kf_L_units rfl) (aw_in_lt g_19))) rfl (fun w h => List.mem_cons_of_mem _ (xi_U w h)) 1 (by decide) rfl (List.mem_cons_of_mem _ fl_S_115) xd_S_key_20 ?_
    refine aw_goto (tgt := 27) C xd_S_key_23 (by decide) ?_
    cases hm
    exact aw_iret C xd_S_key_27
def xm_S_loaded (σ : aw_m) (a1 : Int32) : Option Int32 := (xm_M_has σ 63 a1).bind fun q_5 => (if q_5 = 0 then some (-1 : Int32) else if aw_in a1 6 = true then some (σ ((64 + 2 + 11 * (Int32.toNatClampNeg a1)) + 1) 1) else none)
set_option maxHeartbeats 4000000 in
set_option maxRecDepth 100000 in
theorem xc_S_loaded (σ : aw_m) (a1 : Int32) (q : Int32)  (hm : xm_S_loaded σ a1 = some q) : aw_M l D (ty_z ids) (zs_T ps) xy_S_loaded (xw_S_loaded :: gw_l) (rm_D (2)) [.ref (ad 0), .int a1] (cw_w ad ids σ) (some (.int q)) (cw_w ad ids σ) := by
  refine aw_intro (cc := xb_S_loaded) (n := 2) (ret := (some .int)) "ModuleShelf" rfl (by decide) rfl (Nat.le_of_ble_eq_true rfl) ?_
  intro κ C
  unfold xm_S_loaded at hm
  refine aw_aload_n C 0 xd_S_loaded_0 rfl rfl ?_
  refine aw_get C 0 (kd_lt (rfl : kd_k 0 = 15)) (ly_S (rfl : kd_k 0 = 15)) rfl (fun w h => List.mem_cons_of_mem _ (xi_S w h)) 2 (by decide) rfl (List.mem_cons_of_mem _ fl_S_26) xd_S_loaded_1 ?_
  refine aw_iload_n C 1 xd_S_loaded_4 rfl rfl ?_
  obtain ⟨q_5, e_5, hm⟩ := aw_bnd hm
  refine aw_callVi (As := [.int a1]) (rest := []) (b := ad 63) C (xc_M_has σ 63 a1 _ (rfl : kd_k 63 = 8) e_5) rfl (gw_sub (gw_V xg_M_has ml_S_84 im_M_has se_M_has wi_M)) na_M_has (rm_lt (by decide) (by decide)) ⟨Nat.zero_le _, Nat.zero_le _⟩ 63 (at_M (rfl : kd_k 63 = 8)) rfl rfl (Nat.le_of_ble_eq_true rfl) xd_S_loaded_5 ?_
  refine aw_if_eq (tgt := 29) C xd_S_loaded_8 (by decide) (fun c_8 => ?_) (fun c_8 => ?_)
  · rw [if_pos c_8] at hm
    refine aw_iconst (v := (-1 : Int32)) C xd_S_loaded_29 (by decide) ?_
    cases hm
    exact aw_iret C xd_S_loaded_30
  · rw [if_neg c_8] at hm
    refine aw_aload_n C 0 xd_S_loaded_11 rfl rfl ?_
    refine aw_get C 0 (kd_lt (rfl : kd_k 0 = 15)) (ly_S (rfl : kd_k 0 = 15)) rfl (fun w h => List.mem_cons_of_mem _ (xi_S w h)) 2 (by decide) rfl (List.mem_cons_of_mem _ fl_S_26) xd_S_loaded_12 ?_
    refine aw_get C 63 (kd_lt (rfl : kd_k 63 = 8)) (ly_M (rfl : kd_k 63 = 8)) rfl (fun w h => List.mem_cons_of_mem _ (xi_M w h)) 0 (by decide) rfl (List.mem_cons_of_mem _ fl_S_88) xd_S_loaded_15 ?_
    refine aw_iload_n C 1 xd_S_loaded_18 rfl rfl ?_
    obtain ⟨g_19, hm⟩ := aw_grd hm
    refine aw_aald C 64 (kd_lt (kf_M_images rfl)) 3 (ly_I6 (kf_M_images rfl)) rfl (aw_in_ok g_19) rfl xd_S_loaded_19 ?_
    refine aw_get C (64 + 2 + 11 * (Int32.toNatClampNeg a1)) (kd_lt (ka_I6 (kf_M_images rfl) (aw_in_lt g_19))) (ly_I (ka_I6 (kf_M_images rfl) (aw_in_lt g_19))) rfl (fun w h => List.mem_cons_of_mem _ (xi_I w h)) 0 (by decide) rfl (List.mem_cons_of_mem _ fl_S_92) xd_S_loaded_20 ?_
    refine aw_get C ((64 + 2 + 11 * (Int32.toNatClampNeg a1)) + 1) (kd_lt (kf_I_unit (ka_I6 (kf_M_images rfl) (aw_in_lt g_19)))) (ly_U (kf_I_unit (ka_I6 (kf_M_images rfl) (aw_in_lt g_19)))) rfl (fun w h => List.mem_cons_of_mem _ (xi_U w h)) 1 (by decide) rfl (List.mem_cons_of_mem _ fl_S_115) xd_S_loaded_23 ?_
    refine aw_goto (tgt := 30) C xd_S_loaded_26 (by decide) ?_
    cases hm
    exact aw_iret C xd_S_loaded_30
def xm_S_imported (σ : aw_m) (a1 : Int32) (a2 : Int32) : Option Int32 := (xm_L_has σ 7 a1).bind fun q_5 => (if q_5 = 0 then some (-1 : Int32) else if aw_in a1 6 = true then (if a2 < 0 then some (-1 : Int32) else (if a2 < σ (8 + 1 + 9 * (Int32.toNatClampNeg a1)) 2 then if aw_in a2 6 = true then if aw_in a2 6 = true then some ((σ ((8 + 1 + 9 * (Int32.toNatClampNeg a1)) + 1) (Int32.toNatClampNeg a2)) + ((8 : Int32) * (σ ((8 + 1 + 9 * (Int32.toNatClampNeg a1)) + 2) (Int32.toNatClampNeg a2)))) else none else none else some (-1 : Int32))) else none)
set_option maxHeartbeats 4000000 in
set_option maxRecDepth 100000 in
theorem xc_S_imported (σ : aw_m) (a1 : Int32) (a2 : Int32) (q : Int32)  (hm : xm_S_imported σ a1 a2 = some q) : aw_M l D (ty_z ids) (zs_T ps) xy_S_imported (xw_S_imported :: gw_l) (rm_D (2)) [.ref (ad 0), .int a1, .int a2] (cw_w ad ids σ) (some (.int q)) (cw_w ad ids σ) := by
  refine aw_intro (cc := xb_S_imported) (n := 4) (ret := (some .int)) "ModuleShelf" rfl (by decide) rfl (Nat.le_of_ble_eq_true rfl) ?_
  intro κ C
  unfold xm_S_imported at hm
  refine aw_aload_n C 0 xd_S_imported_0 rfl rfl ?_
  refine aw_get C 0 (kd_lt (rfl : kd_k 0 = 15)) (ly_S (rfl : kd_k 0 = 15)) rfl (fun w h => List.mem_cons_of_mem _ (xi_S w h)) 1 (by decide) rfl (List.mem_cons_of_mem _ fl_S_19) xd_S_imported_1 ?_
  refine aw_iload_n C 1 xd_S_imported_4 rfl rfl ?_
  obtain ⟨q_5, e_5, hm⟩ := aw_bnd hm
  refine aw_callVi (As := [.int a1]) (rest := []) (b := ad 7) C (xc_L_has σ 7 a1 _ (rfl : kd_k 7 = 4) e_5) rfl (gw_sub (gw_V xg_L_has ml_S_67 im_L_has se_L_has wi_L)) na_L_has (rm_lt (by decide) (by decide)) ⟨Nat.zero_le _, Nat.zero_le _⟩ 7 (at_L (rfl : kd_k 7 = 4)) rfl rfl (Nat.le_of_ble_eq_true rfl) xd_S_imported_5 ?_
  refine aw_if_ne (tgt := 13) C xd_S_imported_8 (by decide) (fun c_8 => ?_) (fun c_8 => ?_)
  · rw [if_neg c_8] at hm
    refine aw_aload_n C 0 xd_S_imported_13 rfl rfl ?_
    refine aw_get C 0 (kd_lt (rfl : kd_k 0 = 15)) (ly_S (rfl : kd_k 0 = 15)) rfl (fun w h => List.mem_cons_of_mem _ (xi_S w h)) 1 (by decide) rfl (List.mem_cons_of_mem _ fl_S_19) xd_S_imported_14 ?_
    refine aw_get C 7 (kd_lt (rfl : kd_k 7 = 4)) (ly_L (rfl : kd_k 7 = 4)) rfl (fun w h => List.mem_cons_of_mem _ (xi_L w h)) 0 (by decide) rfl (List.mem_cons_of_mem _ fl_S_70) xd_S_imported_17 ?_
    refine aw_iload_n C 1 xd_S_imported_20 rfl rfl ?_
    obtain ⟨g_21, hm⟩ := aw_grd hm
    refine aw_aald C 8 (kd_lt (kf_L_units rfl)) 2 (ly_U6 (kf_L_units rfl)) rfl (aw_in_ok g_21) rfl xd_S_imported_21 ?_
    refine aw_astore_n (L' := [(3, .ref (ad (8 + 1 + 9 * (Int32.toNatClampNeg a1)))), (0, .ref (ad 0)), (1, .int a1), (2, .int a2)]) C xd_S_imported_22 rfl (by decide) rfl ?_
    refine aw_iload_n C 3 xd_S_imported_23 rfl rfl ?_
    refine aw_if_lt (tgt := 35) C xd_S_imported_24 (by decide) (fun c_24 => ?_) (fun c_24 => ?_)
    · rw [if_pos c_24] at hm
      refine aw_iconst (v := (-1 : Int32)) C xd_S_imported_35 (by decide) ?_
      cases hm
      exact aw_iret C xd_S_imported_36
    · rw [if_neg c_24] at hm
      refine aw_iload_n C 3 xd_S_imported_27 rfl rfl ?_
      refine aw_aload_n C 0 xd_S_imported_28 rfl rfl ?_
      refine aw_get C (8 + 1 + 9 * (Int32.toNatClampNeg a1)) (kd_lt (ka_U6 (kf_L_units rfl) (aw_in_lt g_21))) (ly_U (ka_U6 (kf_L_units rfl) (aw_in_lt g_21))) rfl (fun w h => List.mem_cons_of_mem _ (xi_U w h)) 2 (by decide) rfl (List.mem_cons_of_mem _ fl_S_118) xd_S_imported_29 ?_
      refine aw_icmp_lt (tgt := 37) C xd_S_imported_32 (by decide) (fun c_32 => ?_) (fun c_32 => ?_)
      · rw [if_pos c_32] at hm
        refine aw_aload_n C 0 xd_S_imported_37 rfl rfl ?_
        refine aw_get C (8 + 1 + 9 * (Int32.toNatClampNeg a1)) (kd_lt (ka_U6 (kf_L_units rfl) (aw_in_lt g_21))) (ly_U (ka_U6 (kf_L_units rfl) (aw_in_lt g_21))) rfl (fun w h => List.mem_cons_of_mem _ (xi_U w h)) 3 (by decide) rfl (List.mem_cons_of_mem _ fl_S_121) xd_S_imported_38 ?_
        refine aw_iload_n C 3 xd_S_imported_41 rfl rfl ?_
        obtain ⟨g_42, hm⟩ := aw_grd hm
        refine aw_iald C ((8 + 1 + 9 * (Int32.toNatClampNeg a1)) + 1) (kd_lt (kf_U_importModules (ka_U6 (kf_L_units rfl) (aw_in_lt g_21)))) 0 (ly_A6 (kf_U_importModules (ka_U6 (kf_L_units rfl) (aw_in_lt g_21)))) rfl (aw_in_ok g_42) xd_S_imported_42 ?_
        refine aw_bipush (v := (8 : Int32)) C xd_S_imported_43 (by decide) ?_
        refine aw_aload_n C 0 xd_S_imported_45 rfl rfl ?_
        refine aw_get C (8 + 1 + 9 * (Int32.toNatClampNeg a1)) (kd_lt (ka_U6 (kf_L_units rfl) (aw_in_lt g_21))) (ly_U (ka_U6 (kf_L_units rfl) (aw_in_lt g_21))) rfl (fun w h => List.mem_cons_of_mem _ (xi_U w h)) 4 (by decide) rfl (List.mem_cons_of_mem _ fl_S_125) xd_S_imported_46 ?_
        refine aw_iload_n C 3 xd_S_imported_49 rfl rfl ?_
        obtain ⟨g_50, hm⟩ := aw_grd hm
        refine aw_iald C ((8 + 1 + 9 * (Int32.toNatClampNeg a1)) + 2) (kd_lt (kf_U_importKeys (ka_U6 (kf_L_units rfl) (aw_in_lt g_21)))) 0 (ly_A6 (kf_U_importKeys (ka_U6 (kf_L_units rfl) (aw_in_lt g_21)))) rfl (aw_in_ok g_50) xd_S_imported_50 ?_
        refine aw_imul C xd_S_imported_51 ?_
        refine aw_iadd C xd_S_imported_52 ?_
        cases hm
        exact aw_iret C xd_S_imported_53
      · rw [if_neg c_32] at hm
        refine aw_iconst (v := (-1 : Int32)) C xd_S_imported_35 (by decide) ?_
        cases hm
        exact aw_iret C xd_S_imported_36
  · rw [if_pos c_8] at hm
    refine aw_iconst (v := (-1 : Int32)) C xd_S_imported_11 (by decide) ?_
    cases hm
    exact aw_iret C xd_S_imported_12
def xm_S_count (σ : aw_m) (a1 : Int32) : Option Int32 := (if a1 = (0 : Int32) then some (σ 1 1) else (if a1 = (1 : Int32) then (xm_C_lengthOf σ 1 ((σ 1 1) - (1 : Int32))).bind fun q_61 => some q_61 else (if a1 = (2 : Int32) then (xm_L_held σ 7).bind fun q_69 => some q_69 else (if a1 = (3 : Int32) then (xm_M_held σ 63).bind fun q_77 => some q_77 else (if a1 = (4 : Int32) then (xm_M_size σ 63).bind fun q_85 => some q_85 else (if a1 = (5 : Int32) then some (σ 7 1) else some (-1 : Int32)))))))
set_option maxHeartbeats 4000000 in
set_option maxRecDepth 100000 in
theorem xc_S_count (σ : aw_m) (a1 : Int32) (q : Int32)  (hm : xm_S_count σ a1 = some q) : aw_M l D (ty_z ids) (zs_T ps) xy_S_count (xw_S_count :: gw_l) (rm_D (3)) [.ref (ad 0), .int a1] (cw_w ad ids σ) (some (.int q)) (cw_w ad ids σ) := by
  refine aw_intro (cc := xb_S_count) (n := 2) (ret := (some .int)) "ModuleShelf" rfl (by decide) rfl (Nat.le_of_ble_eq_true rfl) ?_
  intro κ C
  unfold xm_S_count at hm
  refine aw_iload_n C 1 xd_S_count_0 rfl rfl ?_
  by_cases c_1_0 : a1 = (0 : Int32)
  · rw [if_pos c_1_0] at hm
    refine aw_tabIn (off := 39) (tgt := 40) C xd_S_count_1 (by rw [c_1_0]; decide) (by rw [c_1_0]; decide) (by rw [c_1_0]; rfl) (by decide) ?_
    refine aw_aload_n C 0 xd_S_count_40 rfl rfl ?_
    refine aw_get C 0 (kd_lt (rfl : kd_k 0 = 15)) (ly_S (rfl : kd_k 0 = 15)) rfl (fun w h => List.mem_cons_of_mem _ (xi_S w h)) 0 (by decide) rfl (List.mem_cons_of_mem _ fl_S_10) xd_S_count_41 ?_
    refine aw_get C 1 (kd_lt (rfl : kd_k 1 = 1)) (ly_C (rfl : kd_k 1 = 1)) rfl (fun w h => List.mem_cons_of_mem _ (xi_C w h)) 1 (by decide) rfl (List.mem_cons_of_mem _ fl_S_128) xd_S_count_44 ?_
    cases hm
    exact aw_iret C xd_S_count_47
  rw [if_neg c_1_0] at hm
  by_cases c_1_1 : a1 = (1 : Int32)
  · rw [if_pos c_1_1] at hm
    refine aw_tabIn (off := 47) (tgt := 48) C xd_S_count_1 (by rw [c_1_1]; decide) (by rw [c_1_1]; decide) (by rw [c_1_1]; rfl) (by decide) ?_
    refine aw_aload_n C 0 xd_S_count_48 rfl rfl ?_
    refine aw_get C 0 (kd_lt (rfl : kd_k 0 = 15)) (ly_S (rfl : kd_k 0 = 15)) rfl (fun w h => List.mem_cons_of_mem _ (xi_S w h)) 0 (by decide) rfl (List.mem_cons_of_mem _ fl_S_10) xd_S_count_49 ?_
    refine aw_aload_n C 0 xd_S_count_52 rfl rfl ?_
    refine aw_get C 0 (kd_lt (rfl : kd_k 0 = 15)) (ly_S (rfl : kd_k 0 = 15)) rfl (fun w h => List.mem_cons_of_mem _ (xi_S w h)) 0 (by decide) rfl (List.mem_cons_of_mem _ fl_S_10) xd_S_count_53 ?_
    refine aw_get C 1 (kd_lt (rfl : kd_k 1 = 1)) (ly_C (rfl : kd_k 1 = 1)) rfl (fun w h => List.mem_cons_of_mem _ (xi_C w h)) 1 (by decide) rfl (List.mem_cons_of_mem _ fl_S_128) xd_S_count_56 ?_
    refine aw_iconst (v := (1 : Int32)) C xd_S_count_59 (by decide) ?_
    refine aw_isub C xd_S_count_60 ?_
    obtain ⟨q_61, e_61, hm⟩ := aw_bnd hm
    refine aw_callVi (As := [.int ((σ 1 1) - (1 : Int32))]) (rest := []) (b := ad 1) C (xc_C_lengthOf σ 1 ((σ 1 1) - (1 : Int32)) _ (rfl : kd_k 1 = 1) e_61) rfl (gw_sub (gw_V xg_C_lengthOf ml_S_131 im_C_lengthOf se_C_lengthOf wi_C)) na_C_lengthOf (rm_lt (by decide) (by decide)) ⟨Nat.zero_le _, Nat.zero_le _⟩ 1 (at_C (rfl : kd_k 1 = 1)) rfl rfl (Nat.le_of_ble_eq_true rfl) xd_S_count_61 ?_
    cases hm
    exact aw_iret C xd_S_count_64
  rw [if_neg c_1_1] at hm
  by_cases c_1_2 : a1 = (2 : Int32)
  · rw [if_pos c_1_2] at hm
    refine aw_tabIn (off := 64) (tgt := 65) C xd_S_count_1 (by rw [c_1_2]; decide) (by rw [c_1_2]; decide) (by rw [c_1_2]; rfl) (by decide) ?_
    refine aw_aload_n C 0 xd_S_count_65 rfl rfl ?_
    refine aw_get C 0 (kd_lt (rfl : kd_k 0 = 15)) (ly_S (rfl : kd_k 0 = 15)) rfl (fun w h => List.mem_cons_of_mem _ (xi_S w h)) 1 (by decide) rfl (List.mem_cons_of_mem _ fl_S_19) xd_S_count_66 ?_
    obtain ⟨q_69, e_69, hm⟩ := aw_bnd hm
    refine aw_callVi (As := []) (rest := []) (b := ad 7) C (xc_L_held σ 7 _ (rfl : kd_k 7 = 4) e_69) rfl (gw_sub (gw_V xg_L_held ml_S_134 im_L_held se_L_held wi_L)) na_L_held (rm_lt (by decide) (by decide)) ⟨Nat.zero_le _, Nat.zero_le _⟩ 7 (at_L (rfl : kd_k 7 = 4)) rfl rfl (Nat.le_of_ble_eq_true rfl) xd_S_count_69 ?_
    cases hm
    exact aw_iret C xd_S_count_72
  rw [if_neg c_1_2] at hm
  by_cases c_1_3 : a1 = (3 : Int32)
  · rw [if_pos c_1_3] at hm
    refine aw_tabIn (off := 72) (tgt := 73) C xd_S_count_1 (by rw [c_1_3]; decide) (by rw [c_1_3]; decide) (by rw [c_1_3]; rfl) (by decide) ?_
    refine aw_aload_n C 0 xd_S_count_73 rfl rfl ?_
    refine aw_get C 0 (kd_lt (rfl : kd_k 0 = 15)) (ly_S (rfl : kd_k 0 = 15)) rfl (fun w h => List.mem_cons_of_mem _ (xi_S w h)) 2 (by decide) rfl (List.mem_cons_of_mem _ fl_S_26) xd_S_count_74 ?_
    obtain ⟨q_77, e_77, hm⟩ := aw_bnd hm
    refine aw_callVi (As := []) (rest := []) (b := ad 63) C (xc_M_held σ 63 _ (rfl : kd_k 63 = 8) e_77) rfl (gw_sub (gw_V xg_M_held ml_S_138 im_M_held se_M_held wi_M)) na_M_held (rm_lt (by decide) (by decide)) ⟨Nat.zero_le _, Nat.zero_le _⟩ 63 (at_M (rfl : kd_k 63 = 8)) rfl rfl (Nat.le_of_ble_eq_true rfl) xd_S_count_77 ?_
    cases hm
    exact aw_iret C xd_S_count_80
  rw [if_neg c_1_3] at hm
  by_cases c_1_4 : a1 = (4 : Int32)
  · rw [if_pos c_1_4] at hm
    refine aw_tabIn (off := 80) (tgt := 81) C xd_S_count_1 (by rw [c_1_4]; decide) (by rw [c_1_4]; decide) (by rw [c_1_4]; rfl) (by decide) ?_
    refine aw_aload_n C 0 xd_S_count_81 rfl rfl ?_
    refine aw_get C 0 (kd_lt (rfl : kd_k 0 = 15)) (ly_S (rfl : kd_k 0 = 15)) rfl (fun w h => List.mem_cons_of_mem _ (xi_S w h)) 2 (by decide) rfl (List.mem_cons_of_mem _ fl_S_26) xd_S_count_82 ?_
    obtain ⟨q_85, e_85, hm⟩ := aw_bnd hm
    refine aw_callVi (As := []) (rest := []) (b := ad 63) C (xc_M_size σ 63 _ (rfl : kd_k 63 = 8) e_85) rfl (gw_sub (gw_V xg_M_size ml_S_139 im_M_size se_M_size wi_M)) na_M_size (rm_lt (by decide) (by decide)) ⟨Nat.zero_le _, Nat.zero_le _⟩ 63 (at_M (rfl : kd_k 63 = 8)) rfl rfl (Nat.le_of_ble_eq_true rfl) xd_S_count_85 ?_
    cases hm
    exact aw_iret C xd_S_count_88
  rw [if_neg c_1_4] at hm
  by_cases c_1_5 : a1 = (5 : Int32)
  · rw [if_pos c_1_5] at hm
    refine aw_tabIn (off := 88) (tgt := 89) C xd_S_count_1 (by rw [c_1_5]; decide) (by rw [c_1_5]; decide) (by rw [c_1_5]; rfl) (by decide) ?_
    refine aw_aload_n C 0 xd_S_count_89 rfl rfl ?_
    refine aw_get C 0 (kd_lt (rfl : kd_k 0 = 15)) (ly_S (rfl : kd_k 0 = 15)) rfl (fun w h => List.mem_cons_of_mem _ (xi_S w h)) 1 (by decide) rfl (List.mem_cons_of_mem _ fl_S_19) xd_S_count_90 ?_
    refine aw_get C 7 (kd_lt (rfl : kd_k 7 = 4)) (ly_L (rfl : kd_k 7 = 4)) rfl (fun w h => List.mem_cons_of_mem _ (xi_L w h)) 1 (by decide) rfl (List.mem_cons_of_mem _ fl_S_142) xd_S_count_93 ?_
    cases hm
    exact aw_iret C xd_S_count_96
  rw [if_neg c_1_5] at hm
  have t_1_0 := lv_neT c_1_0 (a := 0) (by decide)
  have t_1_1 := lv_neT c_1_1 (a := 1) (by decide)
  have t_1_2 := lv_neT c_1_2 (a := 2) (by decide)
  have t_1_3 := lv_neT c_1_3 (a := 3) (by decide)
  have t_1_4 := lv_neT c_1_4 (a := 4) (by decide)
  have t_1_5 := lv_neT c_1_5 (a := 5) (by decide)
  refine aw_tabOut (tgt := 97) C xd_S_count_1 (by omega) (by decide) ?_
  refine aw_iconst (v := (-1 : Int32)) C xd_S_count_97 (by decide) ?_
  cases hm
  exact aw_iret C xd_S_count_98
end
end
