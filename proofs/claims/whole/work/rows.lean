section
-- ===== PART A: goes FIRST, ahead of the names: the tables' words, and 'selects' of the private methods out of them =====
/-- a private method of a class that the tables say can be made, by its rows of tables_1 -/
def lw_okq (q : MethodName × Nat) : Prop := (q.1.cls ≠ "java/lang/invoke/MethodHandle" ∧ q.1.cls ≠ "java/lang/invoke/VarHandle") ∧ Cond.instantiable q.1.cls q.2 ∈ tables_1 ∧ Cond.privateMethod q.1 ∈ tables_1 ∧ Cond.instanceMethod q.1 ∈ tables_1
theorem lw_p0 : lw_okq (⟨"ModuleShelf$Library", "isExpression", "(LModuleShelf$Code;III)Z"⟩, 3) := ⟨⟨by decide +kernel, by decide +kernel⟩, List.mem_of_getElem? (i := 59) (by decide +kernel), List.mem_of_getElem? (i := 262) (by decide +kernel), List.mem_of_getElem? (i := 263) (by decide +kernel)⟩
theorem lw_p1 : lw_okq (⟨"ModuleShelf$Library", "isRight", "(LModuleShelf$Code;III)Z"⟩, 3) := ⟨⟨by decide +kernel, by decide +kernel⟩, List.mem_of_getElem? (i := 59) (by decide +kernel), List.mem_of_getElem? (i := 275) (by decide +kernel), List.mem_of_getElem? (i := 276) (by decide +kernel)⟩
theorem lw_p2 : lw_okq (⟨"ModuleShelf$Library", "argumentsOf", "(LModuleShelf$Code;III)I"⟩, 3) := ⟨⟨by decide +kernel, by decide +kernel⟩, List.mem_of_getElem? (i := 59) (by decide +kernel), List.mem_of_getElem? (i := 292) (by decide +kernel), List.mem_of_getElem? (i := 293) (by decide +kernel)⟩
theorem lw_p3 : lw_okq (⟨"ModuleShelf$Library", "partsOf", "(LModuleShelf$Code;II)I"⟩, 3) := ⟨⟨by decide +kernel, by decide +kernel⟩, List.mem_of_getElem? (i := 59) (by decide +kernel), List.mem_of_getElem? (i := 296) (by decide +kernel), List.mem_of_getElem? (i := 297) (by decide +kernel)⟩
theorem lw_p4 : lw_okq (⟨"ModuleShelf$Library", "gatherImports", "(LModuleShelf$Unit;I)V"⟩, 3) := ⟨⟨by decide +kernel, by decide +kernel⟩, List.mem_of_getElem? (i := 59) (by decide +kernel), List.mem_of_getElem? (i := 317) (by decide +kernel), List.mem_of_getElem? (i := 318) (by decide +kernel)⟩
theorem lw_p5 : lw_okq (⟨"ModuleShelf$Memory", "bringOne", "(LModuleShelf$Library;II)I"⟩, 2) := ⟨⟨by decide +kernel, by decide +kernel⟩, List.mem_of_getElem? (i := 122) (by decide +kernel), List.mem_of_getElem? (i := 355) (by decide +kernel), List.mem_of_getElem? (i := 356) (by decide +kernel)⟩
theorem lw_p6 : lw_okq (⟨"ModuleShelf$Memory", "dropBegun", "()V"⟩, 2) := ⟨⟨by decide +kernel, by decide +kernel⟩, List.mem_of_getElem? (i := 122) (by decide +kernel), List.mem_of_getElem? (i := 381) (by decide +kernel), List.mem_of_getElem? (i := 382) (by decide +kernel)⟩
theorem lw_p7 : lw_okq (⟨"ModuleShelf$Machine", "work", "(LModuleShelf$Memory;II)I"⟩, 3) := ⟨⟨by decide +kernel, by decide +kernel⟩, List.mem_of_getElem? (i := 158) (by decide +kernel), List.mem_of_getElem? (i := 412) (by decide +kernel), List.mem_of_getElem? (i := 413) (by decide +kernel)⟩
theorem lw_p8 : lw_okq (⟨"ModuleShelf$Machine", "fail", "(I)I"⟩, 3) := ⟨⟨by decide +kernel, by decide +kernel⟩, List.mem_of_getElem? (i := 158) (by decide +kernel), List.mem_of_getElem? (i := 417) (by decide +kernel), List.mem_of_getElem? (i := 418) (by decide +kernel)⟩
theorem lw_p9 : lw_okq (⟨"ModuleShelf$Machine", "assign", "(LModuleShelf$Memory;III)I"⟩, 3) := ⟨⟨by decide +kernel, by decide +kernel⟩, List.mem_of_getElem? (i := 158) (by decide +kernel), List.mem_of_getElem? (i := 427) (by decide +kernel), List.mem_of_getElem? (i := 428) (by decide +kernel)⟩
theorem lw_p10 : lw_okq (⟨"ModuleShelf$Machine", "choose", "(LModuleShelf$Memory;II)I"⟩, 3) := ⟨⟨by decide +kernel, by decide +kernel⟩, List.mem_of_getElem? (i := 158) (by decide +kernel), List.mem_of_getElem? (i := 435) (by decide +kernel), List.mem_of_getElem? (i := 436) (by decide +kernel)⟩
theorem lw_p11 : lw_okq (⟨"ModuleShelf$Machine", "skip", "(LModuleShelf$Memory;LModuleShelf$Frame;)V"⟩, 3) := ⟨⟨by decide +kernel, by decide +kernel⟩, List.mem_of_getElem? (i := 158) (by decide +kernel), List.mem_of_getElem? (i := 439) (by decide +kernel), List.mem_of_getElem? (i := 440) (by decide +kernel)⟩
theorem lw_p12 : lw_okq (⟨"ModuleShelf$Machine", "partsOf", "(LModuleShelf$Memory;LModuleShelf$Code;I)I"⟩, 3) := ⟨⟨by decide +kernel, by decide +kernel⟩, List.mem_of_getElem? (i := 158) (by decide +kernel), List.mem_of_getElem? (i := 443) (by decide +kernel), List.mem_of_getElem? (i := 444) (by decide +kernel)⟩
theorem lw_p13 : lw_okq (⟨"ModuleShelf$Machine", "enter", "(LModuleShelf$Memory;IIII)I"⟩, 3) := ⟨⟨by decide +kernel, by decide +kernel⟩, List.mem_of_getElem? (i := 158) (by decide +kernel), List.mem_of_getElem? (i := 452) (by decide +kernel), List.mem_of_getElem? (i := 453) (by decide +kernel)⟩
theorem lw_p14 : lw_okq (⟨"ModuleShelf$Machine", "combine", "(LModuleShelf$Memory;III)I"⟩, 3) := ⟨⟨by decide +kernel, by decide +kernel⟩, List.mem_of_getElem? (i := 158) (by decide +kernel), List.mem_of_getElem? (i := 456) (by decide +kernel), List.mem_of_getElem? (i := 457) (by decide +kernel)⟩
theorem lw_p15 : lw_okq (⟨"ModuleShelfModel", "firstWrong", "(II)I"⟩, 29) := ⟨⟨by decide +kernel, by decide +kernel⟩, List.mem_of_getElem? (i := 496) (by decide +kernel), List.mem_of_getElem? (i := 609) (by decide +kernel), List.mem_of_getElem? (i := 610) (by decide +kernel)⟩
def lw_privs_1 : List (MethodName × Nat) := [(⟨"ModuleShelf$Library", "isExpression", "(LModuleShelf$Code;III)Z"⟩, 3), (⟨"ModuleShelf$Library", "isRight", "(LModuleShelf$Code;III)Z"⟩, 3), (⟨"ModuleShelf$Library", "argumentsOf", "(LModuleShelf$Code;III)I"⟩, 3), (⟨"ModuleShelf$Library", "partsOf", "(LModuleShelf$Code;II)I"⟩, 3), (⟨"ModuleShelf$Library", "gatherImports", "(LModuleShelf$Unit;I)V"⟩, 3), (⟨"ModuleShelf$Memory", "bringOne", "(LModuleShelf$Library;II)I"⟩, 2), (⟨"ModuleShelf$Memory", "dropBegun", "()V"⟩, 2), (⟨"ModuleShelf$Machine", "work", "(LModuleShelf$Memory;II)I"⟩, 3), (⟨"ModuleShelf$Machine", "fail", "(I)I"⟩, 3), (⟨"ModuleShelf$Machine", "assign", "(LModuleShelf$Memory;III)I"⟩, 3), (⟨"ModuleShelf$Machine", "choose", "(LModuleShelf$Memory;II)I"⟩, 3), (⟨"ModuleShelf$Machine", "skip", "(LModuleShelf$Memory;LModuleShelf$Frame;)V"⟩, 3), (⟨"ModuleShelf$Machine", "partsOf", "(LModuleShelf$Memory;LModuleShelf$Code;I)I"⟩, 3), (⟨"ModuleShelf$Machine", "enter", "(LModuleShelf$Memory;IIII)I"⟩, 3), (⟨"ModuleShelf$Machine", "combine", "(LModuleShelf$Memory;III)I"⟩, 3), (⟨"ModuleShelfModel", "firstWrong", "(II)I"⟩, 29)]
theorem lw_r1 : ∀ q ∈ lw_privs_1, lw_okq q := List.forall_mem_cons.mpr ⟨lw_p0, List.forall_mem_cons.mpr ⟨lw_p1, List.forall_mem_cons.mpr ⟨lw_p2, List.forall_mem_cons.mpr ⟨lw_p3, List.forall_mem_cons.mpr ⟨lw_p4, List.forall_mem_cons.mpr ⟨lw_p5, List.forall_mem_cons.mpr ⟨lw_p6, List.forall_mem_cons.mpr ⟨lw_p7, List.forall_mem_cons.mpr ⟨lw_p8, List.forall_mem_cons.mpr ⟨lw_p9, List.forall_mem_cons.mpr ⟨lw_p10, List.forall_mem_cons.mpr ⟨lw_p11, List.forall_mem_cons.mpr ⟨lw_p12, List.forall_mem_cons.mpr ⟨lw_p13, List.forall_mem_cons.mpr ⟨lw_p14, List.forall_mem_cons.mpr ⟨lw_p15, fun _ h => absurd h List.not_mem_nil⟩⟩⟩⟩⟩⟩⟩⟩⟩⟩⟩⟩⟩⟩⟩⟩
theorem lw_p16 : lw_okq (⟨"ModuleShelfModel", "partsOf", "(III)I"⟩, 29) := ⟨⟨by decide +kernel, by decide +kernel⟩, List.mem_of_getElem? (i := 496) (by decide +kernel), List.mem_of_getElem? (i := 613) (by decide +kernel), List.mem_of_getElem? (i := 614) (by decide +kernel)⟩
theorem lw_p17 : lw_okq (⟨"ModuleShelfModel", "seen", "(II)I"⟩, 29) := ⟨⟨by decide +kernel, by decide +kernel⟩, List.mem_of_getElem? (i := 496) (by decide +kernel), List.mem_of_getElem? (i := 617) (by decide +kernel), List.mem_of_getElem? (i := 618) (by decide +kernel)⟩
theorem lw_p18 : lw_okq (⟨"ModuleShelfModel", "findImports", "(I)V"⟩, 29) := ⟨⟨by decide +kernel, by decide +kernel⟩, List.mem_of_getElem? (i := 496) (by decide +kernel), List.mem_of_getElem? (i := 621) (by decide +kernel), List.mem_of_getElem? (i := 622) (by decide +kernel)⟩
theorem lw_p19 : lw_okq (⟨"ModuleShelfModel", "alike", "(I)Z"⟩, 29) := ⟨⟨by decide +kernel, by decide +kernel⟩, List.mem_of_getElem? (i := 496) (by decide +kernel), List.mem_of_getElem? (i := 625) (by decide +kernel), List.mem_of_getElem? (i := 626) (by decide +kernel)⟩
theorem lw_p20 : lw_okq (⟨"ModuleShelfModel", "copy", "(II)V"⟩, 29) := ⟨⟨by decide +kernel, by decide +kernel⟩, List.mem_of_getElem? (i := 496) (by decide +kernel), List.mem_of_getElem? (i := 629) (by decide +kernel), List.mem_of_getElem? (i := 630) (by decide +kernel)⟩
theorem lw_p21 : lw_okq (⟨"ModuleShelfModel", "begins", "(II)I"⟩, 29) := ⟨⟨by decide +kernel, by decide +kernel⟩, List.mem_of_getElem? (i := 496) (by decide +kernel), List.mem_of_getElem? (i := 645) (by decide +kernel), List.mem_of_getElem? (i := 646) (by decide +kernel)⟩
theorem lw_p22 : lw_okq (⟨"ModuleShelfModel", "cells", "(I)I"⟩, 29) := ⟨⟨by decide +kernel, by decide +kernel⟩, List.mem_of_getElem? (i := 496) (by decide +kernel), List.mem_of_getElem? (i := 649) (by decide +kernel), List.mem_of_getElem? (i := 650) (by decide +kernel)⟩
theorem lw_p23 : lw_okq (⟨"ModuleShelfModel", "allCells", "()I"⟩, 29) := ⟨⟨by decide +kernel, by decide +kernel⟩, List.mem_of_getElem? (i := 496) (by decide +kernel), List.mem_of_getElem? (i := 653) (by decide +kernel), List.mem_of_getElem? (i := 654) (by decide +kernel)⟩
theorem lw_p24 : lw_okq (⟨"ModuleShelfModel", "enter", "(IIIII)V"⟩, 29) := ⟨⟨by decide +kernel, by decide +kernel⟩, List.mem_of_getElem? (i := 496) (by decide +kernel), List.mem_of_getElem? (i := 665) (by decide +kernel), List.mem_of_getElem? (i := 666) (by decide +kernel)⟩
theorem lw_p25 : lw_okq (⟨"ModuleShelfModel", "push", "(III)V"⟩, 29) := ⟨⟨by decide +kernel, by decide +kernel⟩, List.mem_of_getElem? (i := 496) (by decide +kernel), List.mem_of_getElem? (i := 669) (by decide +kernel), List.mem_of_getElem? (i := 670) (by decide +kernel)⟩
theorem lw_p26 : lw_okq (⟨"ModuleShelfModel", "begin", "(II)V"⟩, 29) := ⟨⟨by decide +kernel, by decide +kernel⟩, List.mem_of_getElem? (i := 496) (by decide +kernel), List.mem_of_getElem? (i := 673) (by decide +kernel), List.mem_of_getElem? (i := 674) (by decide +kernel)⟩
theorem lw_p27 : lw_okq (⟨"ModuleShelfModel", "give", "(I)V"⟩, 29) := ⟨⟨by decide +kernel, by decide +kernel⟩, List.mem_of_getElem? (i := 496) (by decide +kernel), List.mem_of_getElem? (i := 677) (by decide +kernel), List.mem_of_getElem? (i := 678) (by decide +kernel)⟩
theorem lw_p28 : lw_okq (⟨"ModuleShelfModel", "end", "(I)I"⟩, 29) := ⟨⟨by decide +kernel, by decide +kernel⟩, List.mem_of_getElem? (i := 496) (by decide +kernel), List.mem_of_getElem? (i := 681) (by decide +kernel), List.mem_of_getElem? (i := 682) (by decide +kernel)⟩
theorem lw_p29 : lw_okq (⟨"ModuleShelfModel", "parts", "(I)I"⟩, 29) := ⟨⟨by decide +kernel, by decide +kernel⟩, List.mem_of_getElem? (i := 496) (by decide +kernel), List.mem_of_getElem? (i := 685) (by decide +kernel), List.mem_of_getElem? (i := 686) (by decide +kernel)⟩
theorem lw_p30 : lw_okq (⟨"ModuleShelfModel", "use", "(II)I"⟩, 29) := ⟨⟨by decide +kernel, by decide +kernel⟩, List.mem_of_getElem? (i := 496) (by decide +kernel), List.mem_of_getElem? (i := 689) (by decide +kernel), List.mem_of_getElem? (i := 690) (by decide +kernel)⟩
theorem lw_p31 : lw_okq (⟨"ModuleShelfModel", "take", "()I"⟩, 29) := ⟨⟨by decide +kernel, by decide +kernel⟩, List.mem_of_getElem? (i := 496) (by decide +kernel), List.mem_of_getElem? (i := 693) (by decide +kernel), List.mem_of_getElem? (i := 694) (by decide +kernel)⟩
def lw_privs_2 : List (MethodName × Nat) := [(⟨"ModuleShelfModel", "partsOf", "(III)I"⟩, 29), (⟨"ModuleShelfModel", "seen", "(II)I"⟩, 29), (⟨"ModuleShelfModel", "findImports", "(I)V"⟩, 29), (⟨"ModuleShelfModel", "alike", "(I)Z"⟩, 29), (⟨"ModuleShelfModel", "copy", "(II)V"⟩, 29), (⟨"ModuleShelfModel", "begins", "(II)I"⟩, 29), (⟨"ModuleShelfModel", "cells", "(I)I"⟩, 29), (⟨"ModuleShelfModel", "allCells", "()I"⟩, 29), (⟨"ModuleShelfModel", "enter", "(IIIII)V"⟩, 29), (⟨"ModuleShelfModel", "push", "(III)V"⟩, 29), (⟨"ModuleShelfModel", "begin", "(II)V"⟩, 29), (⟨"ModuleShelfModel", "give", "(I)V"⟩, 29), (⟨"ModuleShelfModel", "end", "(I)I"⟩, 29), (⟨"ModuleShelfModel", "parts", "(I)I"⟩, 29), (⟨"ModuleShelfModel", "use", "(II)I"⟩, 29), (⟨"ModuleShelfModel", "take", "()I"⟩, 29)]
theorem lw_r2 : ∀ q ∈ lw_privs_2, lw_okq q := List.forall_mem_cons.mpr ⟨lw_p16, List.forall_mem_cons.mpr ⟨lw_p17, List.forall_mem_cons.mpr ⟨lw_p18, List.forall_mem_cons.mpr ⟨lw_p19, List.forall_mem_cons.mpr ⟨lw_p20, List.forall_mem_cons.mpr ⟨lw_p21, List.forall_mem_cons.mpr ⟨lw_p22, List.forall_mem_cons.mpr ⟨lw_p23, List.forall_mem_cons.mpr ⟨lw_p24, List.forall_mem_cons.mpr ⟨lw_p25, List.forall_mem_cons.mpr ⟨lw_p26, List.forall_mem_cons.mpr ⟨lw_p27, List.forall_mem_cons.mpr ⟨lw_p28, List.forall_mem_cons.mpr ⟨lw_p29, List.forall_mem_cons.mpr ⟨lw_p30, List.forall_mem_cons.mpr ⟨lw_p31, fun _ h => absurd h List.not_mem_nil⟩⟩⟩⟩⟩⟩⟩⟩⟩⟩⟩⟩⟩⟩⟩⟩
def lw_privs : List (MethodName × Nat) := lw_privs_1 ++ (lw_privs_2)
def lw_tbl : List Cond := k2_sels lw_privs ++ tables_1
theorem lw_privs_ok : ∀ q ∈ lw_privs, lw_okq q := by
  show ∀ q ∈ lw_privs_1 ++ (lw_privs_2), lw_okq q
  exact List.forall_mem_append.mpr ⟨lw_r1, lw_r2⟩
/-- the words that a callee may take from its caller: all good ones of the tables -/
def gw_l : List Cond := lw_tbl.filter goodWord
theorem gw_of {w : Cond} (i : Nat) (h : lw_tbl[i]? = some w) (hg : goodWord w = true) : w ∈ gw_l := List.mem_filter.mpr ⟨List.mem_of_getElem? h, hg⟩
theorem gw_sub {c : Cond} {ws : List Cond} (h : ∀ w ∈ ws, w ∈ gw_l) : GoodIn (c :: gw_l) ws := fun w hw => ⟨List.mem_cons_of_mem _ (h w hw), good_of_word (List.mem_filter.mp (h w hw)).2⟩
theorem gw_law {ws : List Cond} (h : ∀ w ∈ ws, w ∈ gw_l) : GoodIn lw_tbl ws := fun w hw => ⟨(List.mem_filter.mp (h w hw)).1, good_of_word (List.mem_filter.mp (h w hw)).2⟩
theorem gw_C {c : Cond} (h : c ∈ gw_l) : ∀ w ∈ c :: gw_l, w ∈ gw_l := fun w hw => (List.mem_cons.mp hw).elim (fun e => e ▸ h) id
theorem gw_V {c : Cond} {own C : String} {k : Nat} {y : MethodName} (h : c ∈ gw_l) (h1 : Cond.methodLink own k y ∈ gw_l) (h2 : Cond.instanceMethod y ∈ gw_l) (h3 : Cond.selects C y y ∈ gw_l) (h4 : Cond.initialized C ∈ gw_l) : ∀ w ∈ wsV own k C y (c :: gw_l), w ∈ gw_l := by
  intro w hw
  unfold wsV at hw
  rcases List.mem_append.mp hw with hw | hw
  · simp only [List.mem_cons, List.not_mem_nil, or_false] at hw
    rcases hw with rfl | rfl | rfl | rfl <;> assumption
  · exact gw_C h w hw
theorem gw_S {c : Cond} {own : String} {k : Nat} {y : MethodName} (h : c ∈ gw_l) (h1 : Cond.methodLink own k y ∈ gw_l) (h2 : Cond.static y ∈ gw_l) (h4 : Cond.initialized y.cls ∈ gw_l) : ∀ w ∈ va_wsS own k y (c :: gw_l), w ∈ gw_l := by
  intro w hw
  unfold va_wsS at hw
  rcases List.mem_append.mp hw with hw | hw
  · simp only [List.mem_cons, List.not_mem_nil, or_false] at hw
    rcases hw with rfl | rfl | rfl <;> assumption
  · exact gw_C h w hw
def xr_C : String := "ModuleShelf$Code"
def xt_C : u_T := fun k => match k with
  | 0 => ("ModuleShelf$Code", "variables", "I", false)
  | 1 => ("ModuleShelf$Code", "procedures", "I", false)
  | 2 => ("ModuleShelf$Code", "arguments", "[I", true)
  | 3 => ("ModuleShelf$Code", "lengths", "[I", true)
  | 4 => ("ModuleShelf$Code", "ops", "[I", true)
  | 5 => ("ModuleShelf$Code", "as", "[I", true)
  | _ => ("ModuleShelf$Code", "bs", "[I", true)
def xk_C : Nat → FieldType := fun k => match k with
  | 0 => .int
  | 1 => .int
  | 2 => .array .int
  | 3 => .array .int
  | 4 => .array .int
  | 5 => .array .int
  | _ => .array .int
theorem xn_C : ∀ a, a < 7 → ∀ b, b < 7 → a ≠ b → (xt_C a).2.1 ≠ (xt_C b).2.1 := by decide +kernel
theorem xo_C : ∀ k, k < 7 → parseFieldDescriptor (xt_C k).2.2.1 = some (xk_C k) := by decide +kernel
def xr_F : String := "ModuleShelf$Frame"
def xt_F : u_T := fun k => match k with
  | 0 => ("ModuleShelf$Frame", "module", "I", false)
  | 1 => ("ModuleShelf$Frame", "procedure", "I", false)
  | 2 => ("ModuleShelf$Frame", "x", "I", false)
  | 3 => ("ModuleShelf$Frame", "y", "I", false)
  | _ => ("ModuleShelf$Frame", "at", "I", false)
def xk_F : Nat → FieldType := fun k => match k with
  | 0 => .int
  | 1 => .int
  | 2 => .int
  | 3 => .int
  | _ => .int
theorem xn_F : ∀ a, a < 5 → ∀ b, b < 5 → a ≠ b → (xt_F a).2.1 ≠ (xt_F b).2.1 := by decide +kernel
theorem xo_F : ∀ k, k < 5 → parseFieldDescriptor (xt_F k).2.2.1 = some (xk_F k) := by decide +kernel
def xr_I : String := "ModuleShelf$Image"
def xt_I : u_T := fun k => match k with
  | 0 => ("ModuleShelf$Image", "unit", "LModuleShelf$Unit;", true)
  | _ => ("ModuleShelf$Image", "values", "[I", true)
def xk_I : Nat → FieldType := fun k => match k with
  | 0 => .object "ModuleShelf$Unit"
  | _ => .array .int
theorem xn_I : ∀ a, a < 2 → ∀ b, b < 2 → a ≠ b → (xt_I a).2.1 ≠ (xt_I b).2.1 := by decide +kernel
theorem xo_I : ∀ k, k < 2 → parseFieldDescriptor (xt_I k).2.2.1 = some (xk_I k) := by decide +kernel
def xr_L : String := "ModuleShelf$Library"
def xt_L : u_T := fun k => match k with
  | 0 => ("ModuleShelf$Library", "units", "[LModuleShelf$Unit;", true)
  | 1 => ("ModuleShelf$Library", "keysGiven", "I", false)
  | _ => ("ModuleShelf$Library", "at", "I", false)
def xk_L : Nat → FieldType := fun k => match k with
  | 0 => .array (.object "ModuleShelf$Unit")
  | 1 => .int
  | _ => .int
theorem xn_L : ∀ a, a < 3 → ∀ b, b < 3 → a ≠ b → (xt_L a).2.1 ≠ (xt_L b).2.1 := by decide +kernel
theorem xo_L : ∀ k, k < 3 → parseFieldDescriptor (xt_L k).2.2.1 = some (xk_L k) := by decide +kernel
def xr_N : String := "ModuleShelf$Machine"
def xt_N : u_T := fun k => match k with
  | 0 => ("ModuleShelf$Machine", "frames", "[LModuleShelf$Frame;", true)
  | 1 => ("ModuleShelf$Machine", "stepsBegun", "I", false)
  | _ => ("ModuleShelf$Machine", "fault", "I", false)
def xk_N : Nat → FieldType := fun k => match k with
  | 0 => .array (.object "ModuleShelf$Frame")
  | 1 => .int
  | _ => .int
theorem xn_N : ∀ a, a < 3 → ∀ b, b < 3 → a ≠ b → (xt_N a).2.1 ≠ (xt_N b).2.1 := by decide +kernel
theorem xo_N : ∀ k, k < 3 → parseFieldDescriptor (xt_N k).2.2.1 = some (xk_N k) := by decide +kernel
def xr_M : String := "ModuleShelf$Memory"
def xt_M : u_T := fun k => match k with
  | 0 => ("ModuleShelf$Memory", "images", "[LModuleShelf$Image;", true)
  | _ => ("ModuleShelf$Memory", "begun", "[Z", true)
def xk_M : Nat → FieldType := fun k => match k with
  | 0 => .array (.object "ModuleShelf$Image")
  | _ => .array .boolean
theorem xn_M : ∀ a, a < 2 → ∀ b, b < 2 → a ≠ b → (xt_M a).2.1 ≠ (xt_M b).2.1 := by decide +kernel
theorem xo_M : ∀ k, k < 2 → parseFieldDescriptor (xt_M k).2.2.1 = some (xk_M k) := by decide +kernel
def xr_U : String := "ModuleShelf$Unit"
def xt_U : u_T := fun k => match k with
  | 0 => ("ModuleShelf$Unit", "present", "Z", false)
  | 1 => ("ModuleShelf$Unit", "key", "I", false)
  | 2 => ("ModuleShelf$Unit", "imports", "I", false)
  | 3 => ("ModuleShelf$Unit", "importModules", "[I", true)
  | 4 => ("ModuleShelf$Unit", "importKeys", "[I", true)
  | _ => ("ModuleShelf$Unit", "code", "LModuleShelf$Code;", true)
def xk_U : Nat → FieldType := fun k => match k with
  | 0 => .boolean
  | 1 => .int
  | 2 => .int
  | 3 => .array .int
  | 4 => .array .int
  | _ => .object "ModuleShelf$Code"
theorem xn_U : ∀ a, a < 6 → ∀ b, b < 6 → a ≠ b → (xt_U a).2.1 ≠ (xt_U b).2.1 := by decide +kernel
theorem xo_U : ∀ k, k < 6 → parseFieldDescriptor (xt_U k).2.2.1 = some (xk_U k) := by decide +kernel
def xr_S : String := "ModuleShelf"
def xt_S : u_T := fun k => match k with
  | 0 => ("ModuleShelf", "draft", "LModuleShelf$Code;", true)
  | 1 => ("ModuleShelf", "library", "LModuleShelf$Library;", true)
  | 2 => ("ModuleShelf", "memory", "LModuleShelf$Memory;", true)
  | 3 => ("ModuleShelf", "machine", "LModuleShelf$Machine;", true)
  | 4 => ("ModuleShelf", "wrongPlace", "I", false)
  | _ => ("ModuleShelf", "lastValue", "I", false)
def xk_S : Nat → FieldType := fun k => match k with
  | 0 => .object "ModuleShelf$Code"
  | 1 => .object "ModuleShelf$Library"
  | 2 => .object "ModuleShelf$Memory"
  | 3 => .object "ModuleShelf$Machine"
  | 4 => .int
  | _ => .int
theorem xn_S : ∀ a, a < 6 → ∀ b, b < 6 → a ≠ b → (xt_S a).2.1 ≠ (xt_S b).2.1 := by decide +kernel
theorem xo_S : ∀ k, k < 6 → parseFieldDescriptor (xt_S k).2.2.1 = some (xk_S k) := by decide +kernel
def xr_R : String := "ModuleShelfModel"
def xt_R : u_T := fun k => match k with
  | 0 => ("ModuleShelfModel", "key", "[I", true)
  | 1 => ("ModuleShelfModel", "variables", "[I", true)
  | 2 => ("ModuleShelfModel", "procedures", "[I", true)
  | 3 => ("ModuleShelfModel", "arguments", "[I", true)
  | 4 => ("ModuleShelfModel", "size", "[I", true)
  | 5 => ("ModuleShelfModel", "op", "[I", true)
  | 6 => ("ModuleShelfModel", "a", "[I", true)
  | 7 => ("ModuleShelfModel", "b", "[I", true)
  | 8 => ("ModuleShelfModel", "imports", "[I", true)
  | 9 => ("ModuleShelfModel", "importOf", "[I", true)
  | 10 => ("ModuleShelfModel", "importKey", "[I", true)
  | 11 => ("ModuleShelfModel", "value", "[I", true)
  | 12 => ("ModuleShelfModel", "given", "I", false)
  | 13 => ("ModuleShelfModel", "place", "I", false)
  | 14 => ("ModuleShelfModel", "result", "I", false)
  | 15 => ("ModuleShelfModel", "steps", "I", false)
  | 16 => ("ModuleShelfModel", "loading", "[I", true)
  | 17 => ("ModuleShelfModel", "next", "[I", true)
  | 18 => ("ModuleShelfModel", "left", "[I", true)
  | 19 => ("ModuleShelfModel", "task", "[I", true)
  | 20 => ("ModuleShelfModel", "where", "[I", true)
  | 21 => ("ModuleShelfModel", "frame", "[I", true)
  | 22 => ("ModuleShelfModel", "tasks", "I", false)
  | 23 => ("ModuleShelfModel", "values", "[I", true)
  | 24 => ("ModuleShelfModel", "held", "I", false)
  | 25 => ("ModuleShelfModel", "frameModule", "[I", true)
  | 26 => ("ModuleShelfModel", "frameProcedure", "[I", true)
  | 27 => ("ModuleShelfModel", "frameX", "[I", true)
  | _ => ("ModuleShelfModel", "frameY", "[I", true)
def xk_R : Nat → FieldType := fun k => match k with
  | 0 => .array .int
  | 1 => .array .int
  | 2 => .array .int
  | 3 => .array .int
  | 4 => .array .int
  | 5 => .array .int
  | 6 => .array .int
  | 7 => .array .int
  | 8 => .array .int
  | 9 => .array .int
  | 10 => .array .int
  | 11 => .array .int
  | 12 => .int
  | 13 => .int
  | 14 => .int
  | 15 => .int
  | 16 => .array .int
  | 17 => .array .int
  | 18 => .array .int
  | 19 => .array .int
  | 20 => .array .int
  | 21 => .array .int
  | 22 => .int
  | 23 => .array .int
  | 24 => .int
  | 25 => .array .int
  | 26 => .array .int
  | 27 => .array .int
  | _ => .array .int
theorem xn_R : ∀ a, a < 29 → ∀ b, b < 29 → a ≠ b → (xt_R a).2.1 ≠ (xt_R b).2.1 := by decide +kernel
theorem xo_R : ∀ k, k < 29 → parseFieldDescriptor (xt_R k).2.2.1 = some (xk_R k) := by decide +kernel
abbrev vwCl : List vw_C := [(xr_C, xt_C, 7), (xr_F, xt_F, 5), (xr_I, xt_I, 2), (xr_L, xt_L, 3), (xr_N, xt_N, 3), (xr_M, xt_M, 2), (xr_U, xt_U, 6), (xr_S, xt_S, 6), (xr_R, xt_R, 29)]
set_option maxRecDepth 20000 in
theorem xi_C : ∀ w ∈ u_ws xr_C xt_C 7, w ∈ gw_l := by decide +kernel
set_option maxRecDepth 20000 in
theorem xi_F : ∀ w ∈ u_ws xr_F xt_F 5, w ∈ gw_l := by decide +kernel
set_option maxRecDepth 20000 in
theorem xi_I : ∀ w ∈ u_ws xr_I xt_I 2, w ∈ gw_l := by decide +kernel
set_option maxRecDepth 20000 in
theorem xi_L : ∀ w ∈ u_ws xr_L xt_L 3, w ∈ gw_l := by decide +kernel
set_option maxRecDepth 20000 in
theorem xi_N : ∀ w ∈ u_ws xr_N xt_N 3, w ∈ gw_l := by decide +kernel
set_option maxRecDepth 20000 in
theorem xi_M : ∀ w ∈ u_ws xr_M xt_M 2, w ∈ gw_l := by decide +kernel
set_option maxRecDepth 20000 in
theorem xi_U : ∀ w ∈ u_ws xr_U xt_U 6, w ∈ gw_l := by decide +kernel
set_option maxRecDepth 20000 in
theorem xi_S : ∀ w ∈ u_ws xr_S xt_S 6, w ∈ gw_l := by decide +kernel
set_option maxRecDepth 20000 in
theorem xi_R : ∀ w ∈ u_ws xr_R xt_R 29, w ∈ gw_l := by decide +kernel
abbrev xb_S_init : ByteArray := prog_1_method_1_code
def xy_S_init : MethodName := ⟨"ModuleShelf", "<init>", "()V"⟩
abbrev xw_S_init : Cond := .code xy_S_init xb_S_init 1 none
set_option maxRecDepth 20000 in
theorem xg_S_init : xw_S_init ∈ gw_l := gw_of 49 (by rfl) rfl
abbrev xb_C_init : ByteArray := prog_2_method_1_code
def xy_C_init : MethodName := ⟨"ModuleShelf$Code", "<init>", "()V"⟩
abbrev xw_C_init : Cond := .code xy_C_init xb_C_init 1 none
set_option maxRecDepth 20000 in
theorem xg_C_init : xw_C_init ∈ gw_l := gw_of 57 (by rfl) rfl
abbrev xb_L_init : ByteArray := prog_5_method_1_code
def xy_L_init : MethodName := ⟨"ModuleShelf$Library", "<init>", "()V"⟩
abbrev xw_L_init : Cond := .code xy_L_init xb_L_init 2 none
set_option maxRecDepth 20000 in
theorem xg_L_init : xw_L_init ∈ gw_l := gw_of 94 (by rfl) rfl
abbrev xb_U_init : ByteArray := prog_8_method_1_code
def xy_U_init : MethodName := ⟨"ModuleShelf$Unit", "<init>", "()V"⟩
abbrev xw_U_init : Cond := .code xy_U_init xb_U_init 1 none
set_option maxRecDepth 20000 in
theorem xg_U_init : xw_U_init ∈ gw_l := gw_of 101 (by rfl) rfl
abbrev xb_M_init : ByteArray := prog_7_method_1_code
def xy_M_init : MethodName := ⟨"ModuleShelf$Memory", "<init>", "()V"⟩
abbrev xw_M_init : Cond := .code xy_M_init xb_M_init 2 none
set_option maxRecDepth 20000 in
theorem xg_M_init : xw_M_init ∈ gw_l := gw_of 157 (by rfl) rfl
abbrev xb_I_init : ByteArray := prog_4_method_1_code
def xy_I_init : MethodName := ⟨"ModuleShelf$Image", "<init>", "()V"⟩
abbrev xw_I_init : Cond := .code xy_I_init xb_I_init 1 none
set_option maxRecDepth 20000 in
theorem xg_I_init : xw_I_init ∈ gw_l := gw_of 164 (by rfl) rfl
abbrev xb_N_init : ByteArray := prog_6_method_1_code
def xy_N_init : MethodName := ⟨"ModuleShelf$Machine", "<init>", "()V"⟩
abbrev xw_N_init : Cond := .code xy_N_init xb_N_init 2 none
set_option maxRecDepth 20000 in
theorem xg_N_init : xw_N_init ∈ gw_l := gw_of 193 (by rfl) rfl
abbrev xb_F_init : ByteArray := prog_3_method_1_code
def xy_F_init : MethodName := ⟨"ModuleShelf$Frame", "<init>", "()V"⟩
abbrev xw_F_init : Cond := .code xy_F_init xb_F_init 1 none
set_option maxRecDepth 20000 in
theorem xg_F_init : xw_F_init ∈ gw_l := gw_of 200 (by rfl) rfl
abbrev xb_S_begin : ByteArray := prog_1_method_2_code
def xy_S_begin : MethodName := ⟨"ModuleShelf", "begin", "(I)I"⟩
abbrev xw_S_begin : Cond := .code xy_S_begin xb_S_begin 2 (some .int)
set_option maxRecDepth 20000 in
theorem xg_S_begin : xw_S_begin ∈ gw_l := gw_of 257 (by rfl) rfl
abbrev xb_C_clear : ByteArray := prog_2_method_2_code
def xy_C_clear : MethodName := ⟨"ModuleShelf$Code", "clear", "(I)V"⟩
abbrev xw_C_clear : Cond := .code xy_C_clear xb_C_clear 2 none
set_option maxRecDepth 20000 in
theorem xg_C_clear : xw_C_clear ∈ gw_l := gw_of 261 (by rfl) rfl
abbrev xb_S_procedure : ByteArray := prog_1_method_3_code
def xy_S_procedure : MethodName := ⟨"ModuleShelf", "procedure", "(I)I"⟩
abbrev xw_S_procedure : Cond := .code xy_S_procedure xb_S_procedure 2 (some .int)
set_option maxRecDepth 20000 in
theorem xg_S_procedure : xw_S_procedure ∈ gw_l := gw_of 265 (by rfl) rfl
abbrev xb_C_addProcedure : ByteArray := prog_2_method_3_code
def xy_C_addProcedure : MethodName := ⟨"ModuleShelf$Code", "addProcedure", "(I)I"⟩
abbrev xw_C_addProcedure : Cond := .code xy_C_addProcedure xb_C_addProcedure 2 (some .int)
set_option maxRecDepth 20000 in
theorem xg_C_addProcedure : xw_C_addProcedure ∈ gw_l := gw_of 269 (by rfl) rfl
abbrev xb_S_token : ByteArray := prog_1_method_4_code
def xy_S_token : MethodName := ⟨"ModuleShelf", "token", "(III)I"⟩
abbrev xw_S_token : Cond := .code xy_S_token xb_S_token 4 (some .int)
set_option maxRecDepth 20000 in
theorem xg_S_token : xw_S_token ∈ gw_l := gw_of 273 (by rfl) rfl
abbrev xb_C_addToken : ByteArray := prog_2_method_4_code
def xy_C_addToken : MethodName := ⟨"ModuleShelf$Code", "addToken", "(III)I"⟩
abbrev xw_C_addToken : Cond := .code xy_C_addToken xb_C_addToken 6 (some .int)
set_option maxRecDepth 20000 in
theorem xg_C_addToken : xw_C_addToken ∈ gw_l := gw_of 277 (by rfl) rfl
abbrev xb_C_cellOf : ByteArray := prog_2_method_9_code
def xy_C_cellOf : MethodName := ⟨"ModuleShelf$Code", "cellOf", "(II)I"⟩
abbrev xw_C_cellOf : Cond := .code xy_C_cellOf xb_C_cellOf 3 (some .int)
set_option maxRecDepth 20000 in
theorem xg_C_cellOf : xw_C_cellOf ∈ gw_l := gw_of 281 (by rfl) rfl
abbrev xb_S_compile : ByteArray := prog_1_method_5_code
def xy_S_compile : MethodName := ⟨"ModuleShelf", "compile", "(I)I"⟩
abbrev xw_S_compile : Cond := .code xy_S_compile xb_S_compile 3 (some .int)
set_option maxRecDepth 20000 in
theorem xg_S_compile : xw_S_compile ∈ gw_l := gw_of 285 (by rfl) rfl
abbrev xb_S_isModule : ByteArray := prog_1_method_18_code
def xy_S_isModule : MethodName := ⟨"ModuleShelf", "isModule", "(I)Z"⟩
abbrev xw_S_isModule : Cond := .code xy_S_isModule xb_S_isModule 1 (some .boolean)
set_option maxRecDepth 20000 in
theorem xg_S_isModule : xw_S_isModule ∈ gw_l := gw_of 288 (by rfl) rfl
abbrev xb_L_firstWrong : ByteArray := prog_5_method_4_code
def xy_L_firstWrong : MethodName := ⟨"ModuleShelf$Library", "firstWrong", "(LModuleShelf$Code;I)I"⟩
abbrev xw_L_firstWrong : Cond := .code xy_L_firstWrong xb_L_firstWrong 4 (some .int)
set_option maxRecDepth 20000 in
theorem xg_L_firstWrong : xw_L_firstWrong ∈ gw_l := gw_of 292 (by rfl) rfl
abbrev xb_L_isExpression : ByteArray := prog_5_method_5_code
def xy_L_isExpression : MethodName := ⟨"ModuleShelf$Library", "isExpression", "(LModuleShelf$Code;III)Z"⟩
abbrev xw_L_isExpression : Cond := .code xy_L_isExpression xb_L_isExpression 8 (some .boolean)
set_option maxRecDepth 20000 in
theorem xg_L_isExpression : xw_L_isExpression ∈ gw_l := gw_of 296 (by rfl) rfl
abbrev xb_C_lengthOf : ByteArray := prog_2_method_8_code
def xy_C_lengthOf : MethodName := ⟨"ModuleShelf$Code", "lengthOf", "(I)I"⟩
abbrev xw_C_lengthOf : Cond := .code xy_C_lengthOf xb_C_lengthOf 2 (some .int)
set_option maxRecDepth 20000 in
theorem xg_C_lengthOf : xw_C_lengthOf ∈ gw_l := gw_of 300 (by rfl) rfl
abbrev xb_C_hasProcedure : ByteArray := prog_2_method_5_code
def xy_C_hasProcedure : MethodName := ⟨"ModuleShelf$Code", "hasProcedure", "(I)Z"⟩
abbrev xw_C_hasProcedure : Cond := .code xy_C_hasProcedure xb_C_hasProcedure 2 (some .boolean)
set_option maxRecDepth 20000 in
theorem xg_C_hasProcedure : xw_C_hasProcedure ∈ gw_l := gw_of 304 (by rfl) rfl
abbrev xb_L_isRight : ByteArray := prog_5_method_6_code
def xy_L_isRight : MethodName := ⟨"ModuleShelf$Library", "isRight", "(LModuleShelf$Code;III)Z"⟩
abbrev xw_L_isRight : Cond := .code xy_L_isRight xb_L_isRight 7 (some .boolean)
set_option maxRecDepth 20000 in
theorem xg_L_isRight : xw_L_isRight ∈ gw_l := gw_of 309 (by rfl) rfl
abbrev xb_C_argumentsOf : ByteArray := prog_2_method_7_code
def xy_C_argumentsOf : MethodName := ⟨"ModuleShelf$Code", "argumentsOf", "(I)I"⟩
abbrev xw_C_argumentsOf : Cond := .code xy_C_argumentsOf xb_C_argumentsOf 2 (some .int)
set_option maxRecDepth 20000 in
theorem xg_C_argumentsOf : xw_C_argumentsOf ∈ gw_l := gw_of 313 (by rfl) rfl
abbrev xb_C_hasVariable : ByteArray := prog_2_method_6_code
def xy_C_hasVariable : MethodName := ⟨"ModuleShelf$Code", "hasVariable", "(I)Z"⟩
abbrev xw_C_hasVariable : Cond := .code xy_C_hasVariable xb_C_hasVariable 2 (some .boolean)
set_option maxRecDepth 20000 in
theorem xg_C_hasVariable : xw_C_hasVariable ∈ gw_l := gw_of 317 (by rfl) rfl
abbrev xb_L_has : ByteArray := prog_5_method_2_code
def xy_L_has : MethodName := ⟨"ModuleShelf$Library", "has", "(I)Z"⟩
abbrev xw_L_has : Cond := .code xy_L_has xb_L_has 2 (some .boolean)
set_option maxRecDepth 20000 in
theorem xg_L_has : xw_L_has ∈ gw_l := gw_of 321 (by rfl) rfl
abbrev xb_L_argumentsOf : ByteArray := prog_5_method_8_code
def xy_L_argumentsOf : MethodName := ⟨"ModuleShelf$Library", "argumentsOf", "(LModuleShelf$Code;III)I"⟩
abbrev xw_L_argumentsOf : Cond := .code xy_L_argumentsOf xb_L_argumentsOf 5 (some .int)
set_option maxRecDepth 20000 in
theorem xg_L_argumentsOf : xw_L_argumentsOf ∈ gw_l := gw_of 326 (by rfl) rfl
abbrev xb_L_partsOf : ByteArray := prog_5_method_7_code
def xy_L_partsOf : MethodName := ⟨"ModuleShelf$Library", "partsOf", "(LModuleShelf$Code;II)I"⟩
abbrev xw_L_partsOf : Cond := .code xy_L_partsOf xb_L_partsOf 5 (some .int)
set_option maxRecDepth 20000 in
theorem xg_L_partsOf : xw_L_partsOf ∈ gw_l := gw_of 330 (by rfl) rfl
abbrev xb_L_keep : ByteArray := prog_5_method_9_code
def xy_L_keep : MethodName := ⟨"ModuleShelf$Library", "keep", "(LModuleShelf$Code;I)I"⟩
abbrev xw_L_keep : Cond := .code xy_L_keep xb_L_keep 4 (some .int)
set_option maxRecDepth 20000 in
theorem xg_L_keep : xw_L_keep ∈ gw_l := gw_of 336 (by rfl) rfl
abbrev xb_C_hasInterfaceOf : ByteArray := prog_2_method_11_code
def xy_C_hasInterfaceOf : MethodName := ⟨"ModuleShelf$Code", "hasInterfaceOf", "(LModuleShelf$Code;)Z"⟩
abbrev xw_C_hasInterfaceOf : Cond := .code xy_C_hasInterfaceOf xb_C_hasInterfaceOf 3 (some .boolean)
set_option maxRecDepth 20000 in
theorem xg_C_hasInterfaceOf : xw_C_hasInterfaceOf ∈ gw_l := gw_of 340 (by rfl) rfl
abbrev xb_C_copyFrom : ByteArray := prog_2_method_12_code
def xy_C_copyFrom : MethodName := ⟨"ModuleShelf$Code", "copyFrom", "(LModuleShelf$Code;)V"⟩
abbrev xw_C_copyFrom : Cond := .code xy_C_copyFrom xb_C_copyFrom 2 none
set_option maxRecDepth 20000 in
theorem xg_C_copyFrom : xw_C_copyFrom ∈ gw_l := gw_of 344 (by rfl) rfl
abbrev xb_L_gatherImports : ByteArray := prog_5_method_10_code
def xy_L_gatherImports : MethodName := ⟨"ModuleShelf$Library", "gatherImports", "(LModuleShelf$Unit;I)V"⟩
abbrev xw_L_gatherImports : Cond := .code xy_L_gatherImports xb_L_gatherImports 9 none
set_option maxRecDepth 20000 in
theorem xg_L_gatherImports : xw_L_gatherImports ∈ gw_l := gw_of 351 (by rfl) rfl
abbrev xb_U_addImport : ByteArray := prog_8_method_3_code
def xy_U_addImport : MethodName := ⟨"ModuleShelf$Unit", "addImport", "(II)V"⟩
abbrev xw_U_addImport : Cond := .code xy_U_addImport xb_U_addImport 3 none
set_option maxRecDepth 20000 in
theorem xg_U_addImport : xw_U_addImport ∈ gw_l := gw_of 355 (by rfl) rfl
abbrev xb_U_hasImport : ByteArray := prog_8_method_2_code
def xy_U_hasImport : MethodName := ⟨"ModuleShelf$Unit", "hasImport", "(I)Z"⟩
abbrev xw_U_hasImport : Cond := .code xy_U_hasImport xb_U_hasImport 3 (some .boolean)
set_option maxRecDepth 20000 in
theorem xg_U_hasImport : xw_U_hasImport ∈ gw_l := gw_of 359 (by rfl) rfl
abbrev xb_S_place : ByteArray := prog_1_method_6_code
def xy_S_place : MethodName := ⟨"ModuleShelf", "place", "()I"⟩
abbrev xw_S_place : Cond := .code xy_S_place xb_S_place 1 (some .int)
set_option maxRecDepth 20000 in
theorem xg_S_place : xw_S_place ∈ gw_l := gw_of 363 (by rfl) rfl
abbrev xb_S_remove : ByteArray := prog_1_method_7_code
def xy_S_remove : MethodName := ⟨"ModuleShelf", "remove", "(I)I"⟩
abbrev xw_S_remove : Cond := .code xy_S_remove xb_S_remove 2 (some .int)
set_option maxRecDepth 20000 in
theorem xg_S_remove : xw_S_remove ∈ gw_l := gw_of 367 (by rfl) rfl
abbrev xb_S_load : ByteArray := prog_1_method_8_code
def xy_S_load : MethodName := ⟨"ModuleShelf", "load", "(I)I"⟩
abbrev xw_S_load : Cond := .code xy_S_load xb_S_load 2 (some .int)
set_option maxRecDepth 20000 in
theorem xg_S_load : xw_S_load ∈ gw_l := gw_of 372 (by rfl) rfl
abbrev xb_M_bring : ByteArray := prog_7_method_9_code
def xy_M_bring : MethodName := ⟨"ModuleShelf$Memory", "bring", "(LModuleShelf$Library;I)I"⟩
abbrev xw_M_bring : Cond := .code xy_M_bring xb_M_bring 5 (some .int)
set_option maxRecDepth 20000 in
theorem xg_M_bring : xw_M_bring ∈ gw_l := gw_of 376 (by rfl) rfl
abbrev xb_M_held : ByteArray := prog_7_method_3_code
def xy_M_held : MethodName := ⟨"ModuleShelf$Memory", "held", "()I"⟩
abbrev xw_M_held : Cond := .code xy_M_held xb_M_held 3 (some .int)
set_option maxRecDepth 20000 in
theorem xg_M_held : xw_M_held ∈ gw_l := gw_of 380 (by rfl) rfl
abbrev xb_M_has : ByteArray := prog_7_method_2_code
def xy_M_has : MethodName := ⟨"ModuleShelf$Memory", "has", "(I)Z"⟩
abbrev xw_M_has : Cond := .code xy_M_has xb_M_has 2 (some .boolean)
set_option maxRecDepth 20000 in
theorem xg_M_has : xw_M_has ∈ gw_l := gw_of 384 (by rfl) rfl
abbrev xb_M_bringOne : ByteArray := prog_7_method_10_code
def xy_M_bringOne : MethodName := ⟨"ModuleShelf$Memory", "bringOne", "(LModuleShelf$Library;II)I"⟩
abbrev xw_M_bringOne : Cond := .code xy_M_bringOne xb_M_bringOne 7 (some .int)
set_option maxRecDepth 20000 in
theorem xg_M_bringOne : xw_M_bringOne ∈ gw_l := gw_of 389 (by rfl) rfl
abbrev xb_M_size : ByteArray := prog_7_method_4_code
def xy_M_size : MethodName := ⟨"ModuleShelf$Memory", "size", "()I"⟩
abbrev xw_M_size : Cond := .code xy_M_size xb_M_size 3 (some .int)
set_option maxRecDepth 20000 in
theorem xg_M_size : xw_M_size ∈ gw_l := gw_of 394 (by rfl) rfl
abbrev xb_C_size : ByteArray := prog_2_method_10_code
def xy_C_size : MethodName := ⟨"ModuleShelf$Code", "size", "()I"⟩
abbrev xw_C_size : Cond := .code xy_C_size xb_C_size 3 (some .int)
set_option maxRecDepth 20000 in
theorem xg_C_size : xw_C_size ∈ gw_l := gw_of 398 (by rfl) rfl
abbrev xb_I_fill : ByteArray := prog_4_method_2_code
def xy_I_fill : MethodName := ⟨"ModuleShelf$Image", "fill", "(LModuleShelf$Unit;)V"⟩
abbrev xw_I_fill : Cond := .code xy_I_fill xb_I_fill 2 none
set_option maxRecDepth 20000 in
theorem xg_I_fill : xw_I_fill ∈ gw_l := gw_of 402 (by rfl) rfl
abbrev xb_U_copyFrom : ByteArray := prog_8_method_4_code
def xy_U_copyFrom : MethodName := ⟨"ModuleShelf$Unit", "copyFrom", "(LModuleShelf$Unit;)V"⟩
abbrev xw_U_copyFrom : Cond := .code xy_U_copyFrom xb_U_copyFrom 2 none
set_option maxRecDepth 20000 in
theorem xg_U_copyFrom : xw_U_copyFrom ∈ gw_l := gw_of 406 (by rfl) rfl
abbrev xb_A_fill : ByteArray := prog_13_method_103_code
def xy_A_fill : MethodName := ⟨"java/util/Arrays", "fill", "([II)V"⟩
abbrev xw_A_fill : Cond := .code xy_A_fill xb_A_fill 4 none
set_option maxRecDepth 20000 in
theorem xg_A_fill : xw_A_fill ∈ gw_l := gw_of 411 (by rfl) rfl
abbrev xb_M_dropBegun : ByteArray := prog_7_method_11_code
def xy_M_dropBegun : MethodName := ⟨"ModuleShelf$Memory", "dropBegun", "()V"⟩
abbrev xw_M_dropBegun : Cond := .code xy_M_dropBegun xb_M_dropBegun 2 none
set_option maxRecDepth 20000 in
theorem xg_M_dropBegun : xw_M_dropBegun ∈ gw_l := gw_of 415 (by rfl) rfl
abbrev xb_S_unload : ByteArray := prog_1_method_9_code
def xy_S_unload : MethodName := ⟨"ModuleShelf", "unload", "(I)I"⟩
abbrev xw_S_unload : Cond := .code xy_S_unload xb_S_unload 2 (some .int)
set_option maxRecDepth 20000 in
theorem xg_S_unload : xw_S_unload ∈ gw_l := gw_of 419 (by rfl) rfl
abbrev xb_M_isImported : ByteArray := prog_7_method_5_code
def xy_M_isImported : MethodName := ⟨"ModuleShelf$Memory", "isImported", "(I)Z"⟩
abbrev xw_M_isImported : Cond := .code xy_M_isImported xb_M_isImported 3 (some .boolean)
set_option maxRecDepth 20000 in
theorem xg_M_isImported : xw_M_isImported ∈ gw_l := gw_of 424 (by rfl) rfl
abbrev xb_S_run : ByteArray := prog_1_method_10_code
def xy_S_run : MethodName := ⟨"ModuleShelf", "run", "(IIII)I"⟩
abbrev xw_S_run : Cond := .code xy_S_run xb_S_run 6 (some .int)
set_option maxRecDepth 20000 in
theorem xg_S_run : xw_S_run ∈ gw_l := gw_of 429 (by rfl) rfl
abbrev xb_M_argumentsOf : ByteArray := prog_7_method_6_code
def xy_M_argumentsOf : MethodName := ⟨"ModuleShelf$Memory", "argumentsOf", "(II)I"⟩
abbrev xw_M_argumentsOf : Cond := .code xy_M_argumentsOf xb_M_argumentsOf 3 (some .int)
set_option maxRecDepth 20000 in
theorem xg_M_argumentsOf : xw_M_argumentsOf ∈ gw_l := gw_of 433 (by rfl) rfl
abbrev xb_N_start : ByteArray := prog_6_method_2_code
def xy_N_start : MethodName := ⟨"ModuleShelf$Machine", "start", "(LModuleShelf$Memory;IIII)I"⟩
abbrev xw_N_start : Cond := .code xy_N_start xb_N_start 6 (some .int)
set_option maxRecDepth 20000 in
theorem xg_N_start : xw_N_start ∈ gw_l := gw_of 438 (by rfl) rfl
abbrev xb_F_open : ByteArray := prog_3_method_2_code
def xy_F_open : MethodName := ⟨"ModuleShelf$Frame", "open", "(IIII)V"⟩
abbrev xw_F_open : Cond := .code xy_F_open xb_F_open 5 none
set_option maxRecDepth 20000 in
theorem xg_F_open : xw_F_open ∈ gw_l := gw_of 442 (by rfl) rfl
abbrev xb_N_work : ByteArray := prog_6_method_3_code
def xy_N_work : MethodName := ⟨"ModuleShelf$Machine", "work", "(LModuleShelf$Memory;II)I"⟩
abbrev xw_N_work : Cond := .code xy_N_work xb_N_work 9 (some .int)
set_option maxRecDepth 20000 in
theorem xg_N_work : xw_N_work ∈ gw_l := gw_of 446 (by rfl) rfl
abbrev xb_N_fail : ByteArray := prog_6_method_10_code
def xy_N_fail : MethodName := ⟨"ModuleShelf$Machine", "fail", "(I)I"⟩
abbrev xw_N_fail : Cond := .code xy_N_fail xb_N_fail 2 (some .int)
set_option maxRecDepth 20000 in
theorem xg_N_fail : xw_N_fail ∈ gw_l := gw_of 451 (by rfl) rfl
abbrev xb_M_valueOf : ByteArray := prog_7_method_7_code
def xy_M_valueOf : MethodName := ⟨"ModuleShelf$Memory", "valueOf", "(II)I"⟩
abbrev xw_M_valueOf : Cond := .code xy_M_valueOf xb_M_valueOf 3 (some .int)
set_option maxRecDepth 20000 in
theorem xg_M_valueOf : xw_M_valueOf ∈ gw_l := gw_of 456 (by rfl) rfl
abbrev xb_N_assign : ByteArray := prog_6_method_4_code
def xy_N_assign : MethodName := ⟨"ModuleShelf$Machine", "assign", "(LModuleShelf$Memory;III)I"⟩
abbrev xw_N_assign : Cond := .code xy_N_assign xb_N_assign 6 (some .int)
set_option maxRecDepth 20000 in
theorem xg_N_assign : xw_N_assign ∈ gw_l := gw_of 461 (by rfl) rfl
abbrev xb_M_setValue : ByteArray := prog_7_method_8_code
def xy_M_setValue : MethodName := ⟨"ModuleShelf$Memory", "setValue", "(III)V"⟩
abbrev xw_M_setValue : Cond := .code xy_M_setValue xb_M_setValue 4 none
set_option maxRecDepth 20000 in
theorem xg_M_setValue : xw_M_setValue ∈ gw_l := gw_of 465 (by rfl) rfl
abbrev xb_N_choose : ByteArray := prog_6_method_5_code
def xy_N_choose : MethodName := ⟨"ModuleShelf$Machine", "choose", "(LModuleShelf$Memory;II)I"⟩
abbrev xw_N_choose : Cond := .code xy_N_choose xb_N_choose 6 (some .int)
set_option maxRecDepth 20000 in
theorem xg_N_choose : xw_N_choose ∈ gw_l := gw_of 469 (by rfl) rfl
abbrev xb_N_skip : ByteArray := prog_6_method_8_code
def xy_N_skip : MethodName := ⟨"ModuleShelf$Machine", "skip", "(LModuleShelf$Memory;LModuleShelf$Frame;)V"⟩
abbrev xw_N_skip : Cond := .code xy_N_skip xb_N_skip 6 none
set_option maxRecDepth 20000 in
theorem xg_N_skip : xw_N_skip ∈ gw_l := gw_of 473 (by rfl) rfl
abbrev xb_N_partsOf : ByteArray := prog_6_method_9_code
def xy_N_partsOf : MethodName := ⟨"ModuleShelf$Machine", "partsOf", "(LModuleShelf$Memory;LModuleShelf$Code;I)I"⟩
abbrev xw_N_partsOf : Cond := .code xy_N_partsOf xb_N_partsOf 5 (some .int)
set_option maxRecDepth 20000 in
theorem xg_N_partsOf : xw_N_partsOf ∈ gw_l := gw_of 477 (by rfl) rfl
abbrev xb_N_enter : ByteArray := prog_6_method_6_code
def xy_N_enter : MethodName := ⟨"ModuleShelf$Machine", "enter", "(LModuleShelf$Memory;IIII)I"⟩
abbrev xw_N_enter : Cond := .code xy_N_enter xb_N_enter 9 (some .int)
set_option maxRecDepth 20000 in
theorem xg_N_enter : xw_N_enter ∈ gw_l := gw_of 486 (by rfl) rfl
abbrev xb_N_combine : ByteArray := prog_6_method_7_code
def xy_N_combine : MethodName := ⟨"ModuleShelf$Machine", "combine", "(LModuleShelf$Memory;III)I"⟩
abbrev xw_N_combine : Cond := .code xy_N_combine xb_N_combine 7 (some .int)
set_option maxRecDepth 20000 in
theorem xg_N_combine : xw_N_combine ∈ gw_l := gw_of 490 (by rfl) rfl
abbrev xb_S_value : ByteArray := prog_1_method_11_code
def xy_S_value : MethodName := ⟨"ModuleShelf", "value", "()I"⟩
abbrev xw_S_value : Cond := .code xy_S_value xb_S_value 1 (some .int)
set_option maxRecDepth 20000 in
theorem xg_S_value : xw_S_value ∈ gw_l := gw_of 494 (by rfl) rfl
abbrev xb_S_steps : ByteArray := prog_1_method_12_code
def xy_S_steps : MethodName := ⟨"ModuleShelf", "steps", "()I"⟩
abbrev xw_S_steps : Cond := .code xy_S_steps xb_S_steps 1 (some .int)
set_option maxRecDepth 20000 in
theorem xg_S_steps : xw_S_steps ∈ gw_l := gw_of 498 (by rfl) rfl
abbrev xb_S_variable : ByteArray := prog_1_method_13_code
def xy_S_variable : MethodName := ⟨"ModuleShelf", "variable", "(II)I"⟩
abbrev xw_S_variable : Cond := .code xy_S_variable xb_S_variable 3 (some .int)
set_option maxRecDepth 20000 in
theorem xg_S_variable : xw_S_variable ∈ gw_l := gw_of 502 (by rfl) rfl
abbrev xb_S_key : ByteArray := prog_1_method_14_code
def xy_S_key : MethodName := ⟨"ModuleShelf", "key", "(I)I"⟩
abbrev xw_S_key : Cond := .code xy_S_key xb_S_key 2 (some .int)
set_option maxRecDepth 20000 in
theorem xg_S_key : xw_S_key ∈ gw_l := gw_of 507 (by rfl) rfl
abbrev xb_S_loaded : ByteArray := prog_1_method_15_code
def xy_S_loaded : MethodName := ⟨"ModuleShelf", "loaded", "(I)I"⟩
abbrev xw_S_loaded : Cond := .code xy_S_loaded xb_S_loaded 2 (some .int)
set_option maxRecDepth 20000 in
theorem xg_S_loaded : xw_S_loaded ∈ gw_l := gw_of 511 (by rfl) rfl
abbrev xb_S_imported : ByteArray := prog_1_method_16_code
def xy_S_imported : MethodName := ⟨"ModuleShelf", "imported", "(II)I"⟩
abbrev xw_S_imported : Cond := .code xy_S_imported xb_S_imported 4 (some .int)
set_option maxRecDepth 20000 in
theorem xg_S_imported : xw_S_imported ∈ gw_l := gw_of 515 (by rfl) rfl
abbrev xb_S_count : ByteArray := prog_1_method_17_code
def xy_S_count : MethodName := ⟨"ModuleShelf", "count", "(I)I"⟩
abbrev xw_S_count : Cond := .code xy_S_count xb_S_count 2 (some .int)
set_option maxRecDepth 20000 in
theorem xg_S_count : xw_S_count ∈ gw_l := gw_of 519 (by rfl) rfl
abbrev xb_L_held : ByteArray := prog_5_method_3_code
def xy_L_held : MethodName := ⟨"ModuleShelf$Library", "held", "()I"⟩
abbrev xw_L_held : Cond := .code xy_L_held xb_L_held 3 (some .int)
set_option maxRecDepth 20000 in
theorem xg_L_held : xw_L_held ∈ gw_l := gw_of 524 (by rfl) rfl
abbrev xb_R_init : ByteArray := prog_10_method_1_code
def xy_R_init : MethodName := ⟨"ModuleShelfModel", "<init>", "()V"⟩
abbrev xw_R_init : Cond := .code xy_R_init xb_R_init 1 none
set_option maxRecDepth 20000 in
theorem xg_R_init : xw_R_init ∈ gw_l := gw_of 531 (by rfl) rfl
abbrev xb_R_begin : ByteArray := prog_10_method_3_code
def xy_R_begin : MethodName := ⟨"ModuleShelfModel", "begin", "(I)I"⟩
abbrev xw_R_begin : Cond := .code xy_R_begin xb_R_begin 2 (some .int)
set_option maxRecDepth 20000 in
theorem xg_R_begin : xw_R_begin ∈ gw_l := gw_of 624 (by rfl) rfl
abbrev xb_R_in : ByteArray := prog_10_method_2_code
def xy_R_in : MethodName := ⟨"ModuleShelfModel", "in", "(III)Z"⟩
abbrev xw_R_in : Cond := .code xy_R_in xb_R_in 3 (some .boolean)
set_option maxRecDepth 20000 in
theorem xg_R_in : xw_R_in ∈ gw_l := gw_of 627 (by rfl) rfl
abbrev xb_R_procedure : ByteArray := prog_10_method_4_code
def xy_R_procedure : MethodName := ⟨"ModuleShelfModel", "procedure", "(I)I"⟩
abbrev xw_R_procedure : Cond := .code xy_R_procedure xb_R_procedure 3 (some .int)
set_option maxRecDepth 20000 in
theorem xg_R_procedure : xw_R_procedure ∈ gw_l := gw_of 631 (by rfl) rfl
abbrev xb_R_token : ByteArray := prog_10_method_5_code
def xy_R_token : MethodName := ⟨"ModuleShelfModel", "token", "(III)I"⟩
abbrev xw_R_token : Cond := .code xy_R_token xb_R_token 6 (some .int)
set_option maxRecDepth 20000 in
theorem xg_R_token : xw_R_token ∈ gw_l := gw_of 635 (by rfl) rfl
abbrev xb_R_compile : ByteArray := prog_10_method_12_code
def xy_R_compile : MethodName := ⟨"ModuleShelfModel", "compile", "(I)I"⟩
abbrev xw_R_compile : Cond := .code xy_R_compile xb_R_compile 4 (some .int)
set_option maxRecDepth 20000 in
theorem xg_R_compile : xw_R_compile ∈ gw_l := gw_of 639 (by rfl) rfl
abbrev xb_R_firstWrong : ByteArray := prog_10_method_8_code
def xy_R_firstWrong : MethodName := ⟨"ModuleShelfModel", "firstWrong", "(II)I"⟩
abbrev xw_R_firstWrong : Cond := .code xy_R_firstWrong xb_R_firstWrong 7 (some .int)
set_option maxRecDepth 20000 in
theorem xg_R_firstWrong : xw_R_firstWrong ∈ gw_l := gw_of 643 (by rfl) rfl
abbrev xb_R_partsOf : ByteArray := prog_10_method_7_code
def xy_R_partsOf : MethodName := ⟨"ModuleShelfModel", "partsOf", "(III)I"⟩
abbrev xw_R_partsOf : Cond := .code xy_R_partsOf xb_R_partsOf 6 (some .int)
set_option maxRecDepth 20000 in
theorem xg_R_partsOf : xw_R_partsOf ∈ gw_l := gw_of 647 (by rfl) rfl
abbrev xb_R_seen : ByteArray := prog_10_method_6_code
def xy_R_seen : MethodName := ⟨"ModuleShelfModel", "seen", "(II)I"⟩
abbrev xw_R_seen : Cond := .code xy_R_seen xb_R_seen 3 (some .int)
set_option maxRecDepth 20000 in
theorem xg_R_seen : xw_R_seen ∈ gw_l := gw_of 651 (by rfl) rfl
abbrev xb_R_findImports : ByteArray := prog_10_method_11_code
def xy_R_findImports : MethodName := ⟨"ModuleShelfModel", "findImports", "(I)V"⟩
abbrev xw_R_findImports : Cond := .code xy_R_findImports xb_R_findImports 7 none
set_option maxRecDepth 20000 in
theorem xg_R_findImports : xw_R_findImports ∈ gw_l := gw_of 655 (by rfl) rfl
abbrev xb_R_alike : ByteArray := prog_10_method_9_code
def xy_R_alike : MethodName := ⟨"ModuleShelfModel", "alike", "(I)Z"⟩
abbrev xw_R_alike : Cond := .code xy_R_alike xb_R_alike 3 (some .boolean)
set_option maxRecDepth 20000 in
theorem xg_R_alike : xw_R_alike ∈ gw_l := gw_of 659 (by rfl) rfl
abbrev xb_R_copy : ByteArray := prog_10_method_10_code
def xy_R_copy : MethodName := ⟨"ModuleShelfModel", "copy", "(II)V"⟩
abbrev xw_R_copy : Cond := .code xy_R_copy xb_R_copy 4 none
set_option maxRecDepth 20000 in
theorem xg_R_copy : xw_R_copy ∈ gw_l := gw_of 663 (by rfl) rfl
abbrev xb_R_place : ByteArray := prog_10_method_13_code
def xy_R_place : MethodName := ⟨"ModuleShelfModel", "place", "()I"⟩
abbrev xw_R_place : Cond := .code xy_R_place xb_R_place 1 (some .int)
set_option maxRecDepth 20000 in
theorem xg_R_place : xw_R_place ∈ gw_l := gw_of 667 (by rfl) rfl
abbrev xb_R_remove : ByteArray := prog_10_method_14_code
def xy_R_remove : MethodName := ⟨"ModuleShelfModel", "remove", "(I)I"⟩
abbrev xw_R_remove : Cond := .code xy_R_remove xb_R_remove 2 (some .int)
set_option maxRecDepth 20000 in
theorem xg_R_remove : xw_R_remove ∈ gw_l := gw_of 671 (by rfl) rfl
abbrev xb_R_load : ByteArray := prog_10_method_18_code
def xy_R_load : MethodName := ⟨"ModuleShelfModel", "load", "(I)I"⟩
abbrev xw_R_load : Cond := .code xy_R_load xb_R_load 9 (some .int)
set_option maxRecDepth 20000 in
theorem xg_R_load : xw_R_load ∈ gw_l := gw_of 675 (by rfl) rfl
abbrev xb_R_begins : ByteArray := prog_10_method_17_code
def xy_R_begins : MethodName := ⟨"ModuleShelfModel", "begins", "(II)I"⟩
abbrev xw_R_begins : Cond := .code xy_R_begins xb_R_begins 4 (some .int)
set_option maxRecDepth 20000 in
theorem xg_R_begins : xw_R_begins ∈ gw_l := gw_of 679 (by rfl) rfl
abbrev xb_R_cells : ByteArray := prog_10_method_15_code
def xy_R_cells : MethodName := ⟨"ModuleShelfModel", "cells", "(I)I"⟩
abbrev xw_R_cells : Cond := .code xy_R_cells xb_R_cells 4 (some .int)
set_option maxRecDepth 20000 in
theorem xg_R_cells : xw_R_cells ∈ gw_l := gw_of 683 (by rfl) rfl
abbrev xb_R_allCells : ByteArray := prog_10_method_16_code
def xy_R_allCells : MethodName := ⟨"ModuleShelfModel", "allCells", "()I"⟩
abbrev xw_R_allCells : Cond := .code xy_R_allCells xb_R_allCells 3 (some .int)
set_option maxRecDepth 20000 in
theorem xg_R_allCells : xw_R_allCells ∈ gw_l := gw_of 687 (by rfl) rfl
abbrev xb_R_unload : ByteArray := prog_10_method_19_code
def xy_R_unload : MethodName := ⟨"ModuleShelfModel", "unload", "(I)I"⟩
abbrev xw_R_unload : Cond := .code xy_R_unload xb_R_unload 4 (some .int)
set_option maxRecDepth 20000 in
theorem xg_R_unload : xw_R_unload ∈ gw_l := gw_of 691 (by rfl) rfl
abbrev xb_R_run : ByteArray := prog_10_method_25_code
def xy_R_run : MethodName := ⟨"ModuleShelfModel", "run", "(IIII)I"⟩
abbrev xw_R_run : Cond := .code xy_R_run xb_R_run 9 (some .int)
set_option maxRecDepth 20000 in
theorem xg_R_run : xw_R_run ∈ gw_l := gw_of 695 (by rfl) rfl
abbrev xb_R_enter : ByteArray := prog_10_method_26_code
def xy_R_enter : MethodName := ⟨"ModuleShelfModel", "enter", "(IIIII)V"⟩
abbrev xw_R_enter : Cond := .code xy_R_enter xb_R_enter 6 none
set_option maxRecDepth 20000 in
theorem xg_R_enter : xw_R_enter ∈ gw_l := gw_of 699 (by rfl) rfl
abbrev xb_R_push : ByteArray := prog_10_method_20_code
def xy_R_push : MethodName := ⟨"ModuleShelfModel", "push", "(III)V"⟩
abbrev xw_R_push : Cond := .code xy_R_push xb_R_push 4 none
set_option maxRecDepth 20000 in
theorem xg_R_push : xw_R_push ∈ gw_l := gw_of 703 (by rfl) rfl
abbrev xb_R_begin2 : ByteArray := prog_10_method_27_code
def xy_R_begin2 : MethodName := ⟨"ModuleShelfModel", "begin", "(II)V"⟩
abbrev xw_R_begin2 : Cond := .code xy_R_begin2 xb_R_begin2 5 none
set_option maxRecDepth 20000 in
theorem xg_R_begin2 : xw_R_begin2 ∈ gw_l := gw_of 707 (by rfl) rfl
abbrev xb_R_give : ByteArray := prog_10_method_21_code
def xy_R_give : MethodName := ⟨"ModuleShelfModel", "give", "(I)V"⟩
abbrev xw_R_give : Cond := .code xy_R_give xb_R_give 2 none
set_option maxRecDepth 20000 in
theorem xg_R_give : xw_R_give ∈ gw_l := gw_of 711 (by rfl) rfl
abbrev xb_R_end : ByteArray := prog_10_method_24_code
def xy_R_end : MethodName := ⟨"ModuleShelfModel", "end", "(I)I"⟩
abbrev xw_R_end : Cond := .code xy_R_end xb_R_end 4 (some .int)
set_option maxRecDepth 20000 in
theorem xg_R_end : xw_R_end ∈ gw_l := gw_of 715 (by rfl) rfl
abbrev xb_R_parts : ByteArray := prog_10_method_23_code
def xy_R_parts : MethodName := ⟨"ModuleShelfModel", "parts", "(I)I"⟩
abbrev xw_R_parts : Cond := .code xy_R_parts xb_R_parts 2 (some .int)
set_option maxRecDepth 20000 in
theorem xg_R_parts : xw_R_parts ∈ gw_l := gw_of 719 (by rfl) rfl
abbrev xb_R_use : ByteArray := prog_10_method_28_code
def xy_R_use : MethodName := ⟨"ModuleShelfModel", "use", "(II)I"⟩
abbrev xw_R_use : Cond := .code xy_R_use xb_R_use 7 (some .int)
set_option maxRecDepth 20000 in
theorem xg_R_use : xw_R_use ∈ gw_l := gw_of 723 (by rfl) rfl
abbrev xb_R_take : ByteArray := prog_10_method_22_code
def xy_R_take : MethodName := ⟨"ModuleShelfModel", "take", "()I"⟩
abbrev xw_R_take : Cond := .code xy_R_take xb_R_take 1 (some .int)
set_option maxRecDepth 20000 in
theorem xg_R_take : xw_R_take ∈ gw_l := gw_of 727 (by rfl) rfl
abbrev xb_R_quotient : ByteArray := prog_10_method_29_code
def xy_R_quotient : MethodName := ⟨"ModuleShelfModel", "quotient", "(II)I"⟩
abbrev xw_R_quotient : Cond := .code xy_R_quotient xb_R_quotient 2 (some .int)
set_option maxRecDepth 20000 in
theorem xg_R_quotient : xw_R_quotient ∈ gw_l := gw_of 730 (by rfl) rfl
abbrev xb_R_value : ByteArray := prog_10_method_30_code
def xy_R_value : MethodName := ⟨"ModuleShelfModel", "value", "()I"⟩
abbrev xw_R_value : Cond := .code xy_R_value xb_R_value 1 (some .int)
set_option maxRecDepth 20000 in
theorem xg_R_value : xw_R_value ∈ gw_l := gw_of 734 (by rfl) rfl
abbrev xb_R_steps : ByteArray := prog_10_method_31_code
def xy_R_steps : MethodName := ⟨"ModuleShelfModel", "steps", "()I"⟩
abbrev xw_R_steps : Cond := .code xy_R_steps xb_R_steps 1 (some .int)
set_option maxRecDepth 20000 in
theorem xg_R_steps : xw_R_steps ∈ gw_l := gw_of 738 (by rfl) rfl
abbrev xb_R_variable : ByteArray := prog_10_method_32_code
def xy_R_variable : MethodName := ⟨"ModuleShelfModel", "variable", "(II)I"⟩
abbrev xw_R_variable : Cond := .code xy_R_variable xb_R_variable 3 (some .int)
set_option maxRecDepth 20000 in
theorem xg_R_variable : xw_R_variable ∈ gw_l := gw_of 742 (by rfl) rfl
abbrev xb_R_key : ByteArray := prog_10_method_33_code
def xy_R_key : MethodName := ⟨"ModuleShelfModel", "key", "(I)I"⟩
abbrev xw_R_key : Cond := .code xy_R_key xb_R_key 2 (some .int)
set_option maxRecDepth 20000 in
theorem xg_R_key : xw_R_key ∈ gw_l := gw_of 746 (by rfl) rfl
abbrev xb_R_loaded : ByteArray := prog_10_method_34_code
def xy_R_loaded : MethodName := ⟨"ModuleShelfModel", "loaded", "(I)I"⟩
abbrev xw_R_loaded : Cond := .code xy_R_loaded xb_R_loaded 2 (some .int)
set_option maxRecDepth 20000 in
theorem xg_R_loaded : xw_R_loaded ∈ gw_l := gw_of 750 (by rfl) rfl
abbrev xb_R_imported : ByteArray := prog_10_method_35_code
def xy_R_imported : MethodName := ⟨"ModuleShelfModel", "imported", "(II)I"⟩
abbrev xw_R_imported : Cond := .code xy_R_imported xb_R_imported 3 (some .int)
set_option maxRecDepth 20000 in
theorem xg_R_imported : xw_R_imported ∈ gw_l := gw_of 754 (by rfl) rfl
abbrev xb_R_count : ByteArray := prog_10_method_36_code
def xy_R_count : MethodName := ⟨"ModuleShelfModel", "count", "(I)I"⟩
abbrev xw_R_count : Cond := .code xy_R_count xb_R_count 5 (some .int)
set_option maxRecDepth 20000 in
theorem xg_R_count : xw_R_count ∈ gw_l := gw_of 758 (by rfl) rfl
end
section
/-! The walk's judgement: a context κ (machine, entry state, own cells A), a world w of cells, the listed locals L, pc, operand stack S -/
abbrev aw_K : Type := Program × Launch × Env × Room × State × MethodId × Array Value × List Frame × Method × Code × (State → Prop) × va_G × (Nat → Prop) × Nat
def aw_J : aw_K → Nat → Nat → va_W → List (Nat × Value) → Nat → List Value → Prop
  | (p, l, e, R, s, m, args, below, meth, c, Q, D, A, nL), cells, slots, w, L, pc, S =>
    ∀ (H : Heap) (locs : List Loc) (ls : Array Slot), va_P D vwCl w H → va_D A w → va_S A s.heap H locs → lv_has ls nL L → W p l e R s m args below meth c H locs cells slots Q (F0 m pc ls S)
/-- what lies around: static arrays of ints outside of the world (their fields, addresses, lengths, values), and the words of the nest -/
abbrev aw_T : Type := List ((String × String) × Nat × Nat × (Nat → Int32)) × List Cond
def aw_Nt : Cond → Bool
  | .fieldLinkNest .. => true
  | .methodLinkNest .. => true
  | .arrayOver (.object _) => true
  | _ => false
def aw_Z (Zs : aw_T) (A : Nat → Prop) (U : State) : Prop := (∀ z ∈ Zs.1, va_Z z.1.1 z.1.2 "[I" (.ref z.2.1) A U U.heap ∧ va_T .int z.2.1 z.2.2.1 (fun j => .int (z.2.2.2 j)) A U U.heap) ∧ ∀ w ∈ Zs.2, aw_Nt w = true ∧ va_Nw w U
/-- a method's end: the answer, the world behind it, the frame -/
def aw_Q (D : va_G) (tys : List (ClassId × FieldType)) (A : Nat → Prop) (r : Option Value) (w : va_W) : Array Value → State → Outcome → State → Prop :=
  fun _ st oc t => oc = .returned r ∧ (va_P D vwCl w t.heap ∧ va_K D vwCl tys t ∧ va_D A w) ∧ va_F A st t
/-- a method's contract: from the world w0 with these arguments it answers r, and leaves the world w1; no cell is made -/
def aw_M (l : Launch) (D : va_G) (tys : List (ClassId × FieldType)) (Zs : aw_T) (y : MethodName) (ws : List Cond) (rm : Room) (as : List Value) (w0 : va_W) (r : Option Value) (w1 : va_W) : Prop :=
  ∀ sz : Nat, Met l y ws rm (va_Pc as (fun V => V.heap.size = sz ∧ va_P D vwCl w0 V.heap ∧ va_K D vwCl tys V ∧ va_D (fun _ => True) w0 ∧ aw_Z Zs (va_A w0 sz) V)) (aw_Q D tys (va_A w0 sz) r w1) 0 0 (va_A w0 sz)
/-- what holds in a method's body; E: what its end is -/
def aw_X0 (l9 : Launch) (D9 : va_G) (tys : List (ClassId × FieldType)) (Zs : aw_T) (rm : Room) (cc : ByteArray) (n9 : Nat) (own : String) (Ts : List Cond) (E : aw_K → Prop) : aw_K → Prop
  | (p, l, e, R, s, m, args, below, meth, c, Q, D, A, nL) => l = l9 ∧ D = D9 ∧ R = rm ∧ nL = n9 ∧ p.tables.exec = Jvm.exec ∧ c.code = cc ∧ c.maxLocals = n9 ∧ s.vm.findClass own = some m.cls ∧ (∀ w ∈ Ts, w.before args s = true) ∧ va_K D vwCl tys s ∧ (∀ q, s.heap.size ≤ q → A q) ∧ meth.locks = false ∧ aw_Z Zs A s ∧ E (p, l, e, R, s, m, args, below, meth, c, Q, D, A, nL)
def aw_E (tys : List (ClassId × FieldType)) (ret : Option FieldType) (r9 : Option Value) (w9 : va_W) : aw_K → Prop
  | (_, _, _, _, s, _, args, below, meth, _, Q, D, A, _) => meth.sig.returnType = ret ∧ Q = MQ below (aw_Q D tys A r9 w9) args s 0 0 A
abbrev aw_X (l9 : Launch) (D9 : va_G) (tys : List (ClassId × FieldType)) (Zs : aw_T) (rm : Room) (cc : ByteArray) (n9 : Nat) (own : String) (Ts : List Cond) (ret : Option FieldType) (r9 : Option Value) (w9 : va_W) : aw_K → Prop := aw_X0 l9 D9 tys Zs rm cc n9 own Ts (aw_E tys ret r9 w9)
theorem aw_intro {l : Launch} {D : va_G} {tys : List (ClassId × FieldType)} {Zs : aw_T} {y : MethodName} {ws ws' : List Cond} {rm : Room} {as : List Value} {w0 w1 : va_W} {r : Option Value} {cc : ByteArray} {n : Nat} {ret : Option FieldType}
    (own : String) (ho : y.cls = own) (hy : plainName y.cls = true) (hw : ws = Cond.code y cc n ret :: ws') (hn : (lg_sl as).length ≤ n)
    (body : ∀ κ : aw_K, aw_X l D tys Zs rm cc n own ws ret r w1 κ → aw_J κ 0 0 w0 (lv_args 0 as) 0 []) : aw_M l D tys Zs y ws rm as w0 r w1 := by
  intro sz
  refine Met.ofW (cc := cc) (maxL := n) (ret := ret) hy hw ?_
  intro p e s m args below meth c s₁ B hml hv
  obtain ⟨rfl, hsz, hP, hK, hD0, hZ⟩ := hv
  have hts := atoms_spec (ws := ws) B.pre
  subst hsz
  have hD := hD0.self (sz := s.heap.size)
  rw [lg_entry_eq]
  exact body (p, l, e, rm, s, m, as.toArray, below, meth, c, MQ below (aw_Q D tys (va_A w0 s.heap.size) r w1) as.toArray s 0 0 (va_A w0 s.heap.size), D, va_A w0 s.heap.size, n)
    ⟨rfl, rfl, rfl, rfl, B.exec, B.bytes, hml, ho ▸ findClass_of_methodNamed B.named, hts, hK, fun q h => Or.inr h, B.notSynchronized, hZ, B.returns, rfl⟩ s.heap [] _ hP hD va_S.rf (lv_entry as hn)
section AWR
variable {l : Launch} {D : va_G} {tys : List (ClassId × FieldType)} {Zs : aw_T} {rm : Room} {cc : ByteArray} {n : Nat} {own : String} {Ts : List Cond} {E : aw_K → Prop} {κ : aw_K}
variable {cells slots : Nat} {w : va_W} {L L' : List (Nat × Value)} {pc : Nat} {S : List Value}
theorem aw_iconst (C : aw_X0 l D tys Zs rm cc n own Ts E κ) {z : Int} {v : Int32} (hd : decode cc pc = .ok (.iconst z, 1)) (hv : Int32.ofInt z = v) (kk : aw_J κ cells slots (w) (L) (pc + 1) (.int v :: S)) : aw_J κ cells slots (w) (L) (pc) (S) := by
  obtain ⟨p, l0, e, R, s, m, args, below, meth, c, Q, D0, A, nL⟩ := κ
  obtain ⟨rfl, rfl, rfl, rfl, hx, hb, hml, hown, hts, hK, hA, hlk, hZ, hE⟩ := C
  intro H locs ls hP hD hS hl
  exact lv_iconst hx hb hd hv (kk H locs ls hP hD hS hl)
theorem aw_bipush (C : aw_X0 l D tys Zs rm cc n own Ts E κ) {z : Int} {v : Int32} (hd : decode cc pc = .ok (.bipush z, 2)) (hv : (Int8.ofInt z).toInt32 = v) (kk : aw_J κ cells slots (w) (L) (pc + 2) (.int v :: S)) : aw_J κ cells slots (w) (L) (pc) (S) := by
  obtain ⟨p, l0, e, R, s, m, args, below, meth, c, Q, D0, A, nL⟩ := κ
  obtain ⟨rfl, rfl, rfl, rfl, hx, hb, hml, hown, hts, hK, hA, hlk, hZ, hE⟩ := C
  intro H locs ls hP hD hS hl
  exact lv_bipush hx hb hd hv (kk H locs ls hP hD hS hl)
theorem aw_sipush (C : aw_X0 l D tys Zs rm cc n own Ts E κ) {z : Int} {v : Int32} (hd : decode cc pc = .ok (.sipush z, 3)) (hv : (Int16.ofInt z).toInt32 = v) (kk : aw_J κ cells slots (w) (L) (pc + 3) (.int v :: S)) : aw_J κ cells slots (w) (L) (pc) (S) := by
  obtain ⟨p, l0, e, R, s, m, args, below, meth, c, Q, D0, A, nL⟩ := κ
  obtain ⟨rfl, rfl, rfl, rfl, hx, hb, hml, hown, hts, hK, hA, hlk, hZ, hE⟩ := C
  intro H locs ls hP hD hS hl
  exact lv_sipush hx hb hd hv (kk H locs ls hP hD hS hl)
theorem aw_iload_n (C : aw_X0 l D tys Zs rm cc n own Ts E κ) {k : Fin 4} {i : Nat} {x : Int32} (j : Nat) (hd : decode cc pc = .ok (.iload_n k, 1)) (hi : (k : Nat) = i) (hj : L[j]? = some (i, .int x)) (kk : aw_J κ cells slots (w) (L) (pc + 1) (.int x :: S)) : aw_J κ cells slots (w) (L) (pc) (S) := by
  obtain ⟨p, l0, e, R, s, m, args, below, meth, c, Q, D0, A, nL⟩ := κ
  obtain ⟨rfl, rfl, rfl, rfl, hx, hb, hml, hown, hts, hK, hA, hlk, hZ, hE⟩ := C
  intro H locs ls hP hD hS hl
  exact lv_iload_n hx hb hd hi (lv_at hl j hj) (kk H locs ls hP hD hS hl)
theorem aw_iload (C : aw_X0 l D tys Zs rm cc n own Ts E κ) {i : Nat} {x : Int32} (j : Nat) (hd : decode cc pc = .ok (.iload i, 2)) (hj : L[j]? = some (i, .int x)) (kk : aw_J κ cells slots (w) (L) (pc + 2) (.int x :: S)) : aw_J κ cells slots (w) (L) (pc) (S) := by
  obtain ⟨p, l0, e, R, s, m, args, below, meth, c, Q, D0, A, nL⟩ := κ
  obtain ⟨rfl, rfl, rfl, rfl, hx, hb, hml, hown, hts, hK, hA, hlk, hZ, hE⟩ := C
  intro H locs ls hP hD hS hl
  exact lv_iload hx hb hd (lv_at hl j hj) (kk H locs ls hP hD hS hl)
theorem aw_aload_n (C : aw_X0 l D tys Zs rm cc n own Ts E κ) {k : Fin 4} {i x : Nat} (j : Nat) (hd : decode cc pc = .ok (.aload_n k, 1)) (hi : (k : Nat) = i) (hj : L[j]? = some (i, .ref x)) (kk : aw_J κ cells slots (w) (L) (pc + 1) (.ref x :: S)) : aw_J κ cells slots (w) (L) (pc) (S) := by
  obtain ⟨p, l0, e, R, s, m, args, below, meth, c, Q, D0, A, nL⟩ := κ
  obtain ⟨rfl, rfl, rfl, rfl, hx, hb, hml, hown, hts, hK, hA, hlk, hZ, hE⟩ := C
  intro H locs ls hP hD hS hl
  exact lv_aload_n hx hb hd hi (lv_at hl j hj) (kk H locs ls hP hD hS hl)
theorem aw_aload (C : aw_X0 l D tys Zs rm cc n own Ts E κ) {i x : Nat} (j : Nat) (hd : decode cc pc = .ok (.aload i, 2)) (hj : L[j]? = some (i, .ref x)) (kk : aw_J κ cells slots (w) (L) (pc + 2) (.ref x :: S)) : aw_J κ cells slots (w) (L) (pc) (S) := by
  obtain ⟨p, l0, e, R, s, m, args, below, meth, c, Q, D0, A, nL⟩ := κ
  obtain ⟨rfl, rfl, rfl, rfl, hx, hb, hml, hown, hts, hK, hA, hlk, hZ, hE⟩ := C
  intro H locs ls hP hD hS hl
  exact lv_aload hx hb hd (lv_at hl j hj) (kk H locs ls hP hD hS hl)
theorem aw_iadd (C : aw_X0 l D tys Zs rm cc n own Ts E κ) {x y : Int32} (hd : decode cc pc = .ok (.iadd, 1))  (kk : aw_J κ cells slots (w) (L) (pc + 1) (.int (x + y) :: S)) : aw_J κ cells slots (w) (L) (pc) (.int y :: .int x :: S) := by
  obtain ⟨p, l0, e, R, s, m, args, below, meth, c, Q, D0, A, nL⟩ := κ
  obtain ⟨rfl, rfl, rfl, rfl, hx, hb, hml, hown, hts, hK, hA, hlk, hZ, hE⟩ := C
  intro H locs ls hP hD hS hl
  exact lv_iadd hx hb hd  (kk H locs ls hP hD hS hl)
theorem aw_isub (C : aw_X0 l D tys Zs rm cc n own Ts E κ) {x y : Int32} (hd : decode cc pc = .ok (.isub, 1))  (kk : aw_J κ cells slots (w) (L) (pc + 1) (.int (x - y) :: S)) : aw_J κ cells slots (w) (L) (pc) (.int y :: .int x :: S) := by
  obtain ⟨p, l0, e, R, s, m, args, below, meth, c, Q, D0, A, nL⟩ := κ
  obtain ⟨rfl, rfl, rfl, rfl, hx, hb, hml, hown, hts, hK, hA, hlk, hZ, hE⟩ := C
  intro H locs ls hP hD hS hl
  exact lv_isub hx hb hd  (kk H locs ls hP hD hS hl)
theorem aw_imul (C : aw_X0 l D tys Zs rm cc n own Ts E κ) {x y : Int32} (hd : decode cc pc = .ok (.imul, 1))  (kk : aw_J κ cells slots (w) (L) (pc + 1) (.int (x * y) :: S)) : aw_J κ cells slots (w) (L) (pc) (.int y :: .int x :: S) := by
  obtain ⟨p, l0, e, R, s, m, args, below, meth, c, Q, D0, A, nL⟩ := κ
  obtain ⟨rfl, rfl, rfl, rfl, hx, hb, hml, hown, hts, hK, hA, hlk, hZ, hE⟩ := C
  intro H locs ls hP hD hS hl
  exact lv_imul hx hb hd  (kk H locs ls hP hD hS hl)
theorem aw_iand (C : aw_X0 l D tys Zs rm cc n own Ts E κ) {x y : Int32} (hd : decode cc pc = .ok (.iand, 1))  (kk : aw_J κ cells slots (w) (L) (pc + 1) (.int (x &&& y) :: S)) : aw_J κ cells slots (w) (L) (pc) (.int y :: .int x :: S) := by
  obtain ⟨p, l0, e, R, s, m, args, below, meth, c, Q, D0, A, nL⟩ := κ
  obtain ⟨rfl, rfl, rfl, rfl, hx, hb, hml, hown, hts, hK, hA, hlk, hZ, hE⟩ := C
  intro H locs ls hP hD hS hl
  exact lv_iand hx hb hd  (kk H locs ls hP hD hS hl)
theorem aw_ior (C : aw_X0 l D tys Zs rm cc n own Ts E κ) {x y : Int32} (hd : decode cc pc = .ok (.ior, 1))  (kk : aw_J κ cells slots (w) (L) (pc + 1) (.int (x ||| y) :: S)) : aw_J κ cells slots (w) (L) (pc) (.int y :: .int x :: S) := by
  obtain ⟨p, l0, e, R, s, m, args, below, meth, c, Q, D0, A, nL⟩ := κ
  obtain ⟨rfl, rfl, rfl, rfl, hx, hb, hml, hown, hts, hK, hA, hlk, hZ, hE⟩ := C
  intro H locs ls hP hD hS hl
  exact lv_ior hx hb hd  (kk H locs ls hP hD hS hl)
theorem aw_ixor (C : aw_X0 l D tys Zs rm cc n own Ts E κ) {x y : Int32} (hd : decode cc pc = .ok (.ixor, 1))  (kk : aw_J κ cells slots (w) (L) (pc + 1) (.int (x ^^^ y) :: S)) : aw_J κ cells slots (w) (L) (pc) (.int y :: .int x :: S) := by
  obtain ⟨p, l0, e, R, s, m, args, below, meth, c, Q, D0, A, nL⟩ := κ
  obtain ⟨rfl, rfl, rfl, rfl, hx, hb, hml, hown, hts, hK, hA, hlk, hZ, hE⟩ := C
  intro H locs ls hP hD hS hl
  exact lv_ixor hx hb hd  (kk H locs ls hP hD hS hl)
theorem aw_ineg (C : aw_X0 l D tys Zs rm cc n own Ts E κ) {x : Int32} (hd : decode cc pc = .ok (.ineg, 1))  (kk : aw_J κ cells slots (w) (L) (pc + 1) (.int (-x) :: S)) : aw_J κ cells slots (w) (L) (pc) (.int x :: S) := by
  obtain ⟨p, l0, e, R, s, m, args, below, meth, c, Q, D0, A, nL⟩ := κ
  obtain ⟨rfl, rfl, rfl, rfl, hx, hb, hml, hown, hts, hK, hA, hlk, hZ, hE⟩ := C
  intro H locs ls hP hD hS hl
  exact lv_ineg hx hb hd  (kk H locs ls hP hD hS hl)
theorem aw_idiv (C : aw_X0 l D tys Zs rm cc n own Ts E κ) {x y : Int32} (hd : decode cc pc = .ok (.idiv, 1)) (hne : ¬ y = 0) (kk : aw_J κ cells slots (w) (L) (pc + 1) (.int (x / y) :: S)) : aw_J κ cells slots (w) (L) (pc) (.int y :: .int x :: S) := by
  obtain ⟨p, l0, e, R, s, m, args, below, meth, c, Q, D0, A, nL⟩ := κ
  obtain ⟨rfl, rfl, rfl, rfl, hx, hb, hml, hown, hts, hK, hA, hlk, hZ, hE⟩ := C
  intro H locs ls hP hD hS hl
  exact lv_idiv hx hb hd hne (kk H locs ls hP hD hS hl)
theorem aw_ishl (C : aw_X0 l D tys Zs rm cc n own Ts E κ) {x y : Int32} (hd : decode cc pc = .ok (.ishl, 1))  (kk : aw_J κ cells slots (w) (L) (pc + 1) (.int (x <<< (y &&& 31)) :: S)) : aw_J κ cells slots (w) (L) (pc) (.int y :: .int x :: S) := by
  obtain ⟨p, l0, e, R, s, m, args, below, meth, c, Q, D0, A, nL⟩ := κ
  obtain ⟨rfl, rfl, rfl, rfl, hx, hb, hml, hown, hts, hK, hA, hlk, hZ, hE⟩ := C
  intro H locs ls hP hD hS hl
  exact lv_ishl hx hb hd  (kk H locs ls hP hD hS hl)
theorem aw_ishr (C : aw_X0 l D tys Zs rm cc n own Ts E κ) {x y : Int32} (hd : decode cc pc = .ok (.ishr, 1))  (kk : aw_J κ cells slots (w) (L) (pc + 1) (.int (x >>> (y &&& 31)) :: S)) : aw_J κ cells slots (w) (L) (pc) (.int y :: .int x :: S) := by
  obtain ⟨p, l0, e, R, s, m, args, below, meth, c, Q, D0, A, nL⟩ := κ
  obtain ⟨rfl, rfl, rfl, rfl, hx, hb, hml, hown, hts, hK, hA, hlk, hZ, hE⟩ := C
  intro H locs ls hP hD hS hl
  exact lv_ishr hx hb hd  (kk H locs ls hP hD hS hl)
theorem aw_dup (C : aw_X0 l D tys Zs rm cc n own Ts E κ) {a : Value} (hd : decode cc pc = .ok (.dup, 1)) (ha : a.category = 1) (kk : aw_J κ cells slots (w) (L) (pc + 1) (a :: a :: S)) : aw_J κ cells slots (w) (L) (pc) (a :: S) := by
  obtain ⟨p, l0, e, R, s, m, args, below, meth, c, Q, D0, A, nL⟩ := κ
  obtain ⟨rfl, rfl, rfl, rfl, hx, hb, hml, hown, hts, hK, hA, hlk, hZ, hE⟩ := C
  intro H locs ls hP hD hS hl
  exact lv_dup hx hb hd ha (kk H locs ls hP hD hS hl)
theorem aw_pop (C : aw_X0 l D tys Zs rm cc n own Ts E κ) {a : Value} (hd : decode cc pc = .ok (.pop, 1)) (ha : a.category = 1) (kk : aw_J κ cells slots (w) (L) (pc + 1) (S)) : aw_J κ cells slots (w) (L) (pc) (a :: S) := by
  obtain ⟨p, l0, e, R, s, m, args, below, meth, c, Q, D0, A, nL⟩ := κ
  obtain ⟨rfl, rfl, rfl, rfl, hx, hb, hml, hown, hts, hK, hA, hlk, hZ, hE⟩ := C
  intro H locs ls hP hD hS hl
  exact lv_pop hx hb hd ha (kk H locs ls hP hD hS hl)
theorem aw_dup_x1 (C : aw_X0 l D tys Zs rm cc n own Ts E κ) {a b : Value} (hd : decode cc pc = .ok (.dup_x1, 1)) (ha : a.category = 1) (hb2 : b.category = 1) (kk : aw_J κ cells slots (w) (L) (pc + 1) (a :: b :: a :: S)) : aw_J κ cells slots (w) (L) (pc) (a :: b :: S) := by
  obtain ⟨p, l0, e, R, s, m, args, below, meth, c, Q, D0, A, nL⟩ := κ
  obtain ⟨rfl, rfl, rfl, rfl, hx, hb, hml, hown, hts, hK, hA, hlk, hZ, hE⟩ := C
  intro H locs ls hP hD hS hl
  exact lv_dup_x1 hx hb hd ha hb2 (kk H locs ls hP hD hS hl)
theorem aw_dup_x2 (C : aw_X0 l D tys Zs rm cc n own Ts E κ) {a b d : Value} (hd : decode cc pc = .ok (.dup_x2, 1)) (ha : a.category = 1) (hb2 : b.category = 1) (hd2 : d.category = 1) (kk : aw_J κ cells slots (w) (L) (pc + 1) (a :: b :: d :: a :: S)) : aw_J κ cells slots (w) (L) (pc) (a :: b :: d :: S) := by
  obtain ⟨p, l0, e, R, s, m, args, below, meth, c, Q, D0, A, nL⟩ := κ
  obtain ⟨rfl, rfl, rfl, rfl, hx, hb, hml, hown, hts, hK, hA, hlk, hZ, hE⟩ := C
  intro H locs ls hP hD hS hl
  exact lv_dup_x2 hx hb hd ha hb2 hd2 (kk H locs ls hP hD hS hl)
theorem aw_dup2 (C : aw_X0 l D tys Zs rm cc n own Ts E κ) {a b : Value} (hd : decode cc pc = .ok (.dup2, 1)) (ha : a.category = 1) (hb2 : b.category = 1) (kk : aw_J κ cells slots (w) (L) (pc + 1) (a :: b :: a :: b :: S)) : aw_J κ cells slots (w) (L) (pc) (a :: b :: S) := by
  obtain ⟨p, l0, e, R, s, m, args, below, meth, c, Q, D0, A, nL⟩ := κ
  obtain ⟨rfl, rfl, rfl, rfl, hx, hb, hml, hown, hts, hK, hA, hlk, hZ, hE⟩ := C
  intro H locs ls hP hD hS hl
  exact lv_dup2_11 hx hb hd ha hb2 (kk H locs ls hP hD hS hl)
theorem aw_istore_n (C : aw_X0 l D tys Zs rm cc n own Ts E κ) {k : Fin 4} {i : Nat} {x : Int32} (hd : decode cc pc = .ok (.istore_n k, 1)) (hi : (k : Nat) = i) (hn : i < n) (hl' : (i, Value.int x) :: L.filter (fun q => !(q.1 == i) && !(q.1 + 1 == i && q.2.category == 2)) = L') (kk : aw_J κ cells slots (w) (L') (pc + 1) (S)) : aw_J κ cells slots (w) (L) (pc) (Value.int x :: S) := by
  obtain ⟨p, l0, e, R, s, m, args, below, meth, c, Q, D0, A, nL⟩ := κ
  obtain ⟨rfl, rfl, rfl, rfl, hx, hb, hml, hown, hts, hK, hA, hlk, hZ, hE⟩ := C
  intro H locs ls hP hD hS hl
  exact lv_istore_n hx hb hd hi hl hn hl' (fun ls hl => kk H locs ls hP hD hS hl)
theorem aw_istore (C : aw_X0 l D tys Zs rm cc n own Ts E κ) {i : Nat} {x : Int32} (hd : decode cc pc = .ok (.istore i, 2))  (hn : i < n) (hl' : (i, Value.int x) :: L.filter (fun q => !(q.1 == i) && !(q.1 + 1 == i && q.2.category == 2)) = L') (kk : aw_J κ cells slots (w) (L') (pc + 2) (S)) : aw_J κ cells slots (w) (L) (pc) (Value.int x :: S) := by
  obtain ⟨p, l0, e, R, s, m, args, below, meth, c, Q, D0, A, nL⟩ := κ
  obtain ⟨rfl, rfl, rfl, rfl, hx, hb, hml, hown, hts, hK, hA, hlk, hZ, hE⟩ := C
  intro H locs ls hP hD hS hl
  exact lv_istore hx hb hd hl hn hl' (fun ls hl => kk H locs ls hP hD hS hl)
theorem aw_astore_n (C : aw_X0 l D tys Zs rm cc n own Ts E κ) {k : Fin 4} {i x : Nat} (hd : decode cc pc = .ok (.astore_n k, 1)) (hi : (k : Nat) = i) (hn : i < n) (hl' : (i, Value.ref x) :: L.filter (fun q => !(q.1 == i) && !(q.1 + 1 == i && q.2.category == 2)) = L') (kk : aw_J κ cells slots (w) (L') (pc + 1) (S)) : aw_J κ cells slots (w) (L) (pc) (Value.ref x :: S) := by
  obtain ⟨p, l0, e, R, s, m, args, below, meth, c, Q, D0, A, nL⟩ := κ
  obtain ⟨rfl, rfl, rfl, rfl, hx, hb, hml, hown, hts, hK, hA, hlk, hZ, hE⟩ := C
  intro H locs ls hP hD hS hl
  exact lv_astore_n hx hb hd hi hl hn hl' (fun ls hl => kk H locs ls hP hD hS hl)
theorem aw_astore (C : aw_X0 l D tys Zs rm cc n own Ts E κ) {i x : Nat} (hd : decode cc pc = .ok (.astore i, 2))  (hn : i < n) (hl' : (i, Value.ref x) :: L.filter (fun q => !(q.1 == i) && !(q.1 + 1 == i && q.2.category == 2)) = L') (kk : aw_J κ cells slots (w) (L') (pc + 2) (S)) : aw_J κ cells slots (w) (L) (pc) (Value.ref x :: S) := by
  obtain ⟨p, l0, e, R, s, m, args, below, meth, c, Q, D0, A, nL⟩ := κ
  obtain ⟨rfl, rfl, rfl, rfl, hx, hb, hml, hown, hts, hK, hA, hlk, hZ, hE⟩ := C
  intro H locs ls hP hD hS hl
  exact lv_astore hx hb hd hl hn hl' (fun ls hl => kk H locs ls hP hD hS hl)
theorem aw_iinc (C : aw_X0 l D tys Zs rm cc n own Ts E κ) {i j : Nat} {z : Int} {x v : Int32} (hd : decode cc pc = .ok (.iinc i z, 3)) (hj : L[j]? = some (i, .int x)) (hv : x + Int32.ofInt z = v) (hn : i < n) (hl' : (i, Value.int v) :: L.filter (fun q => !(q.1 == i) && !(q.1 + 1 == i && q.2.category == 2)) = L') (kk : aw_J κ cells slots (w) (L') (pc + 3) (S)) : aw_J κ cells slots (w) (L) (pc) (S) := by
  obtain ⟨p, l0, e, R, s, m, args, below, meth, c, Q, D0, A, nL⟩ := κ
  obtain ⟨rfl, rfl, rfl, rfl, hx, hb, hml, hown, hts, hK, hA, hlk, hZ, hE⟩ := C
  intro H locs ls hP hD hS hl
  exact lv_iinc hx hb hd hl hj hv hn hl' (fun ls hl => kk H locs ls hP hD hS hl)
theorem aw_if_eq (C : aw_X0 l D tys Zs rm cc n own Ts E κ) {x : Int32} {off : Int} {tgt : Nat} (hd : decode cc pc = .ok (.ifCond .eq off, 3)) (ht : (pc : Int) + off = (tgt : Int)) (kt : x = 0 → aw_J κ cells slots (w) (L) (tgt) (S)) (kf : ¬ x = 0 → aw_J κ cells slots (w) (L) (pc + 3) (S)) : aw_J κ cells slots (w) (L) (pc) (.int x :: S) := by
  obtain ⟨p, l0, e, R, s, m, args, below, meth, c, Q, D0, A, nL⟩ := κ
  obtain ⟨rfl, rfl, rfl, rfl, hx, hb, hml, hown, hts, hK, hA, hlk, hZ, hE⟩ := C
  intro H locs ls hP hD hS hl
  exact lv_if_eq hx hb hd ht (fun h => kt h H locs ls hP hD hS hl) (fun h => kf h H locs ls hP hD hS hl)
theorem aw_icmp_eq (C : aw_X0 l D tys Zs rm cc n own Ts E κ) {x y : Int32} {off : Int} {tgt : Nat} (hd : decode cc pc = .ok (.if_icmp .eq off, 3)) (ht : (pc : Int) + off = (tgt : Int)) (kt : x = y → aw_J κ cells slots (w) (L) (tgt) (S)) (kf : ¬ x = y → aw_J κ cells slots (w) (L) (pc + 3) (S)) : aw_J κ cells slots (w) (L) (pc) (.int y :: .int x :: S) := by
  obtain ⟨p, l0, e, R, s, m, args, below, meth, c, Q, D0, A, nL⟩ := κ
  obtain ⟨rfl, rfl, rfl, rfl, hx, hb, hml, hown, hts, hK, hA, hlk, hZ, hE⟩ := C
  intro H locs ls hP hD hS hl
  exact lv_icmp_eq hx hb hd ht (fun h => kt h H locs ls hP hD hS hl) (fun h => kf h H locs ls hP hD hS hl)
theorem aw_if_ne (C : aw_X0 l D tys Zs rm cc n own Ts E κ) {x : Int32} {off : Int} {tgt : Nat} (hd : decode cc pc = .ok (.ifCond .ne off, 3)) (ht : (pc : Int) + off = (tgt : Int)) (kt : ¬ x = 0 → aw_J κ cells slots (w) (L) (tgt) (S)) (kf : x = 0 → aw_J κ cells slots (w) (L) (pc + 3) (S)) : aw_J κ cells slots (w) (L) (pc) (.int x :: S) := by
  obtain ⟨p, l0, e, R, s, m, args, below, meth, c, Q, D0, A, nL⟩ := κ
  obtain ⟨rfl, rfl, rfl, rfl, hx, hb, hml, hown, hts, hK, hA, hlk, hZ, hE⟩ := C
  intro H locs ls hP hD hS hl
  exact lv_if_ne hx hb hd ht (fun h => kt h H locs ls hP hD hS hl) (fun h => kf h H locs ls hP hD hS hl)
theorem aw_icmp_ne (C : aw_X0 l D tys Zs rm cc n own Ts E κ) {x y : Int32} {off : Int} {tgt : Nat} (hd : decode cc pc = .ok (.if_icmp .ne off, 3)) (ht : (pc : Int) + off = (tgt : Int)) (kt : ¬ x = y → aw_J κ cells slots (w) (L) (tgt) (S)) (kf : x = y → aw_J κ cells slots (w) (L) (pc + 3) (S)) : aw_J κ cells slots (w) (L) (pc) (.int y :: .int x :: S) := by
  obtain ⟨p, l0, e, R, s, m, args, below, meth, c, Q, D0, A, nL⟩ := κ
  obtain ⟨rfl, rfl, rfl, rfl, hx, hb, hml, hown, hts, hK, hA, hlk, hZ, hE⟩ := C
  intro H locs ls hP hD hS hl
  exact lv_icmp_ne hx hb hd ht (fun h => kt h H locs ls hP hD hS hl) (fun h => kf h H locs ls hP hD hS hl)
theorem aw_if_lt (C : aw_X0 l D tys Zs rm cc n own Ts E κ) {x : Int32} {off : Int} {tgt : Nat} (hd : decode cc pc = .ok (.ifCond .lt off, 3)) (ht : (pc : Int) + off = (tgt : Int)) (kt : x < 0 → aw_J κ cells slots (w) (L) (tgt) (S)) (kf : ¬ x < 0 → aw_J κ cells slots (w) (L) (pc + 3) (S)) : aw_J κ cells slots (w) (L) (pc) (.int x :: S) := by
  obtain ⟨p, l0, e, R, s, m, args, below, meth, c, Q, D0, A, nL⟩ := κ
  obtain ⟨rfl, rfl, rfl, rfl, hx, hb, hml, hown, hts, hK, hA, hlk, hZ, hE⟩ := C
  intro H locs ls hP hD hS hl
  exact lv_if_lt hx hb hd ht (fun h => kt h H locs ls hP hD hS hl) (fun h => kf h H locs ls hP hD hS hl)
theorem aw_icmp_lt (C : aw_X0 l D tys Zs rm cc n own Ts E κ) {x y : Int32} {off : Int} {tgt : Nat} (hd : decode cc pc = .ok (.if_icmp .lt off, 3)) (ht : (pc : Int) + off = (tgt : Int)) (kt : x < y → aw_J κ cells slots (w) (L) (tgt) (S)) (kf : ¬ x < y → aw_J κ cells slots (w) (L) (pc + 3) (S)) : aw_J κ cells slots (w) (L) (pc) (.int y :: .int x :: S) := by
  obtain ⟨p, l0, e, R, s, m, args, below, meth, c, Q, D0, A, nL⟩ := κ
  obtain ⟨rfl, rfl, rfl, rfl, hx, hb, hml, hown, hts, hK, hA, hlk, hZ, hE⟩ := C
  intro H locs ls hP hD hS hl
  exact lv_icmp_lt hx hb hd ht (fun h => kt h H locs ls hP hD hS hl) (fun h => kf h H locs ls hP hD hS hl)
theorem aw_if_ge (C : aw_X0 l D tys Zs rm cc n own Ts E κ) {x : Int32} {off : Int} {tgt : Nat} (hd : decode cc pc = .ok (.ifCond .ge off, 3)) (ht : (pc : Int) + off = (tgt : Int)) (kt : 0 ≤ x → aw_J κ cells slots (w) (L) (tgt) (S)) (kf : ¬ 0 ≤ x → aw_J κ cells slots (w) (L) (pc + 3) (S)) : aw_J κ cells slots (w) (L) (pc) (.int x :: S) := by
  obtain ⟨p, l0, e, R, s, m, args, below, meth, c, Q, D0, A, nL⟩ := κ
  obtain ⟨rfl, rfl, rfl, rfl, hx, hb, hml, hown, hts, hK, hA, hlk, hZ, hE⟩ := C
  intro H locs ls hP hD hS hl
  exact lv_if_ge hx hb hd ht (fun h => kt h H locs ls hP hD hS hl) (fun h => kf h H locs ls hP hD hS hl)
theorem aw_icmp_ge (C : aw_X0 l D tys Zs rm cc n own Ts E κ) {x y : Int32} {off : Int} {tgt : Nat} (hd : decode cc pc = .ok (.if_icmp .ge off, 3)) (ht : (pc : Int) + off = (tgt : Int)) (kt : y ≤ x → aw_J κ cells slots (w) (L) (tgt) (S)) (kf : ¬ y ≤ x → aw_J κ cells slots (w) (L) (pc + 3) (S)) : aw_J κ cells slots (w) (L) (pc) (.int y :: .int x :: S) := by
  obtain ⟨p, l0, e, R, s, m, args, below, meth, c, Q, D0, A, nL⟩ := κ
  obtain ⟨rfl, rfl, rfl, rfl, hx, hb, hml, hown, hts, hK, hA, hlk, hZ, hE⟩ := C
  intro H locs ls hP hD hS hl
  exact lv_icmp_ge hx hb hd ht (fun h => kt h H locs ls hP hD hS hl) (fun h => kf h H locs ls hP hD hS hl)
theorem aw_if_gt (C : aw_X0 l D tys Zs rm cc n own Ts E κ) {x : Int32} {off : Int} {tgt : Nat} (hd : decode cc pc = .ok (.ifCond .gt off, 3)) (ht : (pc : Int) + off = (tgt : Int)) (kt : 0 < x → aw_J κ cells slots (w) (L) (tgt) (S)) (kf : ¬ 0 < x → aw_J κ cells slots (w) (L) (pc + 3) (S)) : aw_J κ cells slots (w) (L) (pc) (.int x :: S) := by
  obtain ⟨p, l0, e, R, s, m, args, below, meth, c, Q, D0, A, nL⟩ := κ
  obtain ⟨rfl, rfl, rfl, rfl, hx, hb, hml, hown, hts, hK, hA, hlk, hZ, hE⟩ := C
  intro H locs ls hP hD hS hl
  exact lv_if_gt hx hb hd ht (fun h => kt h H locs ls hP hD hS hl) (fun h => kf h H locs ls hP hD hS hl)
theorem aw_icmp_gt (C : aw_X0 l D tys Zs rm cc n own Ts E κ) {x y : Int32} {off : Int} {tgt : Nat} (hd : decode cc pc = .ok (.if_icmp .gt off, 3)) (ht : (pc : Int) + off = (tgt : Int)) (kt : y < x → aw_J κ cells slots (w) (L) (tgt) (S)) (kf : ¬ y < x → aw_J κ cells slots (w) (L) (pc + 3) (S)) : aw_J κ cells slots (w) (L) (pc) (.int y :: .int x :: S) := by
  obtain ⟨p, l0, e, R, s, m, args, below, meth, c, Q, D0, A, nL⟩ := κ
  obtain ⟨rfl, rfl, rfl, rfl, hx, hb, hml, hown, hts, hK, hA, hlk, hZ, hE⟩ := C
  intro H locs ls hP hD hS hl
  exact lv_icmp_gt hx hb hd ht (fun h => kt h H locs ls hP hD hS hl) (fun h => kf h H locs ls hP hD hS hl)
theorem aw_if_le (C : aw_X0 l D tys Zs rm cc n own Ts E κ) {x : Int32} {off : Int} {tgt : Nat} (hd : decode cc pc = .ok (.ifCond .le off, 3)) (ht : (pc : Int) + off = (tgt : Int)) (kt : x ≤ 0 → aw_J κ cells slots (w) (L) (tgt) (S)) (kf : ¬ x ≤ 0 → aw_J κ cells slots (w) (L) (pc + 3) (S)) : aw_J κ cells slots (w) (L) (pc) (.int x :: S) := by
  obtain ⟨p, l0, e, R, s, m, args, below, meth, c, Q, D0, A, nL⟩ := κ
  obtain ⟨rfl, rfl, rfl, rfl, hx, hb, hml, hown, hts, hK, hA, hlk, hZ, hE⟩ := C
  intro H locs ls hP hD hS hl
  exact lv_if_le hx hb hd ht (fun h => kt h H locs ls hP hD hS hl) (fun h => kf h H locs ls hP hD hS hl)
theorem aw_icmp_le (C : aw_X0 l D tys Zs rm cc n own Ts E κ) {x y : Int32} {off : Int} {tgt : Nat} (hd : decode cc pc = .ok (.if_icmp .le off, 3)) (ht : (pc : Int) + off = (tgt : Int)) (kt : x ≤ y → aw_J κ cells slots (w) (L) (tgt) (S)) (kf : ¬ x ≤ y → aw_J κ cells slots (w) (L) (pc + 3) (S)) : aw_J κ cells slots (w) (L) (pc) (.int y :: .int x :: S) := by
  obtain ⟨p, l0, e, R, s, m, args, below, meth, c, Q, D0, A, nL⟩ := κ
  obtain ⟨rfl, rfl, rfl, rfl, hx, hb, hml, hown, hts, hK, hA, hlk, hZ, hE⟩ := C
  intro H locs ls hP hD hS hl
  exact lv_icmp_le hx hb hd ht (fun h => kt h H locs ls hP hD hS hl) (fun h => kf h H locs ls hP hD hS hl)
theorem aw_goto (C : aw_X0 l D tys Zs rm cc n own Ts E κ) {off : Int} {tgt : Nat} (hd : decode cc pc = .ok (.goto off, 3)) (ht : (pc : Int) + off = (tgt : Int)) (kk : aw_J κ cells slots (w) (L) (tgt) (S)) : aw_J κ cells slots (w) (L) (pc) (S) := by
  obtain ⟨p, l0, e, R, s, m, args, below, meth, c, Q, D0, A, nL⟩ := κ
  obtain ⟨rfl, rfl, rfl, rfl, hx, hb, hml, hown, hts, hK, hA, hlk, hZ, hE⟩ := C
  intro H locs ls hP hD hS hl
  exact lv_goto hx hb hd ht (kk H locs ls hP hD hS hl)
theorem aw_tabOut (C : aw_X0 l D tys Zs rm cc n own Ts E κ) {dflt lo hi : Int} {offs : Array Int} {len : Nat} {x : Int32} {tgt : Nat} (hd : decode cc pc = .ok (.tableswitch dflt lo hi offs, len)) (h : x.toInt < lo ∨ hi < x.toInt) (ht : (pc : Int) + dflt = (tgt : Int)) (kk : aw_J κ cells slots (w) (L) (tgt) (S)) : aw_J κ cells slots (w) (L) (pc) (.int x :: S) := by
  obtain ⟨p, l0, e, R, s, m, args, below, meth, c, Q, D0, A, nL⟩ := κ
  obtain ⟨rfl, rfl, rfl, rfl, hx, hb, hml, hown, hts, hK, hA, hlk, hZ, hE⟩ := C
  intro H locs ls hP hD hS hl
  exact lv_tableOut hx hb hd h ht (kk H locs ls hP hD hS hl)
theorem aw_tabIn (C : aw_X0 l D tys Zs rm cc n own Ts E κ) {dflt lo hi : Int} {offs : Array Int} {len : Nat} {x : Int32} {off : Int} {tgt : Nat} (hd : decode cc pc = .ok (.tableswitch dflt lo hi offs, len)) (h1 : ¬ x.toInt < lo) (h2 : ¬ hi < x.toInt) (ho : offs[(x.toInt - lo).toNat]? = some off) (ht : (pc : Int) + off = (tgt : Int)) (kk : aw_J κ cells slots (w) (L) (tgt) (S)) : aw_J κ cells slots (w) (L) (pc) (.int x :: S) := by
  obtain ⟨p, l0, e, R, s, m, args, below, meth, c, Q, D0, A, nL⟩ := κ
  obtain ⟨rfl, rfl, rfl, rfl, hx, hb, hml, hown, hts, hK, hA, hlk, hZ, hE⟩ := C
  intro H locs ls hP hD hS hl
  exact lv_tableIn hx hb hd h1 h2 ho ht (kk H locs ls hP hD hS hl)
theorem aw_lookup (C : aw_X0 l D tys Zs rm cc n own Ts E κ) {dflt : Int} {ps : Array (Int × Int)} {len : Nat} {x : Int32} {off : Int} {tgt : Nat} (hd : decode cc pc = .ok (.lookupswitch dflt ps, len)) (hp : (ps.toList.zip (ps.toList.drop 1)).all (fun (a, next) => a.1 < next.1) = true) (ho : Op.lookupswitch.offset ps.toList dflt x.toInt = off) (ht : (pc : Int) + off = (tgt : Int)) (kk : aw_J κ cells slots (w) (L) (tgt) (S)) : aw_J κ cells slots (w) (L) (pc) (.int x :: S) := by
  obtain ⟨p, l0, e, R, s, m, args, below, meth, c, Q, D0, A, nL⟩ := κ
  obtain ⟨rfl, rfl, rfl, rfl, hx, hb, hml, hown, hts, hK, hA, hlk, hZ, hE⟩ := C
  intro H locs ls hP hD hS hl
  exact lv_lookup hx hb hd hp ho ht (kk H locs ls hP hD hS hl)
theorem aw_iret {v : Int32} (C : aw_X l D tys Zs rm cc n own Ts (some .int) (some (.int v)) w κ) (hd : decode cc pc = .ok (.ireturn, 1)) : aw_J κ 0 0 w L pc [.int v] := by
  obtain ⟨p, l0, e, R, s, m, args, below, meth, c, Q, D0, A, nL⟩ := κ
  obtain ⟨rfl, rfl, rfl, rfl, hx, hb, hml, hown, hts, hK, hA, hlk, hZ, hE⟩ := C
  intro H locs ls hP hD hS hl
  obtain ⟨hrt, hQ⟩ := hE
  subst hQ
  exact W.iret hx hb hrt (fun t ht hW => ⟨rfl, ⟨by rw [ht]; exact hP, va_K.moved hW.alike hK, hD⟩, hS.F ht⟩) hS.2.2 hd hlk
theorem aw_zret {v : Int32} (C : aw_X l D tys Zs rm cc n own Ts (some .boolean) (some (.int v)) w κ) (hv : v = 0 ∨ v = 1) (hd : decode cc pc = .ok (.ireturn, 1)) : aw_J κ 0 0 w L pc [.int v] := by
  obtain ⟨p, l0, e, R, s, m, args, below, meth, c, Q, D0, A, nL⟩ := κ
  obtain ⟨rfl, rfl, rfl, rfl, hx, hb, hml, hown, hts, hK, hA, hlk, hZ, hE⟩ := C
  intro H locs ls hP hD hS hl
  obtain ⟨hrt, hQ⟩ := hE
  subst hQ
  exact W.zret hx hb hrt (by rcases hv with rfl | rfl <;> decide) (fun t ht hW => ⟨rfl, ⟨by rw [ht]; exact hP, va_K.moved hW.alike hK, hD⟩, hS.F ht⟩) hS.2.2 hd hlk
theorem aw_vret (C : aw_X l D tys Zs rm cc n own Ts none none w κ) (hd : decode cc pc = .ok (.return_, 1)) : aw_J κ 0 0 w L pc [] := by
  obtain ⟨p, l0, e, R, s, m, args, below, meth, c, Q, D0, A, nL⟩ := κ
  obtain ⟨rfl, rfl, rfl, rfl, hx, hb, hml, hown, hts, hK, hA, hlk, hZ, hE⟩ := C
  intro H locs ls hP hD hS hl
  obtain ⟨hrt, hQ⟩ := hE
  subst hQ
  exact W.vret hx hb hrt (fun t ht hW => ⟨rfl, ⟨by rw [ht]; exact hP, va_K.moved hW.alike hK, hD⟩, hS.F ht⟩) hS.2.2 hd hlk
end AWR
end
section
/-! A world by a memory: cell k lies at ad k and holds ly k (σ k) -/
abbrev aw_m : Type := Nat → Nat → Int32
def aw_w (N : Nat) (ad : Nat → Nat) (ly : Nat → (Nat → Int32) → va_E) (σ : aw_m) : va_W := (List.range N).map (fun k => (ad k, ly k (σ k)))
def aw_s (σ : aw_m) (k : Nat) (f : Nat → Int32) : aw_m := fun a => if a = k then f else σ a
theorem aw_w_at {N : Nat} {ad : Nat → Nat} {ly : Nat → (Nat → Int32) → va_E} {σ : aw_m} {k : Nat} (h : k < N) : (aw_w N ad ly σ)[k]? = some (ad k, ly k (σ k)) := by
  unfold aw_w
  rw [List.getElem?_map, List.getElem?_range h]
  rfl
theorem aw_w_len {N : Nat} {ad : Nat → Nat} {ly : Nat → (Nat → Int32) → va_E} {σ : aw_m} : (aw_w N ad ly σ).length = N := by
  unfold aw_w
  rw [List.length_map, List.length_range]
theorem aw_w_set {N : Nat} {ad : Nat → Nat} {ly : Nat → (Nat → Int32) → va_E} {σ : aw_m} {k : Nat} {f : Nat → Int32} : (aw_w N ad ly σ).set k (ad k, ly k f) = aw_w N ad ly (aw_s σ k f) := by
  apply List.ext_getElem?
  intro i
  by_cases hi : i < N
  · rw [aw_w_at hi]
    by_cases hk : k = i
    · subst hk
      rw [List.getElem?_set_self (by rw [aw_w_len]; exact hi)]
      simp [aw_s]
    · rw [List.getElem?_set_ne hk, aw_w_at hi]
      simp [aw_s, Ne.symm hk]
  · rw [List.getElem?_eq_none (by rw [List.length_set, aw_w_len]; omega), List.getElem?_eq_none (by rw [aw_w_len]; omega)]
theorem aw_Nw {w : Cond} {s U : State} (hw : aw_Nt w = true) (hW : s.WarmedH U.vm) (h : va_Nw w s) : va_Nw w U := by
  unfold aw_Nt at hw
  split at hw
  · exact va_Nw.warmF hW h
  · exact va_Nw.warmM hW h
  · exact va_AO.moved hW.alike h
  · cases hw
theorem aw_Nw2 {w : Cond} {s U : State} (hw : aw_Nt w = true) (hv : s.vm = U.vm) (h : va_Nw w s) : va_Nw w U := by
  unfold aw_Nt at hw
  split at hw
  · exact va_Nw.same rfl hv h
  · exact va_Nw.same rfl hv h
  · exact va_AO.moved (by rw [hv]; exact Vm.Alike.refl _) h
  · cases hw
theorem aw_Z.keep {Zs : aw_T} {A B : Nat → Prop} {s U : State} {H : Heap} {locs : List Loc} (h : aw_Z Zs A s) (hS : va_S A s.heap H locs) (hAB : ∀ q, B q → A q) (hU : U.heap = H) (hW : s.WarmedH U.vm) : aw_Z Zs B U := by
  refine ⟨fun z hz => ?_, fun w hw => ⟨(h.2 w hw).1, aw_Nw (h.2 w hw).1 hW (h.2 w hw).2⟩⟩
  obtain ⟨h1, h2⟩ := h.1 z hz
  have hvm := hW.alike
  subst hU
  exact ⟨va_Z.moved hvm ((va_Z.kept h1 (fun a ha hn => hS.2.1 a ha hn)).narrow hAB), va_T.moved hvm ((va_T.kept h2 (fun a ha hn => hS.2.1 a ha hn)).narrow hAB)⟩
theorem aw_Z.same {Zs : aw_T} {A : Nat → Prop} {u U : State} (h : aw_Z Zs A u) (hU : U.heap = u.heap) (hvm : u.vm = U.vm) : aw_Z Zs A U := by
  refine ⟨fun z hz => ?_, fun w hw => ⟨(h.2 w hw).1, aw_Nw2 (h.2 w hw).1 hvm (h.2 w hw).2⟩⟩
  obtain ⟨h1, h2⟩ := h.1 z hz
  have ha : u.vm.Alike U.vm := by rw [hvm]; exact Vm.Alike.refl _
  rw [hU]
  exact ⟨va_Z.moved ha h1, va_T.moved ha h2⟩
section AWH
variable {l : Launch} {D : va_G} {tys : List (ClassId × FieldType)} {Zs : aw_T} {rm : Room} {cc : ByteArray} {n : Nat} {own : String} {Ts : List Cond} {E : aw_K → Prop} {κ : aw_K}
variable {cells slots : Nat} {w : va_W} {L L' : List (Nat × Value)} {pc : Nat} {S : List Value}
variable {N : Nat} {ad : Nat → Nat} {ly : Nat → (Nat → Int32) → va_E} {σ : aw_m}
theorem aw_get (C : aw_X0 l D tys Zs rm cc n own Ts E κ) (K : Nat) (hK : K < N) {ci : Nat} {fs : List Value} (hly : ly K (σ K) = .inr (ci, fs)) {Cn : String} {T : u_T} {NN : Nat} (hc : vwCl[ci]? = some (Cn, T, NN)) (hin : ∀ w ∈ u_ws Cn T NN, w ∈ Ts) (i : Nat) (hi : i < NN) {v : Value} (hv : fs[i]? = some v) {index : Nat}
    (hlink : Cond.fieldLink own index (T i).1 (T i).2.1 (T i).2.2.1 ∈ Ts) (hd : decode cc pc = .ok (.getfield index, 3)) (kk : aw_J κ cells slots (aw_w N ad ly σ) L (pc + 3) (v :: S)) : aw_J κ cells slots (aw_w N ad ly σ) L pc (.ref (ad K) :: S) := by
  obtain ⟨p, l0, e, R, s, m, args, below, meth, c, Q, D0, A, nL⟩ := κ
  obtain ⟨rfl, rfl, rfl, rfl, hx, hb, hml, hown, hts, hKK, hA, hlk, hZ, hE⟩ := C
  intro H locs ls hP hD hS hl
  exact va_get hx hb hts hin hown hKK hP K (by rw [aw_w_at hK, hly]) hc i hi (hts _ hlink) (fun _ h => h) hv hd (kk H locs ls hP hD hS hl)
theorem aw_put (C : aw_X0 l D tys Zs rm cc n own Ts E κ) (K : Nat) (hK : K < N) {ci : Nat} {fs : List Value} (hly : ly K (σ K) = .inr (ci, fs)) {Cn : String} {T : u_T} {NN : Nat} (hc : vwCl[ci]? = some (Cn, T, NN)) (hin : ∀ w ∈ u_ws Cn T NN, w ∈ Ts) (ty0 : Nat → FieldType) (hty : ∀ k, k < NN → parseFieldDescriptor (T k).2.2.1 = some (ty0 k)) (hnm : ∀ a, a < NN → ∀ b, b < NN → a ≠ b → (T a).2.1 ≠ (T b).2.1)
    (i : Nat) (hi : i < NN) {index : Nat} (hlink : Cond.fieldLink own index (T i).1 (T i).2.1 (T i).2.2.1 ∈ Ts) (hfin : (T i).2.2.2 = false) {ty : FieldType} {v : Value} (hdsc : parseFieldDescriptor (T i).2.2.1 = some ty) (hnar : narrow ty v = v) (hfit : fits ty v = true) (hlen : i < fs.length) {f : Nat → Int32} {σ1 : aw_m} (hset : ly K f = .inr (ci, fs.set i v)) (hσ : σ1 = aw_s σ K f)
    (hd : decode cc pc = .ok (.putfield index, 3)) (kk : aw_J κ cells slots (aw_w N ad ly σ1) L (pc + 3) S) : aw_J κ cells slots (aw_w N ad ly σ) L pc (v :: .ref (ad K) :: S) := by
  obtain ⟨p, l0, e, R, s, m, args, below, meth, c, Q, D0, A, nL⟩ := κ
  obtain ⟨rfl, rfl, rfl, rfl, hx, hb, hml, hown, hts, hKK, hA, hlk, hZ, hE⟩ := C
  intro H locs ls hP hD hS hl
  refine va_put hx hb hts hin ty0 hty hnm hown hKK hP hD hS K (by rw [aw_w_at hK, hly]) hc i hi (hts _ hlink) (fun _ h => h) hfin hdsc hnar hfit hlen hd (fun H1 locs1 hP1 hD1 hS1 => ?_)
  rw [← hset, aw_w_set, ← hσ] at hP1 hD1
  exact kk H1 locs1 ls hP1 hD1 hS1 hl
theorem aw_iald (C : aw_X0 l D tys Zs rm cc n own Ts E κ) (K : Nat) (hK : K < N) (t0 : Nat) {cA : ClassId} {nn : Nat} {f : Nat → Int32} (hly : ly K (σ K) = .inl (cA, nn, .inl f)) (ht : tys[t0]? = some (cA, .int)) {i : Int32} (hin : vp_in i nn)
    (hd : decode cc pc = .ok (.iaload, 1)) (kk : aw_J κ cells slots (aw_w N ad ly σ) L (pc + 1) (.int (f i.toNatClampNeg) :: S)) : aw_J κ cells slots (aw_w N ad ly σ) L pc (.int i :: .ref (ad K) :: S) := by
  obtain ⟨p, l0, e, R, s, m, args, below, meth, c, Q, D0, A, nL⟩ := κ
  obtain ⟨rfl, rfl, rfl, rfl, hx, hb, hml, hown, hts, hKK, hA, hlk, hZ, hE⟩ := C
  intro H locs ls hP hD hS hl
  exact va_iald hx hb hKK hP K t0 (by rw [aw_w_at hK, hly]) ht hin hd (kk H locs ls hP hD hS hl)
theorem aw_iast (C : aw_X0 l D tys Zs rm cc n own Ts E κ) (K : Nat) (hK : K < N) (t0 : Nat) {cA : ClassId} {nn : Nat} {f g : Nat → Int32} (hly : ly K (σ K) = .inl (cA, nn, .inl f)) (ht : tys[t0]? = some (cA, .int)) {i x : Int32} (hin : vp_in i nn) {σ1 : aw_m} (hset : ly K g = .inl (cA, nn, .inl (upd f i.toNatClampNeg x))) (hσ : σ1 = aw_s σ K g)
    (hd : decode cc pc = .ok (.iastore, 1)) (kk : aw_J κ cells slots (aw_w N ad ly σ1) L (pc + 1) S) : aw_J κ cells slots (aw_w N ad ly σ) L pc (.int x :: .int i :: .ref (ad K) :: S) := by
  obtain ⟨p, l0, e, R, s, m, args, below, meth, c, Q, D0, A, nL⟩ := κ
  obtain ⟨rfl, rfl, rfl, rfl, hx, hb, hml, hown, hts, hKK, hA, hlk, hZ, hE⟩ := C
  intro H locs ls hP hD hS hl
  refine va_iast hx hb hKK hP hD hS K t0 (by rw [aw_w_at hK, hly]) ht hin hd (fun H1 locs1 hP1 hD1 hS1 => ?_)
  rw [← hset, aw_w_set, ← hσ] at hP1 hD1
  exact kk H1 locs1 ls hP1 hD1 hS1 hl
theorem aw_zald (C : aw_X0 l D tys Zs rm cc n own Ts E κ) (K : Nat) (hK : K < N) (t0 : Nat) {cA : ClassId} {nn : Nat} {f : Nat → Int32} (hly : ly K (σ K) = .inl (cA, nn, .inl f)) (ht : tys[t0]? = some (cA, .boolean)) {i : Int32} (hin : vp_in i nn)
    (hd : decode cc pc = .ok (.baload, 1)) (kk : aw_J κ cells slots (aw_w N ad ly σ) L (pc + 1) (.int (f i.toNatClampNeg) :: S)) : aw_J κ cells slots (aw_w N ad ly σ) L pc (.int i :: .ref (ad K) :: S) := by
  obtain ⟨p, l0, e, R, s, m, args, below, meth, c, Q, D0, A, nL⟩ := κ
  obtain ⟨rfl, rfl, rfl, rfl, hx, hb, hml, hown, hts, hKK, hA, hlk, hZ, hE⟩ := C
  intro H locs ls hP hD hS hl
  exact va_zald hx hb hKK hP K t0 (by rw [aw_w_at hK, hly]) ht hin hd (kk H locs ls hP hD hS hl)
theorem aw_nz {x : Int32} (h : x = 0 ∨ x = 1) : vp_nar .boolean x = x := by rcases h with rfl | rfl <;> decide
theorem aw_zast (C : aw_X0 l D tys Zs rm cc n own Ts E κ) (K : Nat) (hK : K < N) (t0 : Nat) {cA : ClassId} {nn : Nat} {f g : Nat → Int32} (hly : ly K (σ K) = .inl (cA, nn, .inl f)) (ht : tys[t0]? = some (cA, .boolean)) {i x : Int32} (hin : vp_in i nn) (hz : x = 0 ∨ x = 1) {σ1 : aw_m} (hset : ly K g = .inl (cA, nn, .inl (upd f i.toNatClampNeg x))) (hσ : σ1 = aw_s σ K g)
    (hd : decode cc pc = .ok (.bastore, 1)) (kk : aw_J κ cells slots (aw_w N ad ly σ1) L (pc + 1) S) : aw_J κ cells slots (aw_w N ad ly σ) L pc (.int x :: .int i :: .ref (ad K) :: S) := by
  obtain ⟨p, l0, e, R, s, m, args, below, meth, c, Q, D0, A, nL⟩ := κ
  obtain ⟨rfl, rfl, rfl, rfl, hx, hb, hml, hown, hts, hKK, hA, hlk, hZ, hE⟩ := C
  intro H locs ls hP hD hS hl
  refine va_zast hx hb hKK hP hD hS K t0 (by rw [aw_w_at hK, hly]) ht hin hd (fun H1 locs1 hP1 hD1 hS1 => ?_)
  rw [aw_nz hz, ← hset, aw_w_set, ← hσ] at hP1 hD1
  exact kk H1 locs1 ls hP1 hD1 hS1 hl
theorem aw_aald (C : aw_X0 l D tys Zs rm cc n own Ts E κ) (K : Nat) (hK : K < N) (t0 : Nat) {cA : ClassId} {Cn : String} {nn : Nat} {f : Nat → Option Nat} (hly : ly K (σ K) = .inl (cA, nn, .inr (.inr (.inr (.inr f))))) (ht : tys[t0]? = some (cA, .object Cn)) {i : Int32} (hin : vp_in i nn) {b : Nat} (hf : f i.toNatClampNeg = some b)
    (hd : decode cc pc = .ok (.aaload, 1)) (kk : aw_J κ cells slots (aw_w N ad ly σ) L (pc + 1) (.ref b :: S)) : aw_J κ cells slots (aw_w N ad ly σ) L pc (.int i :: .ref (ad K) :: S) := by
  obtain ⟨p, l0, e, R, s, m, args, below, meth, c, Q, D0, A, nL⟩ := κ
  obtain ⟨rfl, rfl, rfl, rfl, hx, hb, hml, hown, hts, hKK, hA, hlk, hZ, hE⟩ := C
  intro H locs ls hP hD hS hl
  refine va_aldq hx hb hKK hP K t0 (by rw [aw_w_at hK, hly]) ht hin hd ?_
  rw [hf]
  exact kk H locs ls hP hD hS hl
theorem aw_alen (C : aw_X0 l D tys Zs rm cc n own Ts E κ) (K : Nat) (hK : K < N) (t0 : Nat) {cA : ClassId} {x : vp_A} (hly : ly K (σ K) = .inl (cA, x)) {ty : FieldType} (ht : tys[t0]? = some (cA, ty)) {v : Int32} (hv : Int32.ofNat x.1 = v)
    (hd : decode cc pc = .ok (.arraylength, 1)) (kk : aw_J κ cells slots (aw_w N ad ly σ) L (pc + 1) (.int v :: S)) : aw_J κ cells slots (aw_w N ad ly σ) L pc (.ref (ad K) :: S) := by
  obtain ⟨p, l0, e, R, s, m, args, below, meth, c, Q, D0, A, nL⟩ := κ
  obtain ⟨rfl, rfl, rfl, rfl, hx, hb, hml, hown, hts, hKK, hA, hlk, hZ, hE⟩ := C
  intro H locs ls hP hD hS hl
  exact va_alen hx hb hKK hP K t0 (by rw [aw_w_at hK, hly]) ht hv hd (kk H locs ls hP hD hS hl)
theorem aw_gets (C : aw_X0 l D tys Zs rm cc n own Ts E κ) {z : (String × String) × Nat × Nat × (Nat → Int32)} (hz : z ∈ Zs.1) {index : Nat} (hlink : Cond.fieldLink own index z.1.1 z.1.2 "[I" ∈ Ts) (hd : decode cc pc = .ok (.getstatic index, 3)) (kk : aw_J κ cells slots w L (pc + 3) (.ref z.2.1 :: S)) : aw_J κ cells slots w L pc S := by
  obtain ⟨p, l0, e, R, s, m, args, below, meth, c, Q, D0, A, nL⟩ := κ
  obtain ⟨rfl, rfl, rfl, rfl, hx, hb, hml, hown, hts, hKK, hA, hlk, hZ, hE⟩ := C
  intro H locs ls hP hD hS hl
  exact va_gets hx hb (hZ.1 z hz).1 hS hown (hts _ hlink) (fun _ h => h) hd (kk H locs ls hP hD hS hl)
theorem aw_getsN (C : aw_X0 l D tys Zs rm cc n own Ts E κ) {z : (String × String) × Nat × Nat × (Nat → Int32)} (hz : z ∈ Zs.1) {index : Nat} {host : String} (hlink : Cond.fieldLinkNest own index z.1.1 z.1.2 "[I" host ∈ Zs.2) (hd : decode cc pc = .ok (.getstatic index, 3)) (kk : aw_J κ cells slots w L (pc + 3) (.ref z.2.1 :: S)) : aw_J κ cells slots w L pc S := by
  obtain ⟨p, l0, e, R, s, m, args, below, meth, c, Q, D0, A, nL⟩ := κ
  obtain ⟨rfl, rfl, rfl, rfl, hx, hb, hml, hown, hts, hKK, hA, hlk, hZ, hE⟩ := C
  intro H locs ls hP hD hS hl
  exact va_getsN hx hb (hZ.1 z hz).1 hS hown (va_Nw.use rfl (hZ.2 _ hlink).2) (fun _ h => h) hd (kk H locs ls hP hD hS hl)
theorem aw_sald (C : aw_X0 l D tys Zs rm cc n own Ts E κ) {z : (String × String) × Nat × Nat × (Nat → Int32)} (hz : z ∈ Zs.1) {i : Int32} (hin : vp_in i z.2.2.1) (hd : decode cc pc = .ok (.iaload, 1)) (kk : aw_J κ cells slots w L (pc + 1) (.int (z.2.2.2 i.toNatClampNeg) :: S)) : aw_J κ cells slots w L pc (.int i :: .ref z.2.1 :: S) := by
  obtain ⟨p, l0, e, R, s, m, args, below, meth, c, Q, D0, A, nL⟩ := κ
  obtain ⟨rfl, rfl, rfl, rfl, hx, hb, hml, hown, hts, hKK, hA, hlk, hZ, hE⟩ := C
  intro H locs ls hP hD hS hl
  obtain ⟨cell, h1, h2, h3, h4, h5, h6, h7⟩ := (hZ.1 z hz).2
  have hlt : i.toNatClampNeg < z.2.2.1 := Nat.not_le.mp fun q => hin (Or.inr q)
  exact W.iald (v := .int (z.2.2.2 i.toNatClampNeg)) hx hb (by rw [hS.2.1 _ (Array.getElem?_eq_some_iff.mp h1).1 h7]; exact h1) h2 h3 (fun q => q.elim (fun q => hin (Or.inl q)) (fun q => hin (Or.inr (Nat.le_trans h4 q)))) (h6 _ hlt) rfl rfl hd (kk H locs ls hP hD hS hl)
theorem aw_copy (C : aw_X0 l D tys Zs rm cc n own Ts E κ) (K0 K1 : Nat) (hK0 : K0 < N) (hK1 : K1 < N) (t0 : Nat) {c0 : ClassId} {n0 n1 : Nat} {f g h : Nat → Int32} (hly0 : ly K0 (σ K0) = .inl (c0, n0, .inl f)) (hly1 : ly K1 (σ K1) = .inl (c0, n1, .inl g)) (ht : tys[t0]? = some (c0, .int)) {index : Nat} (hlink : Cond.methodLink own index arraycopyName ∈ Ts) (hnat : Cond.native arraycopyName ∈ Ts) (hstat : Cond.static arraycopyName ∈ Ts) (hini : Cond.initialized "java/lang/System" ∈ Ts)
    {sp dp k : Int32} (h1 : ¬ sp < 0) (h2 : ¬ dp < 0) (h3 : ¬ k < 0) (h4 : sp.toNatClampNeg + k.toNatClampNeg ≤ n0) (h5 : dp.toNatClampNeg + k.toNatClampNeg ≤ n1) (hr1 : 1 ≤ rm.frames) (hr2 : (S.map fun v => v.category).sum + (nativeFrameWords "java/lang/System" "arraycopy" 5 + 11) ≤ rm.locals) {σ1 : aw_m} (hset : ly K1 h = .inl (c0, n1, .inl (va_cpy f g sp.toNatClampNeg dp.toNatClampNeg k.toNatClampNeg))) (hσ : σ1 = aw_s σ K1 h)
    (hd : decode cc pc = .ok (.invokestatic index, 3)) (kk : aw_J κ cells slots (aw_w N ad ly σ1) L (pc + 3) S) : aw_J κ cells slots (aw_w N ad ly σ) L pc (.int k :: .int dp :: .ref (ad K1) :: .int sp :: .ref (ad K0) :: S) := by
  obtain ⟨p, l0, e, R, s, m, args, below, meth, c, Q, D0, A, nL⟩ := κ
  obtain ⟨rfl, rfl, rfl, rfl, hx, hb, hml, hown, hts, hKK, hA, hlk, hZ, hE⟩ := C
  intro H locs ls hP hD hS hl
  refine va_copyi hx hb (hml.trans hl.1.symm) hown (hts _ hlink) (hts _ hnat) (hts _ hstat) (hts _ hini) hKK hP hD hS K0 K1 t0 t0 (by rw [aw_w_at hK0, hly0]) (by rw [aw_w_at hK1, hly1]) ht ht rfl h1 h2 h3 h4 h5 (fun _ _ => rfl) hr1 hr2 hd (fun H1 locs1 hP1 hD1 hS1 => ?_)
  rw [← hset, aw_w_set, ← hσ] at hP1 hD1
  exact kk H1 locs1 ls hP1 hD1 hS1 hl
theorem aw_callW {p : Program} {e : Env} {R : Room} {s : State} {m : MethodId} {args a : Array Value} {below : List Frame} {meth : Method} {c : Code} {Q : State → Prop} {A A1 : Nat → Prop} {H : Heap} {locs : List Loc} {ls : Array Slot} {r : Option Value} {w1 : va_W} {st0 rest : List Value}
    (hr : va_Run p l e R s m args below meth c H locs cells slots 0 0 (F0 m pc ls st0) rest (aw_Q D tys A1 r w1 a) A1) (hS : va_S A s.heap H locs) (hA1 : ∀ q, A1 q → A q)
    (kk : ∀ (H1 : Heap) (locs1 : List Loc), va_P D vwCl w1 H1 → va_D A w1 → va_S A s.heap H1 locs1 → W p l e R s m args below meth c H1 locs1 cells slots Q (F0 m (pc + 3) ls (r.toList ++ rest))) : W p l e R s m args below meth c H locs cells slots Q (F0 m pc ls st0) := by
  intro T hT X
  obtain ⟨v, st₀, t, T', L, h0, X', hL, e1, e2, ⟨hv, ⟨hp, -, hd⟩, hz, hk⟩, st⟩ := hr T hT X
  cases hv
  rw [h0] at hz hk
  obtain ⟨t2, a1, b1⟩ := kk T'.heap (locs ++ L) (by rw [e1]; exact hp) (hd.weaken (fun _ _ _ h => hA1 _ h))
    ⟨Nat.le_trans hS.1 (by rw [e1]; exact hz), fun q h1 h2 => by rw [e1, hk q (Nat.lt_of_lt_of_le h1 hS.1) (fun z => h2 (hA1 q z))]; exact hS.2.1 q h1 h2, fun q hq => by
      rcases List.mem_append.mp hq with h | h
      · exact hS.2.2 q h
      · exact hA1 _ (hL q h)⟩ T' rfl X'
  exact ⟨t2, st t2 a1, b1⟩
theorem aw_blind {D : va_G} {tys : List (ClassId × FieldType)} {Zs : aw_T} {as : List Value} {w : va_W} {sz : Nat} : FrameBlind (va_Pc as (fun V => V.heap.size = sz ∧ va_P D vwCl w V.heap ∧ va_K D vwCl tys V ∧ va_D (fun _ => True) w ∧ aw_Z Zs (va_A w sz) V)) := by
  intro a U g mk q
  obtain ⟨q0, q1, qP, qK, qD, qZ⟩ := q
  exact ⟨q0, q1, qP, va_K.moved (u := U) (U := U.calling g mk a) (Vm.Alike.refl U.vm) qK, qD, qZ.same (U := U.calling g mk a) rfl rfl⟩
theorem aw_sub {A : Nat → Prop} {H0 H : Heap} {locs : List Loc} (hD : va_D A w) (hS : va_S A H0 H locs) (hA : ∀ q, H0.size ≤ q → A q) : ∀ q, va_A w H.size q → A q := by
  intro q h
  rcases h with ⟨k, e, h⟩ | h
  · exact hD.2 k (q, e) h
  · exact hA q (Nat.le_trans hS.1 h)
/-- the callee's room in the caller's -/
def aw_rm (rm' rm : Room) (maxL : Nat) : Prop := rm'.cells = 0 ∧ rm'.slots = 0 ∧ rm'.frames + 1 ≤ rm.frames ∧ 8 + (maxL + 11) + rm'.locals ≤ rm.locals
/-- the callee's name and how many arguments it takes -/
def aw_nm (y : MethodName) (k : Nat) : Prop := y.cls ≠ "java/lang/invoke/MethodHandle" ∧ y.cls ≠ "java/lang/invoke/VarHandle" ∧ (parseMethodDescriptor y.desc).map (fun d => d.parameters.length) = some k
theorem aw_callV (C : aw_X0 l D tys Zs rm cc n own Ts E κ) {y : MethodName} {bytes : ByteArray} {maxL : Nat} {ret' : Option FieldType} {ws ws' : List Cond} {rm' : Room} {b : Nat} {As rest : List Value} {r : Option Value} {w1 : va_W} {index : Nat}
    (hM : aw_M l D tys Zs y ws rm' (.ref b :: As) w r w1) (hw : ws = .code y bytes maxL ret' :: ws') (hG : GoodIn Ts (wsV own index y.cls y ws)) (hn : aw_nm y As.length) (hr : aw_rm rm' rm maxL) (hcs : cells ≤ rm.cells ∧ slots ≤ rm.slots) (K : Nat) {ci : Nat} {fs : List Value} {T : u_T} {NN : Nat} (hK : w[K]? = some (b, .inr (ci, fs))) (hc : vwCl[ci]? = some (y.cls, T, NN))
    (hst : S = As.reverse ++ .ref b :: rest) (hcat : (rest.map fun v => v.category).sum ≤ 8) (hd : decode cc pc = .ok (.invokevirtual index, 3)) (kk : aw_J κ cells slots w1 L (pc + 3) (r.toList ++ rest)) : aw_J κ cells slots w L pc S := by
  obtain ⟨p, l0, e, R, s, m, args, below, meth, c, Q, D0, A, nL⟩ := κ
  obtain ⟨rfl, rfl, rfl, rfl, hx, hb, hml, hown, hts, hKK, hA, hlk, hZ, hE⟩ := C
  intro H locs ls hP hD hS hl
  have hsub := aw_sub hD hS hA
  subst hst
  refine aw_callW (va_runV (As := As) (rest := rest) (b := b) ⟨hx, hb, hml, hown, hts⟩ (hM H.size) (cwV As.length hts hG hw hr.1 hr.2.1 ⟨rfl, hn.1, hn.2.1, hn.2.2⟩ ⟨hr.2.2.1, hr.2.2.2⟩) ⟨aw_blind, va_recv hKK hP hc hK, fun U hU hW => ⟨rfl, by rw [hU], by rw [hU]; exact hP, va_K.moved hW.alike hKK, hD.weaken (fun _ _ _ _ => trivial), hZ.keep hS hsub hU hW⟩⟩ rfl rfl hl.1 rfl (lv_room hcat) hd hcs) hS hsub (fun H1 locs1 hP1 hD1 hS1 => kk H1 locs1 ls hP1 hD1 hS1 hl)
theorem aw_callS (C : aw_X0 l D tys Zs rm cc n own Ts E κ) {y : MethodName} {bytes : ByteArray} {maxL : Nat} {ret' : Option FieldType} {ws ws' : List Cond} {rm' : Room} {As rest : List Value} {r : Option Value} {w1 : va_W} {index : Nat}
    (hM : aw_M l D tys Zs y ws rm' As w r w1) (hw : ws = .code y bytes maxL ret' :: ws') (hG : GoodIn Ts (va_wsS own index y ws)) (hn : aw_nm y As.length) (hr : aw_rm rm' rm maxL) (hcs : cells ≤ rm.cells ∧ slots ≤ rm.slots)
    (hst : S = As.reverse ++ rest) (hcat : (rest.map fun v => v.category).sum ≤ 8) (hd : decode cc pc = .ok (.invokestatic index, 3)) (kk : aw_J κ cells slots w1 L (pc + 3) (r.toList ++ rest)) : aw_J κ cells slots w L pc S := by
  obtain ⟨p, l0, e, R, s, m, args, below, meth, c, Q, D0, A, nL⟩ := κ
  obtain ⟨rfl, rfl, rfl, rfl, hx, hb, hml, hown, hts, hKK, hA, hlk, hZ, hE⟩ := C
  intro H locs ls hP hD hS hl
  have hsub := aw_sub hD hS hA
  subst hst
  refine aw_callW (va_runS (As := As) (rest := rest) ⟨hx, hb, hml, hown, hts⟩ (hM H.size) (va_cwS As.length hts hG hw hr.1 hr.2.1 ⟨hn.1, hn.2.1, hn.2.2⟩ ⟨hr.2.2.1, hr.2.2.2⟩) ⟨aw_blind, fun U hU hW => ⟨rfl, by rw [hU], by rw [hU]; exact hP, va_K.moved hW.alike hKK, hD.weaken (fun _ _ _ _ => trivial), hZ.keep hS hsub hU hW⟩⟩ rfl rfl hl.1 rfl (lv_room hcat) hd hcs) hS hsub (fun H1 locs1 hP1 hD1 hS1 => kk H1 locs1 ls hP1 hD1 hS1 hl)
theorem aw_callVN (C : aw_X0 l D tys Zs rm cc n own Ts E κ) {y : MethodName} {bytes : ByteArray} {maxL : Nat} {ret' : Option FieldType} {ws ws' : List Cond} {rm' : Room} {b : Nat} {As rest : List Value} {r : Option Value} {w1 : va_W} {index : Nat} {host : String}
    (hM : aw_M l D tys Zs y ws rm' (.ref b :: As) w r w1) (hw : ws = .code y bytes maxL ret' :: ws') (hG : GoodIn Ts ws) (hl1 : Cond.methodLinkNest own index y host ∈ Zs.2) (hini : Cond.initialized y.cls ∈ Ts) (hinst : Cond.instanceMethod y ∈ Ts) (hsel : Cond.selects y.cls y y ∈ Ts) (hn : aw_nm y As.length) (hr : aw_rm rm' rm maxL) (hcs : cells ≤ rm.cells ∧ slots ≤ rm.slots) (K : Nat) {ci : Nat} {fs : List Value} {T : u_T} {NN : Nat} (hK : w[K]? = some (b, .inr (ci, fs))) (hc : vwCl[ci]? = some (y.cls, T, NN))
    (hst : S = As.reverse ++ .ref b :: rest) (hcat : (rest.map fun v => v.category).sum ≤ 8) (hd : decode cc pc = .ok (.invokevirtual index, 3)) (kk : aw_J κ cells slots w1 L (pc + 3) (r.toList ++ rest)) : aw_J κ cells slots w L pc S := by
  obtain ⟨p, l0, e, R, s, m, args, below, meth, c, Q, D0, A, nL⟩ := κ
  obtain ⟨rfl, rfl, rfl, rfl, hx, hb, hml, hown, hts, hKK, hA, hlk, hZ, hE⟩ := C
  intro H locs ls hP hD hS hl
  have hsub := aw_sub hD hS hA
  subst hst
  refine aw_callW (va_runVN (As := As) (rest := rest) (b := b) ⟨hx, hb, hml, hown, hts⟩ (hM H.size) ⟨va_cnB As.length hts hG hw hr.1 hr.2.1 (hZ.2 _ hl1).2 (hts _ hini) ⟨hn.1, hn.2.1, hn.2.2⟩ ⟨hr.2.2.1, hr.2.2.2⟩, hts _ hinst, hts _ hsel⟩ ⟨aw_blind, va_recv hKK hP hc hK, fun U hU hW => ⟨rfl, by rw [hU], by rw [hU]; exact hP, va_K.moved hW.alike hKK, hD.weaken (fun _ _ _ _ => trivial), hZ.keep hS hsub hU hW⟩⟩ rfl rfl hl.1 rfl (lv_room hcat) hd hcs) hS hsub (fun H1 locs1 hP1 hD1 hS1 => kk H1 locs1 ls hP1 hD1 hS1 hl)
theorem aw_callSN (C : aw_X0 l D tys Zs rm cc n own Ts E κ) {y : MethodName} {bytes : ByteArray} {maxL : Nat} {ret' : Option FieldType} {ws ws' : List Cond} {rm' : Room} {As rest : List Value} {r : Option Value} {w1 : va_W} {index : Nat} {host : String}
    (hM : aw_M l D tys Zs y ws rm' As w r w1) (hw : ws = .code y bytes maxL ret' :: ws') (hG : GoodIn Ts ws) (hl1 : Cond.methodLinkNest own index y host ∈ Zs.2) (hini : Cond.initialized y.cls ∈ Ts) (hstat : Cond.static y ∈ Ts) (hn : aw_nm y As.length) (hr : aw_rm rm' rm maxL) (hcs : cells ≤ rm.cells ∧ slots ≤ rm.slots)
    (hst : S = As.reverse ++ rest) (hcat : (rest.map fun v => v.category).sum ≤ 8) (hd : decode cc pc = .ok (.invokestatic index, 3)) (kk : aw_J κ cells slots w1 L (pc + 3) (r.toList ++ rest)) : aw_J κ cells slots w L pc S := by
  obtain ⟨p, l0, e, R, s, m, args, below, meth, c, Q, D0, A, nL⟩ := κ
  obtain ⟨rfl, rfl, rfl, rfl, hx, hb, hml, hown, hts, hKK, hA, hlk, hZ, hE⟩ := C
  intro H locs ls hP hD hS hl
  have hsub := aw_sub hD hS hA
  subst hst
  refine aw_callW (va_runSN (As := As) (rest := rest) ⟨hx, hb, hml, hown, hts⟩ (hM H.size) ⟨va_cnB As.length hts hG hw hr.1 hr.2.1 (hZ.2 _ hl1).2 (hts _ hini) ⟨hn.1, hn.2.1, hn.2.2⟩ ⟨hr.2.2.1, hr.2.2.2⟩, hts _ hstat, trivial⟩ ⟨aw_blind, fun U hU hW => ⟨rfl, by rw [hU], by rw [hU]; exact hP, va_K.moved hW.alike hKK, hD.weaken (fun _ _ _ _ => trivial), hZ.keep hS hsub hU hW⟩⟩ rfl rfl hl.1 rfl (lv_room hcat) hd hcs) hS hsub (fun H1 locs1 hP1 hD1 hS1 => kk H1 locs1 ls hP1 hD1 hS1 hl)
theorem aw_callVi (C : aw_X0 l D tys Zs rm cc n own Ts E κ) {y : MethodName} {bytes : ByteArray} {maxL : Nat} {ret' : Option FieldType} {ws ws' : List Cond} {rm' : Room} {b : Nat} {As rest : List Value} {r : Int32} {w1 : va_W} {index : Nat}
    (hM : aw_M l D tys Zs y ws rm' (.ref b :: As) w (some (.int r)) w1) (hw : ws = .code y bytes maxL ret' :: ws') (hG : GoodIn Ts (wsV own index y.cls y ws)) (hn : aw_nm y As.length) (hr : aw_rm rm' rm maxL) (hcs : cells ≤ rm.cells ∧ slots ≤ rm.slots) (K : Nat) {ci : Nat} {fs : List Value} {T : u_T} {NN : Nat} (hK : w[K]? = some (b, .inr (ci, fs))) (hc : vwCl[ci]? = some (y.cls, T, NN))
    (hst : S = As.reverse ++ .ref b :: rest) (hcat : (rest.map fun v => v.category).sum ≤ 8) (hd : decode cc pc = .ok (.invokevirtual index, 3)) (kk : aw_J κ cells slots w1 L (pc + 3) (.int r :: rest)) : aw_J κ cells slots w L pc S := aw_callV C hM hw hG hn hr hcs K hK hc hst hcat hd kk
theorem aw_callVv (C : aw_X0 l D tys Zs rm cc n own Ts E κ) {y : MethodName} {bytes : ByteArray} {maxL : Nat} {ret' : Option FieldType} {ws ws' : List Cond} {rm' : Room} {b : Nat} {As rest : List Value}  {w1 : va_W} {index : Nat}
    (hM : aw_M l D tys Zs y ws rm' (.ref b :: As) w none w1) (hw : ws = .code y bytes maxL ret' :: ws') (hG : GoodIn Ts (wsV own index y.cls y ws)) (hn : aw_nm y As.length) (hr : aw_rm rm' rm maxL) (hcs : cells ≤ rm.cells ∧ slots ≤ rm.slots) (K : Nat) {ci : Nat} {fs : List Value} {T : u_T} {NN : Nat} (hK : w[K]? = some (b, .inr (ci, fs))) (hc : vwCl[ci]? = some (y.cls, T, NN))
    (hst : S = As.reverse ++ .ref b :: rest) (hcat : (rest.map fun v => v.category).sum ≤ 8) (hd : decode cc pc = .ok (.invokevirtual index, 3)) (kk : aw_J κ cells slots w1 L (pc + 3) (rest)) : aw_J κ cells slots w L pc S := aw_callV C hM hw hG hn hr hcs K hK hc hst hcat hd kk
theorem aw_callSi (C : aw_X0 l D tys Zs rm cc n own Ts E κ) {y : MethodName} {bytes : ByteArray} {maxL : Nat} {ret' : Option FieldType} {ws ws' : List Cond} {rm' : Room} {As rest : List Value} {r : Int32} {w1 : va_W} {index : Nat}
    (hM : aw_M l D tys Zs y ws rm' As w (some (.int r)) w1) (hw : ws = .code y bytes maxL ret' :: ws') (hG : GoodIn Ts (va_wsS own index y ws)) (hn : aw_nm y As.length) (hr : aw_rm rm' rm maxL) (hcs : cells ≤ rm.cells ∧ slots ≤ rm.slots)
    (hst : S = As.reverse ++ rest) (hcat : (rest.map fun v => v.category).sum ≤ 8) (hd : decode cc pc = .ok (.invokestatic index, 3)) (kk : aw_J κ cells slots w1 L (pc + 3) (.int r :: rest)) : aw_J κ cells slots w L pc S := aw_callS C hM hw hG hn hr hcs hst hcat hd kk
theorem aw_callSv (C : aw_X0 l D tys Zs rm cc n own Ts E κ) {y : MethodName} {bytes : ByteArray} {maxL : Nat} {ret' : Option FieldType} {ws ws' : List Cond} {rm' : Room} {As rest : List Value}  {w1 : va_W} {index : Nat}
    (hM : aw_M l D tys Zs y ws rm' As w none w1) (hw : ws = .code y bytes maxL ret' :: ws') (hG : GoodIn Ts (va_wsS own index y ws)) (hn : aw_nm y As.length) (hr : aw_rm rm' rm maxL) (hcs : cells ≤ rm.cells ∧ slots ≤ rm.slots)
    (hst : S = As.reverse ++ rest) (hcat : (rest.map fun v => v.category).sum ≤ 8) (hd : decode cc pc = .ok (.invokestatic index, 3)) (kk : aw_J κ cells slots w1 L (pc + 3) (rest)) : aw_J κ cells slots w L pc S := aw_callS C hM hw hG hn hr hcs hst hcat hd kk
theorem aw_callVNi (C : aw_X0 l D tys Zs rm cc n own Ts E κ) {y : MethodName} {bytes : ByteArray} {maxL : Nat} {ret' : Option FieldType} {ws ws' : List Cond} {rm' : Room} {b : Nat} {As rest : List Value} {r : Int32} {w1 : va_W} {index : Nat} {host : String}
    (hM : aw_M l D tys Zs y ws rm' (.ref b :: As) w (some (.int r)) w1) (hw : ws = .code y bytes maxL ret' :: ws') (hG : GoodIn Ts ws) (hl1 : Cond.methodLinkNest own index y host ∈ Zs.2) (hini : Cond.initialized y.cls ∈ Ts) (hinst : Cond.instanceMethod y ∈ Ts) (hsel : Cond.selects y.cls y y ∈ Ts) (hn : aw_nm y As.length) (hr : aw_rm rm' rm maxL) (hcs : cells ≤ rm.cells ∧ slots ≤ rm.slots) (K : Nat) {ci : Nat} {fs : List Value} {T : u_T} {NN : Nat} (hK : w[K]? = some (b, .inr (ci, fs))) (hc : vwCl[ci]? = some (y.cls, T, NN))
    (hst : S = As.reverse ++ .ref b :: rest) (hcat : (rest.map fun v => v.category).sum ≤ 8) (hd : decode cc pc = .ok (.invokevirtual index, 3)) (kk : aw_J κ cells slots w1 L (pc + 3) (.int r :: rest)) : aw_J κ cells slots w L pc S := aw_callVN C hM hw hG hl1 hini hinst hsel hn hr hcs K hK hc hst hcat hd kk
theorem aw_callVNv (C : aw_X0 l D tys Zs rm cc n own Ts E κ) {y : MethodName} {bytes : ByteArray} {maxL : Nat} {ret' : Option FieldType} {ws ws' : List Cond} {rm' : Room} {b : Nat} {As rest : List Value}  {w1 : va_W} {index : Nat} {host : String}
    (hM : aw_M l D tys Zs y ws rm' (.ref b :: As) w none w1) (hw : ws = .code y bytes maxL ret' :: ws') (hG : GoodIn Ts ws) (hl1 : Cond.methodLinkNest own index y host ∈ Zs.2) (hini : Cond.initialized y.cls ∈ Ts) (hinst : Cond.instanceMethod y ∈ Ts) (hsel : Cond.selects y.cls y y ∈ Ts) (hn : aw_nm y As.length) (hr : aw_rm rm' rm maxL) (hcs : cells ≤ rm.cells ∧ slots ≤ rm.slots) (K : Nat) {ci : Nat} {fs : List Value} {T : u_T} {NN : Nat} (hK : w[K]? = some (b, .inr (ci, fs))) (hc : vwCl[ci]? = some (y.cls, T, NN))
    (hst : S = As.reverse ++ .ref b :: rest) (hcat : (rest.map fun v => v.category).sum ≤ 8) (hd : decode cc pc = .ok (.invokevirtual index, 3)) (kk : aw_J κ cells slots w1 L (pc + 3) (rest)) : aw_J κ cells slots w L pc S := aw_callVN C hM hw hG hl1 hini hinst hsel hn hr hcs K hK hc hst hcat hd kk
theorem aw_callSNi (C : aw_X0 l D tys Zs rm cc n own Ts E κ) {y : MethodName} {bytes : ByteArray} {maxL : Nat} {ret' : Option FieldType} {ws ws' : List Cond} {rm' : Room} {As rest : List Value} {r : Int32} {w1 : va_W} {index : Nat} {host : String}
    (hM : aw_M l D tys Zs y ws rm' As w (some (.int r)) w1) (hw : ws = .code y bytes maxL ret' :: ws') (hG : GoodIn Ts ws) (hl1 : Cond.methodLinkNest own index y host ∈ Zs.2) (hini : Cond.initialized y.cls ∈ Ts) (hstat : Cond.static y ∈ Ts) (hn : aw_nm y As.length) (hr : aw_rm rm' rm maxL) (hcs : cells ≤ rm.cells ∧ slots ≤ rm.slots)
    (hst : S = As.reverse ++ rest) (hcat : (rest.map fun v => v.category).sum ≤ 8) (hd : decode cc pc = .ok (.invokestatic index, 3)) (kk : aw_J κ cells slots w1 L (pc + 3) (.int r :: rest)) : aw_J κ cells slots w L pc S := aw_callSN C hM hw hG hl1 hini hstat hn hr hcs hst hcat hd kk
theorem aw_callSNv (C : aw_X0 l D tys Zs rm cc n own Ts E κ) {y : MethodName} {bytes : ByteArray} {maxL : Nat} {ret' : Option FieldType} {ws ws' : List Cond} {rm' : Room} {As rest : List Value}  {w1 : va_W} {index : Nat} {host : String}
    (hM : aw_M l D tys Zs y ws rm' As w none w1) (hw : ws = .code y bytes maxL ret' :: ws') (hG : GoodIn Ts ws) (hl1 : Cond.methodLinkNest own index y host ∈ Zs.2) (hini : Cond.initialized y.cls ∈ Ts) (hstat : Cond.static y ∈ Ts) (hn : aw_nm y As.length) (hr : aw_rm rm' rm maxL) (hcs : cells ≤ rm.cells ∧ slots ≤ rm.slots)
    (hst : S = As.reverse ++ rest) (hcat : (rest.map fun v => v.category).sum ≤ 8) (hd : decode cc pc = .ok (.invokestatic index, 3)) (kk : aw_J κ cells slots w1 L (pc + 3) (rest)) : aw_J κ cells slots w L pc S := aw_callSN C hM hw hG hl1 hini hstat hn hr hcs hst hcat hd kk
def aw_max (x y : Int32) : Int32 := if x < y then y else x
theorem aw_mmax (C : aw_X0 l D tys Zs rm cc n own Ts E κ) {index : Nat} (hlink : Cond.methodLink own index Lib.Math.max.name ∈ Ts) (hstat : Cond.static Lib.Math.max.name ∈ Ts) (hini : Cond.initialized "java/lang/Math" ∈ Ts) (hcode : Cond.code Lib.Math.max.name Lib.Math.max.code 2 (some .int) ∈ Ts) {x y : Int32} (hr1 : 1 ≤ rm.frames) (hr2 : (S.map fun v => v.category).sum + 13 ≤ rm.locals) (hcs : cells ≤ rm.cells ∧ slots ≤ rm.slots)
    (hd : decode cc pc = .ok (.invokestatic index, 3)) (kk : aw_J κ cells slots w L (pc + 3) (.int (aw_max x y) :: S)) : aw_J κ cells slots w L pc (.int y :: .int x :: S) := by
  obtain ⟨p, l0, e, R, s, m, args, below, meth, c, Q, D0, A, nL⟩ := κ
  obtain ⟨rfl, rfl, rfl, rfl, hx, hb, hml, hown, hts, hKK, hA, hlk, hZ, hE⟩ := C
  intro H locs ls hP hD hS hl
  exact va_mmax hx hb (hml.trans hl.1.symm) hown (hts _ hlink) (hts _ hstat) (hts _ hini) (hts _ hcode) hr1 hr2 hcs.1 hcs.2 hd (kk H locs ls hP hD hS hl)
theorem aw_loc (C : aw_X0 l D tys Zs rm cc n own Ts E κ) (ks : List Nat) (h : lv_pick L ks = L') (kk : aw_J κ cells slots w L' pc S) : aw_J κ cells slots w L pc S := by
  obtain ⟨p, l0, e, R, s, m, args, below, meth, c, Q, D0, A, nL⟩ := κ
  intro H locs ls hP hD hS hl
  exact kk H locs ls hP hD hS (lv_sub hl ks h)
end AWH
end
section
/-! What the walks of both sides share -/
def aw_in (i : Int32) (n : Nat) : Bool := decide (¬ (i < 0 ∨ n ≤ i.toNatClampNeg))
theorem aw_in_ok {i : Int32} {n : Nat} (h : aw_in i n = true) : vp_in i n := by
  unfold aw_in at h
  exact (of_decide_eq_true h : ¬ (i < 0 ∨ n ≤ i.toNatClampNeg))
theorem aw_in_lt {i : Int32} {n : Nat} (h : aw_in i n = true) : i.toNatClampNeg < n := Nat.not_le.mp fun q => (aw_in_ok h) (Or.inr q)
theorem aw_bnd {α β : Type} {x : Option α} {f : α → Option β} {q : β} (h : x.bind f = some q) : ∃ a, x = some a ∧ f a = some q := by
  cases x with
  | none => cases h
  | some a => exact ⟨a, rfl, h⟩
theorem aw_grd {α : Type} {c : Prop} {d : Decidable c} {x : Option α} {q : α} (h : @ite _ c d x none = some q) : c ∧ x = some q := by
  by_cases hc : c
  · rw [if_pos hc] at h; exact ⟨hc, h⟩
  · rw [if_neg hc] at h; cases h
/-- a memory gets a name -/
def aw_l {α : Type} (s : aw_m) (f : aw_m → α) : α := f s
theorem aw_let {α : Type} {s : aw_m} {f : aw_m → α} {q : α} (h : aw_l s f = q) : ∃ t, t = s ∧ f t = q := ⟨s, rfl, h⟩
def aw_p (σ : aw_m) (k i : Nat) (v : Int32) : aw_m := aw_s σ k (upd (σ k) i v)
def aw_c (σ : aw_m) (k0 k1 : Nat) (sp dp n : Nat) : aw_m := aw_s σ k1 (va_cpy (σ k0) (σ k1) sp dp n)
def rm_D (d : Nat) : Room := { frames := d, cells := 0, slots := 0, locals := 40 * d }
theorem rm_lt {a b m : Nat} (h : a < b) (hm : m ≤ 21) : aw_rm (rm_D a) (rm_D b) m := ⟨rfl, rfl, h, by show 8 + (m + 11) + 40 * a ≤ 40 * b; omega⟩
/-- the static array PARTS, and the words of the nest -/
def zp_parts : Nat → Int32 := fun k => ([0, 0, 0, 1, 2, 2, 2, 2, 2, 3, 2, 0] : List Int32).getD k 0
def zs_N : List Cond := [.methodLinkNest "ModuleShelf" 9 ⟨"ModuleShelf$Code", "<init>", "()V"⟩ "ModuleShelf", .methodLinkNest "ModuleShelf$Image" 11 ⟨"ModuleShelf$Unit", "<init>", "()V"⟩ "ModuleShelf", .methodLinkNest "ModuleShelf$Library" 17 ⟨"ModuleShelf$Unit", "<init>", "()V"⟩ "ModuleShelf", .methodLinkNest "ModuleShelf$Library" 18 ⟨"ModuleShelf", "isModule", "(I)Z"⟩ "ModuleShelf", .methodLinkNest "ModuleShelf$Machine" 17 ⟨"ModuleShelf$Frame", "<init>", "()V"⟩ "ModuleShelf", .methodLinkNest "ModuleShelf$Memory" 21 ⟨"ModuleShelf$Image", "<init>", "()V"⟩ "ModuleShelf", .methodLinkNest "ModuleShelf$Memory" 22 ⟨"ModuleShelf", "isModule", "(I)Z"⟩ "ModuleShelf", .methodLinkNest "ModuleShelf$Unit" 20 ⟨"ModuleShelf$Code", "<init>", "()V"⟩ "ModuleShelf", .fieldLinkNest "ModuleShelf$Library" 80 "ModuleShelf" "PARTS" "[I" "ModuleShelf", .fieldLinkNest "ModuleShelf$Machine" 121 "ModuleShelf" "PARTS" "[I" "ModuleShelf", .arrayOver (.object "ModuleShelf$Unit"), .arrayOver (.object "ModuleShelf$Image"), .arrayOver (.object "ModuleShelf$Frame")]
def zs_T (ps : Nat) : aw_T := ([(("ModuleShelf", "PARTS"), ps, 12, zp_parts)], zs_N)
def ty_z (ids : Nat → ClassId) : List (ClassId × FieldType) := [(ids 0, .int), (ids 1, .boolean), (ids 2, .object "ModuleShelf$Unit"), (ids 3, .object "ModuleShelf$Image"), (ids 4, .object "ModuleShelf$Frame")]
/-! The class: its 140 cells in the order of their making. Kinds: 15 the shelf, 1 Code, 2 int[3], 3 int[42], 4 Library, 5 its units, 6 Unit, 7 int[6], 8 Memory, 9 its images, 10 boolean[6], 11 Image, 12 Machine, 13 its frames, 14 Frame -/
def kd_u (k : Nat) : Nat := if k = 0 then 6 else if k ≤ 2 then 7 else if k = 3 then 1 else if k ≤ 5 then 2 else 3
def kd_k (k : Nat) : Nat :=
  if k = 0 then 15
  else if k < 7 then (if k = 1 then 1 else if k ≤ 3 then 2 else 3)
  else if k = 7 then 4 else if k = 8 then 5
  else if k < 63 then kd_u ((k - 9) % 9)
  else if k = 63 then 8 else if k = 64 then 9 else if k = 65 then 10
  else if k < 132 then (if (k - 66) % 11 = 0 then 11 else if (k - 66) % 11 = 10 then 2 else kd_u ((k - 66) % 11 - 1))
  else if k = 132 then 12 else if k = 133 then 13
  else if k < 140 then 14 else 0
def ly_k (ad : Nat → Nat) (ids : Nat → ClassId) (k : Nat) (f : Nat → Int32) : va_E := match kd_k k with
  | 1 => .inr (0, [.int (f 0), .int (f 1), .ref (ad (k + 1)), .ref (ad (k + 2)), .ref (ad (k + 3)), .ref (ad (k + 4)), .ref (ad (k + 5))])
  | 2 => .inl (ids 0, 3, .inl f)
  | 3 => .inl (ids 0, 42, .inl f)
  | 4 => .inr (3, [.ref (ad (k + 1)), .int (f 1), .int (f 2)])
  | 5 => .inl (ids 2, 6, .inr (.inr (.inr (.inr (fun i => if i < 6 then some (ad (k + 1 + 9 * i)) else none)))))
  | 6 => .inr (6, [.int (f 0), .int (f 1), .int (f 2), .ref (ad (k + 1)), .ref (ad (k + 2)), .ref (ad (k + 3))])
  | 7 => .inl (ids 0, 6, .inl f)
  | 8 => .inr (5, [.ref (ad (k + 1)), .ref (ad (k + 2))])
  | 9 => .inl (ids 3, 6, .inr (.inr (.inr (.inr (fun i => if i < 6 then some (ad (k + 2 + 11 * i)) else none)))))
  | 10 => .inl (ids 1, 6, .inl f)
  | 11 => .inr (2, [.ref (ad (k + 1)), .ref (ad (k + 10))])
  | 12 => .inr (4, [.ref (ad (k + 1)), .int (f 1), .int (f 2)])
  | 13 => .inl (ids 4, 6, .inr (.inr (.inr (.inr (fun i => if i < 6 then some (ad (k + 1 + i)) else none)))))
  | 14 => .inr (1, [.int (f 0), .int (f 1), .int (f 2), .int (f 3), .int (f 4)])
  | 15 => .inr (7, [.ref (ad 1), .ref (ad 7), .ref (ad 63), .ref (ad 132), .int (f 4), .int (f 5)])
  | _ => .inr (9, [])
abbrev cw_w (ad : Nat → Nat) (ids : Nat → ClassId) (σ : aw_m) : va_W := aw_w 140 ad (ly_k ad ids) σ
theorem kd_lt {k c : Nat} (h : kd_k k = c + 1) : k < 140 := by
  rcases Nat.lt_or_ge k 140 with q | q
  · exact q
  · exfalso
    unfold kd_k at h
    rw [if_neg (by omega), if_neg (by omega), if_neg (by omega), if_neg (by omega), if_neg (by omega), if_neg (by omega), if_neg (by omega), if_neg (by omega), if_neg (by omega), if_neg (by omega), if_neg (by omega), if_neg (by omega)] at h
    cases h
theorem kf_C_arguments {k : Nat} (h : kd_k k = 1) : kd_k (k + 1) = 2 := (by decide +kernel : ∀ k, k < 140 → kd_k k = 1 → kd_k (k + 1) = 2) k (kd_lt h) h
theorem kf_C_lengths {k : Nat} (h : kd_k k = 1) : kd_k (k + 2) = 2 := (by decide +kernel : ∀ k, k < 140 → kd_k k = 1 → kd_k (k + 2) = 2) k (kd_lt h) h
theorem kf_C_ops {k : Nat} (h : kd_k k = 1) : kd_k (k + 3) = 3 := (by decide +kernel : ∀ k, k < 140 → kd_k k = 1 → kd_k (k + 3) = 3) k (kd_lt h) h
theorem kf_C_as {k : Nat} (h : kd_k k = 1) : kd_k (k + 4) = 3 := (by decide +kernel : ∀ k, k < 140 → kd_k k = 1 → kd_k (k + 4) = 3) k (kd_lt h) h
theorem kf_C_bs {k : Nat} (h : kd_k k = 1) : kd_k (k + 5) = 3 := (by decide +kernel : ∀ k, k < 140 → kd_k k = 1 → kd_k (k + 5) = 3) k (kd_lt h) h
theorem kf_L_units {k : Nat} (h : kd_k k = 4) : kd_k (k + 1) = 5 := (by decide +kernel : ∀ k, k < 140 → kd_k k = 4 → kd_k (k + 1) = 5) k (kd_lt h) h
theorem kf_U_importModules {k : Nat} (h : kd_k k = 6) : kd_k (k + 1) = 7 := (by decide +kernel : ∀ k, k < 140 → kd_k k = 6 → kd_k (k + 1) = 7) k (kd_lt h) h
theorem kf_U_importKeys {k : Nat} (h : kd_k k = 6) : kd_k (k + 2) = 7 := (by decide +kernel : ∀ k, k < 140 → kd_k k = 6 → kd_k (k + 2) = 7) k (kd_lt h) h
theorem kf_U_code {k : Nat} (h : kd_k k = 6) : kd_k (k + 3) = 1 := (by decide +kernel : ∀ k, k < 140 → kd_k k = 6 → kd_k (k + 3) = 1) k (kd_lt h) h
theorem kf_M_images {k : Nat} (h : kd_k k = 8) : kd_k (k + 1) = 9 := (by decide +kernel : ∀ k, k < 140 → kd_k k = 8 → kd_k (k + 1) = 9) k (kd_lt h) h
theorem kf_M_begun {k : Nat} (h : kd_k k = 8) : kd_k (k + 2) = 10 := (by decide +kernel : ∀ k, k < 140 → kd_k k = 8 → kd_k (k + 2) = 10) k (kd_lt h) h
theorem kf_I_unit {k : Nat} (h : kd_k k = 11) : kd_k (k + 1) = 6 := (by decide +kernel : ∀ k, k < 140 → kd_k k = 11 → kd_k (k + 1) = 6) k (kd_lt h) h
theorem kf_I_values {k : Nat} (h : kd_k k = 11) : kd_k (k + 10) = 2 := (by decide +kernel : ∀ k, k < 140 → kd_k k = 11 → kd_k (k + 10) = 2) k (kd_lt h) h
theorem kf_N_frames {k : Nat} (h : kd_k k = 12) : kd_k (k + 1) = 13 := (by decide +kernel : ∀ k, k < 140 → kd_k k = 12 → kd_k (k + 1) = 13) k (kd_lt h) h
theorem kf_S_draft {k : Nat} (h : kd_k k = 15) : kd_k (1) = 1 := (by decide +kernel : ∀ k, k < 140 → kd_k k = 15 → kd_k (1) = 1) k (kd_lt h) h
theorem kf_S_library {k : Nat} (h : kd_k k = 15) : kd_k (7) = 4 := (by decide +kernel : ∀ k, k < 140 → kd_k k = 15 → kd_k (7) = 4) k (kd_lt h) h
theorem kf_S_memory {k : Nat} (h : kd_k k = 15) : kd_k (63) = 8 := (by decide +kernel : ∀ k, k < 140 → kd_k k = 15 → kd_k (63) = 8) k (kd_lt h) h
theorem kf_S_machine {k : Nat} (h : kd_k k = 15) : kd_k (132) = 12 := (by decide +kernel : ∀ k, k < 140 → kd_k k = 15 → kd_k (132) = 12) k (kd_lt h) h
theorem ka_U6 {k i : Nat} (h : kd_k k = 5) (hi : i < 6) : kd_k (k + 1 + 9 * i) = 6 := (by decide +kernel : ∀ k, k < 140 → kd_k k = 5 → ∀ i, i < 6 → kd_k (k + 1 + 9 * i) = 6) k (kd_lt h) h i hi
theorem ka_I6 {k i : Nat} (h : kd_k k = 9) (hi : i < 6) : kd_k (k + 2 + 11 * i) = 11 := (by decide +kernel : ∀ k, k < 140 → kd_k k = 9 → ∀ i, i < 6 → kd_k (k + 2 + 11 * i) = 11) k (kd_lt h) h i hi
theorem ka_F6 {k i : Nat} (h : kd_k k = 13) (hi : i < 6) : kd_k (k + 1 + i) = 14 := (by decide +kernel : ∀ k, k < 140 → kd_k k = 13 → ∀ i, i < 6 → kd_k (k + 1 + i) = 14) k (kd_lt h) h i hi
theorem ly_C {ad : Nat → Nat} {ids : Nat → ClassId} {k : Nat} {f : Nat → Int32} (h : kd_k k = 1) : ly_k ad ids k f = .inr (0, [.int (f 0), .int (f 1), .ref (ad (k + 1)), .ref (ad (k + 2)), .ref (ad (k + 3)), .ref (ad (k + 4)), .ref (ad (k + 5))]) := by unfold ly_k; rw [h]; rfl
theorem at_C {ad : Nat → Nat} {ids : Nat → ClassId} {k : Nat} {σ : aw_m} (h : kd_k k = 1) : (cw_w ad ids σ)[k]? = some (ad k, .inr (0, [.int (σ k 0), .int (σ k 1), .ref (ad (k + 1)), .ref (ad (k + 2)), .ref (ad (k + 3)), .ref (ad (k + 4)), .ref (ad (k + 5))])) := by rw [aw_w_at (kd_lt h), ly_C h]
theorem ly_A3 {ad : Nat → Nat} {ids : Nat → ClassId} {k : Nat} {f : Nat → Int32} (h : kd_k k = 2) : ly_k ad ids k f = .inl (ids 0, 3, .inl f) := by unfold ly_k; rw [h]; rfl
theorem at_A3 {ad : Nat → Nat} {ids : Nat → ClassId} {k : Nat} {σ : aw_m} (h : kd_k k = 2) : (cw_w ad ids σ)[k]? = some (ad k, .inl (ids 0, 3, .inl (σ k))) := by rw [aw_w_at (kd_lt h), ly_A3 h]
theorem ly_A42 {ad : Nat → Nat} {ids : Nat → ClassId} {k : Nat} {f : Nat → Int32} (h : kd_k k = 3) : ly_k ad ids k f = .inl (ids 0, 42, .inl f) := by unfold ly_k; rw [h]; rfl
theorem at_A42 {ad : Nat → Nat} {ids : Nat → ClassId} {k : Nat} {σ : aw_m} (h : kd_k k = 3) : (cw_w ad ids σ)[k]? = some (ad k, .inl (ids 0, 42, .inl (σ k))) := by rw [aw_w_at (kd_lt h), ly_A42 h]
theorem ly_L {ad : Nat → Nat} {ids : Nat → ClassId} {k : Nat} {f : Nat → Int32} (h : kd_k k = 4) : ly_k ad ids k f = .inr (3, [.ref (ad (k + 1)), .int (f 1), .int (f 2)]) := by unfold ly_k; rw [h]; rfl
theorem at_L {ad : Nat → Nat} {ids : Nat → ClassId} {k : Nat} {σ : aw_m} (h : kd_k k = 4) : (cw_w ad ids σ)[k]? = some (ad k, .inr (3, [.ref (ad (k + 1)), .int (σ k 1), .int (σ k 2)])) := by rw [aw_w_at (kd_lt h), ly_L h]
theorem ly_U6 {ad : Nat → Nat} {ids : Nat → ClassId} {k : Nat} {f : Nat → Int32} (h : kd_k k = 5) : ly_k ad ids k f = .inl (ids 2, 6, .inr (.inr (.inr (.inr (fun i => if i < 6 then some (ad (k + 1 + 9 * i)) else none))))) := by unfold ly_k; rw [h]; rfl
theorem at_U6 {ad : Nat → Nat} {ids : Nat → ClassId} {k : Nat} {σ : aw_m} (h : kd_k k = 5) : (cw_w ad ids σ)[k]? = some (ad k, .inl (ids 2, 6, .inr (.inr (.inr (.inr (fun i => if i < 6 then some (ad (k + 1 + 9 * i)) else none)))))) := by rw [aw_w_at (kd_lt h), ly_U6 h]
theorem ly_U {ad : Nat → Nat} {ids : Nat → ClassId} {k : Nat} {f : Nat → Int32} (h : kd_k k = 6) : ly_k ad ids k f = .inr (6, [.int (f 0), .int (f 1), .int (f 2), .ref (ad (k + 1)), .ref (ad (k + 2)), .ref (ad (k + 3))]) := by unfold ly_k; rw [h]; rfl
theorem at_U {ad : Nat → Nat} {ids : Nat → ClassId} {k : Nat} {σ : aw_m} (h : kd_k k = 6) : (cw_w ad ids σ)[k]? = some (ad k, .inr (6, [.int (σ k 0), .int (σ k 1), .int (σ k 2), .ref (ad (k + 1)), .ref (ad (k + 2)), .ref (ad (k + 3))])) := by rw [aw_w_at (kd_lt h), ly_U h]
theorem ly_A6 {ad : Nat → Nat} {ids : Nat → ClassId} {k : Nat} {f : Nat → Int32} (h : kd_k k = 7) : ly_k ad ids k f = .inl (ids 0, 6, .inl f) := by unfold ly_k; rw [h]; rfl
theorem at_A6 {ad : Nat → Nat} {ids : Nat → ClassId} {k : Nat} {σ : aw_m} (h : kd_k k = 7) : (cw_w ad ids σ)[k]? = some (ad k, .inl (ids 0, 6, .inl (σ k))) := by rw [aw_w_at (kd_lt h), ly_A6 h]
theorem ly_M {ad : Nat → Nat} {ids : Nat → ClassId} {k : Nat} {f : Nat → Int32} (h : kd_k k = 8) : ly_k ad ids k f = .inr (5, [.ref (ad (k + 1)), .ref (ad (k + 2))]) := by unfold ly_k; rw [h]; rfl
theorem at_M {ad : Nat → Nat} {ids : Nat → ClassId} {k : Nat} {σ : aw_m} (h : kd_k k = 8) : (cw_w ad ids σ)[k]? = some (ad k, .inr (5, [.ref (ad (k + 1)), .ref (ad (k + 2))])) := by rw [aw_w_at (kd_lt h), ly_M h]
theorem ly_I6 {ad : Nat → Nat} {ids : Nat → ClassId} {k : Nat} {f : Nat → Int32} (h : kd_k k = 9) : ly_k ad ids k f = .inl (ids 3, 6, .inr (.inr (.inr (.inr (fun i => if i < 6 then some (ad (k + 2 + 11 * i)) else none))))) := by unfold ly_k; rw [h]; rfl
theorem at_I6 {ad : Nat → Nat} {ids : Nat → ClassId} {k : Nat} {σ : aw_m} (h : kd_k k = 9) : (cw_w ad ids σ)[k]? = some (ad k, .inl (ids 3, 6, .inr (.inr (.inr (.inr (fun i => if i < 6 then some (ad (k + 2 + 11 * i)) else none)))))) := by rw [aw_w_at (kd_lt h), ly_I6 h]
theorem ly_Z6 {ad : Nat → Nat} {ids : Nat → ClassId} {k : Nat} {f : Nat → Int32} (h : kd_k k = 10) : ly_k ad ids k f = .inl (ids 1, 6, .inl f) := by unfold ly_k; rw [h]; rfl
theorem at_Z6 {ad : Nat → Nat} {ids : Nat → ClassId} {k : Nat} {σ : aw_m} (h : kd_k k = 10) : (cw_w ad ids σ)[k]? = some (ad k, .inl (ids 1, 6, .inl (σ k))) := by rw [aw_w_at (kd_lt h), ly_Z6 h]
theorem ly_I {ad : Nat → Nat} {ids : Nat → ClassId} {k : Nat} {f : Nat → Int32} (h : kd_k k = 11) : ly_k ad ids k f = .inr (2, [.ref (ad (k + 1)), .ref (ad (k + 10))]) := by unfold ly_k; rw [h]; rfl
theorem at_I {ad : Nat → Nat} {ids : Nat → ClassId} {k : Nat} {σ : aw_m} (h : kd_k k = 11) : (cw_w ad ids σ)[k]? = some (ad k, .inr (2, [.ref (ad (k + 1)), .ref (ad (k + 10))])) := by rw [aw_w_at (kd_lt h), ly_I h]
theorem ly_N {ad : Nat → Nat} {ids : Nat → ClassId} {k : Nat} {f : Nat → Int32} (h : kd_k k = 12) : ly_k ad ids k f = .inr (4, [.ref (ad (k + 1)), .int (f 1), .int (f 2)]) := by unfold ly_k; rw [h]; rfl
theorem at_N {ad : Nat → Nat} {ids : Nat → ClassId} {k : Nat} {σ : aw_m} (h : kd_k k = 12) : (cw_w ad ids σ)[k]? = some (ad k, .inr (4, [.ref (ad (k + 1)), .int (σ k 1), .int (σ k 2)])) := by rw [aw_w_at (kd_lt h), ly_N h]
theorem ly_F6 {ad : Nat → Nat} {ids : Nat → ClassId} {k : Nat} {f : Nat → Int32} (h : kd_k k = 13) : ly_k ad ids k f = .inl (ids 4, 6, .inr (.inr (.inr (.inr (fun i => if i < 6 then some (ad (k + 1 + i)) else none))))) := by unfold ly_k; rw [h]; rfl
theorem at_F6 {ad : Nat → Nat} {ids : Nat → ClassId} {k : Nat} {σ : aw_m} (h : kd_k k = 13) : (cw_w ad ids σ)[k]? = some (ad k, .inl (ids 4, 6, .inr (.inr (.inr (.inr (fun i => if i < 6 then some (ad (k + 1 + i)) else none)))))) := by rw [aw_w_at (kd_lt h), ly_F6 h]
theorem ly_F {ad : Nat → Nat} {ids : Nat → ClassId} {k : Nat} {f : Nat → Int32} (h : kd_k k = 14) : ly_k ad ids k f = .inr (1, [.int (f 0), .int (f 1), .int (f 2), .int (f 3), .int (f 4)]) := by unfold ly_k; rw [h]; rfl
theorem at_F {ad : Nat → Nat} {ids : Nat → ClassId} {k : Nat} {σ : aw_m} (h : kd_k k = 14) : (cw_w ad ids σ)[k]? = some (ad k, .inr (1, [.int (σ k 0), .int (σ k 1), .int (σ k 2), .int (σ k 3), .int (σ k 4)])) := by rw [aw_w_at (kd_lt h), ly_F h]
theorem ly_S {ad : Nat → Nat} {ids : Nat → ClassId} {k : Nat} {f : Nat → Int32} (h : kd_k k = 15) : ly_k ad ids k f = .inr (7, [.ref (ad 1), .ref (ad 7), .ref (ad 63), .ref (ad 132), .int (f 4), .int (f 5)]) := by unfold ly_k; rw [h]; rfl
theorem at_S {ad : Nat → Nat} {ids : Nat → ClassId} {k : Nat} {σ : aw_m} (h : kd_k k = 15) : (cw_w ad ids σ)[k]? = some (ad k, .inr (7, [.ref (ad 1), .ref (ad 7), .ref (ad 63), .ref (ad 132), .int (σ k 4), .int (σ k 5)])) := by rw [aw_w_at (kd_lt h), ly_S h]
/-! The reference: its object is cell 0, its arrays cells 1 to 23 in the order of their making: 1 key[13], 2 variables[13], 3 procedures[13], 4 arguments[39], 5 size[39], 6 op[546], 7 a[546], 8 b[546], 9 imports[13], 10 importOf[65], 11 importKey[65], 12 value[18], 13 loading[8], 14 next[8], 15 left[16], 16 task[300], 17 where[300], 18 frame[300], 19 values[300], 20 frameModule[6], 21 frameProcedure[6], 22 frameX[6], 23 frameY[6] -/
def rn_l : List Nat := [0, 13, 13, 13, 39, 39, 546, 546, 546, 13, 65, 65, 18, 8, 8, 16, 300, 300, 300, 300, 6, 6, 6, 6]
def lz_k (ad : Nat → Nat) (ids : Nat → ClassId) (k : Nat) (f : Nat → Int32) : va_E := match k with
  | 0 => .inr (8, [.ref (ad 1), .ref (ad 2), .ref (ad 3), .ref (ad 4), .ref (ad 5), .ref (ad 6), .ref (ad 7), .ref (ad 8), .ref (ad 9), .ref (ad 10), .ref (ad 11), .ref (ad 12), .int (f 12), .int (f 13), .int (f 14), .int (f 15), .ref (ad 13), .ref (ad 14), .ref (ad 15), .ref (ad 16), .ref (ad 17), .ref (ad 18), .int (f 22), .ref (ad 19), .int (f 24), .ref (ad 20), .ref (ad 21), .ref (ad 22), .ref (ad 23)])
  | k + 1 => .inl (ids 0, rn_l.getD (k + 1) 0, .inl f)
abbrev rw_w (ad : Nat → Nat) (ids : Nat → ClassId) (σ : aw_m) : va_W := aw_w 24 ad (lz_k ad ids) σ
theorem at_R {ad : Nat → Nat} {ids : Nat → ClassId} {σ : aw_m} : (rw_w ad ids σ)[0]? = some (ad 0, .inr (8, [.ref (ad 1), .ref (ad 2), .ref (ad 3), .ref (ad 4), .ref (ad 5), .ref (ad 6), .ref (ad 7), .ref (ad 8), .ref (ad 9), .ref (ad 10), .ref (ad 11), .ref (ad 12), .int (σ 0 12), .int (σ 0 13), .int (σ 0 14), .int (σ 0 15), .ref (ad 13), .ref (ad 14), .ref (ad 15), .ref (ad 16), .ref (ad 17), .ref (ad 18), .int (σ 0 22), .ref (ad 19), .int (σ 0 24), .ref (ad 20), .ref (ad 21), .ref (ad 22), .ref (ad 23)])) := rfl
set_option maxRecDepth 20000 in
theorem fl_C_27 : Cond.fieldLink "ModuleShelf$Code" 27 "ModuleShelf$Code" "variables" "I" ∈ gw_l := gw_of 59 (by rfl) rfl
set_option maxRecDepth 20000 in
theorem fl_C_31 : Cond.fieldLink "ModuleShelf$Code" 31 "ModuleShelf$Code" "procedures" "I" ∈ gw_l := gw_of 60 (by rfl) rfl
set_option maxRecDepth 20000 in
theorem fl_L_29 : Cond.fieldLink "ModuleShelf$Library" 29 "ModuleShelf$Code" "procedures" "I" ∈ gw_l := gw_of 61 (by rfl) rfl
set_option maxRecDepth 20000 in
theorem fl_S_128 : Cond.fieldLink "ModuleShelf" 128 "ModuleShelf$Code" "procedures" "I" ∈ gw_l := gw_of 62 (by rfl) rfl
set_option maxRecDepth 20000 in
theorem fl_C_9 : Cond.fieldLink "ModuleShelf$Code" 9 "ModuleShelf$Code" "arguments" "[I" ∈ gw_l := gw_of 63 (by rfl) rfl
set_option maxRecDepth 20000 in
theorem fl_C_15 : Cond.fieldLink "ModuleShelf$Code" 15 "ModuleShelf$Code" "lengths" "[I" ∈ gw_l := gw_of 64 (by rfl) rfl
set_option maxRecDepth 20000 in
theorem fl_C_18 : Cond.fieldLink "ModuleShelf$Code" 18 "ModuleShelf$Code" "ops" "[I" ∈ gw_l := gw_of 65 (by rfl) rfl
set_option maxRecDepth 20000 in
theorem fl_N_80 : Cond.fieldLink "ModuleShelf$Machine" 80 "ModuleShelf$Code" "ops" "[I" ∈ gw_l := gw_of 66 (by rfl) rfl
set_option maxRecDepth 20000 in
theorem fl_L_64 : Cond.fieldLink "ModuleShelf$Library" 64 "ModuleShelf$Code" "ops" "[I" ∈ gw_l := gw_of 67 (by rfl) rfl
set_option maxRecDepth 20000 in
theorem fl_C_21 : Cond.fieldLink "ModuleShelf$Code" 21 "ModuleShelf$Code" "as" "[I" ∈ gw_l := gw_of 68 (by rfl) rfl
set_option maxRecDepth 20000 in
theorem fl_N_73 : Cond.fieldLink "ModuleShelf$Machine" 73 "ModuleShelf$Code" "as" "[I" ∈ gw_l := gw_of 69 (by rfl) rfl
set_option maxRecDepth 20000 in
theorem fl_L_57 : Cond.fieldLink "ModuleShelf$Library" 57 "ModuleShelf$Code" "as" "[I" ∈ gw_l := gw_of 70 (by rfl) rfl
set_option maxRecDepth 20000 in
theorem fl_C_24 : Cond.fieldLink "ModuleShelf$Code" 24 "ModuleShelf$Code" "bs" "[I" ∈ gw_l := gw_of 71 (by rfl) rfl
set_option maxRecDepth 20000 in
theorem fl_N_77 : Cond.fieldLink "ModuleShelf$Machine" 77 "ModuleShelf$Code" "bs" "[I" ∈ gw_l := gw_of 72 (by rfl) rfl
set_option maxRecDepth 20000 in
theorem fl_L_61 : Cond.fieldLink "ModuleShelf$Library" 61 "ModuleShelf$Code" "bs" "[I" ∈ gw_l := gw_of 73 (by rfl) rfl
set_option maxRecDepth 20000 in
theorem fl_L_22 : Cond.fieldLink "ModuleShelf$Library" 22 "ModuleShelf$Unit" "present" "Z" ∈ gw_l := gw_of 105 (by rfl) rfl
set_option maxRecDepth 20000 in
theorem fl_M_30 : Cond.fieldLink "ModuleShelf$Memory" 30 "ModuleShelf$Unit" "present" "Z" ∈ gw_l := gw_of 106 (by rfl) rfl
set_option maxRecDepth 20000 in
theorem fl_U_33 : Cond.fieldLink "ModuleShelf$Unit" 33 "ModuleShelf$Unit" "present" "Z" ∈ gw_l := gw_of 107 (by rfl) rfl
set_option maxRecDepth 20000 in
theorem fl_S_74 : Cond.fieldLink "ModuleShelf" 74 "ModuleShelf$Unit" "present" "Z" ∈ gw_l := gw_of 108 (by rfl) rfl
set_option maxRecDepth 20000 in
theorem fl_U_37 : Cond.fieldLink "ModuleShelf$Unit" 37 "ModuleShelf$Unit" "key" "I" ∈ gw_l := gw_of 109 (by rfl) rfl
set_option maxRecDepth 20000 in
theorem fl_L_90 : Cond.fieldLink "ModuleShelf$Library" 90 "ModuleShelf$Unit" "key" "I" ∈ gw_l := gw_of 110 (by rfl) rfl
set_option maxRecDepth 20000 in
theorem fl_M_87 : Cond.fieldLink "ModuleShelf$Memory" 87 "ModuleShelf$Unit" "key" "I" ∈ gw_l := gw_of 111 (by rfl) rfl
set_option maxRecDepth 20000 in
theorem fl_S_115 : Cond.fieldLink "ModuleShelf" 115 "ModuleShelf$Unit" "key" "I" ∈ gw_l := gw_of 112 (by rfl) rfl
set_option maxRecDepth 20000 in
theorem fl_U_25 : Cond.fieldLink "ModuleShelf$Unit" 25 "ModuleShelf$Unit" "imports" "I" ∈ gw_l := gw_of 113 (by rfl) rfl
set_option maxRecDepth 20000 in
theorem fl_L_101 : Cond.fieldLink "ModuleShelf$Library" 101 "ModuleShelf$Unit" "imports" "I" ∈ gw_l := gw_of 114 (by rfl) rfl
set_option maxRecDepth 20000 in
theorem fl_M_80 : Cond.fieldLink "ModuleShelf$Memory" 80 "ModuleShelf$Unit" "imports" "I" ∈ gw_l := gw_of 115 (by rfl) rfl
set_option maxRecDepth 20000 in
theorem fl_S_118 : Cond.fieldLink "ModuleShelf" 118 "ModuleShelf$Unit" "imports" "I" ∈ gw_l := gw_of 116 (by rfl) rfl
set_option maxRecDepth 20000 in
theorem fl_U_9 : Cond.fieldLink "ModuleShelf$Unit" 9 "ModuleShelf$Unit" "importModules" "[I" ∈ gw_l := gw_of 117 (by rfl) rfl
set_option maxRecDepth 20000 in
theorem fl_M_84 : Cond.fieldLink "ModuleShelf$Memory" 84 "ModuleShelf$Unit" "importModules" "[I" ∈ gw_l := gw_of 118 (by rfl) rfl
set_option maxRecDepth 20000 in
theorem fl_S_121 : Cond.fieldLink "ModuleShelf" 121 "ModuleShelf$Unit" "importModules" "[I" ∈ gw_l := gw_of 119 (by rfl) rfl
set_option maxRecDepth 20000 in
theorem fl_U_15 : Cond.fieldLink "ModuleShelf$Unit" 15 "ModuleShelf$Unit" "importKeys" "[I" ∈ gw_l := gw_of 120 (by rfl) rfl
set_option maxRecDepth 20000 in
theorem fl_M_90 : Cond.fieldLink "ModuleShelf$Memory" 90 "ModuleShelf$Unit" "importKeys" "[I" ∈ gw_l := gw_of 121 (by rfl) rfl
set_option maxRecDepth 20000 in
theorem fl_S_125 : Cond.fieldLink "ModuleShelf" 125 "ModuleShelf$Unit" "importKeys" "[I" ∈ gw_l := gw_of 122 (by rfl) rfl
set_option maxRecDepth 20000 in
theorem fl_U_21 : Cond.fieldLink "ModuleShelf$Unit" 21 "ModuleShelf$Unit" "code" "LModuleShelf$Code;" ∈ gw_l := gw_of 123 (by rfl) rfl
set_option maxRecDepth 20000 in
theorem fl_N_48 : Cond.fieldLink "ModuleShelf$Machine" 48 "ModuleShelf$Unit" "code" "LModuleShelf$Code;" ∈ gw_l := gw_of 124 (by rfl) rfl
set_option maxRecDepth 20000 in
theorem fl_M_39 : Cond.fieldLink "ModuleShelf$Memory" 39 "ModuleShelf$Unit" "code" "LModuleShelf$Code;" ∈ gw_l := gw_of 125 (by rfl) rfl
set_option maxRecDepth 20000 in
theorem fl_L_73 : Cond.fieldLink "ModuleShelf$Library" 73 "ModuleShelf$Unit" "code" "LModuleShelf$Code;" ∈ gw_l := gw_of 126 (by rfl) rfl
set_option maxRecDepth 20000 in
theorem fl_L_11 : Cond.fieldLink "ModuleShelf$Library" 11 "ModuleShelf$Library" "units" "[LModuleShelf$Unit;" ∈ gw_l := gw_of 140 (by rfl) rfl
set_option maxRecDepth 20000 in
theorem fl_S_70 : Cond.fieldLink "ModuleShelf" 70 "ModuleShelf$Library" "units" "[LModuleShelf$Unit;" ∈ gw_l := gw_of 141 (by rfl) rfl
set_option maxRecDepth 20000 in
theorem fl_M_76 : Cond.fieldLink "ModuleShelf$Memory" 76 "ModuleShelf$Library" "units" "[LModuleShelf$Unit;" ∈ gw_l := gw_of 142 (by rfl) rfl
set_option maxRecDepth 20000 in
theorem fl_L_87 : Cond.fieldLink "ModuleShelf$Library" 87 "ModuleShelf$Library" "keysGiven" "I" ∈ gw_l := gw_of 143 (by rfl) rfl
set_option maxRecDepth 20000 in
theorem fl_S_142 : Cond.fieldLink "ModuleShelf" 142 "ModuleShelf$Library" "keysGiven" "I" ∈ gw_l := gw_of 144 (by rfl) rfl
set_option maxRecDepth 20000 in
theorem fl_L_35 : Cond.fieldLink "ModuleShelf$Library" 35 "ModuleShelf$Library" "at" "I" ∈ gw_l := gw_of 145 (by rfl) rfl
set_option maxRecDepth 20000 in
theorem fl_I_12 : Cond.fieldLink "ModuleShelf$Image" 12 "ModuleShelf$Image" "unit" "LModuleShelf$Unit;" ∈ gw_l := gw_of 168 (by rfl) rfl
set_option maxRecDepth 20000 in
theorem fl_M_26 : Cond.fieldLink "ModuleShelf$Memory" 26 "ModuleShelf$Image" "unit" "LModuleShelf$Unit;" ∈ gw_l := gw_of 169 (by rfl) rfl
set_option maxRecDepth 20000 in
theorem fl_N_42 : Cond.fieldLink "ModuleShelf$Machine" 42 "ModuleShelf$Image" "unit" "LModuleShelf$Unit;" ∈ gw_l := gw_of 170 (by rfl) rfl
set_option maxRecDepth 20000 in
theorem fl_S_92 : Cond.fieldLink "ModuleShelf" 92 "ModuleShelf$Image" "unit" "LModuleShelf$Unit;" ∈ gw_l := gw_of 171 (by rfl) rfl
set_option maxRecDepth 20000 in
theorem fl_I_18 : Cond.fieldLink "ModuleShelf$Image" 18 "ModuleShelf$Image" "values" "[I" ∈ gw_l := gw_of 172 (by rfl) rfl
set_option maxRecDepth 20000 in
theorem fl_M_59 : Cond.fieldLink "ModuleShelf$Memory" 59 "ModuleShelf$Image" "values" "[I" ∈ gw_l := gw_of 173 (by rfl) rfl
set_option maxRecDepth 20000 in
theorem fl_M_11 : Cond.fieldLink "ModuleShelf$Memory" 11 "ModuleShelf$Memory" "images" "[LModuleShelf$Image;" ∈ gw_l := gw_of 180 (by rfl) rfl
set_option maxRecDepth 20000 in
theorem fl_N_33 : Cond.fieldLink "ModuleShelf$Machine" 33 "ModuleShelf$Memory" "images" "[LModuleShelf$Image;" ∈ gw_l := gw_of 181 (by rfl) rfl
set_option maxRecDepth 20000 in
theorem fl_S_88 : Cond.fieldLink "ModuleShelf" 88 "ModuleShelf$Memory" "images" "[LModuleShelf$Image;" ∈ gw_l := gw_of 182 (by rfl) rfl
set_option maxRecDepth 20000 in
theorem fl_M_17 : Cond.fieldLink "ModuleShelf$Memory" 17 "ModuleShelf$Memory" "begun" "[Z" ∈ gw_l := gw_of 183 (by rfl) rfl
set_option maxRecDepth 20000 in
theorem fl_F_7 : Cond.fieldLink "ModuleShelf$Frame" 7 "ModuleShelf$Frame" "module" "I" ∈ gw_l := gw_of 202 (by rfl) rfl
set_option maxRecDepth 20000 in
theorem fl_N_39 : Cond.fieldLink "ModuleShelf$Machine" 39 "ModuleShelf$Frame" "module" "I" ∈ gw_l := gw_of 203 (by rfl) rfl
set_option maxRecDepth 20000 in
theorem fl_F_13 : Cond.fieldLink "ModuleShelf$Frame" 13 "ModuleShelf$Frame" "procedure" "I" ∈ gw_l := gw_of 204 (by rfl) rfl
set_option maxRecDepth 20000 in
theorem fl_N_57 : Cond.fieldLink "ModuleShelf$Machine" 57 "ModuleShelf$Frame" "procedure" "I" ∈ gw_l := gw_of 205 (by rfl) rfl
set_option maxRecDepth 20000 in
theorem fl_F_16 : Cond.fieldLink "ModuleShelf$Frame" 16 "ModuleShelf$Frame" "x" "I" ∈ gw_l := gw_of 206 (by rfl) rfl
set_option maxRecDepth 20000 in
theorem fl_N_83 : Cond.fieldLink "ModuleShelf$Machine" 83 "ModuleShelf$Frame" "x" "I" ∈ gw_l := gw_of 207 (by rfl) rfl
set_option maxRecDepth 20000 in
theorem fl_F_19 : Cond.fieldLink "ModuleShelf$Frame" 19 "ModuleShelf$Frame" "y" "I" ∈ gw_l := gw_of 208 (by rfl) rfl
set_option maxRecDepth 20000 in
theorem fl_N_86 : Cond.fieldLink "ModuleShelf$Machine" 86 "ModuleShelf$Frame" "y" "I" ∈ gw_l := gw_of 209 (by rfl) rfl
set_option maxRecDepth 20000 in
theorem fl_F_22 : Cond.fieldLink "ModuleShelf$Frame" 22 "ModuleShelf$Frame" "at" "I" ∈ gw_l := gw_of 210 (by rfl) rfl
set_option maxRecDepth 20000 in
theorem fl_N_54 : Cond.fieldLink "ModuleShelf$Machine" 54 "ModuleShelf$Frame" "at" "I" ∈ gw_l := gw_of 211 (by rfl) rfl
set_option maxRecDepth 20000 in
theorem fl_N_11 : Cond.fieldLink "ModuleShelf$Machine" 11 "ModuleShelf$Machine" "frames" "[LModuleShelf$Frame;" ∈ gw_l := gw_of 223 (by rfl) rfl
set_option maxRecDepth 20000 in
theorem fl_N_18 : Cond.fieldLink "ModuleShelf$Machine" 18 "ModuleShelf$Machine" "stepsBegun" "I" ∈ gw_l := gw_of 224 (by rfl) rfl
set_option maxRecDepth 20000 in
theorem fl_S_109 : Cond.fieldLink "ModuleShelf" 109 "ModuleShelf$Machine" "stepsBegun" "I" ∈ gw_l := gw_of 225 (by rfl) rfl
set_option maxRecDepth 20000 in
theorem fl_N_22 : Cond.fieldLink "ModuleShelf$Machine" 22 "ModuleShelf$Machine" "fault" "I" ∈ gw_l := gw_of 226 (by rfl) rfl
set_option maxRecDepth 20000 in
theorem fl_S_106 : Cond.fieldLink "ModuleShelf" 106 "ModuleShelf$Machine" "fault" "I" ∈ gw_l := gw_of 227 (by rfl) rfl
set_option maxRecDepth 20000 in
theorem fl_S_10 : Cond.fieldLink "ModuleShelf" 10 "ModuleShelf" "draft" "LModuleShelf$Code;" ∈ gw_l := gw_of 235 (by rfl) rfl
set_option maxRecDepth 20000 in
theorem fl_S_19 : Cond.fieldLink "ModuleShelf" 19 "ModuleShelf" "library" "LModuleShelf$Library;" ∈ gw_l := gw_of 236 (by rfl) rfl
set_option maxRecDepth 20000 in
theorem fl_S_26 : Cond.fieldLink "ModuleShelf" 26 "ModuleShelf" "memory" "LModuleShelf$Memory;" ∈ gw_l := gw_of 237 (by rfl) rfl
set_option maxRecDepth 20000 in
theorem fl_S_33 : Cond.fieldLink "ModuleShelf" 33 "ModuleShelf" "machine" "LModuleShelf$Machine;" ∈ gw_l := gw_of 238 (by rfl) rfl
set_option maxRecDepth 20000 in
theorem fl_S_37 : Cond.fieldLink "ModuleShelf" 37 "ModuleShelf" "wrongPlace" "I" ∈ gw_l := gw_of 239 (by rfl) rfl
set_option maxRecDepth 20000 in
theorem fl_S_41 : Cond.fieldLink "ModuleShelf" 41 "ModuleShelf" "lastValue" "I" ∈ gw_l := gw_of 240 (by rfl) rfl
set_option maxRecDepth 20000 in
theorem fl_R_7 : Cond.fieldLink "ModuleShelfModel" 7 "ModuleShelfModel" "key" "[I" ∈ gw_l := gw_of 533 (by rfl) rfl
set_option maxRecDepth 20000 in
theorem fl_R_13 : Cond.fieldLink "ModuleShelfModel" 13 "ModuleShelfModel" "variables" "[I" ∈ gw_l := gw_of 534 (by rfl) rfl
set_option maxRecDepth 20000 in
theorem fl_R_16 : Cond.fieldLink "ModuleShelfModel" 16 "ModuleShelfModel" "procedures" "[I" ∈ gw_l := gw_of 535 (by rfl) rfl
set_option maxRecDepth 20000 in
theorem fl_R_19 : Cond.fieldLink "ModuleShelfModel" 19 "ModuleShelfModel" "arguments" "[I" ∈ gw_l := gw_of 536 (by rfl) rfl
set_option maxRecDepth 20000 in
theorem fl_R_22 : Cond.fieldLink "ModuleShelfModel" 22 "ModuleShelfModel" "size" "[I" ∈ gw_l := gw_of 537 (by rfl) rfl
set_option maxRecDepth 20000 in
theorem fl_R_25 : Cond.fieldLink "ModuleShelfModel" 25 "ModuleShelfModel" "op" "[I" ∈ gw_l := gw_of 538 (by rfl) rfl
set_option maxRecDepth 20000 in
theorem fl_R_28 : Cond.fieldLink "ModuleShelfModel" 28 "ModuleShelfModel" "a" "[I" ∈ gw_l := gw_of 539 (by rfl) rfl
set_option maxRecDepth 20000 in
theorem fl_R_31 : Cond.fieldLink "ModuleShelfModel" 31 "ModuleShelfModel" "b" "[I" ∈ gw_l := gw_of 540 (by rfl) rfl
set_option maxRecDepth 20000 in
theorem fl_R_34 : Cond.fieldLink "ModuleShelfModel" 34 "ModuleShelfModel" "imports" "[I" ∈ gw_l := gw_of 541 (by rfl) rfl
set_option maxRecDepth 20000 in
theorem fl_R_37 : Cond.fieldLink "ModuleShelfModel" 37 "ModuleShelfModel" "importOf" "[I" ∈ gw_l := gw_of 542 (by rfl) rfl
set_option maxRecDepth 20000 in
theorem fl_R_40 : Cond.fieldLink "ModuleShelfModel" 40 "ModuleShelfModel" "importKey" "[I" ∈ gw_l := gw_of 543 (by rfl) rfl
set_option maxRecDepth 20000 in
theorem fl_R_43 : Cond.fieldLink "ModuleShelfModel" 43 "ModuleShelfModel" "value" "[I" ∈ gw_l := gw_of 544 (by rfl) rfl
set_option maxRecDepth 20000 in
theorem fl_R_106 : Cond.fieldLink "ModuleShelfModel" 106 "ModuleShelfModel" "given" "I" ∈ gw_l := gw_of 545 (by rfl) rfl
set_option maxRecDepth 20000 in
theorem fl_R_46 : Cond.fieldLink "ModuleShelfModel" 46 "ModuleShelfModel" "place" "I" ∈ gw_l := gw_of 546 (by rfl) rfl
set_option maxRecDepth 20000 in
theorem fl_R_156 : Cond.fieldLink "ModuleShelfModel" 156 "ModuleShelfModel" "result" "I" ∈ gw_l := gw_of 547 (by rfl) rfl
set_option maxRecDepth 20000 in
theorem fl_R_133 : Cond.fieldLink "ModuleShelfModel" 133 "ModuleShelfModel" "steps" "I" ∈ gw_l := gw_of 548 (by rfl) rfl
set_option maxRecDepth 20000 in
theorem fl_R_50 : Cond.fieldLink "ModuleShelfModel" 50 "ModuleShelfModel" "loading" "[I" ∈ gw_l := gw_of 549 (by rfl) rfl
set_option maxRecDepth 20000 in
theorem fl_R_53 : Cond.fieldLink "ModuleShelfModel" 53 "ModuleShelfModel" "next" "[I" ∈ gw_l := gw_of 550 (by rfl) rfl
set_option maxRecDepth 20000 in
theorem fl_R_56 : Cond.fieldLink "ModuleShelfModel" 56 "ModuleShelfModel" "left" "[I" ∈ gw_l := gw_of 551 (by rfl) rfl
set_option maxRecDepth 20000 in
theorem fl_R_59 : Cond.fieldLink "ModuleShelfModel" 59 "ModuleShelfModel" "task" "[I" ∈ gw_l := gw_of 552 (by rfl) rfl
set_option maxRecDepth 20000 in
theorem fl_R_62 : Cond.fieldLink "ModuleShelfModel" 62 "ModuleShelfModel" "where" "[I" ∈ gw_l := gw_of 553 (by rfl) rfl
set_option maxRecDepth 20000 in
theorem fl_R_65 : Cond.fieldLink "ModuleShelfModel" 65 "ModuleShelfModel" "frame" "[I" ∈ gw_l := gw_of 554 (by rfl) rfl
set_option maxRecDepth 20000 in
theorem fl_R_124 : Cond.fieldLink "ModuleShelfModel" 124 "ModuleShelfModel" "tasks" "I" ∈ gw_l := gw_of 555 (by rfl) rfl
set_option maxRecDepth 20000 in
theorem fl_R_68 : Cond.fieldLink "ModuleShelfModel" 68 "ModuleShelfModel" "values" "[I" ∈ gw_l := gw_of 556 (by rfl) rfl
set_option maxRecDepth 20000 in
theorem fl_R_127 : Cond.fieldLink "ModuleShelfModel" 127 "ModuleShelfModel" "held" "I" ∈ gw_l := gw_of 557 (by rfl) rfl
set_option maxRecDepth 20000 in
theorem fl_R_71 : Cond.fieldLink "ModuleShelfModel" 71 "ModuleShelfModel" "frameModule" "[I" ∈ gw_l := gw_of 558 (by rfl) rfl
set_option maxRecDepth 20000 in
theorem fl_R_74 : Cond.fieldLink "ModuleShelfModel" 74 "ModuleShelfModel" "frameProcedure" "[I" ∈ gw_l := gw_of 559 (by rfl) rfl
set_option maxRecDepth 20000 in
theorem fl_R_77 : Cond.fieldLink "ModuleShelfModel" 77 "ModuleShelfModel" "frameX" "[I" ∈ gw_l := gw_of 560 (by rfl) rfl
set_option maxRecDepth 20000 in
theorem fl_R_80 : Cond.fieldLink "ModuleShelfModel" 80 "ModuleShelfModel" "frameY" "[I" ∈ gw_l := gw_of 561 (by rfl) rfl
set_option maxRecDepth 20000 in
theorem ml_W_9 : Cond.methodLink "ModuleShelfLaw" 9 ⟨"ModuleShelf", "<init>", "()V"⟩ ∈ gw_l := gw_of 47 (by rfl) rfl
set_option maxRecDepth 20000 in
theorem ml_S_1 : Cond.methodLink "ModuleShelf" 1 ⟨"java/lang/Object", "<init>", "()V"⟩ ∈ gw_l := gw_of 50 (by rfl) rfl
set_option maxRecDepth 20000 in
theorem ml_C_3 : Cond.methodLink "ModuleShelf$Code" 3 ⟨"java/lang/Object", "<init>", "()V"⟩ ∈ gw_l := gw_of 58 (by rfl) rfl
set_option maxRecDepth 20000 in
theorem ml_S_18 : Cond.methodLink "ModuleShelf" 18 ⟨"ModuleShelf$Library", "<init>", "()V"⟩ ∈ gw_l := gw_of 92 (by rfl) rfl
set_option maxRecDepth 20000 in
theorem ml_L_3 : Cond.methodLink "ModuleShelf$Library" 3 ⟨"java/lang/Object", "<init>", "()V"⟩ ∈ gw_l := gw_of 95 (by rfl) rfl
set_option maxRecDepth 20000 in
theorem ml_U_3 : Cond.methodLink "ModuleShelf$Unit" 3 ⟨"java/lang/Object", "<init>", "()V"⟩ ∈ gw_l := gw_of 102 (by rfl) rfl
set_option maxRecDepth 20000 in
theorem ml_S_25 : Cond.methodLink "ModuleShelf" 25 ⟨"ModuleShelf$Memory", "<init>", "()V"⟩ ∈ gw_l := gw_of 155 (by rfl) rfl
set_option maxRecDepth 20000 in
theorem ml_M_3 : Cond.methodLink "ModuleShelf$Memory" 3 ⟨"java/lang/Object", "<init>", "()V"⟩ ∈ gw_l := gw_of 158 (by rfl) rfl
set_option maxRecDepth 20000 in
theorem ml_I_3 : Cond.methodLink "ModuleShelf$Image" 3 ⟨"java/lang/Object", "<init>", "()V"⟩ ∈ gw_l := gw_of 165 (by rfl) rfl
set_option maxRecDepth 20000 in
theorem ml_S_32 : Cond.methodLink "ModuleShelf" 32 ⟨"ModuleShelf$Machine", "<init>", "()V"⟩ ∈ gw_l := gw_of 191 (by rfl) rfl
set_option maxRecDepth 20000 in
theorem ml_N_3 : Cond.methodLink "ModuleShelf$Machine" 3 ⟨"java/lang/Object", "<init>", "()V"⟩ ∈ gw_l := gw_of 194 (by rfl) rfl
set_option maxRecDepth 20000 in
theorem ml_F_1 : Cond.methodLink "ModuleShelf$Frame" 1 ⟨"java/lang/Object", "<init>", "()V"⟩ ∈ gw_l := gw_of 201 (by rfl) rfl
set_option maxRecDepth 20000 in
theorem ml_W_13 : Cond.methodLink "ModuleShelfLaw" 13 ⟨"ModuleShelf", "begin", "(I)I"⟩ ∈ gw_l := gw_of 254 (by rfl) rfl
set_option maxRecDepth 20000 in
theorem ml_S_44 : Cond.methodLink "ModuleShelf" 44 ⟨"ModuleShelf$Code", "clear", "(I)V"⟩ ∈ gw_l := gw_of 258 (by rfl) rfl
set_option maxRecDepth 20000 in
theorem ml_W_18 : Cond.methodLink "ModuleShelfLaw" 18 ⟨"ModuleShelf", "procedure", "(I)I"⟩ ∈ gw_l := gw_of 262 (by rfl) rfl
set_option maxRecDepth 20000 in
theorem ml_S_48 : Cond.methodLink "ModuleShelf" 48 ⟨"ModuleShelf$Code", "addProcedure", "(I)I"⟩ ∈ gw_l := gw_of 266 (by rfl) rfl
set_option maxRecDepth 20000 in
theorem ml_W_22 : Cond.methodLink "ModuleShelfLaw" 22 ⟨"ModuleShelf", "token", "(III)I"⟩ ∈ gw_l := gw_of 270 (by rfl) rfl
set_option maxRecDepth 20000 in
theorem ml_S_52 : Cond.methodLink "ModuleShelf" 52 ⟨"ModuleShelf$Code", "addToken", "(III)I"⟩ ∈ gw_l := gw_of 274 (by rfl) rfl
set_option maxRecDepth 20000 in
theorem ml_C_34 : Cond.methodLink "ModuleShelf$Code" 34 ⟨"ModuleShelf$Code", "cellOf", "(II)I"⟩ ∈ gw_l := gw_of 278 (by rfl) rfl
set_option maxRecDepth 20000 in
theorem ml_W_27 : Cond.methodLink "ModuleShelfLaw" 27 ⟨"ModuleShelf", "compile", "(I)I"⟩ ∈ gw_l := gw_of 282 (by rfl) rfl
set_option maxRecDepth 20000 in
theorem ml_S_56 : Cond.methodLink "ModuleShelf" 56 ⟨"ModuleShelf", "isModule", "(I)Z"⟩ ∈ gw_l := gw_of 286 (by rfl) rfl
set_option maxRecDepth 20000 in
theorem ml_S_60 : Cond.methodLink "ModuleShelf" 60 ⟨"ModuleShelf$Library", "firstWrong", "(LModuleShelf$Code;I)I"⟩ ∈ gw_l := gw_of 289 (by rfl) rfl
set_option maxRecDepth 20000 in
theorem ml_L_38 : Cond.methodLink "ModuleShelf$Library" 38 ⟨"ModuleShelf$Library", "isExpression", "(LModuleShelf$Code;III)Z"⟩ ∈ gw_l := gw_of 293 (by rfl) rfl
set_option maxRecDepth 20000 in
theorem ml_L_42 : Cond.methodLink "ModuleShelf$Library" 42 ⟨"ModuleShelf$Code", "lengthOf", "(I)I"⟩ ∈ gw_l := gw_of 297 (by rfl) rfl
set_option maxRecDepth 20000 in
theorem ml_C_38 : Cond.methodLink "ModuleShelf$Code" 38 ⟨"ModuleShelf$Code", "hasProcedure", "(I)Z"⟩ ∈ gw_l := gw_of 301 (by rfl) rfl
set_option maxRecDepth 20000 in
theorem ml_L_46 : Cond.methodLink "ModuleShelf$Library" 46 ⟨"ModuleShelf$Code", "cellOf", "(II)I"⟩ ∈ gw_l := gw_of 305 (by rfl) rfl
set_option maxRecDepth 20000 in
theorem ml_L_50 : Cond.methodLink "ModuleShelf$Library" 50 ⟨"ModuleShelf$Library", "isRight", "(LModuleShelf$Code;III)Z"⟩ ∈ gw_l := gw_of 306 (by rfl) rfl
set_option maxRecDepth 20000 in
theorem ml_L_67 : Cond.methodLink "ModuleShelf$Library" 67 ⟨"ModuleShelf$Code", "argumentsOf", "(I)I"⟩ ∈ gw_l := gw_of 310 (by rfl) rfl
set_option maxRecDepth 20000 in
theorem ml_L_70 : Cond.methodLink "ModuleShelf$Library" 70 ⟨"ModuleShelf$Code", "hasVariable", "(I)Z"⟩ ∈ gw_l := gw_of 314 (by rfl) rfl
set_option maxRecDepth 20000 in
theorem ml_L_26 : Cond.methodLink "ModuleShelf$Library" 26 ⟨"ModuleShelf$Library", "has", "(I)Z"⟩ ∈ gw_l := gw_of 318 (by rfl) rfl
set_option maxRecDepth 20000 in
theorem ml_L_77 : Cond.methodLink "ModuleShelf$Library" 77 ⟨"ModuleShelf$Library", "argumentsOf", "(LModuleShelf$Code;III)I"⟩ ∈ gw_l := gw_of 323 (by rfl) rfl
set_option maxRecDepth 20000 in
theorem ml_L_53 : Cond.methodLink "ModuleShelf$Library" 53 ⟨"ModuleShelf$Library", "partsOf", "(LModuleShelf$Code;II)I"⟩ ∈ gw_l := gw_of 327 (by rfl) rfl
set_option maxRecDepth 20000 in
theorem ml_S_64 : Cond.methodLink "ModuleShelf" 64 ⟨"ModuleShelf$Library", "keep", "(LModuleShelf$Code;I)I"⟩ ∈ gw_l := gw_of 333 (by rfl) rfl
set_option maxRecDepth 20000 in
theorem ml_L_83 : Cond.methodLink "ModuleShelf$Library" 83 ⟨"ModuleShelf$Code", "hasInterfaceOf", "(LModuleShelf$Code;)Z"⟩ ∈ gw_l := gw_of 337 (by rfl) rfl
set_option maxRecDepth 20000 in
theorem ml_L_93 : Cond.methodLink "ModuleShelf$Library" 93 ⟨"ModuleShelf$Code", "copyFrom", "(LModuleShelf$Code;)V"⟩ ∈ gw_l := gw_of 341 (by rfl) rfl
set_option maxRecDepth 20000 in
theorem ml_C_42 : Cond.methodLink "ModuleShelf$Code" 42 ⟨"java/lang/System", "arraycopy", "(Ljava/lang/Object;ILjava/lang/Object;II)V"⟩ ∈ gw_l := gw_of 345 (by rfl) rfl
set_option maxRecDepth 20000 in
theorem ml_L_97 : Cond.methodLink "ModuleShelf$Library" 97 ⟨"ModuleShelf$Library", "gatherImports", "(LModuleShelf$Unit;I)V"⟩ ∈ gw_l := gw_of 348 (by rfl) rfl
set_option maxRecDepth 20000 in
theorem ml_L_104 : Cond.methodLink "ModuleShelf$Library" 104 ⟨"ModuleShelf$Unit", "addImport", "(II)V"⟩ ∈ gw_l := gw_of 352 (by rfl) rfl
set_option maxRecDepth 20000 in
theorem ml_U_29 : Cond.methodLink "ModuleShelf$Unit" 29 ⟨"ModuleShelf$Unit", "hasImport", "(I)Z"⟩ ∈ gw_l := gw_of 356 (by rfl) rfl
set_option maxRecDepth 20000 in
theorem ml_W_31 : Cond.methodLink "ModuleShelfLaw" 31 ⟨"ModuleShelf", "place", "()I"⟩ ∈ gw_l := gw_of 360 (by rfl) rfl
set_option maxRecDepth 20000 in
theorem ml_W_36 : Cond.methodLink "ModuleShelfLaw" 36 ⟨"ModuleShelf", "remove", "(I)I"⟩ ∈ gw_l := gw_of 364 (by rfl) rfl
set_option maxRecDepth 20000 in
theorem ml_S_67 : Cond.methodLink "ModuleShelf" 67 ⟨"ModuleShelf$Library", "has", "(I)Z"⟩ ∈ gw_l := gw_of 368 (by rfl) rfl
set_option maxRecDepth 20000 in
theorem ml_W_40 : Cond.methodLink "ModuleShelfLaw" 40 ⟨"ModuleShelf", "load", "(I)I"⟩ ∈ gw_l := gw_of 369 (by rfl) rfl
set_option maxRecDepth 20000 in
theorem ml_S_80 : Cond.methodLink "ModuleShelf" 80 ⟨"ModuleShelf$Memory", "bring", "(LModuleShelf$Library;I)I"⟩ ∈ gw_l := gw_of 373 (by rfl) rfl
set_option maxRecDepth 20000 in
theorem ml_M_63 : Cond.methodLink "ModuleShelf$Memory" 63 ⟨"ModuleShelf$Memory", "held", "()I"⟩ ∈ gw_l := gw_of 377 (by rfl) rfl
set_option maxRecDepth 20000 in
theorem ml_M_36 : Cond.methodLink "ModuleShelf$Memory" 36 ⟨"ModuleShelf$Memory", "has", "(I)Z"⟩ ∈ gw_l := gw_of 381 (by rfl) rfl
set_option maxRecDepth 20000 in
theorem ml_M_66 : Cond.methodLink "ModuleShelf$Memory" 66 ⟨"ModuleShelf$Memory", "bringOne", "(LModuleShelf$Library;II)I"⟩ ∈ gw_l := gw_of 386 (by rfl) rfl
set_option maxRecDepth 20000 in
theorem ml_M_73 : Cond.methodLink "ModuleShelf$Memory" 73 ⟨"ModuleShelf$Library", "has", "(I)Z"⟩ ∈ gw_l := gw_of 390 (by rfl) rfl
set_option maxRecDepth 20000 in
theorem ml_M_93 : Cond.methodLink "ModuleShelf$Memory" 93 ⟨"ModuleShelf$Memory", "size", "()I"⟩ ∈ gw_l := gw_of 391 (by rfl) rfl
set_option maxRecDepth 20000 in
theorem ml_M_43 : Cond.methodLink "ModuleShelf$Memory" 43 ⟨"ModuleShelf$Code", "size", "()I"⟩ ∈ gw_l := gw_of 395 (by rfl) rfl
set_option maxRecDepth 20000 in
theorem ml_M_94 : Cond.methodLink "ModuleShelf$Memory" 94 ⟨"ModuleShelf$Image", "fill", "(LModuleShelf$Unit;)V"⟩ ∈ gw_l := gw_of 399 (by rfl) rfl
set_option maxRecDepth 20000 in
theorem ml_I_22 : Cond.methodLink "ModuleShelf$Image" 22 ⟨"ModuleShelf$Unit", "copyFrom", "(LModuleShelf$Unit;)V"⟩ ∈ gw_l := gw_of 403 (by rfl) rfl
set_option maxRecDepth 20000 in
theorem ml_U_40 : Cond.methodLink "ModuleShelf$Unit" 40 ⟨"java/lang/System", "arraycopy", "(Ljava/lang/Object;ILjava/lang/Object;II)V"⟩ ∈ gw_l := gw_of 407 (by rfl) rfl
set_option maxRecDepth 20000 in
theorem ml_U_46 : Cond.methodLink "ModuleShelf$Unit" 46 ⟨"ModuleShelf$Code", "copyFrom", "(LModuleShelf$Code;)V"⟩ ∈ gw_l := gw_of 408 (by rfl) rfl
set_option maxRecDepth 20000 in
theorem ml_I_26 : Cond.methodLink "ModuleShelf$Image" 26 ⟨"java/util/Arrays", "fill", "([II)V"⟩ ∈ gw_l := gw_of 409 (by rfl) rfl
set_option maxRecDepth 20000 in
theorem ml_M_70 : Cond.methodLink "ModuleShelf$Memory" 70 ⟨"ModuleShelf$Memory", "dropBegun", "()V"⟩ ∈ gw_l := gw_of 412 (by rfl) rfl
set_option maxRecDepth 20000 in
theorem ml_W_44 : Cond.methodLink "ModuleShelfLaw" 44 ⟨"ModuleShelf", "unload", "(I)I"⟩ ∈ gw_l := gw_of 416 (by rfl) rfl
set_option maxRecDepth 20000 in
theorem ml_S_84 : Cond.methodLink "ModuleShelf" 84 ⟨"ModuleShelf$Memory", "has", "(I)Z"⟩ ∈ gw_l := gw_of 420 (by rfl) rfl
set_option maxRecDepth 20000 in
theorem ml_S_85 : Cond.methodLink "ModuleShelf" 85 ⟨"ModuleShelf$Memory", "isImported", "(I)Z"⟩ ∈ gw_l := gw_of 421 (by rfl) rfl
set_option maxRecDepth 20000 in
theorem ml_M_49 : Cond.methodLink "ModuleShelf$Memory" 49 ⟨"ModuleShelf$Unit", "hasImport", "(I)Z"⟩ ∈ gw_l := gw_of 425 (by rfl) rfl
set_option maxRecDepth 20000 in
theorem ml_W_48 : Cond.methodLink "ModuleShelfLaw" 48 ⟨"ModuleShelf", "run", "(IIII)I"⟩ ∈ gw_l := gw_of 426 (by rfl) rfl
set_option maxRecDepth 20000 in
theorem ml_S_98 : Cond.methodLink "ModuleShelf" 98 ⟨"ModuleShelf$Memory", "argumentsOf", "(II)I"⟩ ∈ gw_l := gw_of 430 (by rfl) rfl
set_option maxRecDepth 20000 in
theorem ml_M_52 : Cond.methodLink "ModuleShelf$Memory" 52 ⟨"ModuleShelf$Code", "argumentsOf", "(I)I"⟩ ∈ gw_l := gw_of 434 (by rfl) rfl
set_option maxRecDepth 20000 in
theorem ml_S_102 : Cond.methodLink "ModuleShelf" 102 ⟨"ModuleShelf$Machine", "start", "(LModuleShelf$Memory;IIII)I"⟩ ∈ gw_l := gw_of 435 (by rfl) rfl
set_option maxRecDepth 20000 in
theorem ml_N_25 : Cond.methodLink "ModuleShelf$Machine" 25 ⟨"ModuleShelf$Frame", "open", "(IIII)V"⟩ ∈ gw_l := gw_of 439 (by rfl) rfl
set_option maxRecDepth 20000 in
theorem ml_N_29 : Cond.methodLink "ModuleShelf$Machine" 29 ⟨"ModuleShelf$Machine", "work", "(LModuleShelf$Memory;II)I"⟩ ∈ gw_l := gw_of 443 (by rfl) rfl
set_option maxRecDepth 20000 in
theorem ml_N_60 : Cond.methodLink "ModuleShelf$Machine" 60 ⟨"ModuleShelf$Code", "lengthOf", "(I)I"⟩ ∈ gw_l := gw_of 447 (by rfl) rfl
set_option maxRecDepth 20000 in
theorem ml_N_66 : Cond.methodLink "ModuleShelf$Machine" 66 ⟨"ModuleShelf$Machine", "fail", "(I)I"⟩ ∈ gw_l := gw_of 448 (by rfl) rfl
set_option maxRecDepth 20000 in
theorem ml_N_69 : Cond.methodLink "ModuleShelf$Machine" 69 ⟨"ModuleShelf$Code", "cellOf", "(II)I"⟩ ∈ gw_l := gw_of 452 (by rfl) rfl
set_option maxRecDepth 20000 in
theorem ml_N_89 : Cond.methodLink "ModuleShelf$Machine" 89 ⟨"ModuleShelf$Memory", "valueOf", "(II)I"⟩ ∈ gw_l := gw_of 453 (by rfl) rfl
set_option maxRecDepth 20000 in
theorem ml_M_56 : Cond.methodLink "ModuleShelf$Memory" 56 ⟨"ModuleShelf$Code", "hasVariable", "(I)Z"⟩ ∈ gw_l := gw_of 457 (by rfl) rfl
set_option maxRecDepth 20000 in
theorem ml_N_92 : Cond.methodLink "ModuleShelf$Machine" 92 ⟨"ModuleShelf$Machine", "assign", "(LModuleShelf$Memory;III)I"⟩ ∈ gw_l := gw_of 458 (by rfl) rfl
set_option maxRecDepth 20000 in
theorem ml_N_106 : Cond.methodLink "ModuleShelf$Machine" 106 ⟨"ModuleShelf$Memory", "setValue", "(III)V"⟩ ∈ gw_l := gw_of 462 (by rfl) rfl
set_option maxRecDepth 20000 in
theorem ml_N_96 : Cond.methodLink "ModuleShelf$Machine" 96 ⟨"ModuleShelf$Machine", "choose", "(LModuleShelf$Memory;II)I"⟩ ∈ gw_l := gw_of 466 (by rfl) rfl
set_option maxRecDepth 20000 in
theorem ml_N_110 : Cond.methodLink "ModuleShelf$Machine" 110 ⟨"ModuleShelf$Machine", "skip", "(LModuleShelf$Memory;LModuleShelf$Frame;)V"⟩ ∈ gw_l := gw_of 470 (by rfl) rfl
set_option maxRecDepth 20000 in
theorem ml_N_117 : Cond.methodLink "ModuleShelf$Machine" 117 ⟨"ModuleShelf$Machine", "partsOf", "(LModuleShelf$Memory;LModuleShelf$Code;I)I"⟩ ∈ gw_l := gw_of 474 (by rfl) rfl
set_option maxRecDepth 20000 in
theorem ml_N_114 : Cond.methodLink "ModuleShelf$Machine" 114 ⟨"ModuleShelf$Memory", "argumentsOf", "(II)I"⟩ ∈ gw_l := gw_of 479 (by rfl) rfl
set_option maxRecDepth 20000 in
theorem ml_N_124 : Cond.methodLink "ModuleShelf$Machine" 124 ⟨"java/lang/Math", "max", "(II)I"⟩ ∈ gw_l := gw_of 480 (by rfl) rfl
set_option maxRecDepth 20000 in
theorem ml_N_99 : Cond.methodLink "ModuleShelf$Machine" 99 ⟨"ModuleShelf$Machine", "enter", "(LModuleShelf$Memory;IIII)I"⟩ ∈ gw_l := gw_of 483 (by rfl) rfl
set_option maxRecDepth 20000 in
theorem ml_N_103 : Cond.methodLink "ModuleShelf$Machine" 103 ⟨"ModuleShelf$Machine", "combine", "(LModuleShelf$Memory;III)I"⟩ ∈ gw_l := gw_of 487 (by rfl) rfl
set_option maxRecDepth 20000 in
theorem ml_W_53 : Cond.methodLink "ModuleShelfLaw" 53 ⟨"ModuleShelf", "value", "()I"⟩ ∈ gw_l := gw_of 491 (by rfl) rfl
set_option maxRecDepth 20000 in
theorem ml_W_57 : Cond.methodLink "ModuleShelfLaw" 57 ⟨"ModuleShelf", "steps", "()I"⟩ ∈ gw_l := gw_of 495 (by rfl) rfl
set_option maxRecDepth 20000 in
theorem ml_W_61 : Cond.methodLink "ModuleShelfLaw" 61 ⟨"ModuleShelf", "variable", "(II)I"⟩ ∈ gw_l := gw_of 499 (by rfl) rfl
set_option maxRecDepth 20000 in
theorem ml_S_112 : Cond.methodLink "ModuleShelf" 112 ⟨"ModuleShelf$Memory", "valueOf", "(II)I"⟩ ∈ gw_l := gw_of 503 (by rfl) rfl
set_option maxRecDepth 20000 in
theorem ml_W_66 : Cond.methodLink "ModuleShelfLaw" 66 ⟨"ModuleShelf", "key", "(I)I"⟩ ∈ gw_l := gw_of 504 (by rfl) rfl
set_option maxRecDepth 20000 in
theorem ml_W_70 : Cond.methodLink "ModuleShelfLaw" 70 ⟨"ModuleShelf", "loaded", "(I)I"⟩ ∈ gw_l := gw_of 508 (by rfl) rfl
set_option maxRecDepth 20000 in
theorem ml_W_74 : Cond.methodLink "ModuleShelfLaw" 74 ⟨"ModuleShelf", "imported", "(II)I"⟩ ∈ gw_l := gw_of 512 (by rfl) rfl
set_option maxRecDepth 20000 in
theorem ml_W_78 : Cond.methodLink "ModuleShelfLaw" 78 ⟨"ModuleShelf", "count", "(I)I"⟩ ∈ gw_l := gw_of 516 (by rfl) rfl
set_option maxRecDepth 20000 in
theorem ml_S_131 : Cond.methodLink "ModuleShelf" 131 ⟨"ModuleShelf$Code", "lengthOf", "(I)I"⟩ ∈ gw_l := gw_of 520 (by rfl) rfl
set_option maxRecDepth 20000 in
theorem ml_S_134 : Cond.methodLink "ModuleShelf" 134 ⟨"ModuleShelf$Library", "held", "()I"⟩ ∈ gw_l := gw_of 521 (by rfl) rfl
set_option maxRecDepth 20000 in
theorem ml_S_138 : Cond.methodLink "ModuleShelf" 138 ⟨"ModuleShelf$Memory", "held", "()I"⟩ ∈ gw_l := gw_of 525 (by rfl) rfl
set_option maxRecDepth 20000 in
theorem ml_S_139 : Cond.methodLink "ModuleShelf" 139 ⟨"ModuleShelf$Memory", "size", "()I"⟩ ∈ gw_l := gw_of 526 (by rfl) rfl
set_option maxRecDepth 20000 in
theorem ml_W_12 : Cond.methodLink "ModuleShelfLaw" 12 ⟨"ModuleShelfModel", "<init>", "()V"⟩ ∈ gw_l := gw_of 529 (by rfl) rfl
set_option maxRecDepth 20000 in
theorem ml_R_1 : Cond.methodLink "ModuleShelfModel" 1 ⟨"java/lang/Object", "<init>", "()V"⟩ ∈ gw_l := gw_of 532 (by rfl) rfl
set_option maxRecDepth 20000 in
theorem ml_W_17 : Cond.methodLink "ModuleShelfLaw" 17 ⟨"ModuleShelfModel", "begin", "(I)I"⟩ ∈ gw_l := gw_of 621 (by rfl) rfl
set_option maxRecDepth 20000 in
theorem ml_R_83 : Cond.methodLink "ModuleShelfModel" 83 ⟨"ModuleShelfModel", "in", "(III)Z"⟩ ∈ gw_l := gw_of 625 (by rfl) rfl
set_option maxRecDepth 20000 in
theorem ml_W_21 : Cond.methodLink "ModuleShelfLaw" 21 ⟨"ModuleShelfModel", "procedure", "(I)I"⟩ ∈ gw_l := gw_of 628 (by rfl) rfl
set_option maxRecDepth 20000 in
theorem ml_W_26 : Cond.methodLink "ModuleShelfLaw" 26 ⟨"ModuleShelfModel", "token", "(III)I"⟩ ∈ gw_l := gw_of 632 (by rfl) rfl
set_option maxRecDepth 20000 in
theorem ml_W_30 : Cond.methodLink "ModuleShelfLaw" 30 ⟨"ModuleShelfModel", "compile", "(I)I"⟩ ∈ gw_l := gw_of 636 (by rfl) rfl
set_option maxRecDepth 20000 in
theorem ml_R_95 : Cond.methodLink "ModuleShelfModel" 95 ⟨"ModuleShelfModel", "firstWrong", "(II)I"⟩ ∈ gw_l := gw_of 640 (by rfl) rfl
set_option maxRecDepth 20000 in
theorem ml_R_91 : Cond.methodLink "ModuleShelfModel" 91 ⟨"ModuleShelfModel", "partsOf", "(III)I"⟩ ∈ gw_l := gw_of 644 (by rfl) rfl
set_option maxRecDepth 20000 in
theorem ml_R_87 : Cond.methodLink "ModuleShelfModel" 87 ⟨"ModuleShelfModel", "seen", "(II)I"⟩ ∈ gw_l := gw_of 648 (by rfl) rfl
set_option maxRecDepth 20000 in
theorem ml_R_98 : Cond.methodLink "ModuleShelfModel" 98 ⟨"ModuleShelfModel", "findImports", "(I)V"⟩ ∈ gw_l := gw_of 652 (by rfl) rfl
set_option maxRecDepth 20000 in
theorem ml_R_102 : Cond.methodLink "ModuleShelfModel" 102 ⟨"ModuleShelfModel", "alike", "(I)Z"⟩ ∈ gw_l := gw_of 656 (by rfl) rfl
set_option maxRecDepth 20000 in
theorem ml_R_109 : Cond.methodLink "ModuleShelfModel" 109 ⟨"ModuleShelfModel", "copy", "(II)V"⟩ ∈ gw_l := gw_of 660 (by rfl) rfl
set_option maxRecDepth 20000 in
theorem ml_W_35 : Cond.methodLink "ModuleShelfLaw" 35 ⟨"ModuleShelfModel", "place", "()I"⟩ ∈ gw_l := gw_of 664 (by rfl) rfl
set_option maxRecDepth 20000 in
theorem ml_W_39 : Cond.methodLink "ModuleShelfLaw" 39 ⟨"ModuleShelfModel", "remove", "(I)I"⟩ ∈ gw_l := gw_of 668 (by rfl) rfl
set_option maxRecDepth 20000 in
theorem ml_W_43 : Cond.methodLink "ModuleShelfLaw" 43 ⟨"ModuleShelfModel", "load", "(I)I"⟩ ∈ gw_l := gw_of 672 (by rfl) rfl
set_option maxRecDepth 20000 in
theorem ml_R_117 : Cond.methodLink "ModuleShelfModel" 117 ⟨"ModuleShelfModel", "begins", "(II)I"⟩ ∈ gw_l := gw_of 676 (by rfl) rfl
set_option maxRecDepth 20000 in
theorem ml_R_113 : Cond.methodLink "ModuleShelfModel" 113 ⟨"ModuleShelfModel", "cells", "(I)I"⟩ ∈ gw_l := gw_of 680 (by rfl) rfl
set_option maxRecDepth 20000 in
theorem ml_R_120 : Cond.methodLink "ModuleShelfModel" 120 ⟨"ModuleShelfModel", "allCells", "()I"⟩ ∈ gw_l := gw_of 684 (by rfl) rfl
set_option maxRecDepth 20000 in
theorem ml_W_47 : Cond.methodLink "ModuleShelfLaw" 47 ⟨"ModuleShelfModel", "unload", "(I)I"⟩ ∈ gw_l := gw_of 688 (by rfl) rfl
set_option maxRecDepth 20000 in
theorem ml_W_52 : Cond.methodLink "ModuleShelfLaw" 52 ⟨"ModuleShelfModel", "run", "(IIII)I"⟩ ∈ gw_l := gw_of 692 (by rfl) rfl
set_option maxRecDepth 20000 in
theorem ml_R_136 : Cond.methodLink "ModuleShelfModel" 136 ⟨"ModuleShelfModel", "enter", "(IIIII)V"⟩ ∈ gw_l := gw_of 696 (by rfl) rfl
set_option maxRecDepth 20000 in
theorem ml_R_152 : Cond.methodLink "ModuleShelfModel" 152 ⟨"ModuleShelfModel", "push", "(III)V"⟩ ∈ gw_l := gw_of 700 (by rfl) rfl
set_option maxRecDepth 20000 in
theorem ml_R_140 : Cond.methodLink "ModuleShelfModel" 140 ⟨"ModuleShelfModel", "begin", "(II)V"⟩ ∈ gw_l := gw_of 704 (by rfl) rfl
set_option maxRecDepth 20000 in
theorem ml_R_159 : Cond.methodLink "ModuleShelfModel" 159 ⟨"ModuleShelfModel", "give", "(I)V"⟩ ∈ gw_l := gw_of 708 (by rfl) rfl
set_option maxRecDepth 20000 in
theorem ml_R_149 : Cond.methodLink "ModuleShelfModel" 149 ⟨"ModuleShelfModel", "end", "(I)I"⟩ ∈ gw_l := gw_of 712 (by rfl) rfl
set_option maxRecDepth 20000 in
theorem ml_R_130 : Cond.methodLink "ModuleShelfModel" 130 ⟨"ModuleShelfModel", "parts", "(I)I"⟩ ∈ gw_l := gw_of 716 (by rfl) rfl
set_option maxRecDepth 20000 in
theorem ml_R_143 : Cond.methodLink "ModuleShelfModel" 143 ⟨"ModuleShelfModel", "use", "(II)I"⟩ ∈ gw_l := gw_of 720 (by rfl) rfl
set_option maxRecDepth 20000 in
theorem ml_R_146 : Cond.methodLink "ModuleShelfModel" 146 ⟨"ModuleShelfModel", "take", "()I"⟩ ∈ gw_l := gw_of 724 (by rfl) rfl
set_option maxRecDepth 20000 in
theorem ml_R_162 : Cond.methodLink "ModuleShelfModel" 162 ⟨"ModuleShelfModel", "quotient", "(II)I"⟩ ∈ gw_l := gw_of 728 (by rfl) rfl
set_option maxRecDepth 20000 in
theorem ml_W_56 : Cond.methodLink "ModuleShelfLaw" 56 ⟨"ModuleShelfModel", "value", "()I"⟩ ∈ gw_l := gw_of 731 (by rfl) rfl
set_option maxRecDepth 20000 in
theorem ml_W_60 : Cond.methodLink "ModuleShelfLaw" 60 ⟨"ModuleShelfModel", "steps", "()I"⟩ ∈ gw_l := gw_of 735 (by rfl) rfl
set_option maxRecDepth 20000 in
theorem ml_W_65 : Cond.methodLink "ModuleShelfLaw" 65 ⟨"ModuleShelfModel", "variable", "(II)I"⟩ ∈ gw_l := gw_of 739 (by rfl) rfl
set_option maxRecDepth 20000 in
theorem ml_W_69 : Cond.methodLink "ModuleShelfLaw" 69 ⟨"ModuleShelfModel", "key", "(I)I"⟩ ∈ gw_l := gw_of 743 (by rfl) rfl
set_option maxRecDepth 20000 in
theorem ml_W_73 : Cond.methodLink "ModuleShelfLaw" 73 ⟨"ModuleShelfModel", "loaded", "(I)I"⟩ ∈ gw_l := gw_of 747 (by rfl) rfl
set_option maxRecDepth 20000 in
theorem ml_W_77 : Cond.methodLink "ModuleShelfLaw" 77 ⟨"ModuleShelfModel", "imported", "(II)I"⟩ ∈ gw_l := gw_of 751 (by rfl) rfl
set_option maxRecDepth 20000 in
theorem ml_W_81 : Cond.methodLink "ModuleShelfLaw" 81 ⟨"ModuleShelfModel", "count", "(I)I"⟩ ∈ gw_l := gw_of 755 (by rfl) rfl
set_option maxRecDepth 20000 in
theorem im_S_init : Cond.instanceMethod xy_S_init ∈ gw_l := gw_of 48 (by rfl) rfl
theorem na_S_init : aw_nm xy_S_init 0 := ⟨by decide, by decide, by decide +kernel⟩
set_option maxRecDepth 20000 in
theorem im_C_init : Cond.instanceMethod xy_C_init ∈ gw_l := gw_of 56 (by rfl) rfl
theorem na_C_init : aw_nm xy_C_init 0 := ⟨by decide, by decide, by decide +kernel⟩
set_option maxRecDepth 20000 in
theorem im_L_init : Cond.instanceMethod xy_L_init ∈ gw_l := gw_of 93 (by rfl) rfl
theorem na_L_init : aw_nm xy_L_init 0 := ⟨by decide, by decide, by decide +kernel⟩
set_option maxRecDepth 20000 in
theorem im_U_init : Cond.instanceMethod xy_U_init ∈ gw_l := gw_of 100 (by rfl) rfl
theorem na_U_init : aw_nm xy_U_init 0 := ⟨by decide, by decide, by decide +kernel⟩
set_option maxRecDepth 20000 in
theorem im_M_init : Cond.instanceMethod xy_M_init ∈ gw_l := gw_of 156 (by rfl) rfl
theorem na_M_init : aw_nm xy_M_init 0 := ⟨by decide, by decide, by decide +kernel⟩
set_option maxRecDepth 20000 in
theorem im_I_init : Cond.instanceMethod xy_I_init ∈ gw_l := gw_of 163 (by rfl) rfl
theorem na_I_init : aw_nm xy_I_init 0 := ⟨by decide, by decide, by decide +kernel⟩
set_option maxRecDepth 20000 in
theorem im_N_init : Cond.instanceMethod xy_N_init ∈ gw_l := gw_of 192 (by rfl) rfl
theorem na_N_init : aw_nm xy_N_init 0 := ⟨by decide, by decide, by decide +kernel⟩
set_option maxRecDepth 20000 in
theorem im_F_init : Cond.instanceMethod xy_F_init ∈ gw_l := gw_of 199 (by rfl) rfl
theorem na_F_init : aw_nm xy_F_init 0 := ⟨by decide, by decide, by decide +kernel⟩
set_option maxRecDepth 20000 in
theorem im_S_begin : Cond.instanceMethod xy_S_begin ∈ gw_l := gw_of 255 (by rfl) rfl
set_option maxRecDepth 20000 in
theorem se_S_begin : Cond.selects "ModuleShelf" xy_S_begin xy_S_begin ∈ gw_l := gw_of 256 (by rfl) rfl
theorem na_S_begin : aw_nm xy_S_begin 1 := ⟨by decide, by decide, by decide +kernel⟩
set_option maxRecDepth 20000 in
theorem im_C_clear : Cond.instanceMethod xy_C_clear ∈ gw_l := gw_of 259 (by rfl) rfl
set_option maxRecDepth 20000 in
theorem se_C_clear : Cond.selects "ModuleShelf$Code" xy_C_clear xy_C_clear ∈ gw_l := gw_of 260 (by rfl) rfl
theorem na_C_clear : aw_nm xy_C_clear 1 := ⟨by decide, by decide, by decide +kernel⟩
set_option maxRecDepth 20000 in
theorem im_S_procedure : Cond.instanceMethod xy_S_procedure ∈ gw_l := gw_of 263 (by rfl) rfl
set_option maxRecDepth 20000 in
theorem se_S_procedure : Cond.selects "ModuleShelf" xy_S_procedure xy_S_procedure ∈ gw_l := gw_of 264 (by rfl) rfl
theorem na_S_procedure : aw_nm xy_S_procedure 1 := ⟨by decide, by decide, by decide +kernel⟩
set_option maxRecDepth 20000 in
theorem im_C_addProcedure : Cond.instanceMethod xy_C_addProcedure ∈ gw_l := gw_of 267 (by rfl) rfl
set_option maxRecDepth 20000 in
theorem se_C_addProcedure : Cond.selects "ModuleShelf$Code" xy_C_addProcedure xy_C_addProcedure ∈ gw_l := gw_of 268 (by rfl) rfl
theorem na_C_addProcedure : aw_nm xy_C_addProcedure 1 := ⟨by decide, by decide, by decide +kernel⟩
set_option maxRecDepth 20000 in
theorem im_S_token : Cond.instanceMethod xy_S_token ∈ gw_l := gw_of 271 (by rfl) rfl
set_option maxRecDepth 20000 in
theorem se_S_token : Cond.selects "ModuleShelf" xy_S_token xy_S_token ∈ gw_l := gw_of 272 (by rfl) rfl
theorem na_S_token : aw_nm xy_S_token 3 := ⟨by decide, by decide, by decide +kernel⟩
set_option maxRecDepth 20000 in
theorem im_C_addToken : Cond.instanceMethod xy_C_addToken ∈ gw_l := gw_of 275 (by rfl) rfl
set_option maxRecDepth 20000 in
theorem se_C_addToken : Cond.selects "ModuleShelf$Code" xy_C_addToken xy_C_addToken ∈ gw_l := gw_of 276 (by rfl) rfl
theorem na_C_addToken : aw_nm xy_C_addToken 3 := ⟨by decide, by decide, by decide +kernel⟩
set_option maxRecDepth 20000 in
theorem im_C_cellOf : Cond.instanceMethod xy_C_cellOf ∈ gw_l := gw_of 279 (by rfl) rfl
set_option maxRecDepth 20000 in
theorem se_C_cellOf : Cond.selects "ModuleShelf$Code" xy_C_cellOf xy_C_cellOf ∈ gw_l := gw_of 280 (by rfl) rfl
theorem na_C_cellOf : aw_nm xy_C_cellOf 2 := ⟨by decide, by decide, by decide +kernel⟩
set_option maxRecDepth 20000 in
theorem im_S_compile : Cond.instanceMethod xy_S_compile ∈ gw_l := gw_of 283 (by rfl) rfl
set_option maxRecDepth 20000 in
theorem se_S_compile : Cond.selects "ModuleShelf" xy_S_compile xy_S_compile ∈ gw_l := gw_of 284 (by rfl) rfl
theorem na_S_compile : aw_nm xy_S_compile 1 := ⟨by decide, by decide, by decide +kernel⟩
set_option maxRecDepth 20000 in
theorem st_S_isModule : Cond.static xy_S_isModule ∈ gw_l := gw_of 287 (by rfl) rfl
theorem na_S_isModule : aw_nm xy_S_isModule 1 := ⟨by decide, by decide, by decide +kernel⟩
set_option maxRecDepth 20000 in
theorem im_L_firstWrong : Cond.instanceMethod xy_L_firstWrong ∈ gw_l := gw_of 290 (by rfl) rfl
set_option maxRecDepth 20000 in
theorem se_L_firstWrong : Cond.selects "ModuleShelf$Library" xy_L_firstWrong xy_L_firstWrong ∈ gw_l := gw_of 291 (by rfl) rfl
theorem na_L_firstWrong : aw_nm xy_L_firstWrong 2 := ⟨by decide, by decide, by decide +kernel⟩
set_option maxRecDepth 20000 in
theorem im_L_isExpression : Cond.instanceMethod xy_L_isExpression ∈ gw_l := gw_of 295 (by rfl) rfl
set_option maxRecDepth 20000 in
theorem se_L_isExpression : Cond.selects "ModuleShelf$Library" xy_L_isExpression xy_L_isExpression ∈ gw_l := gw_of 0 (by rfl) rfl
theorem na_L_isExpression : aw_nm xy_L_isExpression 4 := ⟨by decide, by decide, by decide +kernel⟩
set_option maxRecDepth 20000 in
theorem im_C_lengthOf : Cond.instanceMethod xy_C_lengthOf ∈ gw_l := gw_of 298 (by rfl) rfl
set_option maxRecDepth 20000 in
theorem se_C_lengthOf : Cond.selects "ModuleShelf$Code" xy_C_lengthOf xy_C_lengthOf ∈ gw_l := gw_of 299 (by rfl) rfl
theorem na_C_lengthOf : aw_nm xy_C_lengthOf 1 := ⟨by decide, by decide, by decide +kernel⟩
set_option maxRecDepth 20000 in
theorem im_C_hasProcedure : Cond.instanceMethod xy_C_hasProcedure ∈ gw_l := gw_of 302 (by rfl) rfl
set_option maxRecDepth 20000 in
theorem se_C_hasProcedure : Cond.selects "ModuleShelf$Code" xy_C_hasProcedure xy_C_hasProcedure ∈ gw_l := gw_of 303 (by rfl) rfl
theorem na_C_hasProcedure : aw_nm xy_C_hasProcedure 1 := ⟨by decide, by decide, by decide +kernel⟩
set_option maxRecDepth 20000 in
theorem im_L_isRight : Cond.instanceMethod xy_L_isRight ∈ gw_l := gw_of 308 (by rfl) rfl
set_option maxRecDepth 20000 in
theorem se_L_isRight : Cond.selects "ModuleShelf$Library" xy_L_isRight xy_L_isRight ∈ gw_l := gw_of 1 (by rfl) rfl
theorem na_L_isRight : aw_nm xy_L_isRight 4 := ⟨by decide, by decide, by decide +kernel⟩
set_option maxRecDepth 20000 in
theorem im_C_argumentsOf : Cond.instanceMethod xy_C_argumentsOf ∈ gw_l := gw_of 311 (by rfl) rfl
set_option maxRecDepth 20000 in
theorem se_C_argumentsOf : Cond.selects "ModuleShelf$Code" xy_C_argumentsOf xy_C_argumentsOf ∈ gw_l := gw_of 312 (by rfl) rfl
theorem na_C_argumentsOf : aw_nm xy_C_argumentsOf 1 := ⟨by decide, by decide, by decide +kernel⟩
set_option maxRecDepth 20000 in
theorem im_C_hasVariable : Cond.instanceMethod xy_C_hasVariable ∈ gw_l := gw_of 315 (by rfl) rfl
set_option maxRecDepth 20000 in
theorem se_C_hasVariable : Cond.selects "ModuleShelf$Code" xy_C_hasVariable xy_C_hasVariable ∈ gw_l := gw_of 316 (by rfl) rfl
theorem na_C_hasVariable : aw_nm xy_C_hasVariable 1 := ⟨by decide, by decide, by decide +kernel⟩
set_option maxRecDepth 20000 in
theorem im_L_has : Cond.instanceMethod xy_L_has ∈ gw_l := gw_of 319 (by rfl) rfl
set_option maxRecDepth 20000 in
theorem se_L_has : Cond.selects "ModuleShelf$Library" xy_L_has xy_L_has ∈ gw_l := gw_of 320 (by rfl) rfl
theorem na_L_has : aw_nm xy_L_has 1 := ⟨by decide, by decide, by decide +kernel⟩
set_option maxRecDepth 20000 in
theorem im_L_argumentsOf : Cond.instanceMethod xy_L_argumentsOf ∈ gw_l := gw_of 325 (by rfl) rfl
set_option maxRecDepth 20000 in
theorem se_L_argumentsOf : Cond.selects "ModuleShelf$Library" xy_L_argumentsOf xy_L_argumentsOf ∈ gw_l := gw_of 2 (by rfl) rfl
theorem na_L_argumentsOf : aw_nm xy_L_argumentsOf 4 := ⟨by decide, by decide, by decide +kernel⟩
set_option maxRecDepth 20000 in
theorem im_L_partsOf : Cond.instanceMethod xy_L_partsOf ∈ gw_l := gw_of 329 (by rfl) rfl
set_option maxRecDepth 20000 in
theorem se_L_partsOf : Cond.selects "ModuleShelf$Library" xy_L_partsOf xy_L_partsOf ∈ gw_l := gw_of 3 (by rfl) rfl
theorem na_L_partsOf : aw_nm xy_L_partsOf 3 := ⟨by decide, by decide, by decide +kernel⟩
set_option maxRecDepth 20000 in
theorem im_L_keep : Cond.instanceMethod xy_L_keep ∈ gw_l := gw_of 334 (by rfl) rfl
set_option maxRecDepth 20000 in
theorem se_L_keep : Cond.selects "ModuleShelf$Library" xy_L_keep xy_L_keep ∈ gw_l := gw_of 335 (by rfl) rfl
theorem na_L_keep : aw_nm xy_L_keep 2 := ⟨by decide, by decide, by decide +kernel⟩
set_option maxRecDepth 20000 in
theorem im_C_hasInterfaceOf : Cond.instanceMethod xy_C_hasInterfaceOf ∈ gw_l := gw_of 338 (by rfl) rfl
set_option maxRecDepth 20000 in
theorem se_C_hasInterfaceOf : Cond.selects "ModuleShelf$Code" xy_C_hasInterfaceOf xy_C_hasInterfaceOf ∈ gw_l := gw_of 339 (by rfl) rfl
theorem na_C_hasInterfaceOf : aw_nm xy_C_hasInterfaceOf 1 := ⟨by decide, by decide, by decide +kernel⟩
set_option maxRecDepth 20000 in
theorem im_C_copyFrom : Cond.instanceMethod xy_C_copyFrom ∈ gw_l := gw_of 342 (by rfl) rfl
set_option maxRecDepth 20000 in
theorem se_C_copyFrom : Cond.selects "ModuleShelf$Code" xy_C_copyFrom xy_C_copyFrom ∈ gw_l := gw_of 343 (by rfl) rfl
theorem na_C_copyFrom : aw_nm xy_C_copyFrom 1 := ⟨by decide, by decide, by decide +kernel⟩
set_option maxRecDepth 20000 in
theorem im_L_gatherImports : Cond.instanceMethod xy_L_gatherImports ∈ gw_l := gw_of 350 (by rfl) rfl
set_option maxRecDepth 20000 in
theorem se_L_gatherImports : Cond.selects "ModuleShelf$Library" xy_L_gatherImports xy_L_gatherImports ∈ gw_l := gw_of 4 (by rfl) rfl
theorem na_L_gatherImports : aw_nm xy_L_gatherImports 2 := ⟨by decide, by decide, by decide +kernel⟩
set_option maxRecDepth 20000 in
theorem im_U_addImport : Cond.instanceMethod xy_U_addImport ∈ gw_l := gw_of 353 (by rfl) rfl
set_option maxRecDepth 20000 in
theorem se_U_addImport : Cond.selects "ModuleShelf$Unit" xy_U_addImport xy_U_addImport ∈ gw_l := gw_of 354 (by rfl) rfl
theorem na_U_addImport : aw_nm xy_U_addImport 2 := ⟨by decide, by decide, by decide +kernel⟩
set_option maxRecDepth 20000 in
theorem im_U_hasImport : Cond.instanceMethod xy_U_hasImport ∈ gw_l := gw_of 357 (by rfl) rfl
set_option maxRecDepth 20000 in
theorem se_U_hasImport : Cond.selects "ModuleShelf$Unit" xy_U_hasImport xy_U_hasImport ∈ gw_l := gw_of 358 (by rfl) rfl
theorem na_U_hasImport : aw_nm xy_U_hasImport 1 := ⟨by decide, by decide, by decide +kernel⟩
set_option maxRecDepth 20000 in
theorem im_S_place : Cond.instanceMethod xy_S_place ∈ gw_l := gw_of 361 (by rfl) rfl
set_option maxRecDepth 20000 in
theorem se_S_place : Cond.selects "ModuleShelf" xy_S_place xy_S_place ∈ gw_l := gw_of 362 (by rfl) rfl
theorem na_S_place : aw_nm xy_S_place 0 := ⟨by decide, by decide, by decide +kernel⟩
set_option maxRecDepth 20000 in
theorem im_S_remove : Cond.instanceMethod xy_S_remove ∈ gw_l := gw_of 365 (by rfl) rfl
set_option maxRecDepth 20000 in
theorem se_S_remove : Cond.selects "ModuleShelf" xy_S_remove xy_S_remove ∈ gw_l := gw_of 366 (by rfl) rfl
theorem na_S_remove : aw_nm xy_S_remove 1 := ⟨by decide, by decide, by decide +kernel⟩
set_option maxRecDepth 20000 in
theorem im_S_load : Cond.instanceMethod xy_S_load ∈ gw_l := gw_of 370 (by rfl) rfl
set_option maxRecDepth 20000 in
theorem se_S_load : Cond.selects "ModuleShelf" xy_S_load xy_S_load ∈ gw_l := gw_of 371 (by rfl) rfl
theorem na_S_load : aw_nm xy_S_load 1 := ⟨by decide, by decide, by decide +kernel⟩
set_option maxRecDepth 20000 in
theorem im_M_bring : Cond.instanceMethod xy_M_bring ∈ gw_l := gw_of 374 (by rfl) rfl
set_option maxRecDepth 20000 in
theorem se_M_bring : Cond.selects "ModuleShelf$Memory" xy_M_bring xy_M_bring ∈ gw_l := gw_of 375 (by rfl) rfl
theorem na_M_bring : aw_nm xy_M_bring 2 := ⟨by decide, by decide, by decide +kernel⟩
set_option maxRecDepth 20000 in
theorem im_M_held : Cond.instanceMethod xy_M_held ∈ gw_l := gw_of 378 (by rfl) rfl
set_option maxRecDepth 20000 in
theorem se_M_held : Cond.selects "ModuleShelf$Memory" xy_M_held xy_M_held ∈ gw_l := gw_of 379 (by rfl) rfl
theorem na_M_held : aw_nm xy_M_held 0 := ⟨by decide, by decide, by decide +kernel⟩
set_option maxRecDepth 20000 in
theorem im_M_has : Cond.instanceMethod xy_M_has ∈ gw_l := gw_of 382 (by rfl) rfl
set_option maxRecDepth 20000 in
theorem se_M_has : Cond.selects "ModuleShelf$Memory" xy_M_has xy_M_has ∈ gw_l := gw_of 383 (by rfl) rfl
theorem na_M_has : aw_nm xy_M_has 1 := ⟨by decide, by decide, by decide +kernel⟩
set_option maxRecDepth 20000 in
theorem im_M_bringOne : Cond.instanceMethod xy_M_bringOne ∈ gw_l := gw_of 388 (by rfl) rfl
set_option maxRecDepth 20000 in
theorem se_M_bringOne : Cond.selects "ModuleShelf$Memory" xy_M_bringOne xy_M_bringOne ∈ gw_l := gw_of 5 (by rfl) rfl
theorem na_M_bringOne : aw_nm xy_M_bringOne 3 := ⟨by decide, by decide, by decide +kernel⟩
set_option maxRecDepth 20000 in
theorem im_M_size : Cond.instanceMethod xy_M_size ∈ gw_l := gw_of 392 (by rfl) rfl
set_option maxRecDepth 20000 in
theorem se_M_size : Cond.selects "ModuleShelf$Memory" xy_M_size xy_M_size ∈ gw_l := gw_of 393 (by rfl) rfl
theorem na_M_size : aw_nm xy_M_size 0 := ⟨by decide, by decide, by decide +kernel⟩
set_option maxRecDepth 20000 in
theorem im_C_size : Cond.instanceMethod xy_C_size ∈ gw_l := gw_of 396 (by rfl) rfl
set_option maxRecDepth 20000 in
theorem se_C_size : Cond.selects "ModuleShelf$Code" xy_C_size xy_C_size ∈ gw_l := gw_of 397 (by rfl) rfl
theorem na_C_size : aw_nm xy_C_size 0 := ⟨by decide, by decide, by decide +kernel⟩
set_option maxRecDepth 20000 in
theorem im_I_fill : Cond.instanceMethod xy_I_fill ∈ gw_l := gw_of 400 (by rfl) rfl
set_option maxRecDepth 20000 in
theorem se_I_fill : Cond.selects "ModuleShelf$Image" xy_I_fill xy_I_fill ∈ gw_l := gw_of 401 (by rfl) rfl
theorem na_I_fill : aw_nm xy_I_fill 1 := ⟨by decide, by decide, by decide +kernel⟩
set_option maxRecDepth 20000 in
theorem im_U_copyFrom : Cond.instanceMethod xy_U_copyFrom ∈ gw_l := gw_of 404 (by rfl) rfl
set_option maxRecDepth 20000 in
theorem se_U_copyFrom : Cond.selects "ModuleShelf$Unit" xy_U_copyFrom xy_U_copyFrom ∈ gw_l := gw_of 405 (by rfl) rfl
theorem na_U_copyFrom : aw_nm xy_U_copyFrom 1 := ⟨by decide, by decide, by decide +kernel⟩
set_option maxRecDepth 20000 in
theorem st_A_fill : Cond.static xy_A_fill ∈ gw_l := gw_of 410 (by rfl) rfl
theorem na_A_fill : aw_nm xy_A_fill 2 := ⟨by decide, by decide, by decide +kernel⟩
set_option maxRecDepth 20000 in
theorem im_M_dropBegun : Cond.instanceMethod xy_M_dropBegun ∈ gw_l := gw_of 414 (by rfl) rfl
set_option maxRecDepth 20000 in
theorem se_M_dropBegun : Cond.selects "ModuleShelf$Memory" xy_M_dropBegun xy_M_dropBegun ∈ gw_l := gw_of 6 (by rfl) rfl
theorem na_M_dropBegun : aw_nm xy_M_dropBegun 0 := ⟨by decide, by decide, by decide +kernel⟩
set_option maxRecDepth 20000 in
theorem im_S_unload : Cond.instanceMethod xy_S_unload ∈ gw_l := gw_of 417 (by rfl) rfl
set_option maxRecDepth 20000 in
theorem se_S_unload : Cond.selects "ModuleShelf" xy_S_unload xy_S_unload ∈ gw_l := gw_of 418 (by rfl) rfl
theorem na_S_unload : aw_nm xy_S_unload 1 := ⟨by decide, by decide, by decide +kernel⟩
set_option maxRecDepth 20000 in
theorem im_M_isImported : Cond.instanceMethod xy_M_isImported ∈ gw_l := gw_of 422 (by rfl) rfl
set_option maxRecDepth 20000 in
theorem se_M_isImported : Cond.selects "ModuleShelf$Memory" xy_M_isImported xy_M_isImported ∈ gw_l := gw_of 423 (by rfl) rfl
theorem na_M_isImported : aw_nm xy_M_isImported 1 := ⟨by decide, by decide, by decide +kernel⟩
set_option maxRecDepth 20000 in
theorem im_S_run : Cond.instanceMethod xy_S_run ∈ gw_l := gw_of 427 (by rfl) rfl
set_option maxRecDepth 20000 in
theorem se_S_run : Cond.selects "ModuleShelf" xy_S_run xy_S_run ∈ gw_l := gw_of 428 (by rfl) rfl
theorem na_S_run : aw_nm xy_S_run 4 := ⟨by decide, by decide, by decide +kernel⟩
set_option maxRecDepth 20000 in
theorem im_M_argumentsOf : Cond.instanceMethod xy_M_argumentsOf ∈ gw_l := gw_of 431 (by rfl) rfl
set_option maxRecDepth 20000 in
theorem se_M_argumentsOf : Cond.selects "ModuleShelf$Memory" xy_M_argumentsOf xy_M_argumentsOf ∈ gw_l := gw_of 432 (by rfl) rfl
theorem na_M_argumentsOf : aw_nm xy_M_argumentsOf 2 := ⟨by decide, by decide, by decide +kernel⟩
set_option maxRecDepth 20000 in
theorem im_N_start : Cond.instanceMethod xy_N_start ∈ gw_l := gw_of 436 (by rfl) rfl
set_option maxRecDepth 20000 in
theorem se_N_start : Cond.selects "ModuleShelf$Machine" xy_N_start xy_N_start ∈ gw_l := gw_of 437 (by rfl) rfl
theorem na_N_start : aw_nm xy_N_start 5 := ⟨by decide, by decide, by decide +kernel⟩
set_option maxRecDepth 20000 in
theorem im_F_open : Cond.instanceMethod xy_F_open ∈ gw_l := gw_of 440 (by rfl) rfl
set_option maxRecDepth 20000 in
theorem se_F_open : Cond.selects "ModuleShelf$Frame" xy_F_open xy_F_open ∈ gw_l := gw_of 441 (by rfl) rfl
theorem na_F_open : aw_nm xy_F_open 4 := ⟨by decide, by decide, by decide +kernel⟩
set_option maxRecDepth 20000 in
theorem im_N_work : Cond.instanceMethod xy_N_work ∈ gw_l := gw_of 445 (by rfl) rfl
set_option maxRecDepth 20000 in
theorem se_N_work : Cond.selects "ModuleShelf$Machine" xy_N_work xy_N_work ∈ gw_l := gw_of 7 (by rfl) rfl
theorem na_N_work : aw_nm xy_N_work 3 := ⟨by decide, by decide, by decide +kernel⟩
set_option maxRecDepth 20000 in
theorem im_N_fail : Cond.instanceMethod xy_N_fail ∈ gw_l := gw_of 450 (by rfl) rfl
set_option maxRecDepth 20000 in
theorem se_N_fail : Cond.selects "ModuleShelf$Machine" xy_N_fail xy_N_fail ∈ gw_l := gw_of 8 (by rfl) rfl
theorem na_N_fail : aw_nm xy_N_fail 1 := ⟨by decide, by decide, by decide +kernel⟩
set_option maxRecDepth 20000 in
theorem im_M_valueOf : Cond.instanceMethod xy_M_valueOf ∈ gw_l := gw_of 454 (by rfl) rfl
set_option maxRecDepth 20000 in
theorem se_M_valueOf : Cond.selects "ModuleShelf$Memory" xy_M_valueOf xy_M_valueOf ∈ gw_l := gw_of 455 (by rfl) rfl
theorem na_M_valueOf : aw_nm xy_M_valueOf 2 := ⟨by decide, by decide, by decide +kernel⟩
set_option maxRecDepth 20000 in
theorem im_N_assign : Cond.instanceMethod xy_N_assign ∈ gw_l := gw_of 460 (by rfl) rfl
set_option maxRecDepth 20000 in
theorem se_N_assign : Cond.selects "ModuleShelf$Machine" xy_N_assign xy_N_assign ∈ gw_l := gw_of 9 (by rfl) rfl
theorem na_N_assign : aw_nm xy_N_assign 4 := ⟨by decide, by decide, by decide +kernel⟩
set_option maxRecDepth 20000 in
theorem im_M_setValue : Cond.instanceMethod xy_M_setValue ∈ gw_l := gw_of 463 (by rfl) rfl
set_option maxRecDepth 20000 in
theorem se_M_setValue : Cond.selects "ModuleShelf$Memory" xy_M_setValue xy_M_setValue ∈ gw_l := gw_of 464 (by rfl) rfl
theorem na_M_setValue : aw_nm xy_M_setValue 3 := ⟨by decide, by decide, by decide +kernel⟩
set_option maxRecDepth 20000 in
theorem im_N_choose : Cond.instanceMethod xy_N_choose ∈ gw_l := gw_of 468 (by rfl) rfl
set_option maxRecDepth 20000 in
theorem se_N_choose : Cond.selects "ModuleShelf$Machine" xy_N_choose xy_N_choose ∈ gw_l := gw_of 10 (by rfl) rfl
theorem na_N_choose : aw_nm xy_N_choose 3 := ⟨by decide, by decide, by decide +kernel⟩
set_option maxRecDepth 20000 in
theorem im_N_skip : Cond.instanceMethod xy_N_skip ∈ gw_l := gw_of 472 (by rfl) rfl
set_option maxRecDepth 20000 in
theorem se_N_skip : Cond.selects "ModuleShelf$Machine" xy_N_skip xy_N_skip ∈ gw_l := gw_of 11 (by rfl) rfl
theorem na_N_skip : aw_nm xy_N_skip 2 := ⟨by decide, by decide, by decide +kernel⟩
set_option maxRecDepth 20000 in
theorem im_N_partsOf : Cond.instanceMethod xy_N_partsOf ∈ gw_l := gw_of 476 (by rfl) rfl
set_option maxRecDepth 20000 in
theorem se_N_partsOf : Cond.selects "ModuleShelf$Machine" xy_N_partsOf xy_N_partsOf ∈ gw_l := gw_of 12 (by rfl) rfl
theorem na_N_partsOf : aw_nm xy_N_partsOf 3 := ⟨by decide, by decide, by decide +kernel⟩
set_option maxRecDepth 20000 in
theorem im_N_enter : Cond.instanceMethod xy_N_enter ∈ gw_l := gw_of 485 (by rfl) rfl
set_option maxRecDepth 20000 in
theorem se_N_enter : Cond.selects "ModuleShelf$Machine" xy_N_enter xy_N_enter ∈ gw_l := gw_of 13 (by rfl) rfl
theorem na_N_enter : aw_nm xy_N_enter 5 := ⟨by decide, by decide, by decide +kernel⟩
set_option maxRecDepth 20000 in
theorem im_N_combine : Cond.instanceMethod xy_N_combine ∈ gw_l := gw_of 489 (by rfl) rfl
set_option maxRecDepth 20000 in
theorem se_N_combine : Cond.selects "ModuleShelf$Machine" xy_N_combine xy_N_combine ∈ gw_l := gw_of 14 (by rfl) rfl
theorem na_N_combine : aw_nm xy_N_combine 4 := ⟨by decide, by decide, by decide +kernel⟩
set_option maxRecDepth 20000 in
theorem im_S_value : Cond.instanceMethod xy_S_value ∈ gw_l := gw_of 492 (by rfl) rfl
set_option maxRecDepth 20000 in
theorem se_S_value : Cond.selects "ModuleShelf" xy_S_value xy_S_value ∈ gw_l := gw_of 493 (by rfl) rfl
theorem na_S_value : aw_nm xy_S_value 0 := ⟨by decide, by decide, by decide +kernel⟩
set_option maxRecDepth 20000 in
theorem im_S_steps : Cond.instanceMethod xy_S_steps ∈ gw_l := gw_of 496 (by rfl) rfl
set_option maxRecDepth 20000 in
theorem se_S_steps : Cond.selects "ModuleShelf" xy_S_steps xy_S_steps ∈ gw_l := gw_of 497 (by rfl) rfl
theorem na_S_steps : aw_nm xy_S_steps 0 := ⟨by decide, by decide, by decide +kernel⟩
set_option maxRecDepth 20000 in
theorem im_S_variable : Cond.instanceMethod xy_S_variable ∈ gw_l := gw_of 500 (by rfl) rfl
set_option maxRecDepth 20000 in
theorem se_S_variable : Cond.selects "ModuleShelf" xy_S_variable xy_S_variable ∈ gw_l := gw_of 501 (by rfl) rfl
theorem na_S_variable : aw_nm xy_S_variable 2 := ⟨by decide, by decide, by decide +kernel⟩
set_option maxRecDepth 20000 in
theorem im_S_key : Cond.instanceMethod xy_S_key ∈ gw_l := gw_of 505 (by rfl) rfl
set_option maxRecDepth 20000 in
theorem se_S_key : Cond.selects "ModuleShelf" xy_S_key xy_S_key ∈ gw_l := gw_of 506 (by rfl) rfl
theorem na_S_key : aw_nm xy_S_key 1 := ⟨by decide, by decide, by decide +kernel⟩
set_option maxRecDepth 20000 in
theorem im_S_loaded : Cond.instanceMethod xy_S_loaded ∈ gw_l := gw_of 509 (by rfl) rfl
set_option maxRecDepth 20000 in
theorem se_S_loaded : Cond.selects "ModuleShelf" xy_S_loaded xy_S_loaded ∈ gw_l := gw_of 510 (by rfl) rfl
theorem na_S_loaded : aw_nm xy_S_loaded 1 := ⟨by decide, by decide, by decide +kernel⟩
set_option maxRecDepth 20000 in
theorem im_S_imported : Cond.instanceMethod xy_S_imported ∈ gw_l := gw_of 513 (by rfl) rfl
set_option maxRecDepth 20000 in
theorem se_S_imported : Cond.selects "ModuleShelf" xy_S_imported xy_S_imported ∈ gw_l := gw_of 514 (by rfl) rfl
theorem na_S_imported : aw_nm xy_S_imported 2 := ⟨by decide, by decide, by decide +kernel⟩
set_option maxRecDepth 20000 in
theorem im_S_count : Cond.instanceMethod xy_S_count ∈ gw_l := gw_of 517 (by rfl) rfl
set_option maxRecDepth 20000 in
theorem se_S_count : Cond.selects "ModuleShelf" xy_S_count xy_S_count ∈ gw_l := gw_of 518 (by rfl) rfl
theorem na_S_count : aw_nm xy_S_count 1 := ⟨by decide, by decide, by decide +kernel⟩
set_option maxRecDepth 20000 in
theorem im_L_held : Cond.instanceMethod xy_L_held ∈ gw_l := gw_of 522 (by rfl) rfl
set_option maxRecDepth 20000 in
theorem se_L_held : Cond.selects "ModuleShelf$Library" xy_L_held xy_L_held ∈ gw_l := gw_of 523 (by rfl) rfl
theorem na_L_held : aw_nm xy_L_held 0 := ⟨by decide, by decide, by decide +kernel⟩
set_option maxRecDepth 20000 in
theorem im_R_init : Cond.instanceMethod xy_R_init ∈ gw_l := gw_of 530 (by rfl) rfl
theorem na_R_init : aw_nm xy_R_init 0 := ⟨by decide, by decide, by decide +kernel⟩
set_option maxRecDepth 20000 in
theorem im_R_begin : Cond.instanceMethod xy_R_begin ∈ gw_l := gw_of 622 (by rfl) rfl
set_option maxRecDepth 20000 in
theorem se_R_begin : Cond.selects "ModuleShelfModel" xy_R_begin xy_R_begin ∈ gw_l := gw_of 623 (by rfl) rfl
theorem na_R_begin : aw_nm xy_R_begin 1 := ⟨by decide, by decide, by decide +kernel⟩
set_option maxRecDepth 20000 in
theorem st_R_in : Cond.static xy_R_in ∈ gw_l := gw_of 626 (by rfl) rfl
theorem na_R_in : aw_nm xy_R_in 3 := ⟨by decide, by decide, by decide +kernel⟩
set_option maxRecDepth 20000 in
theorem im_R_procedure : Cond.instanceMethod xy_R_procedure ∈ gw_l := gw_of 629 (by rfl) rfl
set_option maxRecDepth 20000 in
theorem se_R_procedure : Cond.selects "ModuleShelfModel" xy_R_procedure xy_R_procedure ∈ gw_l := gw_of 630 (by rfl) rfl
theorem na_R_procedure : aw_nm xy_R_procedure 1 := ⟨by decide, by decide, by decide +kernel⟩
set_option maxRecDepth 20000 in
theorem im_R_token : Cond.instanceMethod xy_R_token ∈ gw_l := gw_of 633 (by rfl) rfl
set_option maxRecDepth 20000 in
theorem se_R_token : Cond.selects "ModuleShelfModel" xy_R_token xy_R_token ∈ gw_l := gw_of 634 (by rfl) rfl
theorem na_R_token : aw_nm xy_R_token 3 := ⟨by decide, by decide, by decide +kernel⟩
set_option maxRecDepth 20000 in
theorem im_R_compile : Cond.instanceMethod xy_R_compile ∈ gw_l := gw_of 637 (by rfl) rfl
set_option maxRecDepth 20000 in
theorem se_R_compile : Cond.selects "ModuleShelfModel" xy_R_compile xy_R_compile ∈ gw_l := gw_of 638 (by rfl) rfl
theorem na_R_compile : aw_nm xy_R_compile 1 := ⟨by decide, by decide, by decide +kernel⟩
set_option maxRecDepth 20000 in
theorem im_R_firstWrong : Cond.instanceMethod xy_R_firstWrong ∈ gw_l := gw_of 642 (by rfl) rfl
set_option maxRecDepth 20000 in
theorem se_R_firstWrong : Cond.selects "ModuleShelfModel" xy_R_firstWrong xy_R_firstWrong ∈ gw_l := gw_of 15 (by rfl) rfl
theorem na_R_firstWrong : aw_nm xy_R_firstWrong 2 := ⟨by decide, by decide, by decide +kernel⟩
set_option maxRecDepth 20000 in
theorem im_R_partsOf : Cond.instanceMethod xy_R_partsOf ∈ gw_l := gw_of 646 (by rfl) rfl
set_option maxRecDepth 20000 in
theorem se_R_partsOf : Cond.selects "ModuleShelfModel" xy_R_partsOf xy_R_partsOf ∈ gw_l := gw_of 16 (by rfl) rfl
theorem na_R_partsOf : aw_nm xy_R_partsOf 3 := ⟨by decide, by decide, by decide +kernel⟩
set_option maxRecDepth 20000 in
theorem im_R_seen : Cond.instanceMethod xy_R_seen ∈ gw_l := gw_of 650 (by rfl) rfl
set_option maxRecDepth 20000 in
theorem se_R_seen : Cond.selects "ModuleShelfModel" xy_R_seen xy_R_seen ∈ gw_l := gw_of 17 (by rfl) rfl
theorem na_R_seen : aw_nm xy_R_seen 2 := ⟨by decide, by decide, by decide +kernel⟩
set_option maxRecDepth 20000 in
theorem im_R_findImports : Cond.instanceMethod xy_R_findImports ∈ gw_l := gw_of 654 (by rfl) rfl
set_option maxRecDepth 20000 in
theorem se_R_findImports : Cond.selects "ModuleShelfModel" xy_R_findImports xy_R_findImports ∈ gw_l := gw_of 18 (by rfl) rfl
theorem na_R_findImports : aw_nm xy_R_findImports 1 := ⟨by decide, by decide, by decide +kernel⟩
set_option maxRecDepth 20000 in
theorem im_R_alike : Cond.instanceMethod xy_R_alike ∈ gw_l := gw_of 658 (by rfl) rfl
set_option maxRecDepth 20000 in
theorem se_R_alike : Cond.selects "ModuleShelfModel" xy_R_alike xy_R_alike ∈ gw_l := gw_of 19 (by rfl) rfl
theorem na_R_alike : aw_nm xy_R_alike 1 := ⟨by decide, by decide, by decide +kernel⟩
set_option maxRecDepth 20000 in
theorem im_R_copy : Cond.instanceMethod xy_R_copy ∈ gw_l := gw_of 662 (by rfl) rfl
set_option maxRecDepth 20000 in
theorem se_R_copy : Cond.selects "ModuleShelfModel" xy_R_copy xy_R_copy ∈ gw_l := gw_of 20 (by rfl) rfl
theorem na_R_copy : aw_nm xy_R_copy 2 := ⟨by decide, by decide, by decide +kernel⟩
set_option maxRecDepth 20000 in
theorem im_R_place : Cond.instanceMethod xy_R_place ∈ gw_l := gw_of 665 (by rfl) rfl
set_option maxRecDepth 20000 in
theorem se_R_place : Cond.selects "ModuleShelfModel" xy_R_place xy_R_place ∈ gw_l := gw_of 666 (by rfl) rfl
theorem na_R_place : aw_nm xy_R_place 0 := ⟨by decide, by decide, by decide +kernel⟩
set_option maxRecDepth 20000 in
theorem im_R_remove : Cond.instanceMethod xy_R_remove ∈ gw_l := gw_of 669 (by rfl) rfl
set_option maxRecDepth 20000 in
theorem se_R_remove : Cond.selects "ModuleShelfModel" xy_R_remove xy_R_remove ∈ gw_l := gw_of 670 (by rfl) rfl
theorem na_R_remove : aw_nm xy_R_remove 1 := ⟨by decide, by decide, by decide +kernel⟩
set_option maxRecDepth 20000 in
theorem im_R_load : Cond.instanceMethod xy_R_load ∈ gw_l := gw_of 673 (by rfl) rfl
set_option maxRecDepth 20000 in
theorem se_R_load : Cond.selects "ModuleShelfModel" xy_R_load xy_R_load ∈ gw_l := gw_of 674 (by rfl) rfl
theorem na_R_load : aw_nm xy_R_load 1 := ⟨by decide, by decide, by decide +kernel⟩
set_option maxRecDepth 20000 in
theorem im_R_begins : Cond.instanceMethod xy_R_begins ∈ gw_l := gw_of 678 (by rfl) rfl
set_option maxRecDepth 20000 in
theorem se_R_begins : Cond.selects "ModuleShelfModel" xy_R_begins xy_R_begins ∈ gw_l := gw_of 21 (by rfl) rfl
theorem na_R_begins : aw_nm xy_R_begins 2 := ⟨by decide, by decide, by decide +kernel⟩
set_option maxRecDepth 20000 in
theorem im_R_cells : Cond.instanceMethod xy_R_cells ∈ gw_l := gw_of 682 (by rfl) rfl
set_option maxRecDepth 20000 in
theorem se_R_cells : Cond.selects "ModuleShelfModel" xy_R_cells xy_R_cells ∈ gw_l := gw_of 22 (by rfl) rfl
theorem na_R_cells : aw_nm xy_R_cells 1 := ⟨by decide, by decide, by decide +kernel⟩
set_option maxRecDepth 20000 in
theorem im_R_allCells : Cond.instanceMethod xy_R_allCells ∈ gw_l := gw_of 686 (by rfl) rfl
set_option maxRecDepth 20000 in
theorem se_R_allCells : Cond.selects "ModuleShelfModel" xy_R_allCells xy_R_allCells ∈ gw_l := gw_of 23 (by rfl) rfl
theorem na_R_allCells : aw_nm xy_R_allCells 0 := ⟨by decide, by decide, by decide +kernel⟩
set_option maxRecDepth 20000 in
theorem im_R_unload : Cond.instanceMethod xy_R_unload ∈ gw_l := gw_of 689 (by rfl) rfl
set_option maxRecDepth 20000 in
theorem se_R_unload : Cond.selects "ModuleShelfModel" xy_R_unload xy_R_unload ∈ gw_l := gw_of 690 (by rfl) rfl
theorem na_R_unload : aw_nm xy_R_unload 1 := ⟨by decide, by decide, by decide +kernel⟩
set_option maxRecDepth 20000 in
theorem im_R_run : Cond.instanceMethod xy_R_run ∈ gw_l := gw_of 693 (by rfl) rfl
set_option maxRecDepth 20000 in
theorem se_R_run : Cond.selects "ModuleShelfModel" xy_R_run xy_R_run ∈ gw_l := gw_of 694 (by rfl) rfl
theorem na_R_run : aw_nm xy_R_run 4 := ⟨by decide, by decide, by decide +kernel⟩
set_option maxRecDepth 20000 in
theorem im_R_enter : Cond.instanceMethod xy_R_enter ∈ gw_l := gw_of 698 (by rfl) rfl
set_option maxRecDepth 20000 in
theorem se_R_enter : Cond.selects "ModuleShelfModel" xy_R_enter xy_R_enter ∈ gw_l := gw_of 24 (by rfl) rfl
theorem na_R_enter : aw_nm xy_R_enter 5 := ⟨by decide, by decide, by decide +kernel⟩
set_option maxRecDepth 20000 in
theorem im_R_push : Cond.instanceMethod xy_R_push ∈ gw_l := gw_of 702 (by rfl) rfl
set_option maxRecDepth 20000 in
theorem se_R_push : Cond.selects "ModuleShelfModel" xy_R_push xy_R_push ∈ gw_l := gw_of 25 (by rfl) rfl
theorem na_R_push : aw_nm xy_R_push 3 := ⟨by decide, by decide, by decide +kernel⟩
set_option maxRecDepth 20000 in
theorem im_R_begin2 : Cond.instanceMethod xy_R_begin2 ∈ gw_l := gw_of 706 (by rfl) rfl
set_option maxRecDepth 20000 in
theorem se_R_begin2 : Cond.selects "ModuleShelfModel" xy_R_begin2 xy_R_begin2 ∈ gw_l := gw_of 26 (by rfl) rfl
theorem na_R_begin2 : aw_nm xy_R_begin2 2 := ⟨by decide, by decide, by decide +kernel⟩
set_option maxRecDepth 20000 in
theorem im_R_give : Cond.instanceMethod xy_R_give ∈ gw_l := gw_of 710 (by rfl) rfl
set_option maxRecDepth 20000 in
theorem se_R_give : Cond.selects "ModuleShelfModel" xy_R_give xy_R_give ∈ gw_l := gw_of 27 (by rfl) rfl
theorem na_R_give : aw_nm xy_R_give 1 := ⟨by decide, by decide, by decide +kernel⟩
set_option maxRecDepth 20000 in
theorem im_R_end : Cond.instanceMethod xy_R_end ∈ gw_l := gw_of 714 (by rfl) rfl
set_option maxRecDepth 20000 in
theorem se_R_end : Cond.selects "ModuleShelfModel" xy_R_end xy_R_end ∈ gw_l := gw_of 28 (by rfl) rfl
theorem na_R_end : aw_nm xy_R_end 1 := ⟨by decide, by decide, by decide +kernel⟩
set_option maxRecDepth 20000 in
theorem im_R_parts : Cond.instanceMethod xy_R_parts ∈ gw_l := gw_of 718 (by rfl) rfl
set_option maxRecDepth 20000 in
theorem se_R_parts : Cond.selects "ModuleShelfModel" xy_R_parts xy_R_parts ∈ gw_l := gw_of 29 (by rfl) rfl
theorem na_R_parts : aw_nm xy_R_parts 1 := ⟨by decide, by decide, by decide +kernel⟩
set_option maxRecDepth 20000 in
theorem im_R_use : Cond.instanceMethod xy_R_use ∈ gw_l := gw_of 722 (by rfl) rfl
set_option maxRecDepth 20000 in
theorem se_R_use : Cond.selects "ModuleShelfModel" xy_R_use xy_R_use ∈ gw_l := gw_of 30 (by rfl) rfl
theorem na_R_use : aw_nm xy_R_use 2 := ⟨by decide, by decide, by decide +kernel⟩
set_option maxRecDepth 20000 in
theorem im_R_take : Cond.instanceMethod xy_R_take ∈ gw_l := gw_of 726 (by rfl) rfl
set_option maxRecDepth 20000 in
theorem se_R_take : Cond.selects "ModuleShelfModel" xy_R_take xy_R_take ∈ gw_l := gw_of 31 (by rfl) rfl
theorem na_R_take : aw_nm xy_R_take 0 := ⟨by decide, by decide, by decide +kernel⟩
set_option maxRecDepth 20000 in
theorem st_R_quotient : Cond.static xy_R_quotient ∈ gw_l := gw_of 729 (by rfl) rfl
theorem na_R_quotient : aw_nm xy_R_quotient 2 := ⟨by decide, by decide, by decide +kernel⟩
set_option maxRecDepth 20000 in
theorem im_R_value : Cond.instanceMethod xy_R_value ∈ gw_l := gw_of 732 (by rfl) rfl
set_option maxRecDepth 20000 in
theorem se_R_value : Cond.selects "ModuleShelfModel" xy_R_value xy_R_value ∈ gw_l := gw_of 733 (by rfl) rfl
theorem na_R_value : aw_nm xy_R_value 0 := ⟨by decide, by decide, by decide +kernel⟩
set_option maxRecDepth 20000 in
theorem im_R_steps : Cond.instanceMethod xy_R_steps ∈ gw_l := gw_of 736 (by rfl) rfl
set_option maxRecDepth 20000 in
theorem se_R_steps : Cond.selects "ModuleShelfModel" xy_R_steps xy_R_steps ∈ gw_l := gw_of 737 (by rfl) rfl
theorem na_R_steps : aw_nm xy_R_steps 0 := ⟨by decide, by decide, by decide +kernel⟩
set_option maxRecDepth 20000 in
theorem im_R_variable : Cond.instanceMethod xy_R_variable ∈ gw_l := gw_of 740 (by rfl) rfl
set_option maxRecDepth 20000 in
theorem se_R_variable : Cond.selects "ModuleShelfModel" xy_R_variable xy_R_variable ∈ gw_l := gw_of 741 (by rfl) rfl
theorem na_R_variable : aw_nm xy_R_variable 2 := ⟨by decide, by decide, by decide +kernel⟩
set_option maxRecDepth 20000 in
theorem im_R_key : Cond.instanceMethod xy_R_key ∈ gw_l := gw_of 744 (by rfl) rfl
set_option maxRecDepth 20000 in
theorem se_R_key : Cond.selects "ModuleShelfModel" xy_R_key xy_R_key ∈ gw_l := gw_of 745 (by rfl) rfl
theorem na_R_key : aw_nm xy_R_key 1 := ⟨by decide, by decide, by decide +kernel⟩
set_option maxRecDepth 20000 in
theorem im_R_loaded : Cond.instanceMethod xy_R_loaded ∈ gw_l := gw_of 748 (by rfl) rfl
set_option maxRecDepth 20000 in
theorem se_R_loaded : Cond.selects "ModuleShelfModel" xy_R_loaded xy_R_loaded ∈ gw_l := gw_of 749 (by rfl) rfl
theorem na_R_loaded : aw_nm xy_R_loaded 1 := ⟨by decide, by decide, by decide +kernel⟩
set_option maxRecDepth 20000 in
theorem im_R_imported : Cond.instanceMethod xy_R_imported ∈ gw_l := gw_of 752 (by rfl) rfl
set_option maxRecDepth 20000 in
theorem se_R_imported : Cond.selects "ModuleShelfModel" xy_R_imported xy_R_imported ∈ gw_l := gw_of 753 (by rfl) rfl
theorem na_R_imported : aw_nm xy_R_imported 2 := ⟨by decide, by decide, by decide +kernel⟩
set_option maxRecDepth 20000 in
theorem im_R_count : Cond.instanceMethod xy_R_count ∈ gw_l := gw_of 756 (by rfl) rfl
set_option maxRecDepth 20000 in
theorem se_R_count : Cond.selects "ModuleShelfModel" xy_R_count xy_R_count ∈ gw_l := gw_of 757 (by rfl) rfl
theorem na_R_count : aw_nm xy_R_count 1 := ⟨by decide, by decide, by decide +kernel⟩
set_option maxRecDepth 20000 in
theorem wi_C : Cond.initialized "ModuleShelf$Code" ∈ gw_l := gw_of 34 (by rfl) rfl
set_option maxRecDepth 20000 in
theorem wi_F : Cond.initialized "ModuleShelf$Frame" ∈ gw_l := gw_of 40 (by rfl) rfl
set_option maxRecDepth 20000 in
theorem wi_I : Cond.initialized "ModuleShelf$Image" ∈ gw_l := gw_of 38 (by rfl) rfl
set_option maxRecDepth 20000 in
theorem wi_L : Cond.initialized "ModuleShelf$Library" ∈ gw_l := gw_of 35 (by rfl) rfl
set_option maxRecDepth 20000 in
theorem wi_N : Cond.initialized "ModuleShelf$Machine" ∈ gw_l := gw_of 39 (by rfl) rfl
set_option maxRecDepth 20000 in
theorem wi_M : Cond.initialized "ModuleShelf$Memory" ∈ gw_l := gw_of 37 (by rfl) rfl
set_option maxRecDepth 20000 in
theorem wi_U : Cond.initialized "ModuleShelf$Unit" ∈ gw_l := gw_of 36 (by rfl) rfl
set_option maxRecDepth 20000 in
theorem wi_S : Cond.initialized "ModuleShelf" ∈ gw_l := gw_of 33 (by rfl) rfl
set_option maxRecDepth 20000 in
theorem wi_R : Cond.initialized "ModuleShelfModel" ∈ gw_l := gw_of 41 (by rfl) rfl
set_option maxRecDepth 20000 in
theorem wi_A : Cond.initialized "java/util/Arrays" ∈ gw_l := gw_of 43 (by rfl) rfl
set_option maxRecDepth 20000 in
theorem wi_sys : Cond.initialized "java/lang/System" ∈ gw_l := gw_of 42 (by rfl) rfl
set_option maxRecDepth 20000 in
theorem wi_math : Cond.initialized "java/lang/Math" ∈ gw_l := gw_of 44 (by rfl) rfl
set_option maxRecDepth 20000 in
theorem wn_copy : Cond.native arraycopyName ∈ gw_l := gw_of 347 (by rfl) rfl
set_option maxRecDepth 20000 in
theorem ws_copy : Cond.static arraycopyName ∈ gw_l := gw_of 346 (by rfl) rfl
set_option maxRecDepth 20000 in
theorem ws_max : Cond.static Lib.Math.max.name ∈ gw_l := gw_of 481 (by rfl) rfl
set_option maxRecDepth 20000 in
theorem wc_max : Cond.code Lib.Math.max.name Lib.Math.max.code 2 (some .int) ∈ gw_l := gw_of 482 (by rfl) rfl
end
section
/-! Rows that make cells; worlds as lists -/
theorem aw_RA1 {U : State} {a b : ClassId} {ty : FieldType} (h1 : va_RA U a ty) (h2 : va_RA U b ty) : a = b := by
  cases ty with
  | object C =>
    obtain ⟨_, _, -, -, -, x⟩ := h1
    obtain ⟨_, _, -, -, -, y⟩ := h2
    exact Option.some.inj (x.symm.trans y)
  | _ => exact Option.some.inj (Eq.trans (Eq.symm h1) h2)
theorem aw_Pl {D : va_G} {a b : va_W} {H : Heap} (h : va_P D vwCl (a ++ b) H) : va_P D vwCl a H := fun k q hk => h k q (by rw [List.getElem?_append_left (List.getElem?_eq_some_iff.mp hk).1]; exact hk)
theorem aw_Pr {D : va_G} {a b : va_W} {H : Heap} (h : va_P D vwCl (a ++ b) H) : va_P D vwCl b H := fun k q hk => h (a.length + k) q (by rw [List.getElem?_append_right (Nat.le_add_right _ _), Nat.add_sub_cancel_left]; exact hk)
theorem aw_Dl {A : Nat → Prop} {a b : va_W} (h : va_D A (a ++ b)) : va_D A a :=
  ⟨fun i j p q hi hj e => h.1 i j p q (by rw [List.getElem?_append_left (List.getElem?_eq_some_iff.mp hi).1]; exact hi) (by rw [List.getElem?_append_left (List.getElem?_eq_some_iff.mp hj).1]; exact hj) e, fun k q hk => h.2 k q (by rw [List.getElem?_append_left (List.getElem?_eq_some_iff.mp hk).1]; exact hk)⟩
theorem aw_at2 {a b : va_W} {k : Nat} {q : Nat × va_E} (hk : b[k]? = some q) : (a ++ b)[a.length + k]? = some q := by rw [List.getElem?_append_right (Nat.le_add_right _ _), Nat.add_sub_cancel_left]; exact hk
theorem aw_at1 {a b : va_W} {k : Nat} {q : Nat × va_E} (hk : a[k]? = some q) : (a ++ b)[k]? = some q := by rw [List.getElem?_append_left (List.getElem?_eq_some_iff.mp hk).1]; exact hk
theorem aw_Dr {A : Nat → Prop} {a b : va_W} (h : va_D A (a ++ b)) : va_D A b :=
  ⟨fun i j p q hi hj e => by have := h.1 _ _ p q (aw_at2 (a := a) hi) (aw_at2 (a := a) hj) e; omega, fun k q hk => h.2 _ q (aw_at2 (a := a) hk)⟩
theorem aw_Dx {A : Nat → Prop} {a b : va_W} (h : va_D A (a ++ b)) : ∀ (i j : Nat) (p q : Nat × va_E), a[i]? = some p → b[j]? = some q → p.1 ≠ q.1 := by
  intro i j p q hi hj e
  have h1 := h.1 _ _ p q (aw_at1 (b := b) hi) (aw_at2 (a := a) hj) e
  have h2 := (List.getElem?_eq_some_iff.mp hi).1
  omega
theorem aw_swapD {A : Nat → Prop} {a b : va_W} (h : va_D A (a ++ b)) : va_D A (b ++ a) := va_D.app (aw_Dr h) (aw_Dl h) (fun i j p q hi hj e => aw_Dx h j i q p hj hi e.symm)
/-- behind a call on the cells wc: the others stay -/
theorem aw_join {A : Nat → Prop} {D : va_G} {wb wc w1 : va_W} {H H1 : Heap} (hP : va_P D vwCl (wb ++ wc) H) (hD : va_D A (wb ++ wc)) (hk : ∀ q : Nat, q < H.size → ¬ va_A wc H.size q → H1[q]? = H[q]?) (hF : ∀ q, va_A wc H.size q → A q) (hP1 : va_P D vwCl w1 H1) (hD1 : va_D (va_A wc H.size) w1) : va_P D vwCl (wb ++ w1) H1 ∧ va_D A (wb ++ w1) := by
  have apart : ∀ (k : Nat) (q : Nat × va_E), wb[k]? = some q → q.1 < H.size ∧ ¬ va_A wc H.size q.1 := by
    intro k q hq
    have hl := (aw_Pl hP k q hq).lt
    refine ⟨hl, fun h => ?_⟩
    rcases h with ⟨k2, e, h⟩ | h
    · exact aw_Dx hD k k2 q (q.1, e) hq h rfl
    · omega
  refine ⟨va_P.app (fun k q hq => ?_) hP1, va_D.app (aw_Dl hD) (hD1.weaken (fun k q _ h => hF q.1 h)) (fun i j x y hx hy hxy => ?_)⟩
  · obtain ⟨g1, g2⟩ := apart k q hq
    exact (aw_Pl hP k q hq).kept (hk q.1 g1 g2)
  · exact (apart i x hx).2 (by rw [hxy]; exact hD1.2 j y hy)
section AWN
variable {l : Launch} {D : va_G} {tys : List (ClassId × FieldType)} {Zs : aw_T} {rm : Room} {cc : ByteArray} {n : Nat} {own : String} {Ts : List Cond} {E : aw_K → Prop} {κ : aw_K}
variable {cells slots : Nat} {w w' : va_W} {L L' : List (Nat × Value)} {pc : Nat} {S : List Value}
theorem aw_swap {a b : va_W} (kk : aw_J κ cells slots (b ++ a) L pc S) : aw_J κ cells slots (a ++ b) L pc S := by
  obtain ⟨p, l0, e, R, s, m, args, below, meth, c, Q, D0, A, nL⟩ := κ
  intro H locs ls hP hD hS hl
  exact kk H locs ls (va_P.app (aw_Pr hP) (aw_Pl hP)) (aw_swapD hD) hS hl
theorem aw_wid {c2 s2 : Nat} (h1 : cells ≤ c2) (h2 : slots ≤ s2) (kk : aw_J κ c2 s2 w L pc S) : aw_J κ cells slots w L pc S := by
  obtain ⟨p, l0, e, R, s, m, args, below, meth, c, Q, D0, A, nL⟩ := κ
  intro H locs ls hP hD hS hl
  exact W.widen h1 h2 (kk H locs ls hP hD hS hl)
theorem aw_new (C : aw_X0 l D tys Zs rm cc n own Ts E κ) {Cn : String} {T : u_T} {N ci index : Nat} (hin : ∀ w ∈ u_ws Cn T N, w ∈ Ts) (ty : Nat → FieldType) (hty : ∀ k, k < N → parseFieldDescriptor (T k).2.2.1 = some (ty k)) (hcl : Cond.classLink own index Cn ∈ Ts) (hinst : Cond.instantiable Cn N ∈ Ts) (hini : Cond.initialized Cn ∈ Ts) (hc : vwCl[ci]? = some (Cn, T, N)) {fs : List Value} (hfs : ∀ j, j < N → defaultValue (ty j) = vp_V fs j) (hcells : cells + 1 ≤ rm.cells) (hslots : slots + N ≤ rm.slots)
    (hd : decode cc pc = .ok (.new index, 3)) (kk : ∀ q : Nat, aw_J κ (cells + 1) (slots + N) (w ++ [(q, .inr (ci, fs))]) L (pc + 3) (.ref q :: S)) : aw_J κ cells slots w L pc S := by
  obtain ⟨p, l0, e, R, s, m, args, below, meth, c, Q, D0, A, nL⟩ := κ
  obtain ⟨rfl, rfl, rfl, rfl, hx, hb, hml, hown, hts, hKK, hA, hlk, hZ, hE⟩ := C
  intro H locs ls hP hD hS hl
  exact va_new hx hb hts hin ty hty hown (hts _ hcl) (hts _ hinst) (hts _ hini) hKK hP hD hS hA hc hfs hcells hslots hd (fun q H1 hP1 hD1 hS1 => kk q H1 locs ls hP1 hD1 hS1 hl)
theorem aw_newa (C : aw_X0 l D tys Zs rm cc n own Ts E κ) {atype : ArrayType} (harr : Cond.arrayClass (newarray.typeOf atype) ∈ Ts) {ty : FieldType} (hty : newarray.typeOf atype = ty) (t0 : Nat) {c0 : ClassId} (ht : tys[t0]? = some (c0, ty)) {k : Int32} {N' : Nat} {a0 : vp_A} (ha : ∀ cA : ClassId, vp_cell cA a0 = arrV cA N' (fun _ => defaultValue ty)) (hn : ¬ k < 0) (hN : k.toNatClampNeg = N') (hbytes : N' * componentBytes ty ≤ 536870912) (hcells : cells + 1 ≤ rm.cells) (hslots : slots + N' ≤ rm.slots)
    (hd : decode cc pc = .ok (.newarray atype, 2)) (kk : ∀ q : Nat, aw_J κ (cells + 1) (slots + N') (w ++ [(q, .inl (c0, a0))]) L (pc + 2) (.ref q :: S)) : aw_J κ cells slots w L pc (.int k :: S) := by
  obtain ⟨p, l0, e, R, s, m, args, below, meth, c, Q, D0, A, nL⟩ := κ
  obtain ⟨rfl, rfl, rfl, rfl, hx, hb, hml, hown, hts, hKK, hA, hlk, hZ, hE⟩ := C
  intro H locs ls hP hD hS hl
  refine va_newa hx hb (hts _ harr) hty hKK hP hD hS hA ha hn hN hbytes hcells hslots hd (fun q cA H1 hK1 hP1 hD1 hS1 => ?_)
  have e1 : cA = c0 := aw_RA1 (hK1.2 tys.length (cA, ty) (by simp)).2 (hKK.2 t0 _ ht).2
  subst e1
  exact kk q H1 locs ls hP1 hD1 hS1 hl
theorem aw_newq (C : aw_X0 l D tys Zs rm cc n own Ts E κ) {Cn : String} {index : Nat} (hcl : Cond.classLink own index Cn ∈ Ts) (hao : Cond.arrayOver (.object Cn) ∈ Zs.2) (t0 : Nat) {c0 : ClassId} (ht : tys[t0]? = some (c0, .object Cn)) {k : Int32} {N' : Nat} (hn : ¬ k < 0) (hN : k.toNatClampNeg = N') (hbytes : N' * 4 ≤ 536870912) (hcells : cells + 1 ≤ rm.cells) (hslots : slots + N' ≤ rm.slots)
    (hd : decode cc pc = .ok (.anewarray index, 3)) (kk : ∀ q : Nat, aw_J κ (cells + 1) (slots + N') (w ++ [(q, .inl (c0, N', .inr (.inr (.inr (.inr (fun _ => none))))))]) L (pc + 3) (.ref q :: S)) : aw_J κ cells slots w L pc (.int k :: S) := by
  obtain ⟨p, l0, e, R, s, m, args, below, meth, c, Q, D0, A, nL⟩ := κ
  obtain ⟨rfl, rfl, rfl, rfl, hx, hb, hml, hown, hts, hKK, hA, hlk, hZ, hE⟩ := C
  intro H locs ls hP hD hS hl
  refine va_newq hx hb hown (hts _ hcl) (hZ.2 _ hao).2 hKK hP hD hS hA hn hN hbytes hcells hslots hd (fun q cA H1 hK1 hP1 hD1 hS1 => ?_)
  have e1 : cA = c0 := aw_RA1 (hK1.2 tys.length (cA, .object Cn) (by simp)).2 (hKK.2 t0 _ ht).2
  subst e1
  exact kk q H1 locs ls hP1 hD1 hS1 hl
theorem aw_getG (C : aw_X0 l D tys Zs rm cc n own Ts E κ) (q0 : Nat) {a ci : Nat} {fs : List Value} (he : w[q0]? = some (a, .inr (ci, fs))) {Cn : String} {T : u_T} {NN : Nat} (hc : vwCl[ci]? = some (Cn, T, NN)) (hin : ∀ w ∈ u_ws Cn T NN, w ∈ Ts) (i : Nat) (hi : i < NN) {v : Value} (hv : fs[i]? = some v) {index : Nat}
    (hlink : Cond.fieldLink own index (T i).1 (T i).2.1 (T i).2.2.1 ∈ Ts) (hd : decode cc pc = .ok (.getfield index, 3)) (kk : aw_J κ cells slots w L (pc + 3) (v :: S)) : aw_J κ cells slots w L pc (.ref a :: S) := by
  obtain ⟨p, l0, e, R, s, m, args, below, meth, c, Q, D0, A, nL⟩ := κ
  obtain ⟨rfl, rfl, rfl, rfl, hx, hb, hml, hown, hts, hKK, hA, hlk, hZ, hE⟩ := C
  intro H locs ls hP hD hS hl
  exact va_get hx hb hts hin hown hKK hP q0 he hc i hi (hts _ hlink) (fun _ h => h) hv hd (kk H locs ls hP hD hS hl)
theorem aw_putG (C : aw_X0 l D tys Zs rm cc n own Ts E κ) (q0 : Nat) {a ci : Nat} {fs : List Value} (he : w[q0]? = some (a, .inr (ci, fs))) {Cn : String} {T : u_T} {NN : Nat} (hc : vwCl[ci]? = some (Cn, T, NN)) (hin : ∀ w ∈ u_ws Cn T NN, w ∈ Ts) (ty0 : Nat → FieldType) (hty : ∀ k, k < NN → parseFieldDescriptor (T k).2.2.1 = some (ty0 k)) (hnm : ∀ a, a < NN → ∀ b, b < NN → a ≠ b → (T a).2.1 ≠ (T b).2.1)
    (i : Nat) (hi : i < NN) {index : Nat} (hlink : Cond.fieldLink own index (T i).1 (T i).2.1 (T i).2.2.1 ∈ Ts) (hfin : (T i).2.2.2 = false) {ty : FieldType} {v : Value} (hdsc : parseFieldDescriptor (T i).2.2.1 = some ty) (hnar : narrow ty v = v) (hfit : fits ty v = true) (hlen : i < fs.length) (hw' : w.set q0 (a, .inr (ci, fs.set i v)) = w')
    (hd : decode cc pc = .ok (.putfield index, 3)) (kk : aw_J κ cells slots w' L (pc + 3) S) : aw_J κ cells slots w L pc (v :: .ref a :: S) := by
  obtain ⟨p, l0, e, R, s, m, args, below, meth, c, Q, D0, A, nL⟩ := κ
  obtain ⟨rfl, rfl, rfl, rfl, hx, hb, hml, hown, hts, hKK, hA, hlk, hZ, hE⟩ := C
  intro H locs ls hP hD hS hl
  subst hw'
  exact va_put hx hb hts hin ty0 hty hnm hown hKK hP hD hS q0 he hc i hi (hts _ hlink) (fun _ h => h) hfin hdsc hnar hfit hlen hd (fun H1 locs1 hP1 hD1 hS1 => kk H1 locs1 ls hP1 hD1 hS1 hl)
/-- in a constructor: its method's name -/
def aw_I : aw_K → Prop
  | (_, _, _, _, _, _, _, _, meth, _, _, _, _, _) => meth.name = "<init>"
theorem aw_putFG (C : aw_X0 l D tys Zs rm cc n own Ts E κ) (hi0 : aw_I κ) (q0 : Nat) {a ci : Nat} {fs : List Value} (he : w[q0]? = some (a, .inr (ci, fs))) {Cn : String} {T : u_T} {NN : Nat} (hc : vwCl[ci]? = some (Cn, T, NN)) (hin : ∀ w ∈ u_ws Cn T NN, w ∈ Ts) (ty0 : Nat → FieldType) (hty : ∀ k, k < NN → parseFieldDescriptor (T k).2.2.1 = some (ty0 k)) (hnm : ∀ a, a < NN → ∀ b, b < NN → a ≠ b → (T a).2.1 ≠ (T b).2.1)
    (i : Nat) (hi : i < NN) {index : Nat} (hlink : Cond.fieldLink own index (T i).1 (T i).2.1 (T i).2.2.1 ∈ Ts) (hfin : (T i).2.2.2 = true) (hdecl : (T i).1 = own) {ty : FieldType} {v : Value} (hdsc : parseFieldDescriptor (T i).2.2.1 = some ty) (hnar : narrow ty v = v) (hfit : fits ty v = true) (hlen : i < fs.length) (hw' : w.set q0 (a, .inr (ci, fs.set i v)) = w')
    (hd : decode cc pc = .ok (.putfield index, 3)) (kk : aw_J κ cells slots w' L (pc + 3) S) : aw_J κ cells slots w L pc (v :: .ref a :: S) := by
  obtain ⟨p, l0, e, R, s, m, args, below, meth, c, Q, D0, A, nL⟩ := κ
  obtain ⟨rfl, rfl, rfl, rfl, hx, hb, hml, hown, hts, hKK, hA, hlk, hZ, hE⟩ := C
  intro H locs ls hP hD hS hl
  subst hw'
  exact va_putF hx hb hts hin ty0 hty hnm hown hKK hP hD hS q0 he hc i hi (hts _ hlink) (fun _ h => h) hfin hi0 hdecl hdsc hnar hfit hlen hd (fun H1 locs1 hP1 hD1 hS1 => kk H1 locs1 ls hP1 hD1 hS1 hl)
theorem aw_astG (C : aw_X0 l D tys Zs rm cc n own Ts E κ) (q0 t0 qk : Nat) {a v ci : Nat} {cA : ClassId} {r : vw_C} {nn : Nat} {vs : List Value} {f : Nat → Option Nat} (ha : w[q0]? = some (a, .inl (cA, nn, .inr (.inr (.inr (.inr f)))))) (ht : tys[t0]? = some (cA, .object r.1)) (hv : w[qk]? = some (v, .inr (ci, vs))) (hc : vwCl[ci]? = some r) {i : Int32} (hin : vp_in i nn) (hw' : w.set q0 (a, .inl (cA, nn, .inr (.inr (.inr (.inr (va_up f i.toNatClampNeg (some v))))))) = w')
    (hd : decode cc pc = .ok (.aastore, 1)) (kk : aw_J κ cells slots w' L (pc + 1) S) : aw_J κ cells slots w L pc (.ref v :: .int i :: .ref a :: S) := by
  obtain ⟨p, l0, e, R, s, m, args, below, meth, c, Q, D0, A, nL⟩ := κ
  obtain ⟨rfl, rfl, rfl, rfl, hx, hb, hml, hown, hts, hKK, hA, hlk, hZ, hE⟩ := C
  intro H locs ls hP hD hS hl
  subst hw'
  exact va_astq hx hb hKK hP hD hS q0 t0 qk ci ha ht hv hc hin hd (fun H1 locs1 hP1 hD1 hS1 => kk H1 locs1 ls hP1 hD1 hS1 hl)
theorem aw_alenG (C : aw_X0 l D tys Zs rm cc n own Ts E κ) (q0 t0 : Nat) {a : Nat} {cA : ClassId} {x : vp_A} (ha : w[q0]? = some (a, .inl (cA, x))) {ty : FieldType} (ht : tys[t0]? = some (cA, ty)) {v : Int32} (hv : Int32.ofNat x.1 = v)
    (hd : decode cc pc = .ok (.arraylength, 1)) (kk : aw_J κ cells slots w L (pc + 1) (.int v :: S)) : aw_J κ cells slots w L pc (.ref a :: S) := by
  obtain ⟨p, l0, e, R, s, m, args, below, meth, c, Q, D0, A, nL⟩ := κ
  obtain ⟨rfl, rfl, rfl, rfl, hx, hb, hml, hown, hts, hKK, hA, hlk, hZ, hE⟩ := C
  intro H locs ls hP hD hS hl
  exact va_alen hx hb hKK hP q0 t0 ha ht hv hd (kk H locs ls hP hD hS hl)
theorem aw_obj (C : aw_X0 l D tys Zs rm cc n own Ts E κ) {idx : Nat} (hlink : Cond.methodLink own idx Lib.objectInit ∈ Ts) (hinst : Cond.instanceMethod Lib.objectInit ∈ Ts) (hcode : Cond.code Lib.objectInit ⟨#[0xb1]⟩ 1 none ∈ Ts) {a : Nat} (hr1 : 1 ≤ rm.frames) (hr2 : (S.map fun v => v.category).sum + 12 ≤ rm.locals)
    (hd : decode cc pc = .ok (.invokespecial idx, 3)) (kk : aw_J κ cells slots w L (pc + 3) S) : aw_J κ cells slots w L pc (.ref a :: S) := by
  obtain ⟨p, l0, e, R, s, m, args, below, meth, c, Q, D0, A, nL⟩ := κ
  obtain ⟨rfl, rfl, rfl, rfl, hx, hb, hml, hown, hts, hKK, hA, hlk, hZ, hE⟩ := C
  intro H locs ls hP hD hS hl
  refine W.objInit hx hb hown (hts _ hlink) (hts _ hinst) (hts _ hcode) rfl (by rw [hml]; exact hl.1) (a := a) (rest := S) rfl hd hr1 (by show 2 * 0 + _ + 12 ≤ _; omega) ?_
  exact W.eq (g2 := F0 m (pc + 3) ls S) rfl (kk H locs ls hP hD hS hl)
/-- a constructor's end and its contract: from one fresh cell to a world by addresses u -/
def aw_QN (D : va_G) (tys : List (ClassId × FieldType)) (A : Nat → Prop) (wf : (Nat → Nat) → va_W) (ok : (Nat → Nat) → Prop) : Array Value → State → Outcome → State → Prop :=
  fun _ st oc t => oc = .returned none ∧ (∃ u, ok u ∧ va_P D vwCl (wf u) t.heap ∧ va_K D vwCl tys t ∧ va_D A (wf u)) ∧ va_F A st t
def aw_N (l : Launch) (D : va_G) (tys : List (ClassId × FieldType)) (Zs : aw_T) (y : MethodName) (ws : List Cond) (rm : Room) (mc ms h : Nat) (e0 : va_E) (wf : (Nat → Nat) → va_W) (ok : (Nat → Nat) → Prop) : Prop :=
  ∀ sz : Nat, Met l y ws rm (va_Pc [.ref h] (fun V => V.heap.size = sz ∧ va_P D vwCl [(h, e0)] V.heap ∧ va_K D vwCl tys V ∧ va_D (fun _ => True) [(h, e0)] ∧ aw_Z Zs (va_A [(h, e0)] sz) V)) (aw_QN D tys (va_A [(h, e0)] sz) wf ok) mc ms (va_A [(h, e0)] sz)
def aw_EN (tys : List (ClassId × FieldType)) (mc ms : Nat) (wf : (Nat → Nat) → va_W) (ok : (Nat → Nat) → Prop) : aw_K → Prop
  | (_, _, _, _, s, _, args, below, meth, _, Q, D, A, _) => meth.sig.returnType = none ∧ Q = MQ below (aw_QN D tys A wf ok) args s mc ms A
theorem aw_introN {y : MethodName} {ws ws' : List Cond} {mc ms h : Nat} {e0 : va_E} {wf : (Nat → Nat) → va_W} {ok : (Nat → Nat) → Prop} (own : String) (ho : y.cls = own) (hnm : y.name = "<init>") (hy : plainName y.cls = true) (hw : ws = Cond.code y cc n none :: ws') (hn : 1 ≤ n)
    (body : ∀ κ : aw_K, aw_X0 l D tys Zs rm cc n own ws (aw_EN tys mc ms wf ok) κ → aw_I κ → aw_J κ 0 0 [(h, e0)] [(0, .ref h)] 0 []) : aw_N l D tys Zs y ws rm mc ms h e0 wf ok := by
  intro sz
  refine Met.ofW (cc := cc) (maxL := n) (ret := none) hy hw ?_
  intro p e s m args below meth c s₁ B hml hv
  obtain ⟨rfl, hsz, hP, hK, hD0, hZ⟩ := hv
  have hts := atoms_spec (ws := ws) B.pre
  subst hsz
  have hD := hD0.self (sz := s.heap.size)
  rw [lg_entry_eq]
  exact body (p, l, e, rm, s, m, [Value.ref h].toArray, below, meth, c, MQ below (aw_QN D tys (va_A [(h, e0)] s.heap.size) wf ok) [Value.ref h].toArray s mc ms (va_A [(h, e0)] s.heap.size), D, va_A [(h, e0)] s.heap.size, n)
    ⟨rfl, rfl, rfl, rfl, B.exec, B.bytes, hml, ho ▸ findClass_of_methodNamed B.named, hts, hK, fun q h => Or.inr h, B.notSynchronized, hZ, B.returns, rfl⟩ ((name_of_methodNamed B.named B.method).1.trans hnm) s.heap [] _ hP hD va_S.rf (lv_entry [.ref h] hn)
theorem aw_vretN {mc ms : Nat} {wf : (Nat → Nat) → va_W} {ok : (Nat → Nat) → Prop} (C : aw_X0 l D tys Zs rm cc n own Ts (aw_EN tys mc ms wf ok) κ) (u : Nat → Nat) (hok : ok u) (hu : wf u = w) (hd : decode cc pc = .ok (.return_, 1)) : aw_J κ mc ms w L pc [] := by
  obtain ⟨p, l0, e, R, s, m, args, below, meth, c, Q, D0, A, nL⟩ := κ
  obtain ⟨rfl, rfl, rfl, rfl, hx, hb, hml, hown, hts, hKK, hA, hlk, hZ, hE⟩ := C
  obtain ⟨hrt, hQ⟩ := hE
  intro H locs ls hP hD hS hl
  subst hQ
  subst hu
  exact W.vret hx hb hrt (fun t ht hW => ⟨rfl, ⟨u, hok, by rw [ht]; exact hP, va_K.moved hW.alike hKK, hD⟩, hS.F ht⟩) hS.2.2 hd hlk
theorem aw_blindN {h sz : Nat} {e0 : va_E} : FrameBlind (va_Pc [.ref h] (fun V => V.heap.size = sz ∧ va_P D vwCl [(h, e0)] V.heap ∧ va_K D vwCl tys V ∧ va_D (fun _ => True) [(h, e0)] ∧ aw_Z Zs (va_A [(h, e0)] sz) V)) := aw_blind
theorem aw_callWN {p : Program} {e : Env} {R : Room} {s : State} {m : MethodId} {args a : Array Value} {below : List Frame} {meth : Method} {c : Code} {Q : State → Prop} {A A1 : Nat → Prop} {H : Heap} {locs : List Loc} {ls : Array Slot} {mc ms : Nat} {wf : (Nat → Nat) → va_W} {ok : (Nat → Nat) → Prop} {st0 rest : List Value}
    (hr : va_Run p l e R s m args below meth c H locs cells slots mc ms (F0 m pc ls st0) rest (aw_QN D tys A1 wf ok a) A1) (hS : va_S A s.heap H locs) (hA1 : ∀ q, A1 q → A q)
    (kk : ∀ (u : Nat → Nat) (H1 : Heap) (locs1 : List Loc), ok u → va_P D vwCl (wf u) H1 → va_D A1 (wf u) → (∀ q : Nat, q < H.size → ¬ A1 q → H1[q]? = H[q]?) → va_S A s.heap H1 locs1 → W p l e R s m args below meth c H1 locs1 (cells + mc) (slots + ms) Q (F0 m (pc + 3) ls rest)) : W p l e R s m args below meth c H locs cells slots Q (F0 m pc ls st0) := by
  intro T hT X
  obtain ⟨v, st₀, t, T', L, h0, X', hL, e1, e2, ⟨hv, ⟨u, hok, hp, -, hd⟩, hz, hk⟩, st⟩ := hr T hT X
  cases hv
  rw [h0] at hz hk
  obtain ⟨t2, a1, b1⟩ := kk u T'.heap (locs ++ L) hok (by rw [e1]; exact hp) hd (fun q h1 h2 => by rw [e1]; exact hk q h1 h2)
    ⟨Nat.le_trans hS.1 (by rw [e1]; exact hz), fun q h1 h2 => by rw [e1, hk q (Nat.lt_of_lt_of_le h1 hS.1) (fun z => h2 (hA1 q z))]; exact hS.2.1 q h1 h2, fun q hq => by
      rcases List.mem_append.mp hq with h | h
      · exact hS.2.2 q h
      · exact hA1 _ (hL q h)⟩ T' rfl X'
  exact ⟨t2, st t2 a1, b1⟩
/-- the callee's room in the caller's, with cells -/
def aw_rn (rm' rm : Room) (mc ms maxL : Nat) : Prop := rm'.cells = mc ∧ rm'.slots = ms ∧ rm'.frames + 1 ≤ rm.frames ∧ 8 + (maxL + 11) + rm'.locals ≤ rm.locals
theorem aw_subR {A : Nat → Prop} {H0 H : Heap} {locs : List Loc} {wb wc : va_W} (hD : va_D A (wb ++ wc)) (hS : va_S A H0 H locs) (hA : ∀ q, H0.size ≤ q → A q) : ∀ q, va_A wc H.size q → A q := aw_sub (aw_Dr hD) hS hA
theorem aw_callI (C : aw_X0 l D tys Zs rm cc n own Ts E κ) {y : MethodName} {bytes : ByteArray} {maxL mc ms : Nat} {ws ws' : List Cond} {rm' : Room} {q : Nat} {e0 : va_E} {wf : (Nat → Nat) → va_W} {ok : (Nat → Nat) → Prop} {index : Nat}
    (hM : aw_N l D tys Zs y ws rm' mc ms q e0 wf ok) (hw : ws = .code y bytes maxL none :: ws') (hG : GoodIn Ts ws) (hini : Cond.initialized y.cls ∈ Ts) (hl1 : Cond.methodLink own index y ∈ Ts) (hinst : Cond.instanceMethod y ∈ Ts) (hy1 : y.name = "<init>") (hn : aw_nm y 0) (hr : aw_rn rm' rm mc ms maxL) (hcs : cells + mc ≤ rm.cells ∧ slots + ms ≤ rm.slots) (hcat : (S.map fun v => v.category).sum ≤ 8)
    (hd : decode cc pc = .ok (.invokespecial index, 3)) (kk : ∀ u, ok u → aw_J κ (cells + mc) (slots + ms) (w ++ wf u) L (pc + 3) S) : aw_J κ cells slots (w ++ [(q, e0)]) L pc (.ref q :: S) := by
  obtain ⟨p, l0, e, R, s, m, args, below, meth, c, Q, D0, A, nL⟩ := κ
  obtain ⟨rfl, rfl, rfl, rfl, hx, hb, hml, hown, hts, hKK, hA, hlk, hZ, hE⟩ := C
  intro H locs ls hP hD hS hl
  have hsub := aw_subR hD hS hA
  refine aw_callWN (va_runI (As := []) (rest := S) (b := q) ⟨hx, hb, hml, hown, hts⟩ (hM H.size) (cwI 0 hts hG hw hr.1 hr.2.1 (hts _ hini) (hts _ hl1) (hts _ hinst) hy1 ⟨hn.1, hn.2.1, hn.2.2⟩ ⟨hr.2.2.1, hr.2.2.2⟩) ⟨aw_blindN, fun U hU hW => ⟨rfl, by rw [hU], by rw [hU]; exact aw_Pr hP, va_K.moved hW.alike hKK, (aw_Dr hD).weaken (fun _ _ _ _ => trivial), hZ.keep hS hsub hU hW⟩⟩ rfl rfl hl.1 rfl (lv_room hcat) hd hcs) hS hsub (fun u H1 locs1 hok hP1 hD1 hk hS1 => ?_)
  obtain ⟨hP2, hD2⟩ := aw_join hP hD hk hsub hP1 hD1
  exact kk u hok H1 locs1 ls hP2 hD2 hS1 hl
theorem aw_callIN (C : aw_X0 l D tys Zs rm cc n own Ts E κ) {y : MethodName} {bytes : ByteArray} {maxL mc ms : Nat} {ws ws' : List Cond} {rm' : Room} {q : Nat} {e0 : va_E} {wf : (Nat → Nat) → va_W} {ok : (Nat → Nat) → Prop} {index : Nat} {host : String}
    (hM : aw_N l D tys Zs y ws rm' mc ms q e0 wf ok) (hw : ws = .code y bytes maxL none :: ws') (hG : GoodIn Ts ws) (hini : Cond.initialized y.cls ∈ Ts) (hl1 : Cond.methodLinkNest own index y host ∈ Zs.2) (hinst : Cond.instanceMethod y ∈ Ts) (hy1 : y.name = "<init>") (hn : aw_nm y 0) (hr : aw_rn rm' rm mc ms maxL) (hcs : cells + mc ≤ rm.cells ∧ slots + ms ≤ rm.slots) (hcat : (S.map fun v => v.category).sum ≤ 8)
    (hd : decode cc pc = .ok (.invokespecial index, 3)) (kk : ∀ u, ok u → aw_J κ (cells + mc) (slots + ms) (w ++ wf u) L (pc + 3) S) : aw_J κ cells slots (w ++ [(q, e0)]) L pc (.ref q :: S) := by
  obtain ⟨p, l0, e, R, s, m, args, below, meth, c, Q, D0, A, nL⟩ := κ
  obtain ⟨rfl, rfl, rfl, rfl, hx, hb, hml, hown, hts, hKK, hA, hlk, hZ, hE⟩ := C
  intro H locs ls hP hD hS hl
  have hsub := aw_subR hD hS hA
  refine aw_callWN (va_runIN (As := []) (rest := S) (b := q) ⟨hx, hb, hml, hown, hts⟩ (hM H.size) ⟨va_cnB 0 hts hG hw hr.1 hr.2.1 (hZ.2 _ hl1).2 (hts _ hini) ⟨hn.1, hn.2.1, hn.2.2⟩ ⟨hr.2.2.1, hr.2.2.2⟩, hy1, hts _ hinst⟩ ⟨aw_blindN, fun U hU hW => ⟨rfl, by rw [hU], by rw [hU]; exact aw_Pr hP, va_K.moved hW.alike hKK, (aw_Dr hD).weaken (fun _ _ _ _ => trivial), hZ.keep hS hsub hU hW⟩⟩ rfl rfl hl.1 rfl (lv_room hcat) hd hcs) hS hsub (fun u H1 locs1 hok hP1 hD1 hk hS1 => ?_)
  obtain ⟨hP2, hD2⟩ := aw_join hP hD hk hsub hP1 hD1
  exact kk u hok H1 locs1 ls hP2 hD2 hS1 hl
/-- a call on a part of the world -/
theorem aw_callVp (C : aw_X0 l D tys Zs rm cc n own Ts E κ) {y : MethodName} {bytes : ByteArray} {maxL : Nat} {ret' : Option FieldType} {ws ws' : List Cond} {rm' : Room} {b : Nat} {As rest : List Value} {r : Int32} {wb wc w1 : va_W} {index : Nat}
    (hM : aw_M l D tys Zs y ws rm' (.ref b :: As) wc (some (.int r)) w1) (hw : ws = .code y bytes maxL ret' :: ws') (hG : GoodIn Ts (wsV own index y.cls y ws)) (hn : aw_nm y As.length) (hr : aw_rm rm' rm maxL) (hcs : cells ≤ rm.cells ∧ slots ≤ rm.slots) (K : Nat) {ci : Nat} {fs : List Value} {T : u_T} {NN : Nat} (hK : wc[K]? = some (b, .inr (ci, fs))) (hc : vwCl[ci]? = some (y.cls, T, NN))
    (hst : S = As.reverse ++ .ref b :: rest) (hcat : (rest.map fun v => v.category).sum ≤ 8) (hd : decode cc pc = .ok (.invokevirtual index, 3)) (kk : aw_J κ cells slots (wb ++ w1) L (pc + 3) (.int r :: rest)) : aw_J κ cells slots (wb ++ wc) L pc S := by
  obtain ⟨p, l0, e, R, s, m, args, below, meth, c, Q, D0, A, nL⟩ := κ
  obtain ⟨rfl, rfl, rfl, rfl, hx, hb, hml, hown, hts, hKK, hA, hlk, hZ, hE⟩ := C
  intro H locs ls hP hD hS hl
  have hsub := aw_subR hD hS hA
  subst hst
  intro T9 hT9 X9
  obtain ⟨v, st₀, t, T', L9, h0, X', hL, e1, e2, ⟨hv, ⟨hp, -, hd9⟩, hz, hk⟩, st⟩ := va_runV (As := As) (rest := rest) (b := b) (g := F0 m pc ls (As.reverse ++ .ref b :: rest)) ⟨hx, hb, hml, hown, hts⟩ (hM H.size) (cwV As.length hts hG hw hr.1 hr.2.1 ⟨rfl, hn.1, hn.2.1, hn.2.2⟩ ⟨hr.2.2.1, hr.2.2.2⟩) ⟨aw_blind, va_recv hKK (aw_Pr hP) hc hK, fun U hU hW => ⟨rfl, by rw [hU], by rw [hU]; exact aw_Pr hP, va_K.moved hW.alike hKK, (aw_Dr hD).weaken (fun _ _ _ _ => trivial), hZ.keep hS hsub hU hW⟩⟩ rfl rfl hl.1 rfl (lv_room hcat) hd hcs T9 hT9 X9
  cases hv
  rw [h0] at hz hk
  obtain ⟨hP2, hD2⟩ := aw_join (H1 := T'.heap) hP hD (fun q h1 h2 => by rw [e1]; exact hk q h1 h2) hsub (by rw [e1]; exact hp) hd9
  obtain ⟨t2, a1, b1⟩ := kk T'.heap (locs ++ L9) ls hP2 hD2 ⟨Nat.le_trans hS.1 (by rw [e1]; exact hz), fun q h1 h2 => by rw [e1, hk q (Nat.lt_of_lt_of_le h1 hS.1) (fun z => h2 (hsub q z))]; exact hS.2.1 q h1 h2, fun q hq => by
      rcases List.mem_append.mp hq with h | h
      · exact hS.2.2 q h
      · exact hsub _ (hL q h)⟩ hl T' rfl X'
  exact ⟨t2, st t2 a1, b1⟩
end AWN
end
section
set_option maxRecDepth 20000 in
theorem cl_W_7 : Cond.classLink "ModuleShelfLaw" 7 "ModuleShelf" ∈ gw_l := gw_of 45 (by rfl) rfl
set_option maxRecDepth 20000 in
theorem ci_S : Cond.instantiable "ModuleShelf" 6 ∈ gw_l := gw_of 46 (by rfl) rfl
set_option maxRecDepth 20000 in
theorem cl_S_7 : Cond.classLink "ModuleShelf" 7 "ModuleShelf$Code" ∈ gw_l := gw_of 53 (by rfl) rfl
set_option maxRecDepth 20000 in
theorem ci_C : Cond.instantiable "ModuleShelf$Code" 7 ∈ gw_l := gw_of 54 (by rfl) rfl
set_option maxRecDepth 20000 in
theorem cl_S_16 : Cond.classLink "ModuleShelf" 16 "ModuleShelf$Library" ∈ gw_l := gw_of 90 (by rfl) rfl
set_option maxRecDepth 20000 in
theorem ci_L : Cond.instantiable "ModuleShelf$Library" 3 ∈ gw_l := gw_of 91 (by rfl) rfl
set_option maxRecDepth 20000 in
theorem cl_L_9 : Cond.classLink "ModuleShelf$Library" 9 "ModuleShelf$Unit" ∈ gw_l := gw_of 96 (by rfl) rfl
set_option maxRecDepth 20000 in
theorem ci_U : Cond.instantiable "ModuleShelf$Unit" 6 ∈ gw_l := gw_of 98 (by rfl) rfl
set_option maxRecDepth 20000 in
theorem cl_U_18 : Cond.classLink "ModuleShelf$Unit" 18 "ModuleShelf$Code" ∈ gw_l := gw_of 103 (by rfl) rfl
set_option maxRecDepth 20000 in
theorem cl_S_23 : Cond.classLink "ModuleShelf" 23 "ModuleShelf$Memory" ∈ gw_l := gw_of 153 (by rfl) rfl
set_option maxRecDepth 20000 in
theorem ci_M : Cond.instantiable "ModuleShelf$Memory" 2 ∈ gw_l := gw_of 154 (by rfl) rfl
set_option maxRecDepth 20000 in
theorem cl_M_9 : Cond.classLink "ModuleShelf$Memory" 9 "ModuleShelf$Image" ∈ gw_l := gw_of 159 (by rfl) rfl
set_option maxRecDepth 20000 in
theorem ci_I : Cond.instantiable "ModuleShelf$Image" 2 ∈ gw_l := gw_of 161 (by rfl) rfl
set_option maxRecDepth 20000 in
theorem cl_I_9 : Cond.classLink "ModuleShelf$Image" 9 "ModuleShelf$Unit" ∈ gw_l := gw_of 166 (by rfl) rfl
set_option maxRecDepth 20000 in
theorem cl_S_30 : Cond.classLink "ModuleShelf" 30 "ModuleShelf$Machine" ∈ gw_l := gw_of 189 (by rfl) rfl
set_option maxRecDepth 20000 in
theorem ci_N : Cond.instantiable "ModuleShelf$Machine" 3 ∈ gw_l := gw_of 190 (by rfl) rfl
set_option maxRecDepth 20000 in
theorem cl_N_9 : Cond.classLink "ModuleShelf$Machine" 9 "ModuleShelf$Frame" ∈ gw_l := gw_of 195 (by rfl) rfl
set_option maxRecDepth 20000 in
theorem ci_F : Cond.instantiable "ModuleShelf$Frame" 5 ∈ gw_l := gw_of 197 (by rfl) rfl
set_option maxRecDepth 20000 in
theorem cl_W_10 : Cond.classLink "ModuleShelfLaw" 10 "ModuleShelfModel" ∈ gw_l := gw_of 527 (by rfl) rfl
set_option maxRecDepth 20000 in
theorem ci_R : Cond.instantiable "ModuleShelfModel" 29 ∈ gw_l := gw_of 528 (by rfl) rfl
set_option maxRecDepth 20000 in
theorem wo_inst : Cond.instanceMethod Lib.objectInit ∈ gw_l := gw_of 51 (by rfl) rfl
set_option maxRecDepth 20000 in
theorem wo_code : Cond.code Lib.objectInit ⟨#[0xb1]⟩ 1 none ∈ gw_l := gw_of 52 (by rfl) rfl
set_option maxRecDepth 20000 in
theorem wa_int : Cond.arrayClass .int ∈ gw_l := gw_of 89 (by rfl) rfl
set_option maxRecDepth 20000 in
theorem wa_bool : Cond.arrayClass .boolean ∈ gw_l := gw_of 179 (by rfl) rfl
def rm_N (d mc ms : Nat) : Room := { frames := d, cells := mc, slots := ms, locals := 40 * d }
theorem rn_lt {a b mc ms c2 s2 m : Nat} (h : a < b) (hm : m ≤ 21) : aw_rn (rm_N a mc ms) (rm_N b c2 s2) mc ms m := ⟨rfl, rfl, h, by show 8 + (m + 11) + 40 * a ≤ 40 * b; omega⟩
/-- the fresh cells b to b + n - 1 of the class -/
def cr_w (ids : Nat → ClassId) (b n : Nat) (u : Nat → Nat) : va_W := (List.range' b n).map (fun k => (u k, ly_k u ids k (fun _ => 0)))
theorem cr_C {ids : Nat → ClassId} {b : Nat} {u : Nat → Nat} (hb : kd_k b = 1) : cr_w ids b 6 u = [(u b, .inr (0, [.int 0, .int 0, .ref (u (b + 1)), .ref (u (b + 2)), .ref (u (b + 3)), .ref (u (b + 4)), .ref (u (b + 5))])), (u (b + 1), .inl (ids 0, 3, .inl (fun _ => 0))), (u (b + 2), .inl (ids 0, 3, .inl (fun _ => 0))), (u (b + 3), .inl (ids 0, 42, .inl (fun _ => 0))), (u (b + 4), .inl (ids 0, 42, .inl (fun _ => 0))), (u (b + 5), .inl (ids 0, 42, .inl (fun _ => 0)))] := by
  show [(u b, ly_k u ids b (fun _ => 0)), (u (b + 1), ly_k u ids (b + 1) (fun _ => 0)), (u (b + 2), ly_k u ids (b + 2) (fun _ => 0)), (u (b + 3), ly_k u ids (b + 3) (fun _ => 0)), (u (b + 4), ly_k u ids (b + 4) (fun _ => 0)), (u (b + 5), ly_k u ids (b + 5) (fun _ => 0))] = _
  rw [ly_C hb, ly_A3 (kf_C_arguments hb), ly_A3 (kf_C_lengths hb), ly_A42 (kf_C_ops hb), ly_A42 (kf_C_as hb), ly_A42 (kf_C_bs hb)]
theorem cr_U {ids : Nat → ClassId} {b : Nat} {u : Nat → Nat} (hb : kd_k b = 6) : cr_w ids b 9 u = [(u b, .inr (6, [.int 0, .int 0, .int 0, .ref (u (b + 1)), .ref (u (b + 2)), .ref (u (b + 3))])), (u (b + 1), .inl (ids 0, 6, .inl (fun _ => 0))), (u (b + 2), .inl (ids 0, 6, .inl (fun _ => 0)))] ++ cr_w ids (b + 3) 6 u := by
  show [(u b, ly_k u ids b (fun _ => 0)), (u (b + 1), ly_k u ids (b + 1) (fun _ => 0)), (u (b + 2), ly_k u ids (b + 2) (fun _ => 0))] ++ cr_w ids (b + 3) 6 u = _
  rw [ly_U hb, ly_A6 (kf_U_importModules hb), ly_A6 (kf_U_importKeys hb)]
theorem cr_I {ids : Nat → ClassId} {b : Nat} {u : Nat → Nat} (hb : kd_k b = 11) : cr_w ids b 11 u = [(u b, .inr (2, [.ref (u (b + 1)), .ref (u (b + 10))]))] ++ cr_w ids (b + 1) 9 u ++ [(u (b + 10), .inl (ids 0, 3, .inl (fun _ => 0)))] := by
  show [(u b, ly_k u ids b (fun _ => 0))] ++ cr_w ids (b + 1) 9 u ++ [(u (b + 10), ly_k u ids (b + 10) (fun _ => 0))] = _
  rw [ly_I hb, ly_A3 (kf_I_values hb)]
theorem cg_C {ids : Nat → ClassId} {b : Nat} {u v : Nat → Nat} (hb : kd_k b = 1) (h : ∀ j, b ≤ j → j < b + 6 → u j = v j) : cr_w ids b 6 u = cr_w ids b 6 v := by
  rw [cr_C hb, cr_C hb, h b (by omega) (by omega), h (b + 1) (by omega) (by omega), h (b + 2) (by omega) (by omega), h (b + 3) (by omega) (by omega), h (b + 4) (by omega) (by omega), h (b + 5) (by omega) (by omega)]
theorem cg_U {ids : Nat → ClassId} {b : Nat} {u v : Nat → Nat} (hb : kd_k b = 6) (h : ∀ j, b ≤ j → j < b + 9 → u j = v j) : cr_w ids b 9 u = cr_w ids b 9 v := by
  rw [cr_U hb, cr_U hb, h b (by omega) (by omega), h (b + 1) (by omega) (by omega), h (b + 2) (by omega) (by omega), h (b + 3) (by omega) (by omega), cg_C (kf_U_code hb) (fun j h1 h2 => h j (by omega) (by omega))]
theorem cg_I {ids : Nat → ClassId} {b : Nat} {u v : Nat → Nat} (hb : kd_k b = 11) (h : ∀ j, b ≤ j → j < b + 11 → u j = v j) : cr_w ids b 11 u = cr_w ids b 11 v := by
  rw [cr_I hb, cr_I hb, h b (by omega) (by omega), h (b + 1) (by omega) (by omega), h (b + 10) (by omega) (by omega), cg_U (kf_I_unit hb) (fun j h1 h2 => h j (by omega) (by omega))]
section AWZ
variable {l : Launch} {D : va_G} {tys : List (ClassId × FieldType)} {Zs : aw_T} {rm : Room} {cc : ByteArray} {n : Nat} {own : String} {Ts : List Cond} {E : aw_K → Prop} {κ : aw_K}
variable {cells slots : Nat} {w w' : va_W} {L L' : List (Nat × Value)} {pc : Nat} {S : List Value}
theorem vq_cong {cA : ClassId} {nn : Nat} {f g : Nat → Option Nat} (h : ∀ i, i < nn → f i = g i) : vp_cell cA (nn, .inr (.inr (.inr (.inr f)))) = vp_cell cA (nn, .inr (.inr (.inr (.inr g)))) := by
  rw [vp_cell_q, vp_cell_q]
  unfold arrV
  congr 1
  apply Array.ext
  · simp
  · intro i h1 h2
    simp at h1 h2 ⊢
    rw [h i h1]
/-- an array of references by another function that agrees within its length -/
theorem aw_arr (C : aw_X0 l D tys Zs rm cc n own Ts E κ) (q0 : Nat) {a : Nat} {cA : ClassId} {nn : Nat} {f g : Nat → Option Nat} (ha : w[q0]? = some (a, .inl (cA, nn, .inr (.inr (.inr (.inr f)))))) (h : ∀ i, i < nn → f i = g i) (hw' : w.set q0 (a, .inl (cA, nn, .inr (.inr (.inr (.inr g))))) = w') (kk : aw_J κ cells slots w' L pc S) : aw_J κ cells slots w L pc S := by
  obtain ⟨p, l0, e, R, s, m, args, below, meth, c, Q, D0, A, nL⟩ := κ
  intro H locs ls hP hD hS hl
  subst hw'
  exact kk H locs ls (hP.set hD ha (show H[a]? = some (vp_cell cA (nn, .inr (.inr (.inr (.inr g))))) by rw [← vq_cong h]; exact hP q0 _ ha) (fun _ _ => rfl)) (hD.set ha) hS hl
theorem aw_weq (h : w = w') (kk : aw_J κ cells slots w' L pc S) : aw_J κ cells slots w L pc S := h ▸ kk
end AWZ
end
section
theorem xd_F_init_0 : decode xb_F_init 0 = .ok (.aload_n 0, 1) := by decide +kernel
theorem xd_F_init_1 : decode xb_F_init 1 = .ok (.invokespecial 1, 3) := by decide +kernel
theorem xd_F_init_4 : decode xb_F_init 4 = .ok (.return_, 1) := by decide +kernel
theorem xd_C_init_0 : decode xb_C_init 0 = .ok (.aload_n 0, 1) := by decide +kernel
theorem xd_C_init_1 : decode xb_C_init 1 = .ok (.invokespecial 3, 3) := by decide +kernel
theorem xd_C_init_4 : decode xb_C_init 4 = .ok (.aload_n 0, 1) := by decide +kernel
theorem xd_C_init_5 : decode xb_C_init 5 = .ok (.iconst 3, 1) := by decide +kernel
theorem xd_C_init_6 : decode xb_C_init 6 = .ok (.newarray .int, 2) := by decide +kernel
theorem xd_C_init_8 : decode xb_C_init 8 = .ok (.putfield 9, 3) := by decide +kernel
theorem xd_C_init_11 : decode xb_C_init 11 = .ok (.aload_n 0, 1) := by decide +kernel
theorem xd_C_init_12 : decode xb_C_init 12 = .ok (.iconst 3, 1) := by decide +kernel
theorem xd_C_init_13 : decode xb_C_init 13 = .ok (.newarray .int, 2) := by decide +kernel
theorem xd_C_init_15 : decode xb_C_init 15 = .ok (.putfield 15, 3) := by decide +kernel
theorem xd_C_init_18 : decode xb_C_init 18 = .ok (.aload_n 0, 1) := by decide +kernel
theorem xd_C_init_19 : decode xb_C_init 19 = .ok (.bipush 42, 2) := by decide +kernel
theorem xd_C_init_21 : decode xb_C_init 21 = .ok (.newarray .int, 2) := by decide +kernel
theorem xd_C_init_23 : decode xb_C_init 23 = .ok (.putfield 18, 3) := by decide +kernel
theorem xd_C_init_26 : decode xb_C_init 26 = .ok (.aload_n 0, 1) := by decide +kernel
theorem xd_C_init_27 : decode xb_C_init 27 = .ok (.bipush 42, 2) := by decide +kernel
theorem xd_C_init_29 : decode xb_C_init 29 = .ok (.newarray .int, 2) := by decide +kernel
theorem xd_C_init_31 : decode xb_C_init 31 = .ok (.putfield 21, 3) := by decide +kernel
theorem xd_C_init_34 : decode xb_C_init 34 = .ok (.aload_n 0, 1) := by decide +kernel
theorem xd_C_init_35 : decode xb_C_init 35 = .ok (.bipush 42, 2) := by decide +kernel
theorem xd_C_init_37 : decode xb_C_init 37 = .ok (.newarray .int, 2) := by decide +kernel
theorem xd_C_init_39 : decode xb_C_init 39 = .ok (.putfield 24, 3) := by decide +kernel
theorem xd_C_init_42 : decode xb_C_init 42 = .ok (.return_, 1) := by decide +kernel
theorem xd_U_init_0 : decode xb_U_init 0 = .ok (.aload_n 0, 1) := by decide +kernel
theorem xd_U_init_1 : decode xb_U_init 1 = .ok (.invokespecial 3, 3) := by decide +kernel
theorem xd_U_init_4 : decode xb_U_init 4 = .ok (.aload_n 0, 1) := by decide +kernel
theorem xd_U_init_5 : decode xb_U_init 5 = .ok (.bipush 6, 2) := by decide +kernel
theorem xd_U_init_7 : decode xb_U_init 7 = .ok (.newarray .int, 2) := by decide +kernel
theorem xd_U_init_9 : decode xb_U_init 9 = .ok (.putfield 9, 3) := by decide +kernel
theorem xd_U_init_12 : decode xb_U_init 12 = .ok (.aload_n 0, 1) := by decide +kernel
theorem xd_U_init_13 : decode xb_U_init 13 = .ok (.bipush 6, 2) := by decide +kernel
theorem xd_U_init_15 : decode xb_U_init 15 = .ok (.newarray .int, 2) := by decide +kernel
theorem xd_U_init_17 : decode xb_U_init 17 = .ok (.putfield 15, 3) := by decide +kernel
theorem xd_U_init_20 : decode xb_U_init 20 = .ok (.aload_n 0, 1) := by decide +kernel
theorem xd_U_init_21 : decode xb_U_init 21 = .ok (.new 18, 3) := by decide +kernel
theorem xd_U_init_24 : decode xb_U_init 24 = .ok (.dup, 1) := by decide +kernel
theorem xd_U_init_25 : decode xb_U_init 25 = .ok (.invokespecial 20, 3) := by decide +kernel
theorem xd_U_init_28 : decode xb_U_init 28 = .ok (.putfield 21, 3) := by decide +kernel
theorem xd_U_init_31 : decode xb_U_init 31 = .ok (.return_, 1) := by decide +kernel
theorem xd_I_init_0 : decode xb_I_init 0 = .ok (.aload_n 0, 1) := by decide +kernel
theorem xd_I_init_1 : decode xb_I_init 1 = .ok (.invokespecial 3, 3) := by decide +kernel
theorem xd_I_init_4 : decode xb_I_init 4 = .ok (.aload_n 0, 1) := by decide +kernel
theorem xd_I_init_5 : decode xb_I_init 5 = .ok (.new 9, 3) := by decide +kernel
theorem xd_I_init_8 : decode xb_I_init 8 = .ok (.dup, 1) := by decide +kernel
theorem xd_I_init_9 : decode xb_I_init 9 = .ok (.invokespecial 11, 3) := by decide +kernel
theorem xd_I_init_12 : decode xb_I_init 12 = .ok (.putfield 12, 3) := by decide +kernel
theorem xd_I_init_15 : decode xb_I_init 15 = .ok (.aload_n 0, 1) := by decide +kernel
theorem xd_I_init_16 : decode xb_I_init 16 = .ok (.iconst 3, 1) := by decide +kernel
theorem xd_I_init_17 : decode xb_I_init 17 = .ok (.newarray .int, 2) := by decide +kernel
theorem xd_I_init_19 : decode xb_I_init 19 = .ok (.putfield 18, 3) := by decide +kernel
theorem xd_I_init_22 : decode xb_I_init 22 = .ok (.return_, 1) := by decide +kernel
theorem xd_L_init_0 : decode xb_L_init 0 = .ok (.aload_n 0, 1) := by decide +kernel
theorem xd_L_init_1 : decode xb_L_init 1 = .ok (.invokespecial 3, 3) := by decide +kernel
theorem xd_L_init_4 : decode xb_L_init 4 = .ok (.aload_n 0, 1) := by decide +kernel
theorem xd_L_init_5 : decode xb_L_init 5 = .ok (.bipush 6, 2) := by decide +kernel
theorem xd_L_init_7 : decode xb_L_init 7 = .ok (.anewarray 9, 3) := by decide +kernel
theorem xd_L_init_10 : decode xb_L_init 10 = .ok (.putfield 11, 3) := by decide +kernel
theorem xd_L_init_13 : decode xb_L_init 13 = .ok (.iconst 0, 1) := by decide +kernel
theorem xd_L_init_14 : decode xb_L_init 14 = .ok (.istore_n 1, 1) := by decide +kernel
theorem xd_L_init_15 : decode xb_L_init 15 = .ok (.iload_n 1, 1) := by decide +kernel
theorem xd_L_init_16 : decode xb_L_init 16 = .ok (.bipush 6, 2) := by decide +kernel
theorem xd_L_init_18 : decode xb_L_init 18 = .ok (.if_icmp .ge 22, 3) := by decide +kernel
theorem xd_L_init_21 : decode xb_L_init 21 = .ok (.aload_n 0, 1) := by decide +kernel
theorem xd_L_init_22 : decode xb_L_init 22 = .ok (.getfield 11, 3) := by decide +kernel
theorem xd_L_init_25 : decode xb_L_init 25 = .ok (.iload_n 1, 1) := by decide +kernel
theorem xd_L_init_26 : decode xb_L_init 26 = .ok (.new 9, 3) := by decide +kernel
theorem xd_L_init_29 : decode xb_L_init 29 = .ok (.dup, 1) := by decide +kernel
theorem xd_L_init_30 : decode xb_L_init 30 = .ok (.invokespecial 17, 3) := by decide +kernel
theorem xd_L_init_33 : decode xb_L_init 33 = .ok (.aastore, 1) := by decide +kernel
theorem xd_L_init_34 : decode xb_L_init 34 = .ok (.iinc 1 1, 3) := by decide +kernel
theorem xd_L_init_37 : decode xb_L_init 37 = .ok (.goto (-22), 3) := by decide +kernel
theorem xd_L_init_40 : decode xb_L_init 40 = .ok (.return_, 1) := by decide +kernel
theorem xd_M_init_0 : decode xb_M_init 0 = .ok (.aload_n 0, 1) := by decide +kernel
theorem xd_M_init_1 : decode xb_M_init 1 = .ok (.invokespecial 3, 3) := by decide +kernel
theorem xd_M_init_4 : decode xb_M_init 4 = .ok (.aload_n 0, 1) := by decide +kernel
theorem xd_M_init_5 : decode xb_M_init 5 = .ok (.bipush 6, 2) := by decide +kernel
theorem xd_M_init_7 : decode xb_M_init 7 = .ok (.anewarray 9, 3) := by decide +kernel
theorem xd_M_init_10 : decode xb_M_init 10 = .ok (.putfield 11, 3) := by decide +kernel
theorem xd_M_init_13 : decode xb_M_init 13 = .ok (.aload_n 0, 1) := by decide +kernel
theorem xd_M_init_14 : decode xb_M_init 14 = .ok (.bipush 6, 2) := by decide +kernel
theorem xd_M_init_16 : decode xb_M_init 16 = .ok (.newarray .boolean, 2) := by decide +kernel
theorem xd_M_init_18 : decode xb_M_init 18 = .ok (.putfield 17, 3) := by decide +kernel
theorem xd_M_init_21 : decode xb_M_init 21 = .ok (.iconst 0, 1) := by decide +kernel
theorem xd_M_init_22 : decode xb_M_init 22 = .ok (.istore_n 1, 1) := by decide +kernel
theorem xd_M_init_23 : decode xb_M_init 23 = .ok (.iload_n 1, 1) := by decide +kernel
theorem xd_M_init_24 : decode xb_M_init 24 = .ok (.bipush 6, 2) := by decide +kernel
theorem xd_M_init_26 : decode xb_M_init 26 = .ok (.if_icmp .ge 22, 3) := by decide +kernel
theorem xd_M_init_29 : decode xb_M_init 29 = .ok (.aload_n 0, 1) := by decide +kernel
theorem xd_M_init_30 : decode xb_M_init 30 = .ok (.getfield 11, 3) := by decide +kernel
theorem xd_M_init_33 : decode xb_M_init 33 = .ok (.iload_n 1, 1) := by decide +kernel
theorem xd_M_init_34 : decode xb_M_init 34 = .ok (.new 9, 3) := by decide +kernel
theorem xd_M_init_37 : decode xb_M_init 37 = .ok (.dup, 1) := by decide +kernel
theorem xd_M_init_38 : decode xb_M_init 38 = .ok (.invokespecial 21, 3) := by decide +kernel
theorem xd_M_init_41 : decode xb_M_init 41 = .ok (.aastore, 1) := by decide +kernel
theorem xd_M_init_42 : decode xb_M_init 42 = .ok (.iinc 1 1, 3) := by decide +kernel
theorem xd_M_init_45 : decode xb_M_init 45 = .ok (.goto (-22), 3) := by decide +kernel
theorem xd_M_init_48 : decode xb_M_init 48 = .ok (.return_, 1) := by decide +kernel
theorem xd_N_init_0 : decode xb_N_init 0 = .ok (.aload_n 0, 1) := by decide +kernel
theorem xd_N_init_1 : decode xb_N_init 1 = .ok (.invokespecial 3, 3) := by decide +kernel
theorem xd_N_init_4 : decode xb_N_init 4 = .ok (.aload_n 0, 1) := by decide +kernel
theorem xd_N_init_5 : decode xb_N_init 5 = .ok (.bipush 6, 2) := by decide +kernel
theorem xd_N_init_7 : decode xb_N_init 7 = .ok (.anewarray 9, 3) := by decide +kernel
theorem xd_N_init_10 : decode xb_N_init 10 = .ok (.putfield 11, 3) := by decide +kernel
theorem xd_N_init_13 : decode xb_N_init 13 = .ok (.iconst 0, 1) := by decide +kernel
theorem xd_N_init_14 : decode xb_N_init 14 = .ok (.istore_n 1, 1) := by decide +kernel
theorem xd_N_init_15 : decode xb_N_init 15 = .ok (.iload_n 1, 1) := by decide +kernel
theorem xd_N_init_16 : decode xb_N_init 16 = .ok (.aload_n 0, 1) := by decide +kernel
theorem xd_N_init_17 : decode xb_N_init 17 = .ok (.getfield 11, 3) := by decide +kernel
theorem xd_N_init_20 : decode xb_N_init 20 = .ok (.arraylength, 1) := by decide +kernel
theorem xd_N_init_21 : decode xb_N_init 21 = .ok (.if_icmp .ge 22, 3) := by decide +kernel
theorem xd_N_init_24 : decode xb_N_init 24 = .ok (.aload_n 0, 1) := by decide +kernel
theorem xd_N_init_25 : decode xb_N_init 25 = .ok (.getfield 11, 3) := by decide +kernel
theorem xd_N_init_28 : decode xb_N_init 28 = .ok (.iload_n 1, 1) := by decide +kernel
theorem xd_N_init_29 : decode xb_N_init 29 = .ok (.new 9, 3) := by decide +kernel
theorem xd_N_init_32 : decode xb_N_init 32 = .ok (.dup, 1) := by decide +kernel
theorem xd_N_init_33 : decode xb_N_init 33 = .ok (.invokespecial 17, 3) := by decide +kernel
theorem xd_N_init_36 : decode xb_N_init 36 = .ok (.aastore, 1) := by decide +kernel
theorem xd_N_init_37 : decode xb_N_init 37 = .ok (.iinc 1 1, 3) := by decide +kernel
theorem xd_N_init_40 : decode xb_N_init 40 = .ok (.goto (-25), 3) := by decide +kernel
theorem xd_N_init_43 : decode xb_N_init 43 = .ok (.return_, 1) := by decide +kernel
theorem xd_S_init_0 : decode xb_S_init 0 = .ok (.aload_n 0, 1) := by decide +kernel
theorem xd_S_init_1 : decode xb_S_init 1 = .ok (.invokespecial 1, 3) := by decide +kernel
theorem xd_S_init_4 : decode xb_S_init 4 = .ok (.aload_n 0, 1) := by decide +kernel
theorem xd_S_init_5 : decode xb_S_init 5 = .ok (.new 7, 3) := by decide +kernel
theorem xd_S_init_8 : decode xb_S_init 8 = .ok (.dup, 1) := by decide +kernel
theorem xd_S_init_9 : decode xb_S_init 9 = .ok (.invokespecial 9, 3) := by decide +kernel
theorem xd_S_init_12 : decode xb_S_init 12 = .ok (.putfield 10, 3) := by decide +kernel
theorem xd_S_init_15 : decode xb_S_init 15 = .ok (.aload_n 0, 1) := by decide +kernel
theorem xd_S_init_16 : decode xb_S_init 16 = .ok (.new 16, 3) := by decide +kernel
theorem xd_S_init_19 : decode xb_S_init 19 = .ok (.dup, 1) := by decide +kernel
theorem xd_S_init_20 : decode xb_S_init 20 = .ok (.invokespecial 18, 3) := by decide +kernel
theorem xd_S_init_23 : decode xb_S_init 23 = .ok (.putfield 19, 3) := by decide +kernel
theorem xd_S_init_26 : decode xb_S_init 26 = .ok (.aload_n 0, 1) := by decide +kernel
theorem xd_S_init_27 : decode xb_S_init 27 = .ok (.new 23, 3) := by decide +kernel
theorem xd_S_init_30 : decode xb_S_init 30 = .ok (.dup, 1) := by decide +kernel
theorem xd_S_init_31 : decode xb_S_init 31 = .ok (.invokespecial 25, 3) := by decide +kernel
theorem xd_S_init_34 : decode xb_S_init 34 = .ok (.putfield 26, 3) := by decide +kernel
theorem xd_S_init_37 : decode xb_S_init 37 = .ok (.aload_n 0, 1) := by decide +kernel
theorem xd_S_init_38 : decode xb_S_init 38 = .ok (.new 30, 3) := by decide +kernel
theorem xd_S_init_41 : decode xb_S_init 41 = .ok (.dup, 1) := by decide +kernel
theorem xd_S_init_42 : decode xb_S_init 42 = .ok (.invokespecial 32, 3) := by decide +kernel
theorem xd_S_init_45 : decode xb_S_init 45 = .ok (.putfield 33, 3) := by decide +kernel
theorem xd_S_init_48 : decode xb_S_init 48 = .ok (.aload_n 0, 1) := by decide +kernel
theorem xd_S_init_49 : decode xb_S_init 49 = .ok (.iconst (-1), 1) := by decide +kernel
theorem xd_S_init_50 : decode xb_S_init 50 = .ok (.putfield 37, 3) := by decide +kernel
theorem xd_S_init_53 : decode xb_S_init 53 = .ok (.aload_n 0, 1) := by decide +kernel
theorem xd_S_init_54 : decode xb_S_init 54 = .ok (.iconst 0, 1) := by decide +kernel
theorem xd_S_init_55 : decode xb_S_init 55 = .ok (.putfield 41, 3) := by decide +kernel
theorem xd_S_init_58 : decode xb_S_init 58 = .ok (.return_, 1) := by decide +kernel
theorem xd_R_init_0 : decode xb_R_init 0 = .ok (.aload_n 0, 1) := by decide +kernel
theorem xd_R_init_1 : decode xb_R_init 1 = .ok (.invokespecial 1, 3) := by decide +kernel
theorem xd_R_init_4 : decode xb_R_init 4 = .ok (.aload_n 0, 1) := by decide +kernel
theorem xd_R_init_5 : decode xb_R_init 5 = .ok (.bipush 13, 2) := by decide +kernel
theorem xd_R_init_7 : decode xb_R_init 7 = .ok (.newarray .int, 2) := by decide +kernel
theorem xd_R_init_9 : decode xb_R_init 9 = .ok (.putfield 7, 3) := by decide +kernel
theorem xd_R_init_12 : decode xb_R_init 12 = .ok (.aload_n 0, 1) := by decide +kernel
theorem xd_R_init_13 : decode xb_R_init 13 = .ok (.bipush 13, 2) := by decide +kernel
theorem xd_R_init_15 : decode xb_R_init 15 = .ok (.newarray .int, 2) := by decide +kernel
theorem xd_R_init_17 : decode xb_R_init 17 = .ok (.putfield 13, 3) := by decide +kernel
theorem xd_R_init_20 : decode xb_R_init 20 = .ok (.aload_n 0, 1) := by decide +kernel
theorem xd_R_init_21 : decode xb_R_init 21 = .ok (.bipush 13, 2) := by decide +kernel
theorem xd_R_init_23 : decode xb_R_init 23 = .ok (.newarray .int, 2) := by decide +kernel
theorem xd_R_init_25 : decode xb_R_init 25 = .ok (.putfield 16, 3) := by decide +kernel
theorem xd_R_init_28 : decode xb_R_init 28 = .ok (.aload_n 0, 1) := by decide +kernel
theorem xd_R_init_29 : decode xb_R_init 29 = .ok (.bipush 39, 2) := by decide +kernel
theorem xd_R_init_31 : decode xb_R_init 31 = .ok (.newarray .int, 2) := by decide +kernel
theorem xd_R_init_33 : decode xb_R_init 33 = .ok (.putfield 19, 3) := by decide +kernel
theorem xd_R_init_36 : decode xb_R_init 36 = .ok (.aload_n 0, 1) := by decide +kernel
theorem xd_R_init_37 : decode xb_R_init 37 = .ok (.bipush 39, 2) := by decide +kernel
theorem xd_R_init_39 : decode xb_R_init 39 = .ok (.newarray .int, 2) := by decide +kernel
theorem xd_R_init_41 : decode xb_R_init 41 = .ok (.putfield 22, 3) := by decide +kernel
theorem xd_R_init_44 : decode xb_R_init 44 = .ok (.aload_n 0, 1) := by decide +kernel
theorem xd_R_init_45 : decode xb_R_init 45 = .ok (.sipush 546, 3) := by decide +kernel
theorem xd_R_init_48 : decode xb_R_init 48 = .ok (.newarray .int, 2) := by decide +kernel
theorem xd_R_init_50 : decode xb_R_init 50 = .ok (.putfield 25, 3) := by decide +kernel
theorem xd_R_init_53 : decode xb_R_init 53 = .ok (.aload_n 0, 1) := by decide +kernel
theorem xd_R_init_54 : decode xb_R_init 54 = .ok (.sipush 546, 3) := by decide +kernel
theorem xd_R_init_57 : decode xb_R_init 57 = .ok (.newarray .int, 2) := by decide +kernel
theorem xd_R_init_59 : decode xb_R_init 59 = .ok (.putfield 28, 3) := by decide +kernel
theorem xd_R_init_62 : decode xb_R_init 62 = .ok (.aload_n 0, 1) := by decide +kernel
theorem xd_R_init_63 : decode xb_R_init 63 = .ok (.sipush 546, 3) := by decide +kernel
theorem xd_R_init_66 : decode xb_R_init 66 = .ok (.newarray .int, 2) := by decide +kernel
theorem xd_R_init_68 : decode xb_R_init 68 = .ok (.putfield 31, 3) := by decide +kernel
theorem xd_R_init_71 : decode xb_R_init 71 = .ok (.aload_n 0, 1) := by decide +kernel
theorem xd_R_init_72 : decode xb_R_init 72 = .ok (.bipush 13, 2) := by decide +kernel
theorem xd_R_init_74 : decode xb_R_init 74 = .ok (.newarray .int, 2) := by decide +kernel
theorem xd_R_init_76 : decode xb_R_init 76 = .ok (.putfield 34, 3) := by decide +kernel
theorem xd_R_init_79 : decode xb_R_init 79 = .ok (.aload_n 0, 1) := by decide +kernel
theorem xd_R_init_80 : decode xb_R_init 80 = .ok (.bipush 65, 2) := by decide +kernel
theorem xd_R_init_82 : decode xb_R_init 82 = .ok (.newarray .int, 2) := by decide +kernel
theorem xd_R_init_84 : decode xb_R_init 84 = .ok (.putfield 37, 3) := by decide +kernel
theorem xd_R_init_87 : decode xb_R_init 87 = .ok (.aload_n 0, 1) := by decide +kernel
theorem xd_R_init_88 : decode xb_R_init 88 = .ok (.bipush 65, 2) := by decide +kernel
theorem xd_R_init_90 : decode xb_R_init 90 = .ok (.newarray .int, 2) := by decide +kernel
theorem xd_R_init_92 : decode xb_R_init 92 = .ok (.putfield 40, 3) := by decide +kernel
theorem xd_R_init_95 : decode xb_R_init 95 = .ok (.aload_n 0, 1) := by decide +kernel
theorem xd_R_init_96 : decode xb_R_init 96 = .ok (.bipush 18, 2) := by decide +kernel
theorem xd_R_init_98 : decode xb_R_init 98 = .ok (.newarray .int, 2) := by decide +kernel
theorem xd_R_init_100 : decode xb_R_init 100 = .ok (.putfield 43, 3) := by decide +kernel
theorem xd_R_init_103 : decode xb_R_init 103 = .ok (.aload_n 0, 1) := by decide +kernel
theorem xd_R_init_104 : decode xb_R_init 104 = .ok (.iconst (-1), 1) := by decide +kernel
theorem xd_R_init_105 : decode xb_R_init 105 = .ok (.putfield 46, 3) := by decide +kernel
theorem xd_R_init_108 : decode xb_R_init 108 = .ok (.aload_n 0, 1) := by decide +kernel
theorem xd_R_init_109 : decode xb_R_init 109 = .ok (.bipush 8, 2) := by decide +kernel
theorem xd_R_init_111 : decode xb_R_init 111 = .ok (.newarray .int, 2) := by decide +kernel
theorem xd_R_init_113 : decode xb_R_init 113 = .ok (.putfield 50, 3) := by decide +kernel
theorem xd_R_init_116 : decode xb_R_init 116 = .ok (.aload_n 0, 1) := by decide +kernel
theorem xd_R_init_117 : decode xb_R_init 117 = .ok (.bipush 8, 2) := by decide +kernel
theorem xd_R_init_119 : decode xb_R_init 119 = .ok (.newarray .int, 2) := by decide +kernel
theorem xd_R_init_121 : decode xb_R_init 121 = .ok (.putfield 53, 3) := by decide +kernel
theorem xd_R_init_124 : decode xb_R_init 124 = .ok (.aload_n 0, 1) := by decide +kernel
theorem xd_R_init_125 : decode xb_R_init 125 = .ok (.bipush 16, 2) := by decide +kernel
theorem xd_R_init_127 : decode xb_R_init 127 = .ok (.newarray .int, 2) := by decide +kernel
theorem xd_R_init_129 : decode xb_R_init 129 = .ok (.putfield 56, 3) := by decide +kernel
theorem xd_R_init_132 : decode xb_R_init 132 = .ok (.aload_n 0, 1) := by decide +kernel
theorem xd_R_init_133 : decode xb_R_init 133 = .ok (.sipush 300, 3) := by decide +kernel
theorem xd_R_init_136 : decode xb_R_init 136 = .ok (.newarray .int, 2) := by decide +kernel
theorem xd_R_init_138 : decode xb_R_init 138 = .ok (.putfield 59, 3) := by decide +kernel
theorem xd_R_init_141 : decode xb_R_init 141 = .ok (.aload_n 0, 1) := by decide +kernel
theorem xd_R_init_142 : decode xb_R_init 142 = .ok (.sipush 300, 3) := by decide +kernel
theorem xd_R_init_145 : decode xb_R_init 145 = .ok (.newarray .int, 2) := by decide +kernel
theorem xd_R_init_147 : decode xb_R_init 147 = .ok (.putfield 62, 3) := by decide +kernel
theorem xd_R_init_150 : decode xb_R_init 150 = .ok (.aload_n 0, 1) := by decide +kernel
theorem xd_R_init_151 : decode xb_R_init 151 = .ok (.sipush 300, 3) := by decide +kernel
theorem xd_R_init_154 : decode xb_R_init 154 = .ok (.newarray .int, 2) := by decide +kernel
theorem xd_R_init_156 : decode xb_R_init 156 = .ok (.putfield 65, 3) := by decide +kernel
theorem xd_R_init_159 : decode xb_R_init 159 = .ok (.aload_n 0, 1) := by decide +kernel
theorem xd_R_init_160 : decode xb_R_init 160 = .ok (.sipush 300, 3) := by decide +kernel
theorem xd_R_init_163 : decode xb_R_init 163 = .ok (.newarray .int, 2) := by decide +kernel
theorem xd_R_init_165 : decode xb_R_init 165 = .ok (.putfield 68, 3) := by decide +kernel
theorem xd_R_init_168 : decode xb_R_init 168 = .ok (.aload_n 0, 1) := by decide +kernel
theorem xd_R_init_169 : decode xb_R_init 169 = .ok (.bipush 6, 2) := by decide +kernel
theorem xd_R_init_171 : decode xb_R_init 171 = .ok (.newarray .int, 2) := by decide +kernel
theorem xd_R_init_173 : decode xb_R_init 173 = .ok (.putfield 71, 3) := by decide +kernel
theorem xd_R_init_176 : decode xb_R_init 176 = .ok (.aload_n 0, 1) := by decide +kernel
theorem xd_R_init_177 : decode xb_R_init 177 = .ok (.bipush 6, 2) := by decide +kernel
theorem xd_R_init_179 : decode xb_R_init 179 = .ok (.newarray .int, 2) := by decide +kernel
theorem xd_R_init_181 : decode xb_R_init 181 = .ok (.putfield 74, 3) := by decide +kernel
theorem xd_R_init_184 : decode xb_R_init 184 = .ok (.aload_n 0, 1) := by decide +kernel
theorem xd_R_init_185 : decode xb_R_init 185 = .ok (.bipush 6, 2) := by decide +kernel
theorem xd_R_init_187 : decode xb_R_init 187 = .ok (.newarray .int, 2) := by decide +kernel
theorem xd_R_init_189 : decode xb_R_init 189 = .ok (.putfield 77, 3) := by decide +kernel
theorem xd_R_init_192 : decode xb_R_init 192 = .ok (.aload_n 0, 1) := by decide +kernel
theorem xd_R_init_193 : decode xb_R_init 193 = .ok (.bipush 6, 2) := by decide +kernel
theorem xd_R_init_195 : decode xb_R_init 195 = .ok (.newarray .int, 2) := by decide +kernel
theorem xd_R_init_197 : decode xb_R_init 197 = .ok (.putfield 80, 3) := by decide +kernel
theorem xd_R_init_200 : decode xb_R_init 200 = .ok (.return_, 1) := by decide +kernel
set_option maxHeartbeats 4000000 in
set_option maxRecDepth 100000 in
theorem xn_F_init {l : Launch} {D : va_G} {ids : Nat → ClassId} {ps : Nat} (b : Nat) (hb : kd_k b = 14) (h : Nat) : aw_N l D (ty_z ids) (zs_T ps) xy_F_init (xw_F_init :: gw_l) (rm_N 1 0 0) 0 0 h (.inr (1, [.int 0, .int 0, .int 0, .int 0, .int 0])) ((fun u => cr_w ids b 1 u)) (fun u => u b = h) := by
  refine aw_introN (cc := xb_F_init) (n := 1) "ModuleShelf$Frame" rfl rfl (by decide) rfl (by decide) ?_
  intro κ C hI
  refine aw_aload_n C 0 xd_F_init_0 rfl rfl ?_
  refine aw_obj C (List.mem_cons_of_mem _ ml_F_1) (List.mem_cons_of_mem _ wo_inst) (List.mem_cons_of_mem _ wo_code) (by decide) (by decide) xd_F_init_1 ?_
  exact aw_vretN C (fun _ => h) rfl (by show [(h, ly_k _ ids b (fun _ => 0))] = _; rw [ly_F hb]) xd_F_init_4

set_option maxHeartbeats 4000000 in
set_option maxRecDepth 100000 in
theorem xn_C_init {l : Launch} {D : va_G} {ids : Nat → ClassId} {ps : Nat} (b : Nat) (hb : kd_k b = 1) (h : Nat) : aw_N l D (ty_z ids) (zs_T ps) xy_C_init (xw_C_init :: gw_l) (rm_N 1 5 132) 5 132 h (.inr (0, [.int 0, .int 0, .null, .null, .null, .null, .null])) ((fun u => cr_w ids b 6 u)) (fun u => u b = h) := by
  refine aw_introN (cc := xb_C_init) (n := 1) "ModuleShelf$Code" rfl rfl (by decide) rfl (by decide) ?_
  intro κ C hI
  refine aw_aload_n C 0 xd_C_init_0 rfl rfl ?_
  refine aw_obj C (List.mem_cons_of_mem _ ml_C_3) (List.mem_cons_of_mem _ wo_inst) (List.mem_cons_of_mem _ wo_code) (by decide) (by decide) xd_C_init_1 ?_
  refine aw_aload_n C 0 xd_C_init_4 rfl rfl ?_
  refine aw_iconst (v := (3 : Int32)) C xd_C_init_5 (by decide) ?_
  refine aw_newa (atype := .int) C (List.mem_cons_of_mem _ wa_int) rfl 0 rfl (a0 := (3, .inl (fun _ => 0))) (fun _ => rfl) (by decide) (N' := 3) rfl (by decide) (Nat.le_of_ble_eq_true rfl) (Nat.le_of_ble_eq_true rfl) xd_C_init_6 (fun q1 => ?_)
  refine aw_putFG C hI 0 rfl rfl (fun w h => List.mem_cons_of_mem _ (xi_C w h)) xk_C xo_C xn_C 2 (by decide) (List.mem_cons_of_mem _ fl_C_9) rfl rfl (ty := .array .int) (by decide +kernel) rfl rfl (Nat.le_of_ble_eq_true rfl) (w' := [(h, .inr (0, [.int 0, .int 0, .ref q1, .null, .null, .null, .null])), (q1, .inl (ids 0, 3, .inl (fun _ => 0)))]) rfl xd_C_init_8 ?_
  refine aw_aload_n C 0 xd_C_init_11 rfl rfl ?_
  refine aw_iconst (v := (3 : Int32)) C xd_C_init_12 (by decide) ?_
  refine aw_newa (atype := .int) C (List.mem_cons_of_mem _ wa_int) rfl 0 rfl (a0 := (3, .inl (fun _ => 0))) (fun _ => rfl) (by decide) (N' := 3) rfl (by decide) (Nat.le_of_ble_eq_true rfl) (Nat.le_of_ble_eq_true rfl) xd_C_init_13 (fun q2 => ?_)
  refine aw_putFG C hI 0 rfl rfl (fun w h => List.mem_cons_of_mem _ (xi_C w h)) xk_C xo_C xn_C 3 (by decide) (List.mem_cons_of_mem _ fl_C_15) rfl rfl (ty := .array .int) (by decide +kernel) rfl rfl (Nat.le_of_ble_eq_true rfl) (w' := [(h, .inr (0, [.int 0, .int 0, .ref q1, .ref q2, .null, .null, .null])), (q1, .inl (ids 0, 3, .inl (fun _ => 0))), (q2, .inl (ids 0, 3, .inl (fun _ => 0)))]) rfl xd_C_init_15 ?_
  refine aw_aload_n C 0 xd_C_init_18 rfl rfl ?_
  refine aw_bipush (v := (42 : Int32)) C xd_C_init_19 (by decide) ?_
  refine aw_newa (atype := .int) C (List.mem_cons_of_mem _ wa_int) rfl 0 rfl (a0 := (42, .inl (fun _ => 0))) (fun _ => rfl) (by decide) (N' := 42) rfl (by decide) (Nat.le_of_ble_eq_true rfl) (Nat.le_of_ble_eq_true rfl) xd_C_init_21 (fun q3 => ?_)
  refine aw_putFG C hI 0 rfl rfl (fun w h => List.mem_cons_of_mem _ (xi_C w h)) xk_C xo_C xn_C 4 (by decide) (List.mem_cons_of_mem _ fl_C_18) rfl rfl (ty := .array .int) (by decide +kernel) rfl rfl (Nat.le_of_ble_eq_true rfl) (w' := [(h, .inr (0, [.int 0, .int 0, .ref q1, .ref q2, .ref q3, .null, .null])), (q1, .inl (ids 0, 3, .inl (fun _ => 0))), (q2, .inl (ids 0, 3, .inl (fun _ => 0))), (q3, .inl (ids 0, 42, .inl (fun _ => 0)))]) rfl xd_C_init_23 ?_
  refine aw_aload_n C 0 xd_C_init_26 rfl rfl ?_
  refine aw_bipush (v := (42 : Int32)) C xd_C_init_27 (by decide) ?_
  refine aw_newa (atype := .int) C (List.mem_cons_of_mem _ wa_int) rfl 0 rfl (a0 := (42, .inl (fun _ => 0))) (fun _ => rfl) (by decide) (N' := 42) rfl (by decide) (Nat.le_of_ble_eq_true rfl) (Nat.le_of_ble_eq_true rfl) xd_C_init_29 (fun q4 => ?_)
  refine aw_putFG C hI 0 rfl rfl (fun w h => List.mem_cons_of_mem _ (xi_C w h)) xk_C xo_C xn_C 5 (by decide) (List.mem_cons_of_mem _ fl_C_21) rfl rfl (ty := .array .int) (by decide +kernel) rfl rfl (Nat.le_of_ble_eq_true rfl) (w' := [(h, .inr (0, [.int 0, .int 0, .ref q1, .ref q2, .ref q3, .ref q4, .null])), (q1, .inl (ids 0, 3, .inl (fun _ => 0))), (q2, .inl (ids 0, 3, .inl (fun _ => 0))), (q3, .inl (ids 0, 42, .inl (fun _ => 0))), (q4, .inl (ids 0, 42, .inl (fun _ => 0)))]) rfl xd_C_init_31 ?_
  refine aw_aload_n C 0 xd_C_init_34 rfl rfl ?_
  refine aw_bipush (v := (42 : Int32)) C xd_C_init_35 (by decide) ?_
  refine aw_newa (atype := .int) C (List.mem_cons_of_mem _ wa_int) rfl 0 rfl (a0 := (42, .inl (fun _ => 0))) (fun _ => rfl) (by decide) (N' := 42) rfl (by decide) (Nat.le_of_ble_eq_true rfl) (Nat.le_of_ble_eq_true rfl) xd_C_init_37 (fun q5 => ?_)
  refine aw_putFG C hI 0 rfl rfl (fun w h => List.mem_cons_of_mem _ (xi_C w h)) xk_C xo_C xn_C 6 (by decide) (List.mem_cons_of_mem _ fl_C_24) rfl rfl (ty := .array .int) (by decide +kernel) rfl rfl (Nat.le_of_ble_eq_true rfl) (w' := [(h, .inr (0, [.int 0, .int 0, .ref q1, .ref q2, .ref q3, .ref q4, .ref q5])), (q1, .inl (ids 0, 3, .inl (fun _ => 0))), (q2, .inl (ids 0, 3, .inl (fun _ => 0))), (q3, .inl (ids 0, 42, .inl (fun _ => 0))), (q4, .inl (ids 0, 42, .inl (fun _ => 0))), (q5, .inl (ids 0, 42, .inl (fun _ => 0)))]) rfl xd_C_init_39 ?_
  have e : ∀ j, (fun k => [h, q1, q2, q3, q4, q5].getD (k - b) 0) (b + j) = [h, q1, q2, q3, q4, q5].getD j 0 := fun j => by show List.getD _ (b + j - b) 0 = _; rw [Nat.add_sub_cancel_left]
  refine aw_vretN C (fun k => [h, q1, q2, q3, q4, q5].getD (k - b) 0) (e 0) ?_ xd_C_init_42
  rw [cr_C hb]; simp only [Nat.add_sub_cancel_left, Nat.sub_self]; rfl

set_option maxHeartbeats 4000000 in
set_option maxRecDepth 100000 in
theorem xn_U_init {l : Launch} {D : va_G} {ids : Nat → ClassId} {ps : Nat} (b : Nat) (hb : kd_k b = 6) (h : Nat) : aw_N l D (ty_z ids) (zs_T ps) xy_U_init (xw_U_init :: gw_l) (rm_N 2 8 151) 8 151 h (.inr (6, [.int 0, .int 0, .int 0, .null, .null, .null])) ((fun u => cr_w ids b 9 u)) (fun u => u b = h) := by
  refine aw_introN (cc := xb_U_init) (n := 1) "ModuleShelf$Unit" rfl rfl (by decide) rfl (by decide) ?_
  intro κ C hI
  refine aw_aload_n C 0 xd_U_init_0 rfl rfl ?_
  refine aw_obj C (List.mem_cons_of_mem _ ml_U_3) (List.mem_cons_of_mem _ wo_inst) (List.mem_cons_of_mem _ wo_code) (by decide) (by decide) xd_U_init_1 ?_
  refine aw_aload_n C 0 xd_U_init_4 rfl rfl ?_
  refine aw_bipush (v := (6 : Int32)) C xd_U_init_5 (by decide) ?_
  refine aw_newa (atype := .int) C (List.mem_cons_of_mem _ wa_int) rfl 0 rfl (a0 := (6, .inl (fun _ => 0))) (fun _ => rfl) (by decide) (N' := 6) rfl (by decide) (Nat.le_of_ble_eq_true rfl) (Nat.le_of_ble_eq_true rfl) xd_U_init_7 (fun q1 => ?_)
  refine aw_putFG C hI 0 rfl rfl (fun w h => List.mem_cons_of_mem _ (xi_U w h)) xk_U xo_U xn_U 3 (by decide) (List.mem_cons_of_mem _ fl_U_9) rfl rfl (ty := .array .int) (by decide +kernel) rfl rfl (Nat.le_of_ble_eq_true rfl) (w' := [(h, .inr (6, [.int 0, .int 0, .int 0, .ref q1, .null, .null])), (q1, .inl (ids 0, 6, .inl (fun _ => 0)))]) rfl xd_U_init_9 ?_
  refine aw_aload_n C 0 xd_U_init_12 rfl rfl ?_
  refine aw_bipush (v := (6 : Int32)) C xd_U_init_13 (by decide) ?_
  refine aw_newa (atype := .int) C (List.mem_cons_of_mem _ wa_int) rfl 0 rfl (a0 := (6, .inl (fun _ => 0))) (fun _ => rfl) (by decide) (N' := 6) rfl (by decide) (Nat.le_of_ble_eq_true rfl) (Nat.le_of_ble_eq_true rfl) xd_U_init_15 (fun q2 => ?_)
  refine aw_putFG C hI 0 rfl rfl (fun w h => List.mem_cons_of_mem _ (xi_U w h)) xk_U xo_U xn_U 4 (by decide) (List.mem_cons_of_mem _ fl_U_15) rfl rfl (ty := .array .int) (by decide +kernel) rfl rfl (Nat.le_of_ble_eq_true rfl) (w' := [(h, .inr (6, [.int 0, .int 0, .int 0, .ref q1, .ref q2, .null])), (q1, .inl (ids 0, 6, .inl (fun _ => 0))), (q2, .inl (ids 0, 6, .inl (fun _ => 0)))]) rfl xd_U_init_17 ?_
  refine aw_aload_n C 0 xd_U_init_20 rfl rfl ?_
  refine aw_new C (ci := 0) (fs := [.int 0, .int 0, .null, .null, .null, .null, .null]) (fun w h => List.mem_cons_of_mem _ (xi_C w h)) xk_C xo_C (List.mem_cons_of_mem _ cl_U_18) (List.mem_cons_of_mem _ ci_C) (List.mem_cons_of_mem _ wi_C) rfl (fun j hj => by rcases (show j = 0 ∨ j = 1 ∨ j = 2 ∨ j = 3 ∨ j = 4 ∨ j = 5 ∨ j = 6 by omega) with rfl | rfl | rfl | rfl | rfl | rfl | rfl <;> rfl) (Nat.le_of_ble_eq_true rfl) (Nat.le_of_ble_eq_true rfl) xd_U_init_21 (fun q3 => ?_)
  refine aw_dup C xd_U_init_24 rfl ?_
  refine aw_callIN C (xn_C_init (b + 3) (kf_U_code hb) q3) rfl (gw_sub (gw_C xg_C_init)) (List.mem_cons_of_mem _ wi_C) (List.mem_of_getElem? (i := 7) rfl) (List.mem_cons_of_mem _ im_C_init) rfl na_C_init (rn_lt (by decide) (by decide)) ⟨Nat.le_of_ble_eq_true rfl, Nat.le_of_ble_eq_true rfl⟩ (Nat.le_of_ble_eq_true rfl) xd_U_init_25 (fun v hv => ?_)
  refine aw_putFG C hI 0 rfl rfl (fun w h => List.mem_cons_of_mem _ (xi_U w h)) xk_U xo_U xn_U 5 (by decide) (List.mem_cons_of_mem _ fl_U_21) rfl rfl (ty := .object "ModuleShelf$Code") (by decide +kernel) rfl rfl (Nat.le_of_ble_eq_true rfl) (w' := [(h, .inr (6, [.int 0, .int 0, .int 0, .ref q1, .ref q2, .ref q3])), (q1, .inl (ids 0, 6, .inl (fun _ => 0))), (q2, .inl (ids 0, 6, .inl (fun _ => 0)))] ++ cr_w ids (b + 3) 6 v) rfl xd_U_init_28 ?_
  refine aw_vretN C (fun k => if k = b then h else if k = b + 1 then q1 else if k = b + 2 then q2 else v k) (by simp) ?_ xd_U_init_31
  rw [cr_U hb, cg_C (v := v) (kf_U_code hb) (fun j h1 h2 => by rw [if_neg (by omega), if_neg (by omega), if_neg (by omega)])]
  simp [hv]

set_option maxHeartbeats 4000000 in
set_option maxRecDepth 100000 in
theorem xn_I_init {l : Launch} {D : va_G} {ids : Nat → ClassId} {ps : Nat} (b : Nat) (hb : kd_k b = 11) (h : Nat) : aw_N l D (ty_z ids) (zs_T ps) xy_I_init (xw_I_init :: gw_l) (rm_N 3 10 160) 10 160 h (.inr (2, [.null, .null])) ((fun u => cr_w ids b 11 u)) (fun u => u b = h) := by
  refine aw_introN (cc := xb_I_init) (n := 1) "ModuleShelf$Image" rfl rfl (by decide) rfl (by decide) ?_
  intro κ C hI
  refine aw_aload_n C 0 xd_I_init_0 rfl rfl ?_
  refine aw_obj C (List.mem_cons_of_mem _ ml_I_3) (List.mem_cons_of_mem _ wo_inst) (List.mem_cons_of_mem _ wo_code) (by decide) (by decide) xd_I_init_1 ?_
  refine aw_aload_n C 0 xd_I_init_4 rfl rfl ?_
  refine aw_new C (ci := 6) (fs := [.int 0, .int 0, .int 0, .null, .null, .null]) (fun w h => List.mem_cons_of_mem _ (xi_U w h)) xk_U xo_U (List.mem_cons_of_mem _ cl_I_9) (List.mem_cons_of_mem _ ci_U) (List.mem_cons_of_mem _ wi_U) rfl (fun j hj => by rcases (show j = 0 ∨ j = 1 ∨ j = 2 ∨ j = 3 ∨ j = 4 ∨ j = 5 by omega) with rfl | rfl | rfl | rfl | rfl | rfl <;> rfl) (Nat.le_of_ble_eq_true rfl) (Nat.le_of_ble_eq_true rfl) xd_I_init_5 (fun q1 => ?_)
  refine aw_dup C xd_I_init_8 rfl ?_
  refine aw_callIN C (xn_U_init (b + 1) (kf_I_unit hb) q1) rfl (gw_sub (gw_C xg_U_init)) (List.mem_cons_of_mem _ wi_U) (List.mem_of_getElem? (i := 1) rfl) (List.mem_cons_of_mem _ im_U_init) rfl na_U_init (rn_lt (by decide) (by decide)) ⟨Nat.le_of_ble_eq_true rfl, Nat.le_of_ble_eq_true rfl⟩ (Nat.le_of_ble_eq_true rfl) xd_I_init_9 (fun v hv => ?_)
  refine aw_putFG C hI 0 rfl rfl (fun w h => List.mem_cons_of_mem _ (xi_I w h)) xk_I xo_I xn_I 0 (by decide) (List.mem_cons_of_mem _ fl_I_12) rfl rfl (ty := .object "ModuleShelf$Unit") (by decide +kernel) rfl rfl (Nat.le_of_ble_eq_true rfl) (w' := [(h, .inr (2, [.ref q1, .null]))] ++ cr_w ids (b + 1) 9 v) rfl xd_I_init_12 ?_
  refine aw_aload_n C 0 xd_I_init_15 rfl rfl ?_
  refine aw_iconst (v := (3 : Int32)) C xd_I_init_16 (by decide) ?_
  refine aw_newa (atype := .int) C (List.mem_cons_of_mem _ wa_int) rfl 0 rfl (a0 := (3, .inl (fun _ => 0))) (fun _ => rfl) (by decide) (N' := 3) rfl (by decide) (Nat.le_of_ble_eq_true rfl) (Nat.le_of_ble_eq_true rfl) xd_I_init_17 (fun q2 => ?_)
  refine aw_putFG C hI 0 rfl rfl (fun w h => List.mem_cons_of_mem _ (xi_I w h)) xk_I xo_I xn_I 1 (by decide) (List.mem_cons_of_mem _ fl_I_18) rfl rfl (ty := .array .int) (by decide +kernel) rfl rfl (Nat.le_of_ble_eq_true rfl) (w' := [(h, .inr (2, [.ref q1, .ref q2]))] ++ cr_w ids (b + 1) 9 v ++ [(q2, .inl (ids 0, 3, .inl (fun _ => 0)))]) rfl xd_I_init_19 ?_
  refine aw_vretN C (fun k => if k = b then h else if k = b + 10 then q2 else v k) (by simp) ?_ xd_I_init_22
  rw [cr_I hb, cg_U (v := v) (kf_I_unit hb) (fun j h1 h2 => by rw [if_neg (by omega), if_neg (by omega)])]
  simp [hv]

set_option maxHeartbeats 4000000 in
set_option maxRecDepth 100000 in
theorem xn_L_init {l : Launch} {D : va_G} {ids : Nat → ClassId} {ps : Nat} (h : Nat) : aw_N l D (ty_z ids) (zs_T ps) xy_L_init (xw_L_init :: gw_l) (rm_N 3 55 948) 55 948 h (.inr (3, [.null, .int 0, .int 0])) ((fun u => cr_w ids 7 56 u)) (fun u => u 7 = h) := by
  refine aw_introN (cc := xb_L_init) (n := 2) "ModuleShelf$Library" rfl rfl (by decide) rfl (by decide) ?_
  intro κ C hI
  refine aw_aload_n C 0 xd_L_init_0 rfl rfl ?_
  refine aw_obj C (List.mem_cons_of_mem _ ml_L_3) (List.mem_cons_of_mem _ wo_inst) (List.mem_cons_of_mem _ wo_code) (by decide) (by decide) xd_L_init_1 ?_
  refine aw_aload_n C 0 xd_L_init_4 rfl rfl ?_
  refine aw_bipush (v := (6 : Int32)) C xd_L_init_5 (by decide) ?_
  refine aw_newq C (List.mem_cons_of_mem _ cl_L_9) (List.mem_of_getElem? (i := 10) rfl) 2 rfl (by decide) (N' := 6) rfl (by decide) (Nat.le_of_ble_eq_true rfl) (Nat.le_of_ble_eq_true rfl) xd_L_init_7 (fun q1 => ?_)
  refine aw_putFG C hI 0 rfl rfl (fun w h => List.mem_cons_of_mem _ (xi_L w h)) xk_L xo_L xn_L 0 (by decide) (List.mem_cons_of_mem _ fl_L_11) rfl rfl (ty := .array (.object "ModuleShelf$Unit")) (by decide +kernel) rfl rfl (Nat.le_of_ble_eq_true rfl) (w' := [(h, .inr (3, [.ref q1, .int 0, .int 0])), (q1, .inl (ids 2, 6, .inr (.inr (.inr (.inr (fun _ => none))))))]) rfl xd_L_init_10 ?_
  refine aw_iconst (v := (0 : Int32)) C xd_L_init_13 (by decide) ?_
  refine aw_istore_n (L' := [(1, .int (0 : Int32)), (0, .ref h)]) C xd_L_init_14 rfl (by decide) rfl ?_
  refine aw_iload_n C 0 xd_L_init_15 rfl rfl ?_
  refine aw_bipush (v := (6 : Int32)) C xd_L_init_16 (by decide) ?_
  refine aw_icmp_ge (tgt := 40) C xd_L_init_18 (by decide) (fun c_0 => absurd c_0 (by decide)) (fun _ => ?_)
  refine aw_aload_n C 1 xd_L_init_21 rfl rfl ?_
  refine aw_getG C 0 rfl rfl (fun w h => List.mem_cons_of_mem _ (xi_L w h)) 0 (by decide) rfl (List.mem_cons_of_mem _ fl_L_11) xd_L_init_22 ?_
  refine aw_iload_n C 0 xd_L_init_25 rfl rfl ?_
  refine aw_new C (ci := 6) (fs := [.int 0, .int 0, .int 0, .null, .null, .null]) (fun w h => List.mem_cons_of_mem _ (xi_U w h)) xk_U xo_U (List.mem_cons_of_mem _ cl_L_9) (List.mem_cons_of_mem _ ci_U) (List.mem_cons_of_mem _ wi_U) rfl (fun j hj => by rcases (show j = 0 ∨ j = 1 ∨ j = 2 ∨ j = 3 ∨ j = 4 ∨ j = 5 by omega) with rfl | rfl | rfl | rfl | rfl | rfl <;> rfl) (Nat.le_of_ble_eq_true rfl) (Nat.le_of_ble_eq_true rfl) xd_L_init_26 (fun z => ?_)
  refine aw_dup C xd_L_init_29 rfl ?_
  refine aw_callIN C (xn_U_init 9 rfl z) rfl (gw_sub (gw_C xg_U_init)) (List.mem_cons_of_mem _ wi_U) (List.mem_of_getElem? (i := 2) rfl) (List.mem_cons_of_mem _ im_U_init) rfl na_U_init (rn_lt (by decide) (by decide)) ⟨Nat.le_of_ble_eq_true rfl, Nat.le_of_ble_eq_true rfl⟩ (Nat.le_of_ble_eq_true rfl) xd_L_init_30 (fun v0 hz => ?_)
  subst hz
  refine aw_astG C 1 2 2 rfl rfl rfl rfl (aw_in_ok rfl) (w' := [(h, .inr (3, [.ref q1, .int 0, .int 0])), (q1, .inl (ids 2, 6, .inr (.inr (.inr (.inr (va_up (fun _ => none) 0 (some (v0 9))))))))] ++ cr_w ids 9 9 v0) rfl xd_L_init_33 ?_
  refine aw_iinc (j := 0) (v := (1 : Int32)) (L' := [(1, .int (1 : Int32)), (0, .ref h)]) C xd_L_init_34 rfl (by decide) (by decide) rfl ?_
  refine aw_goto (tgt := 15) C xd_L_init_37 (by decide) ?_
  refine aw_iload_n C 0 xd_L_init_15 rfl rfl ?_
  refine aw_bipush (v := (6 : Int32)) C xd_L_init_16 (by decide) ?_
  refine aw_icmp_ge (tgt := 40) C xd_L_init_18 (by decide) (fun c_0 => absurd c_0 (by decide)) (fun _ => ?_)
  refine aw_aload_n C 1 xd_L_init_21 rfl rfl ?_
  refine aw_getG C 0 rfl rfl (fun w h => List.mem_cons_of_mem _ (xi_L w h)) 0 (by decide) rfl (List.mem_cons_of_mem _ fl_L_11) xd_L_init_22 ?_
  refine aw_iload_n C 0 xd_L_init_25 rfl rfl ?_
  refine aw_new C (ci := 6) (fs := [.int 0, .int 0, .int 0, .null, .null, .null]) (fun w h => List.mem_cons_of_mem _ (xi_U w h)) xk_U xo_U (List.mem_cons_of_mem _ cl_L_9) (List.mem_cons_of_mem _ ci_U) (List.mem_cons_of_mem _ wi_U) rfl (fun j hj => by rcases (show j = 0 ∨ j = 1 ∨ j = 2 ∨ j = 3 ∨ j = 4 ∨ j = 5 by omega) with rfl | rfl | rfl | rfl | rfl | rfl <;> rfl) (Nat.le_of_ble_eq_true rfl) (Nat.le_of_ble_eq_true rfl) xd_L_init_26 (fun z => ?_)
  refine aw_dup C xd_L_init_29 rfl ?_
  refine aw_callIN C (xn_U_init 18 rfl z) rfl (gw_sub (gw_C xg_U_init)) (List.mem_cons_of_mem _ wi_U) (List.mem_of_getElem? (i := 2) rfl) (List.mem_cons_of_mem _ im_U_init) rfl na_U_init (rn_lt (by decide) (by decide)) ⟨Nat.le_of_ble_eq_true rfl, Nat.le_of_ble_eq_true rfl⟩ (Nat.le_of_ble_eq_true rfl) xd_L_init_30 (fun v1 hz => ?_)
  subst hz
  refine aw_astG C 1 2 11 rfl rfl rfl rfl (aw_in_ok rfl) (w' := [(h, .inr (3, [.ref q1, .int 0, .int 0])), (q1, .inl (ids 2, 6, .inr (.inr (.inr (.inr (va_up (va_up (fun _ => none) 0 (some (v0 9))) 1 (some (v1 18))))))))] ++ cr_w ids 9 9 v0 ++ cr_w ids 18 9 v1) rfl xd_L_init_33 ?_
  refine aw_iinc (j := 0) (v := (2 : Int32)) (L' := [(1, .int (2 : Int32)), (0, .ref h)]) C xd_L_init_34 rfl (by decide) (by decide) rfl ?_
  refine aw_goto (tgt := 15) C xd_L_init_37 (by decide) ?_
  refine aw_iload_n C 0 xd_L_init_15 rfl rfl ?_
  refine aw_bipush (v := (6 : Int32)) C xd_L_init_16 (by decide) ?_
  refine aw_icmp_ge (tgt := 40) C xd_L_init_18 (by decide) (fun c_0 => absurd c_0 (by decide)) (fun _ => ?_)
  refine aw_aload_n C 1 xd_L_init_21 rfl rfl ?_
  refine aw_getG C 0 rfl rfl (fun w h => List.mem_cons_of_mem _ (xi_L w h)) 0 (by decide) rfl (List.mem_cons_of_mem _ fl_L_11) xd_L_init_22 ?_
  refine aw_iload_n C 0 xd_L_init_25 rfl rfl ?_
  refine aw_new C (ci := 6) (fs := [.int 0, .int 0, .int 0, .null, .null, .null]) (fun w h => List.mem_cons_of_mem _ (xi_U w h)) xk_U xo_U (List.mem_cons_of_mem _ cl_L_9) (List.mem_cons_of_mem _ ci_U) (List.mem_cons_of_mem _ wi_U) rfl (fun j hj => by rcases (show j = 0 ∨ j = 1 ∨ j = 2 ∨ j = 3 ∨ j = 4 ∨ j = 5 by omega) with rfl | rfl | rfl | rfl | rfl | rfl <;> rfl) (Nat.le_of_ble_eq_true rfl) (Nat.le_of_ble_eq_true rfl) xd_L_init_26 (fun z => ?_)
  refine aw_dup C xd_L_init_29 rfl ?_
  refine aw_callIN C (xn_U_init 27 rfl z) rfl (gw_sub (gw_C xg_U_init)) (List.mem_cons_of_mem _ wi_U) (List.mem_of_getElem? (i := 2) rfl) (List.mem_cons_of_mem _ im_U_init) rfl na_U_init (rn_lt (by decide) (by decide)) ⟨Nat.le_of_ble_eq_true rfl, Nat.le_of_ble_eq_true rfl⟩ (Nat.le_of_ble_eq_true rfl) xd_L_init_30 (fun v2 hz => ?_)
  subst hz
  refine aw_astG C 1 2 20 rfl rfl rfl rfl (aw_in_ok rfl) (w' := [(h, .inr (3, [.ref q1, .int 0, .int 0])), (q1, .inl (ids 2, 6, .inr (.inr (.inr (.inr (va_up (va_up (va_up (fun _ => none) 0 (some (v0 9))) 1 (some (v1 18))) 2 (some (v2 27))))))))] ++ cr_w ids 9 9 v0 ++ cr_w ids 18 9 v1 ++ cr_w ids 27 9 v2) rfl xd_L_init_33 ?_
  refine aw_iinc (j := 0) (v := (3 : Int32)) (L' := [(1, .int (3 : Int32)), (0, .ref h)]) C xd_L_init_34 rfl (by decide) (by decide) rfl ?_
  refine aw_goto (tgt := 15) C xd_L_init_37 (by decide) ?_
  refine aw_iload_n C 0 xd_L_init_15 rfl rfl ?_
  refine aw_bipush (v := (6 : Int32)) C xd_L_init_16 (by decide) ?_
  refine aw_icmp_ge (tgt := 40) C xd_L_init_18 (by decide) (fun c_0 => absurd c_0 (by decide)) (fun _ => ?_)
  refine aw_aload_n C 1 xd_L_init_21 rfl rfl ?_
  refine aw_getG C 0 rfl rfl (fun w h => List.mem_cons_of_mem _ (xi_L w h)) 0 (by decide) rfl (List.mem_cons_of_mem _ fl_L_11) xd_L_init_22 ?_
  refine aw_iload_n C 0 xd_L_init_25 rfl rfl ?_
  refine aw_new C (ci := 6) (fs := [.int 0, .int 0, .int 0, .null, .null, .null]) (fun w h => List.mem_cons_of_mem _ (xi_U w h)) xk_U xo_U (List.mem_cons_of_mem _ cl_L_9) (List.mem_cons_of_mem _ ci_U) (List.mem_cons_of_mem _ wi_U) rfl (fun j hj => by rcases (show j = 0 ∨ j = 1 ∨ j = 2 ∨ j = 3 ∨ j = 4 ∨ j = 5 by omega) with rfl | rfl | rfl | rfl | rfl | rfl <;> rfl) (Nat.le_of_ble_eq_true rfl) (Nat.le_of_ble_eq_true rfl) xd_L_init_26 (fun z => ?_)
  refine aw_dup C xd_L_init_29 rfl ?_
  refine aw_callIN C (xn_U_init 36 rfl z) rfl (gw_sub (gw_C xg_U_init)) (List.mem_cons_of_mem _ wi_U) (List.mem_of_getElem? (i := 2) rfl) (List.mem_cons_of_mem _ im_U_init) rfl na_U_init (rn_lt (by decide) (by decide)) ⟨Nat.le_of_ble_eq_true rfl, Nat.le_of_ble_eq_true rfl⟩ (Nat.le_of_ble_eq_true rfl) xd_L_init_30 (fun v3 hz => ?_)
  subst hz
  refine aw_astG C 1 2 29 rfl rfl rfl rfl (aw_in_ok rfl) (w' := [(h, .inr (3, [.ref q1, .int 0, .int 0])), (q1, .inl (ids 2, 6, .inr (.inr (.inr (.inr (va_up (va_up (va_up (va_up (fun _ => none) 0 (some (v0 9))) 1 (some (v1 18))) 2 (some (v2 27))) 3 (some (v3 36))))))))] ++ cr_w ids 9 9 v0 ++ cr_w ids 18 9 v1 ++ cr_w ids 27 9 v2 ++ cr_w ids 36 9 v3) rfl xd_L_init_33 ?_
  refine aw_iinc (j := 0) (v := (4 : Int32)) (L' := [(1, .int (4 : Int32)), (0, .ref h)]) C xd_L_init_34 rfl (by decide) (by decide) rfl ?_
  refine aw_goto (tgt := 15) C xd_L_init_37 (by decide) ?_
  refine aw_iload_n C 0 xd_L_init_15 rfl rfl ?_
  refine aw_bipush (v := (6 : Int32)) C xd_L_init_16 (by decide) ?_
  refine aw_icmp_ge (tgt := 40) C xd_L_init_18 (by decide) (fun c_0 => absurd c_0 (by decide)) (fun _ => ?_)
  refine aw_aload_n C 1 xd_L_init_21 rfl rfl ?_
  refine aw_getG C 0 rfl rfl (fun w h => List.mem_cons_of_mem _ (xi_L w h)) 0 (by decide) rfl (List.mem_cons_of_mem _ fl_L_11) xd_L_init_22 ?_
  refine aw_iload_n C 0 xd_L_init_25 rfl rfl ?_
  refine aw_new C (ci := 6) (fs := [.int 0, .int 0, .int 0, .null, .null, .null]) (fun w h => List.mem_cons_of_mem _ (xi_U w h)) xk_U xo_U (List.mem_cons_of_mem _ cl_L_9) (List.mem_cons_of_mem _ ci_U) (List.mem_cons_of_mem _ wi_U) rfl (fun j hj => by rcases (show j = 0 ∨ j = 1 ∨ j = 2 ∨ j = 3 ∨ j = 4 ∨ j = 5 by omega) with rfl | rfl | rfl | rfl | rfl | rfl <;> rfl) (Nat.le_of_ble_eq_true rfl) (Nat.le_of_ble_eq_true rfl) xd_L_init_26 (fun z => ?_)
  refine aw_dup C xd_L_init_29 rfl ?_
  refine aw_callIN C (xn_U_init 45 rfl z) rfl (gw_sub (gw_C xg_U_init)) (List.mem_cons_of_mem _ wi_U) (List.mem_of_getElem? (i := 2) rfl) (List.mem_cons_of_mem _ im_U_init) rfl na_U_init (rn_lt (by decide) (by decide)) ⟨Nat.le_of_ble_eq_true rfl, Nat.le_of_ble_eq_true rfl⟩ (Nat.le_of_ble_eq_true rfl) xd_L_init_30 (fun v4 hz => ?_)
  subst hz
  refine aw_astG C 1 2 38 rfl rfl rfl rfl (aw_in_ok rfl) (w' := [(h, .inr (3, [.ref q1, .int 0, .int 0])), (q1, .inl (ids 2, 6, .inr (.inr (.inr (.inr (va_up (va_up (va_up (va_up (va_up (fun _ => none) 0 (some (v0 9))) 1 (some (v1 18))) 2 (some (v2 27))) 3 (some (v3 36))) 4 (some (v4 45))))))))] ++ cr_w ids 9 9 v0 ++ cr_w ids 18 9 v1 ++ cr_w ids 27 9 v2 ++ cr_w ids 36 9 v3 ++ cr_w ids 45 9 v4) rfl xd_L_init_33 ?_
  refine aw_iinc (j := 0) (v := (5 : Int32)) (L' := [(1, .int (5 : Int32)), (0, .ref h)]) C xd_L_init_34 rfl (by decide) (by decide) rfl ?_
  refine aw_goto (tgt := 15) C xd_L_init_37 (by decide) ?_
  refine aw_iload_n C 0 xd_L_init_15 rfl rfl ?_
  refine aw_bipush (v := (6 : Int32)) C xd_L_init_16 (by decide) ?_
  refine aw_icmp_ge (tgt := 40) C xd_L_init_18 (by decide) (fun c_0 => absurd c_0 (by decide)) (fun _ => ?_)
  refine aw_aload_n C 1 xd_L_init_21 rfl rfl ?_
  refine aw_getG C 0 rfl rfl (fun w h => List.mem_cons_of_mem _ (xi_L w h)) 0 (by decide) rfl (List.mem_cons_of_mem _ fl_L_11) xd_L_init_22 ?_
  refine aw_iload_n C 0 xd_L_init_25 rfl rfl ?_
  refine aw_new C (ci := 6) (fs := [.int 0, .int 0, .int 0, .null, .null, .null]) (fun w h => List.mem_cons_of_mem _ (xi_U w h)) xk_U xo_U (List.mem_cons_of_mem _ cl_L_9) (List.mem_cons_of_mem _ ci_U) (List.mem_cons_of_mem _ wi_U) rfl (fun j hj => by rcases (show j = 0 ∨ j = 1 ∨ j = 2 ∨ j = 3 ∨ j = 4 ∨ j = 5 by omega) with rfl | rfl | rfl | rfl | rfl | rfl <;> rfl) (Nat.le_of_ble_eq_true rfl) (Nat.le_of_ble_eq_true rfl) xd_L_init_26 (fun z => ?_)
  refine aw_dup C xd_L_init_29 rfl ?_
  refine aw_callIN C (xn_U_init 54 rfl z) rfl (gw_sub (gw_C xg_U_init)) (List.mem_cons_of_mem _ wi_U) (List.mem_of_getElem? (i := 2) rfl) (List.mem_cons_of_mem _ im_U_init) rfl na_U_init (rn_lt (by decide) (by decide)) ⟨Nat.le_of_ble_eq_true rfl, Nat.le_of_ble_eq_true rfl⟩ (Nat.le_of_ble_eq_true rfl) xd_L_init_30 (fun v5 hz => ?_)
  subst hz
  refine aw_astG C 1 2 47 rfl rfl rfl rfl (aw_in_ok rfl) (w' := [(h, .inr (3, [.ref q1, .int 0, .int 0])), (q1, .inl (ids 2, 6, .inr (.inr (.inr (.inr (va_up (va_up (va_up (va_up (va_up (va_up (fun _ => none) 0 (some (v0 9))) 1 (some (v1 18))) 2 (some (v2 27))) 3 (some (v3 36))) 4 (some (v4 45))) 5 (some (v5 54))))))))] ++ cr_w ids 9 9 v0 ++ cr_w ids 18 9 v1 ++ cr_w ids 27 9 v2 ++ cr_w ids 36 9 v3 ++ cr_w ids 45 9 v4 ++ cr_w ids 54 9 v5) rfl xd_L_init_33 ?_
  refine aw_iinc (j := 0) (v := (6 : Int32)) (L' := [(1, .int (6 : Int32)), (0, .ref h)]) C xd_L_init_34 rfl (by decide) (by decide) rfl ?_
  refine aw_goto (tgt := 15) C xd_L_init_37 (by decide) ?_
  refine aw_iload_n C 0 xd_L_init_15 rfl rfl ?_
  refine aw_bipush (v := (6 : Int32)) C xd_L_init_16 (by decide) ?_
  refine aw_icmp_ge (tgt := 40) C xd_L_init_18 (by decide) (fun _ => ?_) (fun c_0 => absurd (by decide) c_0)
  obtain ⟨u, hu⟩ : ∃ u : Nat → Nat, u = (fun k => if k = 7 then h else if k = 8 then q1 else if k < 18 then v0 k else if k < 27 then v1 k else if k < 36 then v2 k else if k < 45 then v3 k else if k < 54 then v4 k else v5 k) := ⟨_, rfl⟩
  have hg0 : cr_w ids 9 9 v0 = cr_w ids 9 9 u := cg_U (rfl : kd_k 9 = 6) (fun j h1 h2 => by rw [hu]; show v0 j = ite _ _ _; rw [if_neg (by omega), if_neg (by omega), if_pos (by omega)])
  have hg1 : cr_w ids 18 9 v1 = cr_w ids 18 9 u := cg_U (rfl : kd_k 18 = 6) (fun j h1 h2 => by rw [hu]; show v1 j = ite _ _ _; rw [if_neg (by omega), if_neg (by omega), if_neg (by omega), if_pos (by omega)])
  have hg2 : cr_w ids 27 9 v2 = cr_w ids 27 9 u := cg_U (rfl : kd_k 27 = 6) (fun j h1 h2 => by rw [hu]; show v2 j = ite _ _ _; rw [if_neg (by omega), if_neg (by omega), if_neg (by omega), if_neg (by omega), if_pos (by omega)])
  have hg3 : cr_w ids 36 9 v3 = cr_w ids 36 9 u := cg_U (rfl : kd_k 36 = 6) (fun j h1 h2 => by rw [hu]; show v3 j = ite _ _ _; rw [if_neg (by omega), if_neg (by omega), if_neg (by omega), if_neg (by omega), if_neg (by omega), if_pos (by omega)])
  have hg4 : cr_w ids 45 9 v4 = cr_w ids 45 9 u := cg_U (rfl : kd_k 45 = 6) (fun j h1 h2 => by rw [hu]; show v4 j = ite _ _ _; rw [if_neg (by omega), if_neg (by omega), if_neg (by omega), if_neg (by omega), if_neg (by omega), if_neg (by omega), if_pos (by omega)])
  have hg5 : cr_w ids 54 9 v5 = cr_w ids 54 9 u := cg_U (rfl : kd_k 54 = 6) (fun j h1 h2 => by rw [hu]; show v5 j = ite _ _ _; rw [if_neg (by omega), if_neg (by omega), if_neg (by omega), if_neg (by omega), if_neg (by omega), if_neg (by omega), if_neg (by omega)])
  have hq0 : v0 9 = u 9 := by rw [hu]; rfl
  have hq1 : v1 18 = u 18 := by rw [hu]; rfl
  have hq2 : v2 27 = u 27 := by rw [hu]; rfl
  have hq3 : v3 36 = u 36 := by rw [hu]; rfl
  have hq4 : v4 45 = u 45 := by rw [hu]; rfl
  have hq5 : v5 54 = u 54 := by rw [hu]; rfl
  have hfg : ∀ k, k < 6 → (va_up (va_up (va_up (va_up (va_up (va_up (fun _ => none) 0 (some (v0 9))) 1 (some (v1 18))) 2 (some (v2 27))) 3 (some (v3 36))) 4 (some (v4 45))) 5 (some (v5 54))) k = (fun k => if k < 6 then some (u (8 + 1 + 9 * k)) else none) k := fun k hk => match k, hk with
    | 0, _ => congrArg some hq0
    | 1, _ => congrArg some hq1
    | 2, _ => congrArg some hq2
    | 3, _ => congrArg some hq3
    | 4, _ => congrArg some hq4
    | 5, _ => congrArg some hq5
    | k + 6, hk => absurd hk (by omega)
  refine aw_arr C 1 (g := fun k => if k < 6 then some (u (8 + 1 + 9 * k)) else none) rfl hfg rfl ?_
  refine aw_vretN C u (by rw [hu]; rfl) ?_ xd_L_init_40
  show cr_w ids 7 56 u = _
  rw [hg0, hg1, hg2, hg3, hg4, hg5]
  rw [show h = u 7 from (by rw [hu]; rfl)]
  rw [show q1 = u 8 from (by rw [hu]; rfl)]
  rfl

set_option maxHeartbeats 4000000 in
set_option maxRecDepth 100000 in
theorem xn_M_init {l : Launch} {D : va_G} {ids : Nat → ClassId} {ps : Nat} (h : Nat) : aw_N l D (ty_z ids) (zs_T ps) xy_M_init (xw_M_init :: gw_l) (rm_N 4 68 984) 68 984 h (.inr (5, [.null, .null])) ((fun u => cr_w ids 63 69 u)) (fun u => u 63 = h) := by
  refine aw_introN (cc := xb_M_init) (n := 2) "ModuleShelf$Memory" rfl rfl (by decide) rfl (by decide) ?_
  intro κ C hI
  refine aw_aload_n C 0 xd_M_init_0 rfl rfl ?_
  refine aw_obj C (List.mem_cons_of_mem _ ml_M_3) (List.mem_cons_of_mem _ wo_inst) (List.mem_cons_of_mem _ wo_code) (by decide) (by decide) xd_M_init_1 ?_
  refine aw_aload_n C 0 xd_M_init_4 rfl rfl ?_
  refine aw_bipush (v := (6 : Int32)) C xd_M_init_5 (by decide) ?_
  refine aw_newq C (List.mem_cons_of_mem _ cl_M_9) (List.mem_of_getElem? (i := 11) rfl) 3 rfl (by decide) (N' := 6) rfl (by decide) (Nat.le_of_ble_eq_true rfl) (Nat.le_of_ble_eq_true rfl) xd_M_init_7 (fun q1 => ?_)
  refine aw_putFG C hI 0 rfl rfl (fun w h => List.mem_cons_of_mem _ (xi_M w h)) xk_M xo_M xn_M 0 (by decide) (List.mem_cons_of_mem _ fl_M_11) rfl rfl (ty := .array (.object "ModuleShelf$Image")) (by decide +kernel) rfl rfl (Nat.le_of_ble_eq_true rfl) (w' := [(h, .inr (5, [.ref q1, .null])), (q1, .inl (ids 3, 6, .inr (.inr (.inr (.inr (fun _ => none))))))]) rfl xd_M_init_10 ?_
  refine aw_aload_n C 0 xd_M_init_13 rfl rfl ?_
  refine aw_bipush (v := (6 : Int32)) C xd_M_init_14 (by decide) ?_
  refine aw_newa (atype := .boolean) C (List.mem_cons_of_mem _ wa_bool) rfl 1 rfl (a0 := (6, .inl (fun _ => 0))) (fun _ => rfl) (by decide) (N' := 6) rfl (by decide) (Nat.le_of_ble_eq_true rfl) (Nat.le_of_ble_eq_true rfl) xd_M_init_16 (fun q2 => ?_)
  refine aw_putFG C hI 0 rfl rfl (fun w h => List.mem_cons_of_mem _ (xi_M w h)) xk_M xo_M xn_M 1 (by decide) (List.mem_cons_of_mem _ fl_M_17) rfl rfl (ty := .array .boolean) (by decide +kernel) rfl rfl (Nat.le_of_ble_eq_true rfl) (w' := [(h, .inr (5, [.ref q1, .ref q2])), (q1, .inl (ids 3, 6, .inr (.inr (.inr (.inr (fun _ => none)))))), (q2, .inl (ids 1, 6, .inl (fun _ => 0)))]) rfl xd_M_init_18 ?_
  refine aw_iconst (v := (0 : Int32)) C xd_M_init_21 (by decide) ?_
  refine aw_istore_n (L' := [(1, .int (0 : Int32)), (0, .ref h)]) C xd_M_init_22 rfl (by decide) rfl ?_
  refine aw_iload_n C 0 xd_M_init_23 rfl rfl ?_
  refine aw_bipush (v := (6 : Int32)) C xd_M_init_24 (by decide) ?_
  refine aw_icmp_ge (tgt := 48) C xd_M_init_26 (by decide) (fun c_0 => absurd c_0 (by decide)) (fun _ => ?_)
  refine aw_aload_n C 1 xd_M_init_29 rfl rfl ?_
  refine aw_getG C 0 rfl rfl (fun w h => List.mem_cons_of_mem _ (xi_M w h)) 0 (by decide) rfl (List.mem_cons_of_mem _ fl_M_11) xd_M_init_30 ?_
  refine aw_iload_n C 0 xd_M_init_33 rfl rfl ?_
  refine aw_new C (ci := 2) (fs := [.null, .null]) (fun w h => List.mem_cons_of_mem _ (xi_I w h)) xk_I xo_I (List.mem_cons_of_mem _ cl_M_9) (List.mem_cons_of_mem _ ci_I) (List.mem_cons_of_mem _ wi_I) rfl (fun j hj => by rcases (show j = 0 ∨ j = 1 by omega) with rfl | rfl <;> rfl) (Nat.le_of_ble_eq_true rfl) (Nat.le_of_ble_eq_true rfl) xd_M_init_34 (fun z => ?_)
  refine aw_dup C xd_M_init_37 rfl ?_
  refine aw_callIN C (xn_I_init 66 rfl z) rfl (gw_sub (gw_C xg_I_init)) (List.mem_cons_of_mem _ wi_I) (List.mem_of_getElem? (i := 5) rfl) (List.mem_cons_of_mem _ im_I_init) rfl na_I_init (rn_lt (by decide) (by decide)) ⟨Nat.le_of_ble_eq_true rfl, Nat.le_of_ble_eq_true rfl⟩ (Nat.le_of_ble_eq_true rfl) xd_M_init_38 (fun v0 hz => ?_)
  subst hz
  refine aw_astG C 1 3 3 rfl rfl rfl rfl (aw_in_ok rfl) (w' := [(h, .inr (5, [.ref q1, .ref q2])), (q1, .inl (ids 3, 6, .inr (.inr (.inr (.inr (va_up (fun _ => none) 0 (some (v0 66)))))))), (q2, .inl (ids 1, 6, .inl (fun _ => 0)))] ++ cr_w ids 66 11 v0) rfl xd_M_init_41 ?_
  refine aw_iinc (j := 0) (v := (1 : Int32)) (L' := [(1, .int (1 : Int32)), (0, .ref h)]) C xd_M_init_42 rfl (by decide) (by decide) rfl ?_
  refine aw_goto (tgt := 23) C xd_M_init_45 (by decide) ?_
  refine aw_iload_n C 0 xd_M_init_23 rfl rfl ?_
  refine aw_bipush (v := (6 : Int32)) C xd_M_init_24 (by decide) ?_
  refine aw_icmp_ge (tgt := 48) C xd_M_init_26 (by decide) (fun c_0 => absurd c_0 (by decide)) (fun _ => ?_)
  refine aw_aload_n C 1 xd_M_init_29 rfl rfl ?_
  refine aw_getG C 0 rfl rfl (fun w h => List.mem_cons_of_mem _ (xi_M w h)) 0 (by decide) rfl (List.mem_cons_of_mem _ fl_M_11) xd_M_init_30 ?_
  refine aw_iload_n C 0 xd_M_init_33 rfl rfl ?_
  refine aw_new C (ci := 2) (fs := [.null, .null]) (fun w h => List.mem_cons_of_mem _ (xi_I w h)) xk_I xo_I (List.mem_cons_of_mem _ cl_M_9) (List.mem_cons_of_mem _ ci_I) (List.mem_cons_of_mem _ wi_I) rfl (fun j hj => by rcases (show j = 0 ∨ j = 1 by omega) with rfl | rfl <;> rfl) (Nat.le_of_ble_eq_true rfl) (Nat.le_of_ble_eq_true rfl) xd_M_init_34 (fun z => ?_)
  refine aw_dup C xd_M_init_37 rfl ?_
  refine aw_callIN C (xn_I_init 77 rfl z) rfl (gw_sub (gw_C xg_I_init)) (List.mem_cons_of_mem _ wi_I) (List.mem_of_getElem? (i := 5) rfl) (List.mem_cons_of_mem _ im_I_init) rfl na_I_init (rn_lt (by decide) (by decide)) ⟨Nat.le_of_ble_eq_true rfl, Nat.le_of_ble_eq_true rfl⟩ (Nat.le_of_ble_eq_true rfl) xd_M_init_38 (fun v1 hz => ?_)
  subst hz
  refine aw_astG C 1 3 14 rfl rfl rfl rfl (aw_in_ok rfl) (w' := [(h, .inr (5, [.ref q1, .ref q2])), (q1, .inl (ids 3, 6, .inr (.inr (.inr (.inr (va_up (va_up (fun _ => none) 0 (some (v0 66))) 1 (some (v1 77)))))))), (q2, .inl (ids 1, 6, .inl (fun _ => 0)))] ++ cr_w ids 66 11 v0 ++ cr_w ids 77 11 v1) rfl xd_M_init_41 ?_
  refine aw_iinc (j := 0) (v := (2 : Int32)) (L' := [(1, .int (2 : Int32)), (0, .ref h)]) C xd_M_init_42 rfl (by decide) (by decide) rfl ?_
  refine aw_goto (tgt := 23) C xd_M_init_45 (by decide) ?_
  refine aw_iload_n C 0 xd_M_init_23 rfl rfl ?_
  refine aw_bipush (v := (6 : Int32)) C xd_M_init_24 (by decide) ?_
  refine aw_icmp_ge (tgt := 48) C xd_M_init_26 (by decide) (fun c_0 => absurd c_0 (by decide)) (fun _ => ?_)
  refine aw_aload_n C 1 xd_M_init_29 rfl rfl ?_
  refine aw_getG C 0 rfl rfl (fun w h => List.mem_cons_of_mem _ (xi_M w h)) 0 (by decide) rfl (List.mem_cons_of_mem _ fl_M_11) xd_M_init_30 ?_
  refine aw_iload_n C 0 xd_M_init_33 rfl rfl ?_
  refine aw_new C (ci := 2) (fs := [.null, .null]) (fun w h => List.mem_cons_of_mem _ (xi_I w h)) xk_I xo_I (List.mem_cons_of_mem _ cl_M_9) (List.mem_cons_of_mem _ ci_I) (List.mem_cons_of_mem _ wi_I) rfl (fun j hj => by rcases (show j = 0 ∨ j = 1 by omega) with rfl | rfl <;> rfl) (Nat.le_of_ble_eq_true rfl) (Nat.le_of_ble_eq_true rfl) xd_M_init_34 (fun z => ?_)
  refine aw_dup C xd_M_init_37 rfl ?_
  refine aw_callIN C (xn_I_init 88 rfl z) rfl (gw_sub (gw_C xg_I_init)) (List.mem_cons_of_mem _ wi_I) (List.mem_of_getElem? (i := 5) rfl) (List.mem_cons_of_mem _ im_I_init) rfl na_I_init (rn_lt (by decide) (by decide)) ⟨Nat.le_of_ble_eq_true rfl, Nat.le_of_ble_eq_true rfl⟩ (Nat.le_of_ble_eq_true rfl) xd_M_init_38 (fun v2 hz => ?_)
  subst hz
  refine aw_astG C 1 3 25 rfl rfl rfl rfl (aw_in_ok rfl) (w' := [(h, .inr (5, [.ref q1, .ref q2])), (q1, .inl (ids 3, 6, .inr (.inr (.inr (.inr (va_up (va_up (va_up (fun _ => none) 0 (some (v0 66))) 1 (some (v1 77))) 2 (some (v2 88)))))))), (q2, .inl (ids 1, 6, .inl (fun _ => 0)))] ++ cr_w ids 66 11 v0 ++ cr_w ids 77 11 v1 ++ cr_w ids 88 11 v2) rfl xd_M_init_41 ?_
  refine aw_iinc (j := 0) (v := (3 : Int32)) (L' := [(1, .int (3 : Int32)), (0, .ref h)]) C xd_M_init_42 rfl (by decide) (by decide) rfl ?_
  refine aw_goto (tgt := 23) C xd_M_init_45 (by decide) ?_
  refine aw_iload_n C 0 xd_M_init_23 rfl rfl ?_
  refine aw_bipush (v := (6 : Int32)) C xd_M_init_24 (by decide) ?_
  refine aw_icmp_ge (tgt := 48) C xd_M_init_26 (by decide) (fun c_0 => absurd c_0 (by decide)) (fun _ => ?_)
  refine aw_aload_n C 1 xd_M_init_29 rfl rfl ?_
  refine aw_getG C 0 rfl rfl (fun w h => List.mem_cons_of_mem _ (xi_M w h)) 0 (by decide) rfl (List.mem_cons_of_mem _ fl_M_11) xd_M_init_30 ?_
  refine aw_iload_n C 0 xd_M_init_33 rfl rfl ?_
  refine aw_new C (ci := 2) (fs := [.null, .null]) (fun w h => List.mem_cons_of_mem _ (xi_I w h)) xk_I xo_I (List.mem_cons_of_mem _ cl_M_9) (List.mem_cons_of_mem _ ci_I) (List.mem_cons_of_mem _ wi_I) rfl (fun j hj => by rcases (show j = 0 ∨ j = 1 by omega) with rfl | rfl <;> rfl) (Nat.le_of_ble_eq_true rfl) (Nat.le_of_ble_eq_true rfl) xd_M_init_34 (fun z => ?_)
  refine aw_dup C xd_M_init_37 rfl ?_
  refine aw_callIN C (xn_I_init 99 rfl z) rfl (gw_sub (gw_C xg_I_init)) (List.mem_cons_of_mem _ wi_I) (List.mem_of_getElem? (i := 5) rfl) (List.mem_cons_of_mem _ im_I_init) rfl na_I_init (rn_lt (by decide) (by decide)) ⟨Nat.le_of_ble_eq_true rfl, Nat.le_of_ble_eq_true rfl⟩ (Nat.le_of_ble_eq_true rfl) xd_M_init_38 (fun v3 hz => ?_)
  subst hz
  refine aw_astG C 1 3 36 rfl rfl rfl rfl (aw_in_ok rfl) (w' := [(h, .inr (5, [.ref q1, .ref q2])), (q1, .inl (ids 3, 6, .inr (.inr (.inr (.inr (va_up (va_up (va_up (va_up (fun _ => none) 0 (some (v0 66))) 1 (some (v1 77))) 2 (some (v2 88))) 3 (some (v3 99)))))))), (q2, .inl (ids 1, 6, .inl (fun _ => 0)))] ++ cr_w ids 66 11 v0 ++ cr_w ids 77 11 v1 ++ cr_w ids 88 11 v2 ++ cr_w ids 99 11 v3) rfl xd_M_init_41 ?_
  refine aw_iinc (j := 0) (v := (4 : Int32)) (L' := [(1, .int (4 : Int32)), (0, .ref h)]) C xd_M_init_42 rfl (by decide) (by decide) rfl ?_
  refine aw_goto (tgt := 23) C xd_M_init_45 (by decide) ?_
  refine aw_iload_n C 0 xd_M_init_23 rfl rfl ?_
  refine aw_bipush (v := (6 : Int32)) C xd_M_init_24 (by decide) ?_
  refine aw_icmp_ge (tgt := 48) C xd_M_init_26 (by decide) (fun c_0 => absurd c_0 (by decide)) (fun _ => ?_)
  refine aw_aload_n C 1 xd_M_init_29 rfl rfl ?_
  refine aw_getG C 0 rfl rfl (fun w h => List.mem_cons_of_mem _ (xi_M w h)) 0 (by decide) rfl (List.mem_cons_of_mem _ fl_M_11) xd_M_init_30 ?_
  refine aw_iload_n C 0 xd_M_init_33 rfl rfl ?_
  refine aw_new C (ci := 2) (fs := [.null, .null]) (fun w h => List.mem_cons_of_mem _ (xi_I w h)) xk_I xo_I (List.mem_cons_of_mem _ cl_M_9) (List.mem_cons_of_mem _ ci_I) (List.mem_cons_of_mem _ wi_I) rfl (fun j hj => by rcases (show j = 0 ∨ j = 1 by omega) with rfl | rfl <;> rfl) (Nat.le_of_ble_eq_true rfl) (Nat.le_of_ble_eq_true rfl) xd_M_init_34 (fun z => ?_)
  refine aw_dup C xd_M_init_37 rfl ?_
  refine aw_callIN C (xn_I_init 110 rfl z) rfl (gw_sub (gw_C xg_I_init)) (List.mem_cons_of_mem _ wi_I) (List.mem_of_getElem? (i := 5) rfl) (List.mem_cons_of_mem _ im_I_init) rfl na_I_init (rn_lt (by decide) (by decide)) ⟨Nat.le_of_ble_eq_true rfl, Nat.le_of_ble_eq_true rfl⟩ (Nat.le_of_ble_eq_true rfl) xd_M_init_38 (fun v4 hz => ?_)
  subst hz
  refine aw_astG C 1 3 47 rfl rfl rfl rfl (aw_in_ok rfl) (w' := [(h, .inr (5, [.ref q1, .ref q2])), (q1, .inl (ids 3, 6, .inr (.inr (.inr (.inr (va_up (va_up (va_up (va_up (va_up (fun _ => none) 0 (some (v0 66))) 1 (some (v1 77))) 2 (some (v2 88))) 3 (some (v3 99))) 4 (some (v4 110)))))))), (q2, .inl (ids 1, 6, .inl (fun _ => 0)))] ++ cr_w ids 66 11 v0 ++ cr_w ids 77 11 v1 ++ cr_w ids 88 11 v2 ++ cr_w ids 99 11 v3 ++ cr_w ids 110 11 v4) rfl xd_M_init_41 ?_
  refine aw_iinc (j := 0) (v := (5 : Int32)) (L' := [(1, .int (5 : Int32)), (0, .ref h)]) C xd_M_init_42 rfl (by decide) (by decide) rfl ?_
  refine aw_goto (tgt := 23) C xd_M_init_45 (by decide) ?_
  refine aw_iload_n C 0 xd_M_init_23 rfl rfl ?_
  refine aw_bipush (v := (6 : Int32)) C xd_M_init_24 (by decide) ?_
  refine aw_icmp_ge (tgt := 48) C xd_M_init_26 (by decide) (fun c_0 => absurd c_0 (by decide)) (fun _ => ?_)
  refine aw_aload_n C 1 xd_M_init_29 rfl rfl ?_
  refine aw_getG C 0 rfl rfl (fun w h => List.mem_cons_of_mem _ (xi_M w h)) 0 (by decide) rfl (List.mem_cons_of_mem _ fl_M_11) xd_M_init_30 ?_
  refine aw_iload_n C 0 xd_M_init_33 rfl rfl ?_
  refine aw_new C (ci := 2) (fs := [.null, .null]) (fun w h => List.mem_cons_of_mem _ (xi_I w h)) xk_I xo_I (List.mem_cons_of_mem _ cl_M_9) (List.mem_cons_of_mem _ ci_I) (List.mem_cons_of_mem _ wi_I) rfl (fun j hj => by rcases (show j = 0 ∨ j = 1 by omega) with rfl | rfl <;> rfl) (Nat.le_of_ble_eq_true rfl) (Nat.le_of_ble_eq_true rfl) xd_M_init_34 (fun z => ?_)
  refine aw_dup C xd_M_init_37 rfl ?_
  refine aw_callIN C (xn_I_init 121 rfl z) rfl (gw_sub (gw_C xg_I_init)) (List.mem_cons_of_mem _ wi_I) (List.mem_of_getElem? (i := 5) rfl) (List.mem_cons_of_mem _ im_I_init) rfl na_I_init (rn_lt (by decide) (by decide)) ⟨Nat.le_of_ble_eq_true rfl, Nat.le_of_ble_eq_true rfl⟩ (Nat.le_of_ble_eq_true rfl) xd_M_init_38 (fun v5 hz => ?_)
  subst hz
  refine aw_astG C 1 3 58 rfl rfl rfl rfl (aw_in_ok rfl) (w' := [(h, .inr (5, [.ref q1, .ref q2])), (q1, .inl (ids 3, 6, .inr (.inr (.inr (.inr (va_up (va_up (va_up (va_up (va_up (va_up (fun _ => none) 0 (some (v0 66))) 1 (some (v1 77))) 2 (some (v2 88))) 3 (some (v3 99))) 4 (some (v4 110))) 5 (some (v5 121)))))))), (q2, .inl (ids 1, 6, .inl (fun _ => 0)))] ++ cr_w ids 66 11 v0 ++ cr_w ids 77 11 v1 ++ cr_w ids 88 11 v2 ++ cr_w ids 99 11 v3 ++ cr_w ids 110 11 v4 ++ cr_w ids 121 11 v5) rfl xd_M_init_41 ?_
  refine aw_iinc (j := 0) (v := (6 : Int32)) (L' := [(1, .int (6 : Int32)), (0, .ref h)]) C xd_M_init_42 rfl (by decide) (by decide) rfl ?_
  refine aw_goto (tgt := 23) C xd_M_init_45 (by decide) ?_
  refine aw_iload_n C 0 xd_M_init_23 rfl rfl ?_
  refine aw_bipush (v := (6 : Int32)) C xd_M_init_24 (by decide) ?_
  refine aw_icmp_ge (tgt := 48) C xd_M_init_26 (by decide) (fun _ => ?_) (fun c_0 => absurd (by decide) c_0)
  obtain ⟨u, hu⟩ : ∃ u : Nat → Nat, u = (fun k => if k = 63 then h else if k = 64 then q1 else if k = 65 then q2 else if k < 77 then v0 k else if k < 88 then v1 k else if k < 99 then v2 k else if k < 110 then v3 k else if k < 121 then v4 k else v5 k) := ⟨_, rfl⟩
  have hg0 : cr_w ids 66 11 v0 = cr_w ids 66 11 u := cg_I (rfl : kd_k 66 = 11) (fun j h1 h2 => by rw [hu]; show v0 j = ite _ _ _; rw [if_neg (by omega), if_neg (by omega), if_neg (by omega), if_pos (by omega)])
  have hg1 : cr_w ids 77 11 v1 = cr_w ids 77 11 u := cg_I (rfl : kd_k 77 = 11) (fun j h1 h2 => by rw [hu]; show v1 j = ite _ _ _; rw [if_neg (by omega), if_neg (by omega), if_neg (by omega), if_neg (by omega), if_pos (by omega)])
  have hg2 : cr_w ids 88 11 v2 = cr_w ids 88 11 u := cg_I (rfl : kd_k 88 = 11) (fun j h1 h2 => by rw [hu]; show v2 j = ite _ _ _; rw [if_neg (by omega), if_neg (by omega), if_neg (by omega), if_neg (by omega), if_neg (by omega), if_pos (by omega)])
  have hg3 : cr_w ids 99 11 v3 = cr_w ids 99 11 u := cg_I (rfl : kd_k 99 = 11) (fun j h1 h2 => by rw [hu]; show v3 j = ite _ _ _; rw [if_neg (by omega), if_neg (by omega), if_neg (by omega), if_neg (by omega), if_neg (by omega), if_neg (by omega), if_pos (by omega)])
  have hg4 : cr_w ids 110 11 v4 = cr_w ids 110 11 u := cg_I (rfl : kd_k 110 = 11) (fun j h1 h2 => by rw [hu]; show v4 j = ite _ _ _; rw [if_neg (by omega), if_neg (by omega), if_neg (by omega), if_neg (by omega), if_neg (by omega), if_neg (by omega), if_neg (by omega), if_pos (by omega)])
  have hg5 : cr_w ids 121 11 v5 = cr_w ids 121 11 u := cg_I (rfl : kd_k 121 = 11) (fun j h1 h2 => by rw [hu]; show v5 j = ite _ _ _; rw [if_neg (by omega), if_neg (by omega), if_neg (by omega), if_neg (by omega), if_neg (by omega), if_neg (by omega), if_neg (by omega), if_neg (by omega)])
  have hq0 : v0 66 = u 66 := by rw [hu]; rfl
  have hq1 : v1 77 = u 77 := by rw [hu]; rfl
  have hq2 : v2 88 = u 88 := by rw [hu]; rfl
  have hq3 : v3 99 = u 99 := by rw [hu]; rfl
  have hq4 : v4 110 = u 110 := by rw [hu]; rfl
  have hq5 : v5 121 = u 121 := by rw [hu]; rfl
  have hfg : ∀ k, k < 6 → (va_up (va_up (va_up (va_up (va_up (va_up (fun _ => none) 0 (some (v0 66))) 1 (some (v1 77))) 2 (some (v2 88))) 3 (some (v3 99))) 4 (some (v4 110))) 5 (some (v5 121))) k = (fun k => if k < 6 then some (u (64 + 2 + 11 * k)) else none) k := fun k hk => match k, hk with
    | 0, _ => congrArg some hq0
    | 1, _ => congrArg some hq1
    | 2, _ => congrArg some hq2
    | 3, _ => congrArg some hq3
    | 4, _ => congrArg some hq4
    | 5, _ => congrArg some hq5
    | k + 6, hk => absurd hk (by omega)
  refine aw_arr C 1 (g := fun k => if k < 6 then some (u (64 + 2 + 11 * k)) else none) rfl hfg rfl ?_
  refine aw_vretN C u (by rw [hu]; rfl) ?_ xd_M_init_48
  show cr_w ids 63 69 u = _
  rw [hg0, hg1, hg2, hg3, hg4, hg5]
  rw [show h = u 63 from (by rw [hu]; rfl)]
  rw [show q1 = u 64 from (by rw [hu]; rfl)]
  rw [show q2 = u 65 from (by rw [hu]; rfl)]
  rfl

theorem cg_F {ids : Nat → ClassId} {b : Nat} {u v : Nat → Nat} (hb : kd_k b = 14) (h : ∀ j, b ≤ j → j < b + 1 → u j = v j) : cr_w ids b 1 u = cr_w ids b 1 v := by
  show [(u b, ly_k u ids b (fun _ => 0))] = [(v b, ly_k v ids b (fun _ => 0))]
  rw [ly_F hb, ly_F hb, h b (by omega) (by omega)]
set_option maxHeartbeats 4000000 in
set_option maxRecDepth 100000 in
theorem xn_N_init {l : Launch} {D : va_G} {ids : Nat → ClassId} {ps : Nat} (h : Nat) : aw_N l D (ty_z ids) (zs_T ps) xy_N_init (xw_N_init :: gw_l) (rm_N 2 7 36) 7 36 h (.inr (4, [.null, .int 0, .int 0])) ((fun u => cr_w ids 132 8 u)) (fun u => u 132 = h) := by
  refine aw_introN (cc := xb_N_init) (n := 2) "ModuleShelf$Machine" rfl rfl (by decide) rfl (by decide) ?_
  intro κ C hI
  refine aw_aload_n C 0 xd_N_init_0 rfl rfl ?_
  refine aw_obj C (List.mem_cons_of_mem _ ml_N_3) (List.mem_cons_of_mem _ wo_inst) (List.mem_cons_of_mem _ wo_code) (by decide) (by decide) xd_N_init_1 ?_
  refine aw_aload_n C 0 xd_N_init_4 rfl rfl ?_
  refine aw_bipush (v := (6 : Int32)) C xd_N_init_5 (by decide) ?_
  refine aw_newq C (List.mem_cons_of_mem _ cl_N_9) (List.mem_of_getElem? (i := 12) rfl) 4 rfl (by decide) (N' := 6) rfl (by decide) (Nat.le_of_ble_eq_true rfl) (Nat.le_of_ble_eq_true rfl) xd_N_init_7 (fun q1 => ?_)
  refine aw_putFG C hI 0 rfl rfl (fun w h => List.mem_cons_of_mem _ (xi_N w h)) xk_N xo_N xn_N 0 (by decide) (List.mem_cons_of_mem _ fl_N_11) rfl rfl (ty := .array (.object "ModuleShelf$Frame")) (by decide +kernel) rfl rfl (Nat.le_of_ble_eq_true rfl) (w' := [(h, .inr (4, [.ref q1, .int 0, .int 0])), (q1, .inl (ids 4, 6, .inr (.inr (.inr (.inr (fun _ => none))))))]) rfl xd_N_init_10 ?_
  refine aw_iconst (v := (0 : Int32)) C xd_N_init_13 (by decide) ?_
  refine aw_istore_n (L' := [(1, .int (0 : Int32)), (0, .ref h)]) C xd_N_init_14 rfl (by decide) rfl ?_
  refine aw_iload_n C 0 xd_N_init_15 rfl rfl ?_
  refine aw_aload_n C 1 xd_N_init_16 rfl rfl ?_
  refine aw_getG C 0 rfl rfl (fun w h => List.mem_cons_of_mem _ (xi_N w h)) 0 (by decide) rfl (List.mem_cons_of_mem _ fl_N_11) xd_N_init_17 ?_
  refine aw_alenG (v := (6 : Int32)) C 1 4 rfl rfl rfl xd_N_init_20 ?_
  refine aw_icmp_ge (tgt := 43) C xd_N_init_21 (by decide) (fun c_0 => absurd c_0 (by decide)) (fun _ => ?_)
  refine aw_aload_n C 1 xd_N_init_24 rfl rfl ?_
  refine aw_getG C 0 rfl rfl (fun w h => List.mem_cons_of_mem _ (xi_N w h)) 0 (by decide) rfl (List.mem_cons_of_mem _ fl_N_11) xd_N_init_25 ?_
  refine aw_iload_n C 0 xd_N_init_28 rfl rfl ?_
  refine aw_new C (ci := 1) (fs := [.int 0, .int 0, .int 0, .int 0, .int 0]) (fun w h => List.mem_cons_of_mem _ (xi_F w h)) xk_F xo_F (List.mem_cons_of_mem _ cl_N_9) (List.mem_cons_of_mem _ ci_F) (List.mem_cons_of_mem _ wi_F) rfl (fun j hj => by rcases (show j = 0 ∨ j = 1 ∨ j = 2 ∨ j = 3 ∨ j = 4 by omega) with rfl | rfl | rfl | rfl | rfl <;> rfl) (Nat.le_of_ble_eq_true rfl) (Nat.le_of_ble_eq_true rfl) xd_N_init_29 (fun z => ?_)
  refine aw_dup C xd_N_init_32 rfl ?_
  refine aw_callIN C (xn_F_init 134 rfl z) rfl (gw_sub (gw_C xg_F_init)) (List.mem_cons_of_mem _ wi_F) (List.mem_of_getElem? (i := 4) rfl) (List.mem_cons_of_mem _ im_F_init) rfl na_F_init (rn_lt (by decide) (by decide)) ⟨Nat.le_of_ble_eq_true rfl, Nat.le_of_ble_eq_true rfl⟩ (Nat.le_of_ble_eq_true rfl) xd_N_init_33 (fun v0 hz => ?_)
  subst hz
  refine aw_astG C 1 4 2 rfl rfl rfl rfl (aw_in_ok rfl) (w' := [(h, .inr (4, [.ref q1, .int 0, .int 0])), (q1, .inl (ids 4, 6, .inr (.inr (.inr (.inr (va_up (fun _ => none) 0 (some (v0 134))))))))] ++ cr_w ids 134 1 v0) rfl xd_N_init_36 ?_
  refine aw_iinc (j := 0) (v := (1 : Int32)) (L' := [(1, .int (1 : Int32)), (0, .ref h)]) C xd_N_init_37 rfl (by decide) (by decide) rfl ?_
  refine aw_goto (tgt := 15) C xd_N_init_40 (by decide) ?_
  refine aw_iload_n C 0 xd_N_init_15 rfl rfl ?_
  refine aw_aload_n C 1 xd_N_init_16 rfl rfl ?_
  refine aw_getG C 0 rfl rfl (fun w h => List.mem_cons_of_mem _ (xi_N w h)) 0 (by decide) rfl (List.mem_cons_of_mem _ fl_N_11) xd_N_init_17 ?_
  refine aw_alenG (v := (6 : Int32)) C 1 4 rfl rfl rfl xd_N_init_20 ?_
  refine aw_icmp_ge (tgt := 43) C xd_N_init_21 (by decide) (fun c_0 => absurd c_0 (by decide)) (fun _ => ?_)
  refine aw_aload_n C 1 xd_N_init_24 rfl rfl ?_
  refine aw_getG C 0 rfl rfl (fun w h => List.mem_cons_of_mem _ (xi_N w h)) 0 (by decide) rfl (List.mem_cons_of_mem _ fl_N_11) xd_N_init_25 ?_
  refine aw_iload_n C 0 xd_N_init_28 rfl rfl ?_
  refine aw_new C (ci := 1) (fs := [.int 0, .int 0, .int 0, .int 0, .int 0]) (fun w h => List.mem_cons_of_mem _ (xi_F w h)) xk_F xo_F (List.mem_cons_of_mem _ cl_N_9) (List.mem_cons_of_mem _ ci_F) (List.mem_cons_of_mem _ wi_F) rfl (fun j hj => by rcases (show j = 0 ∨ j = 1 ∨ j = 2 ∨ j = 3 ∨ j = 4 by omega) with rfl | rfl | rfl | rfl | rfl <;> rfl) (Nat.le_of_ble_eq_true rfl) (Nat.le_of_ble_eq_true rfl) xd_N_init_29 (fun z => ?_)
  refine aw_dup C xd_N_init_32 rfl ?_
  refine aw_callIN C (xn_F_init 135 rfl z) rfl (gw_sub (gw_C xg_F_init)) (List.mem_cons_of_mem _ wi_F) (List.mem_of_getElem? (i := 4) rfl) (List.mem_cons_of_mem _ im_F_init) rfl na_F_init (rn_lt (by decide) (by decide)) ⟨Nat.le_of_ble_eq_true rfl, Nat.le_of_ble_eq_true rfl⟩ (Nat.le_of_ble_eq_true rfl) xd_N_init_33 (fun v1 hz => ?_)
  subst hz
  refine aw_astG C 1 4 3 rfl rfl rfl rfl (aw_in_ok rfl) (w' := [(h, .inr (4, [.ref q1, .int 0, .int 0])), (q1, .inl (ids 4, 6, .inr (.inr (.inr (.inr (va_up (va_up (fun _ => none) 0 (some (v0 134))) 1 (some (v1 135))))))))] ++ cr_w ids 134 1 v0 ++ cr_w ids 135 1 v1) rfl xd_N_init_36 ?_
  refine aw_iinc (j := 0) (v := (2 : Int32)) (L' := [(1, .int (2 : Int32)), (0, .ref h)]) C xd_N_init_37 rfl (by decide) (by decide) rfl ?_
  refine aw_goto (tgt := 15) C xd_N_init_40 (by decide) ?_
  refine aw_iload_n C 0 xd_N_init_15 rfl rfl ?_
  refine aw_aload_n C 1 xd_N_init_16 rfl rfl ?_
  refine aw_getG C 0 rfl rfl (fun w h => List.mem_cons_of_mem _ (xi_N w h)) 0 (by decide) rfl (List.mem_cons_of_mem _ fl_N_11) xd_N_init_17 ?_
  refine aw_alenG (v := (6 : Int32)) C 1 4 rfl rfl rfl xd_N_init_20 ?_
  refine aw_icmp_ge (tgt := 43) C xd_N_init_21 (by decide) (fun c_0 => absurd c_0 (by decide)) (fun _ => ?_)
  refine aw_aload_n C 1 xd_N_init_24 rfl rfl ?_
  refine aw_getG C 0 rfl rfl (fun w h => List.mem_cons_of_mem _ (xi_N w h)) 0 (by decide) rfl (List.mem_cons_of_mem _ fl_N_11) xd_N_init_25 ?_
  refine aw_iload_n C 0 xd_N_init_28 rfl rfl ?_
  refine aw_new C (ci := 1) (fs := [.int 0, .int 0, .int 0, .int 0, .int 0]) (fun w h => List.mem_cons_of_mem _ (xi_F w h)) xk_F xo_F (List.mem_cons_of_mem _ cl_N_9) (List.mem_cons_of_mem _ ci_F) (List.mem_cons_of_mem _ wi_F) rfl (fun j hj => by rcases (show j = 0 ∨ j = 1 ∨ j = 2 ∨ j = 3 ∨ j = 4 by omega) with rfl | rfl | rfl | rfl | rfl <;> rfl) (Nat.le_of_ble_eq_true rfl) (Nat.le_of_ble_eq_true rfl) xd_N_init_29 (fun z => ?_)
  refine aw_dup C xd_N_init_32 rfl ?_
  refine aw_callIN C (xn_F_init 136 rfl z) rfl (gw_sub (gw_C xg_F_init)) (List.mem_cons_of_mem _ wi_F) (List.mem_of_getElem? (i := 4) rfl) (List.mem_cons_of_mem _ im_F_init) rfl na_F_init (rn_lt (by decide) (by decide)) ⟨Nat.le_of_ble_eq_true rfl, Nat.le_of_ble_eq_true rfl⟩ (Nat.le_of_ble_eq_true rfl) xd_N_init_33 (fun v2 hz => ?_)
  subst hz
  refine aw_astG C 1 4 4 rfl rfl rfl rfl (aw_in_ok rfl) (w' := [(h, .inr (4, [.ref q1, .int 0, .int 0])), (q1, .inl (ids 4, 6, .inr (.inr (.inr (.inr (va_up (va_up (va_up (fun _ => none) 0 (some (v0 134))) 1 (some (v1 135))) 2 (some (v2 136))))))))] ++ cr_w ids 134 1 v0 ++ cr_w ids 135 1 v1 ++ cr_w ids 136 1 v2) rfl xd_N_init_36 ?_
  refine aw_iinc (j := 0) (v := (3 : Int32)) (L' := [(1, .int (3 : Int32)), (0, .ref h)]) C xd_N_init_37 rfl (by decide) (by decide) rfl ?_
  refine aw_goto (tgt := 15) C xd_N_init_40 (by decide) ?_
  refine aw_iload_n C 0 xd_N_init_15 rfl rfl ?_
  refine aw_aload_n C 1 xd_N_init_16 rfl rfl ?_
  refine aw_getG C 0 rfl rfl (fun w h => List.mem_cons_of_mem _ (xi_N w h)) 0 (by decide) rfl (List.mem_cons_of_mem _ fl_N_11) xd_N_init_17 ?_
  refine aw_alenG (v := (6 : Int32)) C 1 4 rfl rfl rfl xd_N_init_20 ?_
  refine aw_icmp_ge (tgt := 43) C xd_N_init_21 (by decide) (fun c_0 => absurd c_0 (by decide)) (fun _ => ?_)
  refine aw_aload_n C 1 xd_N_init_24 rfl rfl ?_
  refine aw_getG C 0 rfl rfl (fun w h => List.mem_cons_of_mem _ (xi_N w h)) 0 (by decide) rfl (List.mem_cons_of_mem _ fl_N_11) xd_N_init_25 ?_
  refine aw_iload_n C 0 xd_N_init_28 rfl rfl ?_
  refine aw_new C (ci := 1) (fs := [.int 0, .int 0, .int 0, .int 0, .int 0]) (fun w h => List.mem_cons_of_mem _ (xi_F w h)) xk_F xo_F (List.mem_cons_of_mem _ cl_N_9) (List.mem_cons_of_mem _ ci_F) (List.mem_cons_of_mem _ wi_F) rfl (fun j hj => by rcases (show j = 0 ∨ j = 1 ∨ j = 2 ∨ j = 3 ∨ j = 4 by omega) with rfl | rfl | rfl | rfl | rfl <;> rfl) (Nat.le_of_ble_eq_true rfl) (Nat.le_of_ble_eq_true rfl) xd_N_init_29 (fun z => ?_)
  refine aw_dup C xd_N_init_32 rfl ?_
  refine aw_callIN C (xn_F_init 137 rfl z) rfl (gw_sub (gw_C xg_F_init)) (List.mem_cons_of_mem _ wi_F) (List.mem_of_getElem? (i := 4) rfl) (List.mem_cons_of_mem _ im_F_init) rfl na_F_init (rn_lt (by decide) (by decide)) ⟨Nat.le_of_ble_eq_true rfl, Nat.le_of_ble_eq_true rfl⟩ (Nat.le_of_ble_eq_true rfl) xd_N_init_33 (fun v3 hz => ?_)
  subst hz
  refine aw_astG C 1 4 5 rfl rfl rfl rfl (aw_in_ok rfl) (w' := [(h, .inr (4, [.ref q1, .int 0, .int 0])), (q1, .inl (ids 4, 6, .inr (.inr (.inr (.inr (va_up (va_up (va_up (va_up (fun _ => none) 0 (some (v0 134))) 1 (some (v1 135))) 2 (some (v2 136))) 3 (some (v3 137))))))))] ++ cr_w ids 134 1 v0 ++ cr_w ids 135 1 v1 ++ cr_w ids 136 1 v2 ++ cr_w ids 137 1 v3) rfl xd_N_init_36 ?_
  refine aw_iinc (j := 0) (v := (4 : Int32)) (L' := [(1, .int (4 : Int32)), (0, .ref h)]) C xd_N_init_37 rfl (by decide) (by decide) rfl ?_
  refine aw_goto (tgt := 15) C xd_N_init_40 (by decide) ?_
  refine aw_iload_n C 0 xd_N_init_15 rfl rfl ?_
  refine aw_aload_n C 1 xd_N_init_16 rfl rfl ?_
  refine aw_getG C 0 rfl rfl (fun w h => List.mem_cons_of_mem _ (xi_N w h)) 0 (by decide) rfl (List.mem_cons_of_mem _ fl_N_11) xd_N_init_17 ?_
  refine aw_alenG (v := (6 : Int32)) C 1 4 rfl rfl rfl xd_N_init_20 ?_
  refine aw_icmp_ge (tgt := 43) C xd_N_init_21 (by decide) (fun c_0 => absurd c_0 (by decide)) (fun _ => ?_)
  refine aw_aload_n C 1 xd_N_init_24 rfl rfl ?_
  refine aw_getG C 0 rfl rfl (fun w h => List.mem_cons_of_mem _ (xi_N w h)) 0 (by decide) rfl (List.mem_cons_of_mem _ fl_N_11) xd_N_init_25 ?_
  refine aw_iload_n C 0 xd_N_init_28 rfl rfl ?_
  refine aw_new C (ci := 1) (fs := [.int 0, .int 0, .int 0, .int 0, .int 0]) (fun w h => List.mem_cons_of_mem _ (xi_F w h)) xk_F xo_F (List.mem_cons_of_mem _ cl_N_9) (List.mem_cons_of_mem _ ci_F) (List.mem_cons_of_mem _ wi_F) rfl (fun j hj => by rcases (show j = 0 ∨ j = 1 ∨ j = 2 ∨ j = 3 ∨ j = 4 by omega) with rfl | rfl | rfl | rfl | rfl <;> rfl) (Nat.le_of_ble_eq_true rfl) (Nat.le_of_ble_eq_true rfl) xd_N_init_29 (fun z => ?_)
  refine aw_dup C xd_N_init_32 rfl ?_
  refine aw_callIN C (xn_F_init 138 rfl z) rfl (gw_sub (gw_C xg_F_init)) (List.mem_cons_of_mem _ wi_F) (List.mem_of_getElem? (i := 4) rfl) (List.mem_cons_of_mem _ im_F_init) rfl na_F_init (rn_lt (by decide) (by decide)) ⟨Nat.le_of_ble_eq_true rfl, Nat.le_of_ble_eq_true rfl⟩ (Nat.le_of_ble_eq_true rfl) xd_N_init_33 (fun v4 hz => ?_)
  subst hz
  refine aw_astG C 1 4 6 rfl rfl rfl rfl (aw_in_ok rfl) (w' := [(h, .inr (4, [.ref q1, .int 0, .int 0])), (q1, .inl (ids 4, 6, .inr (.inr (.inr (.inr (va_up (va_up (va_up (va_up (va_up (fun _ => none) 0 (some (v0 134))) 1 (some (v1 135))) 2 (some (v2 136))) 3 (some (v3 137))) 4 (some (v4 138))))))))] ++ cr_w ids 134 1 v0 ++ cr_w ids 135 1 v1 ++ cr_w ids 136 1 v2 ++ cr_w ids 137 1 v3 ++ cr_w ids 138 1 v4) rfl xd_N_init_36 ?_
  refine aw_iinc (j := 0) (v := (5 : Int32)) (L' := [(1, .int (5 : Int32)), (0, .ref h)]) C xd_N_init_37 rfl (by decide) (by decide) rfl ?_
  refine aw_goto (tgt := 15) C xd_N_init_40 (by decide) ?_
  refine aw_iload_n C 0 xd_N_init_15 rfl rfl ?_
  refine aw_aload_n C 1 xd_N_init_16 rfl rfl ?_
  refine aw_getG C 0 rfl rfl (fun w h => List.mem_cons_of_mem _ (xi_N w h)) 0 (by decide) rfl (List.mem_cons_of_mem _ fl_N_11) xd_N_init_17 ?_
  refine aw_alenG (v := (6 : Int32)) C 1 4 rfl rfl rfl xd_N_init_20 ?_
  refine aw_icmp_ge (tgt := 43) C xd_N_init_21 (by decide) (fun c_0 => absurd c_0 (by decide)) (fun _ => ?_)
  refine aw_aload_n C 1 xd_N_init_24 rfl rfl ?_
  refine aw_getG C 0 rfl rfl (fun w h => List.mem_cons_of_mem _ (xi_N w h)) 0 (by decide) rfl (List.mem_cons_of_mem _ fl_N_11) xd_N_init_25 ?_
  refine aw_iload_n C 0 xd_N_init_28 rfl rfl ?_
  refine aw_new C (ci := 1) (fs := [.int 0, .int 0, .int 0, .int 0, .int 0]) (fun w h => List.mem_cons_of_mem _ (xi_F w h)) xk_F xo_F (List.mem_cons_of_mem _ cl_N_9) (List.mem_cons_of_mem _ ci_F) (List.mem_cons_of_mem _ wi_F) rfl (fun j hj => by rcases (show j = 0 ∨ j = 1 ∨ j = 2 ∨ j = 3 ∨ j = 4 by omega) with rfl | rfl | rfl | rfl | rfl <;> rfl) (Nat.le_of_ble_eq_true rfl) (Nat.le_of_ble_eq_true rfl) xd_N_init_29 (fun z => ?_)
  refine aw_dup C xd_N_init_32 rfl ?_
  refine aw_callIN C (xn_F_init 139 rfl z) rfl (gw_sub (gw_C xg_F_init)) (List.mem_cons_of_mem _ wi_F) (List.mem_of_getElem? (i := 4) rfl) (List.mem_cons_of_mem _ im_F_init) rfl na_F_init (rn_lt (by decide) (by decide)) ⟨Nat.le_of_ble_eq_true rfl, Nat.le_of_ble_eq_true rfl⟩ (Nat.le_of_ble_eq_true rfl) xd_N_init_33 (fun v5 hz => ?_)
  subst hz
  refine aw_astG C 1 4 7 rfl rfl rfl rfl (aw_in_ok rfl) (w' := [(h, .inr (4, [.ref q1, .int 0, .int 0])), (q1, .inl (ids 4, 6, .inr (.inr (.inr (.inr (va_up (va_up (va_up (va_up (va_up (va_up (fun _ => none) 0 (some (v0 134))) 1 (some (v1 135))) 2 (some (v2 136))) 3 (some (v3 137))) 4 (some (v4 138))) 5 (some (v5 139))))))))] ++ cr_w ids 134 1 v0 ++ cr_w ids 135 1 v1 ++ cr_w ids 136 1 v2 ++ cr_w ids 137 1 v3 ++ cr_w ids 138 1 v4 ++ cr_w ids 139 1 v5) rfl xd_N_init_36 ?_
  refine aw_iinc (j := 0) (v := (6 : Int32)) (L' := [(1, .int (6 : Int32)), (0, .ref h)]) C xd_N_init_37 rfl (by decide) (by decide) rfl ?_
  refine aw_goto (tgt := 15) C xd_N_init_40 (by decide) ?_
  refine aw_iload_n C 0 xd_N_init_15 rfl rfl ?_
  refine aw_aload_n C 1 xd_N_init_16 rfl rfl ?_
  refine aw_getG C 0 rfl rfl (fun w h => List.mem_cons_of_mem _ (xi_N w h)) 0 (by decide) rfl (List.mem_cons_of_mem _ fl_N_11) xd_N_init_17 ?_
  refine aw_alenG (v := (6 : Int32)) C 1 4 rfl rfl rfl xd_N_init_20 ?_
  refine aw_icmp_ge (tgt := 43) C xd_N_init_21 (by decide) (fun _ => ?_) (fun c_0 => absurd (by decide) c_0)
  obtain ⟨u, hu⟩ : ∃ u : Nat → Nat, u = (fun k => if k = 132 then h else if k = 133 then q1 else if k < 135 then v0 k else if k < 136 then v1 k else if k < 137 then v2 k else if k < 138 then v3 k else if k < 139 then v4 k else v5 k) := ⟨_, rfl⟩
  have hg0 : cr_w ids 134 1 v0 = cr_w ids 134 1 u := cg_F (rfl : kd_k 134 = 14) (fun j h1 h2 => by rw [hu]; show v0 j = ite _ _ _; rw [if_neg (by omega), if_neg (by omega), if_pos (by omega)])
  have hg1 : cr_w ids 135 1 v1 = cr_w ids 135 1 u := cg_F (rfl : kd_k 135 = 14) (fun j h1 h2 => by rw [hu]; show v1 j = ite _ _ _; rw [if_neg (by omega), if_neg (by omega), if_neg (by omega), if_pos (by omega)])
  have hg2 : cr_w ids 136 1 v2 = cr_w ids 136 1 u := cg_F (rfl : kd_k 136 = 14) (fun j h1 h2 => by rw [hu]; show v2 j = ite _ _ _; rw [if_neg (by omega), if_neg (by omega), if_neg (by omega), if_neg (by omega), if_pos (by omega)])
  have hg3 : cr_w ids 137 1 v3 = cr_w ids 137 1 u := cg_F (rfl : kd_k 137 = 14) (fun j h1 h2 => by rw [hu]; show v3 j = ite _ _ _; rw [if_neg (by omega), if_neg (by omega), if_neg (by omega), if_neg (by omega), if_neg (by omega), if_pos (by omega)])
  have hg4 : cr_w ids 138 1 v4 = cr_w ids 138 1 u := cg_F (rfl : kd_k 138 = 14) (fun j h1 h2 => by rw [hu]; show v4 j = ite _ _ _; rw [if_neg (by omega), if_neg (by omega), if_neg (by omega), if_neg (by omega), if_neg (by omega), if_neg (by omega), if_pos (by omega)])
  have hg5 : cr_w ids 139 1 v5 = cr_w ids 139 1 u := cg_F (rfl : kd_k 139 = 14) (fun j h1 h2 => by rw [hu]; show v5 j = ite _ _ _; rw [if_neg (by omega), if_neg (by omega), if_neg (by omega), if_neg (by omega), if_neg (by omega), if_neg (by omega), if_neg (by omega)])
  have hq0 : v0 134 = u 134 := by rw [hu]; rfl
  have hq1 : v1 135 = u 135 := by rw [hu]; rfl
  have hq2 : v2 136 = u 136 := by rw [hu]; rfl
  have hq3 : v3 137 = u 137 := by rw [hu]; rfl
  have hq4 : v4 138 = u 138 := by rw [hu]; rfl
  have hq5 : v5 139 = u 139 := by rw [hu]; rfl
  have hfg : ∀ k, k < 6 → (va_up (va_up (va_up (va_up (va_up (va_up (fun _ => none) 0 (some (v0 134))) 1 (some (v1 135))) 2 (some (v2 136))) 3 (some (v3 137))) 4 (some (v4 138))) 5 (some (v5 139))) k = (fun k => if k < 6 then some (u (133 + 1 + k)) else none) k := fun k hk => match k, hk with
    | 0, _ => congrArg some hq0
    | 1, _ => congrArg some hq1
    | 2, _ => congrArg some hq2
    | 3, _ => congrArg some hq3
    | 4, _ => congrArg some hq4
    | 5, _ => congrArg some hq5
    | k + 6, hk => absurd hk (by omega)
  refine aw_arr C 1 (g := fun k => if k < 6 then some (u (133 + 1 + k)) else none) rfl hfg rfl ?_
  refine aw_vretN C u (by rw [hu]; rfl) ?_ xd_N_init_43
  show cr_w ids 132 8 u = _
  rw [hg0, hg1, hg2, hg3, hg4, hg5]
  rw [show h = u 132 from (by rw [hu]; rfl)]
  rw [show q1 = u 133 from (by rw [hu]; rfl)]
  rfl

theorem cg_L {ids : Nat → ClassId} {u v : Nat → Nat} (h : ∀ j, 7 ≤ j → j < 63 → u j = v j) : cr_w ids 7 56 u = cr_w ids 7 56 v := by
  show [(u 7, .inr (3, [.ref (u 8), .int 0, .int 0])), (u 8, .inl (ids 2, 6, .inr (.inr (.inr (.inr (fun i => if i < 6 then some (u (8 + 1 + 9 * i)) else none))))))] ++ cr_w ids 9 9 u ++ cr_w ids 18 9 u ++ cr_w ids 27 9 u ++ cr_w ids 36 9 u ++ cr_w ids 45 9 u ++ cr_w ids 54 9 u = [(v 7, .inr (3, [.ref (v 8), .int 0, .int 0])), (v 8, .inl (ids 2, 6, .inr (.inr (.inr (.inr (fun i => if i < 6 then some (v (8 + 1 + 9 * i)) else none))))))] ++ cr_w ids 9 9 v ++ cr_w ids 18 9 v ++ cr_w ids 27 9 v ++ cr_w ids 36 9 v ++ cr_w ids 45 9 v ++ cr_w ids 54 9 v
  have hf : (fun i => if i < 6 then some (u (8 + 1 + 9 * i)) else none) = (fun i => if i < 6 then some (v (8 + 1 + 9 * i)) else none) := by
    funext i
    by_cases hi : i < 6
    · rw [if_pos hi, if_pos hi, h (8 + 1 + 9 * i) (by omega) (by omega)]
    · rw [if_neg hi, if_neg hi]
  rw [hf, h 7 (by omega) (by omega), h 8 (by omega) (by omega), cg_U (v := v) (rfl : kd_k 9 = 6) (fun j h1 h2 => h j (by omega) (by omega)), cg_U (v := v) (rfl : kd_k 18 = 6) (fun j h1 h2 => h j (by omega) (by omega)), cg_U (v := v) (rfl : kd_k 27 = 6) (fun j h1 h2 => h j (by omega) (by omega)), cg_U (v := v) (rfl : kd_k 36 = 6) (fun j h1 h2 => h j (by omega) (by omega)), cg_U (v := v) (rfl : kd_k 45 = 6) (fun j h1 h2 => h j (by omega) (by omega)), cg_U (v := v) (rfl : kd_k 54 = 6) (fun j h1 h2 => h j (by omega) (by omega))]
theorem cg_M {ids : Nat → ClassId} {u v : Nat → Nat} (h : ∀ j, 63 ≤ j → j < 132 → u j = v j) : cr_w ids 63 69 u = cr_w ids 63 69 v := by
  show [(u 63, .inr (5, [.ref (u 64), .ref (u 65)])), (u 64, .inl (ids 3, 6, .inr (.inr (.inr (.inr (fun i => if i < 6 then some (u (64 + 2 + 11 * i)) else none)))))), (u 65, .inl (ids 1, 6, .inl (fun _ => 0)))] ++ cr_w ids 66 11 u ++ cr_w ids 77 11 u ++ cr_w ids 88 11 u ++ cr_w ids 99 11 u ++ cr_w ids 110 11 u ++ cr_w ids 121 11 u = [(v 63, .inr (5, [.ref (v 64), .ref (v 65)])), (v 64, .inl (ids 3, 6, .inr (.inr (.inr (.inr (fun i => if i < 6 then some (v (64 + 2 + 11 * i)) else none)))))), (v 65, .inl (ids 1, 6, .inl (fun _ => 0)))] ++ cr_w ids 66 11 v ++ cr_w ids 77 11 v ++ cr_w ids 88 11 v ++ cr_w ids 99 11 v ++ cr_w ids 110 11 v ++ cr_w ids 121 11 v
  have hf : (fun i => if i < 6 then some (u (64 + 2 + 11 * i)) else none) = (fun i => if i < 6 then some (v (64 + 2 + 11 * i)) else none) := by
    funext i
    by_cases hi : i < 6
    · rw [if_pos hi, if_pos hi, h (64 + 2 + 11 * i) (by omega) (by omega)]
    · rw [if_neg hi, if_neg hi]
  rw [hf, h 63 (by omega) (by omega), h 64 (by omega) (by omega), h 65 (by omega) (by omega), cg_I (v := v) (rfl : kd_k 66 = 11) (fun j h1 h2 => h j (by omega) (by omega)), cg_I (v := v) (rfl : kd_k 77 = 11) (fun j h1 h2 => h j (by omega) (by omega)), cg_I (v := v) (rfl : kd_k 88 = 11) (fun j h1 h2 => h j (by omega) (by omega)), cg_I (v := v) (rfl : kd_k 99 = 11) (fun j h1 h2 => h j (by omega) (by omega)), cg_I (v := v) (rfl : kd_k 110 = 11) (fun j h1 h2 => h j (by omega) (by omega)), cg_I (v := v) (rfl : kd_k 121 = 11) (fun j h1 h2 => h j (by omega) (by omega))]
theorem cg_N {ids : Nat → ClassId} {u v : Nat → Nat} (h : ∀ j, 132 ≤ j → j < 140 → u j = v j) : cr_w ids 132 8 u = cr_w ids 132 8 v := by
  show [(u 132, .inr (4, [.ref (u 133), .int 0, .int 0])), (u 133, .inl (ids 4, 6, .inr (.inr (.inr (.inr (fun i => if i < 6 then some (u (133 + 1 + i)) else none))))))] ++ cr_w ids 134 1 u ++ cr_w ids 135 1 u ++ cr_w ids 136 1 u ++ cr_w ids 137 1 u ++ cr_w ids 138 1 u ++ cr_w ids 139 1 u = [(v 132, .inr (4, [.ref (v 133), .int 0, .int 0])), (v 133, .inl (ids 4, 6, .inr (.inr (.inr (.inr (fun i => if i < 6 then some (v (133 + 1 + i)) else none))))))] ++ cr_w ids 134 1 v ++ cr_w ids 135 1 v ++ cr_w ids 136 1 v ++ cr_w ids 137 1 v ++ cr_w ids 138 1 v ++ cr_w ids 139 1 v
  have hf : (fun i => if i < 6 then some (u (133 + 1 + i)) else none) = (fun i => if i < 6 then some (v (133 + 1 + i)) else none) := by
    funext i
    by_cases hi : i < 6
    · rw [if_pos hi, if_pos hi, h (133 + 1 + i) (by omega) (by omega)]
    · rw [if_neg hi, if_neg hi]
  rw [hf, h 132 (by omega) (by omega), h 133 (by omega) (by omega), cg_F (v := v) (rfl : kd_k 134 = 14) (fun j h1 h2 => h j (by omega) (by omega)), cg_F (v := v) (rfl : kd_k 135 = 14) (fun j h1 h2 => h j (by omega) (by omega)), cg_F (v := v) (rfl : kd_k 136 = 14) (fun j h1 h2 => h j (by omega) (by omega)), cg_F (v := v) (rfl : kd_k 137 = 14) (fun j h1 h2 => h j (by omega) (by omega)), cg_F (v := v) (rfl : kd_k 138 = 14) (fun j h1 h2 => h j (by omega) (by omega)), cg_F (v := v) (rfl : kd_k 139 = 14) (fun j h1 h2 => h j (by omega) (by omega))]
end
section
def sg_0 : aw_m := fun k => if k = 0 then (fun i => if i = 4 then (-1 : Int32) else 0) else (fun _ => 0)
def sr_0 : aw_m := fun k => if k = 0 then (fun i => if i = 13 then (-1 : Int32) else 0) else (fun _ => 0)
theorem cr_all {ids : Nat → ClassId} {u : Nat → Nat} : cw_w u ids sg_0 = [(u 0, .inr (7, [.ref (u 1), .ref (u 7), .ref (u 63), .ref (u 132), .int (-1), .int 0]))] ++ cr_w ids 1 6 u ++ cr_w ids 7 56 u ++ cr_w ids 63 69 u ++ cr_w ids 132 8 u := by
  have h : cw_w u ids sg_0 = [(u 0, ly_k u ids 0 (sg_0 0))] ++ (List.range' 1 139).map (fun k => (u k, ly_k u ids k (sg_0 k))) := by
    unfold cw_w aw_w
    rw [List.range_eq_range']
    rfl
  have h2 : (List.range' 1 139).map (fun k => (u k, ly_k u ids k (sg_0 k))) = cr_w ids 1 139 u := by
    apply List.map_congr_left
    intro k hk
    have : k ≠ 0 := by have := List.mem_range'_1.mp hk; omega
    rw [show sg_0 k = fun _ => 0 from if_neg this]
  have h3 : cr_w ids 1 139 u = cr_w ids 1 6 u ++ (cr_w ids 7 56 u ++ (cr_w ids 63 69 u ++ cr_w ids 132 8 u)) := by
    unfold cr_w
    rw [← List.map_append, ← List.map_append, ← List.map_append, List.range'_append_1, List.range'_append_1, List.range'_append_1]
  rw [h, h2, h3]
  simp only [List.append_assoc]
  rfl
set_option maxHeartbeats 4000000 in
set_option maxRecDepth 100000 in
theorem xn_S_init {l : Launch} {D : va_G} {ids : Nat → ClassId} {ps : Nat} (h : Nat) : aw_N l D (ty_z ids) (zs_T ps) xy_S_init (xw_S_init :: gw_l) (rm_N 5 139 2115) 139 2115 h (.inr (7, [.null, .null, .null, .null, .int 0, .int 0])) ((fun u => cw_w u ids sg_0)) (fun u => u 0 = h) := by
  refine aw_introN (cc := xb_S_init) (n := 1) "ModuleShelf" rfl rfl (by decide) rfl (by decide) ?_
  intro κ C hI
  refine aw_aload_n C 0 xd_S_init_0 rfl rfl ?_
  refine aw_obj C (List.mem_cons_of_mem _ ml_S_1) (List.mem_cons_of_mem _ wo_inst) (List.mem_cons_of_mem _ wo_code) (by decide) (by decide) xd_S_init_1 ?_
  refine aw_aload_n C 0 xd_S_init_4 rfl rfl ?_
  refine aw_new C (ci := 0) (fs := [.int 0, .int 0, .null, .null, .null, .null, .null]) (fun w h => List.mem_cons_of_mem _ (xi_C w h)) xk_C xo_C (List.mem_cons_of_mem _ cl_S_7) (List.mem_cons_of_mem _ ci_C) (List.mem_cons_of_mem _ wi_C) rfl (fun j hj => by rcases (show j = 0 ∨ j = 1 ∨ j = 2 ∨ j = 3 ∨ j = 4 ∨ j = 5 ∨ j = 6 by omega) with rfl | rfl | rfl | rfl | rfl | rfl | rfl <;> rfl) (Nat.le_of_ble_eq_true rfl) (Nat.le_of_ble_eq_true rfl) xd_S_init_5 (fun q1 => ?_)
  refine aw_dup C xd_S_init_8 rfl ?_
  refine aw_callIN C (xn_C_init 1 rfl q1) rfl (gw_sub (gw_C xg_C_init)) (List.mem_cons_of_mem _ wi_C) (List.mem_of_getElem? (i := 0) rfl) (List.mem_cons_of_mem _ im_C_init) rfl na_C_init (rn_lt (by decide) (by decide)) ⟨Nat.le_of_ble_eq_true rfl, Nat.le_of_ble_eq_true rfl⟩ (Nat.le_of_ble_eq_true rfl) xd_S_init_9 (fun v1 hv1 => ?_)
  refine aw_putFG C hI 0 rfl rfl (fun w h => List.mem_cons_of_mem _ (xi_S w h)) xk_S xo_S xn_S 0 (by decide) (List.mem_cons_of_mem _ fl_S_10) rfl rfl (ty := .object "ModuleShelf$Code") (by decide +kernel) rfl rfl (Nat.le_of_ble_eq_true rfl) (w' := [(h, .inr (7, [.ref q1, .null, .null, .null, .int 0, .int 0]))] ++ cr_w ids 1 6 v1) rfl xd_S_init_12 ?_
  refine aw_aload_n C 0 xd_S_init_15 rfl rfl ?_
  refine aw_new C (ci := 3) (fs := [.null, .int 0, .int 0]) (fun w h => List.mem_cons_of_mem _ (xi_L w h)) xk_L xo_L (List.mem_cons_of_mem _ cl_S_16) (List.mem_cons_of_mem _ ci_L) (List.mem_cons_of_mem _ wi_L) rfl (fun j hj => by rcases (show j = 0 ∨ j = 1 ∨ j = 2 by omega) with rfl | rfl | rfl <;> rfl) (Nat.le_of_ble_eq_true rfl) (Nat.le_of_ble_eq_true rfl) xd_S_init_16 (fun q2 => ?_)
  refine aw_dup C xd_S_init_19 rfl ?_
  refine aw_callI C (xn_L_init q2) rfl (gw_sub (gw_C xg_L_init)) (List.mem_cons_of_mem _ wi_L) (List.mem_cons_of_mem _ ml_S_18) (List.mem_cons_of_mem _ im_L_init) rfl na_L_init (rn_lt (by decide) (by decide)) ⟨Nat.le_of_ble_eq_true rfl, Nat.le_of_ble_eq_true rfl⟩ (Nat.le_of_ble_eq_true rfl) xd_S_init_20 (fun v2 hv2 => ?_)
  refine aw_putFG C hI 0 rfl rfl (fun w h => List.mem_cons_of_mem _ (xi_S w h)) xk_S xo_S xn_S 1 (by decide) (List.mem_cons_of_mem _ fl_S_19) rfl rfl (ty := .object "ModuleShelf$Library") (by decide +kernel) rfl rfl (Nat.le_of_ble_eq_true rfl) (w' := [(h, .inr (7, [.ref q1, .ref q2, .null, .null, .int 0, .int 0]))] ++ cr_w ids 1 6 v1 ++ cr_w ids 7 56 v2) rfl xd_S_init_23 ?_
  refine aw_aload_n C 0 xd_S_init_26 rfl rfl ?_
  refine aw_new C (ci := 5) (fs := [.null, .null]) (fun w h => List.mem_cons_of_mem _ (xi_M w h)) xk_M xo_M (List.mem_cons_of_mem _ cl_S_23) (List.mem_cons_of_mem _ ci_M) (List.mem_cons_of_mem _ wi_M) rfl (fun j hj => by rcases (show j = 0 ∨ j = 1 by omega) with rfl | rfl <;> rfl) (Nat.le_of_ble_eq_true rfl) (Nat.le_of_ble_eq_true rfl) xd_S_init_27 (fun q3 => ?_)
  refine aw_dup C xd_S_init_30 rfl ?_
  refine aw_callI C (xn_M_init q3) rfl (gw_sub (gw_C xg_M_init)) (List.mem_cons_of_mem _ wi_M) (List.mem_cons_of_mem _ ml_S_25) (List.mem_cons_of_mem _ im_M_init) rfl na_M_init (rn_lt (by decide) (by decide)) ⟨Nat.le_of_ble_eq_true rfl, Nat.le_of_ble_eq_true rfl⟩ (Nat.le_of_ble_eq_true rfl) xd_S_init_31 (fun v3 hv3 => ?_)
  refine aw_putFG C hI 0 rfl rfl (fun w h => List.mem_cons_of_mem _ (xi_S w h)) xk_S xo_S xn_S 2 (by decide) (List.mem_cons_of_mem _ fl_S_26) rfl rfl (ty := .object "ModuleShelf$Memory") (by decide +kernel) rfl rfl (Nat.le_of_ble_eq_true rfl) (w' := [(h, .inr (7, [.ref q1, .ref q2, .ref q3, .null, .int 0, .int 0]))] ++ cr_w ids 1 6 v1 ++ cr_w ids 7 56 v2 ++ cr_w ids 63 69 v3) rfl xd_S_init_34 ?_
  refine aw_aload_n C 0 xd_S_init_37 rfl rfl ?_
  refine aw_new C (ci := 4) (fs := [.null, .int 0, .int 0]) (fun w h => List.mem_cons_of_mem _ (xi_N w h)) xk_N xo_N (List.mem_cons_of_mem _ cl_S_30) (List.mem_cons_of_mem _ ci_N) (List.mem_cons_of_mem _ wi_N) rfl (fun j hj => by rcases (show j = 0 ∨ j = 1 ∨ j = 2 by omega) with rfl | rfl | rfl <;> rfl) (Nat.le_of_ble_eq_true rfl) (Nat.le_of_ble_eq_true rfl) xd_S_init_38 (fun q4 => ?_)
  refine aw_dup C xd_S_init_41 rfl ?_
  refine aw_callI C (xn_N_init q4) rfl (gw_sub (gw_C xg_N_init)) (List.mem_cons_of_mem _ wi_N) (List.mem_cons_of_mem _ ml_S_32) (List.mem_cons_of_mem _ im_N_init) rfl na_N_init (rn_lt (by decide) (by decide)) ⟨Nat.le_of_ble_eq_true rfl, Nat.le_of_ble_eq_true rfl⟩ (Nat.le_of_ble_eq_true rfl) xd_S_init_42 (fun v4 hv4 => ?_)
  refine aw_putFG C hI 0 rfl rfl (fun w h => List.mem_cons_of_mem _ (xi_S w h)) xk_S xo_S xn_S 3 (by decide) (List.mem_cons_of_mem _ fl_S_33) rfl rfl (ty := .object "ModuleShelf$Machine") (by decide +kernel) rfl rfl (Nat.le_of_ble_eq_true rfl) (w' := [(h, .inr (7, [.ref q1, .ref q2, .ref q3, .ref q4, .int 0, .int 0]))] ++ cr_w ids 1 6 v1 ++ cr_w ids 7 56 v2 ++ cr_w ids 63 69 v3 ++ cr_w ids 132 8 v4) rfl xd_S_init_45 ?_
  refine aw_aload_n C 0 xd_S_init_48 rfl rfl ?_
  refine aw_iconst (v := (-1 : Int32)) C xd_S_init_49 (by decide) ?_
  refine aw_putG C 0 rfl rfl (fun w h => List.mem_cons_of_mem _ (xi_S w h)) xk_S xo_S xn_S 4 (by decide) (List.mem_cons_of_mem _ fl_S_37) rfl (ty := .int) (by decide +kernel) rfl rfl (Nat.le_of_ble_eq_true rfl) (w' := [(h, .inr (7, [.ref q1, .ref q2, .ref q3, .ref q4, .int (-1), .int 0]))] ++ cr_w ids 1 6 v1 ++ cr_w ids 7 56 v2 ++ cr_w ids 63 69 v3 ++ cr_w ids 132 8 v4) rfl xd_S_init_50 ?_
  refine aw_aload_n C 0 xd_S_init_53 rfl rfl ?_
  refine aw_iconst (v := (0 : Int32)) C xd_S_init_54 (by decide) ?_
  refine aw_putG C 0 rfl rfl (fun w h => List.mem_cons_of_mem _ (xi_S w h)) xk_S xo_S xn_S 5 (by decide) (List.mem_cons_of_mem _ fl_S_41) rfl (ty := .int) (by decide +kernel) rfl rfl (Nat.le_of_ble_eq_true rfl) (w' := [(h, .inr (7, [.ref q1, .ref q2, .ref q3, .ref q4, .int (-1), .int 0]))] ++ cr_w ids 1 6 v1 ++ cr_w ids 7 56 v2 ++ cr_w ids 63 69 v3 ++ cr_w ids 132 8 v4) rfl xd_S_init_55 ?_
  obtain ⟨u, hu⟩ : ∃ u : Nat → Nat, u = (fun k => if k = 0 then h else if k < 7 then v1 k else if k < 63 then v2 k else if k < 132 then v3 k else v4 k) := ⟨_, rfl⟩
  have hg1 : cr_w ids 1 6 v1 = cr_w ids 1 6 u := cg_C (rfl : kd_k 1 = 1) (fun j h1 h2 => by rw [hu]; show v1 j = ite _ _ _; rw [if_neg (by omega), if_pos (by omega)])
  have hg2 : cr_w ids 7 56 v2 = cr_w ids 7 56 u := cg_L (fun j h1 h2 => by rw [hu]; show v2 j = ite _ _ _; rw [if_neg (by omega), if_neg (by omega), if_pos (by omega)])
  have hg3 : cr_w ids 63 69 v3 = cr_w ids 63 69 u := cg_M (fun j h1 h2 => by rw [hu]; show v3 j = ite _ _ _; rw [if_neg (by omega), if_neg (by omega), if_neg (by omega), if_pos (by omega)])
  have hg4 : cr_w ids 132 8 v4 = cr_w ids 132 8 u := cg_N (fun j h1 h2 => by rw [hu]; show v4 j = ite _ _ _; rw [if_neg (by omega), if_neg (by omega), if_neg (by omega), if_neg (by omega)])
  refine aw_vretN C u (by rw [hu]; rfl) ?_ xd_S_init_58
  show cw_w u ids sg_0 = _
  rw [cr_all, hg1, hg2, hg3, hg4, ← hv1, ← hv2, ← hv3, ← hv4]
  rw [show v1 1 = u 1 from (by rw [hu]; rfl), show v2 7 = u 7 from (by rw [hu]; rfl), show v3 63 = u 63 from (by rw [hu]; rfl), show v4 132 = u 132 from (by rw [hu]; rfl), show h = u 0 from (by rw [hu]; rfl)]

set_option maxHeartbeats 4000000 in
set_option maxRecDepth 100000 in
theorem xn_R_init {l : Launch} {D : va_G} {ids : Nat → ClassId} {ps : Nat} (h : Nat) : aw_N l D (ty_z ids) (zs_T ps) xy_R_init (xw_R_init :: gw_l) (rm_N 2 23 3172) 23 3172 h (.inr (8, [.null, .null, .null, .null, .null, .null, .null, .null, .null, .null, .null, .null, .int 0, .int 0, .int 0, .int 0, .null, .null, .null, .null, .null, .null, .int 0, .null, .int 0, .null, .null, .null, .null])) ((fun u => rw_w u ids sr_0)) (fun u => u 0 = h) := by
  refine aw_introN (cc := xb_R_init) (n := 1) "ModuleShelfModel" rfl rfl (by decide) rfl (by decide) ?_
  intro κ C hI
  refine aw_aload_n C 0 xd_R_init_0 rfl rfl ?_
  refine aw_obj C (List.mem_cons_of_mem _ ml_R_1) (List.mem_cons_of_mem _ wo_inst) (List.mem_cons_of_mem _ wo_code) (by decide) (by decide) xd_R_init_1 ?_
  refine aw_aload_n C 0 xd_R_init_4 rfl rfl ?_
  refine aw_bipush (v := (13 : Int32)) C xd_R_init_5 (by decide) ?_
  refine aw_newa (atype := .int) C (List.mem_cons_of_mem _ wa_int) rfl 0 rfl (a0 := (13, .inl (fun _ => 0))) (fun _ => rfl) (by decide) (N' := 13) rfl (by decide) (Nat.le_of_ble_eq_true rfl) (Nat.le_of_ble_eq_true rfl) xd_R_init_7 (fun q1 => ?_)
  refine aw_putFG C hI 0 rfl rfl (fun w h => List.mem_cons_of_mem _ (xi_R w h)) xk_R xo_R xn_R 0 (by decide) (List.mem_cons_of_mem _ fl_R_7) rfl rfl (ty := .array .int) (by decide +kernel) rfl rfl (Nat.le_of_ble_eq_true rfl) (w' := [(h, .inr (8, [.ref q1, .null, .null, .null, .null, .null, .null, .null, .null, .null, .null, .null, .int 0, .int 0, .int 0, .int 0, .null, .null, .null, .null, .null, .null, .int 0, .null, .int 0, .null, .null, .null, .null])), (q1, .inl (ids 0, 13, .inl (fun _ => 0)))]) rfl xd_R_init_9 ?_
  refine aw_aload_n C 0 xd_R_init_12 rfl rfl ?_
  refine aw_bipush (v := (13 : Int32)) C xd_R_init_13 (by decide) ?_
  refine aw_newa (atype := .int) C (List.mem_cons_of_mem _ wa_int) rfl 0 rfl (a0 := (13, .inl (fun _ => 0))) (fun _ => rfl) (by decide) (N' := 13) rfl (by decide) (Nat.le_of_ble_eq_true rfl) (Nat.le_of_ble_eq_true rfl) xd_R_init_15 (fun q2 => ?_)
  refine aw_putFG C hI 0 rfl rfl (fun w h => List.mem_cons_of_mem _ (xi_R w h)) xk_R xo_R xn_R 1 (by decide) (List.mem_cons_of_mem _ fl_R_13) rfl rfl (ty := .array .int) (by decide +kernel) rfl rfl (Nat.le_of_ble_eq_true rfl) (w' := [(h, .inr (8, [.ref q1, .ref q2, .null, .null, .null, .null, .null, .null, .null, .null, .null, .null, .int 0, .int 0, .int 0, .int 0, .null, .null, .null, .null, .null, .null, .int 0, .null, .int 0, .null, .null, .null, .null])), (q1, .inl (ids 0, 13, .inl (fun _ => 0))), (q2, .inl (ids 0, 13, .inl (fun _ => 0)))]) rfl xd_R_init_17 ?_
  refine aw_aload_n C 0 xd_R_init_20 rfl rfl ?_
  refine aw_bipush (v := (13 : Int32)) C xd_R_init_21 (by decide) ?_
  refine aw_newa (atype := .int) C (List.mem_cons_of_mem _ wa_int) rfl 0 rfl (a0 := (13, .inl (fun _ => 0))) (fun _ => rfl) (by decide) (N' := 13) rfl (by decide) (Nat.le_of_ble_eq_true rfl) (Nat.le_of_ble_eq_true rfl) xd_R_init_23 (fun q3 => ?_)
  refine aw_putFG C hI 0 rfl rfl (fun w h => List.mem_cons_of_mem _ (xi_R w h)) xk_R xo_R xn_R 2 (by decide) (List.mem_cons_of_mem _ fl_R_16) rfl rfl (ty := .array .int) (by decide +kernel) rfl rfl (Nat.le_of_ble_eq_true rfl) (w' := [(h, .inr (8, [.ref q1, .ref q2, .ref q3, .null, .null, .null, .null, .null, .null, .null, .null, .null, .int 0, .int 0, .int 0, .int 0, .null, .null, .null, .null, .null, .null, .int 0, .null, .int 0, .null, .null, .null, .null])), (q1, .inl (ids 0, 13, .inl (fun _ => 0))), (q2, .inl (ids 0, 13, .inl (fun _ => 0))), (q3, .inl (ids 0, 13, .inl (fun _ => 0)))]) rfl xd_R_init_25 ?_
  refine aw_aload_n C 0 xd_R_init_28 rfl rfl ?_
  refine aw_bipush (v := (39 : Int32)) C xd_R_init_29 (by decide) ?_
  refine aw_newa (atype := .int) C (List.mem_cons_of_mem _ wa_int) rfl 0 rfl (a0 := (39, .inl (fun _ => 0))) (fun _ => rfl) (by decide) (N' := 39) rfl (by decide) (Nat.le_of_ble_eq_true rfl) (Nat.le_of_ble_eq_true rfl) xd_R_init_31 (fun q4 => ?_)
  refine aw_putFG C hI 0 rfl rfl (fun w h => List.mem_cons_of_mem _ (xi_R w h)) xk_R xo_R xn_R 3 (by decide) (List.mem_cons_of_mem _ fl_R_19) rfl rfl (ty := .array .int) (by decide +kernel) rfl rfl (Nat.le_of_ble_eq_true rfl) (w' := [(h, .inr (8, [.ref q1, .ref q2, .ref q3, .ref q4, .null, .null, .null, .null, .null, .null, .null, .null, .int 0, .int 0, .int 0, .int 0, .null, .null, .null, .null, .null, .null, .int 0, .null, .int 0, .null, .null, .null, .null])), (q1, .inl (ids 0, 13, .inl (fun _ => 0))), (q2, .inl (ids 0, 13, .inl (fun _ => 0))), (q3, .inl (ids 0, 13, .inl (fun _ => 0))), (q4, .inl (ids 0, 39, .inl (fun _ => 0)))]) rfl xd_R_init_33 ?_
  refine aw_aload_n C 0 xd_R_init_36 rfl rfl ?_
  refine aw_bipush (v := (39 : Int32)) C xd_R_init_37 (by decide) ?_
  refine aw_newa (atype := .int) C (List.mem_cons_of_mem _ wa_int) rfl 0 rfl (a0 := (39, .inl (fun _ => 0))) (fun _ => rfl) (by decide) (N' := 39) rfl (by decide) (Nat.le_of_ble_eq_true rfl) (Nat.le_of_ble_eq_true rfl) xd_R_init_39 (fun q5 => ?_)
  refine aw_putFG C hI 0 rfl rfl (fun w h => List.mem_cons_of_mem _ (xi_R w h)) xk_R xo_R xn_R 4 (by decide) (List.mem_cons_of_mem _ fl_R_22) rfl rfl (ty := .array .int) (by decide +kernel) rfl rfl (Nat.le_of_ble_eq_true rfl) (w' := [(h, .inr (8, [.ref q1, .ref q2, .ref q3, .ref q4, .ref q5, .null, .null, .null, .null, .null, .null, .null, .int 0, .int 0, .int 0, .int 0, .null, .null, .null, .null, .null, .null, .int 0, .null, .int 0, .null, .null, .null, .null])), (q1, .inl (ids 0, 13, .inl (fun _ => 0))), (q2, .inl (ids 0, 13, .inl (fun _ => 0))), (q3, .inl (ids 0, 13, .inl (fun _ => 0))), (q4, .inl (ids 0, 39, .inl (fun _ => 0))), (q5, .inl (ids 0, 39, .inl (fun _ => 0)))]) rfl xd_R_init_41 ?_
  refine aw_aload_n C 0 xd_R_init_44 rfl rfl ?_
  refine aw_sipush (v := (546 : Int32)) C xd_R_init_45 (by decide) ?_
  refine aw_newa (atype := .int) C (List.mem_cons_of_mem _ wa_int) rfl 0 rfl (a0 := (546, .inl (fun _ => 0))) (fun _ => rfl) (by decide) (N' := 546) rfl (by decide) (Nat.le_of_ble_eq_true rfl) (Nat.le_of_ble_eq_true rfl) xd_R_init_48 (fun q6 => ?_)
  refine aw_putFG C hI 0 rfl rfl (fun w h => List.mem_cons_of_mem _ (xi_R w h)) xk_R xo_R xn_R 5 (by decide) (List.mem_cons_of_mem _ fl_R_25) rfl rfl (ty := .array .int) (by decide +kernel) rfl rfl (Nat.le_of_ble_eq_true rfl) (w' := [(h, .inr (8, [.ref q1, .ref q2, .ref q3, .ref q4, .ref q5, .ref q6, .null, .null, .null, .null, .null, .null, .int 0, .int 0, .int 0, .int 0, .null, .null, .null, .null, .null, .null, .int 0, .null, .int 0, .null, .null, .null, .null])), (q1, .inl (ids 0, 13, .inl (fun _ => 0))), (q2, .inl (ids 0, 13, .inl (fun _ => 0))), (q3, .inl (ids 0, 13, .inl (fun _ => 0))), (q4, .inl (ids 0, 39, .inl (fun _ => 0))), (q5, .inl (ids 0, 39, .inl (fun _ => 0))), (q6, .inl (ids 0, 546, .inl (fun _ => 0)))]) rfl xd_R_init_50 ?_
  refine aw_aload_n C 0 xd_R_init_53 rfl rfl ?_
  refine aw_sipush (v := (546 : Int32)) C xd_R_init_54 (by decide) ?_
  refine aw_newa (atype := .int) C (List.mem_cons_of_mem _ wa_int) rfl 0 rfl (a0 := (546, .inl (fun _ => 0))) (fun _ => rfl) (by decide) (N' := 546) rfl (by decide) (Nat.le_of_ble_eq_true rfl) (Nat.le_of_ble_eq_true rfl) xd_R_init_57 (fun q7 => ?_)
  refine aw_putFG C hI 0 rfl rfl (fun w h => List.mem_cons_of_mem _ (xi_R w h)) xk_R xo_R xn_R 6 (by decide) (List.mem_cons_of_mem _ fl_R_28) rfl rfl (ty := .array .int) (by decide +kernel) rfl rfl (Nat.le_of_ble_eq_true rfl) (w' := [(h, .inr (8, [.ref q1, .ref q2, .ref q3, .ref q4, .ref q5, .ref q6, .ref q7, .null, .null, .null, .null, .null, .int 0, .int 0, .int 0, .int 0, .null, .null, .null, .null, .null, .null, .int 0, .null, .int 0, .null, .null, .null, .null])), (q1, .inl (ids 0, 13, .inl (fun _ => 0))), (q2, .inl (ids 0, 13, .inl (fun _ => 0))), (q3, .inl (ids 0, 13, .inl (fun _ => 0))), (q4, .inl (ids 0, 39, .inl (fun _ => 0))), (q5, .inl (ids 0, 39, .inl (fun _ => 0))), (q6, .inl (ids 0, 546, .inl (fun _ => 0))), (q7, .inl (ids 0, 546, .inl (fun _ => 0)))]) rfl xd_R_init_59 ?_
  refine aw_aload_n C 0 xd_R_init_62 rfl rfl ?_
  refine aw_sipush (v := (546 : Int32)) C xd_R_init_63 (by decide) ?_
  refine aw_newa (atype := .int) C (List.mem_cons_of_mem _ wa_int) rfl 0 rfl (a0 := (546, .inl (fun _ => 0))) (fun _ => rfl) (by decide) (N' := 546) rfl (by decide) (Nat.le_of_ble_eq_true rfl) (Nat.le_of_ble_eq_true rfl) xd_R_init_66 (fun q8 => ?_)
  refine aw_putFG C hI 0 rfl rfl (fun w h => List.mem_cons_of_mem _ (xi_R w h)) xk_R xo_R xn_R 7 (by decide) (List.mem_cons_of_mem _ fl_R_31) rfl rfl (ty := .array .int) (by decide +kernel) rfl rfl (Nat.le_of_ble_eq_true rfl) (w' := [(h, .inr (8, [.ref q1, .ref q2, .ref q3, .ref q4, .ref q5, .ref q6, .ref q7, .ref q8, .null, .null, .null, .null, .int 0, .int 0, .int 0, .int 0, .null, .null, .null, .null, .null, .null, .int 0, .null, .int 0, .null, .null, .null, .null])), (q1, .inl (ids 0, 13, .inl (fun _ => 0))), (q2, .inl (ids 0, 13, .inl (fun _ => 0))), (q3, .inl (ids 0, 13, .inl (fun _ => 0))), (q4, .inl (ids 0, 39, .inl (fun _ => 0))), (q5, .inl (ids 0, 39, .inl (fun _ => 0))), (q6, .inl (ids 0, 546, .inl (fun _ => 0))), (q7, .inl (ids 0, 546, .inl (fun _ => 0))), (q8, .inl (ids 0, 546, .inl (fun _ => 0)))]) rfl xd_R_init_68 ?_
  refine aw_aload_n C 0 xd_R_init_71 rfl rfl ?_
  refine aw_bipush (v := (13 : Int32)) C xd_R_init_72 (by decide) ?_
  refine aw_newa (atype := .int) C (List.mem_cons_of_mem _ wa_int) rfl 0 rfl (a0 := (13, .inl (fun _ => 0))) (fun _ => rfl) (by decide) (N' := 13) rfl (by decide) (Nat.le_of_ble_eq_true rfl) (Nat.le_of_ble_eq_true rfl) xd_R_init_74 (fun q9 => ?_)
  refine aw_putFG C hI 0 rfl rfl (fun w h => List.mem_cons_of_mem _ (xi_R w h)) xk_R xo_R xn_R 8 (by decide) (List.mem_cons_of_mem _ fl_R_34) rfl rfl (ty := .array .int) (by decide +kernel) rfl rfl (Nat.le_of_ble_eq_true rfl) (w' := [(h, .inr (8, [.ref q1, .ref q2, .ref q3, .ref q4, .ref q5, .ref q6, .ref q7, .ref q8, .ref q9, .null, .null, .null, .int 0, .int 0, .int 0, .int 0, .null, .null, .null, .null, .null, .null, .int 0, .null, .int 0, .null, .null, .null, .null])), (q1, .inl (ids 0, 13, .inl (fun _ => 0))), (q2, .inl (ids 0, 13, .inl (fun _ => 0))), (q3, .inl (ids 0, 13, .inl (fun _ => 0))), (q4, .inl (ids 0, 39, .inl (fun _ => 0))), (q5, .inl (ids 0, 39, .inl (fun _ => 0))), (q6, .inl (ids 0, 546, .inl (fun _ => 0))), (q7, .inl (ids 0, 546, .inl (fun _ => 0))), (q8, .inl (ids 0, 546, .inl (fun _ => 0))), (q9, .inl (ids 0, 13, .inl (fun _ => 0)))]) rfl xd_R_init_76 ?_
  refine aw_aload_n C 0 xd_R_init_79 rfl rfl ?_
  refine aw_bipush (v := (65 : Int32)) C xd_R_init_80 (by decide) ?_
  refine aw_newa (atype := .int) C (List.mem_cons_of_mem _ wa_int) rfl 0 rfl (a0 := (65, .inl (fun _ => 0))) (fun _ => rfl) (by decide) (N' := 65) rfl (by decide) (Nat.le_of_ble_eq_true rfl) (Nat.le_of_ble_eq_true rfl) xd_R_init_82 (fun q10 => ?_)
  refine aw_putFG C hI 0 rfl rfl (fun w h => List.mem_cons_of_mem _ (xi_R w h)) xk_R xo_R xn_R 9 (by decide) (List.mem_cons_of_mem _ fl_R_37) rfl rfl (ty := .array .int) (by decide +kernel) rfl rfl (Nat.le_of_ble_eq_true rfl) (w' := [(h, .inr (8, [.ref q1, .ref q2, .ref q3, .ref q4, .ref q5, .ref q6, .ref q7, .ref q8, .ref q9, .ref q10, .null, .null, .int 0, .int 0, .int 0, .int 0, .null, .null, .null, .null, .null, .null, .int 0, .null, .int 0, .null, .null, .null, .null])), (q1, .inl (ids 0, 13, .inl (fun _ => 0))), (q2, .inl (ids 0, 13, .inl (fun _ => 0))), (q3, .inl (ids 0, 13, .inl (fun _ => 0))), (q4, .inl (ids 0, 39, .inl (fun _ => 0))), (q5, .inl (ids 0, 39, .inl (fun _ => 0))), (q6, .inl (ids 0, 546, .inl (fun _ => 0))), (q7, .inl (ids 0, 546, .inl (fun _ => 0))), (q8, .inl (ids 0, 546, .inl (fun _ => 0))), (q9, .inl (ids 0, 13, .inl (fun _ => 0))), (q10, .inl (ids 0, 65, .inl (fun _ => 0)))]) rfl xd_R_init_84 ?_
  refine aw_aload_n C 0 xd_R_init_87 rfl rfl ?_
  refine aw_bipush (v := (65 : Int32)) C xd_R_init_88 (by decide) ?_
  refine aw_newa (atype := .int) C (List.mem_cons_of_mem _ wa_int) rfl 0 rfl (a0 := (65, .inl (fun _ => 0))) (fun _ => rfl) (by decide) (N' := 65) rfl (by decide) (Nat.le_of_ble_eq_true rfl) (Nat.le_of_ble_eq_true rfl) xd_R_init_90 (fun q11 => ?_)
  refine aw_putFG C hI 0 rfl rfl (fun w h => List.mem_cons_of_mem _ (xi_R w h)) xk_R xo_R xn_R 10 (by decide) (List.mem_cons_of_mem _ fl_R_40) rfl rfl (ty := .array .int) (by decide +kernel) rfl rfl (Nat.le_of_ble_eq_true rfl) (w' := [(h, .inr (8, [.ref q1, .ref q2, .ref q3, .ref q4, .ref q5, .ref q6, .ref q7, .ref q8, .ref q9, .ref q10, .ref q11, .null, .int 0, .int 0, .int 0, .int 0, .null, .null, .null, .null, .null, .null, .int 0, .null, .int 0, .null, .null, .null, .null])), (q1, .inl (ids 0, 13, .inl (fun _ => 0))), (q2, .inl (ids 0, 13, .inl (fun _ => 0))), (q3, .inl (ids 0, 13, .inl (fun _ => 0))), (q4, .inl (ids 0, 39, .inl (fun _ => 0))), (q5, .inl (ids 0, 39, .inl (fun _ => 0))), (q6, .inl (ids 0, 546, .inl (fun _ => 0))), (q7, .inl (ids 0, 546, .inl (fun _ => 0))), (q8, .inl (ids 0, 546, .inl (fun _ => 0))), (q9, .inl (ids 0, 13, .inl (fun _ => 0))), (q10, .inl (ids 0, 65, .inl (fun _ => 0))), (q11, .inl (ids 0, 65, .inl (fun _ => 0)))]) rfl xd_R_init_92 ?_
  refine aw_aload_n C 0 xd_R_init_95 rfl rfl ?_
  refine aw_bipush (v := (18 : Int32)) C xd_R_init_96 (by decide) ?_
  refine aw_newa (atype := .int) C (List.mem_cons_of_mem _ wa_int) rfl 0 rfl (a0 := (18, .inl (fun _ => 0))) (fun _ => rfl) (by decide) (N' := 18) rfl (by decide) (Nat.le_of_ble_eq_true rfl) (Nat.le_of_ble_eq_true rfl) xd_R_init_98 (fun q12 => ?_)
  refine aw_putFG C hI 0 rfl rfl (fun w h => List.mem_cons_of_mem _ (xi_R w h)) xk_R xo_R xn_R 11 (by decide) (List.mem_cons_of_mem _ fl_R_43) rfl rfl (ty := .array .int) (by decide +kernel) rfl rfl (Nat.le_of_ble_eq_true rfl) (w' := [(h, .inr (8, [.ref q1, .ref q2, .ref q3, .ref q4, .ref q5, .ref q6, .ref q7, .ref q8, .ref q9, .ref q10, .ref q11, .ref q12, .int 0, .int 0, .int 0, .int 0, .null, .null, .null, .null, .null, .null, .int 0, .null, .int 0, .null, .null, .null, .null])), (q1, .inl (ids 0, 13, .inl (fun _ => 0))), (q2, .inl (ids 0, 13, .inl (fun _ => 0))), (q3, .inl (ids 0, 13, .inl (fun _ => 0))), (q4, .inl (ids 0, 39, .inl (fun _ => 0))), (q5, .inl (ids 0, 39, .inl (fun _ => 0))), (q6, .inl (ids 0, 546, .inl (fun _ => 0))), (q7, .inl (ids 0, 546, .inl (fun _ => 0))), (q8, .inl (ids 0, 546, .inl (fun _ => 0))), (q9, .inl (ids 0, 13, .inl (fun _ => 0))), (q10, .inl (ids 0, 65, .inl (fun _ => 0))), (q11, .inl (ids 0, 65, .inl (fun _ => 0))), (q12, .inl (ids 0, 18, .inl (fun _ => 0)))]) rfl xd_R_init_100 ?_
  refine aw_aload_n C 0 xd_R_init_103 rfl rfl ?_
  refine aw_iconst (v := (-1 : Int32)) C xd_R_init_104 (by decide) ?_
  refine aw_putG C 0 rfl rfl (fun w h => List.mem_cons_of_mem _ (xi_R w h)) xk_R xo_R xn_R 13 (by decide) (List.mem_cons_of_mem _ fl_R_46) rfl (ty := .int) (by decide +kernel) rfl rfl (Nat.le_of_ble_eq_true rfl) (w' := [(h, .inr (8, [.ref q1, .ref q2, .ref q3, .ref q4, .ref q5, .ref q6, .ref q7, .ref q8, .ref q9, .ref q10, .ref q11, .ref q12, .int 0, .int (-1), .int 0, .int 0, .null, .null, .null, .null, .null, .null, .int 0, .null, .int 0, .null, .null, .null, .null])), (q1, .inl (ids 0, 13, .inl (fun _ => 0))), (q2, .inl (ids 0, 13, .inl (fun _ => 0))), (q3, .inl (ids 0, 13, .inl (fun _ => 0))), (q4, .inl (ids 0, 39, .inl (fun _ => 0))), (q5, .inl (ids 0, 39, .inl (fun _ => 0))), (q6, .inl (ids 0, 546, .inl (fun _ => 0))), (q7, .inl (ids 0, 546, .inl (fun _ => 0))), (q8, .inl (ids 0, 546, .inl (fun _ => 0))), (q9, .inl (ids 0, 13, .inl (fun _ => 0))), (q10, .inl (ids 0, 65, .inl (fun _ => 0))), (q11, .inl (ids 0, 65, .inl (fun _ => 0))), (q12, .inl (ids 0, 18, .inl (fun _ => 0)))]) rfl xd_R_init_105 ?_
  refine aw_aload_n C 0 xd_R_init_108 rfl rfl ?_
  refine aw_bipush (v := (8 : Int32)) C xd_R_init_109 (by decide) ?_
  refine aw_newa (atype := .int) C (List.mem_cons_of_mem _ wa_int) rfl 0 rfl (a0 := (8, .inl (fun _ => 0))) (fun _ => rfl) (by decide) (N' := 8) rfl (by decide) (Nat.le_of_ble_eq_true rfl) (Nat.le_of_ble_eq_true rfl) xd_R_init_111 (fun q13 => ?_)
  refine aw_putFG C hI 0 rfl rfl (fun w h => List.mem_cons_of_mem _ (xi_R w h)) xk_R xo_R xn_R 16 (by decide) (List.mem_cons_of_mem _ fl_R_50) rfl rfl (ty := .array .int) (by decide +kernel) rfl rfl (Nat.le_of_ble_eq_true rfl) (w' := [(h, .inr (8, [.ref q1, .ref q2, .ref q3, .ref q4, .ref q5, .ref q6, .ref q7, .ref q8, .ref q9, .ref q10, .ref q11, .ref q12, .int 0, .int (-1), .int 0, .int 0, .ref q13, .null, .null, .null, .null, .null, .int 0, .null, .int 0, .null, .null, .null, .null])), (q1, .inl (ids 0, 13, .inl (fun _ => 0))), (q2, .inl (ids 0, 13, .inl (fun _ => 0))), (q3, .inl (ids 0, 13, .inl (fun _ => 0))), (q4, .inl (ids 0, 39, .inl (fun _ => 0))), (q5, .inl (ids 0, 39, .inl (fun _ => 0))), (q6, .inl (ids 0, 546, .inl (fun _ => 0))), (q7, .inl (ids 0, 546, .inl (fun _ => 0))), (q8, .inl (ids 0, 546, .inl (fun _ => 0))), (q9, .inl (ids 0, 13, .inl (fun _ => 0))), (q10, .inl (ids 0, 65, .inl (fun _ => 0))), (q11, .inl (ids 0, 65, .inl (fun _ => 0))), (q12, .inl (ids 0, 18, .inl (fun _ => 0))), (q13, .inl (ids 0, 8, .inl (fun _ => 0)))]) rfl xd_R_init_113 ?_
  refine aw_aload_n C 0 xd_R_init_116 rfl rfl ?_
  refine aw_bipush (v := (8 : Int32)) C xd_R_init_117 (by decide) ?_
  refine aw_newa (atype := .int) C (List.mem_cons_of_mem _ wa_int) rfl 0 rfl (a0 := (8, .inl (fun _ => 0))) (fun _ => rfl) (by decide) (N' := 8) rfl (by decide) (Nat.le_of_ble_eq_true rfl) (Nat.le_of_ble_eq_true rfl) xd_R_init_119 (fun q14 => ?_)
  refine aw_putFG C hI 0 rfl rfl (fun w h => List.mem_cons_of_mem _ (xi_R w h)) xk_R xo_R xn_R 17 (by decide) (List.mem_cons_of_mem _ fl_R_53) rfl rfl (ty := .array .int) (by decide +kernel) rfl rfl (Nat.le_of_ble_eq_true rfl) (w' := [(h, .inr (8, [.ref q1, .ref q2, .ref q3, .ref q4, .ref q5, .ref q6, .ref q7, .ref q8, .ref q9, .ref q10, .ref q11, .ref q12, .int 0, .int (-1), .int 0, .int 0, .ref q13, .ref q14, .null, .null, .null, .null, .int 0, .null, .int 0, .null, .null, .null, .null])), (q1, .inl (ids 0, 13, .inl (fun _ => 0))), (q2, .inl (ids 0, 13, .inl (fun _ => 0))), (q3, .inl (ids 0, 13, .inl (fun _ => 0))), (q4, .inl (ids 0, 39, .inl (fun _ => 0))), (q5, .inl (ids 0, 39, .inl (fun _ => 0))), (q6, .inl (ids 0, 546, .inl (fun _ => 0))), (q7, .inl (ids 0, 546, .inl (fun _ => 0))), (q8, .inl (ids 0, 546, .inl (fun _ => 0))), (q9, .inl (ids 0, 13, .inl (fun _ => 0))), (q10, .inl (ids 0, 65, .inl (fun _ => 0))), (q11, .inl (ids 0, 65, .inl (fun _ => 0))), (q12, .inl (ids 0, 18, .inl (fun _ => 0))), (q13, .inl (ids 0, 8, .inl (fun _ => 0))), (q14, .inl (ids 0, 8, .inl (fun _ => 0)))]) rfl xd_R_init_121 ?_
  refine aw_aload_n C 0 xd_R_init_124 rfl rfl ?_
  refine aw_bipush (v := (16 : Int32)) C xd_R_init_125 (by decide) ?_
  refine aw_newa (atype := .int) C (List.mem_cons_of_mem _ wa_int) rfl 0 rfl (a0 := (16, .inl (fun _ => 0))) (fun _ => rfl) (by decide) (N' := 16) rfl (by decide) (Nat.le_of_ble_eq_true rfl) (Nat.le_of_ble_eq_true rfl) xd_R_init_127 (fun q15 => ?_)
  refine aw_putFG C hI 0 rfl rfl (fun w h => List.mem_cons_of_mem _ (xi_R w h)) xk_R xo_R xn_R 18 (by decide) (List.mem_cons_of_mem _ fl_R_56) rfl rfl (ty := .array .int) (by decide +kernel) rfl rfl (Nat.le_of_ble_eq_true rfl) (w' := [(h, .inr (8, [.ref q1, .ref q2, .ref q3, .ref q4, .ref q5, .ref q6, .ref q7, .ref q8, .ref q9, .ref q10, .ref q11, .ref q12, .int 0, .int (-1), .int 0, .int 0, .ref q13, .ref q14, .ref q15, .null, .null, .null, .int 0, .null, .int 0, .null, .null, .null, .null])), (q1, .inl (ids 0, 13, .inl (fun _ => 0))), (q2, .inl (ids 0, 13, .inl (fun _ => 0))), (q3, .inl (ids 0, 13, .inl (fun _ => 0))), (q4, .inl (ids 0, 39, .inl (fun _ => 0))), (q5, .inl (ids 0, 39, .inl (fun _ => 0))), (q6, .inl (ids 0, 546, .inl (fun _ => 0))), (q7, .inl (ids 0, 546, .inl (fun _ => 0))), (q8, .inl (ids 0, 546, .inl (fun _ => 0))), (q9, .inl (ids 0, 13, .inl (fun _ => 0))), (q10, .inl (ids 0, 65, .inl (fun _ => 0))), (q11, .inl (ids 0, 65, .inl (fun _ => 0))), (q12, .inl (ids 0, 18, .inl (fun _ => 0))), (q13, .inl (ids 0, 8, .inl (fun _ => 0))), (q14, .inl (ids 0, 8, .inl (fun _ => 0))), (q15, .inl (ids 0, 16, .inl (fun _ => 0)))]) rfl xd_R_init_129 ?_
  refine aw_aload_n C 0 xd_R_init_132 rfl rfl ?_
  refine aw_sipush (v := (300 : Int32)) C xd_R_init_133 (by decide) ?_
  refine aw_newa (atype := .int) C (List.mem_cons_of_mem _ wa_int) rfl 0 rfl (a0 := (300, .inl (fun _ => 0))) (fun _ => rfl) (by decide) (N' := 300) rfl (by decide) (Nat.le_of_ble_eq_true rfl) (Nat.le_of_ble_eq_true rfl) xd_R_init_136 (fun q16 => ?_)
  refine aw_putFG C hI 0 rfl rfl (fun w h => List.mem_cons_of_mem _ (xi_R w h)) xk_R xo_R xn_R 19 (by decide) (List.mem_cons_of_mem _ fl_R_59) rfl rfl (ty := .array .int) (by decide +kernel) rfl rfl (Nat.le_of_ble_eq_true rfl) (w' := [(h, .inr (8, [.ref q1, .ref q2, .ref q3, .ref q4, .ref q5, .ref q6, .ref q7, .ref q8, .ref q9, .ref q10, .ref q11, .ref q12, .int 0, .int (-1), .int 0, .int 0, .ref q13, .ref q14, .ref q15, .ref q16, .null, .null, .int 0, .null, .int 0, .null, .null, .null, .null])), (q1, .inl (ids 0, 13, .inl (fun _ => 0))), (q2, .inl (ids 0, 13, .inl (fun _ => 0))), (q3, .inl (ids 0, 13, .inl (fun _ => 0))), (q4, .inl (ids 0, 39, .inl (fun _ => 0))), (q5, .inl (ids 0, 39, .inl (fun _ => 0))), (q6, .inl (ids 0, 546, .inl (fun _ => 0))), (q7, .inl (ids 0, 546, .inl (fun _ => 0))), (q8, .inl (ids 0, 546, .inl (fun _ => 0))), (q9, .inl (ids 0, 13, .inl (fun _ => 0))), (q10, .inl (ids 0, 65, .inl (fun _ => 0))), (q11, .inl (ids 0, 65, .inl (fun _ => 0))), (q12, .inl (ids 0, 18, .inl (fun _ => 0))), (q13, .inl (ids 0, 8, .inl (fun _ => 0))), (q14, .inl (ids 0, 8, .inl (fun _ => 0))), (q15, .inl (ids 0, 16, .inl (fun _ => 0))), (q16, .inl (ids 0, 300, .inl (fun _ => 0)))]) rfl xd_R_init_138 ?_
  refine aw_aload_n C 0 xd_R_init_141 rfl rfl ?_
  refine aw_sipush (v := (300 : Int32)) C xd_R_init_142 (by decide) ?_
  refine aw_newa (atype := .int) C (List.mem_cons_of_mem _ wa_int) rfl 0 rfl (a0 := (300, .inl (fun _ => 0))) (fun _ => rfl) (by decide) (N' := 300) rfl (by decide) (Nat.le_of_ble_eq_true rfl) (Nat.le_of_ble_eq_true rfl) xd_R_init_145 (fun q17 => ?_)
  refine aw_putFG C hI 0 rfl rfl (fun w h => List.mem_cons_of_mem _ (xi_R w h)) xk_R xo_R xn_R 20 (by decide) (List.mem_cons_of_mem _ fl_R_62) rfl rfl (ty := .array .int) (by decide +kernel) rfl rfl (Nat.le_of_ble_eq_true rfl) (w' := [(h, .inr (8, [.ref q1, .ref q2, .ref q3, .ref q4, .ref q5, .ref q6, .ref q7, .ref q8, .ref q9, .ref q10, .ref q11, .ref q12, .int 0, .int (-1), .int 0, .int 0, .ref q13, .ref q14, .ref q15, .ref q16, .ref q17, .null, .int 0, .null, .int 0, .null, .null, .null, .null])), (q1, .inl (ids 0, 13, .inl (fun _ => 0))), (q2, .inl (ids 0, 13, .inl (fun _ => 0))), (q3, .inl (ids 0, 13, .inl (fun _ => 0))), (q4, .inl (ids 0, 39, .inl (fun _ => 0))), (q5, .inl (ids 0, 39, .inl (fun _ => 0))), (q6, .inl (ids 0, 546, .inl (fun _ => 0))), (q7, .inl (ids 0, 546, .inl (fun _ => 0))), (q8, .inl (ids 0, 546, .inl (fun _ => 0))), (q9, .inl (ids 0, 13, .inl (fun _ => 0))), (q10, .inl (ids 0, 65, .inl (fun _ => 0))), (q11, .inl (ids 0, 65, .inl (fun _ => 0))), (q12, .inl (ids 0, 18, .inl (fun _ => 0))), (q13, .inl (ids 0, 8, .inl (fun _ => 0))), (q14, .inl (ids 0, 8, .inl (fun _ => 0))), (q15, .inl (ids 0, 16, .inl (fun _ => 0))), (q16, .inl (ids 0, 300, .inl (fun _ => 0))), (q17, .inl (ids 0, 300, .inl (fun _ => 0)))]) rfl xd_R_init_147 ?_
  refine aw_aload_n C 0 xd_R_init_150 rfl rfl ?_
  refine aw_sipush (v := (300 : Int32)) C xd_R_init_151 (by decide) ?_
  refine aw_newa (atype := .int) C (List.mem_cons_of_mem _ wa_int) rfl 0 rfl (a0 := (300, .inl (fun _ => 0))) (fun _ => rfl) (by decide) (N' := 300) rfl (by decide) (Nat.le_of_ble_eq_true rfl) (Nat.le_of_ble_eq_true rfl) xd_R_init_154 (fun q18 => ?_)
  refine aw_putFG C hI 0 rfl rfl (fun w h => List.mem_cons_of_mem _ (xi_R w h)) xk_R xo_R xn_R 21 (by decide) (List.mem_cons_of_mem _ fl_R_65) rfl rfl (ty := .array .int) (by decide +kernel) rfl rfl (Nat.le_of_ble_eq_true rfl) (w' := [(h, .inr (8, [.ref q1, .ref q2, .ref q3, .ref q4, .ref q5, .ref q6, .ref q7, .ref q8, .ref q9, .ref q10, .ref q11, .ref q12, .int 0, .int (-1), .int 0, .int 0, .ref q13, .ref q14, .ref q15, .ref q16, .ref q17, .ref q18, .int 0, .null, .int 0, .null, .null, .null, .null])), (q1, .inl (ids 0, 13, .inl (fun _ => 0))), (q2, .inl (ids 0, 13, .inl (fun _ => 0))), (q3, .inl (ids 0, 13, .inl (fun _ => 0))), (q4, .inl (ids 0, 39, .inl (fun _ => 0))), (q5, .inl (ids 0, 39, .inl (fun _ => 0))), (q6, .inl (ids 0, 546, .inl (fun _ => 0))), (q7, .inl (ids 0, 546, .inl (fun _ => 0))), (q8, .inl (ids 0, 546, .inl (fun _ => 0))), (q9, .inl (ids 0, 13, .inl (fun _ => 0))), (q10, .inl (ids 0, 65, .inl (fun _ => 0))), (q11, .inl (ids 0, 65, .inl (fun _ => 0))), (q12, .inl (ids 0, 18, .inl (fun _ => 0))), (q13, .inl (ids 0, 8, .inl (fun _ => 0))), (q14, .inl (ids 0, 8, .inl (fun _ => 0))), (q15, .inl (ids 0, 16, .inl (fun _ => 0))), (q16, .inl (ids 0, 300, .inl (fun _ => 0))), (q17, .inl (ids 0, 300, .inl (fun _ => 0))), (q18, .inl (ids 0, 300, .inl (fun _ => 0)))]) rfl xd_R_init_156 ?_
  refine aw_aload_n C 0 xd_R_init_159 rfl rfl ?_
  refine aw_sipush (v := (300 : Int32)) C xd_R_init_160 (by decide) ?_
  refine aw_newa (atype := .int) C (List.mem_cons_of_mem _ wa_int) rfl 0 rfl (a0 := (300, .inl (fun _ => 0))) (fun _ => rfl) (by decide) (N' := 300) rfl (by decide) (Nat.le_of_ble_eq_true rfl) (Nat.le_of_ble_eq_true rfl) xd_R_init_163 (fun q19 => ?_)
  refine aw_putFG C hI 0 rfl rfl (fun w h => List.mem_cons_of_mem _ (xi_R w h)) xk_R xo_R xn_R 23 (by decide) (List.mem_cons_of_mem _ fl_R_68) rfl rfl (ty := .array .int) (by decide +kernel) rfl rfl (Nat.le_of_ble_eq_true rfl) (w' := [(h, .inr (8, [.ref q1, .ref q2, .ref q3, .ref q4, .ref q5, .ref q6, .ref q7, .ref q8, .ref q9, .ref q10, .ref q11, .ref q12, .int 0, .int (-1), .int 0, .int 0, .ref q13, .ref q14, .ref q15, .ref q16, .ref q17, .ref q18, .int 0, .ref q19, .int 0, .null, .null, .null, .null])), (q1, .inl (ids 0, 13, .inl (fun _ => 0))), (q2, .inl (ids 0, 13, .inl (fun _ => 0))), (q3, .inl (ids 0, 13, .inl (fun _ => 0))), (q4, .inl (ids 0, 39, .inl (fun _ => 0))), (q5, .inl (ids 0, 39, .inl (fun _ => 0))), (q6, .inl (ids 0, 546, .inl (fun _ => 0))), (q7, .inl (ids 0, 546, .inl (fun _ => 0))), (q8, .inl (ids 0, 546, .inl (fun _ => 0))), (q9, .inl (ids 0, 13, .inl (fun _ => 0))), (q10, .inl (ids 0, 65, .inl (fun _ => 0))), (q11, .inl (ids 0, 65, .inl (fun _ => 0))), (q12, .inl (ids 0, 18, .inl (fun _ => 0))), (q13, .inl (ids 0, 8, .inl (fun _ => 0))), (q14, .inl (ids 0, 8, .inl (fun _ => 0))), (q15, .inl (ids 0, 16, .inl (fun _ => 0))), (q16, .inl (ids 0, 300, .inl (fun _ => 0))), (q17, .inl (ids 0, 300, .inl (fun _ => 0))), (q18, .inl (ids 0, 300, .inl (fun _ => 0))), (q19, .inl (ids 0, 300, .inl (fun _ => 0)))]) rfl xd_R_init_165 ?_
  refine aw_aload_n C 0 xd_R_init_168 rfl rfl ?_
  refine aw_bipush (v := (6 : Int32)) C xd_R_init_169 (by decide) ?_
  refine aw_newa (atype := .int) C (List.mem_cons_of_mem _ wa_int) rfl 0 rfl (a0 := (6, .inl (fun _ => 0))) (fun _ => rfl) (by decide) (N' := 6) rfl (by decide) (Nat.le_of_ble_eq_true rfl) (Nat.le_of_ble_eq_true rfl) xd_R_init_171 (fun q20 => ?_)
  refine aw_putFG C hI 0 rfl rfl (fun w h => List.mem_cons_of_mem _ (xi_R w h)) xk_R xo_R xn_R 25 (by decide) (List.mem_cons_of_mem _ fl_R_71) rfl rfl (ty := .array .int) (by decide +kernel) rfl rfl (Nat.le_of_ble_eq_true rfl) (w' := [(h, .inr (8, [.ref q1, .ref q2, .ref q3, .ref q4, .ref q5, .ref q6, .ref q7, .ref q8, .ref q9, .ref q10, .ref q11, .ref q12, .int 0, .int (-1), .int 0, .int 0, .ref q13, .ref q14, .ref q15, .ref q16, .ref q17, .ref q18, .int 0, .ref q19, .int 0, .ref q20, .null, .null, .null])), (q1, .inl (ids 0, 13, .inl (fun _ => 0))), (q2, .inl (ids 0, 13, .inl (fun _ => 0))), (q3, .inl (ids 0, 13, .inl (fun _ => 0))), (q4, .inl (ids 0, 39, .inl (fun _ => 0))), (q5, .inl (ids 0, 39, .inl (fun _ => 0))), (q6, .inl (ids 0, 546, .inl (fun _ => 0))), (q7, .inl (ids 0, 546, .inl (fun _ => 0))), (q8, .inl (ids 0, 546, .inl (fun _ => 0))), (q9, .inl (ids 0, 13, .inl (fun _ => 0))), (q10, .inl (ids 0, 65, .inl (fun _ => 0))), (q11, .inl (ids 0, 65, .inl (fun _ => 0))), (q12, .inl (ids 0, 18, .inl (fun _ => 0))), (q13, .inl (ids 0, 8, .inl (fun _ => 0))), (q14, .inl (ids 0, 8, .inl (fun _ => 0))), (q15, .inl (ids 0, 16, .inl (fun _ => 0))), (q16, .inl (ids 0, 300, .inl (fun _ => 0))), (q17, .inl (ids 0, 300, .inl (fun _ => 0))), (q18, .inl (ids 0, 300, .inl (fun _ => 0))), (q19, .inl (ids 0, 300, .inl (fun _ => 0))), (q20, .inl (ids 0, 6, .inl (fun _ => 0)))]) rfl xd_R_init_173 ?_
  refine aw_aload_n C 0 xd_R_init_176 rfl rfl ?_
  refine aw_bipush (v := (6 : Int32)) C xd_R_init_177 (by decide) ?_
  refine aw_newa (atype := .int) C (List.mem_cons_of_mem _ wa_int) rfl 0 rfl (a0 := (6, .inl (fun _ => 0))) (fun _ => rfl) (by decide) (N' := 6) rfl (by decide) (Nat.le_of_ble_eq_true rfl) (Nat.le_of_ble_eq_true rfl) xd_R_init_179 (fun q21 => ?_)
  refine aw_putFG C hI 0 rfl rfl (fun w h => List.mem_cons_of_mem _ (xi_R w h)) xk_R xo_R xn_R 26 (by decide) (List.mem_cons_of_mem _ fl_R_74) rfl rfl (ty := .array .int) (by decide +kernel) rfl rfl (Nat.le_of_ble_eq_true rfl) (w' := [(h, .inr (8, [.ref q1, .ref q2, .ref q3, .ref q4, .ref q5, .ref q6, .ref q7, .ref q8, .ref q9, .ref q10, .ref q11, .ref q12, .int 0, .int (-1), .int 0, .int 0, .ref q13, .ref q14, .ref q15, .ref q16, .ref q17, .ref q18, .int 0, .ref q19, .int 0, .ref q20, .ref q21, .null, .null])), (q1, .inl (ids 0, 13, .inl (fun _ => 0))), (q2, .inl (ids 0, 13, .inl (fun _ => 0))), (q3, .inl (ids 0, 13, .inl (fun _ => 0))), (q4, .inl (ids 0, 39, .inl (fun _ => 0))), (q5, .inl (ids 0, 39, .inl (fun _ => 0))), (q6, .inl (ids 0, 546, .inl (fun _ => 0))), (q7, .inl (ids 0, 546, .inl (fun _ => 0))), (q8, .inl (ids 0, 546, .inl (fun _ => 0))), (q9, .inl (ids 0, 13, .inl (fun _ => 0))), (q10, .inl (ids 0, 65, .inl (fun _ => 0))), (q11, .inl (ids 0, 65, .inl (fun _ => 0))), (q12, .inl (ids 0, 18, .inl (fun _ => 0))), (q13, .inl (ids 0, 8, .inl (fun _ => 0))), (q14, .inl (ids 0, 8, .inl (fun _ => 0))), (q15, .inl (ids 0, 16, .inl (fun _ => 0))), (q16, .inl (ids 0, 300, .inl (fun _ => 0))), (q17, .inl (ids 0, 300, .inl (fun _ => 0))), (q18, .inl (ids 0, 300, .inl (fun _ => 0))), (q19, .inl (ids 0, 300, .inl (fun _ => 0))), (q20, .inl (ids 0, 6, .inl (fun _ => 0))), (q21, .inl (ids 0, 6, .inl (fun _ => 0)))]) rfl xd_R_init_181 ?_
  refine aw_aload_n C 0 xd_R_init_184 rfl rfl ?_
  refine aw_bipush (v := (6 : Int32)) C xd_R_init_185 (by decide) ?_
  refine aw_newa (atype := .int) C (List.mem_cons_of_mem _ wa_int) rfl 0 rfl (a0 := (6, .inl (fun _ => 0))) (fun _ => rfl) (by decide) (N' := 6) rfl (by decide) (Nat.le_of_ble_eq_true rfl) (Nat.le_of_ble_eq_true rfl) xd_R_init_187 (fun q22 => ?_)
  refine aw_putFG C hI 0 rfl rfl (fun w h => List.mem_cons_of_mem _ (xi_R w h)) xk_R xo_R xn_R 27 (by decide) (List.mem_cons_of_mem _ fl_R_77) rfl rfl (ty := .array .int) (by decide +kernel) rfl rfl (Nat.le_of_ble_eq_true rfl) (w' := [(h, .inr (8, [.ref q1, .ref q2, .ref q3, .ref q4, .ref q5, .ref q6, .ref q7, .ref q8, .ref q9, .ref q10, .ref q11, .ref q12, .int 0, .int (-1), .int 0, .int 0, .ref q13, .ref q14, .ref q15, .ref q16, .ref q17, .ref q18, .int 0, .ref q19, .int 0, .ref q20, .ref q21, .ref q22, .null])), (q1, .inl (ids 0, 13, .inl (fun _ => 0))), (q2, .inl (ids 0, 13, .inl (fun _ => 0))), (q3, .inl (ids 0, 13, .inl (fun _ => 0))), (q4, .inl (ids 0, 39, .inl (fun _ => 0))), (q5, .inl (ids 0, 39, .inl (fun _ => 0))), (q6, .inl (ids 0, 546, .inl (fun _ => 0))), (q7, .inl (ids 0, 546, .inl (fun _ => 0))), (q8, .inl (ids 0, 546, .inl (fun _ => 0))), (q9, .inl (ids 0, 13, .inl (fun _ => 0))), (q10, .inl (ids 0, 65, .inl (fun _ => 0))), (q11, .inl (ids 0, 65, .inl (fun _ => 0))), (q12, .inl (ids 0, 18, .inl (fun _ => 0))), (q13, .inl (ids 0, 8, .inl (fun _ => 0))), (q14, .inl (ids 0, 8, .inl (fun _ => 0))), (q15, .inl (ids 0, 16, .inl (fun _ => 0))), (q16, .inl (ids 0, 300, .inl (fun _ => 0))), (q17, .inl (ids 0, 300, .inl (fun _ => 0))), (q18, .inl (ids 0, 300, .inl (fun _ => 0))), (q19, .inl (ids 0, 300, .inl (fun _ => 0))), (q20, .inl (ids 0, 6, .inl (fun _ => 0))), (q21, .inl (ids 0, 6, .inl (fun _ => 0))), (q22, .inl (ids 0, 6, .inl (fun _ => 0)))]) rfl xd_R_init_189 ?_
  refine aw_aload_n C 0 xd_R_init_192 rfl rfl ?_
  refine aw_bipush (v := (6 : Int32)) C xd_R_init_193 (by decide) ?_
  refine aw_newa (atype := .int) C (List.mem_cons_of_mem _ wa_int) rfl 0 rfl (a0 := (6, .inl (fun _ => 0))) (fun _ => rfl) (by decide) (N' := 6) rfl (by decide) (Nat.le_of_ble_eq_true rfl) (Nat.le_of_ble_eq_true rfl) xd_R_init_195 (fun q23 => ?_)
  refine aw_putFG C hI 0 rfl rfl (fun w h => List.mem_cons_of_mem _ (xi_R w h)) xk_R xo_R xn_R 28 (by decide) (List.mem_cons_of_mem _ fl_R_80) rfl rfl (ty := .array .int) (by decide +kernel) rfl rfl (Nat.le_of_ble_eq_true rfl) (w' := [(h, .inr (8, [.ref q1, .ref q2, .ref q3, .ref q4, .ref q5, .ref q6, .ref q7, .ref q8, .ref q9, .ref q10, .ref q11, .ref q12, .int 0, .int (-1), .int 0, .int 0, .ref q13, .ref q14, .ref q15, .ref q16, .ref q17, .ref q18, .int 0, .ref q19, .int 0, .ref q20, .ref q21, .ref q22, .ref q23])), (q1, .inl (ids 0, 13, .inl (fun _ => 0))), (q2, .inl (ids 0, 13, .inl (fun _ => 0))), (q3, .inl (ids 0, 13, .inl (fun _ => 0))), (q4, .inl (ids 0, 39, .inl (fun _ => 0))), (q5, .inl (ids 0, 39, .inl (fun _ => 0))), (q6, .inl (ids 0, 546, .inl (fun _ => 0))), (q7, .inl (ids 0, 546, .inl (fun _ => 0))), (q8, .inl (ids 0, 546, .inl (fun _ => 0))), (q9, .inl (ids 0, 13, .inl (fun _ => 0))), (q10, .inl (ids 0, 65, .inl (fun _ => 0))), (q11, .inl (ids 0, 65, .inl (fun _ => 0))), (q12, .inl (ids 0, 18, .inl (fun _ => 0))), (q13, .inl (ids 0, 8, .inl (fun _ => 0))), (q14, .inl (ids 0, 8, .inl (fun _ => 0))), (q15, .inl (ids 0, 16, .inl (fun _ => 0))), (q16, .inl (ids 0, 300, .inl (fun _ => 0))), (q17, .inl (ids 0, 300, .inl (fun _ => 0))), (q18, .inl (ids 0, 300, .inl (fun _ => 0))), (q19, .inl (ids 0, 300, .inl (fun _ => 0))), (q20, .inl (ids 0, 6, .inl (fun _ => 0))), (q21, .inl (ids 0, 6, .inl (fun _ => 0))), (q22, .inl (ids 0, 6, .inl (fun _ => 0))), (q23, .inl (ids 0, 6, .inl (fun _ => 0)))]) rfl xd_R_init_197 ?_
  exact aw_vretN C (fun k => [h, q1, q2, q3, q4, q5, q6, q7, q8, q9, q10, q11, q12, q13, q14, q15, q16, q17, q18, q19, q20, q21, q22, q23].getD k 0) rfl rfl xd_R_init_200
end
