/-! What the walks of both sides share -/
def aw_in (i : Int32) (n : Nat) : Bool := decide (¬ (i < 0 ∨ n ≤ i.toNatClampNeg))
theorem aw_in_ok {i : Int32} {n : Nat} (h : aw_in i n = true) : vp_in i n := by
  unfold aw_in at h
  exact (of_decide_eq_true h : ¬ (i < 0 ∨ n ≤ i.toNatClampNeg))
theorem aw_in_lt {i : Int32} {n : Nat} (h : aw_in i n = true) : i.toNatClampNeg < n := Nat.not_le.mp fun q => (aw_in_ok h) (Or.inr q)
theorem aw_bnd {α β : Type} {x : Option α} {f : α → Option β} {q : β} (h : x.bind f = some q) : ∃ a, x = some a ∧ f a = some q := by
  cases x with
  | none => cases h
  | some a => exact ⟨a, rfl, h⟩
theorem aw_grd {α : Type} {c : Prop} {d : Decidable c} {x : Option α} {q : α} (h : @ite _ c d x none = some q) : c ∧ x = some q := by
  by_cases hc : c
  · rw [if_pos hc] at h; exact ⟨hc, h⟩
  · rw [if_neg hc] at h; cases h
/-- a memory gets a name -/
def aw_l {α : Type} (s : aw_m) (f : aw_m → α) : α := f s
theorem aw_let {α : Type} {s : aw_m} {f : aw_m → α} {q : α} (h : aw_l s f = q) : ∃ t, t = s ∧ f t = q := ⟨s, rfl, h⟩
def aw_p (σ : aw_m) (k i : Nat) (v : Int32) : aw_m := aw_s σ k (upd (σ k) i v)
def aw_c (σ : aw_m) (k0 k1 : Nat) (sp dp n : Nat) : aw_m := aw_s σ k1 (va_cpy (σ k0) (σ k1) sp dp n)
def rm_D (d : Nat) : Room := { frames := d, cells := 0, slots := 0, locals := 40 * d }
theorem rm_lt {a b m : Nat} (h : a < b) (hm : m ≤ 21) : aw_rm (rm_D a) (rm_D b) m := ⟨rfl, rfl, h, by show 8 + (m + 11) + 40 * a ≤ 40 * b; omega⟩
/-- the static array PARTS, and the words of the nest -/
def zp_parts : Nat → Int32 := fun k => ([0, 0, 0, 1, 2, 2, 2, 2, 2, 3, 2, 0] : List Int32).getD k 0
def zs_N : List Cond := [.methodLinkNest "ModuleShelf" 9 ⟨"ModuleShelf$Code", "<init>", "()V"⟩ "ModuleShelf", .methodLinkNest "ModuleShelf$Image" 11 ⟨"ModuleShelf$Unit", "<init>", "()V"⟩ "ModuleShelf", .methodLinkNest "ModuleShelf$Library" 17 ⟨"ModuleShelf$Unit", "<init>", "()V"⟩ "ModuleShelf", .methodLinkNest "ModuleShelf$Library" 18 ⟨"ModuleShelf", "isModule", "(I)Z"⟩ "ModuleShelf", .methodLinkNest "ModuleShelf$Machine" 17 ⟨"ModuleShelf$Frame", "<init>", "()V"⟩ "ModuleShelf", .methodLinkNest "ModuleShelf$Memory" 21 ⟨"ModuleShelf$Image", "<init>", "()V"⟩ "ModuleShelf", .methodLinkNest "ModuleShelf$Memory" 22 ⟨"ModuleShelf", "isModule", "(I)Z"⟩ "ModuleShelf", .methodLinkNest "ModuleShelf$Unit" 20 ⟨"ModuleShelf$Code", "<init>", "()V"⟩ "ModuleShelf", .fieldLinkNest "ModuleShelf$Library" 80 "ModuleShelf" "PARTS" "[I" "ModuleShelf", .fieldLinkNest "ModuleShelf$Machine" 117 "ModuleShelf" "PARTS" "[I" "ModuleShelf", .arrayOver (.object "ModuleShelf$Unit"), .arrayOver (.object "ModuleShelf$Image"), .arrayOver (.object "ModuleShelf$Frame")]
def zs_T (ps : Nat) : aw_T := ([(("ModuleShelf", "PARTS"), ps, 12, zp_parts)], zs_N)
def ty_z (ids : Nat → ClassId) : List (ClassId × FieldType) := [(ids 0, .int), (ids 1, .boolean), (ids 2, .object "ModuleShelf$Unit"), (ids 3, .object "ModuleShelf$Image"), (ids 4, .object "ModuleShelf$Frame")]
/-! The class: its 140 cells in the order of their making. Kinds: 15 the shelf, 1 Code, 2 int[3], 3 int[42], 4 Library, 5 its units, 6 Unit, 7 int[6], 8 Memory, 9 its images, 10 boolean[6], 11 Image, 12 Machine, 13 its frames, 14 Frame -/
def kd_u (k : Nat) : Nat := if k = 0 then 6 else if k ≤ 2 then 7 else if k = 3 then 1 else if k ≤ 5 then 2 else 3
def kd_k (k : Nat) : Nat :=
  if k = 0 then 15
  else if k < 7 then (if k = 1 then 1 else if k ≤ 3 then 2 else 3)
  else if k = 7 then 4 else if k = 8 then 5
  else if k < 63 then kd_u ((k - 9) % 9)
  else if k = 63 then 8 else if k = 64 then 9 else if k = 65 then 10
  else if k < 132 then (if (k - 66) % 11 = 0 then 11 else if (k - 66) % 11 = 10 then 2 else kd_u ((k - 66) % 11 - 1))
  else if k = 132 then 12 else if k = 133 then 13
  else if k < 140 then 14 else 0
def ly_k (ad : Nat → Nat) (ids : Nat → ClassId) (k : Nat) (f : Nat → Int32) : va_E := match kd_k k with
  | 1 => .inr (0, [.int (f 0), .int (f 1), .ref (ad (k + 1)), .ref (ad (k + 2)), .ref (ad (k + 3)), .ref (ad (k + 4)), .ref (ad (k + 5))])
  | 2 => .inl (ids 0, 3, .inl f)
  | 3 => .inl (ids 0, 42, .inl f)
  | 4 => .inr (3, [.ref (ad (k + 1)), .int (f 1), .int (f 2)])
  | 5 => .inl (ids 2, 6, .inr (.inr (.inr (.inr (fun i => if i < 6 then some (ad (k + 1 + 9 * i)) else none)))))
  | 6 => .inr (6, [.int (f 0), .int (f 1), .int (f 2), .ref (ad (k + 1)), .ref (ad (k + 2)), .ref (ad (k + 3))])
  | 7 => .inl (ids 0, 6, .inl f)
  | 8 => .inr (5, [.ref (ad (k + 1)), .ref (ad (k + 2))])
  | 9 => .inl (ids 3, 6, .inr (.inr (.inr (.inr (fun i => if i < 6 then some (ad (k + 2 + 11 * i)) else none)))))
  | 10 => .inl (ids 1, 6, .inl f)
  | 11 => .inr (2, [.ref (ad (k + 1)), .ref (ad (k + 10))])
  | 12 => .inr (4, [.ref (ad (k + 1)), .int (f 1), .int (f 2)])
  | 13 => .inl (ids 4, 6, .inr (.inr (.inr (.inr (fun i => if i < 6 then some (ad (k + 1 + i)) else none)))))
  | 14 => .inr (1, [.int (f 0), .int (f 1), .int (f 2), .int (f 3), .int (f 4)])
  | 15 => .inr (7, [.ref (ad 1), .ref (ad 7), .ref (ad 63), .ref (ad 132), .int (f 4), .int (f 5)])
  | _ => .inr (9, [])
abbrev cw_w (ad : Nat → Nat) (ids : Nat → ClassId) (σ : aw_m) : va_W := aw_w 140 ad (ly_k ad ids) σ
theorem kd_lt {k c : Nat} (h : kd_k k = c + 1) : k < 140 := by
  rcases Nat.lt_or_ge k 140 with q | q
  · exact q
  · exfalso
    unfold kd_k at h
    rw [if_neg (by omega), if_neg (by omega), if_neg (by omega), if_neg (by omega), if_neg (by omega), if_neg (by omega), if_neg (by omega), if_neg (by omega), if_neg (by omega), if_neg (by omega), if_neg (by omega), if_neg (by omega)] at h
    cases h
theorem kf_C_arguments {k : Nat} (h : kd_k k = 1) : kd_k (k + 1) = 2 := (by decide +kernel : ∀ k, k < 140 → kd_k k = 1 → kd_k (k + 1) = 2) k (kd_lt h) h
theorem kf_C_lengths {k : Nat} (h : kd_k k = 1) : kd_k (k + 2) = 2 := (by decide +kernel : ∀ k, k < 140 → kd_k k = 1 → kd_k (k + 2) = 2) k (kd_lt h) h
theorem kf_C_ops {k : Nat} (h : kd_k k = 1) : kd_k (k + 3) = 3 := (by decide +kernel : ∀ k, k < 140 → kd_k k = 1 → kd_k (k + 3) = 3) k (kd_lt h) h
theorem kf_C_as {k : Nat} (h : kd_k k = 1) : kd_k (k + 4) = 3 := (by decide +kernel : ∀ k, k < 140 → kd_k k = 1 → kd_k (k + 4) = 3) k (kd_lt h) h
theorem kf_C_bs {k : Nat} (h : kd_k k = 1) : kd_k (k + 5) = 3 := (by decide +kernel : ∀ k, k < 140 → kd_k k = 1 → kd_k (k + 5) = 3) k (kd_lt h) h
theorem kf_L_units {k : Nat} (h : kd_k k = 4) : kd_k (k + 1) = 5 := (by decide +kernel : ∀ k, k < 140 → kd_k k = 4 → kd_k (k + 1) = 5) k (kd_lt h) h
theorem kf_U_importModules {k : Nat} (h : kd_k k = 6) : kd_k (k + 1) = 7 := (by decide +kernel : ∀ k, k < 140 → kd_k k = 6 → kd_k (k + 1) = 7) k (kd_lt h) h
theorem kf_U_importKeys {k : Nat} (h : kd_k k = 6) : kd_k (k + 2) = 7 := (by decide +kernel : ∀ k, k < 140 → kd_k k = 6 → kd_k (k + 2) = 7) k (kd_lt h) h
theorem kf_U_code {k : Nat} (h : kd_k k = 6) : kd_k (k + 3) = 1 := (by decide +kernel : ∀ k, k < 140 → kd_k k = 6 → kd_k (k + 3) = 1) k (kd_lt h) h
theorem kf_M_images {k : Nat} (h : kd_k k = 8) : kd_k (k + 1) = 9 := (by decide +kernel : ∀ k, k < 140 → kd_k k = 8 → kd_k (k + 1) = 9) k (kd_lt h) h
theorem kf_M_begun {k : Nat} (h : kd_k k = 8) : kd_k (k + 2) = 10 := (by decide +kernel : ∀ k, k < 140 → kd_k k = 8 → kd_k (k + 2) = 10) k (kd_lt h) h
theorem kf_I_unit {k : Nat} (h : kd_k k = 11) : kd_k (k + 1) = 6 := (by decide +kernel : ∀ k, k < 140 → kd_k k = 11 → kd_k (k + 1) = 6) k (kd_lt h) h
theorem kf_I_values {k : Nat} (h : kd_k k = 11) : kd_k (k + 10) = 2 := (by decide +kernel : ∀ k, k < 140 → kd_k k = 11 → kd_k (k + 10) = 2) k (kd_lt h) h
theorem kf_N_frames {k : Nat} (h : kd_k k = 12) : kd_k (k + 1) = 13 := (by decide +kernel : ∀ k, k < 140 → kd_k k = 12 → kd_k (k + 1) = 13) k (kd_lt h) h
theorem kf_S_draft {k : Nat} (h : kd_k k = 15) : kd_k (1) = 1 := (by decide +kernel : ∀ k, k < 140 → kd_k k = 15 → kd_k (1) = 1) k (kd_lt h) h
theorem kf_S_library {k : Nat} (h : kd_k k = 15) : kd_k (7) = 4 := (by decide +kernel : ∀ k, k < 140 → kd_k k = 15 → kd_k (7) = 4) k (kd_lt h) h
theorem kf_S_memory {k : Nat} (h : kd_k k = 15) : kd_k (63) = 8 := (by decide +kernel : ∀ k, k < 140 → kd_k k = 15 → kd_k (63) = 8) k (kd_lt h) h
theorem kf_S_machine {k : Nat} (h : kd_k k = 15) : kd_k (132) = 12 := (by decide +kernel : ∀ k, k < 140 → kd_k k = 15 → kd_k (132) = 12) k (kd_lt h) h
theorem ka_U6 {k i : Nat} (h : kd_k k = 5) (hi : i < 6) : kd_k (k + 1 + 9 * i) = 6 := (by decide +kernel : ∀ k, k < 140 → kd_k k = 5 → ∀ i, i < 6 → kd_k (k + 1 + 9 * i) = 6) k (kd_lt h) h i hi
theorem ka_I6 {k i : Nat} (h : kd_k k = 9) (hi : i < 6) : kd_k (k + 2 + 11 * i) = 11 := (by decide +kernel : ∀ k, k < 140 → kd_k k = 9 → ∀ i, i < 6 → kd_k (k + 2 + 11 * i) = 11) k (kd_lt h) h i hi
theorem ka_F6 {k i : Nat} (h : kd_k k = 13) (hi : i < 6) : kd_k (k + 1 + i) = 14 := (by decide +kernel : ∀ k, k < 140 → kd_k k = 13 → ∀ i, i < 6 → kd_k (k + 1 + i) = 14) k (kd_lt h) h i hi
theorem ly_C {ad : Nat → Nat} {ids : Nat → ClassId} {k : Nat} {f : Nat → Int32} (h : kd_k k = 1) : ly_k ad ids k f = .inr (0, [.int (f 0), .int (f 1), .ref (ad (k + 1)), .ref (ad (k + 2)), .ref (ad (k + 3)), .ref (ad (k + 4)), .ref (ad (k + 5))]) := by unfold ly_k; rw [h]; rfl
theorem at_C {ad : Nat → Nat} {ids : Nat → ClassId} {k : Nat} {σ : aw_m} (h : kd_k k = 1) : (cw_w ad ids σ)[k]? = some (ad k, .inr (0, [.int (σ k 0), .int (σ k 1), .ref (ad (k + 1)), .ref (ad (k + 2)), .ref (ad (k + 3)), .ref (ad (k + 4)), .ref (ad (k + 5))])) := by rw [aw_w_at (kd_lt h), ly_C h]
theorem ly_A3 {ad : Nat → Nat} {ids : Nat → ClassId} {k : Nat} {f : Nat → Int32} (h : kd_k k = 2) : ly_k ad ids k f = .inl (ids 0, 3, .inl f) := by unfold ly_k; rw [h]; rfl
theorem at_A3 {ad : Nat → Nat} {ids : Nat → ClassId} {k : Nat} {σ : aw_m} (h : kd_k k = 2) : (cw_w ad ids σ)[k]? = some (ad k, .inl (ids 0, 3, .inl (σ k))) := by rw [aw_w_at (kd_lt h), ly_A3 h]
theorem ly_A42 {ad : Nat → Nat} {ids : Nat → ClassId} {k : Nat} {f : Nat → Int32} (h : kd_k k = 3) : ly_k ad ids k f = .inl (ids 0, 42, .inl f) := by unfold ly_k; rw [h]; rfl
theorem at_A42 {ad : Nat → Nat} {ids : Nat → ClassId} {k : Nat} {σ : aw_m} (h : kd_k k = 3) : (cw_w ad ids σ)[k]? = some (ad k, .inl (ids 0, 42, .inl (σ k))) := by rw [aw_w_at (kd_lt h), ly_A42 h]
theorem ly_L {ad : Nat → Nat} {ids : Nat → ClassId} {k : Nat} {f : Nat → Int32} (h : kd_k k = 4) : ly_k ad ids k f = .inr (3, [.ref (ad (k + 1)), .int (f 1), .int (f 2)]) := by unfold ly_k; rw [h]; rfl
theorem at_L {ad : Nat → Nat} {ids : Nat → ClassId} {k : Nat} {σ : aw_m} (h : kd_k k = 4) : (cw_w ad ids σ)[k]? = some (ad k, .inr (3, [.ref (ad (k + 1)), .int (σ k 1), .int (σ k 2)])) := by rw [aw_w_at (kd_lt h), ly_L h]
theorem ly_U6 {ad : Nat → Nat} {ids : Nat → ClassId} {k : Nat} {f : Nat → Int32} (h : kd_k k = 5) : ly_k ad ids k f = .inl (ids 2, 6, .inr (.inr (.inr (.inr (fun i => if i < 6 then some (ad (k + 1 + 9 * i)) else none))))) := by unfold ly_k; rw [h]; rfl
theorem at_U6 {ad : Nat → Nat} {ids : Nat → ClassId} {k : Nat} {σ : aw_m} (h : kd_k k = 5) : (cw_w ad ids σ)[k]? = some (ad k, .inl (ids 2, 6, .inr (.inr (.inr (.inr (fun i => if i < 6 then some (ad (k + 1 + 9 * i)) else none)))))) := by rw [aw_w_at (kd_lt h), ly_U6 h]
theorem ly_U {ad : Nat → Nat} {ids : Nat → ClassId} {k : Nat} {f : Nat → Int32} (h : kd_k k = 6) : ly_k ad ids k f = .inr (6, [.int (f 0), .int (f 1), .int (f 2), .ref (ad (k + 1)), .ref (ad (k + 2)), .ref (ad (k + 3))]) := by unfold ly_k; rw [h]; rfl
theorem at_U {ad : Nat → Nat} {ids : Nat → ClassId} {k : Nat} {σ : aw_m} (h : kd_k k = 6) : (cw_w ad ids σ)[k]? = some (ad k, .inr (6, [.int (σ k 0), .int (σ k 1), .int (σ k 2), .ref (ad (k + 1)), .ref (ad (k + 2)), .ref (ad (k + 3))])) := by rw [aw_w_at (kd_lt h), ly_U h]
theorem ly_A6 {ad : Nat → Nat} {ids : Nat → ClassId} {k : Nat} {f : Nat → Int32} (h : kd_k k = 7) : ly_k ad ids k f = .inl (ids 0, 6, .inl f) := by unfold ly_k; rw [h]; rfl
theorem at_A6 {ad : Nat → Nat} {ids : Nat → ClassId} {k : Nat} {σ : aw_m} (h : kd_k k = 7) : (cw_w ad ids σ)[k]? = some (ad k, .inl (ids 0, 6, .inl (σ k))) := by rw [aw_w_at (kd_lt h), ly_A6 h]
theorem ly_M {ad : Nat → Nat} {ids : Nat → ClassId} {k : Nat} {f : Nat → Int32} (h : kd_k k = 8) : ly_k ad ids k f = .inr (5, [.ref (ad (k + 1)), .ref (ad (k + 2))]) := by unfold ly_k; rw [h]; rfl
theorem at_M {ad : Nat → Nat} {ids : Nat → ClassId} {k : Nat} {σ : aw_m} (h : kd_k k = 8) : (cw_w ad ids σ)[k]? = some (ad k, .inr (5, [.ref (ad (k + 1)), .ref (ad (k + 2))])) := by rw [aw_w_at (kd_lt h), ly_M h]
theorem ly_I6 {ad : Nat → Nat} {ids : Nat → ClassId} {k : Nat} {f : Nat → Int32} (h : kd_k k = 9) : ly_k ad ids k f = .inl (ids 3, 6, .inr (.inr (.inr (.inr (fun i => if i < 6 then some (ad (k + 2 + 11 * i)) else none))))) := by unfold ly_k; rw [h]; rfl
theorem at_I6 {ad : Nat → Nat} {ids : Nat → ClassId} {k : Nat} {σ : aw_m} (h : kd_k k = 9) : (cw_w ad ids σ)[k]? = some (ad k, .inl (ids 3, 6, .inr (.inr (.inr (.inr (fun i => if i < 6 then some (ad (k + 2 + 11 * i)) else none)))))) := by rw [aw_w_at (kd_lt h), ly_I6 h]
theorem ly_Z6 {ad : Nat → Nat} {ids : Nat → ClassId} {k : Nat} {f : Nat → Int32} (h : kd_k k = 10) : ly_k ad ids k f = .inl (ids 1, 6, .inl f) := by unfold ly_k; rw [h]; rfl
theorem at_Z6 {ad : Nat → Nat} {ids : Nat → ClassId} {k : Nat} {σ : aw_m} (h : kd_k k = 10) : (cw_w ad ids σ)[k]? = some (ad k, .inl (ids 1, 6, .inl (σ k))) := by rw [aw_w_at (kd_lt h), ly_Z6 h]
theorem ly_I {ad : Nat → Nat} {ids : Nat → ClassId} {k : Nat} {f : Nat → Int32} (h : kd_k k = 11) : ly_k ad ids k f = .inr (2, [.ref (ad (k + 1)), .ref (ad (k + 10))]) := by unfold ly_k; rw [h]; rfl
theorem at_I {ad : Nat → Nat} {ids : Nat → ClassId} {k : Nat} {σ : aw_m} (h : kd_k k = 11) : (cw_w ad ids σ)[k]? = some (ad k, .inr (2, [.ref (ad (k + 1)), .ref (ad (k + 10))])) := by rw [aw_w_at (kd_lt h), ly_I h]
theorem ly_N {ad : Nat → Nat} {ids : Nat → ClassId} {k : Nat} {f : Nat → Int32} (h : kd_k k = 12) : ly_k ad ids k f = .inr (4, [.ref (ad (k + 1)), .int (f 1), .int (f 2)]) := by unfold ly_k; rw [h]; rfl
theorem at_N {ad : Nat → Nat} {ids : Nat → ClassId} {k : Nat} {σ : aw_m} (h : kd_k k = 12) : (cw_w ad ids σ)[k]? = some (ad k, .inr (4, [.ref (ad (k + 1)), .int (σ k 1), .int (σ k 2)])) := by rw [aw_w_at (kd_lt h), ly_N h]
theorem ly_F6 {ad : Nat → Nat} {ids : Nat → ClassId} {k : Nat} {f : Nat → Int32} (h : kd_k k = 13) : ly_k ad ids k f = .inl (ids 4, 6, .inr (.inr (.inr (.inr (fun i => if i < 6 then some (ad (k + 1 + i)) else none))))) := by unfold ly_k; rw [h]; rfl
theorem at_F6 {ad : Nat → Nat} {ids : Nat → ClassId} {k : Nat} {σ : aw_m} (h : kd_k k = 13) : (cw_w ad ids σ)[k]? = some (ad k, .inl (ids 4, 6, .inr (.inr (.inr (.inr (fun i => if i < 6 then some (ad (k + 1 + i)) else none)))))) := by rw [aw_w_at (kd_lt h), ly_F6 h]
theorem ly_F {ad : Nat → Nat} {ids : Nat → ClassId} {k : Nat} {f : Nat → Int32} (h : kd_k k = 14) : ly_k ad ids k f = .inr (1, [.int (f 0), .int (f 1), .int (f 2), .int (f 3), .int (f 4)]) := by unfold ly_k; rw [h]; rfl
theorem at_F {ad : Nat → Nat} {ids : Nat → ClassId} {k : Nat} {σ : aw_m} (h : kd_k k = 14) : (cw_w ad ids σ)[k]? = some (ad k, .inr (1, [.int (σ k 0), .int (σ k 1), .int (σ k 2), .int (σ k 3), .int (σ k 4)])) := by rw [aw_w_at (kd_lt h), ly_F h]
theorem ly_S {ad : Nat → Nat} {ids : Nat → ClassId} {k : Nat} {f : Nat → Int32} (h : kd_k k = 15) : ly_k ad ids k f = .inr (7, [.ref (ad 1), .ref (ad 7), .ref (ad 63), .ref (ad 132), .int (f 4), .int (f 5)]) := by unfold ly_k; rw [h]; rfl
theorem at_S {ad : Nat → Nat} {ids : Nat → ClassId} {k : Nat} {σ : aw_m} (h : kd_k k = 15) : (cw_w ad ids σ)[k]? = some (ad k, .inr (7, [.ref (ad 1), .ref (ad 7), .ref (ad 63), .ref (ad 132), .int (σ k 4), .int (σ k 5)])) := by rw [aw_w_at (kd_lt h), ly_S h]
/-! The reference: its object is cell 0, its arrays cells 1 to 23 in the order of their making: 1 key[13], 2 variables[13], 3 procedures[13], 4 arguments[39], 5 size[39], 6 op[546], 7 a[546], 8 b[546], 9 imports[13], 10 importOf[65], 11 importKey[65], 12 value[18], 13 loading[8], 14 next[8], 15 left[16], 16 task[300], 17 where[300], 18 frame[300], 19 values[300], 20 frameModule[6], 21 frameProcedure[6], 22 frameX[6], 23 frameY[6] -/
def rn_l : List Nat := [0, 13, 13, 13, 39, 39, 546, 546, 546, 13, 65, 65, 18, 8, 8, 16, 300, 300, 300, 300, 6, 6, 6, 6]
def lz_k (ad : Nat → Nat) (ids : Nat → ClassId) (k : Nat) (f : Nat → Int32) : va_E := match k with
  | 0 => .inr (8, [.ref (ad 1), .ref (ad 2), .ref (ad 3), .ref (ad 4), .ref (ad 5), .ref (ad 6), .ref (ad 7), .ref (ad 8), .ref (ad 9), .ref (ad 10), .ref (ad 11), .ref (ad 12), .int (f 12), .int (f 13), .int (f 14), .int (f 15), .ref (ad 13), .ref (ad 14), .ref (ad 15), .ref (ad 16), .ref (ad 17), .ref (ad 18), .int (f 22), .ref (ad 19), .int (f 24), .ref (ad 20), .ref (ad 21), .ref (ad 22), .ref (ad 23)])
  | k + 1 => .inl (ids 0, rn_l.getD (k + 1) 0, .inl f)
abbrev rw_w (ad : Nat → Nat) (ids : Nat → ClassId) (σ : aw_m) : va_W := aw_w 24 ad (lz_k ad ids) σ
theorem at_R {ad : Nat → Nat} {ids : Nat → ClassId} {σ : aw_m} : (rw_w ad ids σ)[0]? = some (ad 0, .inr (8, [.ref (ad 1), .ref (ad 2), .ref (ad 3), .ref (ad 4), .ref (ad 5), .ref (ad 6), .ref (ad 7), .ref (ad 8), .ref (ad 9), .ref (ad 10), .ref (ad 11), .ref (ad 12), .int (σ 0 12), .int (σ 0 13), .int (σ 0 14), .int (σ 0 15), .ref (ad 13), .ref (ad 14), .ref (ad 15), .ref (ad 16), .ref (ad 17), .ref (ad 18), .int (σ 0 22), .ref (ad 19), .int (σ 0 24), .ref (ad 20), .ref (ad 21), .ref (ad 22), .ref (ad 23)])) := rfl
set_option maxRecDepth 20000 in
theorem fl_C_27 : Cond.fieldLink "ModuleShelf$Code" 27 "ModuleShelf$Code" "variables" "I" ∈ gw_l := gw_of 58 (by rfl) rfl
set_option maxRecDepth 20000 in
theorem fl_C_31 : Cond.fieldLink "ModuleShelf$Code" 31 "ModuleShelf$Code" "procedures" "I" ∈ gw_l := gw_of 59 (by rfl) rfl
set_option maxRecDepth 20000 in
theorem fl_L_29 : Cond.fieldLink "ModuleShelf$Library" 29 "ModuleShelf$Code" "procedures" "I" ∈ gw_l := gw_of 60 (by rfl) rfl
set_option maxRecDepth 20000 in
theorem fl_S_128 : Cond.fieldLink "ModuleShelf" 128 "ModuleShelf$Code" "procedures" "I" ∈ gw_l := gw_of 61 (by rfl) rfl
set_option maxRecDepth 20000 in
theorem fl_C_9 : Cond.fieldLink "ModuleShelf$Code" 9 "ModuleShelf$Code" "arguments" "[I" ∈ gw_l := gw_of 62 (by rfl) rfl
set_option maxRecDepth 20000 in
theorem fl_C_15 : Cond.fieldLink "ModuleShelf$Code" 15 "ModuleShelf$Code" "lengths" "[I" ∈ gw_l := gw_of 63 (by rfl) rfl
set_option maxRecDepth 20000 in
theorem fl_C_18 : Cond.fieldLink "ModuleShelf$Code" 18 "ModuleShelf$Code" "ops" "[I" ∈ gw_l := gw_of 64 (by rfl) rfl
set_option maxRecDepth 20000 in
theorem fl_N_80 : Cond.fieldLink "ModuleShelf$Machine" 80 "ModuleShelf$Code" "ops" "[I" ∈ gw_l := gw_of 65 (by rfl) rfl
set_option maxRecDepth 20000 in
theorem fl_L_64 : Cond.fieldLink "ModuleShelf$Library" 64 "ModuleShelf$Code" "ops" "[I" ∈ gw_l := gw_of 66 (by rfl) rfl
set_option maxRecDepth 20000 in
theorem fl_C_21 : Cond.fieldLink "ModuleShelf$Code" 21 "ModuleShelf$Code" "as" "[I" ∈ gw_l := gw_of 67 (by rfl) rfl
set_option maxRecDepth 20000 in
theorem fl_N_73 : Cond.fieldLink "ModuleShelf$Machine" 73 "ModuleShelf$Code" "as" "[I" ∈ gw_l := gw_of 68 (by rfl) rfl
set_option maxRecDepth 20000 in
theorem fl_L_57 : Cond.fieldLink "ModuleShelf$Library" 57 "ModuleShelf$Code" "as" "[I" ∈ gw_l := gw_of 69 (by rfl) rfl
set_option maxRecDepth 20000 in
theorem fl_C_24 : Cond.fieldLink "ModuleShelf$Code" 24 "ModuleShelf$Code" "bs" "[I" ∈ gw_l := gw_of 70 (by rfl) rfl
set_option maxRecDepth 20000 in
theorem fl_N_77 : Cond.fieldLink "ModuleShelf$Machine" 77 "ModuleShelf$Code" "bs" "[I" ∈ gw_l := gw_of 71 (by rfl) rfl
set_option maxRecDepth 20000 in
theorem fl_L_61 : Cond.fieldLink "ModuleShelf$Library" 61 "ModuleShelf$Code" "bs" "[I" ∈ gw_l := gw_of 72 (by rfl) rfl
set_option maxRecDepth 20000 in
theorem fl_L_22 : Cond.fieldLink "ModuleShelf$Library" 22 "ModuleShelf$Unit" "present" "Z" ∈ gw_l := gw_of 104 (by rfl) rfl
set_option maxRecDepth 20000 in
theorem fl_M_30 : Cond.fieldLink "ModuleShelf$Memory" 30 "ModuleShelf$Unit" "present" "Z" ∈ gw_l := gw_of 105 (by rfl) rfl
set_option maxRecDepth 20000 in
theorem fl_U_33 : Cond.fieldLink "ModuleShelf$Unit" 33 "ModuleShelf$Unit" "present" "Z" ∈ gw_l := gw_of 106 (by rfl) rfl
set_option maxRecDepth 20000 in
theorem fl_S_74 : Cond.fieldLink "ModuleShelf" 74 "ModuleShelf$Unit" "present" "Z" ∈ gw_l := gw_of 107 (by rfl) rfl
set_option maxRecDepth 20000 in
theorem fl_U_37 : Cond.fieldLink "ModuleShelf$Unit" 37 "ModuleShelf$Unit" "key" "I" ∈ gw_l := gw_of 108 (by rfl) rfl
set_option maxRecDepth 20000 in
theorem fl_L_90 : Cond.fieldLink "ModuleShelf$Library" 90 "ModuleShelf$Unit" "key" "I" ∈ gw_l := gw_of 109 (by rfl) rfl
set_option maxRecDepth 20000 in
theorem fl_M_87 : Cond.fieldLink "ModuleShelf$Memory" 87 "ModuleShelf$Unit" "key" "I" ∈ gw_l := gw_of 110 (by rfl) rfl
set_option maxRecDepth 20000 in
theorem fl_S_115 : Cond.fieldLink "ModuleShelf" 115 "ModuleShelf$Unit" "key" "I" ∈ gw_l := gw_of 111 (by rfl) rfl
set_option maxRecDepth 20000 in
theorem fl_U_25 : Cond.fieldLink "ModuleShelf$Unit" 25 "ModuleShelf$Unit" "imports" "I" ∈ gw_l := gw_of 112 (by rfl) rfl
set_option maxRecDepth 20000 in
theorem fl_L_101 : Cond.fieldLink "ModuleShelf$Library" 101 "ModuleShelf$Unit" "imports" "I" ∈ gw_l := gw_of 113 (by rfl) rfl
set_option maxRecDepth 20000 in
theorem fl_M_80 : Cond.fieldLink "ModuleShelf$Memory" 80 "ModuleShelf$Unit" "imports" "I" ∈ gw_l := gw_of 114 (by rfl) rfl
set_option maxRecDepth 20000 in
theorem fl_S_118 : Cond.fieldLink "ModuleShelf" 118 "ModuleShelf$Unit" "imports" "I" ∈ gw_l := gw_of 115 (by rfl) rfl
set_option maxRecDepth 20000 in
theorem fl_U_9 : Cond.fieldLink "ModuleShelf$Unit" 9 "ModuleShelf$Unit" "importModules" "[I" ∈ gw_l := gw_of 116 (by rfl) rfl
set_option maxRecDepth 20000 in
theorem fl_M_84 : Cond.fieldLink "ModuleShelf$Memory" 84 "ModuleShelf$Unit" "importModules" "[I" ∈ gw_l := gw_of 117 (by rfl) rfl
set_option maxRecDepth 20000 in
theorem fl_S_121 : Cond.fieldLink "ModuleShelf" 121 "ModuleShelf$Unit" "importModules" "[I" ∈ gw_l := gw_of 118 (by rfl) rfl
set_option maxRecDepth 20000 in
theorem fl_U_15 : Cond.fieldLink "ModuleShelf$Unit" 15 "ModuleShelf$Unit" "importKeys" "[I" ∈ gw_l := gw_of 119 (by rfl) rfl
set_option maxRecDepth 20000 in
theorem fl_M_90 : Cond.fieldLink "ModuleShelf$Memory" 90 "ModuleShelf$Unit" "importKeys" "[I" ∈ gw_l := gw_of 120 (by rfl) rfl
set_option maxRecDepth 20000 in
theorem fl_S_125 : Cond.fieldLink "ModuleShelf" 125 "ModuleShelf$Unit" "importKeys" "[I" ∈ gw_l := gw_of 121 (by rfl) rfl
set_option maxRecDepth 20000 in
theorem fl_U_21 : Cond.fieldLink "ModuleShelf$Unit" 21 "ModuleShelf$Unit" "code" "LModuleShelf$Code;" ∈ gw_l := gw_of 122 (by rfl) rfl
set_option maxRecDepth 20000 in
theorem fl_N_48 : Cond.fieldLink "ModuleShelf$Machine" 48 "ModuleShelf$Unit" "code" "LModuleShelf$Code;" ∈ gw_l := gw_of 123 (by rfl) rfl
set_option maxRecDepth 20000 in
theorem fl_M_39 : Cond.fieldLink "ModuleShelf$Memory" 39 "ModuleShelf$Unit" "code" "LModuleShelf$Code;" ∈ gw_l := gw_of 124 (by rfl) rfl
set_option maxRecDepth 20000 in
theorem fl_L_73 : Cond.fieldLink "ModuleShelf$Library" 73 "ModuleShelf$Unit" "code" "LModuleShelf$Code;" ∈ gw_l := gw_of 125 (by rfl) rfl
set_option maxRecDepth 20000 in
theorem fl_L_11 : Cond.fieldLink "ModuleShelf$Library" 11 "ModuleShelf$Library" "units" "[LModuleShelf$Unit;" ∈ gw_l := gw_of 139 (by rfl) rfl
set_option maxRecDepth 20000 in
theorem fl_S_70 : Cond.fieldLink "ModuleShelf" 70 "ModuleShelf$Library" "units" "[LModuleShelf$Unit;" ∈ gw_l := gw_of 140 (by rfl) rfl
set_option maxRecDepth 20000 in
theorem fl_M_76 : Cond.fieldLink "ModuleShelf$Memory" 76 "ModuleShelf$Library" "units" "[LModuleShelf$Unit;" ∈ gw_l := gw_of 141 (by rfl) rfl
set_option maxRecDepth 20000 in
theorem fl_L_87 : Cond.fieldLink "ModuleShelf$Library" 87 "ModuleShelf$Library" "keysGiven" "I" ∈ gw_l := gw_of 142 (by rfl) rfl
set_option maxRecDepth 20000 in
theorem fl_S_142 : Cond.fieldLink "ModuleShelf" 142 "ModuleShelf$Library" "keysGiven" "I" ∈ gw_l := gw_of 143 (by rfl) rfl
set_option maxRecDepth 20000 in
theorem fl_L_35 : Cond.fieldLink "ModuleShelf$Library" 35 "ModuleShelf$Library" "at" "I" ∈ gw_l := gw_of 144 (by rfl) rfl
set_option maxRecDepth 20000 in
theorem fl_I_12 : Cond.fieldLink "ModuleShelf$Image" 12 "ModuleShelf$Image" "unit" "LModuleShelf$Unit;" ∈ gw_l := gw_of 167 (by rfl) rfl
set_option maxRecDepth 20000 in
theorem fl_M_26 : Cond.fieldLink "ModuleShelf$Memory" 26 "ModuleShelf$Image" "unit" "LModuleShelf$Unit;" ∈ gw_l := gw_of 168 (by rfl) rfl
set_option maxRecDepth 20000 in
theorem fl_N_42 : Cond.fieldLink "ModuleShelf$Machine" 42 "ModuleShelf$Image" "unit" "LModuleShelf$Unit;" ∈ gw_l := gw_of 169 (by rfl) rfl
set_option maxRecDepth 20000 in
theorem fl_S_92 : Cond.fieldLink "ModuleShelf" 92 "ModuleShelf$Image" "unit" "LModuleShelf$Unit;" ∈ gw_l := gw_of 170 (by rfl) rfl
set_option maxRecDepth 20000 in
theorem fl_I_18 : Cond.fieldLink "ModuleShelf$Image" 18 "ModuleShelf$Image" "values" "[I" ∈ gw_l := gw_of 171 (by rfl) rfl
set_option maxRecDepth 20000 in
theorem fl_M_59 : Cond.fieldLink "ModuleShelf$Memory" 59 "ModuleShelf$Image" "values" "[I" ∈ gw_l := gw_of 172 (by rfl) rfl
set_option maxRecDepth 20000 in
theorem fl_M_11 : Cond.fieldLink "ModuleShelf$Memory" 11 "ModuleShelf$Memory" "images" "[LModuleShelf$Image;" ∈ gw_l := gw_of 179 (by rfl) rfl
set_option maxRecDepth 20000 in
theorem fl_N_33 : Cond.fieldLink "ModuleShelf$Machine" 33 "ModuleShelf$Memory" "images" "[LModuleShelf$Image;" ∈ gw_l := gw_of 180 (by rfl) rfl
set_option maxRecDepth 20000 in
theorem fl_S_88 : Cond.fieldLink "ModuleShelf" 88 "ModuleShelf$Memory" "images" "[LModuleShelf$Image;" ∈ gw_l := gw_of 181 (by rfl) rfl
set_option maxRecDepth 20000 in
theorem fl_M_17 : Cond.fieldLink "ModuleShelf$Memory" 17 "ModuleShelf$Memory" "begun" "[Z" ∈ gw_l := gw_of 182 (by rfl) rfl
set_option maxRecDepth 20000 in
theorem fl_F_7 : Cond.fieldLink "ModuleShelf$Frame" 7 "ModuleShelf$Frame" "module" "I" ∈ gw_l := gw_of 201 (by rfl) rfl
set_option maxRecDepth 20000 in
theorem fl_N_39 : Cond.fieldLink "ModuleShelf$Machine" 39 "ModuleShelf$Frame" "module" "I" ∈ gw_l := gw_of 202 (by rfl) rfl
set_option maxRecDepth 20000 in
theorem fl_F_13 : Cond.fieldLink "ModuleShelf$Frame" 13 "ModuleShelf$Frame" "procedure" "I" ∈ gw_l := gw_of 203 (by rfl) rfl
set_option maxRecDepth 20000 in
theorem fl_N_57 : Cond.fieldLink "ModuleShelf$Machine" 57 "ModuleShelf$Frame" "procedure" "I" ∈ gw_l := gw_of 204 (by rfl) rfl
set_option maxRecDepth 20000 in
theorem fl_F_16 : Cond.fieldLink "ModuleShelf$Frame" 16 "ModuleShelf$Frame" "x" "I" ∈ gw_l := gw_of 205 (by rfl) rfl
set_option maxRecDepth 20000 in
theorem fl_N_83 : Cond.fieldLink "ModuleShelf$Machine" 83 "ModuleShelf$Frame" "x" "I" ∈ gw_l := gw_of 206 (by rfl) rfl
set_option maxRecDepth 20000 in
theorem fl_F_19 : Cond.fieldLink "ModuleShelf$Frame" 19 "ModuleShelf$Frame" "y" "I" ∈ gw_l := gw_of 207 (by rfl) rfl
set_option maxRecDepth 20000 in
theorem fl_N_86 : Cond.fieldLink "ModuleShelf$Machine" 86 "ModuleShelf$Frame" "y" "I" ∈ gw_l := gw_of 208 (by rfl) rfl
set_option maxRecDepth 20000 in
theorem fl_F_22 : Cond.fieldLink "ModuleShelf$Frame" 22 "ModuleShelf$Frame" "at" "I" ∈ gw_l := gw_of 209 (by rfl) rfl
set_option maxRecDepth 20000 in
theorem fl_N_54 : Cond.fieldLink "ModuleShelf$Machine" 54 "ModuleShelf$Frame" "at" "I" ∈ gw_l := gw_of 210 (by rfl) rfl
set_option maxRecDepth 20000 in
theorem fl_N_11 : Cond.fieldLink "ModuleShelf$Machine" 11 "ModuleShelf$Machine" "frames" "[LModuleShelf$Frame;" ∈ gw_l := gw_of 222 (by rfl) rfl
set_option maxRecDepth 20000 in
theorem fl_N_18 : Cond.fieldLink "ModuleShelf$Machine" 18 "ModuleShelf$Machine" "stepsBegun" "I" ∈ gw_l := gw_of 223 (by rfl) rfl
set_option maxRecDepth 20000 in
theorem fl_S_109 : Cond.fieldLink "ModuleShelf" 109 "ModuleShelf$Machine" "stepsBegun" "I" ∈ gw_l := gw_of 224 (by rfl) rfl
set_option maxRecDepth 20000 in
theorem fl_N_22 : Cond.fieldLink "ModuleShelf$Machine" 22 "ModuleShelf$Machine" "fault" "I" ∈ gw_l := gw_of 225 (by rfl) rfl
set_option maxRecDepth 20000 in
theorem fl_S_106 : Cond.fieldLink "ModuleShelf" 106 "ModuleShelf$Machine" "fault" "I" ∈ gw_l := gw_of 226 (by rfl) rfl
set_option maxRecDepth 20000 in
theorem fl_S_10 : Cond.fieldLink "ModuleShelf" 10 "ModuleShelf" "draft" "LModuleShelf$Code;" ∈ gw_l := gw_of 234 (by rfl) rfl
set_option maxRecDepth 20000 in
theorem fl_S_19 : Cond.fieldLink "ModuleShelf" 19 "ModuleShelf" "library" "LModuleShelf$Library;" ∈ gw_l := gw_of 235 (by rfl) rfl
set_option maxRecDepth 20000 in
theorem fl_S_26 : Cond.fieldLink "ModuleShelf" 26 "ModuleShelf" "memory" "LModuleShelf$Memory;" ∈ gw_l := gw_of 236 (by rfl) rfl
set_option maxRecDepth 20000 in
theorem fl_S_33 : Cond.fieldLink "ModuleShelf" 33 "ModuleShelf" "machine" "LModuleShelf$Machine;" ∈ gw_l := gw_of 237 (by rfl) rfl
set_option maxRecDepth 20000 in
theorem fl_S_37 : Cond.fieldLink "ModuleShelf" 37 "ModuleShelf" "wrongPlace" "I" ∈ gw_l := gw_of 238 (by rfl) rfl
set_option maxRecDepth 20000 in
theorem fl_S_41 : Cond.fieldLink "ModuleShelf" 41 "ModuleShelf" "lastValue" "I" ∈ gw_l := gw_of 239 (by rfl) rfl
set_option maxRecDepth 20000 in
theorem fl_R_7 : Cond.fieldLink "ModuleShelfModel" 7 "ModuleShelfModel" "key" "[I" ∈ gw_l := gw_of 528 (by rfl) rfl
set_option maxRecDepth 20000 in
theorem fl_R_13 : Cond.fieldLink "ModuleShelfModel" 13 "ModuleShelfModel" "variables" "[I" ∈ gw_l := gw_of 529 (by rfl) rfl
set_option maxRecDepth 20000 in
theorem fl_R_16 : Cond.fieldLink "ModuleShelfModel" 16 "ModuleShelfModel" "procedures" "[I" ∈ gw_l := gw_of 530 (by rfl) rfl
set_option maxRecDepth 20000 in
theorem fl_R_19 : Cond.fieldLink "ModuleShelfModel" 19 "ModuleShelfModel" "arguments" "[I" ∈ gw_l := gw_of 531 (by rfl) rfl
set_option maxRecDepth 20000 in
theorem fl_R_22 : Cond.fieldLink "ModuleShelfModel" 22 "ModuleShelfModel" "size" "[I" ∈ gw_l := gw_of 532 (by rfl) rfl
set_option maxRecDepth 20000 in
theorem fl_R_25 : Cond.fieldLink "ModuleShelfModel" 25 "ModuleShelfModel" "op" "[I" ∈ gw_l := gw_of 533 (by rfl) rfl
set_option maxRecDepth 20000 in
theorem fl_R_28 : Cond.fieldLink "ModuleShelfModel" 28 "ModuleShelfModel" "a" "[I" ∈ gw_l := gw_of 534 (by rfl) rfl
set_option maxRecDepth 20000 in
theorem fl_R_31 : Cond.fieldLink "ModuleShelfModel" 31 "ModuleShelfModel" "b" "[I" ∈ gw_l := gw_of 535 (by rfl) rfl
set_option maxRecDepth 20000 in
theorem fl_R_34 : Cond.fieldLink "ModuleShelfModel" 34 "ModuleShelfModel" "imports" "[I" ∈ gw_l := gw_of 536 (by rfl) rfl
set_option maxRecDepth 20000 in
theorem fl_R_37 : Cond.fieldLink "ModuleShelfModel" 37 "ModuleShelfModel" "importOf" "[I" ∈ gw_l := gw_of 537 (by rfl) rfl
set_option maxRecDepth 20000 in
theorem fl_R_40 : Cond.fieldLink "ModuleShelfModel" 40 "ModuleShelfModel" "importKey" "[I" ∈ gw_l := gw_of 538 (by rfl) rfl
set_option maxRecDepth 20000 in
theorem fl_R_43 : Cond.fieldLink "ModuleShelfModel" 43 "ModuleShelfModel" "value" "[I" ∈ gw_l := gw_of 539 (by rfl) rfl
set_option maxRecDepth 20000 in
theorem fl_R_106 : Cond.fieldLink "ModuleShelfModel" 106 "ModuleShelfModel" "given" "I" ∈ gw_l := gw_of 540 (by rfl) rfl
set_option maxRecDepth 20000 in
theorem fl_R_46 : Cond.fieldLink "ModuleShelfModel" 46 "ModuleShelfModel" "place" "I" ∈ gw_l := gw_of 541 (by rfl) rfl
set_option maxRecDepth 20000 in
theorem fl_R_156 : Cond.fieldLink "ModuleShelfModel" 156 "ModuleShelfModel" "result" "I" ∈ gw_l := gw_of 542 (by rfl) rfl
set_option maxRecDepth 20000 in
theorem fl_R_133 : Cond.fieldLink "ModuleShelfModel" 133 "ModuleShelfModel" "steps" "I" ∈ gw_l := gw_of 543 (by rfl) rfl
set_option maxRecDepth 20000 in
theorem fl_R_50 : Cond.fieldLink "ModuleShelfModel" 50 "ModuleShelfModel" "loading" "[I" ∈ gw_l := gw_of 544 (by rfl) rfl
set_option maxRecDepth 20000 in
theorem fl_R_53 : Cond.fieldLink "ModuleShelfModel" 53 "ModuleShelfModel" "next" "[I" ∈ gw_l := gw_of 545 (by rfl) rfl
set_option maxRecDepth 20000 in
theorem fl_R_56 : Cond.fieldLink "ModuleShelfModel" 56 "ModuleShelfModel" "left" "[I" ∈ gw_l := gw_of 546 (by rfl) rfl
set_option maxRecDepth 20000 in
theorem fl_R_59 : Cond.fieldLink "ModuleShelfModel" 59 "ModuleShelfModel" "task" "[I" ∈ gw_l := gw_of 547 (by rfl) rfl
set_option maxRecDepth 20000 in
theorem fl_R_62 : Cond.fieldLink "ModuleShelfModel" 62 "ModuleShelfModel" "where" "[I" ∈ gw_l := gw_of 548 (by rfl) rfl
set_option maxRecDepth 20000 in
theorem fl_R_65 : Cond.fieldLink "ModuleShelfModel" 65 "ModuleShelfModel" "frame" "[I" ∈ gw_l := gw_of 549 (by rfl) rfl
set_option maxRecDepth 20000 in
theorem fl_R_124 : Cond.fieldLink "ModuleShelfModel" 124 "ModuleShelfModel" "tasks" "I" ∈ gw_l := gw_of 550 (by rfl) rfl
set_option maxRecDepth 20000 in
theorem fl_R_68 : Cond.fieldLink "ModuleShelfModel" 68 "ModuleShelfModel" "values" "[I" ∈ gw_l := gw_of 551 (by rfl) rfl
set_option maxRecDepth 20000 in
theorem fl_R_127 : Cond.fieldLink "ModuleShelfModel" 127 "ModuleShelfModel" "held" "I" ∈ gw_l := gw_of 552 (by rfl) rfl
set_option maxRecDepth 20000 in
theorem fl_R_71 : Cond.fieldLink "ModuleShelfModel" 71 "ModuleShelfModel" "frameModule" "[I" ∈ gw_l := gw_of 553 (by rfl) rfl
set_option maxRecDepth 20000 in
theorem fl_R_74 : Cond.fieldLink "ModuleShelfModel" 74 "ModuleShelfModel" "frameProcedure" "[I" ∈ gw_l := gw_of 554 (by rfl) rfl
set_option maxRecDepth 20000 in
theorem fl_R_77 : Cond.fieldLink "ModuleShelfModel" 77 "ModuleShelfModel" "frameX" "[I" ∈ gw_l := gw_of 555 (by rfl) rfl
set_option maxRecDepth 20000 in
theorem fl_R_80 : Cond.fieldLink "ModuleShelfModel" 80 "ModuleShelfModel" "frameY" "[I" ∈ gw_l := gw_of 556 (by rfl) rfl
set_option maxRecDepth 20000 in
theorem ml_W_9 : Cond.methodLink "ModuleShelfLaw" 9 ⟨"ModuleShelf", "<init>", "()V"⟩ ∈ gw_l := gw_of 46 (by rfl) rfl
set_option maxRecDepth 20000 in
theorem ml_S_1 : Cond.methodLink "ModuleShelf" 1 ⟨"java/lang/Object", "<init>", "()V"⟩ ∈ gw_l := gw_of 49 (by rfl) rfl
set_option maxRecDepth 20000 in
theorem ml_C_3 : Cond.methodLink "ModuleShelf$Code" 3 ⟨"java/lang/Object", "<init>", "()V"⟩ ∈ gw_l := gw_of 57 (by rfl) rfl
set_option maxRecDepth 20000 in
theorem ml_S_18 : Cond.methodLink "ModuleShelf" 18 ⟨"ModuleShelf$Library", "<init>", "()V"⟩ ∈ gw_l := gw_of 91 (by rfl) rfl
set_option maxRecDepth 20000 in
theorem ml_L_3 : Cond.methodLink "ModuleShelf$Library" 3 ⟨"java/lang/Object", "<init>", "()V"⟩ ∈ gw_l := gw_of 94 (by rfl) rfl
set_option maxRecDepth 20000 in
theorem ml_U_3 : Cond.methodLink "ModuleShelf$Unit" 3 ⟨"java/lang/Object", "<init>", "()V"⟩ ∈ gw_l := gw_of 101 (by rfl) rfl
set_option maxRecDepth 20000 in
theorem ml_S_25 : Cond.methodLink "ModuleShelf" 25 ⟨"ModuleShelf$Memory", "<init>", "()V"⟩ ∈ gw_l := gw_of 154 (by rfl) rfl
set_option maxRecDepth 20000 in
theorem ml_M_3 : Cond.methodLink "ModuleShelf$Memory" 3 ⟨"java/lang/Object", "<init>", "()V"⟩ ∈ gw_l := gw_of 157 (by rfl) rfl
set_option maxRecDepth 20000 in
theorem ml_I_3 : Cond.methodLink "ModuleShelf$Image" 3 ⟨"java/lang/Object", "<init>", "()V"⟩ ∈ gw_l := gw_of 164 (by rfl) rfl
set_option maxRecDepth 20000 in
theorem ml_S_32 : Cond.methodLink "ModuleShelf" 32 ⟨"ModuleShelf$Machine", "<init>", "()V"⟩ ∈ gw_l := gw_of 190 (by rfl) rfl
set_option maxRecDepth 20000 in
theorem ml_N_3 : Cond.methodLink "ModuleShelf$Machine" 3 ⟨"java/lang/Object", "<init>", "()V"⟩ ∈ gw_l := gw_of 193 (by rfl) rfl
set_option maxRecDepth 20000 in
theorem ml_F_1 : Cond.methodLink "ModuleShelf$Frame" 1 ⟨"java/lang/Object", "<init>", "()V"⟩ ∈ gw_l := gw_of 200 (by rfl) rfl
set_option maxRecDepth 20000 in
theorem ml_W_13 : Cond.methodLink "ModuleShelfLaw" 13 ⟨"ModuleShelf", "begin", "(I)I"⟩ ∈ gw_l := gw_of 253 (by rfl) rfl
set_option maxRecDepth 20000 in
theorem ml_S_44 : Cond.methodLink "ModuleShelf" 44 ⟨"ModuleShelf$Code", "clear", "(I)V"⟩ ∈ gw_l := gw_of 257 (by rfl) rfl
set_option maxRecDepth 20000 in
theorem ml_W_18 : Cond.methodLink "ModuleShelfLaw" 18 ⟨"ModuleShelf", "procedure", "(I)I"⟩ ∈ gw_l := gw_of 261 (by rfl) rfl
set_option maxRecDepth 20000 in
theorem ml_S_48 : Cond.methodLink "ModuleShelf" 48 ⟨"ModuleShelf$Code", "addProcedure", "(I)I"⟩ ∈ gw_l := gw_of 265 (by rfl) rfl
set_option maxRecDepth 20000 in
theorem ml_W_22 : Cond.methodLink "ModuleShelfLaw" 22 ⟨"ModuleShelf", "token", "(III)I"⟩ ∈ gw_l := gw_of 269 (by rfl) rfl
set_option maxRecDepth 20000 in
theorem ml_S_52 : Cond.methodLink "ModuleShelf" 52 ⟨"ModuleShelf$Code", "addToken", "(III)I"⟩ ∈ gw_l := gw_of 273 (by rfl) rfl
set_option maxRecDepth 20000 in
theorem ml_C_34 : Cond.methodLink "ModuleShelf$Code" 34 ⟨"ModuleShelf$Code", "cellOf", "(II)I"⟩ ∈ gw_l := gw_of 277 (by rfl) rfl
set_option maxRecDepth 20000 in
theorem ml_W_27 : Cond.methodLink "ModuleShelfLaw" 27 ⟨"ModuleShelf", "compile", "(I)I"⟩ ∈ gw_l := gw_of 281 (by rfl) rfl
set_option maxRecDepth 20000 in
theorem ml_S_56 : Cond.methodLink "ModuleShelf" 56 ⟨"ModuleShelf", "isModule", "(I)Z"⟩ ∈ gw_l := gw_of 285 (by rfl) rfl
set_option maxRecDepth 20000 in
theorem ml_S_60 : Cond.methodLink "ModuleShelf" 60 ⟨"ModuleShelf$Library", "firstWrong", "(LModuleShelf$Code;I)I"⟩ ∈ gw_l := gw_of 288 (by rfl) rfl
set_option maxRecDepth 20000 in
theorem ml_L_38 : Cond.methodLink "ModuleShelf$Library" 38 ⟨"ModuleShelf$Library", "isExpression", "(LModuleShelf$Code;III)Z"⟩ ∈ gw_l := gw_of 292 (by rfl) rfl
set_option maxRecDepth 20000 in
theorem ml_L_42 : Cond.methodLink "ModuleShelf$Library" 42 ⟨"ModuleShelf$Code", "lengthOf", "(I)I"⟩ ∈ gw_l := gw_of 296 (by rfl) rfl
set_option maxRecDepth 20000 in
theorem ml_C_38 : Cond.methodLink "ModuleShelf$Code" 38 ⟨"ModuleShelf$Code", "hasProcedure", "(I)Z"⟩ ∈ gw_l := gw_of 300 (by rfl) rfl
set_option maxRecDepth 20000 in
theorem ml_L_46 : Cond.methodLink "ModuleShelf$Library" 46 ⟨"ModuleShelf$Code", "cellOf", "(II)I"⟩ ∈ gw_l := gw_of 304 (by rfl) rfl
set_option maxRecDepth 20000 in
theorem ml_L_50 : Cond.methodLink "ModuleShelf$Library" 50 ⟨"ModuleShelf$Library", "isRight", "(LModuleShelf$Code;III)Z"⟩ ∈ gw_l := gw_of 305 (by rfl) rfl
set_option maxRecDepth 20000 in
theorem ml_L_67 : Cond.methodLink "ModuleShelf$Library" 67 ⟨"ModuleShelf$Code", "argumentsOf", "(I)I"⟩ ∈ gw_l := gw_of 309 (by rfl) rfl
set_option maxRecDepth 20000 in
theorem ml_L_70 : Cond.methodLink "ModuleShelf$Library" 70 ⟨"ModuleShelf$Code", "hasVariable", "(I)Z"⟩ ∈ gw_l := gw_of 313 (by rfl) rfl
set_option maxRecDepth 20000 in
theorem ml_L_26 : Cond.methodLink "ModuleShelf$Library" 26 ⟨"ModuleShelf$Library", "has", "(I)Z"⟩ ∈ gw_l := gw_of 317 (by rfl) rfl
set_option maxRecDepth 20000 in
theorem ml_L_77 : Cond.methodLink "ModuleShelf$Library" 77 ⟨"ModuleShelf$Library", "argumentsOf", "(LModuleShelf$Code;III)I"⟩ ∈ gw_l := gw_of 322 (by rfl) rfl
set_option maxRecDepth 20000 in
theorem ml_L_53 : Cond.methodLink "ModuleShelf$Library" 53 ⟨"ModuleShelf$Library", "partsOf", "(LModuleShelf$Code;II)I"⟩ ∈ gw_l := gw_of 326 (by rfl) rfl
set_option maxRecDepth 20000 in
theorem ml_S_64 : Cond.methodLink "ModuleShelf" 64 ⟨"ModuleShelf$Library", "keep", "(LModuleShelf$Code;I)I"⟩ ∈ gw_l := gw_of 332 (by rfl) rfl
set_option maxRecDepth 20000 in
theorem ml_L_83 : Cond.methodLink "ModuleShelf$Library" 83 ⟨"ModuleShelf$Code", "hasInterfaceOf", "(LModuleShelf$Code;)Z"⟩ ∈ gw_l := gw_of 336 (by rfl) rfl
set_option maxRecDepth 20000 in
theorem ml_L_93 : Cond.methodLink "ModuleShelf$Library" 93 ⟨"ModuleShelf$Code", "copyFrom", "(LModuleShelf$Code;)V"⟩ ∈ gw_l := gw_of 340 (by rfl) rfl
set_option maxRecDepth 20000 in
theorem ml_C_42 : Cond.methodLink "ModuleShelf$Code" 42 ⟨"java/lang/System", "arraycopy", "(Ljava/lang/Object;ILjava/lang/Object;II)V"⟩ ∈ gw_l := gw_of 344 (by rfl) rfl
set_option maxRecDepth 20000 in
theorem ml_L_97 : Cond.methodLink "ModuleShelf$Library" 97 ⟨"ModuleShelf$Library", "gatherImports", "(LModuleShelf$Unit;I)V"⟩ ∈ gw_l := gw_of 347 (by rfl) rfl
set_option maxRecDepth 20000 in
theorem ml_L_104 : Cond.methodLink "ModuleShelf$Library" 104 ⟨"ModuleShelf$Unit", "addImport", "(II)V"⟩ ∈ gw_l := gw_of 351 (by rfl) rfl
set_option maxRecDepth 20000 in
theorem ml_U_29 : Cond.methodLink "ModuleShelf$Unit" 29 ⟨"ModuleShelf$Unit", "hasImport", "(I)Z"⟩ ∈ gw_l := gw_of 355 (by rfl) rfl
set_option maxRecDepth 20000 in
theorem ml_W_31 : Cond.methodLink "ModuleShelfLaw" 31 ⟨"ModuleShelf", "place", "()I"⟩ ∈ gw_l := gw_of 359 (by rfl) rfl
set_option maxRecDepth 20000 in
theorem ml_W_36 : Cond.methodLink "ModuleShelfLaw" 36 ⟨"ModuleShelf", "remove", "(I)I"⟩ ∈ gw_l := gw_of 363 (by rfl) rfl
set_option maxRecDepth 20000 in
theorem ml_S_67 : Cond.methodLink "ModuleShelf" 67 ⟨"ModuleShelf$Library", "has", "(I)Z"⟩ ∈ gw_l := gw_of 367 (by rfl) rfl
set_option maxRecDepth 20000 in
theorem ml_W_40 : Cond.methodLink "ModuleShelfLaw" 40 ⟨"ModuleShelf", "load", "(I)I"⟩ ∈ gw_l := gw_of 368 (by rfl) rfl
set_option maxRecDepth 20000 in
theorem ml_S_80 : Cond.methodLink "ModuleShelf" 80 ⟨"ModuleShelf$Memory", "bring", "(LModuleShelf$Library;I)I"⟩ ∈ gw_l := gw_of 372 (by rfl) rfl
set_option maxRecDepth 20000 in
theorem ml_M_63 : Cond.methodLink "ModuleShelf$Memory" 63 ⟨"ModuleShelf$Memory", "held", "()I"⟩ ∈ gw_l := gw_of 376 (by rfl) rfl
set_option maxRecDepth 20000 in
theorem ml_M_36 : Cond.methodLink "ModuleShelf$Memory" 36 ⟨"ModuleShelf$Memory", "has", "(I)Z"⟩ ∈ gw_l := gw_of 380 (by rfl) rfl
set_option maxRecDepth 20000 in
theorem ml_M_66 : Cond.methodLink "ModuleShelf$Memory" 66 ⟨"ModuleShelf$Memory", "bringOne", "(LModuleShelf$Library;II)I"⟩ ∈ gw_l := gw_of 385 (by rfl) rfl
set_option maxRecDepth 20000 in
theorem ml_M_73 : Cond.methodLink "ModuleShelf$Memory" 73 ⟨"ModuleShelf$Library", "has", "(I)Z"⟩ ∈ gw_l := gw_of 389 (by rfl) rfl
set_option maxRecDepth 20000 in
theorem ml_M_93 : Cond.methodLink "ModuleShelf$Memory" 93 ⟨"ModuleShelf$Memory", "size", "()I"⟩ ∈ gw_l := gw_of 390 (by rfl) rfl
set_option maxRecDepth 20000 in
theorem ml_M_43 : Cond.methodLink "ModuleShelf$Memory" 43 ⟨"ModuleShelf$Code", "size", "()I"⟩ ∈ gw_l := gw_of 394 (by rfl) rfl
set_option maxRecDepth 20000 in
theorem ml_M_94 : Cond.methodLink "ModuleShelf$Memory" 94 ⟨"ModuleShelf$Image", "fill", "(LModuleShelf$Unit;)V"⟩ ∈ gw_l := gw_of 398 (by rfl) rfl
set_option maxRecDepth 20000 in
theorem ml_I_22 : Cond.methodLink "ModuleShelf$Image" 22 ⟨"ModuleShelf$Unit", "copyFrom", "(LModuleShelf$Unit;)V"⟩ ∈ gw_l := gw_of 402 (by rfl) rfl
set_option maxRecDepth 20000 in
theorem ml_U_40 : Cond.methodLink "ModuleShelf$Unit" 40 ⟨"java/lang/System", "arraycopy", "(Ljava/lang/Object;ILjava/lang/Object;II)V"⟩ ∈ gw_l := gw_of 406 (by rfl) rfl
set_option maxRecDepth 20000 in
theorem ml_U_46 : Cond.methodLink "ModuleShelf$Unit" 46 ⟨"ModuleShelf$Code", "copyFrom", "(LModuleShelf$Code;)V"⟩ ∈ gw_l := gw_of 407 (by rfl) rfl
set_option maxRecDepth 20000 in
theorem ml_I_26 : Cond.methodLink "ModuleShelf$Image" 26 ⟨"java/util/Arrays", "fill", "([II)V"⟩ ∈ gw_l := gw_of 408 (by rfl) rfl
set_option maxRecDepth 20000 in
theorem ml_M_70 : Cond.methodLink "ModuleShelf$Memory" 70 ⟨"ModuleShelf$Memory", "dropBegun", "()V"⟩ ∈ gw_l := gw_of 411 (by rfl) rfl
set_option maxRecDepth 20000 in
theorem ml_W_44 : Cond.methodLink "ModuleShelfLaw" 44 ⟨"ModuleShelf", "unload", "(I)I"⟩ ∈ gw_l := gw_of 415 (by rfl) rfl
set_option maxRecDepth 20000 in
theorem ml_S_84 : Cond.methodLink "ModuleShelf" 84 ⟨"ModuleShelf$Memory", "has", "(I)Z"⟩ ∈ gw_l := gw_of 419 (by rfl) rfl
set_option maxRecDepth 20000 in
theorem ml_S_85 : Cond.methodLink "ModuleShelf" 85 ⟨"ModuleShelf$Memory", "isImported", "(I)Z"⟩ ∈ gw_l := gw_of 420 (by rfl) rfl
set_option maxRecDepth 20000 in
theorem ml_M_49 : Cond.methodLink "ModuleShelf$Memory" 49 ⟨"ModuleShelf$Unit", "hasImport", "(I)Z"⟩ ∈ gw_l := gw_of 424 (by rfl) rfl
set_option maxRecDepth 20000 in
theorem ml_W_48 : Cond.methodLink "ModuleShelfLaw" 48 ⟨"ModuleShelf", "run", "(IIII)I"⟩ ∈ gw_l := gw_of 425 (by rfl) rfl
set_option maxRecDepth 20000 in
theorem ml_S_98 : Cond.methodLink "ModuleShelf" 98 ⟨"ModuleShelf$Memory", "argumentsOf", "(II)I"⟩ ∈ gw_l := gw_of 429 (by rfl) rfl
set_option maxRecDepth 20000 in
theorem ml_M_52 : Cond.methodLink "ModuleShelf$Memory" 52 ⟨"ModuleShelf$Code", "argumentsOf", "(I)I"⟩ ∈ gw_l := gw_of 433 (by rfl) rfl
set_option maxRecDepth 20000 in
theorem ml_S_102 : Cond.methodLink "ModuleShelf" 102 ⟨"ModuleShelf$Machine", "start", "(LModuleShelf$Memory;IIII)I"⟩ ∈ gw_l := gw_of 434 (by rfl) rfl
set_option maxRecDepth 20000 in
theorem ml_N_25 : Cond.methodLink "ModuleShelf$Machine" 25 ⟨"ModuleShelf$Frame", "open", "(IIII)V"⟩ ∈ gw_l := gw_of 438 (by rfl) rfl
set_option maxRecDepth 20000 in
theorem ml_N_29 : Cond.methodLink "ModuleShelf$Machine" 29 ⟨"ModuleShelf$Machine", "work", "(LModuleShelf$Memory;II)I"⟩ ∈ gw_l := gw_of 442 (by rfl) rfl
set_option maxRecDepth 20000 in
theorem ml_N_60 : Cond.methodLink "ModuleShelf$Machine" 60 ⟨"ModuleShelf$Code", "lengthOf", "(I)I"⟩ ∈ gw_l := gw_of 446 (by rfl) rfl
set_option maxRecDepth 20000 in
theorem ml_N_66 : Cond.methodLink "ModuleShelf$Machine" 66 ⟨"ModuleShelf$Machine", "fail", "(I)I"⟩ ∈ gw_l := gw_of 447 (by rfl) rfl
set_option maxRecDepth 20000 in
theorem ml_N_69 : Cond.methodLink "ModuleShelf$Machine" 69 ⟨"ModuleShelf$Code", "cellOf", "(II)I"⟩ ∈ gw_l := gw_of 451 (by rfl) rfl
set_option maxRecDepth 20000 in
theorem ml_N_89 : Cond.methodLink "ModuleShelf$Machine" 89 ⟨"ModuleShelf$Memory", "valueOf", "(II)I"⟩ ∈ gw_l := gw_of 452 (by rfl) rfl
set_option maxRecDepth 20000 in
theorem ml_M_56 : Cond.methodLink "ModuleShelf$Memory" 56 ⟨"ModuleShelf$Code", "hasVariable", "(I)Z"⟩ ∈ gw_l := gw_of 456 (by rfl) rfl
set_option maxRecDepth 20000 in
theorem ml_N_92 : Cond.methodLink "ModuleShelf$Machine" 92 ⟨"ModuleShelf$Machine", "assign", "(LModuleShelf$Memory;III)I"⟩ ∈ gw_l := gw_of 457 (by rfl) rfl
set_option maxRecDepth 20000 in
theorem ml_N_106 : Cond.methodLink "ModuleShelf$Machine" 106 ⟨"ModuleShelf$Memory", "setValue", "(III)V"⟩ ∈ gw_l := gw_of 461 (by rfl) rfl
set_option maxRecDepth 20000 in
theorem ml_N_96 : Cond.methodLink "ModuleShelf$Machine" 96 ⟨"ModuleShelf$Machine", "choose", "(LModuleShelf$Memory;II)I"⟩ ∈ gw_l := gw_of 465 (by rfl) rfl
set_option maxRecDepth 20000 in
theorem ml_N_110 : Cond.methodLink "ModuleShelf$Machine" 110 ⟨"ModuleShelf$Machine", "skip", "(LModuleShelf$Memory;LModuleShelf$Frame;)V"⟩ ∈ gw_l := gw_of 469 (by rfl) rfl
set_option maxRecDepth 20000 in
theorem ml_N_114 : Cond.methodLink "ModuleShelf$Machine" 114 ⟨"ModuleShelf$Memory", "argumentsOf", "(II)I"⟩ ∈ gw_l := gw_of 473 (by rfl) rfl
set_option maxRecDepth 20000 in
theorem ml_N_120 : Cond.methodLink "ModuleShelf$Machine" 120 ⟨"java/lang/Math", "max", "(II)I"⟩ ∈ gw_l := gw_of 475 (by rfl) rfl
set_option maxRecDepth 20000 in
theorem ml_N_99 : Cond.methodLink "ModuleShelf$Machine" 99 ⟨"ModuleShelf$Machine", "enter", "(LModuleShelf$Memory;IIII)I"⟩ ∈ gw_l := gw_of 478 (by rfl) rfl
set_option maxRecDepth 20000 in
theorem ml_N_103 : Cond.methodLink "ModuleShelf$Machine" 103 ⟨"ModuleShelf$Machine", "combine", "(LModuleShelf$Memory;III)I"⟩ ∈ gw_l := gw_of 482 (by rfl) rfl
set_option maxRecDepth 20000 in
theorem ml_W_53 : Cond.methodLink "ModuleShelfLaw" 53 ⟨"ModuleShelf", "value", "()I"⟩ ∈ gw_l := gw_of 486 (by rfl) rfl
set_option maxRecDepth 20000 in
theorem ml_W_57 : Cond.methodLink "ModuleShelfLaw" 57 ⟨"ModuleShelf", "steps", "()I"⟩ ∈ gw_l := gw_of 490 (by rfl) rfl
set_option maxRecDepth 20000 in
theorem ml_W_61 : Cond.methodLink "ModuleShelfLaw" 61 ⟨"ModuleShelf", "variable", "(II)I"⟩ ∈ gw_l := gw_of 494 (by rfl) rfl
set_option maxRecDepth 20000 in
theorem ml_S_112 : Cond.methodLink "ModuleShelf" 112 ⟨"ModuleShelf$Memory", "valueOf", "(II)I"⟩ ∈ gw_l := gw_of 498 (by rfl) rfl
set_option maxRecDepth 20000 in
theorem ml_W_66 : Cond.methodLink "ModuleShelfLaw" 66 ⟨"ModuleShelf", "key", "(I)I"⟩ ∈ gw_l := gw_of 499 (by rfl) rfl
set_option maxRecDepth 20000 in
theorem ml_W_70 : Cond.methodLink "ModuleShelfLaw" 70 ⟨"ModuleShelf", "loaded", "(I)I"⟩ ∈ gw_l := gw_of 503 (by rfl) rfl
set_option maxRecDepth 20000 in
theorem ml_W_74 : Cond.methodLink "ModuleShelfLaw" 74 ⟨"ModuleShelf", "imported", "(II)I"⟩ ∈ gw_l := gw_of 507 (by rfl) rfl
set_option maxRecDepth 20000 in
theorem ml_W_78 : Cond.methodLink "ModuleShelfLaw" 78 ⟨"ModuleShelf", "count", "(I)I"⟩ ∈ gw_l := gw_of 511 (by rfl) rfl
set_option maxRecDepth 20000 in
theorem ml_S_131 : Cond.methodLink "ModuleShelf" 131 ⟨"ModuleShelf$Code", "lengthOf", "(I)I"⟩ ∈ gw_l := gw_of 515 (by rfl) rfl
set_option maxRecDepth 20000 in
theorem ml_S_134 : Cond.methodLink "ModuleShelf" 134 ⟨"ModuleShelf$Library", "held", "()I"⟩ ∈ gw_l := gw_of 516 (by rfl) rfl
set_option maxRecDepth 20000 in
theorem ml_S_138 : Cond.methodLink "ModuleShelf" 138 ⟨"ModuleShelf$Memory", "held", "()I"⟩ ∈ gw_l := gw_of 520 (by rfl) rfl
set_option maxRecDepth 20000 in
theorem ml_S_139 : Cond.methodLink "ModuleShelf" 139 ⟨"ModuleShelf$Memory", "size", "()I"⟩ ∈ gw_l := gw_of 521 (by rfl) rfl
set_option maxRecDepth 20000 in
theorem ml_W_12 : Cond.methodLink "ModuleShelfLaw" 12 ⟨"ModuleShelfModel", "<init>", "()V"⟩ ∈ gw_l := gw_of 524 (by rfl) rfl
set_option maxRecDepth 20000 in
theorem ml_R_1 : Cond.methodLink "ModuleShelfModel" 1 ⟨"java/lang/Object", "<init>", "()V"⟩ ∈ gw_l := gw_of 527 (by rfl) rfl
set_option maxRecDepth 20000 in
theorem ml_W_17 : Cond.methodLink "ModuleShelfLaw" 17 ⟨"ModuleShelfModel", "begin", "(I)I"⟩ ∈ gw_l := gw_of 616 (by rfl) rfl
set_option maxRecDepth 20000 in
theorem ml_R_83 : Cond.methodLink "ModuleShelfModel" 83 ⟨"ModuleShelfModel", "in", "(III)Z"⟩ ∈ gw_l := gw_of 620 (by rfl) rfl
set_option maxRecDepth 20000 in
theorem ml_W_21 : Cond.methodLink "ModuleShelfLaw" 21 ⟨"ModuleShelfModel", "procedure", "(I)I"⟩ ∈ gw_l := gw_of 623 (by rfl) rfl
set_option maxRecDepth 20000 in
theorem ml_W_26 : Cond.methodLink "ModuleShelfLaw" 26 ⟨"ModuleShelfModel", "token", "(III)I"⟩ ∈ gw_l := gw_of 627 (by rfl) rfl
set_option maxRecDepth 20000 in
theorem ml_W_30 : Cond.methodLink "ModuleShelfLaw" 30 ⟨"ModuleShelfModel", "compile", "(I)I"⟩ ∈ gw_l := gw_of 631 (by rfl) rfl
set_option maxRecDepth 20000 in
theorem ml_R_95 : Cond.methodLink "ModuleShelfModel" 95 ⟨"ModuleShelfModel", "firstWrong", "(II)I"⟩ ∈ gw_l := gw_of 635 (by rfl) rfl
set_option maxRecDepth 20000 in
theorem ml_R_91 : Cond.methodLink "ModuleShelfModel" 91 ⟨"ModuleShelfModel", "partsOf", "(III)I"⟩ ∈ gw_l := gw_of 639 (by rfl) rfl
set_option maxRecDepth 20000 in
theorem ml_R_87 : Cond.methodLink "ModuleShelfModel" 87 ⟨"ModuleShelfModel", "seen", "(II)I"⟩ ∈ gw_l := gw_of 643 (by rfl) rfl
set_option maxRecDepth 20000 in
theorem ml_R_98 : Cond.methodLink "ModuleShelfModel" 98 ⟨"ModuleShelfModel", "findImports", "(I)V"⟩ ∈ gw_l := gw_of 647 (by rfl) rfl
set_option maxRecDepth 20000 in
theorem ml_R_102 : Cond.methodLink "ModuleShelfModel" 102 ⟨"ModuleShelfModel", "alike", "(I)Z"⟩ ∈ gw_l := gw_of 651 (by rfl) rfl
set_option maxRecDepth 20000 in
theorem ml_R_109 : Cond.methodLink "ModuleShelfModel" 109 ⟨"ModuleShelfModel", "copy", "(II)V"⟩ ∈ gw_l := gw_of 655 (by rfl) rfl
set_option maxRecDepth 20000 in
theorem ml_W_35 : Cond.methodLink "ModuleShelfLaw" 35 ⟨"ModuleShelfModel", "place", "()I"⟩ ∈ gw_l := gw_of 659 (by rfl) rfl
set_option maxRecDepth 20000 in
theorem ml_W_39 : Cond.methodLink "ModuleShelfLaw" 39 ⟨"ModuleShelfModel", "remove", "(I)I"⟩ ∈ gw_l := gw_of 663 (by rfl) rfl
set_option maxRecDepth 20000 in
theorem ml_W_43 : Cond.methodLink "ModuleShelfLaw" 43 ⟨"ModuleShelfModel", "load", "(I)I"⟩ ∈ gw_l := gw_of 667 (by rfl) rfl
set_option maxRecDepth 20000 in
theorem ml_R_117 : Cond.methodLink "ModuleShelfModel" 117 ⟨"ModuleShelfModel", "begins", "(II)I"⟩ ∈ gw_l := gw_of 671 (by rfl) rfl
set_option maxRecDepth 20000 in
theorem ml_R_113 : Cond.methodLink "ModuleShelfModel" 113 ⟨"ModuleShelfModel", "cells", "(I)I"⟩ ∈ gw_l := gw_of 675 (by rfl) rfl
set_option maxRecDepth 20000 in
theorem ml_R_120 : Cond.methodLink "ModuleShelfModel" 120 ⟨"ModuleShelfModel", "allCells", "()I"⟩ ∈ gw_l := gw_of 679 (by rfl) rfl
set_option maxRecDepth 20000 in
theorem ml_W_47 : Cond.methodLink "ModuleShelfLaw" 47 ⟨"ModuleShelfModel", "unload", "(I)I"⟩ ∈ gw_l := gw_of 683 (by rfl) rfl
set_option maxRecDepth 20000 in
theorem ml_W_52 : Cond.methodLink "ModuleShelfLaw" 52 ⟨"ModuleShelfModel", "run", "(IIII)I"⟩ ∈ gw_l := gw_of 687 (by rfl) rfl
set_option maxRecDepth 20000 in
theorem ml_R_136 : Cond.methodLink "ModuleShelfModel" 136 ⟨"ModuleShelfModel", "enter", "(IIIII)V"⟩ ∈ gw_l := gw_of 691 (by rfl) rfl
set_option maxRecDepth 20000 in
theorem ml_R_152 : Cond.methodLink "ModuleShelfModel" 152 ⟨"ModuleShelfModel", "push", "(III)V"⟩ ∈ gw_l := gw_of 695 (by rfl) rfl
set_option maxRecDepth 20000 in
theorem ml_R_140 : Cond.methodLink "ModuleShelfModel" 140 ⟨"ModuleShelfModel", "begin", "(II)V"⟩ ∈ gw_l := gw_of 699 (by rfl) rfl
set_option maxRecDepth 20000 in
theorem ml_R_159 : Cond.methodLink "ModuleShelfModel" 159 ⟨"ModuleShelfModel", "give", "(I)V"⟩ ∈ gw_l := gw_of 703 (by rfl) rfl
set_option maxRecDepth 20000 in
theorem ml_R_149 : Cond.methodLink "ModuleShelfModel" 149 ⟨"ModuleShelfModel", "end", "(I)I"⟩ ∈ gw_l := gw_of 707 (by rfl) rfl
set_option maxRecDepth 20000 in
theorem ml_R_130 : Cond.methodLink "ModuleShelfModel" 130 ⟨"ModuleShelfModel", "parts", "(I)I"⟩ ∈ gw_l := gw_of 711 (by rfl) rfl
set_option maxRecDepth 20000 in
theorem ml_R_143 : Cond.methodLink "ModuleShelfModel" 143 ⟨"ModuleShelfModel", "use", "(II)I"⟩ ∈ gw_l := gw_of 715 (by rfl) rfl
set_option maxRecDepth 20000 in
theorem ml_R_146 : Cond.methodLink "ModuleShelfModel" 146 ⟨"ModuleShelfModel", "take", "()I"⟩ ∈ gw_l := gw_of 719 (by rfl) rfl
set_option maxRecDepth 20000 in
theorem ml_R_162 : Cond.methodLink "ModuleShelfModel" 162 ⟨"ModuleShelfModel", "quotient", "(II)I"⟩ ∈ gw_l := gw_of 723 (by rfl) rfl
set_option maxRecDepth 20000 in
theorem ml_W_56 : Cond.methodLink "ModuleShelfLaw" 56 ⟨"ModuleShelfModel", "value", "()I"⟩ ∈ gw_l := gw_of 726 (by rfl) rfl
set_option maxRecDepth 20000 in
theorem ml_W_60 : Cond.methodLink "ModuleShelfLaw" 60 ⟨"ModuleShelfModel", "steps", "()I"⟩ ∈ gw_l := gw_of 730 (by rfl) rfl
set_option maxRecDepth 20000 in
theorem ml_W_65 : Cond.methodLink "ModuleShelfLaw" 65 ⟨"ModuleShelfModel", "variable", "(II)I"⟩ ∈ gw_l := gw_of 734 (by rfl) rfl
set_option maxRecDepth 20000 in
theorem ml_W_69 : Cond.methodLink "ModuleShelfLaw" 69 ⟨"ModuleShelfModel", "key", "(I)I"⟩ ∈ gw_l := gw_of 738 (by rfl) rfl
set_option maxRecDepth 20000 in
theorem ml_W_73 : Cond.methodLink "ModuleShelfLaw" 73 ⟨"ModuleShelfModel", "loaded", "(I)I"⟩ ∈ gw_l := gw_of 742 (by rfl) rfl
set_option maxRecDepth 20000 in
theorem ml_W_77 : Cond.methodLink "ModuleShelfLaw" 77 ⟨"ModuleShelfModel", "imported", "(II)I"⟩ ∈ gw_l := gw_of 746 (by rfl) rfl
set_option maxRecDepth 20000 in
theorem ml_W_81 : Cond.methodLink "ModuleShelfLaw" 81 ⟨"ModuleShelfModel", "count", "(I)I"⟩ ∈ gw_l := gw_of 750 (by rfl) rfl
set_option maxRecDepth 20000 in
theorem im_S_init : Cond.instanceMethod xy_S_init ∈ gw_l := gw_of 47 (by rfl) rfl
theorem na_S_init : aw_nm xy_S_init 0 := ⟨by decide, by decide, by decide +kernel⟩
set_option maxRecDepth 20000 in
theorem im_C_init : Cond.instanceMethod xy_C_init ∈ gw_l := gw_of 55 (by rfl) rfl
theorem na_C_init : aw_nm xy_C_init 0 := ⟨by decide, by decide, by decide +kernel⟩
set_option maxRecDepth 20000 in
theorem im_L_init : Cond.instanceMethod xy_L_init ∈ gw_l := gw_of 92 (by rfl) rfl
theorem na_L_init : aw_nm xy_L_init 0 := ⟨by decide, by decide, by decide +kernel⟩
set_option maxRecDepth 20000 in
theorem im_U_init : Cond.instanceMethod xy_U_init ∈ gw_l := gw_of 99 (by rfl) rfl
theorem na_U_init : aw_nm xy_U_init 0 := ⟨by decide, by decide, by decide +kernel⟩
set_option maxRecDepth 20000 in
theorem im_M_init : Cond.instanceMethod xy_M_init ∈ gw_l := gw_of 155 (by rfl) rfl
theorem na_M_init : aw_nm xy_M_init 0 := ⟨by decide, by decide, by decide +kernel⟩
set_option maxRecDepth 20000 in
theorem im_I_init : Cond.instanceMethod xy_I_init ∈ gw_l := gw_of 162 (by rfl) rfl
theorem na_I_init : aw_nm xy_I_init 0 := ⟨by decide, by decide, by decide +kernel⟩
set_option maxRecDepth 20000 in
theorem im_N_init : Cond.instanceMethod xy_N_init ∈ gw_l := gw_of 191 (by rfl) rfl
theorem na_N_init : aw_nm xy_N_init 0 := ⟨by decide, by decide, by decide +kernel⟩
set_option maxRecDepth 20000 in
theorem im_F_init : Cond.instanceMethod xy_F_init ∈ gw_l := gw_of 198 (by rfl) rfl
theorem na_F_init : aw_nm xy_F_init 0 := ⟨by decide, by decide, by decide +kernel⟩
set_option maxRecDepth 20000 in
theorem im_S_begin : Cond.instanceMethod xy_S_begin ∈ gw_l := gw_of 254 (by rfl) rfl
set_option maxRecDepth 20000 in
theorem se_S_begin : Cond.selects "ModuleShelf" xy_S_begin xy_S_begin ∈ gw_l := gw_of 255 (by rfl) rfl
theorem na_S_begin : aw_nm xy_S_begin 1 := ⟨by decide, by decide, by decide +kernel⟩
set_option maxRecDepth 20000 in
theorem im_C_clear : Cond.instanceMethod xy_C_clear ∈ gw_l := gw_of 258 (by rfl) rfl
set_option maxRecDepth 20000 in
theorem se_C_clear : Cond.selects "ModuleShelf$Code" xy_C_clear xy_C_clear ∈ gw_l := gw_of 259 (by rfl) rfl
theorem na_C_clear : aw_nm xy_C_clear 1 := ⟨by decide, by decide, by decide +kernel⟩
set_option maxRecDepth 20000 in
theorem im_S_procedure : Cond.instanceMethod xy_S_procedure ∈ gw_l := gw_of 262 (by rfl) rfl
set_option maxRecDepth 20000 in
theorem se_S_procedure : Cond.selects "ModuleShelf" xy_S_procedure xy_S_procedure ∈ gw_l := gw_of 263 (by rfl) rfl
theorem na_S_procedure : aw_nm xy_S_procedure 1 := ⟨by decide, by decide, by decide +kernel⟩
set_option maxRecDepth 20000 in
theorem im_C_addProcedure : Cond.instanceMethod xy_C_addProcedure ∈ gw_l := gw_of 266 (by rfl) rfl
set_option maxRecDepth 20000 in
theorem se_C_addProcedure : Cond.selects "ModuleShelf$Code" xy_C_addProcedure xy_C_addProcedure ∈ gw_l := gw_of 267 (by rfl) rfl
theorem na_C_addProcedure : aw_nm xy_C_addProcedure 1 := ⟨by decide, by decide, by decide +kernel⟩
set_option maxRecDepth 20000 in
theorem im_S_token : Cond.instanceMethod xy_S_token ∈ gw_l := gw_of 270 (by rfl) rfl
set_option maxRecDepth 20000 in
theorem se_S_token : Cond.selects "ModuleShelf" xy_S_token xy_S_token ∈ gw_l := gw_of 271 (by rfl) rfl
theorem na_S_token : aw_nm xy_S_token 3 := ⟨by decide, by decide, by decide +kernel⟩
set_option maxRecDepth 20000 in
theorem im_C_addToken : Cond.instanceMethod xy_C_addToken ∈ gw_l := gw_of 274 (by rfl) rfl
set_option maxRecDepth 20000 in
theorem se_C_addToken : Cond.selects "ModuleShelf$Code" xy_C_addToken xy_C_addToken ∈ gw_l := gw_of 275 (by rfl) rfl
theorem na_C_addToken : aw_nm xy_C_addToken 3 := ⟨by decide, by decide, by decide +kernel⟩
set_option maxRecDepth 20000 in
theorem im_C_cellOf : Cond.instanceMethod xy_C_cellOf ∈ gw_l := gw_of 278 (by rfl) rfl
set_option maxRecDepth 20000 in
theorem se_C_cellOf : Cond.selects "ModuleShelf$Code" xy_C_cellOf xy_C_cellOf ∈ gw_l := gw_of 279 (by rfl) rfl
theorem na_C_cellOf : aw_nm xy_C_cellOf 2 := ⟨by decide, by decide, by decide +kernel⟩
set_option maxRecDepth 20000 in
theorem im_S_compile : Cond.instanceMethod xy_S_compile ∈ gw_l := gw_of 282 (by rfl) rfl
set_option maxRecDepth 20000 in
theorem se_S_compile : Cond.selects "ModuleShelf" xy_S_compile xy_S_compile ∈ gw_l := gw_of 283 (by rfl) rfl
theorem na_S_compile : aw_nm xy_S_compile 1 := ⟨by decide, by decide, by decide +kernel⟩
set_option maxRecDepth 20000 in
theorem st_S_isModule : Cond.static xy_S_isModule ∈ gw_l := gw_of 286 (by rfl) rfl
theorem na_S_isModule : aw_nm xy_S_isModule 1 := ⟨by decide, by decide, by decide +kernel⟩
set_option maxRecDepth 20000 in
theorem im_L_firstWrong : Cond.instanceMethod xy_L_firstWrong ∈ gw_l := gw_of 289 (by rfl) rfl
set_option maxRecDepth 20000 in
theorem se_L_firstWrong : Cond.selects "ModuleShelf$Library" xy_L_firstWrong xy_L_firstWrong ∈ gw_l := gw_of 290 (by rfl) rfl
theorem na_L_firstWrong : aw_nm xy_L_firstWrong 2 := ⟨by decide, by decide, by decide +kernel⟩
set_option maxRecDepth 20000 in
theorem im_L_isExpression : Cond.instanceMethod xy_L_isExpression ∈ gw_l := gw_of 294 (by rfl) rfl
set_option maxRecDepth 20000 in
theorem se_L_isExpression : Cond.selects "ModuleShelf$Library" xy_L_isExpression xy_L_isExpression ∈ gw_l := gw_of 0 (by rfl) rfl
theorem na_L_isExpression : aw_nm xy_L_isExpression 4 := ⟨by decide, by decide, by decide +kernel⟩
set_option maxRecDepth 20000 in
theorem im_C_lengthOf : Cond.instanceMethod xy_C_lengthOf ∈ gw_l := gw_of 297 (by rfl) rfl
set_option maxRecDepth 20000 in
theorem se_C_lengthOf : Cond.selects "ModuleShelf$Code" xy_C_lengthOf xy_C_lengthOf ∈ gw_l := gw_of 298 (by rfl) rfl
theorem na_C_lengthOf : aw_nm xy_C_lengthOf 1 := ⟨by decide, by decide, by decide +kernel⟩
set_option maxRecDepth 20000 in
theorem im_C_hasProcedure : Cond.instanceMethod xy_C_hasProcedure ∈ gw_l := gw_of 301 (by rfl) rfl
set_option maxRecDepth 20000 in
theorem se_C_hasProcedure : Cond.selects "ModuleShelf$Code" xy_C_hasProcedure xy_C_hasProcedure ∈ gw_l := gw_of 302 (by rfl) rfl
theorem na_C_hasProcedure : aw_nm xy_C_hasProcedure 1 := ⟨by decide, by decide, by decide +kernel⟩
set_option maxRecDepth 20000 in
theorem im_L_isRight : Cond.instanceMethod xy_L_isRight ∈ gw_l := gw_of 307 (by rfl) rfl
set_option maxRecDepth 20000 in
theorem se_L_isRight : Cond.selects "ModuleShelf$Library" xy_L_isRight xy_L_isRight ∈ gw_l := gw_of 1 (by rfl) rfl
theorem na_L_isRight : aw_nm xy_L_isRight 4 := ⟨by decide, by decide, by decide +kernel⟩
set_option maxRecDepth 20000 in
theorem im_C_argumentsOf : Cond.instanceMethod xy_C_argumentsOf ∈ gw_l := gw_of 310 (by rfl) rfl
set_option maxRecDepth 20000 in
theorem se_C_argumentsOf : Cond.selects "ModuleShelf$Code" xy_C_argumentsOf xy_C_argumentsOf ∈ gw_l := gw_of 311 (by rfl) rfl
theorem na_C_argumentsOf : aw_nm xy_C_argumentsOf 1 := ⟨by decide, by decide, by decide +kernel⟩
set_option maxRecDepth 20000 in
theorem im_C_hasVariable : Cond.instanceMethod xy_C_hasVariable ∈ gw_l := gw_of 314 (by rfl) rfl
set_option maxRecDepth 20000 in
theorem se_C_hasVariable : Cond.selects "ModuleShelf$Code" xy_C_hasVariable xy_C_hasVariable ∈ gw_l := gw_of 315 (by rfl) rfl
theorem na_C_hasVariable : aw_nm xy_C_hasVariable 1 := ⟨by decide, by decide, by decide +kernel⟩
set_option maxRecDepth 20000 in
theorem im_L_has : Cond.instanceMethod xy_L_has ∈ gw_l := gw_of 318 (by rfl) rfl
set_option maxRecDepth 20000 in
theorem se_L_has : Cond.selects "ModuleShelf$Library" xy_L_has xy_L_has ∈ gw_l := gw_of 319 (by rfl) rfl
theorem na_L_has : aw_nm xy_L_has 1 := ⟨by decide, by decide, by decide +kernel⟩
set_option maxRecDepth 20000 in
theorem im_L_argumentsOf : Cond.instanceMethod xy_L_argumentsOf ∈ gw_l := gw_of 324 (by rfl) rfl
set_option maxRecDepth 20000 in
theorem se_L_argumentsOf : Cond.selects "ModuleShelf$Library" xy_L_argumentsOf xy_L_argumentsOf ∈ gw_l := gw_of 2 (by rfl) rfl
theorem na_L_argumentsOf : aw_nm xy_L_argumentsOf 4 := ⟨by decide, by decide, by decide +kernel⟩
set_option maxRecDepth 20000 in
theorem im_L_partsOf : Cond.instanceMethod xy_L_partsOf ∈ gw_l := gw_of 328 (by rfl) rfl
set_option maxRecDepth 20000 in
theorem se_L_partsOf : Cond.selects "ModuleShelf$Library" xy_L_partsOf xy_L_partsOf ∈ gw_l := gw_of 3 (by rfl) rfl
theorem na_L_partsOf : aw_nm xy_L_partsOf 3 := ⟨by decide, by decide, by decide +kernel⟩
set_option maxRecDepth 20000 in
theorem im_L_keep : Cond.instanceMethod xy_L_keep ∈ gw_l := gw_of 333 (by rfl) rfl
set_option maxRecDepth 20000 in
theorem se_L_keep : Cond.selects "ModuleShelf$Library" xy_L_keep xy_L_keep ∈ gw_l := gw_of 334 (by rfl) rfl
theorem na_L_keep : aw_nm xy_L_keep 2 := ⟨by decide, by decide, by decide +kernel⟩
set_option maxRecDepth 20000 in
theorem im_C_hasInterfaceOf : Cond.instanceMethod xy_C_hasInterfaceOf ∈ gw_l := gw_of 337 (by rfl) rfl
set_option maxRecDepth 20000 in
theorem se_C_hasInterfaceOf : Cond.selects "ModuleShelf$Code" xy_C_hasInterfaceOf xy_C_hasInterfaceOf ∈ gw_l := gw_of 338 (by rfl) rfl
theorem na_C_hasInterfaceOf : aw_nm xy_C_hasInterfaceOf 1 := ⟨by decide, by decide, by decide +kernel⟩
set_option maxRecDepth 20000 in
theorem im_C_copyFrom : Cond.instanceMethod xy_C_copyFrom ∈ gw_l := gw_of 341 (by rfl) rfl
set_option maxRecDepth 20000 in
theorem se_C_copyFrom : Cond.selects "ModuleShelf$Code" xy_C_copyFrom xy_C_copyFrom ∈ gw_l := gw_of 342 (by rfl) rfl
theorem na_C_copyFrom : aw_nm xy_C_copyFrom 1 := ⟨by decide, by decide, by decide +kernel⟩
set_option maxRecDepth 20000 in
theorem im_L_gatherImports : Cond.instanceMethod xy_L_gatherImports ∈ gw_l := gw_of 349 (by rfl) rfl
set_option maxRecDepth 20000 in
theorem se_L_gatherImports : Cond.selects "ModuleShelf$Library" xy_L_gatherImports xy_L_gatherImports ∈ gw_l := gw_of 4 (by rfl) rfl
theorem na_L_gatherImports : aw_nm xy_L_gatherImports 2 := ⟨by decide, by decide, by decide +kernel⟩
set_option maxRecDepth 20000 in
theorem im_U_addImport : Cond.instanceMethod xy_U_addImport ∈ gw_l := gw_of 352 (by rfl) rfl
set_option maxRecDepth 20000 in
theorem se_U_addImport : Cond.selects "ModuleShelf$Unit" xy_U_addImport xy_U_addImport ∈ gw_l := gw_of 353 (by rfl) rfl
theorem na_U_addImport : aw_nm xy_U_addImport 2 := ⟨by decide, by decide, by decide +kernel⟩
set_option maxRecDepth 20000 in
theorem im_U_hasImport : Cond.instanceMethod xy_U_hasImport ∈ gw_l := gw_of 356 (by rfl) rfl
set_option maxRecDepth 20000 in
theorem se_U_hasImport : Cond.selects "ModuleShelf$Unit" xy_U_hasImport xy_U_hasImport ∈ gw_l := gw_of 357 (by rfl) rfl
theorem na_U_hasImport : aw_nm xy_U_hasImport 1 := ⟨by decide, by decide, by decide +kernel⟩
set_option maxRecDepth 20000 in
theorem im_S_place : Cond.instanceMethod xy_S_place ∈ gw_l := gw_of 360 (by rfl) rfl
set_option maxRecDepth 20000 in
theorem se_S_place : Cond.selects "ModuleShelf" xy_S_place xy_S_place ∈ gw_l := gw_of 361 (by rfl) rfl
theorem na_S_place : aw_nm xy_S_place 0 := ⟨by decide, by decide, by decide +kernel⟩
set_option maxRecDepth 20000 in
theorem im_S_remove : Cond.instanceMethod xy_S_remove ∈ gw_l := gw_of 364 (by rfl) rfl
set_option maxRecDepth 20000 in
theorem se_S_remove : Cond.selects "ModuleShelf" xy_S_remove xy_S_remove ∈ gw_l := gw_of 365 (by rfl) rfl
theorem na_S_remove : aw_nm xy_S_remove 1 := ⟨by decide, by decide, by decide +kernel⟩
set_option maxRecDepth 20000 in
theorem im_S_load : Cond.instanceMethod xy_S_load ∈ gw_l := gw_of 369 (by rfl) rfl
set_option maxRecDepth 20000 in
theorem se_S_load : Cond.selects "ModuleShelf" xy_S_load xy_S_load ∈ gw_l := gw_of 370 (by rfl) rfl
theorem na_S_load : aw_nm xy_S_load 1 := ⟨by decide, by decide, by decide +kernel⟩
set_option maxRecDepth 20000 in
theorem im_M_bring : Cond.instanceMethod xy_M_bring ∈ gw_l := gw_of 373 (by rfl) rfl
set_option maxRecDepth 20000 in
theorem se_M_bring : Cond.selects "ModuleShelf$Memory" xy_M_bring xy_M_bring ∈ gw_l := gw_of 374 (by rfl) rfl
theorem na_M_bring : aw_nm xy_M_bring 2 := ⟨by decide, by decide, by decide +kernel⟩
set_option maxRecDepth 20000 in
theorem im_M_held : Cond.instanceMethod xy_M_held ∈ gw_l := gw_of 377 (by rfl) rfl
set_option maxRecDepth 20000 in
theorem se_M_held : Cond.selects "ModuleShelf$Memory" xy_M_held xy_M_held ∈ gw_l := gw_of 378 (by rfl) rfl
theorem na_M_held : aw_nm xy_M_held 0 := ⟨by decide, by decide, by decide +kernel⟩
set_option maxRecDepth 20000 in
theorem im_M_has : Cond.instanceMethod xy_M_has ∈ gw_l := gw_of 381 (by rfl) rfl
set_option maxRecDepth 20000 in
theorem se_M_has : Cond.selects "ModuleShelf$Memory" xy_M_has xy_M_has ∈ gw_l := gw_of 382 (by rfl) rfl
theorem na_M_has : aw_nm xy_M_has 1 := ⟨by decide, by decide, by decide +kernel⟩
set_option maxRecDepth 20000 in
theorem im_M_bringOne : Cond.instanceMethod xy_M_bringOne ∈ gw_l := gw_of 387 (by rfl) rfl
set_option maxRecDepth 20000 in
theorem se_M_bringOne : Cond.selects "ModuleShelf$Memory" xy_M_bringOne xy_M_bringOne ∈ gw_l := gw_of 5 (by rfl) rfl
theorem na_M_bringOne : aw_nm xy_M_bringOne 3 := ⟨by decide, by decide, by decide +kernel⟩
set_option maxRecDepth 20000 in
theorem im_M_size : Cond.instanceMethod xy_M_size ∈ gw_l := gw_of 391 (by rfl) rfl
set_option maxRecDepth 20000 in
theorem se_M_size : Cond.selects "ModuleShelf$Memory" xy_M_size xy_M_size ∈ gw_l := gw_of 392 (by rfl) rfl
theorem na_M_size : aw_nm xy_M_size 0 := ⟨by decide, by decide, by decide +kernel⟩
set_option maxRecDepth 20000 in
theorem im_C_size : Cond.instanceMethod xy_C_size ∈ gw_l := gw_of 395 (by rfl) rfl
set_option maxRecDepth 20000 in
theorem se_C_size : Cond.selects "ModuleShelf$Code" xy_C_size xy_C_size ∈ gw_l := gw_of 396 (by rfl) rfl
theorem na_C_size : aw_nm xy_C_size 0 := ⟨by decide, by decide, by decide +kernel⟩
set_option maxRecDepth 20000 in
theorem im_I_fill : Cond.instanceMethod xy_I_fill ∈ gw_l := gw_of 399 (by rfl) rfl
set_option maxRecDepth 20000 in
theorem se_I_fill : Cond.selects "ModuleShelf$Image" xy_I_fill xy_I_fill ∈ gw_l := gw_of 400 (by rfl) rfl
theorem na_I_fill : aw_nm xy_I_fill 1 := ⟨by decide, by decide, by decide +kernel⟩
set_option maxRecDepth 20000 in
theorem im_U_copyFrom : Cond.instanceMethod xy_U_copyFrom ∈ gw_l := gw_of 403 (by rfl) rfl
set_option maxRecDepth 20000 in
theorem se_U_copyFrom : Cond.selects "ModuleShelf$Unit" xy_U_copyFrom xy_U_copyFrom ∈ gw_l := gw_of 404 (by rfl) rfl
theorem na_U_copyFrom : aw_nm xy_U_copyFrom 1 := ⟨by decide, by decide, by decide +kernel⟩
set_option maxRecDepth 20000 in
theorem st_A_fill : Cond.static xy_A_fill ∈ gw_l := gw_of 409 (by rfl) rfl
theorem na_A_fill : aw_nm xy_A_fill 2 := ⟨by decide, by decide, by decide +kernel⟩
set_option maxRecDepth 20000 in
theorem im_M_dropBegun : Cond.instanceMethod xy_M_dropBegun ∈ gw_l := gw_of 413 (by rfl) rfl
set_option maxRecDepth 20000 in
theorem se_M_dropBegun : Cond.selects "ModuleShelf$Memory" xy_M_dropBegun xy_M_dropBegun ∈ gw_l := gw_of 6 (by rfl) rfl
theorem na_M_dropBegun : aw_nm xy_M_dropBegun 0 := ⟨by decide, by decide, by decide +kernel⟩
set_option maxRecDepth 20000 in
theorem im_S_unload : Cond.instanceMethod xy_S_unload ∈ gw_l := gw_of 416 (by rfl) rfl
set_option maxRecDepth 20000 in
theorem se_S_unload : Cond.selects "ModuleShelf" xy_S_unload xy_S_unload ∈ gw_l := gw_of 417 (by rfl) rfl
theorem na_S_unload : aw_nm xy_S_unload 1 := ⟨by decide, by decide, by decide +kernel⟩
set_option maxRecDepth 20000 in
theorem im_M_isImported : Cond.instanceMethod xy_M_isImported ∈ gw_l := gw_of 421 (by rfl) rfl
set_option maxRecDepth 20000 in
theorem se_M_isImported : Cond.selects "ModuleShelf$Memory" xy_M_isImported xy_M_isImported ∈ gw_l := gw_of 422 (by rfl) rfl
theorem na_M_isImported : aw_nm xy_M_isImported 1 := ⟨by decide, by decide, by decide +kernel⟩
set_option maxRecDepth 20000 in
theorem im_S_run : Cond.instanceMethod xy_S_run ∈ gw_l := gw_of 426 (by rfl) rfl
set_option maxRecDepth 20000 in
theorem se_S_run : Cond.selects "ModuleShelf" xy_S_run xy_S_run ∈ gw_l := gw_of 427 (by rfl) rfl
theorem na_S_run : aw_nm xy_S_run 4 := ⟨by decide, by decide, by decide +kernel⟩
set_option maxRecDepth 20000 in
theorem im_M_argumentsOf : Cond.instanceMethod xy_M_argumentsOf ∈ gw_l := gw_of 430 (by rfl) rfl
set_option maxRecDepth 20000 in
theorem se_M_argumentsOf : Cond.selects "ModuleShelf$Memory" xy_M_argumentsOf xy_M_argumentsOf ∈ gw_l := gw_of 431 (by rfl) rfl
theorem na_M_argumentsOf : aw_nm xy_M_argumentsOf 2 := ⟨by decide, by decide, by decide +kernel⟩
set_option maxRecDepth 20000 in
theorem im_N_start : Cond.instanceMethod xy_N_start ∈ gw_l := gw_of 435 (by rfl) rfl
set_option maxRecDepth 20000 in
theorem se_N_start : Cond.selects "ModuleShelf$Machine" xy_N_start xy_N_start ∈ gw_l := gw_of 436 (by rfl) rfl
theorem na_N_start : aw_nm xy_N_start 5 := ⟨by decide, by decide, by decide +kernel⟩
set_option maxRecDepth 20000 in
theorem im_F_open : Cond.instanceMethod xy_F_open ∈ gw_l := gw_of 439 (by rfl) rfl
set_option maxRecDepth 20000 in
theorem se_F_open : Cond.selects "ModuleShelf$Frame" xy_F_open xy_F_open ∈ gw_l := gw_of 440 (by rfl) rfl
theorem na_F_open : aw_nm xy_F_open 4 := ⟨by decide, by decide, by decide +kernel⟩
set_option maxRecDepth 20000 in
theorem im_N_work : Cond.instanceMethod xy_N_work ∈ gw_l := gw_of 444 (by rfl) rfl
set_option maxRecDepth 20000 in
theorem se_N_work : Cond.selects "ModuleShelf$Machine" xy_N_work xy_N_work ∈ gw_l := gw_of 7 (by rfl) rfl
theorem na_N_work : aw_nm xy_N_work 3 := ⟨by decide, by decide, by decide +kernel⟩
set_option maxRecDepth 20000 in
theorem im_N_fail : Cond.instanceMethod xy_N_fail ∈ gw_l := gw_of 449 (by rfl) rfl
set_option maxRecDepth 20000 in
theorem se_N_fail : Cond.selects "ModuleShelf$Machine" xy_N_fail xy_N_fail ∈ gw_l := gw_of 8 (by rfl) rfl
theorem na_N_fail : aw_nm xy_N_fail 1 := ⟨by decide, by decide, by decide +kernel⟩
set_option maxRecDepth 20000 in
theorem im_M_valueOf : Cond.instanceMethod xy_M_valueOf ∈ gw_l := gw_of 453 (by rfl) rfl
set_option maxRecDepth 20000 in
theorem se_M_valueOf : Cond.selects "ModuleShelf$Memory" xy_M_valueOf xy_M_valueOf ∈ gw_l := gw_of 454 (by rfl) rfl
theorem na_M_valueOf : aw_nm xy_M_valueOf 2 := ⟨by decide, by decide, by decide +kernel⟩
set_option maxRecDepth 20000 in
theorem im_N_assign : Cond.instanceMethod xy_N_assign ∈ gw_l := gw_of 459 (by rfl) rfl
set_option maxRecDepth 20000 in
theorem se_N_assign : Cond.selects "ModuleShelf$Machine" xy_N_assign xy_N_assign ∈ gw_l := gw_of 9 (by rfl) rfl
theorem na_N_assign : aw_nm xy_N_assign 4 := ⟨by decide, by decide, by decide +kernel⟩
set_option maxRecDepth 20000 in
theorem im_M_setValue : Cond.instanceMethod xy_M_setValue ∈ gw_l := gw_of 462 (by rfl) rfl
set_option maxRecDepth 20000 in
theorem se_M_setValue : Cond.selects "ModuleShelf$Memory" xy_M_setValue xy_M_setValue ∈ gw_l := gw_of 463 (by rfl) rfl
theorem na_M_setValue : aw_nm xy_M_setValue 3 := ⟨by decide, by decide, by decide +kernel⟩
set_option maxRecDepth 20000 in
theorem im_N_choose : Cond.instanceMethod xy_N_choose ∈ gw_l := gw_of 467 (by rfl) rfl
set_option maxRecDepth 20000 in
theorem se_N_choose : Cond.selects "ModuleShelf$Machine" xy_N_choose xy_N_choose ∈ gw_l := gw_of 10 (by rfl) rfl
theorem na_N_choose : aw_nm xy_N_choose 3 := ⟨by decide, by decide, by decide +kernel⟩
set_option maxRecDepth 20000 in
theorem im_N_skip : Cond.instanceMethod xy_N_skip ∈ gw_l := gw_of 471 (by rfl) rfl
set_option maxRecDepth 20000 in
theorem se_N_skip : Cond.selects "ModuleShelf$Machine" xy_N_skip xy_N_skip ∈ gw_l := gw_of 11 (by rfl) rfl
theorem na_N_skip : aw_nm xy_N_skip 2 := ⟨by decide, by decide, by decide +kernel⟩
set_option maxRecDepth 20000 in
theorem im_N_enter : Cond.instanceMethod xy_N_enter ∈ gw_l := gw_of 480 (by rfl) rfl
set_option maxRecDepth 20000 in
theorem se_N_enter : Cond.selects "ModuleShelf$Machine" xy_N_enter xy_N_enter ∈ gw_l := gw_of 12 (by rfl) rfl
theorem na_N_enter : aw_nm xy_N_enter 5 := ⟨by decide, by decide, by decide +kernel⟩
set_option maxRecDepth 20000 in
theorem im_N_combine : Cond.instanceMethod xy_N_combine ∈ gw_l := gw_of 484 (by rfl) rfl
set_option maxRecDepth 20000 in
theorem se_N_combine : Cond.selects "ModuleShelf$Machine" xy_N_combine xy_N_combine ∈ gw_l := gw_of 13 (by rfl) rfl
theorem na_N_combine : aw_nm xy_N_combine 4 := ⟨by decide, by decide, by decide +kernel⟩
set_option maxRecDepth 20000 in
theorem im_S_value : Cond.instanceMethod xy_S_value ∈ gw_l := gw_of 487 (by rfl) rfl
set_option maxRecDepth 20000 in
theorem se_S_value : Cond.selects "ModuleShelf" xy_S_value xy_S_value ∈ gw_l := gw_of 488 (by rfl) rfl
theorem na_S_value : aw_nm xy_S_value 0 := ⟨by decide, by decide, by decide +kernel⟩
set_option maxRecDepth 20000 in
theorem im_S_steps : Cond.instanceMethod xy_S_steps ∈ gw_l := gw_of 491 (by rfl) rfl
set_option maxRecDepth 20000 in
theorem se_S_steps : Cond.selects "ModuleShelf" xy_S_steps xy_S_steps ∈ gw_l := gw_of 492 (by rfl) rfl
theorem na_S_steps : aw_nm xy_S_steps 0 := ⟨by decide, by decide, by decide +kernel⟩
set_option maxRecDepth 20000 in
theorem im_S_variable : Cond.instanceMethod xy_S_variable ∈ gw_l := gw_of 495 (by rfl) rfl
set_option maxRecDepth 20000 in
theorem se_S_variable : Cond.selects "ModuleShelf" xy_S_variable xy_S_variable ∈ gw_l := gw_of 496 (by rfl) rfl
theorem na_S_variable : aw_nm xy_S_variable 2 := ⟨by decide, by decide, by decide +kernel⟩
set_option maxRecDepth 20000 in
theorem im_S_key : Cond.instanceMethod xy_S_key ∈ gw_l := gw_of 500 (by rfl) rfl
set_option maxRecDepth 20000 in
theorem se_S_key : Cond.selects "ModuleShelf" xy_S_key xy_S_key ∈ gw_l := gw_of 501 (by rfl) rfl
theorem na_S_key : aw_nm xy_S_key 1 := ⟨by decide, by decide, by decide +kernel⟩
set_option maxRecDepth 20000 in
theorem im_S_loaded : Cond.instanceMethod xy_S_loaded ∈ gw_l := gw_of 504 (by rfl) rfl
set_option maxRecDepth 20000 in
theorem se_S_loaded : Cond.selects "ModuleShelf" xy_S_loaded xy_S_loaded ∈ gw_l := gw_of 505 (by rfl) rfl
theorem na_S_loaded : aw_nm xy_S_loaded 1 := ⟨by decide, by decide, by decide +kernel⟩
set_option maxRecDepth 20000 in
theorem im_S_imported : Cond.instanceMethod xy_S_imported ∈ gw_l := gw_of 508 (by rfl) rfl
set_option maxRecDepth 20000 in
theorem se_S_imported : Cond.selects "ModuleShelf" xy_S_imported xy_S_imported ∈ gw_l := gw_of 509 (by rfl) rfl
theorem na_S_imported : aw_nm xy_S_imported 2 := ⟨by decide, by decide, by decide +kernel⟩
set_option maxRecDepth 20000 in
theorem im_S_count : Cond.instanceMethod xy_S_count ∈ gw_l := gw_of 512 (by rfl) rfl
set_option maxRecDepth 20000 in
theorem se_S_count : Cond.selects "ModuleShelf" xy_S_count xy_S_count ∈ gw_l := gw_of 513 (by rfl) rfl
theorem na_S_count : aw_nm xy_S_count 1 := ⟨by decide, by decide, by decide +kernel⟩
set_option maxRecDepth 20000 in
theorem im_L_held : Cond.instanceMethod xy_L_held ∈ gw_l := gw_of 517 (by rfl) rfl
set_option maxRecDepth 20000 in
theorem se_L_held : Cond.selects "ModuleShelf$Library" xy_L_held xy_L_held ∈ gw_l := gw_of 518 (by rfl) rfl
theorem na_L_held : aw_nm xy_L_held 0 := ⟨by decide, by decide, by decide +kernel⟩
set_option maxRecDepth 20000 in
theorem im_R_init : Cond.instanceMethod xy_R_init ∈ gw_l := gw_of 525 (by rfl) rfl
theorem na_R_init : aw_nm xy_R_init 0 := ⟨by decide, by decide, by decide +kernel⟩
set_option maxRecDepth 20000 in
theorem im_R_begin : Cond.instanceMethod xy_R_begin ∈ gw_l := gw_of 617 (by rfl) rfl
set_option maxRecDepth 20000 in
theorem se_R_begin : Cond.selects "ModuleShelfModel" xy_R_begin xy_R_begin ∈ gw_l := gw_of 618 (by rfl) rfl
theorem na_R_begin : aw_nm xy_R_begin 1 := ⟨by decide, by decide, by decide +kernel⟩
set_option maxRecDepth 20000 in
theorem st_R_in : Cond.static xy_R_in ∈ gw_l := gw_of 621 (by rfl) rfl
theorem na_R_in : aw_nm xy_R_in 3 := ⟨by decide, by decide, by decide +kernel⟩
set_option maxRecDepth 20000 in
theorem im_R_procedure : Cond.instanceMethod xy_R_procedure ∈ gw_l := gw_of 624 (by rfl) rfl
set_option maxRecDepth 20000 in
theorem se_R_procedure : Cond.selects "ModuleShelfModel" xy_R_procedure xy_R_procedure ∈ gw_l := gw_of 625 (by rfl) rfl
theorem na_R_procedure : aw_nm xy_R_procedure 1 := ⟨by decide, by decide, by decide +kernel⟩
set_option maxRecDepth 20000 in
theorem im_R_token : Cond.instanceMethod xy_R_token ∈ gw_l := gw_of 628 (by rfl) rfl
set_option maxRecDepth 20000 in
theorem se_R_token : Cond.selects "ModuleShelfModel" xy_R_token xy_R_token ∈ gw_l := gw_of 629 (by rfl) rfl
theorem na_R_token : aw_nm xy_R_token 3 := ⟨by decide, by decide, by decide +kernel⟩
set_option maxRecDepth 20000 in
theorem im_R_compile : Cond.instanceMethod xy_R_compile ∈ gw_l := gw_of 632 (by rfl) rfl
set_option maxRecDepth 20000 in
theorem se_R_compile : Cond.selects "ModuleShelfModel" xy_R_compile xy_R_compile ∈ gw_l := gw_of 633 (by rfl) rfl
theorem na_R_compile : aw_nm xy_R_compile 1 := ⟨by decide, by decide, by decide +kernel⟩
set_option maxRecDepth 20000 in
theorem im_R_firstWrong : Cond.instanceMethod xy_R_firstWrong ∈ gw_l := gw_of 637 (by rfl) rfl
set_option maxRecDepth 20000 in
theorem se_R_firstWrong : Cond.selects "ModuleShelfModel" xy_R_firstWrong xy_R_firstWrong ∈ gw_l := gw_of 14 (by rfl) rfl
theorem na_R_firstWrong : aw_nm xy_R_firstWrong 2 := ⟨by decide, by decide, by decide +kernel⟩
set_option maxRecDepth 20000 in
theorem im_R_partsOf : Cond.instanceMethod xy_R_partsOf ∈ gw_l := gw_of 641 (by rfl) rfl
set_option maxRecDepth 20000 in
theorem se_R_partsOf : Cond.selects "ModuleShelfModel" xy_R_partsOf xy_R_partsOf ∈ gw_l := gw_of 15 (by rfl) rfl
theorem na_R_partsOf : aw_nm xy_R_partsOf 3 := ⟨by decide, by decide, by decide +kernel⟩
set_option maxRecDepth 20000 in
theorem im_R_seen : Cond.instanceMethod xy_R_seen ∈ gw_l := gw_of 645 (by rfl) rfl
set_option maxRecDepth 20000 in
theorem se_R_seen : Cond.selects "ModuleShelfModel" xy_R_seen xy_R_seen ∈ gw_l := gw_of 16 (by rfl) rfl
theorem na_R_seen : aw_nm xy_R_seen 2 := ⟨by decide, by decide, by decide +kernel⟩
set_option maxRecDepth 20000 in
theorem im_R_findImports : Cond.instanceMethod xy_R_findImports ∈ gw_l := gw_of 649 (by rfl) rfl
set_option maxRecDepth 20000 in
theorem se_R_findImports : Cond.selects "ModuleShelfModel" xy_R_findImports xy_R_findImports ∈ gw_l := gw_of 17 (by rfl) rfl
theorem na_R_findImports : aw_nm xy_R_findImports 1 := ⟨by decide, by decide, by decide +kernel⟩
set_option maxRecDepth 20000 in
theorem im_R_alike : Cond.instanceMethod xy_R_alike ∈ gw_l := gw_of 653 (by rfl) rfl
set_option maxRecDepth 20000 in
theorem se_R_alike : Cond.selects "ModuleShelfModel" xy_R_alike xy_R_alike ∈ gw_l := gw_of 18 (by rfl) rfl
theorem na_R_alike : aw_nm xy_R_alike 1 := ⟨by decide, by decide, by decide +kernel⟩
set_option maxRecDepth 20000 in
theorem im_R_copy : Cond.instanceMethod xy_R_copy ∈ gw_l := gw_of 657 (by rfl) rfl
set_option maxRecDepth 20000 in
theorem se_R_copy : Cond.selects "ModuleShelfModel" xy_R_copy xy_R_copy ∈ gw_l := gw_of 19 (by rfl) rfl
theorem na_R_copy : aw_nm xy_R_copy 2 := ⟨by decide, by decide, by decide +kernel⟩
set_option maxRecDepth 20000 in
theorem im_R_place : Cond.instanceMethod xy_R_place ∈ gw_l := gw_of 660 (by rfl) rfl
set_option maxRecDepth 20000 in
theorem se_R_place : Cond.selects "ModuleShelfModel" xy_R_place xy_R_place ∈ gw_l := gw_of 661 (by rfl) rfl
theorem na_R_place : aw_nm xy_R_place 0 := ⟨by decide, by decide, by decide +kernel⟩
set_option maxRecDepth 20000 in
theorem im_R_remove : Cond.instanceMethod xy_R_remove ∈ gw_l := gw_of 664 (by rfl) rfl
set_option maxRecDepth 20000 in
theorem se_R_remove : Cond.selects "ModuleShelfModel" xy_R_remove xy_R_remove ∈ gw_l := gw_of 665 (by rfl) rfl
theorem na_R_remove : aw_nm xy_R_remove 1 := ⟨by decide, by decide, by decide +kernel⟩
set_option maxRecDepth 20000 in
theorem im_R_load : Cond.instanceMethod xy_R_load ∈ gw_l := gw_of 668 (by rfl) rfl
set_option maxRecDepth 20000 in
theorem se_R_load : Cond.selects "ModuleShelfModel" xy_R_load xy_R_load ∈ gw_l := gw_of 669 (by rfl) rfl
theorem na_R_load : aw_nm xy_R_load 1 := ⟨by decide, by decide, by decide +kernel⟩
set_option maxRecDepth 20000 in
theorem im_R_begins : Cond.instanceMethod xy_R_begins ∈ gw_l := gw_of 673 (by rfl) rfl
set_option maxRecDepth 20000 in
theorem se_R_begins : Cond.selects "ModuleShelfModel" xy_R_begins xy_R_begins ∈ gw_l := gw_of 20 (by rfl) rfl
theorem na_R_begins : aw_nm xy_R_begins 2 := ⟨by decide, by decide, by decide +kernel⟩
set_option maxRecDepth 20000 in
theorem im_R_cells : Cond.instanceMethod xy_R_cells ∈ gw_l := gw_of 677 (by rfl) rfl
set_option maxRecDepth 20000 in
theorem se_R_cells : Cond.selects "ModuleShelfModel" xy_R_cells xy_R_cells ∈ gw_l := gw_of 21 (by rfl) rfl
theorem na_R_cells : aw_nm xy_R_cells 1 := ⟨by decide, by decide, by decide +kernel⟩
set_option maxRecDepth 20000 in
theorem im_R_allCells : Cond.instanceMethod xy_R_allCells ∈ gw_l := gw_of 681 (by rfl) rfl
set_option maxRecDepth 20000 in
theorem se_R_allCells : Cond.selects "ModuleShelfModel" xy_R_allCells xy_R_allCells ∈ gw_l := gw_of 22 (by rfl) rfl
theorem na_R_allCells : aw_nm xy_R_allCells 0 := ⟨by decide, by decide, by decide +kernel⟩
set_option maxRecDepth 20000 in
theorem im_R_unload : Cond.instanceMethod xy_R_unload ∈ gw_l := gw_of 684 (by rfl) rfl
set_option maxRecDepth 20000 in
theorem se_R_unload : Cond.selects "ModuleShelfModel" xy_R_unload xy_R_unload ∈ gw_l := gw_of 685 (by rfl) rfl
theorem na_R_unload : aw_nm xy_R_unload 1 := ⟨by decide, by decide, by decide +kernel⟩
set_option maxRecDepth 20000 in
theorem im_R_run : Cond.instanceMethod xy_R_run ∈ gw_l := gw_of 688 (by rfl) rfl
set_option maxRecDepth 20000 in
theorem se_R_run : Cond.selects "ModuleShelfModel" xy_R_run xy_R_run ∈ gw_l := gw_of 689 (by rfl) rfl
theorem na_R_run : aw_nm xy_R_run 4 := ⟨by decide, by decide, by decide +kernel⟩
set_option maxRecDepth 20000 in
theorem im_R_enter : Cond.instanceMethod xy_R_enter ∈ gw_l := gw_of 693 (by rfl) rfl
set_option maxRecDepth 20000 in
theorem se_R_enter : Cond.selects "ModuleShelfModel" xy_R_enter xy_R_enter ∈ gw_l := gw_of 23 (by rfl) rfl
theorem na_R_enter : aw_nm xy_R_enter 5 := ⟨by decide, by decide, by decide +kernel⟩
set_option maxRecDepth 20000 in
theorem im_R_push : Cond.instanceMethod xy_R_push ∈ gw_l := gw_of 697 (by rfl) rfl
set_option maxRecDepth 20000 in
theorem se_R_push : Cond.selects "ModuleShelfModel" xy_R_push xy_R_push ∈ gw_l := gw_of 24 (by rfl) rfl
theorem na_R_push : aw_nm xy_R_push 3 := ⟨by decide, by decide, by decide +kernel⟩
set_option maxRecDepth 20000 in
theorem im_R_begin2 : Cond.instanceMethod xy_R_begin2 ∈ gw_l := gw_of 701 (by rfl) rfl
set_option maxRecDepth 20000 in
theorem se_R_begin2 : Cond.selects "ModuleShelfModel" xy_R_begin2 xy_R_begin2 ∈ gw_l := gw_of 25 (by rfl) rfl
theorem na_R_begin2 : aw_nm xy_R_begin2 2 := ⟨by decide, by decide, by decide +kernel⟩
set_option maxRecDepth 20000 in
theorem im_R_give : Cond.instanceMethod xy_R_give ∈ gw_l := gw_of 705 (by rfl) rfl
set_option maxRecDepth 20000 in
theorem se_R_give : Cond.selects "ModuleShelfModel" xy_R_give xy_R_give ∈ gw_l := gw_of 26 (by rfl) rfl
theorem na_R_give : aw_nm xy_R_give 1 := ⟨by decide, by decide, by decide +kernel⟩
set_option maxRecDepth 20000 in
theorem im_R_end : Cond.instanceMethod xy_R_end ∈ gw_l := gw_of 709 (by rfl) rfl
set_option maxRecDepth 20000 in
theorem se_R_end : Cond.selects "ModuleShelfModel" xy_R_end xy_R_end ∈ gw_l := gw_of 27 (by rfl) rfl
theorem na_R_end : aw_nm xy_R_end 1 := ⟨by decide, by decide, by decide +kernel⟩
set_option maxRecDepth 20000 in
theorem im_R_parts : Cond.instanceMethod xy_R_parts ∈ gw_l := gw_of 713 (by rfl) rfl
set_option maxRecDepth 20000 in
theorem se_R_parts : Cond.selects "ModuleShelfModel" xy_R_parts xy_R_parts ∈ gw_l := gw_of 28 (by rfl) rfl
theorem na_R_parts : aw_nm xy_R_parts 1 := ⟨by decide, by decide, by decide +kernel⟩
set_option maxRecDepth 20000 in
theorem im_R_use : Cond.instanceMethod xy_R_use ∈ gw_l := gw_of 717 (by rfl) rfl
set_option maxRecDepth 20000 in
theorem se_R_use : Cond.selects "ModuleShelfModel" xy_R_use xy_R_use ∈ gw_l := gw_of 29 (by rfl) rfl
theorem na_R_use : aw_nm xy_R_use 2 := ⟨by decide, by decide, by decide +kernel⟩
set_option maxRecDepth 20000 in
theorem im_R_take : Cond.instanceMethod xy_R_take ∈ gw_l := gw_of 721 (by rfl) rfl
set_option maxRecDepth 20000 in
theorem se_R_take : Cond.selects "ModuleShelfModel" xy_R_take xy_R_take ∈ gw_l := gw_of 30 (by rfl) rfl
theorem na_R_take : aw_nm xy_R_take 0 := ⟨by decide, by decide, by decide +kernel⟩
set_option maxRecDepth 20000 in
theorem st_R_quotient : Cond.static xy_R_quotient ∈ gw_l := gw_of 724 (by rfl) rfl
theorem na_R_quotient : aw_nm xy_R_quotient 2 := ⟨by decide, by decide, by decide +kernel⟩
set_option maxRecDepth 20000 in
theorem im_R_value : Cond.instanceMethod xy_R_value ∈ gw_l := gw_of 727 (by rfl) rfl
set_option maxRecDepth 20000 in
theorem se_R_value : Cond.selects "ModuleShelfModel" xy_R_value xy_R_value ∈ gw_l := gw_of 728 (by rfl) rfl
theorem na_R_value : aw_nm xy_R_value 0 := ⟨by decide, by decide, by decide +kernel⟩
set_option maxRecDepth 20000 in
theorem im_R_steps : Cond.instanceMethod xy_R_steps ∈ gw_l := gw_of 731 (by rfl) rfl
set_option maxRecDepth 20000 in
theorem se_R_steps : Cond.selects "ModuleShelfModel" xy_R_steps xy_R_steps ∈ gw_l := gw_of 732 (by rfl) rfl
theorem na_R_steps : aw_nm xy_R_steps 0 := ⟨by decide, by decide, by decide +kernel⟩
set_option maxRecDepth 20000 in
theorem im_R_variable : Cond.instanceMethod xy_R_variable ∈ gw_l := gw_of 735 (by rfl) rfl
set_option maxRecDepth 20000 in
theorem se_R_variable : Cond.selects "ModuleShelfModel" xy_R_variable xy_R_variable ∈ gw_l := gw_of 736 (by rfl) rfl
theorem na_R_variable : aw_nm xy_R_variable 2 := ⟨by decide, by decide, by decide +kernel⟩
set_option maxRecDepth 20000 in
theorem im_R_key : Cond.instanceMethod xy_R_key ∈ gw_l := gw_of 739 (by rfl) rfl
set_option maxRecDepth 20000 in
theorem se_R_key : Cond.selects "ModuleShelfModel" xy_R_key xy_R_key ∈ gw_l := gw_of 740 (by rfl) rfl
theorem na_R_key : aw_nm xy_R_key 1 := ⟨by decide, by decide, by decide +kernel⟩
set_option maxRecDepth 20000 in
theorem im_R_loaded : Cond.instanceMethod xy_R_loaded ∈ gw_l := gw_of 743 (by rfl) rfl
set_option maxRecDepth 20000 in
theorem se_R_loaded : Cond.selects "ModuleShelfModel" xy_R_loaded xy_R_loaded ∈ gw_l := gw_of 744 (by rfl) rfl
theorem na_R_loaded : aw_nm xy_R_loaded 1 := ⟨by decide, by decide, by decide +kernel⟩
set_option maxRecDepth 20000 in
theorem im_R_imported : Cond.instanceMethod xy_R_imported ∈ gw_l := gw_of 747 (by rfl) rfl
set_option maxRecDepth 20000 in
theorem se_R_imported : Cond.selects "ModuleShelfModel" xy_R_imported xy_R_imported ∈ gw_l := gw_of 748 (by rfl) rfl
theorem na_R_imported : aw_nm xy_R_imported 2 := ⟨by decide, by decide, by decide +kernel⟩
set_option maxRecDepth 20000 in
theorem im_R_count : Cond.instanceMethod xy_R_count ∈ gw_l := gw_of 751 (by rfl) rfl
set_option maxRecDepth 20000 in
theorem se_R_count : Cond.selects "ModuleShelfModel" xy_R_count xy_R_count ∈ gw_l := gw_of 752 (by rfl) rfl
theorem na_R_count : aw_nm xy_R_count 1 := ⟨by decide, by decide, by decide +kernel⟩
set_option maxRecDepth 20000 in
theorem wi_C : Cond.initialized "ModuleShelf$Code" ∈ gw_l := gw_of 33 (by rfl) rfl
set_option maxRecDepth 20000 in
theorem wi_F : Cond.initialized "ModuleShelf$Frame" ∈ gw_l := gw_of 39 (by rfl) rfl
set_option maxRecDepth 20000 in
theorem wi_I : Cond.initialized "ModuleShelf$Image" ∈ gw_l := gw_of 37 (by rfl) rfl
set_option maxRecDepth 20000 in
theorem wi_L : Cond.initialized "ModuleShelf$Library" ∈ gw_l := gw_of 34 (by rfl) rfl
set_option maxRecDepth 20000 in
theorem wi_N : Cond.initialized "ModuleShelf$Machine" ∈ gw_l := gw_of 38 (by rfl) rfl
set_option maxRecDepth 20000 in
theorem wi_M : Cond.initialized "ModuleShelf$Memory" ∈ gw_l := gw_of 36 (by rfl) rfl
set_option maxRecDepth 20000 in
theorem wi_U : Cond.initialized "ModuleShelf$Unit" ∈ gw_l := gw_of 35 (by rfl) rfl
set_option maxRecDepth 20000 in
theorem wi_S : Cond.initialized "ModuleShelf" ∈ gw_l := gw_of 32 (by rfl) rfl
set_option maxRecDepth 20000 in
theorem wi_R : Cond.initialized "ModuleShelfModel" ∈ gw_l := gw_of 40 (by rfl) rfl
set_option maxRecDepth 20000 in
theorem wi_A : Cond.initialized "java/util/Arrays" ∈ gw_l := gw_of 42 (by rfl) rfl
set_option maxRecDepth 20000 in
theorem wi_sys : Cond.initialized "java/lang/System" ∈ gw_l := gw_of 41 (by rfl) rfl
set_option maxRecDepth 20000 in
theorem wi_math : Cond.initialized "java/lang/Math" ∈ gw_l := gw_of 43 (by rfl) rfl
set_option maxRecDepth 20000 in
theorem wn_copy : Cond.native arraycopyName ∈ gw_l := gw_of 346 (by rfl) rfl
set_option maxRecDepth 20000 in
theorem ws_copy : Cond.static arraycopyName ∈ gw_l := gw_of 345 (by rfl) rfl
set_option maxRecDepth 20000 in
theorem ws_max : Cond.static Lib.Math.max.name ∈ gw_l := gw_of 476 (by rfl) rfl
set_option maxRecDepth 20000 in
theorem wc_max : Cond.code Lib.Math.max.name Lib.Math.max.code 2 (some .int) ∈ gw_l := gw_of 477 (by rfl) rfl
