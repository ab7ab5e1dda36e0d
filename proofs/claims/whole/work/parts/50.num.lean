/-! PURE PART: numbers, memories, the state that both sides encode -/
theorem nz_0 : (0 : Int32) = nI 0 := rfl
theorem nz_1 : (1 : Int32) = nI 1 := rfl
theorem nz_2 : (2 : Int32) = nI 2 := rfl
theorem nz_3 : (3 : Int32) = nI 3 := rfl
theorem nz_4 : (4 : Int32) = nI 4 := rfl
theorem nz_5 : (5 : Int32) = nI 5 := rfl
theorem nz_6 : (6 : Int32) = nI 6 := rfl
theorem nz_7 : (7 : Int32) = nI 7 := rfl
theorem nz_8 : (8 : Int32) = nI 8 := rfl
theorem nz_9 : (9 : Int32) = nI 9 := rfl
theorem nz_10 : (10 : Int32) = nI 10 := rfl
theorem nz_11 : (11 : Int32) = nI 11 := rfl
theorem nz_12 : (12 : Int32) = nI 12 := rfl
theorem nz_14 : (14 : Int32) = nI 14 := rfl
theorem nz_16 : (16 : Int32) = nI 16 := rfl
theorem nz_36 : (36 : Int32) = nI 36 := rfl
theorem nz_42 : (42 : Int32) = nI 42 := rfl
theorem nz_50 : (50 : Int32) = nI 50 := rfl
theorem nz_60 : (60 : Int32) = nI 60 := rfl
theorem nz_120 : (120 : Int32) = nI 120 := rfl
theorem in_nI {k n : Nat} (h : k < n) (hn : n < 2 ^ 31) : aw_in (nI k) n = true := by
  unfold aw_in
  exact decide_eq_true (nI_in h hn)
theorem lt_nI {a b : Nat} (ha : a < 2 ^ 31) (hb : b < 2 ^ 31) : (nI a < nI b) = (a < b) := propext (nI_ltI ha hb)
theorem le_nI {a b : Nat} (ha : a < 2 ^ 31) (hb : b < 2 ^ 31) : (nI a ≤ nI b) = (a ≤ b) := propext (nI_leI ha hb)
theorem eq_nI {a b : Nat} (ha : a < 2 ^ 31) (hb : b < 2 ^ 31) : (nI a = nI b) = (a = b) := propext (nI_eq ha hb)
theorem tn_nI {a : Nat} (h : a < 2 ^ 31) : Int32.toNatClampNeg (nI a) = a := nI_clamp h
theorem ad_nI (a b : Nat) : nI a + nI b = nI (a + b) := nI_add a b
theorem mu_nI (a b : Nat) : nI a * nI b = nI (a * b) := pk_mul a b
theorem su_nI {a b : Nat} (h : b ≤ a) : nI a - nI b = nI (a - b) := pk_sub h
/-- an int is below 0, or a number -/
theorem ng_or (x : Int32) : x < 0 ∨ ∃ k : Nat, k < 2 ^ 31 ∧ x = nI k := by
  by_cases h : x < 0
  · exact Or.inl h
  · exact Or.inr (nI_of h)
theorem aw_pk {σ : aw_m} {k i k' : Nat} {v : Int32} (h : k' ≠ k) : aw_p σ k i v k' = σ k' := by
  unfold aw_p aw_s
  exact if_neg h
theorem aw_pe {σ : aw_m} {k i : Nat} {v : Int32} : aw_p σ k i v k = upd (σ k) i v := by
  unfold aw_p aw_s
  exact if_pos rfl
theorem up_e {f : Nat → Int32} {i : Nat} {v : Int32} : upd f i v i = v := by unfold upd; exact if_pos rfl
theorem up_n {f : Nat → Int32} {i j : Nat} {v : Int32} (h : j ≠ i) : upd f i v j = f j := by unfold upd; exact if_neg h
theorem aw_cpk {σ : aw_m} {k0 k1 sp dp n k' : Nat} (h : k' ≠ k1) : aw_c σ k0 k1 sp dp n k' = σ k' := by
  unfold aw_c aw_s
  exact if_neg h
theorem aw_cpe {σ : aw_m} {k0 k1 sp dp n : Nat} : aw_c σ k0 k1 sp dp n k1 = va_cpy (σ k0) (σ k1) sp dp n := by
  unfold aw_c aw_s
  exact if_pos rfl
theorem cp_in {f g : Nat → Int32} {n j : Nat} (h : j < n) : va_cpy f g 0 0 n j = f j := by
  rw [pk_cpy_in (Nat.zero_le _) (by omega)]
  congr 1
  omega
theorem l_eq {α : Type} {s : aw_m} {f : aw_m → α} : aw_l s f = f s := rfl
theorem b_some {α β : Type} {a : α} {f : α → Option β} : (some a).bind f = f a := rfl
/-! The state: S t e i numbers (0 variables, 1 procedures, 2 arguments, 3 lengths, 4 ops, 5 key, 6 imports, 7 import modules, 8 import keys, 9 given, 10 steps), Z t e i ints (0 a, 1 b, 2 values, 3 place, 4 result); e: 0 to 5 objects, 6 to 11 loaded, 12 the draft -/
abbrev gs_S : Type := Nat → Nat → Nat → Nat
abbrev gs_Z : Type := Nat → Nat → Nat → Int32
def g3 {α : Type} (S : Nat → Nat → Nat → α) (t e i : Nat) (v : α) : Nat → Nat → Nat → α := fun t' e' i' => if t' = t ∧ e' = e ∧ i' = i then v else S t' e' i'
theorem g3_e {α : Type} {S : Nat → Nat → Nat → α} {t e i : Nat} {v : α} : g3 S t e i v t e i = v := by unfold g3; exact if_pos ⟨rfl, rfl, rfl⟩
theorem g3_n {α : Type} {S : Nat → Nat → Nat → α} {t e i t' e' i' : Nat} {v : α} (h : t' ≠ t ∨ e' ≠ e ∨ i' ≠ i) : g3 S t e i v t' e' i' = S t' e' i' := by unfold g3; exact if_neg (by omega)
def cb_ (e : Nat) : Nat := if e = 12 then 1 else if e < 6 then 12 + 9 * e else 70 + 11 * (e - 6)
def ub_ (e : Nat) : Nat := if e < 6 then 9 + 9 * e else 67 + 11 * (e - 6)
theorem cb_lo {e : Nat} (h : e < 12) : 12 ≤ cb_ e ∧ (e < 6 → cb_ e = 12 + 9 * e) ∧ (6 ≤ e → cb_ e = 70 + 11 * (e - 6)) ∧ cb_ e = ub_ e + 3 := by
  unfold cb_ ub_
  rw [if_neg (by omega)]
  by_cases h6 : e < 6
  · rw [if_pos h6, if_pos h6]; omega
  · rw [if_neg h6, if_neg h6]; omega
/-- the class's cells of code e -/
def ec_C (σ : aw_m) (S : gs_S) (Z : gs_Z) (e : Nat) : Prop :=
  σ (cb_ e) 0 = nI (S 0 e 0) ∧ σ (cb_ e) 1 = nI (S 1 e 0) ∧ (∀ p, p < 3 → σ (cb_ e + 1) p = nI (S 2 e p) ∧ σ (cb_ e + 2) p = nI (S 3 e p)) ∧
  ∀ c, c < 42 → σ (cb_ e + 3) c = nI (S 4 e c) ∧ σ (cb_ e + 4) c = Z 0 e c ∧ σ (cb_ e + 5) c = Z 1 e c
def ec_U (σ : aw_m) (S : gs_S) (e : Nat) : Prop :=
  σ (ub_ e) 0 = (if S 5 e 0 = 0 then 0 else 1) ∧ (S 5 e 0 ≠ 0 → σ (ub_ e) 1 = nI (S 5 e 0)) ∧ σ (ub_ e) 2 = nI (S 6 e 0) ∧ ∀ i, i < S 6 e 0 → σ (ub_ e + 1) i = nI (S 7 e i) ∧ σ (ub_ e + 2) i = nI (S 8 e i)
def ec_E (σ : aw_m) (S : gs_S) (Z : gs_Z) : Prop :=
  (∀ e, e < 13 → ec_C σ S Z e) ∧ (∀ e, e < 12 → ec_U σ S e) ∧ (∀ m, m < 6 → ∀ v, v < 3 → σ (76 + 11 * m) v = Z 2 m v) ∧ σ 7 1 = nI (S 9 0 0) ∧ σ 0 4 = Z 3 0 0 ∧ σ 0 5 = Z 4 0 0 ∧ σ 132 1 = nI (S 10 0 0)
/-- the reference's cells of code e -/
def er_C (τ : aw_m) (S : gs_S) (Z : gs_Z) (e : Nat) : Prop :=
  τ 2 e = nI (S 0 e 0) ∧ τ 3 e = nI (S 1 e 0) ∧ (∀ p, p < 3 → τ 4 (3 * e + p) = nI (S 2 e p) ∧ τ 5 (3 * e + p) = nI (S 3 e p)) ∧
  ∀ c, c < 42 → τ 6 (42 * e + c) = nI (S 4 e c) ∧ τ 7 (42 * e + c) = Z 0 e c ∧ τ 8 (42 * e + c) = Z 1 e c
def er_U (τ : aw_m) (S : gs_S) (e : Nat) : Prop :=
  τ 1 e = nI (S 5 e 0) ∧ τ 9 e = nI (S 6 e 0) ∧ ∀ i, i < S 6 e 0 → τ 10 (5 * e + i) = nI (S 7 e i) ∧ τ 11 (5 * e + i) = nI (S 8 e i)
def er_E (τ : aw_m) (S : gs_S) (Z : gs_Z) : Prop :=
  (∀ e, e < 13 → er_C τ S Z e) ∧ (∀ e, e < 12 → er_U τ S e) ∧ (∀ m, m < 6 → ∀ v, v < 3 → τ 12 (3 * m + v) = Z 2 m v) ∧ τ 0 12 = nI (S 9 0 0) ∧ τ 0 13 = Z 3 0 0 ∧ τ 0 14 = Z 4 0 0 ∧ τ 0 15 = nI (S 10 0 0)
/-- bounds -/
def gs_B (S : gs_S) : Prop :=
  (∀ e, e < 13 → S 0 e 0 ≤ 3 ∧ S 1 e 0 ≤ 3 ∧ (∀ p, p < 3 → S 2 e p ≤ 2 ∧ S 3 e p ≤ 14) ∧ ∀ c, c < 42 → S 4 e c ≤ 11) ∧
  (∀ e, e < 12 → S 6 e 0 ≤ 5 ∧ (∀ i, i < S 6 e 0 → S 7 e i < 6) ∧ S 5 e 0 ≤ S 9 0 0) ∧ S 10 0 0 ≤ 120
