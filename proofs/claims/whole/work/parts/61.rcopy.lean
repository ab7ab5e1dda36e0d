/-! compile, load: the reference copies and finds imports -/
def rc_5 (τ τ2 : aw_m) (a b p : Nat) : Prop := (∀ k, k ≠ 10 → k ≠ 11 → τ2 k = τ k) ∧ (∀ i, i < 5 * b ∨ 5 * b + p ≤ i → τ2 10 i = τ 10 i ∧ τ2 11 i = τ 11 i) ∧ ∀ q, q < p → τ2 10 (5 * b + q) = τ 10 (5 * a + q) ∧ τ2 11 (5 * b + q) = τ 11 (5 * a + q)
theorem rc_5_lp {τ : aw_m} {a b : Nat} (ha : a < 13) (hb : b < 13) (hab : a ≠ b) (C1 C2 : aw_m → Int32 → Int32 → Int32 → Option aw_m) : ∀ (r p : Nat), p + r = 5 → ∀ (g : Nat) (τ1 : aw_m), r < g → rc_5 τ τ1 a b p → ∃ τ2, xq_R_copy_171 C1 C2 g τ1 (nI a) (nI b) (nI p) = some τ2 ∧ rc_5 τ τ2 a b 5 := by
  intro r
  induction r with
  | zero =>
    intro p hp g τ1 hg h
    obtain ⟨g, rfl⟩ : ∃ g', g = g' + 1 := ⟨g - 1, by omega⟩
    rw [show p = 5 by omega] at h ⊢
    exact ⟨τ1, by rw [xq_R_copy_171, if_pos (show (5 : Int32) ≤ nI 5 by decide)], h⟩
  | succ r ih =>
    intro p hp g τ1 hg h
    obtain ⟨g, rfl⟩ : ∃ g', g = g' + 1 := ⟨g - 1, by omega⟩
    obtain ⟨h1, h2, h3⟩ := h
    have ia : aw_in (nI (5 * a + p)) 65 = true := in_nI (by omega) (by omega)
    have ib : aw_in (nI (5 * b + p)) 65 = true := in_nI (by omega) (by omega)
    rw [xq_R_copy_171, if_neg (show ¬ (5 : Int32) ≤ nI p from nI_ge (b := 5) (by omega) (by omega)), show (5 : Int32) = nI 5 from rfl, mu_nI, mu_nI, ad_nI, ad_nI, show (1 : Int32) = nI 1 from rfl, ad_nI]
    simp only [ia, ib, eq_self, if_true, l_eq]
    rw [tn_nI (show 5 * a + p < 2 ^ 31 by omega), tn_nI (show 5 * b + p < 2 ^ 31 by omega)]
    refine ih (p + 1) (by omega) g _ (by omega) ⟨fun k n10 n11 => ?_, fun i hi => ?_, fun q hq => ?_⟩
    · simp (disch := omega) only [aw_pk]; exact h1 k n10 n11
    · simp (disch := omega) only [aw_pk, aw_pe, up_n]; exact h2 i (by omega)
    · by_cases hqp : q = p
      · subst hqp
        simp (disch := omega) only [aw_pk, aw_pe, up_e]
        exact h2 (5 * a + q) (by omega)
      · simp (disch := omega) only [aw_pk, aw_pe, up_n]; exact h3 q (by omega)
def rc_42 (τ τ2 : aw_m) (a b p : Nat) : Prop := (∀ k, k ≠ 6 → k ≠ 7 → k ≠ 8 → τ2 k = τ k) ∧ (∀ i, i < 42 * b ∨ 42 * b + p ≤ i → τ2 6 i = τ 6 i ∧ τ2 7 i = τ 7 i ∧ τ2 8 i = τ 8 i) ∧ ∀ q, q < p → τ2 6 (42 * b + q) = τ 6 (42 * a + q) ∧ τ2 7 (42 * b + q) = τ 7 (42 * a + q) ∧ τ2 8 (42 * b + q) = τ 8 (42 * a + q)
theorem rc_42_lp {τ : aw_m} {a b : Nat} (ha : a < 13) (hb : b < 13) (hab : a ≠ b) (C1 : aw_m → Int32 → Int32 → Int32 → Option aw_m) : ∀ (r p : Nat), p + r = 42 → ∀ (g : Nat) (τ1 : aw_m), r < g → rc_42 τ τ1 a b p → ∃ (τ2 : aw_m) (g2 : Nat), xq_R_copy_91 C1 g τ1 (nI a) (nI b) (nI p) = xq_R_copy_171 C1 (xq_R_copy_91 C1 g2) 64 τ2 (nI a) (nI b) 0 ∧ rc_42 τ τ2 a b 42 := by
  intro r
  induction r with
  | zero =>
    intro p hp g τ1 hg h
    obtain ⟨g, rfl⟩ : ∃ g', g = g' + 1 := ⟨g - 1, by omega⟩
    rw [show p = 42 by omega] at h ⊢
    exact ⟨τ1, g, by rw [xq_R_copy_91, if_pos (show (42 : Int32) ≤ nI 42 by decide)], h⟩
  | succ r ih =>
    intro p hp g τ1 hg h
    obtain ⟨g, rfl⟩ : ∃ g', g = g' + 1 := ⟨g - 1, by omega⟩
    obtain ⟨h1, h2, h3⟩ := h
    have ia : aw_in (nI (42 * a + p)) 546 = true := in_nI (by omega) (by omega)
    have ib : aw_in (nI (42 * b + p)) 546 = true := in_nI (by omega) (by omega)
    rw [xq_R_copy_91, if_neg (show ¬ (42 : Int32) ≤ nI p from nI_ge (b := 42) (by omega) (by omega)), show (42 : Int32) = nI 42 from rfl, mu_nI, mu_nI, ad_nI, ad_nI, show (1 : Int32) = nI 1 from rfl, ad_nI]
    simp only [ia, ib, eq_self, if_true, l_eq]
    rw [tn_nI (show 42 * a + p < 2 ^ 31 by omega), tn_nI (show 42 * b + p < 2 ^ 31 by omega)]
    refine ih (p + 1) (by omega) g _ (by omega) ⟨fun k n6 n7 n8 => ?_, fun i hi => ?_, fun q hq => ?_⟩
    · simp (disch := omega) only [aw_pk]; exact h1 k n6 n7 n8
    · simp (disch := omega) only [aw_pk, aw_pe, up_n]; exact h2 i (by omega)
    · by_cases hqp : q = p
      · subst hqp
        simp (disch := omega) only [aw_pk, aw_pe, up_e]
        exact h2 (42 * a + q) (by omega)
      · simp (disch := omega) only [aw_pk, aw_pe, up_n]; exact h3 q (by omega)
def rc_3 (τ τ2 : aw_m) (a b p : Nat) : Prop := (∀ k, k ≠ 4 → k ≠ 5 → τ2 k = τ k) ∧ (∀ i, i < 3 * b ∨ 3 * b + p ≤ i → τ2 4 i = τ 4 i ∧ τ2 5 i = τ 5 i) ∧ ∀ q, q < p → τ2 4 (3 * b + q) = τ 4 (3 * a + q) ∧ τ2 5 (3 * b + q) = τ 5 (3 * a + q)
theorem rc_3_lp {τ : aw_m} {a b : Nat} (ha : a < 13) (hb : b < 13) (hab : a ≠ b) : ∀ (r p : Nat), p + r = 3 → ∀ (g : Nat) (τ1 : aw_m), r < g → rc_3 τ τ1 a b p → ∃ (τ2 : aw_m) (g2 : Nat), xq_R_copy_38 g τ1 (nI a) (nI b) (nI p) = xq_R_copy_91 (xq_R_copy_38 g2) 64 τ2 (nI a) (nI b) 0 ∧ rc_3 τ τ2 a b 3 := by
  intro r
  induction r with
  | zero =>
    intro p hp g τ1 hg h
    obtain ⟨g, rfl⟩ : ∃ g', g = g' + 1 := ⟨g - 1, by omega⟩
    rw [show p = 3 by omega] at h ⊢
    exact ⟨τ1, g, by rw [xq_R_copy_38, if_pos (show (3 : Int32) ≤ nI 3 by decide)], h⟩
  | succ r ih =>
    intro p hp g τ1 hg h
    obtain ⟨g, rfl⟩ : ∃ g', g = g' + 1 := ⟨g - 1, by omega⟩
    obtain ⟨h1, h2, h3⟩ := h
    have ia : aw_in (nI (3 * a + p)) 39 = true := in_nI (by omega) (by omega)
    have ib : aw_in (nI (3 * b + p)) 39 = true := in_nI (by omega) (by omega)
    rw [xq_R_copy_38, if_neg (show ¬ (3 : Int32) ≤ nI p from nI_ge (b := 3) (by omega) (by omega)), show (3 : Int32) = nI 3 from rfl, mu_nI, mu_nI, ad_nI, ad_nI, show (1 : Int32) = nI 1 from rfl, ad_nI]
    simp only [ia, ib, eq_self, if_true, l_eq]
    rw [tn_nI (show 3 * a + p < 2 ^ 31 by omega), tn_nI (show 3 * b + p < 2 ^ 31 by omega)]
    refine ih (p + 1) (by omega) g _ (by omega) ⟨fun k n4 n5 => ?_, fun i hi => ?_, fun q hq => ?_⟩
    · simp (disch := omega) only [aw_pk]; exact h1 k n4 n5
    · simp (disch := omega) only [aw_pk, aw_pe, up_n]; exact h2 i (by omega)
    · by_cases hqp : q = p
      · subst hqp
        simp (disch := omega) only [aw_pk, aw_pe, up_e]
        exact h2 (3 * a + q) (by omega)
      · simp (disch := omega) only [aw_pk, aw_pe, up_n]; exact h3 q (by omega)
/-- what copy(a, b) makes of the memory -/
def rc_P (τ τ2 : aw_m) (a b : Nat) : Prop :=
  (∀ k, k ≤ 1 ∨ 12 ≤ k → τ2 k = τ k) ∧ (∀ i, i ≠ b → τ2 2 i = τ 2 i ∧ τ2 3 i = τ 3 i ∧ τ2 9 i = τ 9 i) ∧ (τ2 2 b = τ 2 a ∧ τ2 3 b = τ 3 a ∧ τ2 9 b = τ 9 a) ∧
  (∀ i, i < 3 * b ∨ 3 * b + 3 ≤ i → τ2 4 i = τ 4 i ∧ τ2 5 i = τ 5 i) ∧ (∀ q, q < 3 → τ2 4 (3 * b + q) = τ 4 (3 * a + q) ∧ τ2 5 (3 * b + q) = τ 5 (3 * a + q)) ∧
  (∀ i, i < 42 * b ∨ 42 * b + 42 ≤ i → τ2 6 i = τ 6 i ∧ τ2 7 i = τ 7 i ∧ τ2 8 i = τ 8 i) ∧ (∀ q, q < 42 → τ2 6 (42 * b + q) = τ 6 (42 * a + q) ∧ τ2 7 (42 * b + q) = τ 7 (42 * a + q) ∧ τ2 8 (42 * b + q) = τ 8 (42 * a + q)) ∧
  (∀ i, i < 5 * b ∨ 5 * b + 5 ≤ i → τ2 10 i = τ 10 i ∧ τ2 11 i = τ 11 i) ∧ (∀ q, q < 5 → τ2 10 (5 * b + q) = τ 10 (5 * a + q) ∧ τ2 11 (5 * b + q) = τ 11 (5 * a + q))
theorem sr_copy {τ : aw_m} {a b : Nat} (ha : a < 13) (hb : b < 13) (hab : a ≠ b) : ∃ τ2, xm_R_copy τ (nI a) (nI b) = some τ2 ∧ rc_P τ τ2 a b := by
  have ia : aw_in (nI a) 13 = true := in_nI ha (by omega)
  have ib : aw_in (nI b) 13 = true := in_nI hb (by omega)
  obtain ⟨t0, ht0⟩ : ∃ t0, t0 = aw_p (aw_p (aw_p τ 2 b (τ 2 a)) 3 b (τ 3 a)) 9 b (τ 9 a) := ⟨_, rfl⟩
  obtain ⟨t1, g1, e1, p1⟩ := rc_3_lp (τ := t0) ha hb hab 3 0 (by omega) 64 t0 (by omega) ⟨fun _ _ _ => rfl, fun _ _ => ⟨rfl, rfl⟩, fun q hq => absurd hq (Nat.not_lt_zero q)⟩
  obtain ⟨t2, g2, e2, p2⟩ := rc_42_lp (τ := t1) ha hb hab (xq_R_copy_38 g1) 42 0 (by omega) 64 t1 (by omega) ⟨fun _ _ _ _ => rfl, fun _ _ => ⟨rfl, rfl, rfl⟩, fun q hq => absurd hq (Nat.not_lt_zero q)⟩
  obtain ⟨t3, e3, p3⟩ := rc_5_lp (τ := t2) ha hb hab (xq_R_copy_38 g1) (xq_R_copy_91 (xq_R_copy_38 g1) g2) 5 0 (by omega) 64 t2 (by omega) ⟨fun _ _ _ => rfl, fun _ _ => ⟨rfl, rfl⟩, fun q hq => absurd hq (Nat.not_lt_zero q)⟩
  refine ⟨t3, ?_, ?_⟩
  · unfold xm_R_copy
    simp only [ia, ib, eq_self, if_true, l_eq]
    rw [tn_nI (by omega), tn_nI (by omega)]
    have : aw_p (aw_p (aw_p τ 2 b (τ 2 a)) 3 b (aw_p τ 2 b (τ 2 a) 3 a)) 9 b (aw_p (aw_p τ 2 b (τ 2 a)) 3 b (aw_p τ 2 b (τ 2 a) 3 a) 9 a) = t0 := by
      rw [ht0]; simp (disch := omega) only [aw_pk]
    rw [this]
    exact e1.trans (e2.trans e3)
  · obtain ⟨a1, a2, a3⟩ := p1
    obtain ⟨b1, b2, b3⟩ := p2
    obtain ⟨c1, c2, c3⟩ := p3
    have k3 : ∀ k, k ≠ 10 → k ≠ 11 → t3 k = t2 k := c1
    have k2 : ∀ k, k ≠ 6 → k ≠ 7 → k ≠ 8 → t2 k = t1 k := b1
    have k1 : ∀ k, k ≠ 4 → k ≠ 5 → t1 k = t0 k := a1
    refine ⟨fun k hk => ?_, fun i hi => ?_, ?_, fun i hi => ?_, fun q hq => ?_, fun i hi => ?_, fun q hq => ?_, fun i hi => ?_, fun q hq => ?_⟩
    · rw [k3 k (by omega) (by omega), k2 k (by omega) (by omega) (by omega), k1 k (by omega) (by omega), ht0]
      simp (disch := omega) only [aw_pk]
    · rw [k3 2 (by omega) (by omega), k2 2 (by omega) (by omega) (by omega), k1 2 (by omega) (by omega), k3 3 (by omega) (by omega), k2 3 (by omega) (by omega) (by omega), k1 3 (by omega) (by omega), k3 9 (by omega) (by omega), k2 9 (by omega) (by omega) (by omega), k1 9 (by omega) (by omega), ht0]
      simp (disch := omega) only [aw_pk, aw_pe, up_n, and_self]
    · rw [k3 2 (by omega) (by omega), k2 2 (by omega) (by omega) (by omega), k1 2 (by omega) (by omega), k3 3 (by omega) (by omega), k2 3 (by omega) (by omega) (by omega), k1 3 (by omega) (by omega), k3 9 (by omega) (by omega), k2 9 (by omega) (by omega) (by omega), k1 9 (by omega) (by omega), ht0]
      simp (disch := omega) only [aw_pk, aw_pe, up_e, and_self]
    · have e := a2 i hi
      rw [k3 4 (by omega) (by omega), k2 4 (by omega) (by omega) (by omega), k3 5 (by omega) (by omega), k2 5 (by omega) (by omega) (by omega), e.1, e.2, ht0]
      simp (disch := omega) only [aw_pk, and_self]
    · have e := a3 q hq
      rw [k3 4 (by omega) (by omega), k2 4 (by omega) (by omega) (by omega), k3 5 (by omega) (by omega), k2 5 (by omega) (by omega) (by omega), e.1, e.2, ht0]
      simp (disch := omega) only [aw_pk, and_self]
    · have e := b2 i hi
      rw [k3 6 (by omega) (by omega), k3 7 (by omega) (by omega), k3 8 (by omega) (by omega), e.1, e.2.1, e.2.2, k1 6 (by omega) (by omega), k1 7 (by omega) (by omega), k1 8 (by omega) (by omega), ht0]
      simp (disch := omega) only [aw_pk, and_self]
    · have e := b3 q hq
      rw [k3 6 (by omega) (by omega), k3 7 (by omega) (by omega), k3 8 (by omega) (by omega), e.1, e.2.1, e.2.2, k1 6 (by omega) (by omega), k1 7 (by omega) (by omega), k1 8 (by omega) (by omega), ht0]
      simp (disch := omega) only [aw_pk, and_self]
    · have e := c2 i hi
      rw [e.1, e.2, k2 10 (by omega) (by omega) (by omega), k2 11 (by omega) (by omega) (by omega), k1 10 (by omega) (by omega), k1 11 (by omega) (by omega), ht0]
      simp (disch := omega) only [aw_pk, and_self]
    · have e := c3 q hq
      rw [e.1, e.2, k2 10 (by omega) (by omega) (by omega), k2 11 (by omega) (by omega) (by omega), k1 10 (by omega) (by omega), k1 11 (by omega) (by omega), ht0]
      simp (disch := omega) only [aw_pk, and_self]
/-- the imports found so far lie in the draft's places -/
def ri_P (τ τ2 : aw_m) (S : gs_S) (x : gi_T) : Prop := (∀ k, k ≠ 10 → k ≠ 11 → τ2 k = τ k) ∧ (∀ i, i < 60 → τ2 10 i = τ 10 i ∧ τ2 11 i = τ 11 i) ∧ ∀ j, j < x.1 → τ2 10 (60 + j) = nI (x.2 j) ∧ τ2 11 (60 + j) = nI (S 5 (x.2 j) 0)
theorem ri_0 {τ τ2 : aw_m} {S : gs_S} {x : gi_T} (m at_ p : Nat) (hx : x.1 ≤ 5) (hp : ri_P τ τ2 S x) (ha : at_ < 546) (C5 : aw_m → Int32 → Int32 → Int32 → Option aw_m) (C25 : aw_m → Int32 → Int32 → Int32 → Int32 → Option aw_m) :
    ∀ (r i : Nat), i + r = x.1 → ∀ g, r < g → xq_R_findImports_85 C5 C25 g τ2 (nI m) (nI x.1) (nI p) (nI at_) 0 (nI i) = C25 τ2 (nI m) (nI x.1) (nI p) (nI (at_ + 1)) := by
  intro r
  induction r with
  | zero =>
    intro i hi g hg
    obtain ⟨g, rfl⟩ : ∃ g', g = g' + 1 := ⟨g - 1, by omega⟩
    rw [xq_R_findImports_85, if_pos (nI_le (by omega) (by omega)), if_pos rfl, nz_1, ad_nI]
  | succ r ih =>
    intro i hi g hg
    obtain ⟨g, rfl⟩ : ∃ g', g = g' + 1 := ⟨g - 1, by omega⟩
    have := ih (i + 1) (by omega) g (by omega)
    rw [xq_R_findImports_85, if_neg (nI_ge (by omega) (by omega)), nz_60, ad_nI, if_pos (in_nI (by omega) (by omega)), if_pos (in_nI ha (by omega)), nz_1, ad_nI, this]
    split <;> rfl
theorem ri_1 {τ τ2 : aw_m} {S : gs_S} {x : gi_T} (m at_ p k : Nat) (hx : x.1 ≤ 5) (hx4 : gi_mem x.2 k x.1 = false → x.1 ≤ 4) (hxl : ∀ j, j < x.1 → x.2 j < 6) (hp : ri_P τ τ2 S x) (ha : at_ < 546) (hk : k < 6) (ht : τ 7 at_ = nI k) (hkey : τ 1 k = nI (S 5 k 0)) (C5 : aw_m → Int32 → Int32 → Int32 → Option aw_m) (C25 : aw_m → Int32 → Int32 → Int32 → Int32 → Option aw_m) :
    ∀ (r i : Nat), i + r = x.1 → (∀ j, j < i → x.2 j ≠ k) → ∀ g, r < g → ∃ τ3, xq_R_findImports_85 C5 C25 g τ2 (nI m) (nI x.1) (nI p) (nI at_) 1 (nI i) = C25 τ3 (nI m) (nI (if gi_mem x.2 k x.1 = false then (x.1 + 1, gi_up x.2 x.1 k) else x).1) (nI p) (nI (at_ + 1)) ∧ ri_P τ τ3 S (if gi_mem x.2 k x.1 = false then (x.1 + 1, gi_up x.2 x.1 k) else x) := by
  have h7 : τ2 7 at_ = nI k := by rw [hp.1 7 (by omega) (by omega)]; exact ht
  have h1 : τ2 1 k = nI (S 5 k 0) := by rw [hp.1 1 (by omega) (by omega)]; exact hkey
  intro r
  induction r with
  | zero =>
    intro i hi hno g hg
    obtain ⟨g, rfl⟩ : ∃ g', g = g' + 1 := ⟨g - 1, by omega⟩
    have hq : gi_mem x.2 k x.1 = false := by
      cases hq : gi_mem x.2 k x.1 with
      | false => rfl
      | true => obtain ⟨j, a, b⟩ := (mem_iff _).mp hq; exact absurd b (hno j (by omega))
    have h4 := hx4 hq
    rw [if_pos hq]
    rw [xq_R_findImports_85, if_pos (nI_le (by omega) (by omega)), if_neg (by decide), if_pos (in_nI ha (by omega)), nz_60, ad_nI, if_pos (in_nI (by omega) (by omega)), l_eq, if_pos (in_nI ha (by omega)), tn_nI (by omega), tn_nI (by omega), aw_pk (by omega), h7, if_pos (in_nI (by omega) (by omega)), if_pos (in_nI (by omega) (by omega)), tn_nI (by omega), l_eq, aw_pk (by omega), h1, nz_1, ad_nI, ad_nI]
    refine ⟨_, rfl, fun q n1 n2 => ?_, fun q hq2 => ?_, fun j hj => ?_⟩
    · rw [aw_pk (by omega), aw_pk (by omega)]; exact hp.1 q n1 n2
    · simp (disch := omega) only [aw_pk, aw_pe, up_n]; exact hp.2.1 q hq2
    · have hj : j < x.1 + 1 := hj
      show _ = nI (gi_up x.2 x.1 k j) ∧ _ = nI (S 5 (gi_up x.2 x.1 k j) 0)
      unfold gi_up
      by_cases hq3 : j = x.1
      · rw [if_pos hq3, hq3]
        simp (disch := omega) only [aw_pk, aw_pe, up_e, and_self]
      · rw [if_neg hq3]
        simp (disch := omega) only [aw_pk, aw_pe, up_n]
        exact hp.2.2 j (by omega)
  | succ r ih =>
    intro i hi hno g hg
    obtain ⟨g, rfl⟩ : ∃ g', g = g' + 1 := ⟨g - 1, by omega⟩
    have hi6 := hxl i (by omega)
    rw [xq_R_findImports_85, if_neg (nI_ge (by omega) (by omega)), nz_60, ad_nI, if_pos (in_nI (by omega) (by omega)), if_pos (in_nI ha (by omega)), tn_nI (by omega), tn_nI (by omega), h7, (hp.2.2 i (by omega)).1]
    by_cases hq : x.2 i = k
    · have hmem : gi_mem x.2 k x.1 = true := (mem_iff _).mpr ⟨i, by omega, hq⟩
      rw [hq, if_pos rfl, hmem, if_neg (by decide), show nI i + 1 = nI (i + 1) from nI_1 i, ri_0 m at_ p hx hp ha C5 C25 r (i + 1) (by omega) g (by omega)]
      exact ⟨τ2, rfl, hp⟩
    · rw [if_neg (fun z => hq ((nI_eq (by omega) (by omega)).mp z)), show nI i + 1 = nI (i + 1) from nI_1 i]
      exact ih (i + 1) (by omega) (fun j hj => by
        rcases Nat.lt_or_ge j i with w | w
        · exact hno j w
        · rw [show j = i by omega]; exact hq) g (by omega)
theorem rg_i {τ : aw_m} {S : gs_S} {Z : gs_Z} (h : er_E τ S Z) (hB : gs_B S) {m p : Nat} (hm : m < 6) (hp : p < S 1 12 0) (hv : ∀ i, i < S 3 12 p → gi_v S Z 12 m (14 * p + i)) (C5 : aw_m → Int32 → Int32 → Int32 → Option aw_m) :
    ∀ (r i : Nat) (x : gi_T), i + r = S 3 12 p → gi_ok S m x → ∀ (g : Nat) (τ2 : aw_m), r < g → ri_P τ τ2 S x →
    ∃ τ3, xq_R_findImports_25 C5 g τ2 (nI m) (nI x.1) (nI (36 + p)) (nI (504 + (14 * p + i))) = C5 τ3 (nI m) (nI (gi_i S Z 12 m p r i x).1) (nI (36 + p + 1)) ∧ ri_P τ τ3 S (gi_i S Z 12 m p r i x) ∧ gi_ok S m (gi_i S Z 12 m p r i x) := by
  have b1 := (hB.1 12 (by omega)).2.1
  have b2 := ((hB.1 12 (by omega)).2.2.1 p (by omega)).2
  obtain ⟨c1, c2, c3, c4⟩ := h.1 12 (by omega)
  have cs : τ 5 (36 + p) = nI (S 3 12 p) := (c3 p (by omega)).2
  intro r
  induction r with
  | zero =>
    intro i x hi hx g τ2 hg hr
    obtain ⟨g, rfl⟩ : ∃ g', g = g' + 1 := ⟨g - 1, by omega⟩
    refine ⟨τ2, ?_, hr, hx⟩
    rw [xq_R_findImports_25, if_pos (in_nI (by omega) (by omega)), tn_nI (by omega), hr.1 5 (by omega) (by omega), cs, nz_14, mu_nI, ad_nI, if_pos (nI_le (by omega) (by omega)), nz_1, ad_nI, gi_i]
  | succ r ih =>
    intro i x hi hx g τ2 hg hr
    obtain ⟨g, rfl⟩ : ∃ g', g = g' + 1 := ⟨g - 1, by omega⟩
    obtain ⟨c, hc⟩ : ∃ c, c = 14 * p + i := ⟨_, rfl⟩
    obtain ⟨o1, o2, -⟩ := c4 c (by omega)
    have o1 : τ 6 (504 + c) = nI (S 4 12 c) := o1
    have o2 : τ 7 (504 + c) = Z 0 12 c := o2
    have hob := (hB.1 12 (by omega)).2.2.2 c (by omega)
    have hvi := hv i (by omega)
    have hok := gi_st_ok hx hvi
    rw [← hc] at hvi hok ⊢
    have h5 := gi_5 hx hm
    have hin : aw_in (nI (504 + c)) 546 = true := in_nI (by omega) (by omega)
    have hnx : ∀ τ3, ri_P τ τ3 S (gi_st S Z 12 m c x) → ∃ τ4, xq_R_findImports_25 C5 g τ3 (nI m) (nI (gi_st S Z 12 m c x).1) (nI (36 + p)) (nI (504 + c + 1)) = C5 τ4 (nI m) (nI (gi_i S Z 12 m p (r + 1) i x).1) (nI (36 + p + 1)) ∧ ri_P τ τ4 S (gi_i S Z 12 m p (r + 1) i x) ∧ gi_ok S m (gi_i S Z 12 m p (r + 1) i x) := by
      intro τ3 hr3
      have := ih (i + 1) (gi_st S Z 12 m c x) (by omega) hok g τ3 (by omega) hr3
      rw [gi_i, ← hc]
      rw [show 504 + c + 1 = 504 + (14 * p + (i + 1)) by omega]
      exact this
    have skip : gi_nm S Z 12 m c = false → ∃ τ4, xq_R_findImports_85 C5 (xq_R_findImports_25 C5 g) 64 τ2 (nI m) (nI x.1) (nI (36 + p)) (nI (504 + c)) 0 0 = C5 τ4 (nI m) (nI (gi_i S Z 12 m p (r + 1) i x).1) (nI (36 + p + 1)) ∧ ri_P τ τ4 S (gi_i S Z 12 m p (r + 1) i x) ∧ gi_ok S m (gi_i S Z 12 m p (r + 1) i x) := by
      intro hn
      have e1 : gi_st S Z 12 m c x = x := by unfold gi_st; rw [hn]; exact if_neg (fun z => by cases z.1)
      have e2 := ri_0 m (504 + c) (36 + p) h5 hr (by omega) C5 (xq_R_findImports_25 C5 g) x.1 0 (by omega) 64 (by omega)
      have e2 : xq_R_findImports_85 C5 (xq_R_findImports_25 C5 g) 64 τ2 (nI m) (nI x.1) (nI (36 + p)) (nI (504 + c)) 0 0 = _ := e2
      rw [e2]
      rw [e1] at hnx
      exact hnx τ2 hr
    have named : (S 4 12 c = 2 ∨ S 4 12 c = 11) → ∃ τ4, (if Z 0 12 c = nI m then xq_R_findImports_85 C5 (xq_R_findImports_25 C5 g) 64 τ2 (nI m) (nI x.1) (nI (36 + p)) (nI (504 + c)) 0 0 else xq_R_findImports_85 C5 (xq_R_findImports_25 C5 g) 64 τ2 (nI m) (nI x.1) (nI (36 + p)) (nI (504 + c)) 1 0) = C5 τ4 (nI m) (nI (gi_i S Z 12 m p (r + 1) i x).1) (nI (36 + p + 1)) ∧ ri_P τ τ4 S (gi_i S Z 12 m p (r + 1) i x) ∧ gi_ok S m (gi_i S Z 12 m p (r + 1) i x) := by
      intro ho
      by_cases ha : Z 0 12 c = nI m
      · rw [if_pos ha]
        exact skip (by unfold gi_nm; rw [decide_eq_false (p := ¬ Z 0 12 c = nI m) (fun z => z ha), Bool.and_false])
      · rw [if_neg ha]
        have hn : gi_nm S Z 12 m c = true := by
          unfold gi_nm
          rw [decide_eq_true ha, Bool.and_true, Bool.or_eq_true, decide_eq_true_eq, decide_eq_true_eq]
          exact ho
        obtain ⟨k, k1, k2, k3, k4⟩ := hvi hn
        obtain ⟨τ3, e1, e2⟩ := ri_1 (S := S) m (504 + c) (36 + p) k h5 (fun hq => gi_4 hx hm k1 k2 hq) (fun j hj => (hx.1 j hj).1) hr (by omega) k1 (o2.trans k3) (h.2.1 k (by omega)).1 C5 (xq_R_findImports_25 C5 g) x.1 0 (by omega) (fun j hj => absurd hj (Nat.not_lt_zero j)) 64 (by omega)
        have e3 : (if gi_mem x.2 k x.1 = false then (x.1 + 1, gi_up x.2 x.1 k) else x) = gi_st S Z 12 m c x := by
          unfold gi_st
          rw [k3, tn_nI (by omega), hn]
          by_cases hq : gi_mem x.2 k x.1 = false
          · rw [if_pos hq, if_pos ⟨rfl, hq⟩]
          · rw [if_neg hq, if_neg (fun z => hq z.2)]
        rw [e3] at e1 e2
        have e1 : xq_R_findImports_85 C5 (xq_R_findImports_25 C5 g) 64 τ2 (nI m) (nI x.1) (nI (36 + p)) (nI (504 + c)) 1 0 = _ := e1
        rw [e1]
        exact hnx τ3 e2
    rw [xq_R_findImports_25, if_pos (in_nI (by omega) (by omega)), tn_nI (by omega), hr.1 5 (by omega) (by omega), cs, nz_14, mu_nI, ad_nI, if_neg (nI_ge (by omega) (by omega)), tn_nI (by omega), hr.1 6 (by omega) (by omega), hr.1 7 (by omega) (by omega), o1, o2]
    simp only [hin, eq_self, if_true]
    simp (disch := omega) only [el_2, el_11]
    by_cases h2 : S 4 12 c = 2
    · rw [if_pos h2]; exact named (Or.inl h2)
    · rw [if_neg h2]
      by_cases h11 : S 4 12 c = 11
      · rw [if_pos h11]; exact named (Or.inr h11)
      · rw [if_neg h11]
        exact skip (by unfold gi_nm; rw [decide_eq_false h2, decide_eq_false h11]; rfl)
theorem rg_p {τ : aw_m} {S : gs_S} {Z : gs_Z} (h : er_E τ S Z) (hB : gs_B S) {m : Nat} (hm : m < 6) (hv : ∀ p, p < S 1 12 0 → ∀ i, i < S 3 12 p → gi_v S Z 12 m (14 * p + i)) :
    ∀ (r p : Nat) (x : gi_T), p + r = S 1 12 0 → gi_ok S m x → ∀ (g : Nat) (τ2 : aw_m), r < g → ri_P τ τ2 S x →
    ∃ τ3, xq_R_findImports_5 g τ2 (nI m) (nI x.1) (nI (36 + p)) = some (aw_p τ3 9 12 (nI (gi_p S Z 12 m r p x).1)) ∧ ri_P τ τ3 S (gi_p S Z 12 m r p x) ∧ gi_ok S m (gi_p S Z 12 m r p x) := by
  have b1 := (hB.1 12 (by omega)).2.1
  have c2 := (h.1 12 (by omega)).2.1
  intro r
  induction r with
  | zero =>
    intro p x hp hx g τ2 hg hr
    obtain ⟨g, rfl⟩ : ∃ g', g = g' + 1 := ⟨g - 1, by omega⟩
    exact ⟨τ2, by rw [xq_R_findImports_5, tn_12, hr.1 3 (by omega) (by omega), c2, nz_36, ad_nI, if_pos (nI_le (by omega) (by omega)), l_eq, gi_p], hr, hx⟩
  | succ r ih =>
    intro p x hp hx g τ2 hg hr
    obtain ⟨g, rfl⟩ : ∃ g', g = g' + 1 := ⟨g - 1, by omega⟩
    have b2 := ((hB.1 12 (by omega)).2.2.1 p (by omega)).2
    obtain ⟨τ3, e1, e2, e3⟩ := rg_i h hB hm (p := p) (by omega) (hv p (by omega)) (xq_R_findImports_5 g) (S 3 12 p) 0 x (by omega) hx 64 τ2 (by omega) hr
    obtain ⟨τ4, f1, f2, f3⟩ := ih (p + 1) _ (by omega) e3 g τ3 (by omega) e2
    refine ⟨τ4, ?_, f2, f3⟩
    rw [xq_R_findImports_5, tn_12, hr.1 3 (by omega) (by omega), c2, nz_36, ad_nI, if_neg (nI_ge (by omega) (by omega)), nz_14, mu_nI, show 14 * (36 + p) = 504 + (14 * p + 0) by omega]
    exact e1.trans f1
