/-! The calls that read -/
theorem nI_lt2 {k : Nat} (h : k < 2 ^ 31) : ¬ nI k < 0 := nI_pos h
theorem lh_neg {σ : aw_m} {x : Int32} (h : x < 0) : xm_L_has σ 7 x = some 0 := by
  unfold xm_L_has xm_S_isModule
  rw [if_pos h, b_some, if_pos rfl]
theorem lh_big {σ : aw_m} {k : Nat} (h : 6 ≤ k) (hk : k < 2 ^ 31) : xm_L_has σ 7 (nI k) = some 0 := by
  unfold xm_L_has xm_S_isModule
  simp (disch := omega) only [nz_0, nz_6, lt_nI, le_nI, Nat.not_lt_zero, if_false, h, if_true, b_some]
theorem ub_o {m : Nat} (h : m < 6) : ub_ m = 7 + 1 + 1 + 9 * m := by unfold ub_; rw [if_pos h]
theorem ub_l {m : Nat} (h : m < 6) : ub_ (6 + m) = 63 + 1 + 2 + 11 * m + 1 := by unfold ub_; rw [if_neg (by omega)]; omega
theorem cb_o {m : Nat} (h : m < 6) : cb_ m = 7 + 1 + 1 + 9 * m + 3 := by rw [(cb_lo (e := m) (by omega)).2.2.2, ub_o h]
theorem cb_l {m : Nat} (h : m < 6) : cb_ (6 + m) = 63 + 1 + 2 + 11 * m + 1 + 3 := by rw [(cb_lo (e := 6 + m) (by omega)).2.2.2, ub_l h]
theorem lh_in {σ : aw_m} {S : gs_S} {Z : gs_Z} (h : ec_E σ S Z) {m : Nat} (hm : m < 6) : xm_L_has σ 7 (nI m) = some (if S 5 m 0 = 0 then 0 else 1) := by
  have h1 := (h.2.1 m (by omega)).1
  rw [ub_o hm] at h1
  have hn : ¬ 6 ≤ m := by omega
  unfold xm_L_has xm_S_isModule
  rw [if_neg (nI_pos (by omega)), if_neg (show ¬ (6 : Int32) ≤ nI m from nI_ge (b := 6) hm (by omega)), b_some, if_neg (by decide), if_pos (in_nI hm (by omega)), tn_nI (by omega), h1]
  by_cases hk : S 5 m 0 = 0
  · rw [if_pos hk, if_pos rfl]
  · rw [if_neg hk, if_neg (by decide)]
theorem mh_neg {σ : aw_m} {x : Int32} (h : x < 0) : xm_M_has σ 63 x = some 0 := by
  unfold xm_M_has xm_S_isModule
  rw [if_pos h, b_some, if_pos rfl]
theorem mh_big {σ : aw_m} {k : Nat} (h : 6 ≤ k) (hk : k < 2 ^ 31) : xm_M_has σ 63 (nI k) = some 0 := by
  unfold xm_M_has xm_S_isModule
  simp (disch := omega) only [nz_0, nz_6, lt_nI, le_nI, Nat.not_lt_zero, if_false, h, if_true, b_some]
theorem mh_in {σ : aw_m} {S : gs_S} {Z : gs_Z} (h : ec_E σ S Z) {m : Nat} (hm : m < 6) : xm_M_has σ 63 (nI m) = some (if S 5 (6 + m) 0 = 0 then 0 else 1) := by
  have h1 := (h.2.1 (6 + m) (by omega)).1
  rw [ub_l hm] at h1
  have hn : ¬ 6 ≤ m := by omega
  unfold xm_M_has xm_S_isModule
  rw [if_neg (nI_pos (by omega)), if_neg (show ¬ (6 : Int32) ≤ nI m from nI_ge (b := 6) hm (by omega)), b_some, if_neg (by decide), if_pos (in_nI hm (by omega)), tn_nI (by omega), h1]
  by_cases hk : S 5 (6 + m) 0 = 0
  · rw [if_pos hk, if_pos rfl]
  · rw [if_neg hk, if_neg (by decide)]
/-- an int as the number of a module -/
theorem md_or (x : Int32) : (x < 0) ∨ (∃ k, 6 ≤ k ∧ k < 2 ^ 31 ∧ x = nI k) ∨ ∃ m, m < 6 ∧ x = nI m := by
  rcases ng_or x with h | ⟨k, hk, rfl⟩
  · exact Or.inl h
  · by_cases h6 : k < 6
    · exact Or.inr (Or.inr ⟨k, h6, rfl⟩)
    · exact Or.inr (Or.inl ⟨k, by omega, hk, rfl⟩)
theorem ri_neg {τ : aw_m} {x y z : Int32} (h : x < y) : xm_R_in τ x y z = some 0 := by unfold xm_R_in; rw [if_pos h]
theorem ri_big {τ : aw_m} {k b : Nat} (h : b < k) (hk : k < 2 ^ 31) : xm_R_in τ (nI k) 0 (nI b) = some 0 := by
  unfold xm_R_in
  simp (disch := omega) only [nz_0, lt_nI, Nat.not_lt_zero, if_false, h, if_true]
theorem ri_in {τ : aw_m} {k b : Nat} (h : k ≤ b) (hk : b < 2 ^ 31) : xm_R_in τ (nI k) 0 (nI b) = some 1 := by
  have hn : ¬ b < k := by omega
  unfold xm_R_in
  simp (disch := omega) only [nz_0, lt_nI, Nat.not_lt_zero, if_false, hn]
theorem ri_m1 {τ : aw_m} {k : Nat} (hk : k < 2 ^ 31) : xm_R_in τ (nI k) 0 (nI 0 - nI 1) = some 0 := by
  unfold xm_R_in
  rw [if_neg (nI_pos hk), if_pos]
  rw [Int32.lt_iff_toInt_lt, nI_toInt hk, pk_sub_toInt (by omega) (by omega)]
  omega
/-- x in 0 up to less than n -/
theorem ri_lt {τ : aw_m} {k n : Nat} (hk : k < 2 ^ 31) (hn : n < 2 ^ 30) : xm_R_in τ (nI k) 0 (nI n - nI 1) = some (if k < n then 1 else 0) := by
  by_cases h0 : n = 0
  · subst h0; rw [ri_m1 hk, if_neg (by omega)]
  · rw [su_nI (by omega)]
    by_cases h : k < n
    · rw [if_pos h]; exact ri_in (by omega) (by omega)
    · rw [if_neg h]; exact ri_big (by omega) hk
theorem sc_key {σ : aw_m} {S : gs_S} {Z : gs_Z} (h : ec_E σ S Z) (x : Int32) : xm_S_key σ x = some (if x < 0 then -1 else if 6 ≤ x then -1 else if S 5 x.toNatClampNeg 0 = 0 then -1 else nI (S 5 x.toNatClampNeg 0)) := by
  unfold xm_S_key
  rcases md_or x with hx | ⟨k, h6, hk, rfl⟩ | ⟨m, hm, rfl⟩
  · rw [lh_neg hx, b_some, if_pos rfl, if_pos hx]
  · rw [lh_big h6 hk, b_some, if_pos rfl, if_neg (nI_pos hk), if_pos (show (6 : Int32) ≤ nI k from nI_le (a := 6) h6 hk)]
  · rw [lh_in h hm, b_some, if_neg (nI_pos (by omega)), if_neg (show ¬ (6 : Int32) ≤ nI m from nI_ge (b := 6) hm (by omega)), tn_nI (by omega)]
    by_cases hk : S 5 m 0 = 0
    · rw [if_pos hk, if_pos rfl, if_pos hk]
    · have h2 := (h.2.1 m (by omega)).2.1 hk
      rw [ub_o hm] at h2
      rw [if_neg hk, if_neg (by decide), if_pos (in_nI hm (by omega)), if_neg hk]
      exact congrArg some h2
theorem sr_key {τ : aw_m} {S : gs_S} {Z : gs_Z} (h : er_E τ S Z) (hg : ∀ e, e < 12 → S 5 e 0 < 2 ^ 31) (x : Int32) : xm_R_key τ x = some (if x < 0 then -1 else if 6 ≤ x then -1 else if S 5 x.toNatClampNeg 0 = 0 then -1 else nI (S 5 x.toNatClampNeg 0)) := by
  unfold xm_R_key
  rcases md_or x with hx | ⟨k, h6, hk, rfl⟩ | ⟨m, hm, rfl⟩
  · rw [ri_neg hx, b_some, if_pos rfl, if_pos hx]
  · rw [nz_5, ri_big (by omega) hk, b_some, if_pos rfl, if_neg (nI_pos hk), if_pos (show (6 : Int32) ≤ nI k from nI_le (a := 6) h6 hk)]
  · have h1 := (h.2.1 m (by omega)).1
    have hgm := hg m (by omega)
    rw [nz_5, ri_in (by omega) (by omega), b_some, if_neg (by decide), if_pos (in_nI (by omega) (by omega)), if_neg (nI_pos (by omega)), if_neg (show ¬ (6 : Int32) ≤ nI m from nI_ge (b := 6) hm (by omega)), tn_nI (by omega), h1]
    by_cases hk : S 5 m 0 = 0
    · rw [hk, if_pos (show nI 0 ≤ (0 : Int32) from nI_le (b := 0) (Nat.le_refl 0) (by omega)), if_pos rfl]
    · rw [if_neg (show ¬ nI (S 5 m 0) ≤ (0 : Int32) from nI_ge (a := 0) (by omega) hgm), if_pos (in_nI (by omega) (by omega)), if_neg hk]
theorem sc_loaded {σ : aw_m} {S : gs_S} {Z : gs_Z} (h : ec_E σ S Z) (x : Int32) : xm_S_loaded σ x = some (if x < 0 then -1 else if 6 ≤ x then -1 else if S 5 (6 + x.toNatClampNeg) 0 = 0 then -1 else nI (S 5 (6 + x.toNatClampNeg) 0)) := by
  unfold xm_S_loaded
  rcases md_or x with hx | ⟨k, h6, hk, rfl⟩ | ⟨m, hm, rfl⟩
  · rw [mh_neg hx, b_some, if_pos rfl, if_pos hx]
  · rw [mh_big h6 hk, b_some, if_pos rfl, if_neg (nI_pos hk), if_pos (show (6 : Int32) ≤ nI k from nI_le (a := 6) h6 hk)]
  · rw [mh_in h hm, b_some, if_neg (nI_pos (by omega)), if_neg (show ¬ (6 : Int32) ≤ nI m from nI_ge (b := 6) hm (by omega)), tn_nI (by omega)]
    by_cases hk : S 5 (6 + m) 0 = 0
    · rw [if_pos hk, if_pos rfl, if_pos hk]
    · have h2 := (h.2.1 (6 + m) (by omega)).2.1 hk
      rw [ub_l hm] at h2
      rw [if_neg hk, if_neg (by decide), if_pos (in_nI hm (by omega)), if_neg hk]
      exact congrArg some h2
theorem sr_loaded {τ : aw_m} {S : gs_S} {Z : gs_Z} (h : er_E τ S Z) (hg : ∀ e, e < 12 → S 5 e 0 < 2 ^ 31) (x : Int32) : xm_R_loaded τ x = some (if x < 0 then -1 else if 6 ≤ x then -1 else if S 5 (6 + x.toNatClampNeg) 0 = 0 then -1 else nI (S 5 (6 + x.toNatClampNeg) 0)) := by
  unfold xm_R_loaded
  rcases md_or x with hx | ⟨k, h6, hk, rfl⟩ | ⟨m, hm, rfl⟩
  · rw [ri_neg hx, b_some, if_pos rfl, if_pos hx]
  · rw [nz_5, ri_big (by omega) hk, b_some, if_pos rfl, if_neg (nI_pos hk), if_pos (show (6 : Int32) ≤ nI k from nI_le (a := 6) h6 hk)]
  · have h1 := (h.2.1 (6 + m) (by omega)).1
    have hgm := hg (6 + m) (by omega)
    rw [nz_5, ri_in (by omega) (by omega), b_some, if_neg (by decide), nz_6, ad_nI, if_pos (in_nI (by omega) (by omega)), if_neg (nI_pos (by omega)), if_neg (show ¬ nI 6 ≤ nI m from nI_ge (b := 6) hm (by omega)), tn_nI (by omega), tn_nI (by omega), h1]
    by_cases hk : S 5 (6 + m) 0 = 0
    · rw [hk, if_pos (show nI 0 ≤ (0 : Int32) from nI_le (b := 0) (Nat.le_refl 0) (by omega)), if_pos rfl]
    · rw [if_neg (show ¬ nI (S 5 (6 + m) 0) ≤ (0 : Int32) from nI_ge (a := 0) (by omega) hgm), if_pos (in_nI (by omega) (by omega)), if_neg hk]
/-- variables: class and reference -/
theorem hv_in {σ : aw_m} {k n v : Nat} (h : σ k 0 = nI n) (hn : n < 2 ^ 31) (hv : v < 2 ^ 31) : xm_C_hasVariable σ k (nI v) = some (if v < n then 1 else 0) := by
  unfold xm_C_hasVariable
  rw [if_neg (nI_pos hv), h]
  by_cases hl : v < n
  · rw [if_neg (nI_ge hl hn), if_pos hl]
  · rw [if_pos (nI_le (by omega) hv), if_neg hl]
theorem hv_neg {σ : aw_m} {k : Nat} {x : Int32} (h : x < 0) : xm_C_hasVariable σ k x = some 0 := by unfold xm_C_hasVariable; rw [if_pos h]
theorem sc_valueOf {σ : aw_m} {S : gs_S} {Z : gs_Z} (h : ec_E σ S Z) (hB : gs_B S) {m v : Nat} (hm : m < 6) (hv : v < 2 ^ 31) : xm_M_valueOf σ 63 (nI m) (nI v) = some (if S 5 (6 + m) 0 = 0 then 0 else if v < S 0 (6 + m) 0 then Z 2 m v else 0) := by
  have hb := (hB.1 (6 + m) (by omega)).1
  have hc := (h.1 (6 + m) (by omega)).1
  rw [cb_l hm] at hc
  unfold xm_M_valueOf
  rw [mh_in h hm, b_some]
  by_cases hk : S 5 (6 + m) 0 = 0
  · rw [if_pos hk, if_pos rfl, if_pos hk]
  · rw [if_neg hk, if_neg (by decide), if_pos (in_nI hm (by omega)), tn_nI (by omega), hv_in hc (by omega) hv, b_some, if_neg hk]
    by_cases hl : v < S 0 (6 + m) 0
    · rw [if_pos hl, if_neg (by decide), if_pos (in_nI hm (by omega)), if_pos (in_nI (by omega) (by omega)), tn_nI hv, if_pos hl, ← h.2.2.1 m hm v (by omega)]
      congr 2; omega
    · rw [if_neg hl, if_pos rfl, if_neg hl]
theorem sc_variable {σ : aw_m} {S : gs_S} {Z : gs_Z} (h : ec_E σ S Z) (hB : gs_B S) (x y : Int32) : xm_S_variable σ x y = some (if x < 0 then 0 else if 6 ≤ x then 0 else if S 5 (6 + x.toNatClampNeg) 0 = 0 then 0 else if y < 0 then 0 else if y.toNatClampNeg < S 0 (6 + x.toNatClampNeg) 0 then Z 2 x.toNatClampNeg y.toNatClampNeg else 0) := by
  unfold xm_S_variable
  rcases md_or x with hx | ⟨k, h6, hk, rfl⟩ | ⟨m, hm, rfl⟩
  · unfold xm_M_valueOf; rw [mh_neg hx, b_some, if_pos rfl, if_pos hx, b_some]
  · unfold xm_M_valueOf; rw [mh_big h6 hk, b_some, if_pos rfl, if_neg (nI_pos hk), if_pos (show (6 : Int32) ≤ nI k from nI_le (a := 6) h6 hk), b_some]
  · rw [if_neg (nI_pos (by omega)), if_neg (show ¬ (6 : Int32) ≤ nI m from nI_ge (b := 6) hm (by omega)), tn_nI (by omega)]
    rcases ng_or y with hy | ⟨v, hv, rfl⟩
    · unfold xm_M_valueOf
      rw [mh_in h hm, b_some]
      by_cases hk : S 5 (6 + m) 0 = 0
      · rw [if_pos hk, if_pos rfl, if_pos hk, b_some]
      · rw [if_neg hk, if_neg (by decide), if_pos (in_nI hm (by omega)), tn_nI (by omega), hv_neg hy, b_some, if_pos rfl, b_some, if_neg hk, if_pos hy]
    · rw [sc_valueOf h hB hm hv, b_some, if_neg (nI_pos hv), tn_nI hv]
theorem sr_variable {τ : aw_m} {S : gs_S} {Z : gs_Z} (h : er_E τ S Z) (hB : gs_B S) (hg : ∀ e, e < 12 → S 5 e 0 < 2 ^ 31) (x y : Int32) : xm_R_variable τ x y = some (if x < 0 then 0 else if 6 ≤ x then 0 else if S 5 (6 + x.toNatClampNeg) 0 = 0 then 0 else if y < 0 then 0 else if y.toNatClampNeg < S 0 (6 + x.toNatClampNeg) 0 then Z 2 x.toNatClampNeg y.toNatClampNeg else 0) := by
  unfold xm_R_variable
  rcases md_or x with hx | ⟨k, h6, hk, rfl⟩ | ⟨m, hm, rfl⟩
  · rw [ri_neg hx, b_some, if_pos rfl, if_pos hx]
  · rw [nz_5, ri_big (by omega) hk, b_some, if_pos rfl, if_neg (nI_pos hk), if_pos (show (6 : Int32) ≤ nI k from nI_le (a := 6) h6 hk)]
  · have h1 := (h.2.1 (6 + m) (by omega)).1
    have hc := (h.1 (6 + m) (by omega)).1
    have hb := (hB.1 (6 + m) (by omega)).1
    have hgm := hg (6 + m) (by omega)
    rw [nz_5, ri_in (by omega) (by omega), b_some, if_neg (by decide), nz_6, ad_nI, if_pos (in_nI (by omega) (by omega)), if_neg (nI_pos (by omega)), if_neg (show ¬ nI 6 ≤ nI m from nI_ge (b := 6) hm (by omega)), tn_nI (by omega), tn_nI (by omega), h1, hc]
    by_cases hk : S 5 (6 + m) 0 = 0
    · rw [hk, if_pos (show nI 0 ≤ (0 : Int32) from nI_le (b := 0) (Nat.le_refl 0) (by omega)), if_pos rfl]
    · rw [if_neg (show ¬ nI (S 5 (6 + m) 0) ≤ (0 : Int32) from nI_ge (a := 0) (by omega) hgm), if_pos (in_nI (by omega) (by omega)), if_neg hk]
      rcases ng_or y with hy | ⟨v, hv, rfl⟩
      · rw [ri_neg hy, b_some, if_pos rfl, if_pos hy]
      · rw [nz_1, ri_lt hv (by omega), b_some, if_neg (nI_pos hv), tn_nI hv]
        by_cases hl : v < S 0 (6 + m) 0
        · rw [if_pos hl, if_neg (by decide), if_pos hl, nz_3, mu_nI, ad_nI, if_pos (in_nI (by omega) (by omega)), tn_nI (by omega), h.2.2.1 m hm v (by omega)]
        · rw [if_neg hl, if_pos rfl, if_neg hl]
