/-! count -/
def gs_hc (S : gs_S) (b : Nat) : Nat → Nat
  | 0 => 0
  | i + 1 => gs_hc S b i + (if S 5 (b + i) 0 = 0 then 0 else 1)
theorem gs_hc_le (S : gs_S) (b i : Nat) : gs_hc S b i ≤ i := by
  induction i with
  | zero => exact Nat.le_refl 0
  | succ i ih => rw [gs_hc]; by_cases h : S 5 (b + i) 0 = 0 <;> simp [h] <;> omega
def gs_zp (S : gs_S) (e : Nat) : Nat → Nat
  | 0 => S 0 e 0
  | p + 1 => gs_zp S e p + S 3 e p
def gs_z (S : gs_S) (e : Nat) : Nat := gs_zp S e (S 1 e 0)
def gs_al (S : gs_S) : Nat → Nat
  | 0 => 0
  | i + 1 => gs_al S i + (if S 5 (6 + i) 0 = 0 then 0 else gs_z S (6 + i))
theorem gs_zp_le {S : gs_S} (hB : gs_B S) {e : Nat} (he : e < 13) : ∀ p, p ≤ 3 → gs_zp S e p ≤ 3 + 14 * p := by
  obtain ⟨b1, b2, b3, b4⟩ := hB.1 e he
  intro p
  induction p with
  | zero => intro _; exact b1
  | succ p ih => intro hp; rw [gs_zp]; have := ih (by omega); have := (b3 p (by omega)).2; omega
theorem gs_z_le {S : gs_S} (hB : gs_B S) {e : Nat} (he : e < 13) : gs_z S e ≤ 45 := by
  have := gs_zp_le hB he (S 1 e 0) (hB.1 e he).2.1
  have := (hB.1 e he).2.1
  unfold gs_z
  omega
theorem gs_al_le {S : gs_S} (hB : gs_B S) : ∀ i, i ≤ 6 → gs_al S i ≤ 45 * i := by
  intro i
  induction i with
  | zero => intro _; exact Nat.le_refl 0
  | succ i ih =>
    intro hi
    rw [gs_al]
    have := ih (by omega)
    have := gs_z_le hB (e := 6 + i) (by omega)
    by_cases h : S 5 (6 + i) 0 = 0
    · rw [if_pos h]; omega
    · rw [if_neg h]; omega
theorem hp_in {σ : aw_m} {k n v : Nat} (h : σ k 1 = nI n) (hn : n < 2 ^ 31) (hv : v < 2 ^ 31) : xm_C_hasProcedure σ k (nI v) = some (if v < n then 1 else 0) := by
  unfold xm_C_hasProcedure
  rw [if_neg (nI_pos hv), h]
  by_cases hl : v < n
  · rw [if_neg (nI_ge hl hn), if_pos hl]
  · rw [if_pos (nI_le (by omega) hv), if_neg hl]
theorem hp_neg {σ : aw_m} {k : Nat} {x : Int32} (h : x < 0) : xm_C_hasProcedure σ k x = some 0 := by unfold xm_C_hasProcedure; rw [if_pos h]
theorem sc_lengthOf {σ : aw_m} {S : gs_S} {Z : gs_Z} (h : ec_E σ S Z) (hB : gs_B S) {e p : Nat} (he : e < 13) (hp : p < 2 ^ 31) : xm_C_lengthOf σ (cb_ e) (nI p) = some (nI (if p < S 1 e 0 then S 3 e p else 0)) := by
  obtain ⟨c1, c2, c3, c4⟩ := h.1 e he
  obtain ⟨b1, b2, b3, b4⟩ := hB.1 e he
  unfold xm_C_lengthOf
  rw [hp_in c2 (by omega) hp, b_some]
  by_cases hl : p < S 1 e 0
  · rw [if_pos hl, if_neg (by decide), if_pos (in_nI (by omega) (by omega)), tn_nI hp, (c3 p (by omega)).2, if_pos hl]
  · rw [if_neg hl, if_pos rfl, if_neg hl]; rfl
theorem sc_argumentsOf {σ : aw_m} {S : gs_S} {Z : gs_Z} (h : ec_E σ S Z) (hB : gs_B S) {e p : Nat} (he : e < 13) (hp : p < 2 ^ 31) : xm_C_argumentsOf σ (cb_ e) (nI p) = some (if p < S 1 e 0 then nI (S 2 e p) else -1) := by
  obtain ⟨c1, c2, c3, c4⟩ := h.1 e he
  obtain ⟨b1, b2, b3, b4⟩ := hB.1 e he
  unfold xm_C_argumentsOf
  rw [hp_in c2 (by omega) hp, b_some]
  by_cases hl : p < S 1 e 0
  · rw [if_pos hl, if_neg (by decide), if_pos (in_nI (by omega) (by omega)), tn_nI hp, (c3 p (by omega)).1, if_pos hl]
  · rw [if_neg hl, if_pos rfl, if_neg hl]
theorem sc_argumentsOfN {σ : aw_m} {k : Nat} {x : Int32} (h : x < 0) : xm_C_argumentsOf σ k x = some (-1) := by
  unfold xm_C_argumentsOf
  rw [hp_neg h, b_some, if_pos rfl]
theorem sc_lengthOfN {σ : aw_m} {k : Nat} {x : Int32} (h : x < 0) : xm_C_lengthOf σ k x = some 0 := by
  unfold xm_C_lengthOf
  rw [hp_neg h, b_some, if_pos rfl]
theorem cs_lp {σ : aw_m} {S : gs_S} {Z : gs_Z} (h : ec_E σ S Z) (hB : gs_B S) {e : Nat} (he : e < 13) : ∀ (n p : Nat), S 1 e 0 < p + n → p ≤ S 1 e 0 → xq_C_size_7 σ n (cb_ e) (nI (gs_zp S e p)) (nI p) = some (nI (gs_z S e)) := by
  obtain ⟨c1, c2, c3, c4⟩ := h.1 e he
  obtain ⟨b1, b2, b3, b4⟩ := hB.1 e he
  intro n
  induction n with
  | zero => intro p h1 h2; omega
  | succ n ih =>
    intro p h1 h2
    rw [xq_C_size_7, c2]
    by_cases hl : p < S 1 e 0
    · rw [if_neg (nI_ge hl (by omega)), if_pos (in_nI (by omega) (by omega)), tn_nI (by omega), (c3 p (by omega)).2, ad_nI, nz_1, ad_nI]
      exact ih (p + 1) (by omega) (by omega)
    · rw [if_pos (nI_le (by omega) (by omega)), show p = S 1 e 0 by omega]
      rfl
theorem sc_size {σ : aw_m} {S : gs_S} {Z : gs_Z} (h : ec_E σ S Z) (hB : gs_B S) {e : Nat} (he : e < 13) : xm_C_size σ (cb_ e) = some (nI (gs_z S e)) := by
  have b2 := (hB.1 e he).2.1
  unfold xm_C_size
  rw [(h.1 e he).1]
  exact cs_lp h hB he 64 0 (by omega) (by omega)
theorem rs_lp {τ : aw_m} {S : gs_S} {Z : gs_Z} (h : er_E τ S Z) (hB : gs_B S) {e : Nat} (he : e < 13) : ∀ (n p : Nat), S 1 e 0 < p + n → p ≤ S 1 e 0 → xq_R_cells_9 τ n (nI e) (nI (gs_zp S e p)) (nI p) = some (nI (gs_z S e)) := by
  obtain ⟨c1, c2, c3, c4⟩ := h.1 e he
  obtain ⟨b1, b2, b3, b4⟩ := hB.1 e he
  intro n
  induction n with
  | zero => intro p h1 h2; omega
  | succ n ih =>
    intro p h1 h2
    rw [xq_R_cells_9, if_pos (in_nI he (by omega)), tn_nI (by omega), c2]
    by_cases hl : p < S 1 e 0
    · rw [if_neg (nI_ge hl (by omega)), nz_3, mu_nI, ad_nI, if_pos (in_nI (by omega) (by omega)), tn_nI (by omega), (c3 p (by omega)).2, ad_nI, nz_1, ad_nI]
      exact ih (p + 1) (by omega) (by omega)
    · rw [if_pos (nI_le (by omega) (by omega)), show p = S 1 e 0 by omega]
      rfl
theorem sr_size {τ : aw_m} {S : gs_S} {Z : gs_Z} (h : er_E τ S Z) (hB : gs_B S) {e : Nat} (he : e < 13) : xm_R_cells τ (nI e) = some (nI (gs_z S e)) := by
  have b2 := (hB.1 e he).2.1
  unfold xm_R_cells
  rw [if_pos (in_nI he (by omega)), tn_nI (by omega), (h.1 e he).1]
  exact rs_lp h hB he 64 0 (by omega) (by omega)
theorem cl_lp {σ : aw_m} {S : gs_S} {Z : gs_Z} (h : ec_E σ S Z) : ∀ (n i : Nat), 6 < i + n → i ≤ 6 → xq_L_held_4 σ n 7 (nI (gs_hc S 0 i)) (nI i) = some (nI (gs_hc S 0 6)) := by
  intro n
  induction n with
  | zero => intro i h1 h2; omega
  | succ n ih =>
    intro i h1 h2
    rw [xq_L_held_4]
    by_cases hl : i < 6
    · have e1 := ih (i + 1) (by omega) (by omega)
      rw [gs_hc, Nat.zero_add] at e1
      rw [if_neg (show ¬ (6 : Int32) ≤ nI i from nI_ge (b := 6) hl (by omega)), lh_in h hl, b_some, nz_0, ad_nI, nz_1, ad_nI, ad_nI]
      by_cases hk : S 5 i 0 = 0
      · rw [if_pos hk] at e1; rw [if_pos hk, if_pos rfl]; exact e1
      · rw [if_neg hk] at e1; rw [if_neg hk, if_neg (by decide)]; exact e1
    · rw [if_pos (show (6 : Int32) ≤ nI i from nI_le (a := 6) (by omega) (by omega)), show i = 6 by omega]
theorem cm_lp {σ : aw_m} {S : gs_S} {Z : gs_Z} (h : ec_E σ S Z) : ∀ (n i : Nat), 6 < i + n → i ≤ 6 → xq_M_held_4 σ n 63 (nI (gs_hc S 6 i)) (nI i) = some (nI (gs_hc S 6 6)) := by
  intro n
  induction n with
  | zero => intro i h1 h2; omega
  | succ n ih =>
    intro i h1 h2
    rw [xq_M_held_4]
    by_cases hl : i < 6
    · have e1 := ih (i + 1) (by omega) (by omega)
      rw [gs_hc] at e1
      rw [if_neg (show ¬ (6 : Int32) ≤ nI i from nI_ge (b := 6) hl (by omega)), mh_in h hl, b_some, nz_0, ad_nI, nz_1, ad_nI, ad_nI]
      by_cases hk : S 5 (6 + i) 0 = 0
      · rw [if_pos hk] at e1; rw [if_pos hk, if_pos rfl]; exact e1
      · rw [if_neg hk] at e1; rw [if_neg hk, if_neg (by decide)]; exact e1
    · rw [if_pos (show (6 : Int32) ≤ nI i from nI_le (a := 6) (by omega) (by omega)), show i = 6 by omega]
theorem sc_Lheld {σ : aw_m} {S : gs_S} {Z : gs_Z} (h : ec_E σ S Z) : xm_L_held σ 7 = some (nI (gs_hc S 0 6)) := cl_lp h 64 0 (by omega) (by omega)
theorem sc_Mheld {σ : aw_m} {S : gs_S} {Z : gs_Z} (h : ec_E σ S Z) : xm_M_held σ 63 = some (nI (gs_hc S 6 6)) := cm_lp h 64 0 (by omega) (by omega)
theorem ca_lp {σ : aw_m} {S : gs_S} {Z : gs_Z} (h : ec_E σ S Z) (hB : gs_B S) : ∀ (n i : Nat), 6 < i + n → i ≤ 6 → xq_M_size_4 σ n 63 (nI (gs_al S i)) (nI i) = some (nI (gs_al S 6)) := by
  intro n
  induction n with
  | zero => intro i h1 h2; omega
  | succ n ih =>
    intro i h1 h2
    rw [xq_M_size_4]
    by_cases hl : i < 6
    · have e1 := ih (i + 1) (by omega) (by omega)
      rw [gs_al] at e1
      rw [if_neg (show ¬ (6 : Int32) ≤ nI i from nI_ge (b := 6) hl (by omega)), mh_in h hl, b_some, nz_0, ad_nI, nz_1, ad_nI]
      by_cases hk : S 5 (6 + i) 0 = 0
      · rw [if_pos hk] at e1; rw [if_pos hk, if_pos rfl]; exact e1
      · rw [if_neg hk] at e1; rw [if_neg hk, if_neg (by decide), if_pos (in_nI hl (by omega)), tn_nI (by omega), ← cb_l hl, sc_size h hB (by omega), b_some, ad_nI]; exact e1
    · rw [if_pos (show (6 : Int32) ≤ nI i from nI_le (a := 6) (by omega) (by omega)), show i = 6 by omega]
theorem sc_all {σ : aw_m} {S : gs_S} {Z : gs_Z} (h : ec_E σ S Z) (hB : gs_B S) : xm_M_size σ 63 = some (nI (gs_al S 6)) := ca_lp h hB 64 0 (by omega) (by omega)
theorem ra_lp {τ : aw_m} {S : gs_S} {Z : gs_Z} (h : er_E τ S Z) (hB : gs_B S) (hg : ∀ e, e < 12 → S 5 e 0 < 2 ^ 31) : ∀ (n i : Nat), 6 < i + n → i ≤ 6 → xq_R_allCells_5 τ n (nI (gs_al S i)) (nI (6 + i)) = some (nI (gs_al S 6)) := by
  intro n
  induction n with
  | zero => intro i h1 h2; omega
  | succ n ih =>
    intro i h1 h2
    rw [xq_R_allCells_5]
    by_cases hl : i < 6
    · have e1 := ih (i + 1) (by omega) (by omega)
      rw [gs_al] at e1
      have h1 := (h.2.1 (6 + i) (by omega)).1
      rw [if_neg (show ¬ (12 : Int32) ≤ nI (6 + i) from nI_ge (b := 12) (by omega) (by omega)), if_pos (in_nI (by omega) (by omega)), tn_nI (by omega), h1, nz_1, ad_nI]
      by_cases hk : S 5 (6 + i) 0 = 0
      · rw [if_pos hk] at e1; rw [hk, if_pos (show nI 0 ≤ (0 : Int32) from nI_le (b := 0) (Nat.le_refl 0) (by omega))]; exact e1
      · rw [if_neg hk] at e1; rw [if_neg (show ¬ nI (S 5 (6 + i) 0) ≤ (0 : Int32) from nI_ge (a := 0) (by omega) (hg _ (by omega))), sr_size h hB (by omega), b_some, ad_nI]; exact e1
    · rw [if_pos (show (12 : Int32) ≤ nI (6 + i) from nI_le (a := 12) (by omega) (by omega)), show i = 6 by omega]
theorem sr_all {τ : aw_m} {S : gs_S} {Z : gs_Z} (h : er_E τ S Z) (hB : gs_B S) (hg : ∀ e, e < 12 → S 5 e 0 < 2 ^ 31) : xm_R_allCells τ = some (nI (gs_al S 6)) := ra_lp h hB hg 64 0 (by omega) (by omega)
def gs_cnt (S : gs_S) (x : Int32) : Int32 := if x = 0 then nI (S 1 12 0) else if x = 1 then nI (if S 1 12 0 = 0 then 0 else S 3 12 (S 1 12 0 - 1)) else if x = 2 then nI (gs_hc S 0 6) else if x = 3 then nI (gs_hc S 6 6) else if x = 4 then nI (gs_al S 6) else if x = 5 then nI (S 9 0 0) else -1
theorem sc_count {σ : aw_m} {S : gs_S} {Z : gs_Z} (h : ec_E σ S Z) (hB : gs_B S) (x : Int32) : xm_S_count σ x = some (gs_cnt S x) := by
  have c2 : σ 1 1 = nI (S 1 12 0) := (h.1 12 (by omega)).2.1
  have b2 := (hB.1 12 (by omega)).2.1
  unfold xm_S_count gs_cnt
  by_cases h0 : x = 0
  · rw [if_pos h0, if_pos h0, c2]
  rw [if_neg h0, if_neg h0]
  by_cases h1 : x = 1
  · rw [if_pos h1, if_pos h1, c2]
    by_cases hz : S 1 12 0 = 0
    · rw [if_pos hz, hz, nz_1, sc_lengthOfN (pk_sneg (a := 0) (b := 1) (by omega) (by omega)), b_some]; rfl
    · have e := sc_lengthOf h hB (e := 12) (p := S 1 12 0 - 1) (by omega) (by omega)
      rw [if_pos (by omega)] at e
      have e2 : xm_C_lengthOf σ 1 (nI (S 1 12 0 - 1)) = some (nI (S 3 12 (S 1 12 0 - 1))) := e
      rw [if_neg hz, nz_1, su_nI (by omega), e2, b_some]
  rw [if_neg h1, if_neg h1]
  by_cases h2 : x = 2
  · rw [if_pos h2, if_pos h2, sc_Lheld h, b_some]
  rw [if_neg h2, if_neg h2]
  by_cases h3 : x = 3
  · rw [if_pos h3, if_pos h3, sc_Mheld h, b_some]
  rw [if_neg h3, if_neg h3]
  by_cases h4 : x = 4
  · rw [if_pos h4, if_pos h4, sc_all h hB, b_some]
  rw [if_neg h4, if_neg h4]
  by_cases h5 : x = 5
  · rw [if_pos h5, if_pos h5, h.2.2.2.1]
  rw [if_neg h5, if_neg h5]
theorem rc_lp {τ : aw_m} {S : gs_S} {Z : gs_Z} (h : er_E τ S Z) (hB : gs_B S) (hg : ∀ e, e < 12 → S 5 e 0 < 2 ^ 31) (x : Int32) : ∀ (n i : Nat), 6 < i + n → i ≤ 6 → xq_R_count_7 τ n x (nI (gs_hc S 0 i)) (nI (gs_hc S 6 i)) (nI i) = some (gs_cnt S x) := by
  intro n
  induction n with
  | zero => intro i h1 h2; omega
  | succ n ih =>
    intro i h1 h2
    rw [xq_R_count_7]
    by_cases hl : i < 6
    · have e1 := ih (i + 1) (by omega) (by omega)
      rw [gs_hc, gs_hc, Nat.zero_add] at e1
      have k1 := (h.2.1 i (by omega)).1
      have k2 := (h.2.1 (6 + i) (by omega)).1
      rw [if_neg (show ¬ (6 : Int32) ≤ nI i from nI_ge (b := 6) hl (by omega)), if_pos (in_nI (by omega) (by omega)), tn_nI (by omega), k1, nz_6, ad_nI, if_pos (in_nI (by omega) (by omega)), tn_nI (by omega), k2, nz_1, ad_nI, ad_nI, ad_nI]
      by_cases ha : S 5 i 0 = 0
      · rw [if_pos ha] at e1
        rw [ha, if_pos (show nI 0 ≤ (0 : Int32) from nI_le (b := 0) (Nat.le_refl 0) (by omega))]
        by_cases hb : S 5 (6 + i) 0 = 0
        · rw [if_pos hb] at e1
          rw [hb, if_pos (show nI 0 ≤ (0 : Int32) from nI_le (b := 0) (Nat.le_refl 0) (by omega))]
          exact e1
        · rw [if_neg hb] at e1
          rw [if_neg (show ¬ nI (S 5 (6 + i) 0) ≤ (0 : Int32) from nI_ge (a := 0) (by omega) (hg _ (by omega)))]
          exact e1
      · rw [if_neg ha] at e1
        rw [if_neg (show ¬ nI (S 5 i 0) ≤ (0 : Int32) from nI_ge (a := 0) (by omega) (hg _ (by omega)))]
        by_cases hb : S 5 (6 + i) 0 = 0
        · rw [if_pos hb] at e1
          rw [if_pos (in_nI (by omega) (by omega)), hb, if_pos (show nI 0 ≤ (0 : Int32) from nI_le (b := 0) (Nat.le_refl 0) (by omega))]
          exact e1
        · rw [if_neg hb] at e1
          rw [if_pos (in_nI (by omega) (by omega)), if_neg (show ¬ nI (S 5 (6 + i) 0) ≤ (0 : Int32) from nI_ge (a := 0) (by omega) (hg _ (by omega)))]
          exact e1
    · obtain ⟨c1, c2, c3, c4⟩ := h.1 12 (by omega)
      have b2 := (hB.1 12 (by omega)).2.1
      have h6 : i = 6 := by omega
      subst h6
      rw [if_pos (show (6 : Int32) ≤ nI 6 from nI_le (a := 6) (by omega) (by omega)), tn_12, c2]
      unfold gs_cnt
      by_cases h0 : x = 0
      · rw [if_pos h0, if_pos h0]
      rw [if_neg h0, if_neg h0]
      by_cases h1 : x = 1
      · rw [if_pos h1, if_pos h1]
        by_cases hz : S 1 12 0 = 0
        · rw [if_pos hz, hz, if_pos (show nI 0 = (0 : Int32) from rfl)]; rfl
        · have e3 := (c3 (S 1 12 0 - 1) (by omega)).2
          rw [if_neg hz, if_neg (show ¬ nI (S 1 12 0) = (0 : Int32) from nI_ne0 (by omega) (by omega)), nz_36, ad_nI, nz_1, su_nI (by omega), if_pos (in_nI (by omega) (by omega)), tn_nI (by omega), show 36 + S 1 12 0 - 1 = 3 * 12 + (S 1 12 0 - 1) by omega, e3]
      rw [if_neg h1, if_neg h1]
      by_cases h2 : x = 2
      · rw [if_pos h2, if_pos h2]
      rw [if_neg h2, if_neg h2]
      by_cases h3 : x = 3
      · rw [if_pos h3, if_pos h3]
      rw [if_neg h3, if_neg h3]
      by_cases h4 : x = 4
      · rw [if_pos h4, if_pos h4, sr_all h hB hg, b_some]
      rw [if_neg h4, if_neg h4]
      by_cases h5 : x = 5
      · rw [if_pos h5, if_pos h5, h.2.2.2.1]
      rw [if_neg h5, if_neg h5]
theorem sr_count {τ : aw_m} {S : gs_S} {Z : gs_Z} (h : er_E τ S Z) (hB : gs_B S) (hg : ∀ e, e < 12 → S 5 e 0 < 2 ^ 31) (x : Int32) : xm_R_count τ x = some (gs_cnt S x) := rc_lp h hB hg x 64 0 (by omega) (by omega)
