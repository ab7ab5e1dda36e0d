/-! compile: copies, interfaces, keys -/
def gs_cp (S : gs_S) (a b : Nat) : gs_S := fun t e i => if e = b ∧ t ≤ 4 then S t a i else S t e i
def gz_cp (Z : gs_Z) (a b : Nat) : gs_Z := fun t e i => if e = b ∧ t ≤ 1 then Z t a i else Z t e i
theorem cp_e {S : gs_S} {a b t i : Nat} (h : t ≤ 4) : gs_cp S a b t b i = S t a i := if_pos ⟨rfl, h⟩
theorem cp_n {S : gs_S} {a b t e i : Nat} (h : e ≠ b ∨ 4 < t) : gs_cp S a b t e i = S t e i := if_neg (by omega)
theorem cz_e {Z : gs_Z} {a b t i : Nat} (h : t ≤ 1) : gz_cp Z a b t b i = Z t a i := if_pos ⟨rfl, h⟩
theorem cz_n {Z : gs_Z} {a b t e i : Nat} (h : e ≠ b ∨ 1 < t) : gz_cp Z a b t e i = Z t e i := if_neg (by omega)
theorem cb_ap {a b : Nat} (ha : a < 13) (hb : b < 13) (h : a ≠ b) : cb_ a + 6 ≤ cb_ b ∨ cb_ b + 6 ≤ cb_ a := by
  have h1 := cb_r ha
  have h2 := cb_r hb
  omega
theorem ec_code {σ σ2 : aw_m} {S : gs_S} {Z : gs_Z} {a b : Nat} (h : ec_E σ S Z) (ha : a < 13) (hb : b < 12) (hk : ∀ k, k < cb_ b ∨ cb_ b + 6 ≤ k → σ2 k = σ k) (hc : ec_C σ2 (gs_cp S a b) (gz_cp Z a b) b) : ec_E σ2 (gs_cp S a b) (gz_cp Z a b) := by
  obtain ⟨h1, h2, h3, h4, h5, h6, h7⟩ := h
  have hbr := cb_r (e := b) (by omega)
  refine ⟨fun e he => ?_, fun e he => ?_, fun m hm w hw => ?_, ?_, ?_, ?_, ?_⟩
  · by_cases hq : e = b
    · subst hq; exact hc
    · have := cb_ap he (show b < 13 by omega) hq
      exact ec_kC (h1 e he) (fun j hj => hk _ (by omega)) (fun t i _ => cp_n (by omega)) (fun t i _ => cz_n (by omega))
  · have := ub_r he
    have := cb_r (e := e) (by omega)
    exact ec_kU (h2 e he) (fun j hj => hk _ (by omega)) (fun t i _ _ => cp_n (by omega))
  · rw [hk _ (by omega), cz_n (by omega)]; exact h3 m hm w hw
  · rw [hk _ (by omega), cp_n (by omega)]; exact h4
  · rw [hk _ (by omega), cz_n (by omega)]; exact h5
  · rw [hk _ (by omega), cz_n (by omega)]; exact h6
  · rw [hk _ (by omega), cp_n (by omega)]; exact h7
theorem sc_copy {σ : aw_m} {S : gs_S} {Z : gs_Z} (h : ec_E σ S Z) {a b : Nat} (ha : a < 13) (hb : b < 12) (hab : a ≠ b) : ∃ σ2, xm_C_copyFrom σ (cb_ b) (cb_ a) = some σ2 ∧ ec_E σ2 (gs_cp S a b) (gz_cp Z a b) ∧ (∀ k, k < cb_ b ∨ cb_ b + 6 ≤ k → σ2 k = σ k) := by
  obtain ⟨c1, c2, c3, c4⟩ := h.1 a ha
  have hd := cb_ap ha (show b < 13 by omega) hab
  generalize hA : cb_ a = ka at c1 c2 c3 c4 hd
  generalize hBb : cb_ b = kb at hd
  refine ⟨aw_c (aw_c (aw_c (aw_c (aw_c (aw_p (aw_p σ kb 0 (σ ka 0)) kb 1 (σ ka 1)) (ka + 1) (kb + 1) 0 0 3) (ka + 2) (kb + 2) 0 0 3) (ka + 3) (kb + 3) 0 0 42) (ka + 4) (kb + 4) 0 0 42) (ka + 5) (kb + 5) 0 0 42, ?_, ?_, ?_⟩
  · unfold xm_C_copyFrom
    simp (disch := omega) only [l_eq, aw_pk]
  · refine ec_code h ha hb (fun k hk => ?_) ?_
    · rw [hBb] at hk
      simp (disch := omega) only [aw_cpk, aw_pk]
    · unfold ec_C
      rw [hBb]
      refine ⟨?_, ?_, fun p hp => ⟨?_, ?_⟩, fun c hc => ⟨?_, ?_, ?_⟩⟩
      · simp (disch := omega) only [aw_cpk, aw_pe, up_n, up_e, cp_e]; exact c1
      · simp (disch := omega) only [aw_cpk, aw_pe, up_n, up_e, cp_e]; exact c2
      · simp (disch := omega) only [aw_cpk, aw_cpe, aw_pk, cp_in, cp_e]; exact (c3 p hp).1
      · simp (disch := omega) only [aw_cpk, aw_cpe, aw_pk, cp_in, cp_e]; exact (c3 p hp).2
      · simp (disch := omega) only [aw_cpk, aw_cpe, aw_pk, cp_in, cp_e]; exact (c4 c hc).1
      · simp (disch := omega) only [aw_cpk, aw_cpe, aw_pk, cp_in, cz_e]; exact (c4 c hc).2.1
      · simp (disch := omega) only [aw_cpk, aw_cpe, aw_pk, cp_in, cz_e]; exact (c4 c hc).2.2
  · intro k hk
    simp (disch := omega) only [aw_cpk, aw_pk]
/-- the draft's interface is that of e -/
def gs_if (S : gs_S) (e : Nat) : Prop := S 0 e 0 = S 0 12 0 ∧ S 1 e 0 = S 1 12 0 ∧ ∀ p, p < S 1 e 0 → S 2 e p = S 2 12 p
theorem ci_lp {σ : aw_m} {S : gs_S} {Z : gs_Z} (h : ec_E σ S Z) (hB : gs_B S) {e : Nat} (he : e < 13) : ∀ (r p : Nat), p + r = S 1 e 0 → ∀ g, r < g →
    ((∀ q, p ≤ q → q < S 1 e 0 → S 2 e q = S 2 12 q) → xq_C_hasInterfaceOf_26 σ g (cb_ e) 1 (nI p) = some 1) ∧ ((¬ ∀ q, p ≤ q → q < S 1 e 0 → S 2 e q = S 2 12 q) → xq_C_hasInterfaceOf_26 σ g (cb_ e) 1 (nI p) = some 0) := by
  obtain ⟨c1, c2, c3, c4⟩ := h.1 e he
  obtain ⟨d1, d2, d3, d4⟩ := h.1 12 (by omega)
  obtain ⟨b1, b2, b3, b4⟩ := hB.1 e he
  have b5 := (hB.1 12 (by omega)).2.2.1
  intro r
  induction r with
  | zero =>
    intro p hp g hg
    obtain ⟨g, rfl⟩ : ∃ g', g = g' + 1 := ⟨g - 1, by omega⟩
    rw [xq_C_hasInterfaceOf_26, c2, if_pos (nI_le (by omega) (by omega))]
    exact ⟨fun _ => rfl, fun z => absurd (fun q h1 h2 => by omega) z⟩
  | succ r ih =>
    intro p hp g hg
    obtain ⟨g, rfl⟩ : ∃ g', g = g' + 1 := ⟨g - 1, by omega⟩
    have d3p : σ (1 + 1) p = nI (S 2 12 p) := (d3 p (by omega)).1
    have bp := (b3 p (by omega)).1
    have bq := (b5 p (by omega)).1
    rw [xq_C_hasInterfaceOf_26, c2, if_neg (nI_ge (by omega) (by omega)), if_pos (in_nI (by omega) (by omega)), if_pos (in_nI (by omega) (by omega)), tn_nI (by omega), (c3 p (by omega)).1, d3p]
    by_cases hq : S 2 e p = S 2 12 p
    · obtain ⟨a1, a2⟩ := ih (p + 1) (by omega) g (by omega)
      rw [hq, if_pos rfl, nz_1, ad_nI]
      refine ⟨fun z => a1 (fun q h1 h2 => z q (by omega) h2), fun z => a2 (fun z2 => z (fun q h1 h2 => ?_))⟩
      rcases Nat.lt_or_ge p q with w | w
      · exact z2 q w h2
      · rw [show q = p by omega]; exact hq
    · rw [if_neg (fun z => hq ((nI_eq (by omega) (by omega)).mp z))]
      exact ⟨fun z => absurd (z p (Nat.le_refl p) (by omega)) hq, fun _ => rfl⟩
theorem sc_iface {σ : aw_m} {S : gs_S} {Z : gs_Z} (h : ec_E σ S Z) (hB : gs_B S) {e : Nat} (he : e < 12) : (gs_if S e → xm_C_hasInterfaceOf σ (cb_ e) 1 = some 1) ∧ (¬ gs_if S e → xm_C_hasInterfaceOf σ (cb_ e) 1 = some 0) := by
  obtain ⟨c1, c2, c3, c4⟩ := h.1 e (by omega)
  have d1 : σ 1 0 = nI (S 0 12 0) := (h.1 12 (by omega)).1
  have d2 : σ 1 1 = nI (S 1 12 0) := (h.1 12 (by omega)).2.1
  obtain ⟨b1, b2, -, -⟩ := hB.1 e (by omega)
  obtain ⟨b3, b4, -, -⟩ := hB.1 12 (by omega)
  unfold xm_C_hasInterfaceOf
  rw [c1, d1, c2, d2]
  by_cases h1 : S 0 e 0 = S 0 12 0
  · rw [h1, if_pos rfl]
    by_cases h2 : S 1 e 0 = S 1 12 0
    · obtain ⟨a1, a2⟩ := ci_lp h hB (e := e) (by omega) (S 1 e 0) 0 (by omega) 64 (by omega)
      rw [h2, if_pos rfl]
      exact ⟨fun z => a1 (fun q _ hq => z.2.2 q hq), fun z => a2 (fun w => z ⟨h1, h2, fun q hq => w q (Nat.zero_le q) hq⟩)⟩
    · rw [if_neg (fun z => h2 ((nI_eq (by omega) (by omega)).mp z))]
      exact ⟨fun z => absurd z.2.1 h2, fun _ => rfl⟩
  · rw [if_neg (fun z => h1 ((nI_eq (by omega) (by omega)).mp z))]
    exact ⟨fun z => absurd z.1 h1, fun _ => rfl⟩
theorem ra_lk {τ : aw_m} {S : gs_S} {Z : gs_Z} (h : er_E τ S Z) (hB : gs_B S) {e : Nat} (he : e < 13) : ∀ (r p : Nat), p + r = S 1 e 0 → ∀ g, r < g →
    ((∀ q, p ≤ q → q < S 1 e 0 → S 2 e q = S 2 12 q) → xq_R_alike_45 τ g (nI e) (nI p) = some 1) ∧ ((¬ ∀ q, p ≤ q → q < S 1 e 0 → S 2 e q = S 2 12 q) → xq_R_alike_45 τ g (nI e) (nI p) = some 0) := by
  obtain ⟨c1, c2, c3, c4⟩ := h.1 e he
  obtain ⟨d1, d2, d3, d4⟩ := h.1 12 (by omega)
  obtain ⟨b1, b2, b3, b4⟩ := hB.1 e he
  have b5 := (hB.1 12 (by omega)).2.2.1
  intro r
  induction r with
  | zero =>
    intro p hp g hg
    obtain ⟨g, rfl⟩ : ∃ g', g = g' + 1 := ⟨g - 1, by omega⟩
    rw [xq_R_alike_45, if_pos (in_nI he (by omega)), tn_nI (by omega), c2, if_pos (nI_le (by omega) (by omega))]
    exact ⟨fun _ => rfl, fun z => absurd (fun q h1 h2 => by omega) z⟩
  | succ r ih =>
    intro p hp g hg
    obtain ⟨g, rfl⟩ : ∃ g', g = g' + 1 := ⟨g - 1, by omega⟩
    have d3p : τ 4 (36 + p) = nI (S 2 12 p) := (d3 p (by omega)).1
    have bp := (b3 p (by omega)).1
    have bq := (b5 p (by omega)).1
    rw [xq_R_alike_45, if_pos (in_nI he (by omega)), tn_nI (by omega), c2, if_neg (nI_ge (by omega) (by omega)), nz_3, mu_nI, ad_nI, if_pos (in_nI (by omega) (by omega)), nz_36, ad_nI, if_pos (in_nI (by omega) (by omega)), tn_nI (by omega), tn_nI (by omega), (c3 p (by omega)).1, d3p]
    by_cases hq : S 2 e p = S 2 12 p
    · obtain ⟨a1, a2⟩ := ih (p + 1) (by omega) g (by omega)
      rw [hq, if_pos rfl, nz_1, ad_nI]
      refine ⟨fun z => a1 (fun q h1 h2 => z q (by omega) h2), fun z => a2 (fun z2 => z (fun q h1 h2 => ?_))⟩
      rcases Nat.lt_or_ge p q with w | w
      · exact z2 q w h2
      · rw [show q = p by omega]; exact hq
    · rw [if_neg (fun z => hq ((nI_eq (by omega) (by omega)).mp z))]
      exact ⟨fun z => absurd (z p (Nat.le_refl p) (by omega)) hq, fun _ => rfl⟩
theorem sr_alike {τ : aw_m} {S : gs_S} {Z : gs_Z} (h : er_E τ S Z) (hB : gs_B S) (hg : ∀ e, e < 12 → S 5 e 0 < 2 ^ 31) {e : Nat} (he : e < 12) : ((S 5 e 0 ≠ 0 ∧ gs_if S e) → xm_R_alike τ (nI e) = some 1) ∧ (¬ (S 5 e 0 ≠ 0 ∧ gs_if S e) → xm_R_alike τ (nI e) = some 0) := by
  obtain ⟨c1, c2, c3, c4⟩ := h.1 e (by omega)
  obtain ⟨d1, d2, d3, d4⟩ := h.1 12 (by omega)
  have k1 := (h.2.1 e he).1
  have hge := hg e he
  obtain ⟨b1, b2, -, -⟩ := hB.1 e (by omega)
  obtain ⟨b3, b4, -, -⟩ := hB.1 12 (by omega)
  have hin : aw_in (nI e) 13 = true := in_nI (by omega) (by omega)
  unfold xm_R_alike
  rw [if_pos hin, tn_nI (by omega), k1, tn_12, c1, d1, c2, d2]
  by_cases h0 : S 5 e 0 = 0
  · rw [h0, if_pos (show nI 0 = (0 : Int32) from rfl)]
    exact ⟨fun z => absurd rfl z.1, fun _ => rfl⟩
  rw [if_neg (show ¬ nI (S 5 e 0) = (0 : Int32) from nI_ne0 (by omega) hge), if_pos hin]
  by_cases h1 : S 0 e 0 = S 0 12 0
  · rw [h1, if_pos rfl, if_pos hin]
    by_cases h2 : S 1 e 0 = S 1 12 0
    · obtain ⟨a1, a2⟩ := ra_lk h hB (e := e) (by omega) (S 1 e 0) 0 (by omega) 64 (by omega)
      rw [h2, if_pos rfl]
      exact ⟨fun z => a1 (fun q _ hq => z.2.2.2 q hq), fun z => a2 (fun w => z ⟨h0, h1, h2, fun q hq => w q (Nat.zero_le q) hq⟩)⟩
    · rw [if_neg (fun z => h2 ((nI_eq (by omega) (by omega)).mp z))]
      exact ⟨fun z => absurd z.2.2.1 h2, fun _ => rfl⟩
  · rw [if_neg (fun z => h1 ((nI_eq (by omega) (by omega)).mp z))]
    exact ⟨fun z => absurd z.2.1 h1, fun _ => rfl⟩
