/-! The draft's calls: begin, procedure, token -/
theorem ec_kC {σ σ2 : aw_m} {S S2 : gs_S} {Z Z2 : gs_Z} {e : Nat} (h : ec_C σ S Z e) (hσ : ∀ j, j < 6 → σ2 (cb_ e + j) = σ (cb_ e + j)) (hS : ∀ t i, t ≤ 4 → S2 t e i = S t e i) (hZ : ∀ t i, t ≤ 1 → Z2 t e i = Z t e i) : ec_C σ2 S2 Z2 e := by
  obtain ⟨h1, h2, h3, h4⟩ := h
  refine ⟨?_, ?_, fun p hp => ⟨?_, ?_⟩, fun c hc => ⟨?_, ?_, ?_⟩⟩
  · have := hσ 0 (by omega); rw [Nat.add_zero] at this; rw [this, hS 0 0 (by omega)]; exact h1
  · have := hσ 0 (by omega); rw [Nat.add_zero] at this; rw [this, hS 1 0 (by omega)]; exact h2
  · rw [hσ 1 (by omega), hS 2 p (by omega)]; exact (h3 p hp).1
  · rw [hσ 2 (by omega), hS 3 p (by omega)]; exact (h3 p hp).2
  · rw [hσ 3 (by omega), hS 4 c (by omega)]; exact (h4 c hc).1
  · rw [hσ 4 (by omega), hZ 0 c (by omega)]; exact (h4 c hc).2.1
  · rw [hσ 5 (by omega), hZ 1 c (by omega)]; exact (h4 c hc).2.2
theorem ec_kU {σ σ2 : aw_m} {S S2 : gs_S} {e : Nat} (h : ec_U σ S e) (hσ : ∀ j, j < 3 → σ2 (ub_ e + j) = σ (ub_ e + j)) (hS : ∀ t i, 5 ≤ t → t ≤ 8 → S2 t e i = S t e i) : ec_U σ2 S2 e := by
  obtain ⟨h1, h2, h3, h4⟩ := h
  have h0 := hσ 0 (by omega)
  rw [Nat.add_zero] at h0
  refine ⟨?_, fun hk => ?_, ?_, fun i hi => ?_⟩
  · rw [h0, hS 5 0 (by omega) (by omega)]; exact h1
  · rw [hS 5 0 (by omega) (by omega)] at hk ⊢; rw [h0]; exact h2 hk
  · rw [h0, hS 6 0 (by omega) (by omega)]; exact h3
  · rw [hS 6 0 (by omega) (by omega)] at hi
    rw [hσ 1 (by omega), hσ 2 (by omega), hS 7 i (by omega) (by omega), hS 8 i (by omega) (by omega)]
    exact h4 i hi
/-- only the draft's cells have changed -/
theorem ec_draft {σ σ2 : aw_m} {S S2 : gs_S} {Z Z2 : gs_Z} (h : ec_E σ S Z) (hσ : ∀ k, k = 0 ∨ 7 ≤ k → σ2 k = σ k) (hS : ∀ t e i, e ≠ 12 → S2 t e i = S t e i) (hZ : ∀ t e i, e ≠ 12 → Z2 t e i = Z t e i) (hd : ec_C σ2 S2 Z2 12) : ec_E σ2 S2 Z2 := by
  obtain ⟨h1, h2, h3, h4, h5, h6, h7⟩ := h
  refine ⟨fun e he => ?_, fun e he => ?_, fun m hm v hv => ?_, ?_, ?_, ?_, ?_⟩
  · by_cases h12 : e = 12
    · subst h12; exact hd
    · have hl := (cb_lo (e := e) (by omega)).1
      exact ec_kC (h1 e he) (fun j hj => hσ _ (by omega)) (fun t i _ => hS t e i h12) (fun t i _ => hZ t e i h12)
  · have hl := cb_lo he
    exact ec_kU (h2 e he) (fun j hj => hσ _ (by omega)) (fun t i _ _ => hS t e i (by omega))
  · rw [hσ _ (by omega), hZ 2 m v (by omega)]; exact h3 m hm v hv
  · rw [hσ 7 (by omega), hS 9 0 0 (by omega)]; exact h4
  · rw [hσ 0 (by omega), hZ 3 0 0 (by omega)]; exact h5
  · rw [hσ 0 (by omega), hZ 4 0 0 (by omega)]; exact h6
  · rw [hσ 132 (by omega), hS 10 0 0 (by omega)]; exact h7
theorem er_kC {τ τ2 : aw_m} {S S2 : gs_S} {Z Z2 : gs_Z} {e : Nat} (h : er_C τ S Z e) (h2 : τ2 2 e = τ 2 e) (h3 : τ2 3 e = τ 3 e) (h4 : ∀ p, p < 3 → τ2 4 (3 * e + p) = τ 4 (3 * e + p) ∧ τ2 5 (3 * e + p) = τ 5 (3 * e + p)) (h6 : ∀ c, c < 42 → τ2 6 (42 * e + c) = τ 6 (42 * e + c) ∧ τ2 7 (42 * e + c) = τ 7 (42 * e + c) ∧ τ2 8 (42 * e + c) = τ 8 (42 * e + c)) (hS : ∀ t i, t ≤ 4 → S2 t e i = S t e i) (hZ : ∀ t i, t ≤ 1 → Z2 t e i = Z t e i) : er_C τ2 S2 Z2 e := by
  obtain ⟨g1, g2, g3, g4⟩ := h
  refine ⟨?_, ?_, fun p hp => ⟨?_, ?_⟩, fun c hc => ⟨?_, ?_, ?_⟩⟩
  · rw [h2, hS 0 0 (by omega)]; exact g1
  · rw [h3, hS 1 0 (by omega)]; exact g2
  · rw [(h4 p hp).1, hS 2 p (by omega)]; exact (g3 p hp).1
  · rw [(h4 p hp).2, hS 3 p (by omega)]; exact (g3 p hp).2
  · rw [(h6 c hc).1, hS 4 c (by omega)]; exact (g4 c hc).1
  · rw [(h6 c hc).2.1, hZ 0 c (by omega)]; exact (g4 c hc).2.1
  · rw [(h6 c hc).2.2, hZ 1 c (by omega)]; exact (g4 c hc).2.2
theorem er_kU {τ τ2 : aw_m} {S S2 : gs_S} {e : Nat} (h : er_U τ S e) (h1 : τ2 1 e = τ 1 e) (h9 : τ2 9 e = τ 9 e) (h10 : ∀ i, i < 5 → τ2 10 (5 * e + i) = τ 10 (5 * e + i) ∧ τ2 11 (5 * e + i) = τ 11 (5 * e + i)) (hb : S 6 e 0 ≤ 5) (hS : ∀ t i, 5 ≤ t → t ≤ 8 → S2 t e i = S t e i) : er_U τ2 S2 e := by
  obtain ⟨g1, g2, g3⟩ := h
  refine ⟨?_, ?_, fun i hi => ?_⟩
  · rw [h1, hS 5 0 (by omega) (by omega)]; exact g1
  · rw [h9, hS 6 0 (by omega) (by omega)]; exact g2
  · rw [hS 6 0 (by omega) (by omega)] at hi
    rw [(h10 i (by omega)).1, (h10 i (by omega)).2, hS 7 i (by omega) (by omega), hS 8 i (by omega) (by omega)]
    exact g3 i hi
theorem er_draft {τ τ2 : aw_m} {S S2 : gs_S} {Z Z2 : gs_Z} (h : er_E τ S Z) (hB : gs_B S) (h0 : ∀ k, k < 2 ∨ 9 ≤ k → τ2 k = τ k) (h2 : ∀ e, e < 12 → τ2 2 e = τ 2 e ∧ τ2 3 e = τ 3 e) (h4 : ∀ p, p < 36 → τ2 4 p = τ 4 p ∧ τ2 5 p = τ 5 p) (h6 : ∀ c, c < 504 → τ2 6 c = τ 6 c ∧ τ2 7 c = τ 7 c ∧ τ2 8 c = τ 8 c)
    (hS : ∀ t e i, e ≠ 12 → S2 t e i = S t e i) (hZ : ∀ t e i, e ≠ 12 → Z2 t e i = Z t e i) (hd : er_C τ2 S2 Z2 12) : er_E τ2 S2 Z2 := by
  obtain ⟨g1, g2, g3, g4, g5, g6, g7⟩ := h
  refine ⟨fun e he => ?_, fun e he => ?_, fun m hm v hv => ?_, ?_, ?_, ?_, ?_⟩
  · by_cases h12 : e = 12
    · subst h12; exact hd
    · exact er_kC (g1 e he) (h2 e (by omega)).1 (h2 e (by omega)).2 (fun p hp => h4 _ (by omega)) (fun c hc => h6 _ (by omega)) (fun t i _ => hS t e i h12) (fun t i _ => hZ t e i h12)
  · exact er_kU (g2 e he) (by rw [h0 1 (by omega)]) (by rw [h0 9 (by omega)]) (fun i _ => by rw [h0 10 (by omega), h0 11 (by omega)]; exact ⟨rfl, rfl⟩) (hB.2.1 e he).1 (fun t i _ _ => hS t e i (by omega))
  · rw [h0 12 (by omega), hZ 2 m v (by omega)]; exact g3 m hm v hv
  · rw [h0 0 (by omega), hS 9 0 0 (by omega)]; exact g4
  · rw [h0 0 (by omega), hZ 3 0 0 (by omega)]; exact g5
  · rw [h0 0 (by omega), hZ 4 0 0 (by omega)]; exact g6
  · rw [h0 0 (by omega), hS 10 0 0 (by omega)]; exact g7
def gs_begin (S : gs_S) (v : Nat) : gs_S := g3 (g3 S 0 12 0 v) 1 12 0 0
def gs_proc (S : gs_S) (n : Nat) : gs_S := g3 (g3 (g3 S 2 12 (S 1 12 0) n) 3 12 (S 1 12 0) 0) 1 12 0 (S 1 12 0 + 1)
def gs_tok (S : gs_S) (o : Nat) : gs_S := g3 (g3 S 4 12 (14 * (S 1 12 0 - 1) + S 3 12 (S 1 12 0 - 1)) o) 3 12 (S 1 12 0 - 1) (S 3 12 (S 1 12 0 - 1) + 1)
def gz_tok (S : gs_S) (Z : gs_Z) (a b : Int32) : gs_Z := g3 (g3 Z 0 12 (14 * (S 1 12 0 - 1) + S 3 12 (S 1 12 0 - 1)) a) 1 12 (14 * (S 1 12 0 - 1) + S 3 12 (S 1 12 0 - 1)) b
theorem sc_begin {σ : aw_m} {S : gs_S} {Z : gs_Z} (h : ec_E σ S Z) {v : Nat} (hv : v ≤ 3) : ∃ σ2, xm_S_begin σ (nI v) = some (0, σ2) ∧ ec_E σ2 (gs_begin S v) Z := by
  refine ⟨aw_p (aw_p σ 1 0 (nI v)) 1 1 0, ?_, ?_⟩
  · unfold xm_S_begin xm_C_clear
    rw [if_neg (nI_pos (by omega)), if_pos (show nI v ≤ (3 : Int32) from nI_le (b := 3) hv (by omega))]
    rfl
  · refine ec_draft h (fun k hk => ?_) (fun t e i he => ?_) (fun _ _ _ _ => rfl) ?_
    · rw [aw_pk (by omega), aw_pk (by omega)]
    · unfold gs_begin; rw [g3_n (by omega), g3_n (by omega)]
    · obtain ⟨h1, h2, h3, h4⟩ := h.1 12 (by omega)
      refine ⟨?_, ?_, fun p hp => ⟨?_, ?_⟩, fun c hc => ⟨?_, ?_, ?_⟩⟩
      · show aw_p (aw_p σ 1 0 (nI v)) 1 1 0 1 0 = _
        rw [aw_pe, up_n (by omega), aw_pe, up_e]; unfold gs_begin; rw [g3_n (by omega), g3_e]
      · show aw_p (aw_p σ 1 0 (nI v)) 1 1 0 1 1 = _
        rw [aw_pe, up_e]; unfold gs_begin; rw [g3_e]; rfl
      · show aw_p (aw_p σ 1 0 (nI v)) 1 1 0 2 p = _
        rw [aw_pk (by omega), aw_pk (by omega)]; unfold gs_begin; rw [g3_n (by omega), g3_n (by omega)]; exact (h3 p hp).1
      · show aw_p (aw_p σ 1 0 (nI v)) 1 1 0 3 p = _
        rw [aw_pk (by omega), aw_pk (by omega)]; unfold gs_begin; rw [g3_n (by omega), g3_n (by omega)]; exact (h3 p hp).2
      · show aw_p (aw_p σ 1 0 (nI v)) 1 1 0 4 c = _
        rw [aw_pk (by omega), aw_pk (by omega)]; unfold gs_begin; rw [g3_n (by omega), g3_n (by omega)]; exact (h4 c hc).1
      · show aw_p (aw_p σ 1 0 (nI v)) 1 1 0 5 c = _
        rw [aw_pk (by omega), aw_pk (by omega)]; exact (h4 c hc).2.1
      · show aw_p (aw_p σ 1 0 (nI v)) 1 1 0 6 c = _
        rw [aw_pk (by omega), aw_pk (by omega)]; exact (h4 c hc).2.2
theorem tn_12 : Int32.toNatClampNeg (12 : Int32) = 12 := tn_nI (a := 12) (by omega)
theorem sr_begin {τ : aw_m} {S : gs_S} {Z : gs_Z} (h : er_E τ S Z) (hB : gs_B S) {v : Nat} (hv : v ≤ 3) : ∃ τ2, xm_R_begin τ (nI v) = some (0, τ2) ∧ er_E τ2 (gs_begin S v) Z := by
  refine ⟨aw_p (aw_p τ 2 12 (nI v)) 3 12 0, ?_, ?_⟩
  · unfold xm_R_begin xm_R_in
    rw [if_neg (nI_pos (by omega)), if_neg (show ¬ (3 : Int32) < nI v from nI_nlt (a := 3) hv (by omega)), b_some, if_neg (by decide), tn_12]
    rfl
  · refine er_draft h hB (fun k hk => ?_) (fun e he => ?_) (fun p hp => ?_) (fun c hc => ?_) (fun t e i he => ?_) (fun _ _ _ _ => rfl) ?_
    · rw [aw_pk (by omega), aw_pk (by omega)]
    · rw [aw_pk (by omega), aw_pe, up_n (by omega), aw_pe, up_n (by omega), aw_pk (by omega)]; exact ⟨rfl, rfl⟩
    · rw [aw_pk (by omega), aw_pk (by omega), aw_pk (by omega), aw_pk (by omega)]; exact ⟨rfl, rfl⟩
    · rw [aw_pk (by omega), aw_pk (by omega), aw_pk (by omega), aw_pk (by omega), aw_pk (by omega), aw_pk (by omega)]; exact ⟨rfl, rfl, rfl⟩
    · unfold gs_begin; rw [g3_n (by omega), g3_n (by omega)]
    · obtain ⟨h1, h2, h3, h4⟩ := h.1 12 (by omega)
      refine ⟨?_, ?_, fun p hp => ⟨?_, ?_⟩, fun c hc => ⟨?_, ?_, ?_⟩⟩
      · rw [aw_pk (by omega), aw_pe, up_e]; unfold gs_begin; rw [g3_n (by omega), g3_e]
      · rw [aw_pe, up_e]; unfold gs_begin; rw [g3_e]; rfl
      · rw [aw_pk (by omega), aw_pk (by omega)]; unfold gs_begin; rw [g3_n (by omega), g3_n (by omega)]; exact (h3 p hp).1
      · rw [aw_pk (by omega), aw_pk (by omega)]; unfold gs_begin; rw [g3_n (by omega), g3_n (by omega)]; exact (h3 p hp).2
      · rw [aw_pk (by omega), aw_pk (by omega)]; unfold gs_begin; rw [g3_n (by omega), g3_n (by omega)]; exact (h4 c hc).1
      · rw [aw_pk (by omega), aw_pk (by omega)]; exact (h4 c hc).2.1
      · rw [aw_pk (by omega), aw_pk (by omega)]; exact (h4 c hc).2.2

theorem sc_proc {σ : aw_m} {S : gs_S} {Z : gs_Z} (h : ec_E σ S Z) {n : Nat} (hn : n ≤ 2) (hp : S 1 12 0 < 3) : ∃ σ2, xm_S_procedure σ (nI n) = some (nI (S 1 12 0), σ2) ∧ ec_E σ2 (gs_proc S n) Z := by
  obtain ⟨h1, h2, h3, h4⟩ := h.1 12 (by omega)
  have h2' : σ 1 1 = nI (S 1 12 0) := h2
  refine ⟨aw_p (aw_p (aw_p σ 2 (S 1 12 0) (nI n)) 3 (S 1 12 0) 0) 1 1 (nI (S 1 12 0 + 1)), ?_, ?_⟩
  · unfold xm_S_procedure xm_C_addProcedure
    rw [if_neg (nI_pos (by omega)), if_pos (show nI n ≤ (2 : Int32) from nI_le (b := 2) hn (by omega))]
    simp (disch := omega) only [l_eq, aw_pk, aw_pe, up_e, h2', nz_3, lt_nI, in_nI, tn_nI, nz_1, ad_nI, su_nI, hp, if_true, b_some, Nat.add_sub_cancel]
  · refine ec_draft h (fun k hk => ?_) (fun t e i he => ?_) (fun _ _ _ _ => rfl) ?_
    · rw [aw_pk (by omega), aw_pk (by omega), aw_pk (by omega)]
    · unfold gs_proc; rw [g3_n (by omega), g3_n (by omega), g3_n (by omega)]
    · refine ⟨?_, ?_, fun p hp => ⟨?_, ?_⟩, fun c hc => ⟨?_, ?_, ?_⟩⟩
      · show aw_p (aw_p (aw_p σ 2 (S 1 12 0) (nI n)) 3 (S 1 12 0) 0) 1 1 (nI (S 1 12 0 + 1)) 1 0 = _
        simp (disch := omega) only [aw_pk, aw_pe, up_n, gs_proc, g3_n]; exact h1
      · show aw_p (aw_p (aw_p σ 2 (S 1 12 0) (nI n)) 3 (S 1 12 0) 0) 1 1 (nI (S 1 12 0 + 1)) 1 1 = _
        simp (disch := omega) only [aw_pe, up_e, gs_proc, g3_e]
      · show aw_p (aw_p (aw_p σ 2 (S 1 12 0) (nI n)) 3 (S 1 12 0) 0) 1 1 (nI (S 1 12 0 + 1)) 2 p = _
        by_cases hq : p = S 1 12 0
        · subst hq; simp (disch := omega) only [aw_pk, aw_pe, up_e, gs_proc, g3_n, g3_e]
        · simp (disch := omega) only [aw_pk, aw_pe, up_n, gs_proc, g3_n]; exact (h3 p hp).1
      · show aw_p (aw_p (aw_p σ 2 (S 1 12 0) (nI n)) 3 (S 1 12 0) 0) 1 1 (nI (S 1 12 0 + 1)) 3 p = _
        by_cases hq : p = S 1 12 0
        · subst hq; simp (disch := omega) only [aw_pk, aw_pe, up_e, gs_proc, g3_n, g3_e]; rfl
        · simp (disch := omega) only [aw_pk, aw_pe, up_n, gs_proc, g3_n]; exact (h3 p hp).2
      · show aw_p (aw_p (aw_p σ 2 (S 1 12 0) (nI n)) 3 (S 1 12 0) 0) 1 1 (nI (S 1 12 0 + 1)) 4 c = _
        simp (disch := omega) only [aw_pk, gs_proc, g3_n]; exact (h4 c hc).1
      · show aw_p (aw_p (aw_p σ 2 (S 1 12 0) (nI n)) 3 (S 1 12 0) 0) 1 1 (nI (S 1 12 0 + 1)) 5 c = _
        simp (disch := omega) only [aw_pk]; exact (h4 c hc).2.1
      · show aw_p (aw_p (aw_p σ 2 (S 1 12 0) (nI n)) 3 (S 1 12 0) 0) 1 1 (nI (S 1 12 0 + 1)) 6 c = _
        simp (disch := omega) only [aw_pk]; exact (h4 c hc).2.2
theorem sr_proc {τ : aw_m} {S : gs_S} {Z : gs_Z} (h : er_E τ S Z) (hB : gs_B S) {n : Nat} (hn : n ≤ 2) (hp : S 1 12 0 < 3) : ∃ τ2, xm_R_procedure τ (nI n) = some (nI (S 1 12 0), τ2) ∧ er_E τ2 (gs_proc S n) Z := by
  obtain ⟨h1, h2, h3, h4⟩ := h.1 12 (by omega)
  have hne : ¬ S 1 12 0 = 3 := by omega
  refine ⟨aw_p (aw_p (aw_p τ 4 (36 + S 1 12 0) (nI n)) 5 (36 + S 1 12 0) 0) 3 12 (nI (S 1 12 0 + 1)), ?_, ?_⟩
  · unfold xm_R_procedure xm_R_in
    rw [if_neg (nI_pos (by omega)), if_neg (show ¬ (2 : Int32) < nI n from nI_nlt (a := 2) hn (by omega)), b_some, if_neg (by decide), tn_12]
    simp (disch := omega) only [l_eq, aw_pk, h2, nz_3, nz_36, nz_1, eq_nI, ad_nI, in_nI, tn_nI, hne, if_true, if_false]
  · refine er_draft h hB (fun k hk => ?_) (fun e he => ?_) (fun p hp => ?_) (fun c hc => ?_) (fun t e i he => ?_) (fun _ _ _ _ => rfl) ?_
    · simp (disch := omega) only [aw_pk]
    · simp (disch := omega) only [aw_pk, aw_pe, up_n, and_self]
    · simp (disch := omega) only [aw_pk, aw_pe, up_n, and_self]
    · simp (disch := omega) only [aw_pk, and_self]
    · unfold gs_proc; rw [g3_n (by omega), g3_n (by omega), g3_n (by omega)]
    · refine ⟨?_, ?_, fun p hp => ⟨?_, ?_⟩, fun c hc => ⟨?_, ?_, ?_⟩⟩
      · simp (disch := omega) only [aw_pk, gs_proc, g3_n]; exact h1
      · simp (disch := omega) only [aw_pe, up_e, gs_proc, g3_e]
      · by_cases hq : p = S 1 12 0
        · subst hq; simp (disch := omega) only [aw_pk, aw_pe, up_e, gs_proc, g3_n, g3_e]
        · simp (disch := omega) only [aw_pk, aw_pe, up_n, gs_proc, g3_n]; exact (h3 p hp).1
      · by_cases hq : p = S 1 12 0
        · subst hq; simp (disch := omega) only [aw_pk, aw_pe, up_e, gs_proc, g3_n, g3_e]; rfl
        · simp (disch := omega) only [aw_pk, aw_pe, up_n, gs_proc, g3_n]; exact (h3 p hp).2
      · simp (disch := omega) only [aw_pk, gs_proc, g3_n]; exact (h4 c hc).1
      · simp (disch := omega) only [aw_pk]; exact (h4 c hc).2.1
      · simp (disch := omega) only [aw_pk]; exact (h4 c hc).2.2
theorem sc_tok {σ : aw_m} {S : gs_S} {Z : gs_Z} (h : ec_E σ S Z) (hB : gs_B S) {o : Nat} {a b : Int32} (ho : o ≤ 11) (hp : S 1 12 0 ≠ 0) (hl : S 3 12 (S 1 12 0 - 1) < 14) : ∃ σ2, xm_S_token σ (nI o) a b = some (nI (S 3 12 (S 1 12 0 - 1) + 1), σ2) ∧ ec_E σ2 (gs_tok S o) (gz_tok S Z a b) := by
  obtain ⟨h1, h2, h3, h4⟩ := h.1 12 (by omega)
  have h2' : σ 1 1 = nI (S 1 12 0) := h2
  have hp3 := (hB.1 12 (by omega)).2.1
  obtain ⟨p0, hp0⟩ : ∃ p, p = S 1 12 0 - 1 := ⟨_, rfl⟩
  have h3' : σ 3 p0 = nI (S 3 12 p0) := (h3 p0 (by omega)).2
  obtain ⟨c0, hc0⟩ : ∃ c, c = 14 * p0 + S 3 12 p0 := ⟨_, rfl⟩
  unfold gs_tok gz_tok
  rw [← hp0] at hl ⊢
  rw [← hc0]
  refine ⟨aw_p (aw_p (aw_p (aw_p σ 4 c0 (nI o)) 5 c0 a) 6 c0 b) 3 p0 (nI (S 3 12 p0 + 1)), ?_, ?_⟩
  · unfold xm_S_token xm_C_addToken xm_C_cellOf
    rw [if_neg (nI_pos (by omega)), if_pos (show nI o ≤ (11 : Int32) from nI_le (b := 11) ho (by omega))]
    have e1 : nI (S 1 12 0) - nI 1 = nI p0 := by rw [su_nI (by omega), hp0]
    have e2 : nI (p0 * 14 + S 3 12 p0) = nI c0 := by rw [hc0]; congr 1; omega
    simp (disch := omega) only [l_eq, aw_pk, aw_pe, up_e, h2', nz_0, nz_14, nz_1, e1, eq_nI, lt_nI, in_nI, tn_nI, h3', mu_nI, ad_nI, e2, hp, hl, if_true, if_false, b_some]
  · refine ec_draft h (fun k hk => ?_) (fun t e i he => ?_) (fun t e i he => ?_) ?_
    · simp (disch := omega) only [aw_pk]
    · rw [g3_n (by omega), g3_n (by omega)]
    · rw [g3_n (by omega), g3_n (by omega)]
    · refine ⟨?_, ?_, fun p hp => ⟨?_, ?_⟩, fun c hc => ⟨?_, ?_, ?_⟩⟩
      · show aw_p (aw_p (aw_p (aw_p σ 4 c0 (nI o)) 5 c0 a) 6 c0 b) 3 p0 (nI (S 3 12 p0 + 1)) 1 0 = _
        simp (disch := omega) only [aw_pk, g3_n]; exact h1
      · show aw_p (aw_p (aw_p (aw_p σ 4 c0 (nI o)) 5 c0 a) 6 c0 b) 3 p0 (nI (S 3 12 p0 + 1)) 1 1 = _
        simp (disch := omega) only [aw_pk, g3_n]; exact h2
      · show aw_p (aw_p (aw_p (aw_p σ 4 c0 (nI o)) 5 c0 a) 6 c0 b) 3 p0 (nI (S 3 12 p0 + 1)) 2 p = _
        simp (disch := omega) only [aw_pk, g3_n]; exact (h3 p hp).1
      · show aw_p (aw_p (aw_p (aw_p σ 4 c0 (nI o)) 5 c0 a) 6 c0 b) 3 p0 (nI (S 3 12 p0 + 1)) 3 p = _
        by_cases hq : p = p0
        · subst hq; simp (disch := omega) only [aw_pe, up_e, g3_e]
        · simp (disch := omega) only [aw_pk, aw_pe, up_n, g3_n]; exact (h3 p hp).2
      · show aw_p (aw_p (aw_p (aw_p σ 4 c0 (nI o)) 5 c0 a) 6 c0 b) 3 p0 (nI (S 3 12 p0 + 1)) 4 c = _
        by_cases hq : c = c0
        · rw [hq]; simp (disch := omega) only [aw_pk, aw_pe, up_e, g3_n, g3_e]
        · simp (disch := omega) only [aw_pk, aw_pe, up_n, g3_n]; exact (h4 c hc).1
      · show aw_p (aw_p (aw_p (aw_p σ 4 c0 (nI o)) 5 c0 a) 6 c0 b) 3 p0 (nI (S 3 12 p0 + 1)) 5 c = _
        by_cases hq : c = c0
        · rw [hq]; simp (disch := omega) only [aw_pk, aw_pe, up_e, g3_n, g3_e]
        · simp (disch := omega) only [aw_pk, aw_pe, up_n, g3_n]; exact (h4 c hc).2.1
      · show aw_p (aw_p (aw_p (aw_p σ 4 c0 (nI o)) 5 c0 a) 6 c0 b) 3 p0 (nI (S 3 12 p0 + 1)) 6 c = _
        by_cases hq : c = c0
        · rw [hq]; simp (disch := omega) only [aw_pk, aw_pe, up_e, g3_n, g3_e]
        · simp (disch := omega) only [aw_pk, aw_pe, up_n, g3_n]; exact (h4 c hc).2.2
theorem sr_tok {τ : aw_m} {S : gs_S} {Z : gs_Z} (h : er_E τ S Z) (hB : gs_B S) {o : Nat} {a b : Int32} (ho : o ≤ 11) (hp : S 1 12 0 ≠ 0) (hl : S 3 12 (S 1 12 0 - 1) < 14) : ∃ τ2, xm_R_token τ (nI o) a b = some (nI (S 3 12 (S 1 12 0 - 1) + 1), τ2) ∧ er_E τ2 (gs_tok S o) (gz_tok S Z a b) := by
  obtain ⟨h1, h2, h3, h4⟩ := h.1 12 (by omega)
  have hp3 := (hB.1 12 (by omega)).2.1
  obtain ⟨p0, hp0⟩ : ∃ p, p = S 1 12 0 - 1 := ⟨_, rfl⟩
  have h3' : τ 5 (36 + p0) = nI (S 3 12 p0) := (h3 p0 (by omega)).2
  obtain ⟨c0, hc0⟩ : ∃ c, c = 14 * p0 + S 3 12 p0 := ⟨_, rfl⟩
  unfold gs_tok gz_tok
  rw [← hp0] at hl ⊢
  rw [← hc0]
  have hne : ¬ S 3 12 p0 = 14 := by omega
  refine ⟨aw_p (aw_p (aw_p (aw_p τ 6 (504 + c0) (nI o)) 7 (504 + c0) a) 8 (504 + c0) b) 5 (36 + p0) (nI (S 3 12 p0 + 1)), ?_, ?_⟩
  · unfold xm_R_token xm_R_in
    rw [if_neg (nI_pos (by omega)), if_neg (show ¬ (11 : Int32) < nI o from nI_nlt (a := 11) ho (by omega)), b_some, if_neg (by decide), tn_12]
    have e1 : nI (36 + S 1 12 0) - nI 1 = nI (36 + p0) := by rw [su_nI (by omega), hp0]; congr 1; omega
    have e2 : nI (14 * (36 + p0) + S 3 12 p0) = nI (504 + c0) := by rw [hc0]; congr 1; omega
    simp (disch := omega) only [l_eq, aw_pk, aw_pe, up_e, h2, nz_0, nz_14, nz_1, nz_36, ad_nI, e1, eq_nI, in_nI, tn_nI, h3', mu_nI, e2, hp, hne, if_true, if_false]
  · refine er_draft h hB (fun k hk => ?_) (fun e he => ?_) (fun p hp => ?_) (fun c hc => ?_) (fun t e i he => ?_) (fun t e i he => ?_) ?_
    · simp (disch := omega) only [aw_pk]
    · simp (disch := omega) only [aw_pk, and_self]
    · simp (disch := omega) only [aw_pk, aw_pe, up_n, and_self]
    · simp (disch := omega) only [aw_pk, aw_pe, up_n, and_self]
    · rw [g3_n (by omega), g3_n (by omega)]
    · rw [g3_n (by omega), g3_n (by omega)]
    · refine ⟨?_, ?_, fun p hp => ⟨?_, ?_⟩, fun c hc => ⟨?_, ?_, ?_⟩⟩
      · simp (disch := omega) only [aw_pk, g3_n]; exact h1
      · simp (disch := omega) only [aw_pk, g3_n]; exact h2
      · simp (disch := omega) only [aw_pk, g3_n]; exact (h3 p hp).1
      · by_cases hq : p = p0
        · subst hq; simp (disch := omega) only [aw_pe, up_e, g3_e]
        · simp (disch := omega) only [aw_pk, aw_pe, up_n, g3_n]; exact (h3 p hp).2
      · by_cases hq : c = c0
        · rw [hq]; simp (disch := omega) only [aw_pk, aw_pe, up_e, g3_n, g3_e]
        · simp (disch := omega) only [aw_pk, aw_pe, up_n, g3_n]; exact (h4 c hc).1
      · by_cases hq : c = c0
        · rw [hq]; simp (disch := omega) only [aw_pk, aw_pe, up_e, g3_n, g3_e]
        · simp (disch := omega) only [aw_pk, aw_pe, up_n, g3_n]; exact (h4 c hc).2.1
      · by_cases hq : c = c0
        · rw [hq]; simp (disch := omega) only [aw_pk, aw_pe, up_e, g3_n, g3_e]
        · simp (disch := omega) only [aw_pk, aw_pe, up_n, g3_n]; exact (h4 c hc).2.2
