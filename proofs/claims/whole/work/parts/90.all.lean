/-! class and reference answer alike, call by call -/
theorem B_dr {S S2 : gs_S} (hB : gs_B S) (hS : ∀ t e i, e ≠ 12 → S2 t e i = S t e i) (hd : S2 0 12 0 ≤ 3 ∧ S2 1 12 0 ≤ 3 ∧ (∀ p, p < 3 → S2 2 12 p ≤ 2 ∧ S2 3 12 p ≤ 14) ∧ ∀ c, c < 42 → S2 4 12 c ≤ 11) : gs_B S2 := by
  refine ⟨fun e he => ?_, fun e he => ?_, ?_⟩
  · by_cases h12 : e = 12
    · subst h12; exact hd
    · obtain ⟨a1, a2, a3, a4⟩ := hB.1 e he
      refine ⟨by rw [hS _ _ _ h12]; exact a1, by rw [hS _ _ _ h12]; exact a2, fun p hp => ?_, fun c hc => ?_⟩
      · rw [hS _ _ _ h12, hS _ _ _ h12]; exact a3 p hp
      · rw [hS _ _ _ h12]; exact a4 c hc
  · obtain ⟨a1, a2, a3⟩ := hB.2.1 e he
    have h12 : e ≠ 12 := by omega
    refine ⟨by rw [hS _ _ _ h12]; exact a1, fun i hi => ?_, ?_⟩
    · rw [hS _ _ _ h12] at hi ⊢
      exact a2 i hi
    · rw [hS _ _ _ h12, hS 9 0 0 (by omega)]; exact a3
  · rw [hS 10 0 0 (by omega)]; exact hB.2.2
theorem B_begin {S : gs_S} (hB : gs_B S) {v : Nat} (hv : v ≤ 3) : gs_B (gs_begin S v) := by
  obtain ⟨a1, a2, a3, a4⟩ := hB.1 12 (by omega)
  unfold gs_begin
  refine B_dr hB (fun t e i he => by rw [g3_n (by omega), g3_n (by omega)]) ⟨?_, ?_, fun p hp => ?_, fun c hc => ?_⟩
  · rw [g3_n (by omega), g3_e]; exact hv
  · rw [g3_e]; omega
  · rw [g3_n (by omega), g3_n (by omega), g3_n (by omega), g3_n (by omega)]; exact a3 p hp
  · rw [g3_n (by omega), g3_n (by omega)]; exact a4 c hc
theorem B_proc {S : gs_S} (hB : gs_B S) {n : Nat} (hn : n ≤ 2) (hp : S 1 12 0 < 3) : gs_B (gs_proc S n) := by
  obtain ⟨a1, a2, a3, a4⟩ := hB.1 12 (by omega)
  unfold gs_proc
  refine B_dr hB (fun t e i he => by rw [g3_n (by omega), g3_n (by omega), g3_n (by omega)]) ⟨?_, ?_, fun p hp => ⟨?_, ?_⟩, fun c hc => ?_⟩
  · rw [g3_n (by omega), g3_n (by omega), g3_n (by omega)]; exact a1
  · rw [g3_e]; omega
  · rw [g3_n (by omega), g3_n (by omega)]
    by_cases hq : p = S 1 12 0
    · rw [hq, g3_e]; exact hn
    · rw [g3_n (by omega)]; exact (a3 p hp).1
  · rw [g3_n (by omega)]
    by_cases hq : p = S 1 12 0
    · rw [hq, g3_e]; omega
    · rw [g3_n (by omega), g3_n (by omega)]; exact (a3 p hp).2
  · rw [g3_n (by omega), g3_n (by omega), g3_n (by omega)]; exact a4 c hc
theorem B_tok {S : gs_S} (hB : gs_B S) {o : Nat} (ho : o ≤ 11) (hl : S 3 12 (S 1 12 0 - 1) < 14) : gs_B (gs_tok S o) := by
  obtain ⟨a1, a2, a3, a4⟩ := hB.1 12 (by omega)
  unfold gs_tok
  refine B_dr hB (fun t e i he => by rw [g3_n (by omega), g3_n (by omega)]) ⟨?_, ?_, fun p hp => ⟨?_, ?_⟩, fun c hc => ?_⟩
  · rw [g3_n (by omega), g3_n (by omega)]; exact a1
  · rw [g3_n (by omega), g3_n (by omega)]; exact a2
  · rw [g3_n (by omega), g3_n (by omega)]; exact (a3 p hp).1
  · by_cases hq : p = S 1 12 0 - 1
    · rw [hq, g3_e]; omega
    · rw [g3_n (by omega), g3_n (by omega)]; exact (a3 p hp).2
  · rw [g3_n (by omega)]
    by_cases hq : c = 14 * (S 1 12 0 - 1) + S 3 12 (S 1 12 0 - 1)
    · rw [hq, g3_e]; exact ho
    · rw [g3_n (by omega)]; exact a4 c hc
def IV_ (t : Nat) (σ τ : aw_m) : Prop := ∃ S Z, ec_E σ S Z ∧ er_E τ S Z ∧ gs_B S ∧ S 9 0 0 ≤ t ∧ gs_W S Z
theorem iv_mono : wl_mono IV_ := fun t σ τ ⟨S, Z, h1, h2, h3, h4, h5⟩ => ⟨S, Z, h1, h2, h3, by omega, h5⟩
theorem iv_g {S : gs_S} {t : Nat} (hB : gs_B S) (h9 : S 9 0 0 ≤ t) (ht : t < 600) : ∀ e, e < 12 → S 5 e 0 < 2 ^ 31 := fun e he => by have := (hB.2.1 e he).2.2; omega
theorem iv_begin : wl_begin IV_ := by
  intro t σ τ x ht hI
  have hI2 := iv_mono t σ τ hI
  obtain ⟨S, Z, h, hr, hB, h9, hW⟩ := hI
  rcases ng_or x with hx | ⟨k, hk, rfl⟩
  · refine ⟨-1, σ, τ, ?_, ?_, hI2⟩
    · unfold xm_S_begin; rw [if_pos hx]
    · unfold xm_R_begin; rw [ri_neg hx, b_some, if_pos rfl]
  · by_cases h3 : k ≤ 3
    · obtain ⟨σ2, a1, a2⟩ := sc_begin h h3
      obtain ⟨τ2, b1, b2⟩ := sr_begin hr hB h3
      have e9 : gs_begin S k 9 0 0 = S 9 0 0 := by unfold gs_begin; rw [g3_n (by omega), g3_n (by omega)]
      exact ⟨0, σ2, τ2, a1, b1, _, _, a2, b2, B_begin hB h3, by omega, gw_same hW hB e9 (fun t e i he _ => by unfold gs_begin; rw [g3_n (by omega), g3_n (by omega)]) (fun _ _ _ _ _ => rfl)⟩
    · refine ⟨-1, σ, τ, ?_, ?_, hI2⟩
      · unfold xm_S_begin; rw [if_neg (nI_pos hk), if_neg (show ¬ nI k ≤ (3 : Int32) from nI_ge (a := 3) (by omega) (by omega))]
      · unfold xm_R_begin; rw [nz_3, ri_big (by omega) hk, b_some, if_pos rfl]
theorem iv_procedure : wl_procedure IV_ := by
  intro t σ τ x ht hI
  have hI2 := iv_mono t σ τ hI
  obtain ⟨S, Z, h, hr, hB, h9, hW⟩ := hI
  have b1 := (hB.1 12 (by omega)).2.1
  rcases ng_or x with hx | ⟨k, hk, rfl⟩
  · refine ⟨-1, σ, τ, ?_, ?_, hI2⟩
    · unfold xm_S_procedure; rw [if_pos hx]
    · unfold xm_R_procedure; rw [ri_neg hx, b_some, if_pos rfl]
  · by_cases h3 : k ≤ 2
    · by_cases hp : S 1 12 0 < 3
      · obtain ⟨σ2, a1, a2⟩ := sc_proc h h3 hp
        obtain ⟨τ2, b1, b2⟩ := sr_proc hr hB h3 hp
        have e9 : gs_proc S k 9 0 0 = S 9 0 0 := by unfold gs_proc; rw [g3_n (by omega), g3_n (by omega), g3_n (by omega)]
        exact ⟨_, σ2, τ2, a1, b1, _, _, a2, b2, B_proc hB h3 hp, by omega, gw_same hW hB e9 (fun t e i he _ => by unfold gs_proc; rw [g3_n (by omega), g3_n (by omega), g3_n (by omega)]) (fun _ _ _ _ _ => rfl)⟩
      · have hp3 : S 1 12 0 = 3 := by omega
        have s1 : σ 1 1 = nI (S 1 12 0) := (h.1 12 (by omega)).2.1
        have r1 : τ 3 12 = nI (S 1 12 0) := (hr.1 12 (by omega)).2.1
        rw [hp3] at s1 r1
        refine ⟨-2, σ, τ, ?_, ?_, hI2⟩
        · unfold xm_S_procedure xm_C_addProcedure
          rw [if_neg (nI_pos hk), if_pos (show nI k ≤ (2 : Int32) from nI_le (b := 2) (by omega) (by omega)), s1, if_neg (show ¬ nI 3 < (3 : Int32) by decide), b_some]
        · unfold xm_R_procedure
          rw [nz_2, ri_in h3 (by omega), b_some, if_neg (by decide), tn_12, r1, if_pos (show nI 3 = (3 : Int32) from rfl)]
    · refine ⟨-1, σ, τ, ?_, ?_, hI2⟩
      · unfold xm_S_procedure; rw [if_neg (nI_pos hk), if_neg (show ¬ nI k ≤ (2 : Int32) from nI_ge (a := 2) (by omega) (by omega))]
      · unfold xm_R_procedure; rw [nz_2, ri_big (by omega) hk, b_some, if_pos rfl]
theorem iv_token : wl_token IV_ := by
  intro t σ τ x y z ht hI
  have hI2 := iv_mono t σ τ hI
  obtain ⟨S, Z, h, hr, hB, h9, hW⟩ := hI
  have b1 := (hB.1 12 (by omega)).2.1
  have s1 : σ 1 1 = nI (S 1 12 0) := (h.1 12 (by omega)).2.1
  have r1 : τ 3 12 = nI (S 1 12 0) := (hr.1 12 (by omega)).2.1
  rcases ng_or x with hx | ⟨k, hk, rfl⟩
  · refine ⟨-1, σ, τ, ?_, ?_, hI2⟩
    · unfold xm_S_token; rw [if_pos hx]
    · unfold xm_R_token; rw [ri_neg hx, b_some, if_pos rfl]
  · by_cases h3 : k ≤ 11
    · by_cases hp : S 1 12 0 = 0
      · rw [hp] at s1 r1
        refine ⟨-1, σ, τ, ?_, ?_, hI2⟩
        · unfold xm_S_token xm_C_addToken
          rw [if_neg (nI_pos hk), if_pos (show nI k ≤ (11 : Int32) from nI_le (b := 11) (by omega) (by omega)), s1, if_pos (show nI 0 = (0 : Int32) from rfl), b_some]
        · unfold xm_R_token
          rw [nz_11, ri_in h3 (by omega), b_some, if_neg (by decide), tn_12, r1, if_pos (show nI 0 = (0 : Int32) from rfl)]
      · obtain ⟨q, hq⟩ : ∃ q, S 1 12 0 = q + 1 := ⟨S 1 12 0 - 1, by omega⟩
        have hq1 : S 1 12 0 - 1 = q := by omega
        by_cases hl : S 3 12 (S 1 12 0 - 1) < 14
        · obtain ⟨σ2, a1, a2⟩ := sc_tok (a := y) (b := z) h hB h3 hp hl
          obtain ⟨τ2, b1, b2⟩ := sr_tok (a := y) (b := z) hr hB h3 hp hl
          have e9 : gs_tok S k 9 0 0 = S 9 0 0 := by unfold gs_tok; rw [g3_n (by omega), g3_n (by omega)]
          exact ⟨_, σ2, τ2, a1, b1, _, _, a2, b2, B_tok hB h3 hl, by omega, gw_same hW hB e9 (fun t e i he _ => by unfold gs_tok; rw [g3_n (by omega), g3_n (by omega)]) (fun t e i he _ => by unfold gz_tok; rw [g3_n (by omega), g3_n (by omega)])⟩
        · have hL := ((hB.1 12 (by omega)).2.2.1 q (by omega)).2
          rw [hq1] at hl
          have h14 : S 3 12 q = 14 := by omega
          have s2 : σ (1 + 2) q = nI (S 3 12 q) := ((h.1 12 (by omega)).2.2.1 q (by omega)).2
          have r2 : τ 5 (36 + q) = nI (S 3 12 q) := ((hr.1 12 (by omega)).2.2.1 q (by omega)).2
          rw [h14] at s2 r2
          rw [hq] at s1 r1
          refine ⟨-2, σ, τ, ?_, ?_, hI2⟩
          · unfold xm_S_token xm_C_addToken
            rw [if_neg (nI_pos hk), if_pos (show nI k ≤ (11 : Int32) from nI_le (b := 11) (by omega) (by omega)), s1, if_neg (show ¬ nI (q + 1) = (0 : Int32) by rw [el_0 (by omega)]; omega), nI_pred, if_pos (in_nI (by omega) (by omega)), tn_nI (by omega), s2, if_neg (show ¬ nI 14 < (14 : Int32) by decide), b_some]
          · unfold xm_R_token
            rw [nz_11, ri_in h3 (by omega), b_some, if_neg (by decide), tn_12, r1, if_neg (show ¬ nI (q + 1) = (0 : Int32) by rw [el_0 (by omega)]; omega), nz_36, ad_nI, show 36 + (q + 1) = (36 + q) + 1 from rfl, nI_pred, if_pos (in_nI (by omega) (by omega)), tn_nI (by omega), r2, if_pos (show nI 14 = (14 : Int32) from rfl)]
    · refine ⟨-1, σ, τ, ?_, ?_, hI2⟩
      · unfold xm_S_token; rw [if_neg (nI_pos hk), if_neg (show ¬ nI k ≤ (11 : Int32) from nI_ge (a := 11) (by omega) (by omega))]
      · unfold xm_R_token; rw [nz_11, ri_big (by omega) hk, b_some, if_pos rfl]
theorem gw_z3 {S : gs_S} {Z : gs_Z} (h : gs_W S Z) (hB : gs_B S) (v : Int32) : gs_W S (g3 Z 3 0 0 v) := gw_same h hB rfl (fun _ _ _ _ _ => rfl) (fun t e i _ _ => g3_n (by omega))
theorem iv_compile : wl_compile IV_ := by
  intro t σ τ x ht hI
  obtain ⟨S, Z, h, hr, hB, h9, hW⟩ := hI
  have neg : (x < 0 ∨ ∃ k, 6 ≤ k ∧ k < 2 ^ 31 ∧ x = nI k) → ∃ (r : Int32) (σ2 τ2 : aw_m), xm_S_compile σ x = some (r, σ2) ∧ xm_R_compile τ x = some (r, τ2) ∧ IV_ (t + 1) σ2 τ2 := by
    intro hx
    obtain ⟨σ2, τ2, a1, a2, a3, a4⟩ := cm_neg h hr hB hx
    exact ⟨-1, σ2, τ2, a1, a2, _, _, a3, a4, hB, by omega, gw_z3 hW hB _⟩
  rcases md_or x with hx | hx | ⟨m, hm, rfl⟩
  · exact neg (Or.inl hx)
  · exact neg (Or.inr hx)
  · obtain ⟨Z1, hZ1⟩ : ∃ Z1, Z1 = g3 Z 3 0 0 (-1) := ⟨_, rfl⟩
    have hW1 : gs_W S Z1 := by rw [hZ1]; exact gw_z3 hW hB _
    obtain ⟨c1, c2⟩ := cm_all h hr hB (by omega) hm hZ1
    cases hq : gs_fp S Z1 m (S 1 12 0) 0 with
    | some w =>
      obtain ⟨σ2, τ2, a1, a2, a3, a4⟩ := c1 w hq
      exact ⟨_, σ2, τ2, a1, a2, _, _, a3, a4, hB, by omega, gw_z3 hW1 hB _⟩
    | none =>
      obtain ⟨d1, d2⟩ := c2 hq
      obtain ⟨e1, e2⟩ := gw_cm hW1 hB hm hq
      by_cases hk : S 5 m 0 ≠ 0 ∧ gs_if S m
      · obtain ⟨σ2, τ2, a1, a2, a3, a4⟩ := d1 hk
        obtain ⟨w1, w2, w3⟩ := e1 hk
        exact ⟨_, σ2, τ2, a1, a2, _, _, a3, a4, w2, by omega, w1⟩
      · obtain ⟨σ2, τ2, a1, a2, a3, a4⟩ := d2 hk
        obtain ⟨w1, w2, w3⟩ := e2
        exact ⟨_, σ2, τ2, a1, a2, _, _, a3, a4, w2, by omega, w1⟩
theorem iv_place : wl_place IV_ := by
  intro t σ τ ht ⟨S, Z, h, hr, _⟩
  exact ⟨Z 3 0 0, by unfold xm_S_place; rw [h.2.2.2.2.1], by unfold xm_R_place; rw [hr.2.2.2.2.1]⟩
theorem iv_value : wl_value IV_ := by
  intro t σ τ ht ⟨S, Z, h, hr, _⟩
  exact ⟨Z 4 0 0, by unfold xm_S_value; rw [h.2.2.2.2.2.1], by unfold xm_R_value; rw [hr.2.2.2.2.2.1]⟩
theorem iv_steps : wl_steps IV_ := by
  intro t σ τ ht ⟨S, Z, h, hr, _⟩
  exact ⟨nI (S 10 0 0), by unfold xm_S_steps; rw [h.2.2.2.2.2.2], by unfold xm_R_steps; rw [hr.2.2.2.2.2.2]⟩
theorem B_drop {S : gs_S} (hB : gs_B S) {e0 : Nat} : gs_B (g3 S 5 e0 0 0) := by
  refine ⟨fun e he => ?_, fun e he => ⟨?_, fun i hi => ?_, ?_⟩, ?_⟩
  · obtain ⟨a1, a2, a3, a4⟩ := hB.1 e he
    refine ⟨by rw [g3_n (by omega)]; exact a1, by rw [g3_n (by omega)]; exact a2, fun p hp => ?_, fun c hc => by rw [g3_n (by omega)]; exact a4 c hc⟩
    rw [g3_n (by omega), g3_n (by omega)]; exact a3 p hp
  · rw [g3_n (by omega)]; exact (hB.2.1 e he).1
  · rw [g3_n (by omega)] at hi ⊢
    exact (hB.2.1 e he).2.1 i hi
  · rw [g3_n (t' := 9) (by omega)]
    by_cases hq : e = e0
    · rw [hq, g3_e]; omega
    · rw [g3_n (by omega)]; exact (hB.2.1 e he).2.2
  · rw [g3_n (by omega)]; exact hB.2.2
theorem iv_remove : wl_remove IV_ := by
  intro t σ τ x ht hI
  have hI2 := iv_mono t σ τ hI
  obtain ⟨S, Z, h, hr, hB, h9, hW⟩ := hI
  have hg := iv_g hB h9 ht
  rcases md_or x with hx | hx | ⟨m, hm, rfl⟩
  · exact ⟨-1, σ, τ, sc_remove0 h (Or.inl hx), sr_remove0 hr (Or.inl hx), hI2⟩
  · exact ⟨-1, σ, τ, sc_remove0 h (Or.inr (Or.inl hx)), sr_remove0 hr (Or.inr (Or.inl hx)), hI2⟩
  · by_cases hk : S 5 m 0 = 0
    · exact ⟨-1, σ, τ, sc_remove0 h (Or.inr (Or.inr ⟨m, hm, rfl, hk⟩)), sr_remove0 hr (Or.inr (Or.inr ⟨m, hm, rfl, hk⟩)), hI2⟩
    · exact ⟨0, _, _, sc_remove h hm hk, sr_remove hr hg hm hk, _, _, ec_drop h (by omega), er_drop hr hB, B_drop hB, by rw [g3_n (by omega)]; omega, gw_rem hW hB hm⟩
theorem iv_unload : wl_unload IV_ := by
  intro t σ τ x ht hI
  have hI2 := iv_mono t σ τ hI
  obtain ⟨S, Z, h, hr, hB, h9, hW⟩ := hI
  have hg := iv_g hB h9 ht
  rcases md_or x with hx | hx | ⟨m, hm, rfl⟩
  · exact ⟨-1, σ, τ, sc_unload0 h (Or.inl hx), sr_unload0 hr (Or.inl hx), hI2⟩
  · exact ⟨-1, σ, τ, sc_unload0 h (Or.inr (Or.inl hx)), sr_unload0 hr (Or.inr (Or.inl hx)), hI2⟩
  · by_cases hk : S 5 (6 + m) 0 = 0
    · exact ⟨-1, σ, τ, sc_unload0 h (Or.inr (Or.inr ⟨m, hm, rfl, hk⟩)), sr_unload0 hr (Or.inr (Or.inr ⟨m, hm, rfl, hk⟩)), hI2⟩
    · by_cases hu : gs_us S m
      · exact ⟨-7, σ, τ, (sc_unload h hB hm hk).1 hu, (sr_unload hr hB hg hm hk).1 hu, hI2⟩
      · exact ⟨0, _, _, (sc_unload h hB hm hk).2 hu, (sr_unload hr hB hg hm hk).2 hu, _, _, ec_drop h (by omega), er_drop hr hB, B_drop hB, by rw [g3_n (by omega)]; omega, gw_unl hW hB hm hu⟩
theorem iv_load : wl_load IV_ := by
  intro t σ τ x ht hI
  have hI2 := iv_mono t σ τ hI
  obtain ⟨S, Z, h, hr, hB, h9, hW⟩ := hI
  rcases md_or x with hx | hx | ⟨m, hm, rfl⟩
  · exact ⟨-1, σ, τ, (ld_neg (τ := τ) (Or.inl hx)).1, (ld_neg (σ := σ) (Or.inl hx)).2, hI2⟩
  · exact ⟨-1, σ, τ, (ld_neg (τ := τ) (Or.inr hx)).1, (ld_neg (σ := σ) (Or.inr hx)).2, hI2⟩
  · have h8 : ∀ m, m < 6 → S 5 m 0 ≠ 0 → ∀ i, i < S 6 m 0 → S 8 m i < 2 ^ 31 := by
      intro m hm hp i hi
      obtain ⟨⟨Fv, Fp, Fa, hE⟩, -⟩ := hW
      have := ((hE m (by omega) hp).2.2 i hi).2
      omega
    obtain ⟨r, σ2, τ2, S1, S2, Z2, B, a1, a2, a3, a4, a5, a6⟩ := ld_all h hr hB (by omega) h8 hm
    obtain ⟨w1, w2⟩ := gw_load hW hB a5
    have hB1 := J_B hB a5
    have e9 : S1 9 0 0 = S 9 0 0 := a5.1 9 0 0 (by omega)
    rcases a6 with rfl | rfl
    · exact ⟨r, σ2, τ2, a1, a2, _, _, a3, a4, hB1, by omega, w1⟩
    · exact ⟨r, σ2, τ2, a1, a2, _, _, a3, a4, dr_B hB1 B 6, by rw [dr_n (by omega)]; omega, w2⟩
theorem iv_run : wl_run IV_ := by
  intro t σ τ x y u v ht hI
  have hI2 := iv_mono t σ τ hI
  obtain ⟨S, Z, h, hr, hB, h9, hW⟩ := hI
  have hg := iv_g hB h9 ht
  have bad : ru_0 S x y → ∃ (r : Int32) (σ2 τ2 : aw_m), xm_S_run σ x y u v = some (r, σ2) ∧ xm_R_run τ x y u v = some (r, τ2) ∧ IV_ (t + 1) σ2 τ2 := fun hx => ⟨-1, σ, τ, sc_run0 h hB hx, sr_run0 hr hB hg hx, hI2⟩
  rcases md_or x with hx | hx | ⟨m, hm, rfl⟩
  · exact bad (Or.inl hx)
  · exact bad (Or.inr (Or.inl hx))
  · by_cases hk : S 5 (6 + m) 0 = 0
    · exact bad (Or.inr (Or.inr ⟨m, hm, rfl, Or.inl hk⟩))
    · cases hl : gs_lt y (S 1 (6 + m) 0) with
      | false => exact bad (Or.inr (Or.inr ⟨m, hm, rfl, Or.inr hl⟩))
      | true =>
        obtain ⟨p, rfl, hp⟩ := lt_ex hl
        obtain ⟨N, hN⟩ := gw_rx hW
        obtain ⟨r, σ2, τ2, st2, Z2, a1, a2, a3, a4, a5, a6⟩ := ru_main h hr hB hg hN hm hk hp u v
        exact ⟨r, σ2, τ2, a1, a2, _, _, a4, a5, rS_B hB a3, (show S 9 0 0 ≤ t + 1 by omega), gw_same hW hB rfl (fun t e i _ ht => if_neg (by omega)) (fun t e i _ ht => a6 t e i ht)⟩
theorem iv_variable : wl_variable IV_ := by
  intro t σ τ x y ht ⟨S, Z, h, hr, hB, h9, _⟩
  exact ⟨_, sc_variable h hB x y, sr_variable hr hB (iv_g hB h9 ht) x y⟩
theorem iv_key : wl_key IV_ := by
  intro t σ τ x ht ⟨S, Z, h, hr, hB, h9, _⟩
  exact ⟨_, sc_key h x, sr_key hr (iv_g hB h9 ht) x⟩
theorem iv_loaded : wl_loaded IV_ := by
  intro t σ τ x ht ⟨S, Z, h, hr, hB, h9, _⟩
  exact ⟨_, sc_loaded h x, sr_loaded hr (iv_g hB h9 ht) x⟩
theorem iv_imported : wl_imported IV_ := by
  intro t σ τ x y ht ⟨S, Z, h, hr, hB, h9, _⟩
  exact ⟨_, sc_imported h hB x y, sr_imported hr hB (iv_g hB h9 ht) x y⟩
theorem iv_count : wl_count IV_ := by
  intro t σ τ x ht ⟨S, Z, h, hr, hB, h9, _⟩
  exact ⟨_, sc_count h hB x, sr_count hr hB (iv_g hB h9 ht) x⟩
theorem iv_sim : wl_sim IV_ := ⟨iv_mono, iv_begin, iv_procedure, iv_token, iv_compile, iv_place, iv_remove, iv_load, iv_unload, iv_run, iv_value, iv_steps, iv_variable, iv_key, iv_loaded, iv_imported, iv_count⟩
theorem iv_0 : IV_ 0 sg_0 sr_0 := by
  have z1 : ∀ k i, k ≠ 0 → sg_0 k i = 0 := fun k i hk => by unfold sg_0; rw [if_neg hk]
  have z2 : ∀ k i, k ≠ 0 → sr_0 k i = 0 := fun k i hk => by unfold sr_0; rw [if_neg hk]
  refine ⟨fun _ _ _ => 0, fun t _ _ => if t = 3 then -1 else 0, ⟨fun e he => ?_, fun e he => ?_, fun m hm v hv => z1 _ _ (by omega), z1 _ _ (by omega), rfl, rfl, z1 _ _ (by omega)⟩, ⟨fun e he => ?_, fun e he => ?_, fun m hm v hv => z2 _ _ (by omega), rfl, rfl, rfl, rfl⟩, ⟨fun e he => ⟨Nat.zero_le _, Nat.zero_le _, fun p hp => ⟨Nat.zero_le _, Nat.zero_le _⟩, fun c hc => Nat.zero_le _⟩, fun e he => ⟨Nat.zero_le _, fun i hi => absurd hi (Nat.not_lt_zero i), Nat.zero_le _⟩, Nat.zero_le _⟩, Nat.le_refl 0, ⟨fun _ => 0, fun _ => 0, fun _ _ => 0, fun e he hp => absurd rfl hp⟩, fun m hm hl => absurd rfl hl⟩
  · have hc := cb_r he
    exact ⟨z1 _ _ (by omega), z1 _ _ (by omega), fun p hp => ⟨z1 _ _ (by omega), z1 _ _ (by omega)⟩, fun c hc => ⟨z1 _ _ (by omega), z1 _ _ (by omega), z1 _ _ (by omega)⟩⟩
  · have hu := ub_r he
    exact ⟨z1 _ _ (by omega), fun z => absurd rfl z, z1 _ _ (by omega), fun i hi => absurd hi (Nat.not_lt_zero i)⟩
  · exact ⟨z2 _ _ (by omega), z2 _ _ (by omega), fun p hp => ⟨z2 _ _ (by omega), z2 _ _ (by omega)⟩, fun c hc => ⟨z2 _ _ (by omega), z2 _ _ (by omega), z2 _ _ (by omega)⟩⟩
  · exact ⟨z2 _ _ (by omega), z2 _ _ (by omega), fun i hi => absurd hi (Nat.not_lt_zero i)⟩
