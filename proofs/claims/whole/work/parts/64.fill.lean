/-! load: a module's object is copied -/
def gs_uc (S : gs_S) (m : Nat) : gs_S := fun t e i => if e = 6 + m ∧ 5 ≤ t ∧ t ≤ 8 then S t m i else S t e i
theorem uc_e {S : gs_S} {m t i : Nat} (h : 5 ≤ t) (h2 : t ≤ 8) : gs_uc S m t (6 + m) i = S t m i := if_pos ⟨rfl, h, h2⟩
theorem uc_n {S : gs_S} {m t e i : Nat} (h : e ≠ 6 + m ∨ t < 5 ∨ 8 < t) : gs_uc S m t e i = S t e i := if_neg (by omega)
def gs_ld (S : gs_S) (m : Nat) : gs_S := gs_cp (gs_uc S m) m (6 + m)
def gz_ld (Z : gs_Z) (m : Nat) : gs_Z := fun t e i => if t = 2 ∧ e = m then 0 else gz_cp Z m (6 + m) t e i
theorem ld_e {S : gs_S} {m t i : Nat} (h : t ≤ 8) : gs_ld S m t (6 + m) i = S t m i := by
  unfold gs_ld
  by_cases h4 : t ≤ 4
  · rw [cp_e h4, uc_n (by omega)]
  · rw [cp_n (by omega), uc_e (by omega) h]
theorem ld_n {S : gs_S} {m t e i : Nat} (h : e ≠ 6 + m ∨ 8 < t) : gs_ld S m t e i = S t e i := by
  unfold gs_ld
  rw [cp_n (by omega), uc_n (by omega)]
theorem lz_2 {Z : gs_Z} {m i : Nat} : gz_ld Z m 2 m i = 0 := if_pos ⟨rfl, rfl⟩
theorem lz_e {Z : gs_Z} {m t i : Nat} (h : t ≤ 1) : gz_ld Z m t (6 + m) i = Z t m i := by
  unfold gz_ld
  rw [if_neg (by omega), cz_e h]
theorem lz_n {Z : gs_Z} {m t e i : Nat} (h : (t ≤ 1 ∧ e ≠ 6 + m) ∨ (t = 2 ∧ e ≠ m) ∨ 2 < t) : gz_ld Z m t e i = Z t e i := by
  unfold gz_ld
  rw [if_neg (by omega), cz_n (by omega)]
theorem ld_B {S : gs_S} (hB : gs_B S) {m : Nat} (hm : m < 6) : gs_B (gs_ld S m) := by
  obtain ⟨h1, h2, h3⟩ := hB
  refine ⟨fun e he => ?_, fun e he => ?_, by rw [ld_n (by omega)]; exact h3⟩
  · by_cases hq : e = 6 + m
    · subst hq
      rw [ld_e (by omega), ld_e (by omega)]
      refine ⟨(h1 m (by omega)).1, (h1 m (by omega)).2.1, fun p hp => ?_, fun c hc => ?_⟩
      · rw [ld_e (by omega), ld_e (by omega)]; exact (h1 m (by omega)).2.2.1 p hp
      · rw [ld_e (by omega)]; exact (h1 m (by omega)).2.2.2 c hc
    · rw [ld_n (by omega), ld_n (by omega)]
      refine ⟨(h1 e he).1, (h1 e he).2.1, fun p hp => ?_, fun c hc => ?_⟩
      · rw [ld_n (by omega), ld_n (by omega)]; exact (h1 e he).2.2.1 p hp
      · rw [ld_n (by omega)]; exact (h1 e he).2.2.2 c hc
  · rw [ld_n (t := 9) (by omega)]
    by_cases hq : e = 6 + m
    · subst hq
      rw [ld_e (by omega), ld_e (by omega)]
      refine ⟨(h2 m (by omega)).1, fun i hi => ?_, (h2 m (by omega)).2.2⟩
      rw [ld_e (by omega)]; exact (h2 m (by omega)).2.1 i hi
    · rw [ld_n (by omega), ld_n (by omega)]
      refine ⟨(h2 e he).1, fun i hi => ?_, (h2 e he).2.2⟩
      rw [ld_n (by omega)]; exact (h2 e he).2.1 i hi
theorem sc_ucopy {σ : aw_m} {S : gs_S} {Z : gs_Z} (h : ec_E σ S Z) (hB : gs_B S) {m : Nat} (hm : m < 6) : ∃ σ2, xm_U_copyFrom σ (ub_ (6 + m)) (ub_ m) = some σ2 ∧ ec_E σ2 (gs_ld S m) (gz_cp Z m (6 + m)) ∧ σ2 65 = σ 65 := by
  obtain ⟨h1, h2, h3, h4, h5, h6, h7⟩ := h
  obtain ⟨u1, u2, u3, u4⟩ := h2 m (by omega)
  have b5 := (hB.2.1 m (by omega)).1
  have r1 := ub_r (e := m) (by omega)
  have r2 := ub_r (e := 6 + m) (by omega)
  have c1 : cb_ (6 + m) = ub_ (6 + m) + 3 := (cb_lo (e := 6 + m) (by omega)).2.2.2
  have c2 : cb_ m = ub_ m + 3 := (cb_lo (e := m) (by omega)).2.2.2
  generalize hA : ub_ m = ka at u1 u2 u3 u4 r1 c2
  generalize hBb : ub_ (6 + m) = kb at r2 c1
  have hE : ec_E (aw_c (aw_c (aw_p (aw_p (aw_p σ kb 0 (σ ka 0)) kb 1 (σ ka 1)) kb 2 (σ ka 2)) (ka + 1) (kb + 1) 0 0 6) (ka + 2) (kb + 2) 0 0 6) (gs_uc S m) Z := by
    refine ⟨fun e he => ?_, fun e he => ?_, fun a ha w hw => ?_, ?_, ?_, ?_, ?_⟩
    · have hcr := cb_r he
      refine ec_kC (h1 e he) (fun j hj => ?_) (fun t i ht => uc_n (by omega)) (fun _ _ _ => rfl)
      simp (disch := omega) only [aw_cpk, aw_pk]
    · have hvr := ub_r he
      by_cases hq : e = 6 + m
      · subst hq
        unfold ec_U
        rw [hBb, uc_e (by omega) (by omega), uc_e (by omega) (by omega)]
        refine ⟨?_, fun hk => ?_, ?_, fun i hi => ⟨?_, ?_⟩⟩
        · simp (disch := omega) only [aw_cpk, aw_pe, up_n, up_e]; exact u1
        · simp (disch := omega) only [aw_cpk, aw_pe, up_n, up_e]; exact u2 hk
        · simp (disch := omega) only [aw_cpk, aw_pe, up_n, up_e]; exact u3
        · rw [uc_e (by omega) (by omega)]
          simp (disch := omega) only [aw_cpk, aw_cpe, aw_pk, cp_in]; exact (u4 i hi).1
        · rw [uc_e (by omega) (by omega)]
          simp (disch := omega) only [aw_cpk, aw_cpe, aw_pk, cp_in]; exact (u4 i hi).2
      · refine ec_kU (h2 e he) (fun j hj => ?_) (fun t i _ _ => uc_n (by omega))
        simp (disch := omega) only [aw_cpk, aw_pk]
    · simp (disch := omega) only [aw_cpk, aw_pk]; exact h3 a ha w hw
    · simp (disch := omega) only [aw_cpk, aw_pk, uc_n]; exact h4
    · simp (disch := omega) only [aw_cpk, aw_pk]; exact h5
    · simp (disch := omega) only [aw_cpk, aw_pk]; exact h6
    · simp (disch := omega) only [aw_cpk, aw_pk, uc_n]; exact h7
  obtain ⟨σ2, e1, e2, e3⟩ := sc_copy hE (a := m) (b := 6 + m) (by omega) (by omega) (by omega)
  refine ⟨σ2, ?_, e2, ?_⟩
  · unfold xm_U_copyFrom
    have hz : σ ka 0 = 0 ∨ σ ka 0 = 1 := by
      rw [u1]
      by_cases hk : S 5 m 0 = 0
      · rw [if_pos hk]; exact Or.inl rfl
      · rw [if_neg hk]; exact Or.inr rfl
    rw [if_pos hz]
    simp (disch := omega) only [l_eq, aw_pk]
    rw [c1, c2] at e1
    rw [e1, b_some]
  · rw [e3 65 (by omega)]
    simp (disch := omega) only [aw_cpk, aw_pk]
theorem af_lp (σ : aw_m) (k : Nat) : xm_A_fill σ k 0 = some (aw_p (aw_p (aw_p σ k 0 0) k 1 0) k 2 0) := by
  unfold xm_A_fill
  rw [show (64 : Nat) = 60 + 1 + 1 + 1 + 1 from rfl, xq_A_fill_5, if_neg (by decide), if_pos (by decide), l_eq, xq_A_fill_5, if_neg (by decide), if_pos (by decide), l_eq, xq_A_fill_5, if_neg (by decide), if_pos (by decide), l_eq, xq_A_fill_5, if_pos (by decide)]
  rfl
theorem sc_fill {σ : aw_m} {S : gs_S} {Z : gs_Z} (h : ec_E σ S Z) (hB : gs_B S) {m : Nat} (hm : m < 6) : ∃ σ2, xm_I_fill σ (63 + 1 + 2 + 11 * m) (ub_ m) = some σ2 ∧ ec_E σ2 (gs_ld S m) (gz_ld Z m) ∧ σ2 65 = σ 65 := by
  obtain ⟨σ2, e1, e2, e3⟩ := sc_ucopy h hB hm
  rw [ub_l hm] at e1
  refine ⟨aw_p (aw_p (aw_p σ2 (76 + 11 * m) 0 0) (76 + 11 * m) 1 0) (76 + 11 * m) 2 0, ?_, ?_, ?_⟩
  · unfold xm_I_fill
    rw [e1, b_some, af_lp, b_some, show 63 + 1 + 2 + 11 * m + 10 = 76 + 11 * m by omega]
  · obtain ⟨h1, h2, h3, h4, h5, h6, h7⟩ := e2
    refine ⟨fun e he => ?_, fun e he => ?_, fun a ha w hw => ?_, ?_, ?_, ?_, ?_⟩
    · have hcr := cb_r he
      refine ec_kC (h1 e he) (fun j hj => ?_) (fun _ _ _ => rfl) (fun t i ht => ?_)
      · simp (disch := omega) only [aw_pk]
      · unfold gz_ld; exact if_neg (by omega)
    · have hvr := ub_r he
      refine ec_kU (h2 e he) (fun j hj => ?_) (fun _ _ _ _ => rfl)
      simp (disch := omega) only [aw_pk]
    · by_cases hq : a = m
      · subst hq
        rw [lz_2]
        rcases (show w = 0 ∨ w = 1 ∨ w = 2 by omega) with rfl | rfl | rfl
        · simp (disch := omega) only [aw_pe, up_n, up_e]
        · simp (disch := omega) only [aw_pe, up_n, up_e]
        · simp (disch := omega) only [aw_pe, up_e]
      · simp (disch := omega) only [aw_pk]
        rw [h3 a ha w hw, lz_n (by omega), cz_n (by omega)]
    · simp (disch := omega) only [aw_pk]; exact h4
    · simp (disch := omega) only [aw_pk]; rw [h5, lz_n (by omega), cz_n (by omega)]
    · simp (disch := omega) only [aw_pk]; rw [h6, lz_n (by omega), cz_n (by omega)]
    · simp (disch := omega) only [aw_pk]; exact h7
  · simp (disch := omega) only [aw_pk]; exact e3
