/-! compile: the class's gathering and keeping -/
theorem sg_i {S : gs_S} {Z : gs_Z} (hB : gs_B S) {m p : Nat} (hm : m < 6) (hp : p < S 1 m 0) (hv : ∀ i, i < S 3 m p → gi_v S Z m m (14 * p + i)) (C : aw_m → Nat → Nat → Int32 → Nat → Int32 → Option aw_m) :
    ∀ (r i : Nat) (x : gi_T), i + r = S 3 m p → gi_ok S m x → ∀ (g : Nat) (σ : aw_m), r < g → ec_E σ (gs_iu S m x) Z →
    ∃ σ2, xq_L_gatherImports_25 C g σ 7 (ub_ m) (nI m) (cb_ m) (nI p) (nI i) = C σ2 7 (ub_ m) (nI m) (cb_ m) (nI (p + 1)) ∧ ec_E σ2 (gs_iu S m (gi_i S Z m m p r i x)) Z ∧ gi_ok S m (gi_i S Z m m p r i x) := by
  have b1 := (hB.1 m (by omega)).2.1
  have b2 := ((hB.1 m (by omega)).2.2.1 p (by omega)).2
  intro r
  induction r with
  | zero =>
    intro i x hi hx g σ hg h
    obtain ⟨g, rfl⟩ : ∃ g', g = g' + 1 := ⟨g - 1, by omega⟩
    have el := sc_lengthOf h (iu_B hB hm hx) (e := m) (p := p) (by omega) (by omega)
    rw [iu_n (by omega), iu_n (by omega), if_pos hp] at el
    refine ⟨σ, ?_, h, hx⟩
    rw [xq_L_gatherImports_25, el, b_some, if_pos (nI_le (by omega) (by omega)), nz_1, ad_nI]
  | succ r ih =>
    intro i x hi hx g σ hg h
    obtain ⟨g, rfl⟩ : ∃ g', g = g' + 1 := ⟨g - 1, by omega⟩
    have el := sc_lengthOf h (iu_B hB hm hx) (e := m) (p := p) (by omega) (by omega)
    rw [iu_n (by omega), iu_n (by omega), if_pos hp] at el
    obtain ⟨c1, c2, c3, c4⟩ := h.1 m (by omega)
    obtain ⟨o1, o2, -⟩ := c4 (14 * p + i) (by omega)
    rw [iu_n (by omega)] at o1
    have hob := (hB.1 m (by omega)).2.2.2 (14 * p + i) (by omega)
    have hvi := hv i (by omega)
    have hok := gi_st_ok hx hvi
    obtain ⟨c, hc⟩ : ∃ c, c = 14 * p + i := ⟨_, rfl⟩
    have skip : gi_nm S Z m m c = false → ∃ σ2, xq_L_gatherImports_25 C g σ 7 (ub_ m) (nI m) (cb_ m) (nI p) (nI (i + 1)) = C σ2 7 (ub_ m) (nI m) (cb_ m) (nI (p + 1)) ∧ ec_E σ2 (gs_iu S m (gi_i S Z m m p (r + 1) i x)) Z ∧ gi_ok S m (gi_i S Z m m p (r + 1) i x) := by
      intro hn
      have e1 : gi_st S Z m m (14 * p + i) x = x := by unfold gi_st; rw [← hc, hn]; exact if_neg (fun z => by cases z.1)
      rw [gi_i, e1]
      exact ih (i + 1) x (by omega) hx g σ (by omega) h
    have named : (S 4 m c = 2 ∨ S 4 m c = 11) → ∃ σ2, (if Z 0 m c = nI m then xq_L_gatherImports_25 C g σ 7 (ub_ m) (nI m) (cb_ m) (nI p) (nI (i + 1)) else (xm_L_has σ 7 (Z 0 m c)).bind fun q_99 => (if q_99 = 0 then xq_L_gatherImports_25 C g σ 7 (ub_ m) (nI m) (cb_ m) (nI p) (nI (i + 1)) else if aw_in (Z 0 m c) 6 = true then (xm_U_addImport σ (ub_ m) (Z 0 m c) (σ (7 + 1 + 1 + 9 * (Int32.toNatClampNeg (Z 0 m c))) 1)).bind fun q_118 => xq_L_gatherImports_25 C g q_118 7 (ub_ m) (nI m) (cb_ m) (nI p) (nI (i + 1)) else none)) = C σ2 7 (ub_ m) (nI m) (cb_ m) (nI (p + 1)) ∧ ec_E σ2 (gs_iu S m (gi_i S Z m m p (r + 1) i x)) Z ∧ gi_ok S m (gi_i S Z m m p (r + 1) i x) := by
      intro ho
      by_cases ha : Z 0 m c = nI m
      · rw [if_pos ha]
        exact skip (by unfold gi_nm; rw [decide_eq_false (p := ¬ Z 0 m c = nI m) (fun z => z ha), Bool.and_false])
      · rw [if_neg ha]
        have hn : gi_nm S Z m m c = true := by
          unfold gi_nm
          rw [decide_eq_true ha, Bool.and_true, Bool.or_eq_true, decide_eq_true_eq, decide_eq_true_eq]
          exact ho
        rw [← hc] at hvi hok
        obtain ⟨k, k1, k2, k3, k4⟩ := hvi hn
        have hk5 : gs_iu S m x 5 k 0 ≠ 0 := by rw [iu_n (by omega)]; exact k4
        have hkey := (h.2.1 k (by omega)).2.1 hk5
        rw [ub_o k1, iu_n (by omega)] at hkey
        rw [k3, lh_in h k1, b_some, if_neg hk5, if_neg (by decide), if_pos (in_nI k1 (by omega)), tn_nI (by omega), hkey]
        obtain ⟨σ3, e1, e2⟩ := sc_add hB hm hx h k1 k2 k4
        have e3 : (if gi_mem x.2 k x.1 = false then (x.1 + 1, gi_up x.2 x.1 k) else x) = gi_st S Z m m c x := by
          unfold gi_st
          rw [k3, tn_nI (by omega), hn]
          by_cases hq : gi_mem x.2 k x.1 = false
          · rw [if_pos hq, if_pos ⟨rfl, hq⟩]
          · rw [if_neg hq, if_neg (fun z => hq z.2)]
        rw [e3] at e2
        rw [e1, b_some, gi_i, ← hc]
        exact ih (i + 1) _ (by omega) hok g σ3 (by omega) e2
    rw [xq_L_gatherImports_25, el, b_some, if_neg (nI_ge (by omega) (by omega))]
    unfold xm_C_cellOf
    rw [b_some, nz_14, mu_nI, ad_nI, show p * 14 + i = c by omega, if_pos (in_nI (by omega) (by omega)), if_pos (in_nI (by omega) (by omega)), if_pos (in_nI (by omega) (by omega)), tn_nI (by omega), hc, o1, o2, ← hc, nz_1, ad_nI]
    rw [← hc] at hob
    simp (disch := omega) only [el_2, el_11]
    by_cases h2 : S 4 m c = 2
    · rw [if_pos h2]; exact named (Or.inl h2)
    · rw [if_neg h2]
      by_cases h11 : S 4 m c = 11
      · rw [if_pos h11]; exact named (Or.inr h11)
      · rw [if_neg h11]
        exact skip (by unfold gi_nm; rw [decide_eq_false h2, decide_eq_false h11]; rfl)
theorem sg_p {S : gs_S} {Z : gs_Z} (hB : gs_B S) {m : Nat} (hm : m < 6) (hv : ∀ p, p < S 1 m 0 → ∀ i, i < S 3 m p → gi_v S Z m m (14 * p + i)) :
    ∀ (r p : Nat) (x : gi_T), p + r = S 1 m 0 → gi_ok S m x → ∀ (g : Nat) (σ : aw_m), r < g → ec_E σ (gs_iu S m x) Z →
    ∃ σ2, xq_L_gatherImports_13 g σ 7 (ub_ m) (nI m) (cb_ m) (nI p) = some σ2 ∧ ec_E σ2 (gs_iu S m (gi_p S Z m m r p x)) Z ∧ gi_ok S m (gi_p S Z m m r p x) := by
  have b1 := (hB.1 m (by omega)).2.1
  intro r
  induction r with
  | zero =>
    intro p x hp hx g σ hg h
    obtain ⟨g, rfl⟩ : ∃ g', g = g' + 1 := ⟨g - 1, by omega⟩
    have c2 := (h.1 m (by omega)).2.1
    rw [iu_n (by omega)] at c2
    exact ⟨σ, by rw [xq_L_gatherImports_13, c2, if_pos (nI_le (by omega) (by omega))], h, hx⟩
  | succ r ih =>
    intro p x hp hx g σ hg h
    obtain ⟨g, rfl⟩ : ∃ g', g = g' + 1 := ⟨g - 1, by omega⟩
    have c2 := (h.1 m (by omega)).2.1
    rw [iu_n (by omega)] at c2
    have b2 := ((hB.1 m (by omega)).2.2.1 p (by omega)).2
    obtain ⟨σ2, e1, e2, e3⟩ := sg_i hB hm (p := p) (by omega) (hv p (by omega)) (xq_L_gatherImports_13 g) (S 3 m p) 0 x (by omega) hx 64 σ (by omega) h
    obtain ⟨σ3, f1, f2, f3⟩ := ih (p + 1) _ (by omega) e3 g σ2 (by omega) e2
    refine ⟨σ3, ?_, f2, f3⟩
    rw [xq_L_gatherImports_13, c2, if_neg (nI_ge (by omega) (by omega))]
    exact e1.trans f1
theorem gi_ok0 {S : gs_S} {m : Nat} : gi_ok S m (0, fun _ => 0) := ⟨fun j hj => absurd hj (Nat.not_lt_zero j), rfl⟩
theorem sc_gather {σ : aw_m} {S : gs_S} {Z : gs_Z} (hB : gs_B S) {m : Nat} (hm : m < 6) (hv : ∀ p, p < S 1 m 0 → ∀ i, i < S 3 m p → gi_v S Z m m (14 * p + i)) (h : ec_E σ S Z) :
    ∃ σ2, xm_L_gatherImports σ 7 (ub_ m) (nI m) = some σ2 ∧ ec_E σ2 (gs_iu S m (gi_p S Z m m (S 1 m 0) 0 (0, fun _ => 0))) Z ∧ gi_ok S m (gi_p S Z m m (S 1 m 0) 0 (0, fun _ => 0)) := by
  have b1 := (hB.1 m (by omega)).2.1
  have hur := ub_r (e := m) (by omega)
  have h0 : ec_E (aw_p σ (ub_ m) 2 0) (gs_iu S m (0, fun _ => 0)) Z := by
    obtain ⟨h1, h2, h3, h4, h5, h6, h7⟩ := h
    refine ⟨fun e he => ?_, fun e he => ?_, fun a ha w hw => ?_, ?_, ?_, ?_, ?_⟩
    · have hcr := cb_r he
      exact ec_kC (h1 e he) (fun j hj => aw_pk (by omega)) (fun t i ht => iu_n (by omega)) (fun _ _ _ => rfl)
    · have hvr := ub_r he
      by_cases hq : e = m
      · subst hq
        obtain ⟨u1, u2, u3, u4⟩ := h2 e he
        refine ⟨?_, fun hz => ?_, ?_, fun i hi => ?_⟩
        · rw [iu_n (by omega), aw_pe, up_n (by omega)]; exact u1
        · rw [iu_n (by omega)] at hz ⊢; rw [aw_pe, up_n (by omega)]; exact u2 hz
        · rw [iu_6, aw_pe, up_e]; rfl
        · rw [iu_6] at hi; exact absurd hi (Nat.not_lt_zero i)
      · exact ec_kU (h2 e he) (fun j hj => aw_pk (by omega)) (fun t i _ _ => iu_n (by omega))
    · rw [aw_pk (by omega)]; exact h3 a ha w hw
    · rw [aw_pk (by omega), iu_n (by omega)]; exact h4
    · rw [aw_pk (by omega)]; exact h5
    · rw [aw_pk (by omega)]; exact h6
    · rw [aw_pk (by omega), iu_n (by omega)]; exact h7
  obtain ⟨σ2, e1, e2, e3⟩ := sg_p hB hm hv (S 1 m 0) 0 (0, fun _ => 0) (by omega) gi_ok0 64 _ (by omega) h0
  refine ⟨σ2, ?_, e2, e3⟩
  unfold xm_L_gatherImports
  rw [l_eq, ← (cb_lo (e := m) (by omega)).2.2.2]
  exact e1
/-- a new key for m -/
def gs_nk (S : gs_S) (m : Nat) : gs_S := g3 (g3 S 9 0 0 (S 9 0 0 + 1)) 5 m 0 (S 9 0 0 + 1)
theorem ec_nk {σ : aw_m} {S : gs_S} {Z : gs_Z} (h : ec_E σ S Z) {m : Nat} (hm : m < 6) : ec_E (aw_p (aw_p (aw_p σ 7 1 (nI (S 9 0 0 + 1))) (ub_ m) 1 (nI (S 9 0 0 + 1))) (ub_ m) 0 1) (gs_nk S m) Z := by
  have hur := ub_r (e := m) (by omega)
  obtain ⟨h1, h2, h3, h4, h5, h6, h7⟩ := h
  unfold gs_nk
  refine ⟨fun e he => ?_, fun e he => ?_, fun a ha w hw => ?_, ?_, ?_, ?_, ?_⟩
  · have hcr := cb_r he
    refine ec_kC (h1 e he) (fun j hj => ?_) (fun t i ht => ?_) (fun _ _ _ => rfl)
    · simp (disch := omega) only [aw_pk]
    · rw [g3_n (by omega), g3_n (by omega)]
  · have hvr := ub_r he
    by_cases hq : e = m
    · subst hq
      obtain ⟨u1, u2, u3, u4⟩ := h2 e he
      refine ⟨?_, fun _ => ?_, ?_, fun i hi => ?_⟩
      · rw [g3_e, aw_pe, up_e, if_neg (by omega)]
      · rw [g3_e, aw_pe, up_n (by omega), aw_pe, up_e]
      · rw [g3_n (by omega), g3_n (by omega), aw_pe, up_n (by omega), aw_pe, up_n (by omega), aw_pk (by omega)]; exact u3
      · rw [g3_n (by omega), g3_n (by omega)] at hi
        simp (disch := omega) only [aw_pk, g3_n]
        exact u4 i hi
    · refine ec_kU (h2 e he) (fun j hj => ?_) (fun t i _ _ => ?_)
      · simp (disch := omega) only [aw_pk]
      · rw [g3_n (by omega), g3_n (by omega)]
  · simp (disch := omega) only [aw_pk]; exact h3 a ha w hw
  · rw [g3_n (by omega), g3_e, aw_pk (by omega), aw_pk (by omega), aw_pe, up_e]
  · simp (disch := omega) only [aw_pk]; exact h5
  · simp (disch := omega) only [aw_pk]; exact h6
  · simp (disch := omega) only [aw_pk, g3_n]; exact h7
/-- what a compile makes of m, its key in S given already -/
def gs_new (S : gs_S) (Z : gs_Z) (m : Nat) : gs_S := gs_iu (gs_cp S 12 m) m (gi_p (gs_cp S 12 m) (gz_cp Z 12 m) m m (S 1 12 0) 0 (0, fun _ => 0))
theorem gs_cpB {S : gs_S} (hB : gs_B S) {a b : Nat} (ha : a < 13) : gs_B (gs_cp S a b) := by
  obtain ⟨h1, h2, h3⟩ := hB
  refine ⟨fun e he => ?_, fun e he => ?_, by rw [cp_n (by omega)]; exact h3⟩
  · by_cases hq : e = b
    · subst hq
      obtain ⟨a1, a2, a3, a4⟩ := h1 a ha
      rw [cp_e (by omega), cp_e (by omega)]
      refine ⟨a1, a2, fun p hp => ?_, fun c hc => ?_⟩
      · rw [cp_e (by omega), cp_e (by omega)]; exact a3 p hp
      · rw [cp_e (by omega)]; exact a4 c hc
    · obtain ⟨a1, a2, a3, a4⟩ := h1 e he
      rw [cp_n (by omega), cp_n (by omega)]
      refine ⟨a1, a2, fun p hp => ?_, fun c hc => ?_⟩
      · rw [cp_n (by omega), cp_n (by omega)]; exact a3 p hp
      · rw [cp_n (by omega)]; exact a4 c hc
  · rw [cp_n (by omega), cp_n (by omega), cp_n (by omega)]
    refine ⟨(h2 e he).1, fun i hi => ?_, (h2 e he).2.2⟩
    rw [cp_n (by omega)]
    exact (h2 e he).2.1 i hi
theorem sc_tail {σ : aw_m} {S : gs_S} {Z : gs_Z} (h : ec_E σ S Z) (hB : gs_B S) {m : Nat} (hm : m < 6) (hk : S 5 m 0 ≠ 0) (hv : ∀ p, p < S 1 12 0 → ∀ i, i < S 3 12 p → gi_v S Z 12 m (14 * p + i)) :
    ∃ σ2, ((xm_C_copyFrom σ (7 + 1 + 1 + 9 * m + 3) 1).bind fun q_53 => (xm_L_gatherImports q_53 7 (7 + 1 + 1 + 9 * m) (nI m)).bind fun q_59 => some (q_59 (7 + 1 + 1 + 9 * m) 1, q_59)) = some (nI (S 5 m 0), σ2) ∧ ec_E σ2 (gs_new S Z m) (gz_cp Z 12 m) ∧ gi_ok (gs_cp S 12 m) m (gi_p (gs_cp S 12 m) (gz_cp Z 12 m) m m (S 1 12 0) 0 (0, fun _ => 0)) := by
  obtain ⟨σ2, e1, e2, -⟩ := sc_copy h (a := 12) (b := m) (by omega) (by omega) (by omega)
  have e1 : xm_C_copyFrom σ (cb_ m) 1 = some σ2 := e1
  have hv2 : ∀ p, p < gs_cp S 12 m 1 m 0 → ∀ i, i < gs_cp S 12 m 3 m p → gi_v (gs_cp S 12 m) (gz_cp Z 12 m) m m (14 * p + i) := by
    intro p hp i hi
    rw [cp_e (by omega)] at hp hi
    have := hv p hp i hi
    unfold gi_v gi_nm at this ⊢
    rw [cp_e (by omega), cz_e (by omega)]
    intro hn
    obtain ⟨k, k1, k2, k3, k4⟩ := this hn
    exact ⟨k, k1, k2, k3, by rw [cp_n (by omega)]; exact k4⟩
  obtain ⟨σ3, f1, f2, f3⟩ := sc_gather (gs_cpB hB (by omega)) hm hv2 e2
  rw [cp_e (by omega)] at f2 f3
  have hkey := (f2.2.1 m (by omega)).2.1 (by rw [iu_n (by omega), cp_n (by omega)]; exact hk)
  rw [iu_n (by omega), cp_n (by omega), ub_o hm] at hkey
  refine ⟨σ3, ?_, f2, f3⟩
  rw [← cb_o hm, e1, b_some, ← ub_o hm, f1, b_some, ub_o hm, hkey]
theorem sc_keep {σ : aw_m} {S : gs_S} {Z : gs_Z} (h : ec_E σ S Z) (hB : gs_B S) {m : Nat} (hm : m < 6) (hv : ∀ p, p < S 1 12 0 → ∀ i, i < S 3 12 p → gi_v S Z 12 m (14 * p + i)) :
    ((S 5 m 0 ≠ 0 ∧ gs_if S m) → ∃ σ2, xm_L_keep σ 7 1 (nI m) = some (nI (S 5 m 0), σ2) ∧ ec_E σ2 (gs_new S Z m) (gz_cp Z 12 m)) ∧
    (¬ (S 5 m 0 ≠ 0 ∧ gs_if S m) → ∃ σ2, xm_L_keep σ 7 1 (nI m) = some (nI (S 9 0 0 + 1), σ2) ∧ ec_E σ2 (gs_new (gs_nk S m) Z m) (gz_cp Z 12 m)) := by
  obtain ⟨u1, u2, u3, u4⟩ := h.2.1 m (by omega)
  have hgv := h.2.2.2.1
  have hur := ub_r (e := m) (by omega)
  rw [ub_o hm] at u1
  have hnkB : gs_B (gs_nk S m) := by
    obtain ⟨h1, h2, h3⟩ := hB
    unfold gs_nk
    refine ⟨fun e he => ?_, fun e he => ?_, by rw [g3_n (by omega), g3_n (by omega)]; exact h3⟩
    · simp (disch := omega) only [g3_n]
      obtain ⟨a1, a2, a3, a4⟩ := h1 e he
      exact ⟨a1, a2, a3, a4⟩
    · obtain ⟨a1, a2, a3⟩ := h2 e he
      rw [g3_n (t' := 6) (by omega), g3_n (t' := 6) (by omega)]
      refine ⟨a1, fun i hi => ?_, ?_⟩
      · rw [g3_n (by omega), g3_n (by omega)]; exact a2 i hi
      · rw [g3_n (t' := 9) (by omega), g3_e]
        by_cases hq : e = m
        · subst hq; rw [g3_e]; exact Nat.le_refl _
        · rw [g3_n (by omega), g3_n (by omega)]; omega
  have fresh : ∃ σ2, (aw_l (aw_p σ 7 1 ((σ 7 1) + 1)) fun s_32 => aw_l (aw_p s_32 (7 + 1 + 1 + 9 * m) 1 (s_32 7 1)) fun s_40 => aw_l (aw_p s_40 (7 + 1 + 1 + 9 * m) 0 1) fun s_45 => (xm_C_copyFrom s_45 ((7 + 1 + 1 + 9 * m) + 3) 1).bind fun q_53 => (xm_L_gatherImports q_53 7 (7 + 1 + 1 + 9 * m) (nI m)).bind fun q_59 => some (q_59 (7 + 1 + 1 + 9 * m) 1, q_59)) = some (nI (S 9 0 0 + 1), σ2) ∧ ec_E σ2 (gs_new (gs_nk S m) Z m) (gz_cp Z 12 m) := by
    have hn := ec_nk h hm
    rw [ub_o hm] at hn
    rw [l_eq, l_eq, l_eq, aw_pe, up_e, hgv, nz_1, ad_nI]
    have hk5 : gs_nk S m 5 m 0 = S 9 0 0 + 1 := g3_e
    have hsame : ∀ t e i, t ≠ 9 → t ≠ 5 → gs_nk S m t e i = S t e i := fun t e i a b => by unfold gs_nk; rw [g3_n (by omega), g3_n (by omega)]
    obtain ⟨σ2, e1, e2, -⟩ := sc_tail hn hnkB hm (by rw [hk5]; omega) (by
      intro p hp i hi
      rw [hsame _ _ _ (by omega) (by omega)] at hp hi
      have := hv p hp i hi
      unfold gi_v gi_nm at this ⊢
      rw [hsame _ _ _ (by omega) (by omega)]
      intro hz
      obtain ⟨k, k1, k2, k3, k4⟩ := this hz
      exact ⟨k, k1, k2, k3, by unfold gs_nk; rw [g3_n (by omega), g3_n (by omega)]; exact k4⟩)
    rw [hk5] at e1
    exact ⟨σ2, e1, e2⟩
  unfold xm_L_keep
  rw [if_pos (in_nI hm (by omega)), tn_nI (by omega), u1]
  by_cases h0 : S 5 m 0 = 0
  · rw [if_pos h0, if_pos rfl]
    exact ⟨fun z => absurd h0 z.1, fun _ => fresh⟩
  · rw [if_neg h0, if_neg (by decide), ← cb_o hm]
    obtain ⟨a1, a2⟩ := sc_iface h hB (e := m) (by omega)
    by_cases hi : gs_if S m
    · rw [a1 hi, b_some, if_neg (by decide)]
      refine ⟨fun _ => ?_, fun z => absurd ⟨h0, hi⟩ z⟩
      rw [if_neg h0] at u1
      rw [l_eq, aw_ps u1, cb_o hm]
      obtain ⟨σ2, e1, e2, -⟩ := sc_tail h hB hm h0 hv
      exact ⟨σ2, e1, e2⟩
    · rw [a2 hi, b_some, if_pos rfl, cb_o hm]
      exact ⟨fun z => absurd z.2 hi, fun _ => fresh⟩
