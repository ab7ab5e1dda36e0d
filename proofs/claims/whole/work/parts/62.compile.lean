/-! compile, whole -/
theorem it_cov {P : Nat → Prop} {f : Nat → Bool × Nat} (hf : ∀ i, (f i).1 = true → i < (f i).2 ∧ ∀ k, i ≤ k → k < (f i).2 → P k) : ∀ n i, (gs_it f n i).1 = true → i ≤ (gs_it f n i).2 ∧ ∀ k, i ≤ k → k < (gs_it f n i).2 → P k := by
  intro n
  induction n with
  | zero => intro i _; exact ⟨Nat.le_refl i, fun k h1 h2 => by have : k < i := h2; omega⟩
  | succ n ih =>
    intro i h
    rw [gs_it] at h ⊢
    by_cases ht : (f i).1 = true
    · rw [if_pos ht] at h ⊢
      obtain ⟨a1, a2⟩ := hf i ht
      obtain ⟨b1, b2⟩ := ih (f i).2 h
      refine ⟨by omega, fun k h1 h2 => ?_⟩
      rcases Nat.lt_or_ge k (f i).2 with w | w
      · exact a2 k h1 w
      · exact b2 k w h2
    · rw [if_neg ht] at h; cases h
theorem ex_cov {S : gs_S} {Z : gs_Z} {m p : Nat} : ∀ d i, (gs_ex S Z m p d i).1 = true → i < (gs_ex S Z m p d i).2 ∧ ∀ k, i ≤ k → k < (gs_ex S Z m p d i).2 → (gs_pt S Z m p (14 * p + k)).isSome = true := by
  intro d
  induction d with
  | zero => intro i h; cases h
  | succ d ih =>
    intro i h
    rw [gs_ex] at h ⊢
    by_cases hl : i < S 3 12 p
    · rw [if_pos hl] at h ⊢
      cases hq : gs_pt S Z m p (14 * p + i) with
      | none => rw [hq] at h; cases h
      | some n =>
        rw [hq] at h
        obtain ⟨a1, a2⟩ := it_cov (P := fun k => (gs_pt S Z m p (14 * p + k)).isSome = true) ih n (i + 1) h
        refine ⟨a1, fun k h1 h2 => ?_⟩
        rcases Nat.lt_or_ge i k with w | w
        · exact a2 k w h2
        · rw [show k = i by omega, hq]; rfl
    · rw [if_neg hl] at h; cases h
theorem fp_none {S : gs_S} {Z : gs_Z} {m : Nat} : ∀ n p, gs_fp S Z m n p = none → ∀ q, p ≤ q → q < p + n → gs_fw S Z m q = none := by
  intro n
  induction n with
  | zero => intro p _ q h1 h2; omega
  | succ n ih =>
    intro p h q h1 h2
    rw [gs_fp] at h
    cases hw : gs_fw S Z m p with
    | some w => rw [hw] at h; cases h
    | none =>
      rw [hw] at h
      rcases Nat.lt_or_ge p q with w | w
      · exact ih (p + 1) h q w (by omega)
      · rw [show q = p by omega]; exact hw
theorem fw_none {S : gs_S} {Z : gs_Z} {m p : Nat} (h : gs_fw S Z m p = none) : (gs_ex S Z m p 5 0).1 = true ∧ (gs_ex S Z m p 5 0).2 = S 3 12 p := by
  unfold gs_fw at h
  by_cases hc : (gs_ex S Z m p 5 0).1 = true ∧ (gs_ex S Z m p 5 0).2 = S 3 12 p
  · exact hc
  · rw [if_neg hc] at h; cases h
theorem fp_right {S : gs_S} {Z : gs_Z} {m : Nat} (h : gs_fp S Z m (S 1 12 0) 0 = none) : ∀ p, p < S 1 12 0 → ∀ i, i < S 3 12 p → (gs_pt S Z m p (14 * p + i)).isSome = true := by
  intro p hp i hi
  obtain ⟨a1, a2⟩ := fw_none (fp_none _ 0 h p (Nat.zero_le p) (by omega))
  exact (ex_cov 5 0 a1).2 i (Nat.zero_le i) (by omega)
theorem fp_v {S : gs_S} {Z : gs_Z} {m : Nat} (hm : m < 6) (h : gs_fp S Z m (S 1 12 0) 0 = none) : ∀ p, p < S 1 12 0 → ∀ i, i < S 3 12 p → gi_v S Z 12 m (14 * p + i) := by
  intro p hp i hi hn
  have hs := fp_right h p hp i hi
  unfold gi_nm at hn
  rw [Bool.and_eq_true, Bool.or_eq_true, decide_eq_true_eq, decide_eq_true_eq, decide_eq_true_eq] at hn
  have key : ∃ e, gs_sn S m (Z 0 12 (14 * p + i)) = some e := by
    rcases hn.1 with q | q
    · rw [pt_2 q] at hs
      cases hq : gs_sn S m (Z 0 12 (14 * p + i)) with
      | none => rw [hq] at hs; cases hs
      | some e => exact ⟨e, rfl⟩
    · rw [pt_11 q] at hs
      cases hq : gs_sn S m (Z 0 12 (14 * p + i)) with
      | none => rw [hq] at hs; cases hs
      | some e => exact ⟨e, rfl⟩
  obtain ⟨e, he⟩ := key
  obtain ⟨a1, a2, a3⟩ := sn_lt he
  rcases a2 with a2 | ⟨b1, b2, b3, b4⟩
  · exact absurd (a3 a2 (by omega) (by omega)) hn.2
  · exact ⟨e, b1, b4, b3, b2⟩
theorem gi_i_cong {S S2 : gs_S} {Z Z2 : gs_Z} {e e2 m p : Nat} (h4 : ∀ c, S2 4 e2 c = S 4 e c) (hz : ∀ c, Z2 0 e2 c = Z 0 e c) : ∀ r i x, gi_i S2 Z2 e2 m p r i x = gi_i S Z e m p r i x := by
  intro r
  induction r with
  | zero => intro i x; rfl
  | succ r ih =>
    intro i x
    have : gi_st S2 Z2 e2 m (14 * p + i) x = gi_st S Z e m (14 * p + i) x := by unfold gi_st gi_nm; rw [h4, hz]
    rw [gi_i, gi_i, ih, this]
theorem gi_p_cong {S S2 : gs_S} {Z Z2 : gs_Z} {e e2 m : Nat} (h3 : ∀ c, S2 3 e2 c = S 3 e c) (h4 : ∀ c, S2 4 e2 c = S 4 e c) (hz : ∀ c, Z2 0 e2 c = Z 0 e c) : ∀ r p x, gi_p S2 Z2 e2 m r p x = gi_p S Z e m r p x := by
  intro r
  induction r with
  | zero => intro p x; rfl
  | succ r ih => intro p x; rw [gi_p, gi_p, ih, h3, gi_i_cong h4 hz]
theorem er_copy {τ τ2 : aw_m} {S S2 : gs_S} {Z : gs_Z} (h : er_E τ S Z) (hB : gs_B S) {a b : Nat} (ha : a < 13) (hb : b < 12) (hab : a ≠ b) (hc : rc_P τ τ2 a b) (hS : ∀ t e i, e ≠ b → S2 t e i = S t e i) (hC : ∀ t i, t ≤ 4 → S2 t b i = S t a i) (hu : er_U τ2 S2 b) (h9 : S2 9 0 0 = S 9 0 0) (h10 : S2 10 0 0 = S 10 0 0) : er_E τ2 S2 (gz_cp Z a b) := by
  obtain ⟨p1, p2, p3, p4, p5, p6, p7, p8, p9⟩ := hc
  obtain ⟨g1, g2, g3', g4, g5, g6, g7⟩ := h
  refine ⟨fun e he => ?_, fun e he => ?_, fun m hm v hv => ?_, ?_, ?_, ?_, ?_⟩
  · by_cases hq : e = b
    · subst hq
      obtain ⟨c1, c2, c3, c4⟩ := g1 a ha
      refine ⟨?_, ?_, fun p hp => ⟨?_, ?_⟩, fun c hc => ⟨?_, ?_, ?_⟩⟩
      · rw [p3.1, hC 0 0 (by omega)]; exact c1
      · rw [p3.2.1, hC 1 0 (by omega)]; exact c2
      · rw [(p5 p hp).1, hC 2 p (by omega)]; exact (c3 p hp).1
      · rw [(p5 p hp).2, hC 3 p (by omega)]; exact (c3 p hp).2
      · rw [(p7 c hc).1, hC 4 c (by omega)]; exact (c4 c hc).1
      · rw [(p7 c hc).2.1, cz_e (by omega)]; exact (c4 c hc).2.1
      · rw [(p7 c hc).2.2, cz_e (by omega)]; exact (c4 c hc).2.2
    · exact er_kC (g1 e he) (p2 e hq).1 (p2 e hq).2.1 (fun p hp => p4 _ (by omega)) (fun c hc => p6 _ (by omega)) (fun t i _ => hS t e i hq) (fun t i _ => cz_n (by omega))
  · by_cases hq : e = b
    · subst hq; exact hu
    · exact er_kU (g2 e he) (by rw [p1 1 (by omega)]) (p2 e hq).2.2 (fun i hi => p8 _ (by omega)) (hB.2.1 e he).1 (fun t i _ _ => hS t e i hq)
  · rw [p1 12 (by omega), cz_n (by omega)]; exact g3' m hm v hv
  · rw [p1 0 (by omega), h9]; exact g4
  · rw [p1 0 (by omega), cz_n (by omega)]; exact g5
  · rw [p1 0 (by omega), cz_n (by omega)]; exact g6
  · rw [p1 0 (by omega), h10]; exact g7
theorem er_ri {τ τ2 : aw_m} {S : gs_S} {Z : gs_Z} {x : gi_T} {v : Int32} (h : er_E τ S Z) (hB : gs_B S) (hr : ri_P τ τ2 S x) : er_E (aw_p τ2 9 12 v) S Z := by
  obtain ⟨g1, g2, g3', g4, g5, g6, g7⟩ := h
  obtain ⟨r1, r2, r3⟩ := hr
  have e : ∀ k, k ≠ 9 → k ≠ 10 → k ≠ 11 → aw_p τ2 9 12 v k = τ k := fun k a b c => by rw [aw_pk a]; exact r1 k b c
  refine ⟨fun a ha => ?_, fun a ha => ?_, fun m hm w hw => ?_, ?_, ?_, ?_, ?_⟩
  · exact er_kC (g1 a ha) (by rw [e 2 (by omega) (by omega) (by omega)]) (by rw [e 3 (by omega) (by omega) (by omega)]) (fun p _ => by rw [e 4 (by omega) (by omega) (by omega), e 5 (by omega) (by omega) (by omega)]; exact ⟨rfl, rfl⟩) (fun c _ => by rw [e 6 (by omega) (by omega) (by omega), e 7 (by omega) (by omega) (by omega), e 8 (by omega) (by omega) (by omega)]; exact ⟨rfl, rfl, rfl⟩) (fun _ _ _ => rfl) (fun _ _ _ => rfl)
  · exact er_kU (g2 a ha) (by rw [e 1 (by omega) (by omega) (by omega)]) (by rw [aw_pe, up_n (by omega), r1 9 (by omega) (by omega)]) (fun i hi => by rw [aw_pk (by omega), aw_pk (by omega)]; exact r2 _ (by omega)) (hB.2.1 a ha).1 (fun _ _ _ _ => rfl)
  · rw [e 12 (by omega) (by omega) (by omega)]; exact g3' m hm w hw
  · rw [e 0 (by omega) (by omega) (by omega)]; exact g4
  · rw [e 0 (by omega) (by omega) (by omega)]; exact g5
  · rw [e 0 (by omega) (by omega) (by omega)]; exact g6
  · rw [e 0 (by omega) (by omega) (by omega)]; exact g7
theorem er_nk {τ : aw_m} {S : gs_S} {Z : gs_Z} (h : er_E τ S Z) (hB : gs_B S) {m : Nat} (hm : m < 6) : er_E (aw_p (aw_p τ 0 12 (nI (S 9 0 0 + 1))) 1 m (nI (S 9 0 0 + 1))) (gs_nk S m) Z := by
  obtain ⟨g1, g2, g3', g4, g5, g6, g7⟩ := h
  unfold gs_nk
  refine ⟨fun a ha => ?_, fun a ha => ?_, fun k hk w hw => ?_, ?_, ?_, ?_, ?_⟩
  · refine er_kC (g1 a ha) ?_ ?_ (fun p _ => ?_) (fun c _ => ?_) (fun t i ht => ?_) (fun _ _ _ => rfl)
    · simp (disch := omega) only [aw_pk]
    · simp (disch := omega) only [aw_pk]
    · simp (disch := omega) only [aw_pk, and_self]
    · simp (disch := omega) only [aw_pk, and_self]
    · rw [g3_n (by omega), g3_n (by omega)]
  · by_cases hq : a = m
    · subst hq
      obtain ⟨u1, u2, u3⟩ := g2 a ha
      refine ⟨?_, ?_, fun i hi => ?_⟩
      · rw [aw_pe, up_e, g3_e]
      · simp (disch := omega) only [aw_pk, g3_n]; exact u2
      · rw [g3_n (by omega), g3_n (by omega)] at hi
        simp (disch := omega) only [aw_pk, g3_n]; exact u3 i hi
    · refine er_kU (g2 a ha) ?_ ?_ (fun i hi => ?_) (hB.2.1 a ha).1 (fun t i _ _ => ?_)
      · rw [aw_pe, up_n hq, aw_pk (by omega)]
      · simp (disch := omega) only [aw_pk]
      · simp (disch := omega) only [aw_pk, and_self]
      · rw [g3_n (by omega), g3_n (by omega)]
  · simp (disch := omega) only [aw_pk]; exact g3' k hk w hw
  · rw [g3_n (by omega), g3_e, aw_pk (by omega), aw_pe, up_e]
  · rw [aw_pk (by omega), aw_pe, up_n (by omega)]; exact g5
  · rw [aw_pk (by omega), aw_pe, up_n (by omega)]; exact g6
  · rw [aw_pk (by omega), aw_pe, up_n (by omega), g3_n (by omega), g3_n (by omega)]; exact g7
theorem ec_place {σ : aw_m} {S : gs_S} {Z : gs_Z} (h : ec_E σ S Z) (v : Int32) : ec_E (aw_p σ 0 4 v) S (g3 Z 3 0 0 v) := by
  obtain ⟨h1, h2, h3, h4, h5, h6, h7⟩ := h
  refine ⟨fun e he => ?_, fun e he => ?_, fun m hm w hw => ?_, ?_, ?_, ?_, ?_⟩
  · have hc := cb_r he
    exact ec_kC (h1 e he) (fun j hj => aw_pk (by omega)) (fun _ _ _ => rfl) (fun t i _ => g3_n (by omega))
  · have hv := ub_r he
    exact ec_kU (h2 e he) (fun j hj => aw_pk (by omega)) (fun _ _ _ _ => rfl)
  · rw [aw_pk (by omega), g3_n (by omega)]; exact h3 m hm w hw
  · rw [aw_pk (by omega)]; exact h4
  · rw [aw_pe, up_e, g3_e]
  · rw [aw_pe, up_n (by omega), g3_n (by omega)]; exact h6
  · rw [aw_pk (by omega)]; exact h7
theorem er_place {τ : aw_m} {S : gs_S} {Z : gs_Z} (h : er_E τ S Z) (hB : gs_B S) (v : Int32) : er_E (aw_p τ 0 13 v) S (g3 Z 3 0 0 v) := by
  obtain ⟨h1, h2, h3, h4, h5, h6, h7⟩ := h
  refine ⟨fun e he => ?_, fun e he => ?_, fun m hm w hw => ?_, ?_, ?_, ?_, ?_⟩
  · exact er_kC (h1 e he) (by rw [aw_pk (by omega)]) (by rw [aw_pk (by omega)]) (fun p _ => by rw [aw_pk (by omega), aw_pk (by omega)]; exact ⟨rfl, rfl⟩) (fun c _ => by rw [aw_pk (by omega), aw_pk (by omega), aw_pk (by omega)]; exact ⟨rfl, rfl, rfl⟩) (fun _ _ _ => rfl) (fun t i _ => g3_n (by omega))
  · exact er_kU (h2 e he) (by rw [aw_pk (by omega)]) (by rw [aw_pk (by omega)]) (fun i _ => by rw [aw_pk (by omega), aw_pk (by omega)]; exact ⟨rfl, rfl⟩) (hB.2.1 e he).1 (fun _ _ _ _ => rfl)
  · rw [aw_pk (by omega), g3_n (by omega)]; exact h3 m hm w hw
  · rw [aw_pe, up_n (by omega)]; exact h4
  · rw [aw_pe, up_e, g3_e]
  · rw [aw_pe, up_n (by omega), g3_n (by omega)]; exact h6
  · rw [aw_pe, up_n (by omega)]; exact h7
theorem pt_z3 {S : gs_S} {Z : gs_Z} {m : Nat} {v : Int32} : ∀ n p, gs_fp S (g3 Z 3 0 0 v) m n p = gs_fp S Z m n p := by
  have e : ∀ p c, gs_pt S (g3 Z 3 0 0 v) m p c = gs_pt S Z m p c := fun p c => by unfold gs_pt; rw [g3_n (by omega), g3_n (by omega)]
  have e2 : ∀ p d i, gs_ex S (g3 Z 3 0 0 v) m p d i = gs_ex S Z m p d i := by
    intro p d
    induction d with
    | zero => intro i; rfl
    | succ d ih =>
      intro i
      have : gs_ex S (g3 Z 3 0 0 v) m p d = gs_ex S Z m p d := funext ih
      rw [gs_ex, gs_ex, e, this]
  intro n
  induction n with
  | zero => intro p; rfl
  | succ n ih => intro p; rw [gs_fp, gs_fp, ih]; unfold gs_fw; rw [e2]
theorem sr_tail {τ : aw_m} {S S1 : gs_S} {Z : gs_Z} {x : gi_T} (h : er_E τ S1 Z) (hB : gs_B S1) {m : Nat} (hm : m < 6) (hk : S1 5 m 0 < 2 ^ 31) (hx : gi_ok S m x) (hxe : x = gi_p S Z 12 m (S 1 12 0) 0 (0, fun _ => 0)) (hS : ∀ t e i, t ≠ 9 → (t ≠ 5 ∨ e ≠ m) → S1 t e i = S t e i) (h9 : τ 9 12 = nI x.1) (h10 : ∀ j, j < x.1 → τ 10 (60 + j) = nI (x.2 j) ∧ τ 11 (60 + j) = nI (S 5 (x.2 j) 0)) :
    ∃ τ2, ((xm_R_copy τ 12 (nI m)).bind fun q_102 => if aw_in (nI m) 13 = true then some (q_102 1 (Int32.toNatClampNeg (nI m)), q_102) else none) = some (nI (S1 5 m 0), τ2) ∧ er_E τ2 (gs_new S1 Z m) (gz_cp Z 12 m) := by
  have h5 := gi_5 hx hm
  obtain ⟨τ2, e1, e2⟩ := sr_copy (τ := τ) (a := 12) (b := m) (by omega) (by omega) (by omega)
  have e1 : xm_R_copy τ 12 (nI m) = some τ2 := e1
  have hgi : gi_p (gs_cp S1 12 m) (gz_cp Z 12 m) m m (S1 1 12 0) 0 (0, fun _ => 0) = x := by
    rw [hxe, hS 1 12 0 (by omega) (by omega)]
    exact gi_p_cong (fun c => by rw [cp_e (by omega)]; exact hS _ _ _ (by omega) (by omega)) (fun c => by rw [cp_e (by omega)]; exact hS _ _ _ (by omega) (by omega)) (fun c => cz_e (by omega)) _ _ _
  have hk1 : τ2 1 m = nI (S1 5 m 0) := by rw [e2.1 1 (by omega)]; exact (h.2.1 m (by omega)).1
  refine ⟨τ2, ?_, ?_⟩
  · rw [e1, b_some, if_pos (in_nI (by omega) (by omega)), tn_nI (by omega), hk1]
  · unfold gs_new
    rw [hgi]
    refine er_copy h hB (a := 12) (b := m) (by omega) (by omega) (by omega) e2 (fun t e i he => ?_) (fun t i ht => ?_) ⟨?_, ?_, fun i hi => ?_⟩ ?_ ?_
    · rw [iu_n (by omega), cp_n (by omega)]
    · rw [iu_n (by omega), cp_e ht]
    · rw [iu_n (by omega), cp_n (by omega)]; exact hk1
    · rw [iu_6, e2.2.2.1.2.2]; exact h9
    · rw [iu_6] at hi
      obtain ⟨q1, q2⟩ := e2.2.2.2.2.2.2.2.2 i (by omega)
      obtain ⟨w1, w2⟩ := h10 i hi
      rw [iu_7, iu_8, q1, q2]
      refine ⟨w1, ?_⟩
      rw [cp_n (by omega), hS 5 (x.2 i) 0 (by omega) (Or.inr (hx.1 i hi).2.1)]
      exact w2
    · rw [iu_n (by omega), cp_n (by omega)]
    · rw [iu_n (by omega), cp_n (by omega)]
theorem nk_B {S : gs_S} (hB : gs_B S) {m : Nat} : gs_B (gs_nk S m) := by
  obtain ⟨h1, h2, h3⟩ := hB
  unfold gs_nk
  refine ⟨fun e he => ?_, fun e he => ?_, by rw [g3_n (by omega), g3_n (by omega)]; exact h3⟩
  · simp (disch := omega) only [g3_n]
    exact h1 e he
  · obtain ⟨a1, a2, a3⟩ := h2 e he
    rw [g3_n (t' := 6) (by omega), g3_n (t' := 6) (by omega)]
    refine ⟨a1, fun i hi => ?_, ?_⟩
    · rw [g3_n (by omega), g3_n (by omega)]; exact a2 i hi
    · rw [g3_n (t' := 9) (by omega), g3_e]
      by_cases hq : e = m
      · subst hq; rw [g3_e]; exact Nat.le_refl _
      · rw [g3_n (by omega), g3_n (by omega)]; omega
theorem rcm_lp {S : gs_S} {Z : gs_Z} (hB : gs_B S) (hg : S 9 0 0 < 2 ^ 30) {m : Nat} (hm : m < 6) : ∀ (r p : Nat), p + r = S 1 12 0 → ∀ (g : Nat) (τ : aw_m), r < g → er_E τ S Z → (∀ q, q < p → gs_fw S Z m q = none) →
    (∀ w, gs_fp S Z m r p = some w → ∃ τ2, xq_R_compile_18 g τ (nI m) (nI p) = some (-3, τ2) ∧ er_E τ2 S (g3 Z 3 0 0 (nI w))) ∧
    (gs_fp S Z m r p = none → ((S 5 m 0 ≠ 0 ∧ gs_if S m) → ∃ τ2, xq_R_compile_18 g τ (nI m) (nI p) = some (nI (S 5 m 0), τ2) ∧ er_E τ2 (gs_new S Z m) (gz_cp Z 12 m)) ∧
      (¬ (S 5 m 0 ≠ 0 ∧ gs_if S m) → ∃ τ2, xq_R_compile_18 g τ (nI m) (nI p) = some (nI (S 9 0 0 + 1), τ2) ∧ er_E τ2 (gs_new (gs_nk S m) Z m) (gz_cp Z 12 m))) := by
  have hgk : ∀ e, e < 12 → S 5 e 0 < 2 ^ 31 := fun e he => by have := (hB.2.1 e he).2.2; omega
  have b1 := (hB.1 12 (by omega)).2.1
  intro r
  induction r with
  | zero =>
    intro p hp g τ hgl h hall
    obtain ⟨g, rfl⟩ : ∃ g', g = g' + 1 := ⟨g - 1, by omega⟩
    refine ⟨fun w hw => (by cases hw), fun _ => ?_⟩
    have hfp : gs_fp S Z m (S 1 12 0) 0 = none := by
      have : ∀ n q, q + n = p → gs_fp S Z m n q = none := by
        intro n
        induction n with
        | zero => intro q _; rfl
        | succ n ih => intro q hq; rw [gs_fp, hall q (by omega)]; exact ih (q + 1) (by omega)
      exact this (S 1 12 0) 0 (by omega)
    have hv := fp_v hm hfp
    have c2 := (h.1 12 (by omega)).2.1
    obtain ⟨τ3, e1, e2, e3⟩ := rg_p h hB hm hv (S 1 12 0) 0 (0, fun _ => 0) (by omega) gi_ok0 64 τ (by omega) ⟨fun _ _ _ => rfl, fun _ _ => ⟨rfl, rfl⟩, fun j hj => absurd hj (Nat.not_lt_zero j)⟩
    obtain ⟨x, hxe⟩ : ∃ x, x = gi_p S Z 12 m (S 1 12 0) 0 (0, fun _ => 0) := ⟨_, rfl⟩
    rw [← hxe] at e1 e2 e3
    have e1 : xm_R_findImports τ (nI m) = some (aw_p τ3 9 12 (nI x.1)) := e1
    have hE1 := er_ri (v := nI x.1) h hB e2
    obtain ⟨a1, a2⟩ := sr_alike hE1 hB hgk (e := m) (by omega)
    have q9 : aw_p τ3 9 12 (nI x.1) 9 12 = nI x.1 := by rw [aw_pe, up_e]
    have q10 : ∀ j, j < x.1 → aw_p τ3 9 12 (nI x.1) 10 (60 + j) = nI (x.2 j) ∧ aw_p τ3 9 12 (nI x.1) 11 (60 + j) = nI (S 5 (x.2 j) 0) := fun j hj => by rw [aw_pk (by omega), aw_pk (by omega)]; exact e2.2.2 j hj
    rw [xq_R_compile_18, tn_12, c2, if_pos (nI_le (by omega) (by omega)), e1, b_some]
    refine ⟨fun hz => ?_, fun hz => ?_⟩
    · rw [a1 hz, b_some, if_neg (by decide)]
      exact sr_tail (S := S) hE1 hB hm (hgk m (by omega)) e3 hxe (fun _ _ _ _ _ => rfl) q9 q10
    · rw [a2 hz, b_some, if_pos rfl, l_eq, hE1.2.2.2.1, nz_1, ad_nI, if_pos (in_nI (by omega) (by omega)), l_eq, tn_nI (by omega)]
      rw [show aw_p (aw_p τ3 9 12 (nI x.1)) 0 12 (nI (S 9 0 0 + 1)) 0 12 = nI (S 9 0 0 + 1) by rw [aw_pe, up_e]]
      have hE2 := er_nk hE1 hB hm
      have hk5 : gs_nk S m 5 m 0 = S 9 0 0 + 1 := g3_e
      have := sr_tail (S := S) hE2 (nk_B hB) hm (by rw [hk5]; omega) e3 hxe (fun t e i h9 h5 => by unfold gs_nk; rw [g3_n (by omega), g3_n (by omega)]) (by rw [aw_pk (by omega), aw_pk (by omega)]; exact q9) (fun j hj => by rw [aw_pk (by omega), aw_pk (by omega), aw_pk (by omega), aw_pk (by omega)]; exact q10 j hj)
      rw [hk5, tn_nI (by omega)] at this
      exact this
  | succ r ih =>
    intro p hp g τ hgl h hall
    obtain ⟨g, rfl⟩ : ∃ g', g = g' + 1 := ⟨g - 1, by omega⟩
    have c2 := (h.1 12 (by omega)).2.1
    obtain ⟨g2, e1⟩ := sr_firstWrong h hB hgk hm (p := p) (by omega)
    have hE2 := er_s h (k := 15) (by omega) g2
    rw [xq_R_compile_18, tn_12, c2, if_neg (nI_ge (by omega) (by omega)), nz_36, ad_nI, e1, b_some, gs_fp]
    cases hw : gs_fw S Z m p with
    | some w =>
      have hwl := fw_le hB (by omega) hw
      refine ⟨fun w2 hw2 => ?_, fun z => by cases z⟩
      cases hw2
      show ∃ τ2, (if 0 ≤ nI w then _ else _) = _ ∧ _
      rw [if_pos (nI_pos' (by omega)), l_eq]
      show ∃ τ2, some ((-3 : Int32), aw_p (aw_s τ 15 g2) 0 13 (16 * nI p + nI w)) = _ ∧ _
      rw [nz_16, mu_nI, ad_nI]
      exact ⟨_, rfl, er_place hE2 hB _⟩
    | none =>
      show (∀ w, gs_fp S Z m r (p + 1) = some w → ∃ τ2, (if (0 : Int32) ≤ -1 then _ else xq_R_compile_18 g (aw_s τ 15 g2) (nI m) (nI p + 1)) = _ ∧ _) ∧ (gs_fp S Z m r (p + 1) = none → (_ → ∃ τ2, (if (0 : Int32) ≤ -1 then _ else xq_R_compile_18 g (aw_s τ 15 g2) (nI m) (nI p + 1)) = _ ∧ _) ∧ (_ → ∃ τ2, (if (0 : Int32) ≤ -1 then _ else xq_R_compile_18 g (aw_s τ 15 g2) (nI m) (nI p + 1)) = _ ∧ _))
      rw [if_neg (by decide), nz_1, ad_nI]
      exact ih (p + 1) (by omega) g _ (by omega) hE2 (fun q hq => by
        rcases Nat.lt_or_ge q p with w | w
        · exact hall q w
        · rw [show q = p by omega]; exact hw)
