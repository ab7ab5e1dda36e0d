/-! load: the reference's loop, step by step -/
theorem er_p {τ : aw_m} {S : gs_S} {Z : gs_Z} (h : er_E τ S Z) {k : Nat} (hk : 13 ≤ k) (i : Nat) (v : Int32) : er_E (aw_p τ k i v) S Z := er_s h hk _
theorem er_k5 {τ : aw_m} {S S2 : gs_S} {Z : gs_Z} {e0 : Nat} {v : Int32} (h : er_E τ S Z) (hb : ∀ e, e < 12 → S 6 e 0 ≤ 5) (hS : ∀ t a i, t ≠ 5 ∨ a ≠ e0 → S2 t a i = S t a i) (hv : v = nI (S2 5 e0 0)) : er_E (aw_p τ 1 e0 v) S2 Z := by
  obtain ⟨h1, h2, h3, h4, h5, h6, h7⟩ := h
  refine ⟨fun e he => ?_, fun e he => ?_, fun m hm w hw => ?_, ?_, ?_, ?_, ?_⟩
  · exact er_kC (h1 e he) (by rw [aw_pk (by omega)]) (by rw [aw_pk (by omega)]) (fun p _ => by rw [aw_pk (by omega), aw_pk (by omega)]; exact ⟨rfl, rfl⟩) (fun c _ => by rw [aw_pk (by omega), aw_pk (by omega), aw_pk (by omega)]; exact ⟨rfl, rfl, rfl⟩) (fun t i ht => hS _ _ _ (by omega)) (fun _ _ _ => rfl)
  · by_cases hq : e = e0
    · subst hq
      obtain ⟨g1, g2, g3'⟩ := h2 e he
      refine ⟨?_, ?_, fun i hi => ?_⟩
      · rw [aw_pe, up_e]; exact hv
      · rw [aw_pk (by omega), hS _ _ _ (by omega)]; exact g2
      · rw [hS _ _ _ (by omega)] at hi
        rw [aw_pk (by omega), aw_pk (by omega), hS _ _ _ (by omega), hS _ _ _ (by omega)]
        exact g3' i hi
    · exact er_kU (h2 e he) (by rw [aw_pe, up_n hq]) (by rw [aw_pk (by omega)]) (fun i _ => by rw [aw_pk (by omega), aw_pk (by omega)]; exact ⟨rfl, rfl⟩) (hb e he) (fun t i _ _ => hS _ _ _ (by omega))
  · rw [aw_pk (by omega)]; exact h3 m hm w hw
  · rw [aw_pk (by omega), hS _ _ _ (by omega)]; exact h4
  · rw [aw_pk (by omega)]; exact h5
  · rw [aw_pk (by omega)]; exact h6
  · rw [aw_pk (by omega), hS _ _ _ (by omega)]; exact h7
theorem sr_ld {τ : aw_m} {S : gs_S} {Z : gs_Z} (h : er_E τ S Z) (hB : gs_B S) {m : Nat} (hm : m < 6) : ∃ τ2, xm_R_copy τ (nI m) (nI (6 + m)) = some τ2 ∧ er_E (aw_p (aw_p (aw_p (aw_p τ2 1 (6 + m) (τ2 1 m)) 12 (3 * m) 0) 12 (3 * m + 1) 0) 12 (3 * m + 2) 0) (gs_ld S m) (gz_ld Z m) ∧ (∀ k, 13 ≤ k → τ2 k = τ k) := by
  obtain ⟨τ2, e1, e2⟩ := sr_copy (τ := τ) (a := m) (b := 6 + m) (by omega) (by omega) (by omega)
  refine ⟨τ2, e1, ?_, fun k hk => e2.1 k (by omega)⟩
  have hb6 := (hB.2.1 m (by omega)).1
  obtain ⟨u1, u2, u3⟩ := h.2.1 m (by omega)
  obtain ⟨S1, hS1⟩ : ∃ S1, S1 = g3 (gs_ld S m) 5 (6 + m) 0 (S 5 (6 + m) 0) := ⟨_, rfl⟩
  have n1 : ∀ t e i, t ≠ 5 ∨ e ≠ 6 + m → S1 t e i = gs_ld S m t e i := fun t e i hh => by rw [hS1, g3_n (by omega)]
  have hE1 : er_E τ2 S1 (gz_cp Z m (6 + m)) := by
    refine er_copy h hB (a := m) (b := 6 + m) (by omega) (by omega) (by omega) e2 (fun t e i he => ?_) (fun t i ht => ?_) ⟨?_, ?_, fun i hi => ?_⟩ ?_ ?_
    · rw [n1 _ _ _ (by omega), ld_n (by omega)]
    · rw [n1 _ _ _ (by omega), ld_e (by omega)]
    · rw [hS1, g3_e, e2.1 1 (by omega)]; exact (h.2.1 (6 + m) (by omega)).1
    · rw [n1 _ _ _ (by omega), ld_e (by omega), e2.2.2.1.2.2]; exact u2
    · rw [n1 _ _ _ (by omega), ld_e (by omega)] at hi
      obtain ⟨q1, q2⟩ := e2.2.2.2.2.2.2.2.2 i (by omega)
      rw [n1 _ _ _ (by omega), ld_e (by omega), n1 _ _ _ (by omega), ld_e (by omega), q1, q2]
      exact u3 i hi
    · rw [n1 _ _ _ (by omega), ld_n (by omega)]
    · rw [n1 _ _ _ (by omega), ld_n (by omega)]
  have hE2 : er_E (aw_p τ2 1 (6 + m) (τ2 1 m)) (gs_ld S m) (gz_cp Z m (6 + m)) := by
    refine er_k5 hE1 (fun e he => ?_) (fun t a i hh => (n1 t a i hh).symm) ?_
    · rw [n1 _ _ _ (by omega)]; exact ((ld_B hB hm).2.1 e he).1
    · rw [ld_e (by omega), e2.1 1 (by omega)]; exact u1
  obtain ⟨h1, h2, h3, h4, h5, h6, h7⟩ := hE2
  refine ⟨fun e he => ?_, fun e he => ?_, fun a ha w hw => ?_, ?_, ?_, ?_, ?_⟩
  · refine er_kC (h1 e he) ?_ ?_ (fun p _ => ?_) (fun c _ => ?_) (fun _ _ _ => rfl) (fun t i ht => ?_)
    · simp (disch := omega) only [aw_pk]
    · simp (disch := omega) only [aw_pk]
    · simp (disch := omega) only [aw_pk, and_self]
    · simp (disch := omega) only [aw_pk, and_self]
    · unfold gz_ld; exact if_neg (by omega)
  · refine er_kU (h2 e he) ?_ ?_ (fun i _ => ?_) ((ld_B hB hm).2.1 e he).1 (fun _ _ _ _ => rfl)
    · rw [aw_pk (by omega), aw_pk (by omega), aw_pk (by omega)]
    · rw [aw_pk (by omega), aw_pk (by omega), aw_pk (by omega)]
    · simp (disch := omega) only [aw_pk, and_self]
  · by_cases hq : a = m
    · subst hq
      rw [lz_2]
      rcases (show w = 0 ∨ w = 1 ∨ w = 2 by omega) with rfl | rfl | rfl
      · simp (disch := omega) only [aw_pe, up_n]; exact up_e
      · simp (disch := omega) only [aw_pe, up_n]; exact up_e
      · rw [aw_pe]; exact up_e
    · have := h3 a ha w hw
      simp (disch := omega) only [aw_pe, up_n, aw_pk] at this ⊢
      rw [this, lz_n (by omega), cz_n (by omega)]
  · simp (disch := omega) only [aw_pk] at h4 ⊢; exact h4
  · simp (disch := omega) only [aw_pk] at h5 ⊢; rw [h5, lz_n (by omega), cz_n (by omega)]
  · simp (disch := omega) only [aw_pk] at h6 ⊢; rw [h6, lz_n (by omega), cz_n (by omega)]
  · simp (disch := omega) only [aw_pk] at h7 ⊢; exact h7
theorem nI_dec {k : Nat} : nI (k + 1) + (-1 : Int32) = nI k := by rw [← Int32.sub_eq_add_neg]; exact nI_pred k
section RL
variable {τ : aw_m} {S : gs_S} {Z : gs_Z} {m K i : Nat} {C : aw_m → Int32 → Int32 → Int32 → Option (Int32 × aw_m)} {v1 v2 c : Int32} {n : Nat}
theorem rl_cmp (h : er_E τ S Z) (hB : gs_B S) (hg : S 9 0 0 < 2 ^ 30) (hm : m < 6) (hK : K ≤ 5) (hi : i < S 6 m 0) (h8 : S 8 m i < 2 ^ 31) (h13 : τ 13 K = nI m) (h14 : τ 14 K = nI i) (hp : S 5 (6 + S 7 m i) 0 ≠ 0) :
    xq_R_load_88 C (n + 1) τ v1 v2 (nI (K + 1)) 0 c = xq_R_load_88 C n (aw_p τ 14 K (nI (i + 1))) v1 v2 (nI (K + 1)) (if S 5 (6 + S 7 m i) 0 = S 8 m i then 0 else -5) c := by
  obtain ⟨u1, u2, u3⟩ := h.2.1 m (by omega)
  obtain ⟨b1, b2, b3⟩ := hB.2.1 m (by omega)
  have b4 := b2 i hi
  have k1 := (h.2.1 (6 + S 7 m i) (by omega)).1
  have k2 := (hB.2.1 (6 + S 7 m i) (by omega)).2.2
  obtain ⟨u4, u5⟩ := u3 i hi
  rw [xq_R_load_88, if_neg (show ¬ nI (K + 1) ≤ (0 : Int32) from nI_ge (a := 0) (by omega) (by omega)), if_pos rfl, nz_1, su_nI (by omega), Nat.add_sub_cancel]
  simp (disch := omega) only [in_nI, tn_nI, h13, h14, u2, le_nI, if_true, nz_5, mu_nI, ad_nI, u4, u5, nz_6, k1, l_eq, eq_nI, nz_0]
  have hn : ¬ S 6 m 0 ≤ i := by omega
  simp only [hn, hp, if_false]
  by_cases hq : S 5 (6 + S 7 m i) 0 = S 8 m i
  · simp only [hq, if_true]
  · simp only [hq, if_false]
theorem rb_lp {x : gi_T} {k : Nat} (h : er_E τ S Z) (hg : ∀ e, e < 12 → S 5 e 0 < 2 ^ 31) (hk : k < 6) (hx : x.1 ≤ 7) (hxl : ∀ j, j < x.1 → x.2 j < 6) (h13 : ∀ j, j < x.1 → τ 13 j = nI (x.2 j)) : ∀ (r j g : Nat), j + r = x.1 → r < g → (∀ a, a < j → x.2 a ≠ k) →
    xq_R_begins_2 τ g (nI k) (nI x.1) (nI j) = some (if gi_mem x.2 k x.1 = true then -6 else if S 5 k 0 = 0 then -4 else 0) := by
  intro r
  induction r with
  | zero =>
    intro j g hj hgl hno
    obtain ⟨g, rfl⟩ : ∃ g', g = g' + 1 := ⟨g - 1, by omega⟩
    have hmf : ¬ gi_mem x.2 k x.1 = true := fun z => by
      obtain ⟨a, a1, a2⟩ := (mem_iff _).mp z
      exact hno a (by omega) a2
    rw [xq_R_begins_2, if_pos (nI_le (by omega) (by omega)), if_pos (in_nI (by omega) (by omega)), tn_nI (by omega), (h.2.1 k (by omega)).1, if_neg hmf]
    by_cases hq : S 5 k 0 = 0
    · rw [hq, if_pos (show nI 0 = (0 : Int32) from rfl), if_pos rfl]
    · rw [if_neg (nI_ne0 (by omega) (hg k (by omega))), if_neg hq]
  | succ r ih =>
    intro j g hj hgl hno
    obtain ⟨g, rfl⟩ : ∃ g', g = g' + 1 := ⟨g - 1, by omega⟩
    have hxj := hxl j (by omega)
    rw [xq_R_begins_2, if_neg (nI_ge (by omega) (by omega)), if_pos (in_nI (by omega) (by omega)), tn_nI (by omega), h13 j (by omega)]
    by_cases hq : x.2 j = k
    · rw [if_pos (by rw [hq]), if_pos ((mem_iff _).mpr ⟨j, by omega, hq⟩)]
    · rw [if_neg (fun z => hq ((nI_eq (by omega) (by omega)).mp z)), nz_1, ad_nI]
      exact ih (j + 1) g (by omega) (by omega) (fun a ha => by
        by_cases hw : a = j
        · rw [hw]; exact hq
        · exact hno a (by omega))
theorem rl_push {x : gi_T} (h : er_E τ S Z) (hB : gs_B S) (hg : S 9 0 0 < 2 ^ 30) (hm : m < 6) (hK : K ≤ 5) (hi : i < S 6 m 0) (hx : x.1 = K + 1) (hxm : x.2 K = m) (hxl : ∀ j, j < x.1 → x.2 j < 6) (h13 : ∀ j, j < x.1 → τ 13 j = nI (x.2 j)) (h14 : τ 14 K = nI i) (hp : S 5 (6 + S 7 m i) 0 = 0) :
    xq_R_load_88 C (n + 1) τ v1 v2 (nI (K + 1)) 0 c = xq_R_load_88 C n (aw_p (aw_p τ 13 (K + 1) (nI (S 7 m i))) 14 (K + 1) 0) v1 v2 (nI (K + 2)) (if gi_mem x.2 (S 7 m i) x.1 = true then -6 else if S 5 (S 7 m i) 0 = 0 then -4 else 0) c := by
  obtain ⟨u1, u2, u3⟩ := h.2.1 m (by omega)
  obtain ⟨b1, b2, b3⟩ := hB.2.1 m (by omega)
  have b4 := b2 i hi
  have k1 := (h.2.1 (6 + S 7 m i) (by omega)).1
  obtain ⟨u4, u5⟩ := u3 i hi
  have h13' : τ 13 K = nI m := by rw [h13 K (by omega), hxm]
  have hbg : xm_R_begins τ (nI (S 7 m i)) (nI (K + 1)) = some (if gi_mem x.2 (S 7 m i) x.1 = true then -6 else if S 5 (S 7 m i) 0 = 0 then -4 else 0) := by
    rw [← hx]
    exact rb_lp h (fun e he => by have := (hB.2.1 e he).2.2; omega) b4 (by omega) hxl h13 x.1 0 64 (by omega) (by omega) (fun a ha => absurd ha (Nat.not_lt_zero a))
  rw [xq_R_load_88, if_neg (show ¬ nI (K + 1) ≤ (0 : Int32) from nI_ge (a := 0) (by omega) (by omega)), if_pos rfl, nz_1, su_nI (by omega), Nat.add_sub_cancel]
  simp (disch := omega) only [in_nI, tn_nI, h13', h14, u2, le_nI, if_true, nz_5, mu_nI, ad_nI, u4, u5, nz_6, k1, l_eq, eq_nI, nz_0, hp]
  have hn : ¬ S 6 m 0 ≤ i := by omega
  simp only [hn, if_false, hbg, b_some]
  rfl
theorem rl_end (h : er_E τ S Z) (hB : gs_B S) (hg : S 9 0 0 < 2 ^ 30) (hm : m < 6) (hK : K ≤ 5) (hi : i = S 6 m 0) (h13 : τ 13 K = nI m) (h14 : τ 14 K = nI i) :
    (gs_al S 6 + gs_z S m ≤ 50 → ∃ τ2, xq_R_load_88 C (n + 1) τ v1 v2 (nI (K + 1)) 0 c = xq_R_load_88 C n τ2 v1 v2 (nI K) 0 (c + 1) ∧ er_E τ2 (gs_ld S m) (gz_ld Z m) ∧ ∀ k, 13 ≤ k → τ2 k = τ k) ∧
    (¬ gs_al S 6 + gs_z S m ≤ 50 → xq_R_load_88 C (n + 1) τ v1 v2 (nI (K + 1)) 0 c = xq_R_load_88 C n τ v1 v2 (nI (K + 1)) (-2) c) := by
  obtain ⟨u1, u2, u3⟩ := h.2.1 m (by omega)
  obtain ⟨b1, b2, b3⟩ := hB.2.1 m (by omega)
  have hgk : ∀ e, e < 12 → S 5 e 0 < 2 ^ 31 := fun e he => by have := (hB.2.1 e he).2.2; omega
  have z1 := gs_al_le hB 6 (by omega)
  have z2 := gs_z_le hB (e := m) (by omega)
  have hle : S 6 m 0 ≤ i := by omega
  have e0 : xq_R_load_88 C (n + 1) τ v1 v2 (nI (K + 1)) 0 c = (if nI (gs_z S m + gs_al S 6) ≤ (50 : Int32) then (xm_R_copy τ (nI m) (nI (6 + m))).bind fun q_261 => aw_l (aw_p q_261 1 (6 + m) (q_261 1 m)) fun s_280 => xq_R_load_284 C (xq_R_load_88 C n) 200 s_280 v1 v2 (nI (K + 1)) 0 c (nI m) (nI i) 0 else xq_R_load_88 C n τ v1 v2 (nI (K + 1)) (-2) c) := by
    rw [xq_R_load_88, if_neg (show ¬ nI (K + 1) ≤ (0 : Int32) from nI_ge (a := 0) (by omega) (by omega)), if_pos rfl, nz_1, su_nI (by omega), Nat.add_sub_cancel]
    simp (disch := omega) only [in_nI, tn_nI, h13, h14, u2, le_nI, if_true, hle, sr_size h hB, sr_all h hB hgk, b_some, ad_nI, nz_6]
  rw [e0]
  refine ⟨fun hl => ?_, fun hl => ?_⟩
  · obtain ⟨τ2, e1, e2, e3⟩ := sr_ld h hB hm
    rw [if_pos (show nI (gs_z S m + gs_al S 6) ≤ (50 : Int32) from nI_le (b := 50) (by omega) (by omega)), e1, b_some, l_eq]
    refine ⟨_, ?_, e2, fun k hk => ?_⟩
    · rw [show (200 : Nat) = 196 + 1 + 1 + 1 + 1 from rfl, nz_0]
      rw [xq_R_load_284, if_neg (by decide), nz_3, mu_nI, ad_nI, if_pos (in_nI (by omega) (by omega)), l_eq, nz_1, ad_nI, tn_nI (by omega)]
      rw [xq_R_load_284, if_neg (by decide), nz_3, mu_nI, ad_nI, if_pos (in_nI (by omega) (by omega)), l_eq, nz_1, ad_nI, tn_nI (by omega)]
      rw [xq_R_load_284, if_neg (by decide), nz_3, mu_nI, ad_nI, if_pos (in_nI (by omega) (by omega)), l_eq, nz_1, ad_nI, tn_nI (by omega)]
      rw [xq_R_load_284, if_pos (by decide), nI_dec]
      rfl
    · simp (disch := omega) only [aw_pk]; exact e3 k hk
  · rw [if_neg (show ¬ nI (gs_z S m + gs_al S 6) ≤ (50 : Int32) from nI_ge (a := 50) (by omega) (by omega))]
end RL
