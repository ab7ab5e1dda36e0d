/-! imported, remove, unload -/
theorem sc_imported {σ : aw_m} {S : gs_S} {Z : gs_Z} (h : ec_E σ S Z) (hB : gs_B S) (x y : Int32) : xm_S_imported σ x y = some (if x < 0 then -1 else if 6 ≤ x then -1 else if S 5 x.toNatClampNeg 0 = 0 then -1 else if y < 0 then -1 else if y.toNatClampNeg < S 6 x.toNatClampNeg 0 then nI (S 7 x.toNatClampNeg y.toNatClampNeg) + 8 * nI (S 8 x.toNatClampNeg y.toNatClampNeg) else -1) := by
  unfold xm_S_imported
  rcases md_or x with hx | ⟨k, h6, hk, rfl⟩ | ⟨m, hm, rfl⟩
  · rw [lh_neg hx, b_some, if_pos rfl, if_pos hx]
  · rw [lh_big h6 hk, b_some, if_pos rfl, if_neg (nI_pos hk), if_pos (show (6 : Int32) ≤ nI k from nI_le (a := 6) h6 hk)]
  · rw [lh_in h hm, b_some, if_neg (nI_pos (by omega)), if_neg (show ¬ (6 : Int32) ≤ nI m from nI_ge (b := 6) hm (by omega)), tn_nI (by omega)]
    by_cases hk : S 5 m 0 = 0
    · rw [if_pos hk, if_pos rfl, if_pos hk]
    · obtain ⟨-, -, h2, h3⟩ := h.2.1 m (by omega)
      have hb := (hB.2.1 m (by omega)).1
      rw [ub_o hm] at h2 h3
      rw [if_neg hk, if_neg (by decide), if_pos (in_nI hm (by omega)), if_neg hk]
      rcases ng_or y with hy | ⟨v, hv, rfl⟩
      · rw [if_pos hy, if_pos hy]
      · rw [if_neg (nI_pos hv), if_neg (nI_pos hv), h2, tn_nI hv]
        by_cases hl : v < S 6 m 0
        · rw [if_pos (nI_lt hl (by omega)), if_pos (in_nI (by omega) (by omega)), if_pos (in_nI (by omega) (by omega)), if_pos hl, (h3 v hl).1, (h3 v hl).2]
        · rw [if_neg (nI_nlt (by omega) hv), if_neg hl]
theorem sr_imported {τ : aw_m} {S : gs_S} {Z : gs_Z} (h : er_E τ S Z) (hB : gs_B S) (hg : ∀ e, e < 12 → S 5 e 0 < 2 ^ 31) (x y : Int32) : xm_R_imported τ x y = some (if x < 0 then -1 else if 6 ≤ x then -1 else if S 5 x.toNatClampNeg 0 = 0 then -1 else if y < 0 then -1 else if y.toNatClampNeg < S 6 x.toNatClampNeg 0 then nI (S 7 x.toNatClampNeg y.toNatClampNeg) + 8 * nI (S 8 x.toNatClampNeg y.toNatClampNeg) else -1) := by
  unfold xm_R_imported
  rcases md_or x with hx | ⟨k, h6, hk, rfl⟩ | ⟨m, hm, rfl⟩
  · rw [ri_neg hx, b_some, if_pos rfl, if_pos hx]
  · rw [nz_5, ri_big (by omega) hk, b_some, if_pos rfl, if_neg (nI_pos hk), if_pos (show (6 : Int32) ≤ nI k from nI_le (a := 6) h6 hk)]
  · obtain ⟨h1, h2, h3⟩ := h.2.1 m (by omega)
    have hb := (hB.2.1 m (by omega)).1
    have hgm := hg m (by omega)
    rw [nz_5, ri_in (by omega) (by omega), b_some, if_neg (by decide), if_pos (in_nI (by omega) (by omega)), if_neg (nI_pos (by omega)), if_neg (show ¬ (6 : Int32) ≤ nI m from nI_ge (b := 6) hm (by omega)), tn_nI (by omega), h1, h2]
    by_cases hk : S 5 m 0 = 0
    · rw [hk, if_pos (show nI 0 = (0 : Int32) from rfl), if_pos rfl]
    · rw [if_neg (show ¬ nI (S 5 m 0) = (0 : Int32) from nI_ne0 (by omega) hgm), if_pos (in_nI (by omega) (by omega)), if_neg hk]
      rcases ng_or y with hy | ⟨v, hv, rfl⟩
      · rw [ri_neg hy, b_some, if_pos rfl, if_pos hy]
      · rw [nz_1, ri_lt hv (by omega), b_some, if_neg (nI_pos hv), tn_nI hv]
        by_cases hl : v < S 6 m 0
        · rw [if_pos hl, if_neg (by decide), if_pos hl, mu_nI, ad_nI, if_pos (in_nI (by omega) (by omega)), if_pos (in_nI (by omega) (by omega)), tn_nI (by omega), (h3 v hl).1, (h3 v hl).2]
        · rw [if_neg hl, if_pos rfl, if_neg hl]
/-- a unit is not present any more -/
theorem ub_r {e : Nat} (h : e < 12) : (e < 6 ∧ ub_ e = 9 + 9 * e) ∨ (6 ≤ e ∧ ub_ e + 66 = 67 + 11 * e) := by
  unfold ub_
  by_cases h6 : e < 6
  · rw [if_pos h6]; omega
  · rw [if_neg h6]; omega
theorem cb_r {e : Nat} (h : e < 13) : (e = 12 ∧ cb_ e = 1) ∨ (e < 6 ∧ cb_ e = 12 + 9 * e) ∨ (6 ≤ e ∧ e < 12 ∧ cb_ e + 66 = 70 + 11 * e) := by
  unfold cb_
  by_cases h12 : e = 12
  · rw [if_pos h12]; omega
  · rw [if_neg h12]
    by_cases h6 : e < 6
    · rw [if_pos h6]; omega
    · rw [if_neg h6]; omega
theorem ec_drop {σ : aw_m} {S : gs_S} {Z : gs_Z} (h : ec_E σ S Z) {e0 : Nat} (he0 : e0 < 12) : ec_E (aw_p σ (ub_ e0) 0 0) (g3 S 5 e0 0 0) Z := by
  obtain ⟨h1, h2, h3, h4, h5, h6, h7⟩ := h
  have hu := ub_r he0
  refine ⟨fun e he => ?_, fun e he => ?_, fun m hm v hv => ?_, ?_, ?_, ?_, ?_⟩
  · have hc := cb_r he
    exact ec_kC (h1 e he) (fun j hj => aw_pk (by omega)) (fun t i ht => g3_n (by omega)) (fun _ _ _ => rfl)
  · have hv := ub_r he
    by_cases hq : e = e0
    · subst hq
      obtain ⟨g1, g2, g3', g4⟩ := h2 e he
      refine ⟨?_, fun hk => ?_, ?_, fun i hi => ?_⟩
      · rw [aw_pe, up_e, g3_e, if_pos rfl]
      · rw [g3_e] at hk; exact absurd rfl hk
      · rw [aw_pe, up_n (by omega), g3_n (by omega)]; exact g3'
      · rw [g3_n (by omega)] at hi
        rw [aw_pk (by omega), aw_pk (by omega), g3_n (by omega), g3_n (by omega)]
        exact g4 i hi
    · exact ec_kU (h2 e he) (fun j hj => aw_pk (by omega)) (fun t i _ _ => g3_n (by omega))
  · rw [aw_pk (by omega)]; exact h3 m hm v hv
  · rw [aw_pk (by omega), g3_n (by omega)]; exact h4
  · rw [aw_pk (by omega)]; exact h5
  · rw [aw_pk (by omega)]; exact h6
  · rw [aw_pk (by omega), g3_n (by omega)]; exact h7
theorem er_drop {τ : aw_m} {S : gs_S} {Z : gs_Z} (h : er_E τ S Z) (hB : gs_B S) {e0 : Nat} : er_E (aw_p τ 1 e0 0) (g3 S 5 e0 0 0) Z := by
  obtain ⟨h1, h2, h3, h4, h5, h6, h7⟩ := h
  refine ⟨fun e he => ?_, fun e he => ?_, fun m hm v hv => ?_, ?_, ?_, ?_, ?_⟩
  · exact er_kC (h1 e he) (by rw [aw_pk (by omega)]) (by rw [aw_pk (by omega)]) (fun p _ => by rw [aw_pk (by omega), aw_pk (by omega)]; exact ⟨rfl, rfl⟩) (fun c _ => by rw [aw_pk (by omega), aw_pk (by omega), aw_pk (by omega)]; exact ⟨rfl, rfl, rfl⟩) (fun t i ht => g3_n (by omega)) (fun _ _ _ => rfl)
  · by_cases hq : e = e0
    · subst hq
      obtain ⟨g1, g2, g3'⟩ := h2 e he
      refine ⟨?_, ?_, fun i hi => ?_⟩
      · rw [aw_pe, up_e, g3_e]; rfl
      · rw [aw_pk (by omega), g3_n (by omega)]; exact g2
      · rw [g3_n (by omega)] at hi
        rw [aw_pk (by omega), aw_pk (by omega), g3_n (by omega), g3_n (by omega)]
        exact g3' i hi
    · exact er_kU (h2 e he) (by rw [aw_pe, up_n hq]) (by rw [aw_pk (by omega)]) (fun i _ => by rw [aw_pk (by omega), aw_pk (by omega)]; exact ⟨rfl, rfl⟩) (hB.2.1 e he).1 (fun t i _ _ => g3_n (by omega))
  · rw [aw_pk (by omega)]; exact h3 m hm v hv
  · rw [aw_pk (by omega), g3_n (by omega)]; exact h4
  · rw [aw_pk (by omega)]; exact h5
  · rw [aw_pk (by omega)]; exact h6
  · rw [aw_pk (by omega), g3_n (by omega)]; exact h7
theorem sc_remove {σ : aw_m} {S : gs_S} {Z : gs_Z} (h : ec_E σ S Z) {m : Nat} (hm : m < 6) (hk : S 5 m 0 ≠ 0) : xm_S_remove σ (nI m) = some (0, aw_p σ (ub_ m) 0 0) := by
  unfold xm_S_remove
  rw [lh_in h hm, b_some, if_neg hk, if_neg (by decide), if_pos (in_nI hm (by omega)), tn_nI (by omega), ub_o hm]
  rfl
theorem sc_remove0 {σ : aw_m} {S : gs_S} {Z : gs_Z} (h : ec_E σ S Z) {x : Int32} (hx : x < 0 ∨ (∃ k, 6 ≤ k ∧ k < 2 ^ 31 ∧ x = nI k) ∨ ∃ m, m < 6 ∧ x = nI m ∧ S 5 m 0 = 0) : xm_S_remove σ x = some (-1, σ) := by
  unfold xm_S_remove
  rcases hx with hx | ⟨k, h6, hk, rfl⟩ | ⟨m, hm, rfl, hk⟩
  · rw [lh_neg hx, b_some, if_pos rfl]
  · rw [lh_big h6 hk, b_some, if_pos rfl]
  · rw [lh_in h hm, b_some, if_pos hk, if_pos rfl]
theorem sr_remove {τ : aw_m} {S : gs_S} {Z : gs_Z} (h : er_E τ S Z) (hg : ∀ e, e < 12 → S 5 e 0 < 2 ^ 31) {m : Nat} (hm : m < 6) (hk : S 5 m 0 ≠ 0) : xm_R_remove τ (nI m) = some (0, aw_p τ 1 m 0) := by
  have h1 := (h.2.1 m (by omega)).1
  unfold xm_R_remove
  rw [nz_5, ri_in (by omega) (by omega), b_some, if_neg (by decide), if_pos (in_nI (by omega) (by omega)), tn_nI (by omega), h1, if_neg (show ¬ nI (S 5 m 0) = (0 : Int32) from nI_ne0 (by omega) (hg m (by omega))), if_pos (in_nI (by omega) (by omega))]
  rfl
theorem sr_remove0 {τ : aw_m} {S : gs_S} {Z : gs_Z} (h : er_E τ S Z) {x : Int32} (hx : x < 0 ∨ (∃ k, 6 ≤ k ∧ k < 2 ^ 31 ∧ x = nI k) ∨ ∃ m, m < 6 ∧ x = nI m ∧ S 5 m 0 = 0) : xm_R_remove τ x = some (-1, τ) := by
  unfold xm_R_remove
  rcases hx with hx | ⟨k, h6, hk, rfl⟩ | ⟨m, hm, rfl, hk⟩
  · rw [ri_neg hx, b_some, if_pos rfl]
  · rw [nz_5, ri_big (by omega) hk, b_some, if_pos rfl]
  · have h1 := (h.2.1 m (by omega)).1
    rw [nz_5, ri_in (by omega) (by omega), b_some, if_neg (by decide), if_pos (in_nI (by omega) (by omega)), tn_nI (by omega), h1, hk, if_pos (show nI 0 = (0 : Int32) from rfl)]
/-- module m is imported by the loaded e -/
def gs_im (S : gs_S) (e m : Nat) : Prop := S 5 e 0 ≠ 0 ∧ ∃ i, i < S 6 e 0 ∧ S 7 e i = m
def gs_us (S : gs_S) (m : Nat) : Prop := ∃ k, k < 6 ∧ gs_im S (6 + k) m
theorem hi_lp {σ : aw_m} {S : gs_S} {e m : Nat} (h : ec_U σ S e) (hb : S 6 e 0 ≤ 5) (hs : ∀ i, i < S 6 e 0 → S 7 e i < 6) (hm : m < 2 ^ 31) : ∀ (n i : Nat), S 6 e 0 < i + n → i ≤ S 6 e 0 →
    ((∃ j, i ≤ j ∧ j < S 6 e 0 ∧ S 7 e j = m) → xq_U_hasImport_2 σ n (ub_ e) (nI m) (nI i) = some 1) ∧ ((¬ ∃ j, i ≤ j ∧ j < S 6 e 0 ∧ S 7 e j = m) → xq_U_hasImport_2 σ n (ub_ e) (nI m) (nI i) = some 0) := by
  obtain ⟨-, -, h3, h4⟩ := h
  intro n
  induction n with
  | zero => intro i h1 h2; omega
  | succ n ih =>
    intro i h1 h2
    rw [xq_U_hasImport_2, h3]
    by_cases hl : i < S 6 e 0
    · have hsi := hs i hl
      rw [if_neg (nI_ge hl (by omega)), if_pos (in_nI (by omega) (by omega)), tn_nI (by omega), (h4 i hl).1]
      by_cases hq : S 7 e i = m
      · rw [hq, if_pos rfl]
        exact ⟨fun _ => rfl, fun hn => absurd ⟨i, Nat.le_refl i, hl, hq⟩ hn⟩
      · rw [if_neg (fun z => hq ((nI_eq (by omega) hm).mp z)), nz_1, ad_nI]
        obtain ⟨a1, a2⟩ := ih (i + 1) (by omega) (by omega)
        refine ⟨fun ⟨j, g1, g2, g3⟩ => a1 ⟨j, ?_, g2, g3⟩, fun hn => a2 (fun ⟨j, g1, g2, g3⟩ => hn ⟨j, by omega, g2, g3⟩)⟩
        rcases Nat.lt_or_ge i j with q | q
        · exact q
        · exfalso; exact hq (by rw [show i = j by omega]; exact g3)
    · rw [if_pos (nI_le (by omega) (by omega))]
      exact ⟨fun ⟨j, g1, g2, _⟩ => by omega, fun _ => rfl⟩
theorem sc_hasImport {σ : aw_m} {S : gs_S} {Z : gs_Z} (h : ec_E σ S Z) (hB : gs_B S) {e m : Nat} (he : e < 12) (hm : m < 2 ^ 31) : ((∃ i, i < S 6 e 0 ∧ S 7 e i = m) → xm_U_hasImport σ (ub_ e) (nI m) = some 1) ∧ ((¬ ∃ i, i < S 6 e 0 ∧ S 7 e i = m) → xm_U_hasImport σ (ub_ e) (nI m) = some 0) := by
  obtain ⟨b1, b2, -⟩ := hB.2.1 e he
  obtain ⟨a1, a2⟩ := hi_lp (h.2.1 e he) b1 b2 hm 64 0 (by omega) (by omega)
  unfold xm_U_hasImport
  exact ⟨fun ⟨i, g1, g2⟩ => a1 ⟨i, Nat.zero_le i, g1, g2⟩, fun hn => a2 (fun ⟨i, _, g1, g2⟩ => hn ⟨i, g1, g2⟩)⟩
theorem ii_lp {σ : aw_m} {S : gs_S} {Z : gs_Z} (h : ec_E σ S Z) (hB : gs_B S) {m : Nat} (hm : m < 2 ^ 31) : ∀ (n k : Nat), 6 < k + n → k ≤ 6 →
    ((∃ j, k ≤ j ∧ j < 6 ∧ gs_im S (6 + j) m) → xq_M_isImported_2 σ n 63 (nI m) (nI k) = some 1) ∧ ((¬ ∃ j, k ≤ j ∧ j < 6 ∧ gs_im S (6 + j) m) → xq_M_isImported_2 σ n 63 (nI m) (nI k) = some 0) := by
  intro n
  induction n with
  | zero => intro k h1 h2; omega
  | succ n ih =>
    intro k h1 h2
    rw [xq_M_isImported_2]
    by_cases hl : k < 6
    · obtain ⟨a1, a2⟩ := ih (k + 1) (by omega) (by omega)
      rw [if_neg (show ¬ (6 : Int32) ≤ nI k from nI_ge (b := 6) hl (by omega)), mh_in h hl, b_some, nz_1, ad_nI]
      have step : ¬ gs_im S (6 + k) m → ((∃ j, k ≤ j ∧ j < 6 ∧ gs_im S (6 + j) m) → ∃ j, k + 1 ≤ j ∧ j < 6 ∧ gs_im S (6 + j) m) := by
        intro hn ⟨j, g1, g2, g3⟩
        refine ⟨j, ?_, g2, g3⟩
        rcases Nat.lt_or_ge k j with q | q
        · exact q
        · exfalso; exact hn (by rw [show k = j by omega]; exact g3)
      have back : (∃ j, k + 1 ≤ j ∧ j < 6 ∧ gs_im S (6 + j) m) → ∃ j, k ≤ j ∧ j < 6 ∧ gs_im S (6 + j) m := fun ⟨j, g1, g2, g3⟩ => ⟨j, by omega, g2, g3⟩
      by_cases hk : S 5 (6 + k) 0 = 0
      · rw [if_pos hk, if_pos rfl]
        have hni : ¬ gs_im S (6 + k) m := fun z => z.1 hk
        exact ⟨fun hx => a1 (step hni hx), fun hx => a2 (fun z => hx (back z))⟩
      · rw [if_neg hk, if_neg (by decide), if_pos (in_nI hl (by omega)), tn_nI (by omega), ← ub_l hl]
        obtain ⟨c1, c2⟩ := sc_hasImport h hB (e := 6 + k) (by omega) hm
        by_cases hi : ∃ i, i < S 6 (6 + k) 0 ∧ S 7 (6 + k) i = m
        · rw [c1 hi, b_some, if_neg (by decide)]
          exact ⟨fun _ => rfl, fun hx => absurd ⟨k, Nat.le_refl k, hl, hk, hi⟩ hx⟩
        · rw [c2 hi, b_some, if_pos rfl]
          have hni : ¬ gs_im S (6 + k) m := fun z => hi z.2
          exact ⟨fun hx => a1 (step hni hx), fun hx => a2 (fun z => hx (back z))⟩
    · rw [if_pos (show (6 : Int32) ≤ nI k from nI_le (a := 6) (by omega) (by omega))]
      exact ⟨fun ⟨j, g1, g2, _⟩ => by omega, fun _ => rfl⟩
theorem sc_isImported {σ : aw_m} {S : gs_S} {Z : gs_Z} (h : ec_E σ S Z) (hB : gs_B S) {m : Nat} (hm : m < 2 ^ 31) : (gs_us S m → xm_M_isImported σ 63 (nI m) = some 1) ∧ (¬ gs_us S m → xm_M_isImported σ 63 (nI m) = some 0) := by
  obtain ⟨a1, a2⟩ := ii_lp h hB hm 64 0 (by omega) (by omega)
  unfold xm_M_isImported
  exact ⟨fun ⟨k, g1, g2⟩ => a1 ⟨k, Nat.zero_le k, g1, g2⟩, fun hn => a2 (fun ⟨k, _, g1, g2⟩ => hn ⟨k, g1, g2⟩)⟩
theorem sc_unload {σ : aw_m} {S : gs_S} {Z : gs_Z} (h : ec_E σ S Z) (hB : gs_B S) {m : Nat} (hm : m < 6) (hk : S 5 (6 + m) 0 ≠ 0) : (gs_us S m → xm_S_unload σ (nI m) = some (-7, σ)) ∧ (¬ gs_us S m → xm_S_unload σ (nI m) = some (0, aw_p σ (ub_ (6 + m)) 0 0)) := by
  obtain ⟨a1, a2⟩ := sc_isImported h hB (m := m) (by omega)
  unfold xm_S_unload
  rw [mh_in h hm, b_some, if_neg hk, if_neg (by decide)]
  refine ⟨fun hu => ?_, fun hu => ?_⟩
  · rw [a1 hu, b_some, if_neg (by decide)]
  · rw [a2 hu, b_some, if_pos rfl, if_pos (in_nI hm (by omega)), tn_nI (by omega), ub_l hm]
    rfl
theorem sc_unload0 {σ : aw_m} {S : gs_S} {Z : gs_Z} (h : ec_E σ S Z) {x : Int32} (hx : x < 0 ∨ (∃ k, 6 ≤ k ∧ k < 2 ^ 31 ∧ x = nI k) ∨ ∃ m, m < 6 ∧ x = nI m ∧ S 5 (6 + m) 0 = 0) : xm_S_unload σ x = some (-1, σ) := by
  unfold xm_S_unload
  rcases hx with hx | ⟨k, h6, hk, rfl⟩ | ⟨m, hm, rfl, hk⟩
  · rw [mh_neg hx, b_some, if_pos rfl]
  · rw [mh_big h6 hk, b_some, if_pos rfl]
  · rw [mh_in h hm, b_some, if_pos hk, if_pos rfl]
theorem ui_lp {τ : aw_m} {S : gs_S} {Z : gs_Z} (h : er_E τ S Z) (hB : gs_B S) (hg : ∀ e, e < 12 → S 5 e 0 < 2 ^ 31) {e m : Nat} (he : e < 12) (hm : m < 2 ^ 31) (c : aw_m → Int32 → Int32 → Option (Int32 × aw_m)) : ∀ (n i : Nat), S 6 e 0 < i + n → i ≤ S 6 e 0 →
    ((S 5 e 0 ≠ 0 ∧ ∃ j, i ≤ j ∧ j < S 6 e 0 ∧ S 7 e j = m) → xq_R_unload_34 c n τ (nI m) (nI e) (nI i) = some (-7, τ)) ∧ (¬ (S 5 e 0 ≠ 0 ∧ ∃ j, i ≤ j ∧ j < S 6 e 0 ∧ S 7 e j = m) → xq_R_unload_34 c n τ (nI m) (nI e) (nI i) = c τ (nI m) (nI (e + 1))) := by
  obtain ⟨h1, h2, h3⟩ := h.2.1 e he
  obtain ⟨b1, b2, -⟩ := hB.2.1 e he
  have hge := hg e he
  intro n
  induction n with
  | zero => intro i g1 g2; omega
  | succ n ih =>
    intro i g1 g2
    rw [xq_R_unload_34, if_pos (in_nI (by omega) (by omega)), tn_nI (by omega), h2]
    by_cases hl : i < S 6 e 0
    · obtain ⟨a1, a2⟩ := ih (i + 1) (by omega) (by omega)
      have hsi := b2 i hl
      rw [if_neg (nI_ge hl (by omega)), if_pos (in_nI (by omega) (by omega)), h1, nz_1, ad_nI]
      by_cases hk : S 5 e 0 = 0
      · rw [hk, if_pos (show nI 0 ≤ (0 : Int32) from nI_le (b := 0) (Nat.le_refl 0) (by omega))]
        refine ⟨fun z => absurd rfl z.1, fun _ => a2 (fun z => z.1 hk)⟩
      · rw [if_neg (show ¬ nI (S 5 e 0) ≤ (0 : Int32) from nI_ge (a := 0) (by omega) hge), nz_5, mu_nI, ad_nI, if_pos (in_nI (by omega) (by omega)), tn_nI (by omega), (h3 i hl).1]
        by_cases hq : S 7 e i = m
        · rw [hq, if_pos rfl]
          exact ⟨fun _ => rfl, fun hn => absurd ⟨hk, i, Nat.le_refl i, hl, hq⟩ hn⟩
        · rw [if_neg (fun z => hq ((nI_eq (by omega) hm).mp z))]
          refine ⟨fun ⟨z, j, q1, q2, q3⟩ => a1 ⟨z, j, ?_, q2, q3⟩, fun hn => a2 (fun ⟨z, j, q1, q2, q3⟩ => hn ⟨z, j, by omega, q2, q3⟩)⟩
          rcases Nat.lt_or_ge i j with q | q
          · exact q
          · exfalso; exact hq (by rw [show i = j by omega]; exact q3)
    · rw [if_pos (nI_le (by omega) (by omega)), nz_1, ad_nI]
      exact ⟨fun ⟨_, j, q1, q2, _⟩ => by omega, fun _ => rfl⟩
theorem uo_lp {τ : aw_m} {S : gs_S} {Z : gs_Z} (h : er_E τ S Z) (hB : gs_B S) (hg : ∀ e, e < 12 → S 5 e 0 < 2 ^ 31) {m : Nat} (hm : m < 6) : ∀ (n k : Nat), 6 < k + n → k ≤ 6 →
    ((∃ j, k ≤ j ∧ j < 6 ∧ gs_im S (6 + j) m) → xq_R_unload_26 n τ (nI m) (nI (6 + k)) = some (-7, τ)) ∧ ((¬ ∃ j, k ≤ j ∧ j < 6 ∧ gs_im S (6 + j) m) → xq_R_unload_26 n τ (nI m) (nI (6 + k)) = some (0, aw_p τ 1 (6 + m) 0)) := by
  intro n
  induction n with
  | zero => intro k g1 g2; omega
  | succ n ih =>
    intro k g1 g2
    rw [xq_R_unload_26]
    by_cases hl : k < 6
    · obtain ⟨a1, a2⟩ := ih (k + 1) (by omega) (by omega)
      have hb := (hB.2.1 (6 + k) (by omega)).1
      rw [if_neg (show ¬ (12 : Int32) ≤ nI (6 + k) from nI_ge (b := 12) (by omega) (by omega))]
      obtain ⟨c1, c2⟩ := ui_lp h hB hg (e := 6 + k) (m := m) (by omega) (by omega) (xq_R_unload_26 n) 64 0 (by omega) (by omega)
      rw [show nI (6 + k + 1) = nI (6 + (k + 1)) from rfl] at c2
      by_cases hi : gs_im S (6 + k) m
      · obtain ⟨i1, j, i2, i3⟩ := hi
        refine ⟨fun _ => c1 ⟨i1, j, Nat.zero_le j, i2, i3⟩, fun hn => absurd ⟨k, Nat.le_refl k, hl, i1, j, i2, i3⟩ hn⟩
      · have e1 := c2 (fun ⟨z, j, _, q2, q3⟩ => hi ⟨z, j, q2, q3⟩)
        refine ⟨fun ⟨j, q1, q2, q3⟩ => e1.trans (a1 ⟨j, ?_, q2, q3⟩), fun hn => e1.trans (a2 (fun ⟨j, q1, q2, q3⟩ => hn ⟨j, by omega, q2, q3⟩))⟩
        rcases Nat.lt_or_ge k j with q | q
        · exact q
        · exfalso; exact hi (by rw [show k = j by omega]; exact q3)
    · rw [if_pos (show (12 : Int32) ≤ nI (6 + k) from nI_le (a := 12) (by omega) (by omega)), nz_6, ad_nI, if_pos (in_nI (by omega) (by omega)), tn_nI (by omega)]
      exact ⟨fun ⟨j, q1, q2, _⟩ => by omega, fun _ => rfl⟩
theorem sr_unload {τ : aw_m} {S : gs_S} {Z : gs_Z} (h : er_E τ S Z) (hB : gs_B S) (hg : ∀ e, e < 12 → S 5 e 0 < 2 ^ 31) {m : Nat} (hm : m < 6) (hk : S 5 (6 + m) 0 ≠ 0) : (gs_us S m → xm_R_unload τ (nI m) = some (-7, τ)) ∧ (¬ gs_us S m → xm_R_unload τ (nI m) = some (0, aw_p τ 1 (6 + m) 0)) := by
  obtain ⟨a1, a2⟩ := uo_lp h hB hg hm 64 0 (by omega) (by omega)
  have h1 := (h.2.1 (6 + m) (by omega)).1
  unfold xm_R_unload
  rw [nz_5, ri_in (by omega) (by omega), b_some, if_neg (by decide), nz_6, ad_nI, if_pos (in_nI (by omega) (by omega)), tn_nI (by omega), h1, if_neg (show ¬ nI (S 5 (6 + m) 0) = (0 : Int32) from nI_ne0 (by omega) (hg _ (by omega)))]
  exact ⟨fun ⟨k, g1, g2⟩ => a1 ⟨k, Nat.zero_le k, g1, g2⟩, fun hn => a2 (fun ⟨k, _, g1, g2⟩ => hn ⟨k, g1, g2⟩)⟩
theorem sr_unload0 {τ : aw_m} {S : gs_S} {Z : gs_Z} (h : er_E τ S Z) {x : Int32} (hx : x < 0 ∨ (∃ k, 6 ≤ k ∧ k < 2 ^ 31 ∧ x = nI k) ∨ ∃ m, m < 6 ∧ x = nI m ∧ S 5 (6 + m) 0 = 0) : xm_R_unload τ x = some (-1, τ) := by
  unfold xm_R_unload
  rcases hx with hx | ⟨k, h6, hk, rfl⟩ | ⟨m, hm, rfl, hk⟩
  · rw [ri_neg hx, b_some, if_pos rfl]
  · rw [nz_5, ri_big (by omega) hk, b_some, if_pos rfl]
  · have h1 := (h.2.1 (6 + m) (by omega)).1
    rw [nz_5, ri_in (by omega) (by omega), b_some, if_neg (by decide), nz_6, ad_nI, if_pos (in_nI (by omega) (by omega)), tn_nI (by omega), h1, hk, if_pos (show nI 0 = (0 : Int32) from rfl)]
