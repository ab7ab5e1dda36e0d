/-! load: class and reference alike -/
def gs_dr (S : gs_S) (B : Nat → Bool) (n : Nat) : gs_S := fun t e i => if t = 5 ∧ i = 0 ∧ 6 ≤ e ∧ e < 6 + n ∧ B (e - 6) = true then 0 else S t e i
theorem dr_0 {S : gs_S} {B : Nat → Bool} : gs_dr S B 0 = S := by
  funext t e i
  exact if_neg (by omega)
theorem dr_t {S : gs_S} {B : Nat → Bool} {n : Nat} (h : B n = true) : gs_dr S B (n + 1) = g3 (gs_dr S B n) 5 (6 + n) 0 0 := by
  funext t e i
  unfold gs_dr g3
  dsimp only
  by_cases hc : t = 5 ∧ e = 6 + n ∧ i = 0
  · obtain ⟨rfl, rfl, rfl⟩ := hc
    rw [if_pos ⟨rfl, rfl, by omega, by omega, by rw [Nat.add_sub_cancel_left]; exact h⟩, if_pos ⟨rfl, rfl, rfl⟩]
  · rw [if_neg hc]
    by_cases hd : t = 5 ∧ i = 0 ∧ 6 ≤ e ∧ e < 6 + n ∧ B (e - 6) = true
    · rw [if_pos hd, if_pos ⟨hd.1, hd.2.1, hd.2.2.1, by omega, hd.2.2.2.2⟩]
    · rw [if_neg hd, if_neg (fun z => ?_)]
      have : e ≠ 6 + n := fun w => hc ⟨z.1, w, z.2.1⟩
      exact hd ⟨z.1, z.2.1, z.2.2.1, by omega, z.2.2.2.2⟩
theorem dr_f {S : gs_S} {B : Nat → Bool} {n : Nat} (h : ¬ B n = true) : gs_dr S B (n + 1) = gs_dr S B n := by
  funext t e i
  unfold gs_dr
  by_cases hd : t = 5 ∧ i = 0 ∧ 6 ≤ e ∧ e < 6 + n ∧ B (e - 6) = true
  · rw [if_pos hd, if_pos ⟨hd.1, hd.2.1, hd.2.2.1, by omega, hd.2.2.2.2⟩]
  · rw [if_neg hd, if_neg (fun z => ?_)]
    have : e ≠ 6 + n := fun w => h (by have := z.2.2.2.2; rw [w, Nat.add_sub_cancel_left] at this; exact this)
    exact hd ⟨z.1, z.2.1, z.2.2.1, by omega, z.2.2.2.2⟩
theorem dr_n {S : gs_S} {B : Nat → Bool} {n t e i : Nat} (h : t ≠ 5 ∨ e < 6 ∨ 6 + n ≤ e) : gs_dr S B n t e i = S t e i := if_neg (by omega)
theorem dr_B {S : gs_S} (hB : gs_B S) (B : Nat → Bool) (n : Nat) : gs_B (gs_dr S B n) := by
  obtain ⟨h1, h2, h3⟩ := hB
  refine ⟨fun e he => ?_, fun e he => ?_, by rw [dr_n (by omega)]; exact h3⟩
  · obtain ⟨a1, a2, a3, a4⟩ := h1 e he
    rw [dr_n (by omega), dr_n (by omega)]
    refine ⟨a1, a2, fun p hp => ?_, fun c hc => ?_⟩
    · rw [dr_n (by omega), dr_n (by omega)]; exact a3 p hp
    · rw [dr_n (by omega)]; exact a4 c hc
  · obtain ⟨a1, a2, a3⟩ := h2 e he
    rw [dr_n (t := 6) (by omega), dr_n (t := 9) (by omega)]
    refine ⟨a1, fun i hi => ?_, ?_⟩
    · rw [dr_n (by omega)]; exact a2 i hi
    · unfold gs_dr
      split
      · omega
      · exact a3
theorem cd_lp {S : gs_S} {Z : gs_Z} {B : Nat → Bool} : ∀ r j g σ, j + r = 6 → r < g → ec_E σ (gs_dr S B j) Z → gl_bg σ B → ∃ σ2, xq_M_dropBegun_2 g σ 63 (nI j) = some σ2 ∧ ec_E σ2 (gs_dr S B 6) Z := by
  intro r
  induction r with
  | zero =>
    intro j g σ hj hg h hb
    obtain ⟨g, rfl⟩ : ∃ g', g = g' + 1 := ⟨g - 1, by omega⟩
    rw [xq_M_dropBegun_2, if_pos (show (6 : Int32) ≤ nI j from nI_le (a := 6) (by omega) (by omega))]
    rw [show j = 6 by omega] at h
    exact ⟨σ, rfl, h⟩
  | succ r ih =>
    intro j g σ hj hg h hb
    obtain ⟨g, rfl⟩ : ∃ g', g = g' + 1 := ⟨g - 1, by omega⟩
    rw [xq_M_dropBegun_2, if_neg (show ¬ (6 : Int32) ≤ nI j from nI_ge (b := 6) (by omega) (by omega)), if_pos (in_nI (by omega) (by omega)), tn_nI (by omega), show 63 + 2 = 65 from rfl, hb j (by omega), nz_1, ad_nI]
    by_cases hq : B j = true
    · rw [if_pos hq, if_neg (by decide), l_eq, if_pos (in_nI (by omega) (by omega))]
      have hd := ec_drop h (e0 := 6 + j) (by omega)
      rw [ub_l (by omega), ← dr_t hq] at hd
      exact ih (j + 1) g _ (by omega) (by omega) hd (fun k hk => by rw [aw_pk (by omega)]; exact hb k hk)
    · rw [if_neg hq, if_pos rfl]
      rw [← dr_f hq] at h
      exact ih (j + 1) g _ (by omega) (by omega) h hb
def mk_b : Nat → (Nat → Bool) → Int32
  | 0, _ => 0
  | n + 1, f => if f n = true then mk_b n f else mk_b n f ||| ((1 : Int32) <<< (nI n &&& 31))
def mk_6 (b0 b1 b2 b3 b4 b5 : Bool) : Int32 :=
  let x0 : Int32 := if b0 = true then 0 else 0 ||| ((1 : Int32) <<< (nI 0 &&& 31))
  let x1 : Int32 := if b1 = true then x0 else x0 ||| ((1 : Int32) <<< (nI 1 &&& 31))
  let x2 : Int32 := if b2 = true then x1 else x1 ||| ((1 : Int32) <<< (nI 2 &&& 31))
  let x3 : Int32 := if b3 = true then x2 else x2 ||| ((1 : Int32) <<< (nI 3 &&& 31))
  let x4 : Int32 := if b4 = true then x3 else x3 ||| ((1 : Int32) <<< (nI 4 &&& 31))
  if b5 = true then x4 else x4 ||| ((1 : Int32) <<< (nI 5 &&& 31))
theorem mk_dec : ∀ b0 b1 b2 b3 b4 b5 : Bool,
    (((mk_6 b0 b1 b2 b3 b4 b5 >>> (nI 0 &&& 31)) &&& 1 = 0) ↔ b0 = true) ∧ (((mk_6 b0 b1 b2 b3 b4 b5 >>> (nI 1 &&& 31)) &&& 1 = 0) ↔ b1 = true) ∧ (((mk_6 b0 b1 b2 b3 b4 b5 >>> (nI 2 &&& 31)) &&& 1 = 0) ↔ b2 = true) ∧
    (((mk_6 b0 b1 b2 b3 b4 b5 >>> (nI 3 &&& 31)) &&& 1 = 0) ↔ b3 = true) ∧ (((mk_6 b0 b1 b2 b3 b4 b5 >>> (nI 4 &&& 31)) &&& 1 = 0) ↔ b4 = true) ∧ (((mk_6 b0 b1 b2 b3 b4 b5 >>> (nI 5 &&& 31)) &&& 1 = 0) ↔ b5 = true) := by decide +kernel
theorem mk_iff {f : Nat → Bool} {j : Nat} (hj : j < 6) : ((mk_b 6 f >>> (nI j &&& 31)) &&& 1 = 0) ↔ f j = true := by
  have e : mk_b 6 f = mk_6 (f 0) (f 1) (f 2) (f 3) (f 4) (f 5) := rfl
  rw [e]
  obtain ⟨h0, h1, h2, h3, h4, h5⟩ := mk_dec (f 0) (f 1) (f 2) (f 3) (f 4) (f 5)
  rcases (show j = 0 ∨ j = 1 ∨ j = 2 ∨ j = 3 ∨ j = 4 ∨ j = 5 by omega) with rfl | rfl | rfl | rfl | rfl | rfl
  · exact h0
  · exact h1
  · exact h2
  · exact h3
  · exact h4
  · exact h5
theorem rd_lp {S : gs_S} {Z : gs_Z} {f : Nat → Bool} (hB : gs_B S) {C1 : aw_m → Int32 → Int32 → Int32 → Option (Int32 × aw_m)} {C2 : aw_m → Int32 → Int32 → Int32 → Int32 → Int32 → Option (Int32 × aw_m)} {v1 v3 v4 v5 : Int32} : ∀ r j g τ, j + r = 6 → r < g → er_E τ (gs_dr S f j) Z → ∃ τ2, xq_R_load_329 C1 C2 g τ v1 (mk_b 6 f) v3 v4 v5 (nI j) = some (v4, τ2) ∧ er_E τ2 (gs_dr S f 6) Z := by
  intro r
  induction r with
  | zero =>
    intro j g τ hj hg h
    obtain ⟨g, rfl⟩ : ∃ g', g = g' + 1 := ⟨g - 1, by omega⟩
    rw [xq_R_load_329, if_pos (show (6 : Int32) ≤ nI j from nI_le (a := 6) (by omega) (by omega))]
    rw [show j = 6 by omega] at h
    exact ⟨τ, rfl, h⟩
  | succ r ih =>
    intro j g τ hj hg h
    obtain ⟨g, rfl⟩ : ∃ g', g = g' + 1 := ⟨g - 1, by omega⟩
    rw [xq_R_load_329, if_neg (show ¬ (6 : Int32) ≤ nI j from nI_ge (b := 6) (by omega) (by omega))]
    by_cases hq : f j = true
    · rw [if_pos ((mk_iff (by omega)).mpr hq), nz_6, ad_nI, if_pos (in_nI (by omega) (by omega)), l_eq, tn_nI (by omega), nz_1, ad_nI]
      have hd := er_drop h (dr_B hB f j) (e0 := 6 + j)
      rw [← dr_t hq] at hd
      exact ih (j + 1) g _ (by omega) (by omega) hd
    · rw [if_neg (fun z => hq ((mk_iff (by omega)).mp z)), nz_1, ad_nI]
      rw [← dr_f hq] at h
      exact ih (j + 1) g _ (by omega) (by omega) h
theorem rl_bad {C : aw_m → Int32 → Int32 → Int32 → Option (Int32 × aw_m)} {v1 v2 v3 v4 v5 : Int32} {n : Nat} {τ : aw_m} (h : v4 ≠ 0) : xq_R_load_88 C (n + 1) τ v1 v2 v3 v4 v5 = xq_R_load_329 C (xq_R_load_88 C n) 200 τ v1 v2 v3 v4 v5 (nI 0) := by
  rw [xq_R_load_88]
  simp only [h, if_false]
  by_cases hq : v3 ≤ 0
  · rw [if_pos hq]; rfl
  · rw [if_neg hq]; rfl
section LD
variable {S0 : gs_S} {Z0 : gs_Z}
theorem dr_eq {S : gs_S} {Z : gs_Z} {B : Nat → Bool} (h : gl_J S0 Z0 S Z B) : gs_dr S (fun k => decide (S0 5 (6 + k) 0 = 0)) 6 = gs_dr S B 6 := by
  funext t e i
  unfold gs_dr
  by_cases hc : t = 5 ∧ i = 0 ∧ 6 ≤ e ∧ e < 6 + 6
  · obtain ⟨rfl, rfl, c1, c2⟩ := hc
    obtain ⟨j1, j2⟩ := h.2.2 (e - 6) (by omega)
    have he : 6 + (e - 6) = e := by omega
    by_cases hb : B (e - 6) = true
    · rw [if_pos ⟨rfl, rfl, c1, c2, decide_eq_true (j1 hb)⟩, if_pos ⟨rfl, rfl, c1, c2, hb⟩]
    · rw [if_neg (fun z => hb z.2.2.2.2) (c := 5 = 5 ∧ 0 = 0 ∧ 6 ≤ e ∧ e < 6 + 6 ∧ B (e - 6) = true)]
      rcases j2 with ⟨d1, -⟩ | ⟨d1, -⟩
      · have := d1 5 0 (by omega)
        rw [he] at this
        by_cases h0 : S0 5 (6 + (e - 6)) 0 = 0
        · rw [if_pos ⟨rfl, rfl, c1, c2, decide_eq_true h0⟩, this]; rw [he] at h0; exact h0.symm
        · rw [if_neg (fun z => h0 (of_decide_eq_true z.2.2.2.2))]
      · exact absurd d1 hb
  · rw [if_neg (fun z => hc ⟨z.1, z.2.1, z.2.2.1, z.2.2.2.1⟩), if_neg (fun z => hc ⟨z.1, z.2.1, z.2.2.1, z.2.2.2.1⟩)]
theorem br_lp {m : Nat} {v3 : Int32} : ∀ r j g σ, j + r = 6 → r < g → ec_E σ S0 Z0 → (∀ k, k < j → σ 65 k = 0) → ∃ σ1, xq_M_bring_8 g σ 63 7 (nI m) v3 (nI j) = ((xm_M_bringOne 9 σ1 63 7 (nI m) (nI 0)).bind fun q_33 => (if q_33.1 = 0 then (xm_M_held q_33.2 63).bind fun q_44 => some (q_44 - v3, q_33.2) else (xm_M_dropBegun q_33.2 63).bind fun q_51 => some (q_33.1, q_51))) ∧ ec_E σ1 S0 Z0 ∧ ∀ k, k < 6 → σ1 65 k = 0 := by
  intro r
  induction r with
  | zero =>
    intro j g σ hj hg h h0
    obtain ⟨g, rfl⟩ : ∃ g', g = g' + 1 := ⟨g - 1, by omega⟩
    refine ⟨σ, ?_, h, fun k hk => h0 k (by omega)⟩
    rw [xq_M_bring_8, if_pos (show (6 : Int32) ≤ nI j from nI_le (a := 6) (by omega) (by omega))]; rfl
  | succ r ih =>
    intro j g σ hj hg h h0
    obtain ⟨g, rfl⟩ : ∃ g', g = g' + 1 := ⟨g - 1, by omega⟩
    rw [xq_M_bring_8, if_neg (show ¬ (6 : Int32) ≤ nI j from nI_ge (b := 6) (by omega) (by omega)), if_pos (in_nI (by omega) (by omega)), tn_nI (by omega), l_eq, nz_1, ad_nI]
    refine ih (j + 1) g (aw_p σ 65 j 0) (by omega) (by omega) (ec_65 h _ _) (fun k hk => ?_)
    rw [aw_pe]
    by_cases hq : k = j
    · rw [hq, up_e]
    · rw [up_n hq]; exact h0 k (by omega)
theorem sc_load {σ : aw_m} (h : ec_E σ S0 Z0) (hB : gs_B S0) (hg : S0 9 0 0 < 2 ^ 30) (h8 : ∀ m, m < 6 → S0 5 m 0 ≠ 0 → ∀ i, i < S0 6 m 0 → S0 8 m i < 2 ^ 31) {m : Nat} (hm : m < 6) {q : gl_T} (hq : q = gl_one 6 S0 Z0 (fun _ => false) m) :
    (q.1 = 0 → ∃ σ2, xm_S_load σ (nI m) = some (nI (gs_hc q.2.1 6 6) - nI (gs_hc S0 6 6), σ2) ∧ ec_E σ2 q.2.1 q.2.2.1) ∧ (q.1 ≠ 0 → ∃ σ2, xm_S_load σ (nI m) = some (q.1, σ2) ∧ ec_E σ2 (gs_dr q.2.1 q.2.2.2 6) q.2.2.1) := by
  obtain ⟨σ1, e1, e2, e3⟩ := br_lp (m := m) (v3 := nI (gs_hc S0 6 6)) 6 0 64 σ (by omega) (by omega) h (fun k hk => absurd hk (Nat.not_lt_zero k))
  obtain ⟨σ2, f1, f2, f3⟩ := cl_one hB hg h8 6 (by omega) 9 (by omega) σ1 S0 Z0 (fun _ => false) m hm (J_0 (fun _ _ => rfl)) e2 (fun k hk => by rw [e3 k hk]; rfl)
  rw [← hq] at f1 f2 f3
  have f1 : xm_M_bringOne 9 σ1 63 7 (nI m) (nI 0) = some (q.1, σ2) := f1
  have eS : xm_S_load σ (nI m) = (xq_M_bring_8 64 σ 63 7 (nI m) (nI (gs_hc S0 6 6)) (nI 0)).bind fun q_18 => some (q_18.1, q_18.2) := by
    unfold xm_S_load xm_S_isModule xm_M_bring
    rw [if_neg (nI_pos (by omega)), if_neg (show ¬ (6 : Int32) ≤ nI m from nI_ge (b := 6) hm (by omega)), b_some, if_neg (by decide), sc_Mheld h, b_some]; rfl
  rw [eS, e1, f1, b_some]
  dsimp only
  refine ⟨fun hz => ?_, fun hz => ?_⟩
  · rw [if_pos hz, sc_Mheld f2, b_some, b_some]
    exact ⟨σ2, rfl, f2⟩
  · obtain ⟨σ3, g1, g2⟩ := cd_lp (S := q.2.1) (Z := q.2.2.1) 6 0 64 σ2 (by omega) (by omega) (by rw [dr_0]; exact f2) f3
    have g1 : xm_M_dropBegun σ2 63 = some σ3 := g1
    rw [if_neg hz, g1, b_some, b_some]
    exact ⟨σ3, rfl, g2⟩
theorem r15_lp {τ : aw_m} (h : er_E τ S0 Z0) (hg : ∀ e, e < 12 → S0 5 e 0 < 2 ^ 31) {m : Nat} (hm : m < 6) {f : Nat → Bool} (hf : f = fun k => decide (S0 5 (6 + k) 0 = 0)) : ∀ r j g, j + r = 6 → r < g → ∃ g', xq_R_load_15 g τ (nI m) (mk_b j f) (nI j) = (if S0 5 (6 + m) 0 = 0 then (xm_R_begins τ (nI m) (nI 0)).bind fun q_64 => xq_R_load_88 (xq_R_load_15 g') 200 (aw_p (aw_p τ 13 0 (nI m)) 14 0 0) (nI m) (mk_b 6 f) (nI 1) q_64 (nI 0) else some (0, τ)) := by
  intro r
  induction r with
  | zero =>
    intro j g hj hgl
    obtain ⟨g, rfl⟩ : ∃ g', g = g' + 1 := ⟨g - 1, by omega⟩
    refine ⟨g, ?_⟩
    have hk := (h.2.1 (6 + m) (by omega)).1
    have hgm := hg (6 + m) (by omega)
    rw [xq_R_load_15, if_pos (show (6 : Int32) ≤ nI j from nI_le (a := 6) (by omega) (by omega)), nz_6, ad_nI, if_pos (in_nI (by omega) (by omega)), tn_nI (by omega), hk, show j = 6 by omega]
    by_cases h0 : S0 5 (6 + m) 0 = 0
    · rw [h0, if_pos (show nI 0 ≤ (0 : Int32) by decide), if_pos rfl]
      simp (disch := omega) only [l_eq, nz_0, nz_1, tn_nI]
    · rw [if_neg (show ¬ nI (S0 5 (6 + m) 0) ≤ (0 : Int32) from nI_ge (a := 0) (by omega) hgm), if_neg h0]
  | succ r ih =>
    intro j g hj hgl
    obtain ⟨g, rfl⟩ : ∃ g', g = g' + 1 := ⟨g - 1, by omega⟩
    have hk := (h.2.1 (6 + j) (by omega)).1
    have hgm := hg (6 + j) (by omega)
    obtain ⟨g', e⟩ := ih (j + 1) g (by omega) (by omega)
    refine ⟨g', ?_⟩
    rw [← e, xq_R_load_15, if_neg (show ¬ (6 : Int32) ≤ nI j from nI_ge (b := 6) (by omega) (by omega)), nz_6, ad_nI, if_pos (in_nI (by omega) (by omega)), tn_nI (by omega), hk, mk_b, nz_1, ad_nI]
    by_cases h0 : S0 5 (6 + j) 0 = 0
    · have hfj : f j = true := by rw [hf]; exact decide_eq_true h0
      rw [h0, if_pos (show nI 0 ≤ (0 : Int32) by decide), if_pos hfj]
    · have hfj : ¬ f j = true := by rw [hf]; exact fun z => h0 (of_decide_eq_true z)
      rw [if_neg (show ¬ nI (S0 5 (6 + j) 0) ≤ (0 : Int32) from nI_ge (a := 0) (by omega) hgm), if_neg hfj]
theorem sr_load {τ : aw_m} (h : er_E τ S0 Z0) (hB : gs_B S0) (hg : S0 9 0 0 < 2 ^ 30) (h8 : ∀ m, m < 6 → S0 5 m 0 ≠ 0 → ∀ i, i < S0 6 m 0 → S0 8 m i < 2 ^ 31) {m : Nat} (hm : m < 6) {q : gl_T} (hq : q = gl_one 6 S0 Z0 (fun _ => false) m) :
    (q.1 = 0 → ∃ τ2 c, xm_R_load τ (nI m) = some (nI c, τ2) ∧ er_E τ2 q.2.1 q.2.2.1 ∧ c + gs_hc S0 6 6 = gs_hc q.2.1 6 6) ∧ (q.1 ≠ 0 → ∃ τ2, xm_R_load τ (nI m) = some (q.1, τ2) ∧ er_E τ2 (gs_dr q.2.1 q.2.2.2 6) q.2.2.1) := by
  have hgk : ∀ e, e < 12 → S0 5 e 0 < 2 ^ 31 := fun e he => by have := (hB.2.1 e he).2.2; omega
  obtain ⟨f, hf⟩ : ∃ f : Nat → Bool, f = fun k => decide (S0 5 (6 + k) 0 = 0) := ⟨_, rfl⟩
  obtain ⟨g', e1⟩ := r15_lp h hgk hm hf 6 0 200 (by omega) (by omega)
  have eR : xm_R_load τ (nI m) = xq_R_load_15 200 τ (nI m) (mk_b 0 f) (nI 0) := by
    unfold xm_R_load
    rw [nz_5, ri_in (by omega) (by omega), b_some, if_neg (by decide)]; rfl
  have hJ0 : gl_J S0 Z0 S0 Z0 (fun _ => false) := J_0 (fun _ _ => rfl)
  obtain ⟨⟨hJq, -, -⟩, -⟩ := one_P hB 6 S0 Z0 (fun _ => false) m hm hJ0
  rw [← hq] at hJq
  have bad : q.1 ≠ 0 → ∀ n τ' v3 v5, er_E τ' q.2.1 q.2.2.1 → ∃ τ2, xq_R_load_88 (xq_R_load_15 g') (n + 1) τ' (nI m) (mk_b 6 f) v3 q.1 v5 = some (q.1, τ2) ∧ er_E τ2 (gs_dr q.2.1 q.2.2.2 6) q.2.2.1 := by
    intro hz n τ' v3 v5 he
    rw [rl_bad hz, ← dr_eq hJq, ← hf]
    exact rd_lp (J_B hB hJq) 6 0 200 τ' (by omega) (by omega) (by rw [dr_0]; exact he)
  rw [eR, e1]
  rw [gl_one] at hq
  by_cases h0 : S0 5 (6 + m) 0 = 0
  · rw [if_pos h0]
    rw [if_pos h0, if_neg (by decide)] at hq
    have hb : xm_R_begins τ (nI m) (nI 0) = some (if S0 5 m 0 = 0 then -4 else 0) := rb_lp (x := (0, fun _ => 0)) h hgk hm (by show 0 ≤ 7; omega) (fun j hj => absurd hj (Nat.not_lt_zero j)) (fun j hj => absurd hj (Nat.not_lt_zero j)) 0 0 64 rfl (by omega) (fun a ha => absurd ha (Nat.not_lt_zero a))
    rw [hb, b_some]
    have hE : er_E (aw_p (aw_p τ 13 0 (nI m)) 14 0 0) S0 Z0 := er_p (er_p h (by omega) _ _) (by omega) _ _
    by_cases hk : S0 5 m 0 = 0
    · rw [if_pos hk] at hq ⊢
      have q1 : q.1 = -4 := by rw [hq]
      refine ⟨fun z => absurd (q1.symm.trans z) (by decide), fun hz => ?_⟩
      rw [← q1]
      exact bad hz 199 _ _ _ (by rw [hq]; exact hE)
    · rw [if_neg hk] at hq ⊢
      have hok : gi_ok S0 99 ((1, fun _ => m) : gi_T) := by
        refine ⟨fun j _ => ⟨hm, by show m ≠ 99; omega, hk⟩, ?_⟩
        show gi_sum (fun _ => m) 1 = 1
        rcases (show m = 0 ∨ m = 1 ∨ m = 2 ∨ m = 3 ∨ m = 4 ∨ m = 5 by omega) with rfl | rfl | rfl | rfl | rfl | rfl <;> rfl
      have hb6 := (hB.2.1 m (by omega)).1
      have hgn := gn_le (gl_B (fun _ => false) m)
      obtain ⟨p1, p2⟩ := rl_r hB hg h8 (C := xq_R_load_15 g') (v1 := nI m) (v2 := mk_b 6 f) (d := 5) (K := 0) (by omega) (x := ((1, fun _ => m) : gi_T)) rfl hok rfl (rl_d hB hg h8 5 0 (by omega) _ rfl hok) (S0 6 m 0) 0 200 0 (aw_p (aw_p τ 13 0 (nI m)) 14 0 0) S0 Z0 (gl_B (fun _ => false) m) (by show 0 + S0 6 m 0 = S0 6 m 0; omega) (J_lB hJ0 h0 (by decide)) lB_e h0 (fun k hk => by
        show (gi_mem (fun _ => m) k 1 = true) ↔ _
        rw [gi_mem, gi_mem, Bool.false_or, decide_eq_true_eq]
        by_cases hq : k = m
        · subst hq; rw [lB_e]; exact ⟨fun _ => ⟨rfl, h0⟩, fun _ => rfl⟩
        · rw [lB_n hq]; exact ⟨fun z => absurd z.symm hq, fun z => (by cases z.1)⟩) hE (fun j hj => by
        rw [aw_pk (by omega), aw_pe, show j = 0 by omega, up_e]) (by rw [aw_pe, up_e]; rfl) (by omega)
      dsimp only at p1 p2
      rw [← hq] at p1 p2
      refine ⟨fun hz => ?_, fun hz => ?_⟩
      · obtain ⟨n', c', τ', y1, y2, y3, -, y5, -⟩ := p1 hz
        have hgq := gn_le q.2.2.2
        obtain ⟨n', rfl⟩ : ∃ k, n' = k + 1 := ⟨n' - 1, by omega⟩
        refine ⟨τ', c', y1.trans ?_, y3, by omega⟩
        rw [xq_R_load_88, if_pos (show nI 0 ≤ (0 : Int32) by decide), if_pos rfl]
      · obtain ⟨n', K', c', τ', y1, y2⟩ := p2 hz
        obtain ⟨τ2, y3, y4⟩ := bad hz n' τ' (nI K') c' y2
        exact ⟨τ2, y1.trans y3, y4⟩
  · rw [if_neg h0]
    rw [if_neg h0] at hq
    have q1 : q.1 = 0 := by rw [hq]
    refine ⟨fun _ => ⟨τ, 0, rfl, by rw [hq]; exact h, by rw [hq]; show 0 + gs_hc S0 6 6 = gs_hc S0 6 6; omega⟩, fun z => absurd q1 z⟩
theorem ld_all {σ τ : aw_m} (h : ec_E σ S0 Z0) (hr : er_E τ S0 Z0) (hB : gs_B S0) (hg : S0 9 0 0 < 2 ^ 30) (h8 : ∀ m, m < 6 → S0 5 m 0 ≠ 0 → ∀ i, i < S0 6 m 0 → S0 8 m i < 2 ^ 31) {m : Nat} (hm : m < 6) :
    ∃ r σ2 τ2 S1 S2 Z2 B, xm_S_load σ (nI m) = some (r, σ2) ∧ xm_R_load τ (nI m) = some (r, τ2) ∧ ec_E σ2 S2 Z2 ∧ er_E τ2 S2 Z2 ∧ gl_J S0 Z0 S1 Z2 B ∧ (S2 = S1 ∨ S2 = gs_dr S1 B 6) := by
  obtain ⟨q, hq⟩ : ∃ q, q = gl_one 6 S0 Z0 (fun _ => false) m := ⟨_, rfl⟩
  obtain ⟨a1, a2⟩ := sc_load h hB hg h8 hm hq
  obtain ⟨b1, b2⟩ := sr_load hr hB hg h8 hm hq
  obtain ⟨⟨hJq, -, -⟩, -⟩ := one_P hB 6 S0 Z0 (fun _ => false) m hm (J_0 (fun _ _ => rfl))
  rw [← hq] at hJq
  by_cases hz : q.1 = 0
  · obtain ⟨σ2, c1, c2⟩ := a1 hz
    obtain ⟨τ2, c, d1, d2, d3⟩ := b1 hz
    rw [su_nI (by omega), show gs_hc q.2.1 6 6 - gs_hc S0 6 6 = c by omega] at c1
    exact ⟨nI c, σ2, τ2, q.2.1, q.2.1, q.2.2.1, q.2.2.2, c1, d1, c2, d2, hJq, Or.inl rfl⟩
  · obtain ⟨σ2, c1, c2⟩ := a2 hz
    obtain ⟨τ2, d1, d2⟩ := b2 hz
    exact ⟨q.1, σ2, τ2, q.2.1, _, q.2.2.1, q.2.2.2, c1, d1, c2, d2, hJq, Or.inr rfl⟩
theorem ld_neg {σ τ : aw_m} {x : Int32} (hx : x < 0 ∨ ∃ k, 6 ≤ k ∧ k < 2 ^ 31 ∧ x = nI k) : xm_S_load σ x = some (-1, σ) ∧ xm_R_load τ x = some (-1, τ) := by
  unfold xm_S_load xm_R_load xm_S_isModule
  rcases hx with hx | ⟨k, h6, hk, rfl⟩
  · rw [if_pos hx, b_some, if_pos rfl, ri_neg hx, b_some, if_pos rfl]; exact ⟨rfl, rfl⟩
  · rw [if_neg (nI_pos hk), if_pos (show (6 : Int32) ≤ nI k from nI_le (a := 6) h6 hk), b_some, if_pos rfl, nz_5, ri_big (by omega) hk, b_some, if_pos rfl]; exact ⟨rfl, rfl⟩
end LD
