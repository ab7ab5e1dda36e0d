/-! run: from the call to the answer -/
theorem ec_res {σ : aw_m} {S : gs_S} {Z : gs_Z} (h : ec_E σ S Z) (v : Int32) : ec_E (aw_p σ 0 5 v) S (g3 Z 4 0 0 v) := by
  obtain ⟨h1, h2, h3, h4, h5, h6, h7⟩ := h
  refine ⟨fun e he => ?_, fun e he => ?_, fun m hm w hw => ?_, ?_, ?_, ?_, ?_⟩
  · have hc := cb_r he
    exact ec_kC (h1 e he) (fun j hj => aw_pk (by omega)) (fun _ _ _ => rfl) (fun t i _ => g3_n (by omega))
  · have hv := ub_r he
    exact ec_kU (h2 e he) (fun j hj => aw_pk (by omega)) (fun _ _ _ _ => rfl)
  · rw [aw_pk (by omega), g3_n (by omega)]; exact h3 m hm w hw
  · rw [aw_pk (by omega)]; exact h4
  · rw [aw_pe, up_n (by omega), g3_n (by omega)]; exact h5
  · rw [aw_pe, up_e, g3_e]
  · rw [aw_pk (by omega)]; exact h7
theorem er_res {τ : aw_m} {S : gs_S} {Z : gs_Z} (h : er_E τ S Z) (hB : gs_B S) (v : Int32) : er_E (aw_p τ 0 14 v) S (g3 Z 4 0 0 v) := by
  obtain ⟨h1, h2, h3, h4, h5, h6, h7⟩ := h
  refine ⟨fun e he => ?_, fun e he => ?_, fun m hm w hw => ?_, ?_, ?_, ?_, ?_⟩
  · exact er_kC (h1 e he) (by rw [aw_pk (by omega)]) (by rw [aw_pk (by omega)]) (fun p _ => by rw [aw_pk (by omega), aw_pk (by omega)]; exact ⟨rfl, rfl⟩) (fun c _ => by rw [aw_pk (by omega), aw_pk (by omega), aw_pk (by omega)]; exact ⟨rfl, rfl, rfl⟩) (fun _ _ _ => rfl) (fun t i _ => g3_n (by omega))
  · exact er_kU (h2 e he) (by rw [aw_pk (by omega)]) (by rw [aw_pk (by omega)]) (fun i _ => by rw [aw_pk (by omega), aw_pk (by omega)]; exact ⟨rfl, rfl⟩) (hB.2.1 e he).1 (fun _ _ _ _ => rfl)
  · rw [aw_pk (by omega), g3_n (by omega)]; exact h3 m hm w hw
  · rw [aw_pe, up_n (by omega)]; exact h4
  · rw [aw_pe, up_n (by omega), g3_n (by omega)]; exact h5
  · rw [aw_pe, up_e, g3_e]
  · rw [aw_pe, up_n (by omega)]; exact h7
def ru_0 (S : gs_S) (x y : Int32) : Prop := x < 0 ∨ (∃ k, 6 ≤ k ∧ k < 2 ^ 31 ∧ x = nI k) ∨ ∃ m, m < 6 ∧ x = nI m ∧ (S 5 (6 + m) 0 = 0 ∨ gs_lt y (S 1 (6 + m) 0) = false)
theorem sc_run0 {σ : aw_m} {S : gs_S} {Z : gs_Z} (h : ec_E σ S Z) (hB : gs_B S) {x y u v : Int32} (hx : ru_0 S x y) : xm_S_run σ x y u v = some (-1, σ) := by
  have e : xm_M_argumentsOf σ 63 x y = some (-1) := by
    unfold xm_M_argumentsOf
    rcases hx with hx | ⟨k, h6, hk, rfl⟩ | ⟨m, hm, rfl, hq⟩
    · rw [mh_neg hx, b_some, if_pos rfl]
    · rw [mh_big h6 hk, b_some, if_pos rfl]
    · rw [mh_in h hm, b_some]
      by_cases h0 : S 5 (6 + m) 0 = 0
      · rw [if_pos h0, if_pos rfl]
      · have hq : gs_lt y (S 1 (6 + m) 0) = false := hq.resolve_left h0
        rw [if_neg h0, if_neg (by decide), if_pos (in_nI hm (by omega)), tn_nI (by omega), ← cb_l hm, ag_b h hB (by omega), b_some, hq, if_neg (by decide)]
  unfold xm_S_run
  rw [e, b_some, if_pos rfl]
theorem sr_run0 {τ : aw_m} {S : gs_S} {Z : gs_Z} (h : er_E τ S Z) (hB : gs_B S) (hg : ∀ e, e < 12 → S 5 e 0 < 2 ^ 31) {x y u v : Int32} (hx : ru_0 S x y) : xm_R_run τ x y u v = some (-1, τ) := by
  unfold xm_R_run
  rcases hx with hx | ⟨k, h6, hk, rfl⟩ | ⟨m, hm, rfl, hq⟩
  · rw [ri_neg hx, b_some, if_pos rfl]
  · rw [nz_5, ri_big (by omega) hk, b_some, if_pos rfl]
  · have hk : τ 1 (6 + m) = nI (S 5 (6 + m) 0) := (h.2.1 (6 + m) (by omega)).1
    have hp : τ 3 (6 + m) = nI (S 1 (6 + m) 0) := (h.1 (6 + m) (by omega)).2.1
    have b1 := (hB.1 (6 + m) (by omega)).2.1
    rw [nz_5, ri_in (by omega) (by omega), b_some, if_neg (by decide), nz_6, ad_nI, if_pos (in_nI (by omega) (by omega)), tn_nI (by omega), hk]
    by_cases h0 : S 5 (6 + m) 0 = 0
    · rw [h0, if_pos (show nI 0 = (0 : Int32) from rfl)]
    · have hq : gs_lt y (S 1 (6 + m) 0) = false := hq.resolve_left h0
      rw [if_neg (show ¬ nI (S 5 (6 + m) 0) = (0 : Int32) by rw [el_0 (hg _ (by omega))]; exact h0), if_pos (in_nI (by omega) (by omega)), hp, ri_b y (by omega), b_some, hq, if_neg (show ¬ false = true by decide), if_pos rfl]
theorem ru_main {σ τ : aw_m} {S : gs_S} {Z : gs_Z} {N : Nat → Nat → Nat → Nat} (h : ec_E σ S Z) (hr : er_E τ S Z) (hB : gs_B S) (hg : ∀ e, e < 12 → S 5 e 0 < 2 ^ 31) (hW : rx_W S Z N) {m p : Nat} (hm : m < 6) (hl : S 5 (6 + m) 0 ≠ 0) (hp : p < S 1 (6 + m) 0) (x y : Int32) :
    ∃ r σ2 τ2 st2 Z2, xm_S_run σ (nI m) (nI p) x y = some (r, σ2) ∧ xm_R_run τ (nI m) (nI p) x y = some (r, τ2) ∧ st2 ≤ 120 ∧ ec_E σ2 (rS S st2) Z2 ∧ er_E τ2 (rS S st2) Z2 ∧ ∀ t e i, t ≤ 1 → Z2 t e i = Z t e i := by
  have b1 := (hB.1 (6 + m) (by omega)).2.1
  have hz : ∀ V t e i, t ≤ 1 → rZ Z V t e i = Z t e i := fun V t e i ht => if_neg (by omega)
  have h' : ec_E σ (rS S (S 10 0 0)) (rZ Z (Z 2)) := h
  have hr' : er_E τ (rS S (S 10 0 0)) (rZ Z (Z 2)) := hr
  obtain ⟨s2, hs2⟩ : ∃ s2, s2 = aw_p (aw_p (aw_p (aw_p (aw_p (aw_p (aw_p σ 132 1 0) 132 2 0) 134 0 (nI m)) 134 1 (nI p)) 134 2 x) 134 3 y) 134 4 0 := ⟨_, rfl⟩
  have hlo : ∀ k, k < 132 → s2 k = σ k := fun k hk => by rw [hs2]; simp (disch := omega) only [aw_pk]
  have hE : ec_E s2 (rS S 0) (rZ Z (Z 2)) := ec_dyn h' (fun k hk _ => hlo k hk) (fun a ha v hv => by rw [hlo _ (by omega)]; exact h.2.2.1 a ha v hv) (by rw [hs2]; simp (disch := omega) only [aw_pk, aw_pe, up_n, up_e]; rfl)
  have hf : s2 132 2 = 0 := by rw [hs2]; simp (disch := omega) only [aw_pk, aw_pe, up_e]
  have hfr : fr_ s2 0 m p x y 0 := by
    rw [hs2]
    refine ⟨?_, ?_, ?_, ?_, ?_⟩
    · simp (disch := omega) only [aw_pe, up_n]; exact up_e
    · simp (disch := omega) only [aw_pe, up_n]; exact up_e
    · simp (disch := omega) only [aw_pe, up_n]; exact up_e
    · simp (disch := omega) only [aw_pe, up_n]; exact up_e
    · rw [aw_pe, up_e]; rfl
  obtain ⟨t0, ht0⟩ : ∃ t0, t0 = aw_p (aw_p (aw_p τ 0 22 0) 0 24 0) 0 15 0 := ⟨_, rfl⟩
  have R0 : RT t0 S Z 0 (Z 2) 0 0 := by
    rw [ht0]
    refine ⟨er_dyn hB hr' (fun k h1 h2 => ?_) (fun a ha v hv => ?_) (fun i h1 h2 => ?_) ?_, ?_, ?_⟩
    · simp (disch := omega) only [aw_pk]
    · simp (disch := omega) only [aw_pk]; exact hr.2.2.1 a ha v hv
    · simp (disch := omega) only [aw_pe, up_n]
    · rw [aw_pe, up_e]; rfl
    · simp (disch := omega) only [aw_pe, up_n]; exact up_e
    · simp (disch := omega) only [aw_pe, up_n]; exact up_e
  obtain ⟨t1, q1, q2, q3, q4, -⟩ := rt_enter hB R0 (by omega) (f := 0) (m := m) (p := p) (by omega) x y
  have rq := rw_main (a1 := nI m) (a2 := nI p) (a3 := x) (a4 := y) hB hW 30 40 (by omega) 0 5 m p x y 0 (S 3 (6 + m) p) 0 0 1000 0 (Z 2) s2 t1 (by omega) (by omega) (by omega) hm hl hp (hW m hm hl p hp).1 (by omega) (by omega) (by omega) (by omega) ⟨hE, hf, hfr, q2, q3, q4⟩
  have eR : xm_R_run τ (nI m) (nI p) x y = xq_R_run_70 1000 t1 (nI m) (nI p) x y 0 := by
    have hk : τ 1 (6 + m) = nI (S 5 (6 + m) 0) := (hr.2.1 (6 + m) (by omega)).1
    have hpp : τ 3 (6 + m) = nI (S 1 (6 + m) 0) := (hr.1 (6 + m) (by omega)).2.1
    have q1 : xm_R_enter t0 0 (nI m) (nI p) x y = some t1 := q1
    unfold xm_R_run
    rw [nz_5, ri_in (by omega) (by omega), b_some, if_neg (by decide), nz_6, ad_nI, if_pos (in_nI (by omega) (by omega)), tn_nI (by omega), hk, if_neg (show ¬ nI (S 5 (6 + m) 0) = (0 : Int32) by rw [el_0 (hg _ (by omega))]; exact hl), if_pos (in_nI (by omega) (by omega)), hpp, ri_b _ (by omega), b_some, lt_nn (by omega), decide_eq_true hp, if_pos rfl, if_neg (by decide), l_eq, l_eq, l_eq, ← ht0, q1, b_some]
  have eS : xm_S_run σ (nI m) (nI p) x y = (xm_N_work 40 s2 132 63 (nI 0) (nI (5 - 5))).bind fun q_28 => (if q_28.2 132 2 = 0 then aw_l (aw_p q_28.2 0 5 q_28.1) fun s_54 => some ((0 : Int32), s_54) else some (q_28.2 132 2, q_28.2)) := by
    have ea := sc_Margs1 hB h' (hB.2.2) hm hl hp
    have b2 := ((hB.1 (6 + m) (by omega)).2.2.1 p (by omega)).1
    unfold xm_S_run xm_N_start xm_F_open
    rw [ea, b_some, if_neg (nI_ne1 (by omega)), l_eq, l_eq, l_eq, l_eq, l_eq, l_eq, l_eq, b_some]
    rw [show 132 + 1 + 1 + Int32.toNatClampNeg (0 : Int32) = 134 from rfl, ← hs2]
    show ((xm_N_work 40 s2 132 63 0 0).bind fun q_29 => some (q_29.1, q_29.2)).bind _ = (xm_N_work 40 s2 132 63 0 0).bind _
    cases xm_N_work 40 s2 132 63 0 0 with
    | none => rfl
    | some q => rfl
  rw [eR, eS]
  obtain ⟨v, σ2, st2, V2, w1, w2, w3, -, w5⟩ := rq
  rw [w1, b_some]
  dsimp only
  rcases w5 with ⟨f1, -, n2, τ2, x1, R1, v1, -, k1⟩ | ⟨f1, -, τ2, x1, E1⟩
  · obtain ⟨n2, rfl⟩ : ∃ n', n2 = n' + 1 := ⟨n2 - 1, by omega⟩
    rw [if_pos f1, l_eq, x1, xq_R_run_70, R1.2.1, if_pos (show nI 0 ≤ (0 : Int32) by decide), if_pos rfl, l_eq, show Int32.toNatClampNeg (0 : Int32) = 0 from rfl, v1]
    exact ⟨0, _, _, st2, g3 (rZ Z V2) 4 0 0 v, rfl, rfl, w2, ec_res w3 v, er_res R1.1 (rS_B hB w2) v, fun t e i ht => by rw [g3_n (by omega)]; exact hz V2 t e i ht⟩
  · rw [if_neg f1, x1]
    exact ⟨_, σ2, τ2, st2, rZ Z V2, rfl, rfl, w2, w3, E1, hz V2⟩
