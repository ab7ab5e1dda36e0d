/-! run: IF, CALL, and all together -/
section RV
variable {S : gs_S} {Z : gs_Z} {N : Nat → Nat → Nat → Nat} {a1 a2 a3 a4 x y : Int32} {W : cw_W} {M l d m p i j b h n st : Nat} {V : Nat → Nat → Int32} {s τ : aw_m}
/-- IF -/
theorem rw_9 (hB : gs_B S) (hW : ∀ q, q < S 3 (6 + m) p → rx_tk S Z m (14 * p + q) (N m p q)) (IH : rw_H S Z N a1 a2 a3 a4 W M) (hWf : cw_f W) (hl : l < 6) (hd : d + 1 ≤ 5) (hM : 5 * (5 - l) + (d + 1) ≤ M + 1) (hm : m < 6) (hld : S 5 (6 + m) 0 ≠ 0) (hp : p < S 1 (6 + m) 0) (hi : i < S 3 (6 + m) p) (hst : st < 120) (hn : 243 ≤ n + 1 + 2 * st) (hb : b + 3 * (5 * (5 - l) + (d + 1)) ≤ 120) (hh : h + 3 * (5 * (5 - l) + (d + 1)) ≤ 120)
    (hs : ec_E s (rS S (st + 1)) (rZ Z V)) (hsf : s 132 2 = 0) (hfr : fr_ s l m p x y (i + 1)) (r : RT τ S Z st V b h) (hfx : τ 20 l = nI m ∧ τ 22 l = x ∧ τ 23 l = y)
    (ho : S 4 (6 + m) (14 * p + i) = 9) {j1 j2 : Nat} (hw1 : pw_ (N m p) (S 3 (6 + m) p) d (i + 1) j1) (hw2 : pw_ (N m p) (S 3 (6 + m) p) d j1 j2) (hw : pw_ (N m p) (S 3 (6 + m) p) d j2 j) :
    rw_Q S Z a1 a2 a3 a4 s τ l (S 3 (6 + m) p) j b h (n + 1 + 2 * st) ((xm_R_begin2 τ (nI (42 * (6 + m) + (14 * p + i))) (nI l)).bind fun q => xq_R_run_70 n q a1 a2 a3 a4 0) (xm_N_choose W s 132 63 (nI l) (nI (5 - (d + 1)))) := by
  have hbd := hB.1 (6 + m) (by omega)
  have hL := (hbd.2.2.1 p (by omega)).2
  have hj2 := pw_le _ _ _ hw2
  obtain ⟨τ2, g1, g2, g3, g5, g6⟩ := b2_9 (l := l) hB r (by omega) hm (c := 14 * p + i) (by omega) ho
  obtain ⟨t1, t2, t3⟩ := g5
  rw [show 42 * (6 + m) + (14 * p + i) + 1 = 42 * (6 + m) + 14 * p + (i + 1) by omega] at t2
  obtain ⟨y1, y2, y3⟩ := g6.2.2 l (by omega)
  have sub := IH l d m p x y (i + 1) j1 (b + 1) h n (st + 1) V s τ2 hl (by omega) (by omega) hm hld hp hw1 (by omega) (by omega) (by omega) (by omega) ⟨hs, hsf, hfr, g2, ⟨t1, t2, t3⟩, y1.trans hfx.1, y2.trans hfx.2.1, y3.trans hfx.2.2⟩
  rw [g1, b_some]
  unfold xm_N_choose
  rw [ar_p hd, tn_nI (by omega), show 132 + 1 + 1 + l = 134 + l by omega]
  simp only [in_nI hl (show (6 : Nat) < 2 ^ 31 by omega), if_true]
  obtain ⟨v1, σ1, st1, V1, e1, c1, hE1, hF1, q⟩ := sub
  rw [e1, b_some]
  dsimp only
  rcases q with ⟨f1, p1, n1, τ3, x1, R1, w1, k1, q1⟩ | ⟨f1, ⟨a, ha, p1⟩, τ3, x1, E1⟩
  · have hfr1 := fr_post hfr hF1 p1
    obtain ⟨n1, rfl⟩ : ∃ n', n1 = n' + 1 := ⟨n1 - 1, by omega⟩
    obtain ⟨u1, u2, u3⟩ := k1.1 b (by omega)
    obtain ⟨fx1, fx2, fx3⟩ := k1.2.2 l (by omega)
    obtain ⟨R2, K2⟩ := rt_pop hB R1
    obtain ⟨τ4, z1, z2, z4⟩ := rt_take hB R2 (by omega)
    rw [K2.2.1 h (by omega), w1] at z1
    have K3 : rk_ τ3 τ4 300 300 300 := rk_t K2 z4 (by omega) (by omega) (by omega)
    have en1 := sr_end hB R2.1 hm (by omega) hL hW (d := d) (by omega) hw1
    have en2 := sr_end hB z2.1 hm (by omega) hL hW (d := d) (by omega) hw2
    have kk : rk_ τ τ4 b h (l + 1) := rk_t (rk_t (rk_w g6 (b := b) (h := h) (l := l + 1) (by omega) (by omega) (by omega)) k1 (by omega) (by omega) (by omega)) K3 (by omega) (by omega) (by omega)
    have st3 : xq_R_run_70 (n1 + 1) τ3 a1 a2 a3 a4 0 = (if v1 = 0 then (xm_R_push τ4 0 (nI (42 * (6 + m) + 14 * p + j2)) (nI l)).bind fun q_232 => xq_R_run_70 n1 q_232 a1 a2 a3 a4 0 else (xm_R_push τ4 0 (nI (42 * (6 + m) + 14 * p + j1)) (nI l)).bind fun q_232 => xq_R_run_70 n1 q_232 a1 a2 a3 a4 0) := by
      rw [rr_3 R1 (by omega) (u1.trans g3.1), u2, u3, g3.2.1, g3.2.2, nz_1, ad_nI, show 42 * (6 + m) + (14 * p + i) + 1 = 42 * (6 + m) + 14 * p + (i + 1) by omega, en1, b_some, z1, b_some]
      dsimp only
      rw [en2, b_some]
    rw [x1, st3]
    by_cases hv : v1 = 0
    · rw [if_pos hv, if_pos hv]
      obtain ⟨τ5, o1, o2, o3, o4⟩ := rt_push hB z2 (by omega) 0 (nI (42 * (6 + m) + 14 * p + j2)) (nI l)
      rw [o1, b_some, sc_skip hB c1 hm hp hW (d := d) (by omega) hw2 hE1 hfr1, b_some]
      obtain ⟨m4, m5, m6⟩ := (rk_t (rk_w K3 (b := b) (h := 300) (l := 300) (by omega) (by omega) (by omega)) o4 (by omega) (by omega) (by omega) : rk_ τ3 τ5 b 300 300).2.2 l (by omega)
      have sub2 := IH l d m p x y j2 j b h n1 st1 V1 (aw_p σ1 (134 + l) 4 (nI j2)) τ5 hl (by omega) (by omega) hm hld hp hw c1 (by omega) (by omega) (by omega) ⟨ec_fr hE1, by rw [aw_pk (by omega)]; exact f1, fr_at hfr1, o2, o3, m4.trans (fx1.trans (y1.trans hfx.1)), m5.trans (fx2.trans (y2.trans hfx.2.1)), m6.trans (fx3.trans (y3.trans hfx.2.2))⟩
      have := rq_pre sub2 (rf_t hF1 rf_at) (rk_t kk o4 (by omega) (by omega) (by omega))
      obtain ⟨w2, σ2, st2, V2, e2, c2, hE2, hF2, q⟩ := this
      rw [e2, b_some]
      refine ⟨w2, σ2, st2, V2, rfl, c2, hE2, hF2, ?_⟩
      rcases q with ⟨f2, p2, n2, τ6, x3, R3, w3, k3, q3⟩ | q
      · exact Or.inl ⟨f2, p2, n2, τ6, x3, R3, w3, k3, by omega⟩
      · exact Or.inr q
    · rw [if_neg hv, if_neg hv]
      obtain ⟨τ5, o1, o2, o3, o4⟩ := rt_push hB z2 (by omega) 0 (nI (42 * (6 + m) + 14 * p + j1)) (nI l)
      rw [o1, b_some]
      obtain ⟨m4, m5, m6⟩ := (rk_t (rk_w K3 (b := b) (h := 300) (l := 300) (by omega) (by omega) (by omega)) o4 (by omega) (by omega) (by omega) : rk_ τ3 τ5 b 300 300).2.2 l (by omega)
      have sub2 := IH l d m p x y j1 j2 b h n1 st1 V1 σ1 τ5 hl (by omega) (by omega) hm hld hp hw2 c1 (by omega) (by omega) (by omega) ⟨hE1, f1, hfr1, o2, o3, m4.trans (fx1.trans (y1.trans hfx.1)), m5.trans (fx2.trans (y2.trans hfx.2.1)), m6.trans (fx3.trans (y3.trans hfx.2.2))⟩
      have := rq_pre sub2 hF1 (rk_t kk o4 (by omega) (by omega) (by omega))
      obtain ⟨w2, σ2, st2, V2, e2, c2, hE2, hF2, q⟩ := this
      rw [e2, b_some]
      dsimp only
      rcases q with ⟨f2, p2, n2, τ6, x3, R3, w3, k3, q3⟩ | ⟨f2, ⟨a, ha, p2⟩, τ6, x3, E3⟩
      · rw [sc_skip hB c2 hm hp hW (d := d) (by omega) hw hE2 (fr_post hfr hF2 p2), b_some]
        exact ⟨w2, _, st2, V2, rfl, c2, ec_fr hE2, rf_t hF2 rf_at, Or.inl ⟨by rw [aw_pk (by omega)]; exact f2, by rw [aw_pe, up_e], n2, τ6, x3, R3, w3, k3, by omega⟩⟩
      · obtain ⟨a', ha', e5⟩ := sc_skip0 hB c2 hm hp ha hE2 (fr_post hfr hF2 p2)
        rw [e5, b_some]
        exact ⟨w2, _, st2, V2, rfl, c2, ec_fr hE2, rf_t hF2 rf_at, Or.inr ⟨by rw [aw_pk (by omega)]; exact f2, ⟨a', ha', by rw [aw_pe, up_e]⟩, τ6, by rw [aw_pk (by omega)]; exact x3, E3⟩⟩
  · obtain ⟨a', ha', e5⟩ := sc_skip0 hB c1 hm hp ha hE1 (fr_post hfr hF1 p1)
    have hfm : aw_p σ1 (134 + l) 4 (nI a') (134 + l) 0 = nI m := by rw [aw_pe, up_n (by omega)]; exact (hF1.2 0 (by omega)).trans hfr.1
    have hff : aw_p σ1 (134 + l) 4 (nI a') 132 2 ≠ 0 := by rw [aw_pk (by omega)]; exact f1
    have fin : ∀ v, rw_Q S Z a1 a2 a3 a4 s τ l (S 3 (6 + m) p) j b h (n + 1 + 2 * st) (xq_R_run_70 n τ2 a1 a2 a3 a4 0) (some (v, aw_p σ1 (134 + l) 4 (nI a'))) := fun v => ⟨v, _, st1, V1, rfl, c1, ec_fr hE1, rf_t hF1 rf_at, Or.inr ⟨hff, ⟨a', ha', by rw [aw_pe, up_e]⟩, τ3, by rw [aw_pk (by omega)]; exact x1, E1⟩⟩
    by_cases hv : v1 = 0
    · rw [if_pos hv, e5, b_some, hWf _ m l _ hm hl hff hfm, b_some]
      exact fin 0
    · rw [if_neg hv, hWf _ m l _ hm hl f1 ((hF1.2 0 (by omega)).trans hfr.1), b_some]
      dsimp only
      rw [e5, b_some]
      exact fin 0
/-- CALL, when its arguments are there -/
theorem rw_call (hB : gs_B S) (hW : rx_W S Z N) (IH : rw_H S Z N a1 a2 a3 a4 W M) (hl : l < 6) (hd : d + 1 ≤ 5) (hM : 5 * (5 - l) + (d + 1) ≤ M + 1) (hm : m < 6) {L c : Nat} (hc : c < 42) (hst : st ≤ 120) (hn : 244 ≤ n + 2 * st) (hb : b + 3 * (5 * (5 - l) + (d + 1)) ≤ 120) (hh : h + 3 * (5 * (5 - l) + (d + 1)) ≤ 120) {K : Nat} (hK : K + 1 ≤ n + 2 * st) (hjL : j ≤ L)
    (hs : ec_E s (rS S st) (rZ Z V)) (hsf : s 132 2 = 0) (hat : s (134 + l) 4 = nI j) {Na : Nat} (hNa : Na ≤ 2) (r : RT τ S Z st V (b + 1) (h + Na)) (htk : τ 16 b = 1 ∧ τ 17 b = nI (42 * (6 + m) + c) ∧ τ 18 b = nI l)
    (ho : S 4 (6 + m) c = 11) (ht : rx_tk S Z m c Na) {k v : Nat} (hk : k < 6) (e1 : Z 0 (6 + m) c = nI k) (e2 : Z 1 (6 + m) c = nI v) (hkl : S 5 (6 + k) 0 ≠ 0) (hvp : v < S 1 (6 + k) 0) (hx : x = if Na = 0 then 0 else τ 19 h) (hy : y = if Na = 2 then τ 19 (h + 1) else 0) :
    rw_Q S Z a1 a2 a3 a4 s τ l L j b h K (xq_R_run_70 n τ a1 a2 a3 a4 0) (if nI l < (5 : Int32) then if aw_in (nI l + (1 : Int32)) 6 = true then (xm_F_open s (132 + 1 + 1 + (Int32.toNatClampNeg (nI l + (1 : Int32)))) (nI k) (nI v) x y).bind fun q_94 => (W q_94 132 63 (nI l + (1 : Int32)) (0 : Int32)).bind fun q_103 => some (q_103.1, q_103.2) else none else (xm_N_fail s 132 (-9 : Int32)).bind fun q_74 => some (q_74.1, q_74.2)) := by
  obtain ⟨n, rfl⟩ : ∃ n', n = n' + 1 + 1 := ⟨n - 2, by omega⟩
  obtain ⟨R2, K2⟩ := rt_pop hB r
  have hx2 : x = if Na = 0 then 0 else aw_p τ 0 22 (nI b) 19 h := by rw [K2.2.1 h (by omega)]; exact hx
  have hy2 : y = if Na = 2 then aw_p τ 0 22 (nI b) 19 (h + 1) else 0 := by rw [K2.2.1 (h + 1) (by omega)]; exact hy
  obtain ⟨z1, z2⟩ := us_11 (l := l) hB hNa R2 (by omega) (by omega) hm hc hl ho ht e1 e2 hx2 hy2
  have st1 : xq_R_run_70 (n + 1 + 1) τ a1 a2 a3 a4 0 = (xm_R_use (aw_p τ 0 22 (nI b)) (nI (42 * (6 + m) + c)) (nI l)).bind fun q => xq_R_run_70 (n + 1) q.2 a1 a2 a3 a4 q.1 := by rw [rr_1 r (by omega) htk.1, htk.2.1, htk.2.2]
  rw [st1]
  by_cases h5 : l = 5
  · obtain ⟨τ2, u1, u2⟩ := z1 h5
    rw [u1, b_some, if_neg (show ¬ nI l < (5 : Int32) from nI_nlt (b := 5) (by omega) (by omega))]
    unfold xm_N_fail
    rw [l_eq, b_some]
    dsimp only
    rw [rr_bad (by decide)]
    refine ⟨0, _, st, V, rfl, hst, ec_ft hs _, rf_lo (by omega), Or.inr ⟨?_, ⟨j, hjL, ?_⟩, τ2, ?_, u2⟩⟩
    · rw [aw_pe, up_e]; decide
    · rw [aw_pk (by omega)]; exact hat
    · rw [aw_pe, up_e]
  · obtain ⟨τ2, u1, u2, u3, u4, u5⟩ := z2 (by omega)
    rw [u1, b_some, if_pos (show nI l < (5 : Int32) from nI_lt (b := 5) (by omega) (by omega)), nz_1, ad_nI, if_pos (in_nI (by omega) (by omega)), tn_nI (by omega), show 132 + 1 + 1 + (l + 1) = 134 + (l + 1) by omega]
    unfold xm_F_open
    rw [l_eq, l_eq, l_eq, l_eq, l_eq, b_some]
    obtain ⟨s2, hs2⟩ : ∃ s2, s2 = aw_p (aw_p (aw_p (aw_p (aw_p s (134 + (l + 1)) 0 (nI k)) (134 + (l + 1)) 1 (nI v)) (134 + (l + 1)) 2 x) (134 + (l + 1)) 3 y) (134 + (l + 1)) 4 0 := ⟨_, rfl⟩
    rw [← hs2]
    have hE : ec_E s2 (rS S st) (rZ Z V) := by rw [hs2]; exact ec_fr (ec_fr (ec_fr (ec_fr (ec_fr hs))))
    have hf2 : s2 132 2 = 0 := by rw [hs2]; simp (disch := omega) only [aw_pk]; exact hsf
    have hlo : ∀ q, q < 134 + (l + 1) → s2 q = s q := fun q hq => by rw [hs2]; simp (disch := omega) only [aw_pk]
    have hfr2 : fr_ s2 (l + 1) k v x y 0 := by
      rw [hs2]
      refine ⟨?_, ?_, ?_, ?_, ?_⟩
      · simp (disch := omega) only [aw_pe, up_n]; exact up_e
      · simp (disch := omega) only [aw_pe, up_n]; exact up_e
      · simp (disch := omega) only [aw_pe, up_n]; exact up_e
      · simp (disch := omega) only [aw_pe, up_n]; exact up_e
      · rw [aw_pe, up_e]; rfl
    have sub := IH (l + 1) 5 k v x y 0 (S 3 (6 + k) v) b h (n + 1) st V s2 τ2 (by omega) (by omega) (by omega) hk hkl hvp (hW k hk hkl v hvp).1 hst (by omega) (by omega) (by omega) ⟨hE, hf2, hfr2, u2, u3, u4⟩
    obtain ⟨w, σ2, st2, V2, q1, q2, q3, q4, q5⟩ := sub
    have q1 : W s2 132 63 (nI (l + 1)) 0 = some (w, σ2) := q1
    rw [q1, b_some]
    have hfl : σ2 (134 + l) = s (134 + l) := (q4.1 l (by omega)).trans (hlo _ (by omega))
    refine ⟨w, σ2, st2, V2, rfl, q2, q3, ⟨fun q hq => (q4.1 q (by omega)).trans (hlo _ (by omega)), fun q _ => by rw [hfl]⟩, ?_⟩
    rcases q5 with ⟨p1, p2, n2, τ3, p3, p4, p5, p6, p7⟩ | ⟨p1, p2, τ3, p3, p4⟩
    · exact Or.inl ⟨p1, by rw [hfl]; exact hat, n2, τ3, p3, p4, p5, rk_t (rk_t (rk_w K2 (b := b) (h := h) (l := l + 1) (by omega) (by omega) (by omega)) u5 (by omega) (by omega) (by omega)) p6 (by omega) (by omega) (by omega), by omega⟩
    · exact Or.inr ⟨p1, ⟨j, hjL, by rw [hfl]; exact hat⟩, τ3, p3, p4⟩
/-- CALL -/
theorem rw_11 (hB : gs_B S) (hW0 : rx_W S Z N) (hW : ∀ q, q < S 3 (6 + m) p → rx_tk S Z m (14 * p + q) (N m p q)) (IH : rw_H S Z N a1 a2 a3 a4 W M) (hWf : 1 ≤ d → cw_f W) (hl : l < 6) (hd : d + 1 ≤ 5) (hM : 5 * (5 - l) + (d + 1) ≤ M + 1) (hm : m < 6) (hld : S 5 (6 + m) 0 ≠ 0) (hp : p < S 1 (6 + m) 0) (hi : i < S 3 (6 + m) p) (hst : st < 120) (hn : 243 ≤ n + 1 + 2 * st) (hb : b + 3 * (5 * (5 - l) + (d + 1)) ≤ 120) (hh : h + 3 * (5 * (5 - l) + (d + 1)) ≤ 120)
    (hs : ec_E s (rS S (st + 1)) (rZ Z V)) (hsf : s 132 2 = 0) (hfr : fr_ s l m p x y (i + 1)) (r : RT τ S Z st V b h) (hfx : τ 20 l = nI m ∧ τ 22 l = x ∧ τ 23 l = y)
    (ho : S 4 (6 + m) (14 * p + i) = 11) {k v Na : Nat} (hk : k < 6) (e1 : Z 0 (6 + m) (14 * p + i) = nI k) (e2 : Z 1 (6 + m) (14 * p + i) = nI v) (hkl : S 5 (6 + k) 0 ≠ 0) (hvp : v < S 1 (6 + k) 0) (hNa : Na = S 2 (6 + k) v) (hpi : pi_ (pw_ (N m p) (S 3 (6 + m) p) d) Na (i + 1) j) :
    rw_Q S Z a1 a2 a3 a4 s τ l (S 3 (6 + m) p) j b h (n + 1 + 2 * st) ((xm_R_begin2 τ (nI (42 * (6 + m) + (14 * p + i))) (nI l)).bind fun q => xq_R_run_70 n q a1 a2 a3 a4 0) (xm_N_enter W s 132 63 (nI l) (nI (5 - (d + 1))) (Z 0 (6 + m) (14 * p + i)) (Z 1 (6 + m) (14 * p + i))) := by
  have hbd := hB.1 (6 + m) (by omega)
  have hL := (hbd.2.2.1 p (by omega)).2
  have hbk := hB.1 (6 + k) (by omega)
  have hN2 : Na ≤ 2 := by rw [hNa]; exact (hbk.2.2.1 v (by omega)).1
  have ht : rx_tk S Z m (14 * p + i) Na := Or.inr (Or.inr (Or.inr (Or.inr (Or.inr (Or.inl ⟨ho, k, v, hk, e1, e2, hkl, hvp, hNa⟩)))))
  have hjl := pi_le (fun i j hh => pw_le d i j hh) Na (i + 1) j (by omega) hpi
  have eag := sc_Margs1 hB hs (by omega) hk hkl hvp
  rw [← hNa] at eag
  unfold xm_N_enter
  rw [e1, e2, eag, b_some, ar_p hd]
  rcases (show Na = 0 ∨ Na = 1 ∨ Na = 2 by omega) with rfl | rfl | rfl
  · have hj : i + 1 = j := hpi
    obtain ⟨τ2, g1, g2, g3, -, -, g6⟩ := b2_n (l := l) hB r (by omega) hm (c := 14 * p + i) (by omega) (Or.inr ho) (N := 0) (by omega) ht (q1 := 0) (fun z => absurd z (by omega))
    rw [g1, b_some, if_pos (show nI 0 ≤ (0 : Int32) by decide), if_pos (show nI 0 ≤ (1 : Int32) by decide), if_pos hsf, if_neg (show ¬ nI 0 = (-1 : Int32) by decide)]
    have := rw_call (x := 0) (y := 0) (K := n + 1 + 2 * st) (L := S 3 (6 + m) p) (n := n) (st := st + 1) hB hW0 IH hl hd hM hm (c := 14 * p + i) (by omega) (by omega) (by omega) hb hh (by omega) hjl.2 hs hsf (by rw [← hj]; exact hfr.2.2.2.2) (Na := 0) (by omega) g2 g3 ho ht hk e1 e2 hkl hvp rfl rfl
    exact rq_pre this rf_r (rk_w g6 (by omega) (by omega) (by omega))
  · obtain ⟨k1', hw, hj⟩ := hpi
    have hj : k1' = j := hj
    subst hj
    obtain ⟨τ2, g1, g2, g3, g4, -, g6⟩ := b2_n (l := l) hB r (by omega) hm (c := 14 * p + i) (by omega) (Or.inr ho) (N := 1) (by omega) ht (q1 := 0) (fun z => absurd z (by omega))
    obtain ⟨t1, t2, t3⟩ := g4 rfl
    rw [show 42 * (6 + m) + (14 * p + i) + 1 = 42 * (6 + m) + 14 * p + (i + 1) by omega] at t2
    obtain ⟨y1, y2, y3⟩ := g6.2.2 l (by omega)
    have sub := IH l d m p x y (i + 1) k1' (b + 1) h n (st + 1) V s τ2 hl (by omega) (by omega) hm hld hp hw (by omega) (by omega) (by omega) (by omega) ⟨hs, hsf, hfr, g2, ⟨t1, t2, t3⟩, y1.trans hfx.1, y2.trans hfx.2.1, y3.trans hfx.2.2⟩
    rw [g1, b_some, if_neg (show ¬ nI 1 ≤ (0 : Int32) by decide)]
    obtain ⟨v1, σ1, st1, V1, q1, c1, hE1, hF1, q⟩ := sub
    rw [q1, b_some, if_pos (show nI 1 ≤ (1 : Int32) by decide)]
    dsimp only
    rcases q with ⟨f1, p1, n1, τ3, x1, R1, w1, k1, q1⟩ | ⟨f1, p1, τ3, x1, E1⟩
    · obtain ⟨u1, u2, u3⟩ := k1.1 b (by omega)
      rw [if_pos f1, if_neg (show ¬ nI 1 = (-1 : Int32) by decide), x1]
      have := rw_call (x := v1) (y := 0) (K := n + 1 + 2 * st) (L := S 3 (6 + m) p) (n := n1) (st := st1) hB hW0 IH hl hd hM hm (c := 14 * p + i) (by omega) c1 (by omega) hb hh (by omega) hjl.2 hE1 f1 p1 (Na := 1) (by omega) R1 ⟨u1.trans g3.1, u2.trans g3.2.1, u3.trans g3.2.2⟩ ho ht hk e1 e2 hkl hvp w1.symm rfl
      exact rq_pre this hF1 (rk_t (rk_w g6 (b := b) (h := h) (l := l + 1) (by omega) (by omega) (by omega)) k1 (by omega) (by omega) (by omega))
    · rw [if_neg f1]
      exact ⟨0, σ1, st1, V1, rfl, c1, hE1, hF1, Or.inr ⟨f1, p1, τ3, x1, E1⟩⟩
  · obtain ⟨j1, hw1, j2, hw, hj⟩ := hpi
    have hj : j2 = j := hj
    subst hj
    have hd1 : 1 ≤ d := by
      cases d with
      | zero => exact hw1.elim
      | succ d => omega
    have hWf := hWf hd1
    obtain ⟨τ2, g1, g2, g3, -, g5, g6⟩ := b2_n (l := l) hB r (by omega) hm (c := 14 * p + i) (by omega) (Or.inr ho) (N := 2) (by omega) ht (q1 := 42 * (6 + m) + 14 * p + j1) (fun _ τ' e' => by
      rw [show 42 * (6 + m) + (14 * p + i) + 1 = 42 * (6 + m) + 14 * p + (i + 1) by omega]
      exact sr_end hB e' hm (by omega) hL hW (d := d) (by omega) hw1)
    obtain ⟨⟨o1, o2, o3⟩, t1, t2, t3⟩ := g5 rfl
    rw [show 42 * (6 + m) + (14 * p + i) + 1 = 42 * (6 + m) + 14 * p + (i + 1) by omega] at t2
    obtain ⟨y1, y2, y3⟩ := g6.2.2 l (by omega)
    have sub := IH l d m p x y (i + 1) j1 (b + 1 + 1) h n (st + 1) V s τ2 hl (by omega) (by omega) hm hld hp hw1 (by omega) (by omega) (by omega) (by omega) ⟨hs, hsf, hfr, g2, ⟨t1, t2, t3⟩, y1.trans hfx.1, y2.trans hfx.2.1, y3.trans hfx.2.2⟩
    rw [g1, b_some, if_neg (show ¬ nI 2 ≤ (0 : Int32) by decide)]
    obtain ⟨v1, σ1, st1, V1, q1, c1, hE1, hF1, q⟩ := sub
    rw [q1, b_some, if_neg (show ¬ nI 2 ≤ (1 : Int32) by decide)]
    dsimp only
    rcases q with ⟨f1, p1, n1, τ3, x1, R1, w1, k1, q1⟩ | ⟨f1, p1, τ3, x1, E1⟩
    · have hfr1 := fr_post hfr hF1 p1
      obtain ⟨u1, u2, u3⟩ := k1.1 b (by omega)
      obtain ⟨u4, u5, u6⟩ := k1.1 (b + 1) (by omega)
      obtain ⟨fx1, fx2, fx3⟩ := k1.2.2 l (by omega)
      have sub2 := IH l d m p x y j1 j2 (b + 1) (h + 1) n1 st1 V1 σ1 τ3 hl (by omega) (by omega) hm hld hp hw c1 (by omega) (by omega) (by omega) ⟨hE1, f1, hfr1, R1, ⟨u4.trans o1, u5.trans o2, u6.trans o3⟩, fx1.trans (y1.trans hfx.1), fx2.trans (y2.trans hfx.2.1), fx3.trans (y3.trans hfx.2.2)⟩
      obtain ⟨w2, σ2, st2, V2, q2, c2, hE2, hF2, q⟩ := sub2
      rw [q2, b_some, x1]
      dsimp only
      have kk : rk_ τ τ3 b h (l + 1) := rk_t (rk_w g6 (b := b) (h := h) (l := l + 1) (by omega) (by omega) (by omega)) k1 (by omega) (by omega) (by omega)
      rcases q with ⟨f2, p2, n2, τ5, x3, R3, w3, k3, q3⟩ | ⟨f2, p2, τ5, x3, E3⟩
      · obtain ⟨r1, r2, r3⟩ := k3.1 b (by omega)
        rw [if_pos f2, if_neg (show ¬ nI 2 = (-1 : Int32) by decide), x3]
        have := rw_call (x := v1) (y := w2) (K := n + 1 + 2 * st) (L := S 3 (6 + m) p) (n := n2) (st := st2) hB hW0 IH hl hd hM hm (c := 14 * p + i) (by omega) c2 (by omega) hb hh (by omega) hjl.2 hE2 f2 p2 (Na := 2) (by omega) R3 ⟨r1.trans (u1.trans g3.1), r2.trans (u2.trans g3.2.1), r3.trans (u3.trans g3.2.2)⟩ ho ht hk e1 e2 hkl hvp (by rw [if_neg (by omega), k3.2.1 h (by omega)]; exact w1.symm) (by rw [if_pos rfl]; exact w3.symm)
        exact rq_pre this (rf_t hF1 hF2) (rk_t kk k3 (by omega) (by omega) (by omega))
      · rw [if_neg f2]
        exact ⟨0, σ2, st2, V2, rfl, c2, hE2, rf_t hF1 hF2, Or.inr ⟨f2, p2, τ5, x3, E3⟩⟩
    · rw [hWf σ1 m l _ hm hl f1 ((hF1.2 0 (by omega)).trans hfr.1), b_some]
      dsimp only
      rw [if_neg f1]
      exact ⟨0, σ1, st1, V1, rfl, c1, hE1, hF1, Or.inr ⟨f1, p1, τ3, x1, E1⟩⟩
theorem rw_main (hB : gs_B S) (hW0 : rx_W S Z N) : ∀ M g, M ≤ g → rw_H S Z N a1 a2 a3 a4 (xm_N_work g) M := by
  intro M
  induction M with
  | zero =>
    intro g hg l d m p x y i j b h n st V σ τ hl hd hM hm hld hp hw
    have : d = 0 := by omega
    subst this
    exact hw.elim
  | succ M ih =>
    intro g hg l d m p x y i j b h n st V σ τ hl hd hM hm hld hp hw hst hn hb hh hpre
    obtain ⟨g, rfl⟩ : ∃ g', g = g' + 1 := ⟨g - 1, by omega⟩
    obtain ⟨d, rfl⟩ : ∃ d', d = d' + 1 := by
      cases d with
      | zero => exact hw.elim
      | succ d => exact ⟨d, rfl⟩
    obtain ⟨hi, hpi⟩ := hw
    obtain ⟨hE, hf0, hfr, hR, ⟨k1, k2, k3⟩, hfx⟩ := hpre
    have hbd := hB.1 (6 + m) (by omega)
    have hL := (hbd.2.2.1 p (by omega)).2
    obtain ⟨n, rfl⟩ : ∃ n', n = n' + 1 + 1 := ⟨n - 2, by omega⟩
    obtain ⟨R1, K1⟩ := rt_pop hB hR
    have IH := ih g (by omega)
    show rw_Q S Z a1 a2 a3 a4 σ τ l (S 3 (6 + m) p) j b h (n + 1 + 1 + 2 * st) (xq_R_run_70 (n + 1 + 1) τ a1 a2 a3 a4 0) (xm_N_work_b (xm_N_work g) σ 132 63 (nI l) (nI (5 - (d + 1))))
    rw [rr_0 hR (by omega) hst k1, k2, k3]
    by_cases h120 : st = 120
    · subst h120
      rw [if_pos rfl, rr_bad (by decide), cw_late hB hE hm hl hp hi (by omega) hf0 hfr]
      refine ⟨0, _, 120, V, rfl, by omega, ec_ft hE _, rf_lo (by omega), Or.inr ⟨?_, ⟨i, by omega, ?_⟩, _, ?_, R1.1⟩⟩
      · rw [aw_pe, up_e]; decide
      · rw [aw_pk (by omega)]; exact hfr.2.2.2.2
      · rw [aw_pe, up_e]
    · rw [if_neg h120, cw_go hB hE (by omega) hm hl hp hi (by omega) hf0 hfr]
      obtain ⟨s, hs0⟩ : ∃ s, s = aw_p (aw_p σ 132 1 (nI (st + 1))) (134 + l) 4 (nI (i + 1)) := ⟨_, rfl⟩
      rw [← hs0]
      have hs : ec_E s (rS S (st + 1)) (rZ Z V) := by
        rw [hs0]
        exact ec_fr (ec_dyn hE (fun k hk _ => aw_pk (by omega)) (fun m hm v hv => by rw [aw_pk (by omega)]; exact hE.2.2.1 m hm v hv) (by rw [aw_pe, up_e]))
      have hsf : s 132 2 = 0 := by rw [hs0, aw_pk (by omega), aw_pe, up_n (by omega)]; exact hf0
      have hF : rw_F σ s l := by rw [hs0]; exact rf_t (rf_lo (by omega)) rf_at
      have hfs : fr_ s l m p x y (i + 1) := fr_post hfr hF (by rw [hs0, aw_pe, up_e])
      have hfx1 : aw_p τ 0 22 (nI b) 20 l = nI m ∧ aw_p τ 0 22 (nI b) 22 l = x ∧ aw_p τ 0 22 (nI b) 23 l = y := by
        obtain ⟨o1, o2, o3⟩ := K1.2.2 l (by omega)
        exact ⟨o1.trans hfx.1, o2.trans hfx.2.1, o3.trans hfx.2.2⟩
      have hWt := (hW0 m hm hld p hp).2
      have hWf : 1 ≤ d → cw_f (xm_N_work g) := by
        intro hd1 σ m l a3 hm hl hf hfr
        obtain ⟨g, rfl⟩ : ∃ g', g = g' + 1 := ⟨g - 1, by omega⟩
        exact cw_fault hm hl hf hfr a3
      have hdp : ∀ a b, pw_ (N m p) (S 3 (6 + m) p) d a b → 1 ≤ d := by
        intro a b hh
        cases d with
        | zero => exact hh.elim
        | succ d => omega
      refine rq_pre ?_ hF (rk_w K1 (by omega) (by omega) (by omega))
      rw [show 42 * (6 + m) + 14 * p + i = 42 * (6 + m) + (14 * p + i) by omega, show n + 1 + 1 + 2 * st = (n + 1) + 1 + 2 * st from rfl]
      have leaf : ∀ v, (∃ τ2, xm_R_begin2 (aw_p τ 0 22 (nI b)) (nI (42 * (6 + m) + (14 * p + i))) (nI l) = some τ2 ∧ RT τ2 S Z (st + 1) V b (h + 1) ∧ τ2 19 h = v ∧ rk_ (aw_p τ 0 22 (nI b)) τ2 300 h 300) → i + 1 = j → rw_Q S Z a1 a2 a3 a4 s (aw_p τ 0 22 (nI b)) l (S 3 (6 + m) p) j b h (n + 1 + 1 + 2 * st) ((xm_R_begin2 (aw_p τ 0 22 (nI b)) (nI (42 * (6 + m) + (14 * p + i))) (nI l)).bind fun q => xq_R_run_70 (n + 1) q a1 a2 a3 a4 0) (some (v, s)) := by
        intro v ⟨τ2, g1, g2, g3, g4⟩ hj
        rw [g1, b_some]
        exact ⟨v, s, st + 1, V, rfl, by omega, hs, rf_r, Or.inl ⟨hsf, by rw [← hj]; exact hfs.2.2.2.2, n + 1, τ2, rfl, g2, g3, rk_w g4 (by omega) (by omega) (by omega), by omega⟩⟩
      have ht := hWt i hi
      have ht2 := ht
      unfold cw_D
      rcases ht with ⟨o, e⟩ | ⟨o, e⟩ | ⟨o, e, kk, w, hk, z1, z2, hkl, hw0⟩ | ⟨o, e, -⟩ | ⟨o, e⟩ | ⟨o, kk, w, hk, z1, z2, hkl, hw0, e⟩ | ⟨o, e⟩
      · rw [e] at hpi
        rw [o, if_pos rfl]
        exact leaf _ (b2_leaf (l := l) hB R1 (by omega) hm (by omega) hl ⟨hfx1.2.1, hfx1.2.2⟩ (Or.inl ⟨o, rfl⟩)) hpi
      · rw [e] at hpi
        rw [o, if_neg (by decide), if_pos rfl]
        exact leaf _ (b2_leaf (l := l) hB R1 (by omega) hm (by omega) hl ⟨hfx1.2.1, hfx1.2.2⟩ (Or.inr (Or.inl ⟨o, rfl⟩))) hpi
      · rw [e] at hpi
        have hbk := (hB.1 (6 + kk) (by omega)).1
        have ev := sc_valueOf hs (rS_B hB (by omega)) hk (v := w) (by omega)
        rw [if_neg (show ¬ rS S (st + 1) 5 (6 + kk) 0 = 0 from hkl), if_pos (show w < rS S (st + 1) 0 (6 + kk) 0 from hw0)] at ev
        have ev : xm_M_valueOf s 63 (nI kk) (nI w) = some (V kk w) := ev
        rw [o, if_neg (by decide), if_neg (by decide), if_pos rfl, z1, z2, ev, b_some]
        exact leaf _ (b2_leaf (l := l) hB R1 (by omega) hm (by omega) hl ⟨hfx1.2.1, hfx1.2.2⟩ (Or.inr (Or.inr ⟨o, kk, w, hk, by omega, z1, z2, rfl⟩))) hpi
      · rw [e] at hpi ht2
        obtain ⟨j1, hw1, hj⟩ := hpi
        have hj : j1 = j := hj
        subst hj
        rw [if_neg (by omega), if_neg (by omega), if_neg (by omega), if_pos o]
        exact rw_3 hB IH hl hd hM hm hld hp hi (by omega) (by omega) hb hh hs hsf hfs R1 hfx1 ht2 o hw1
      · rw [e] at hpi
        obtain ⟨j1, hw1, j2, hw2, j3, hw3, hj⟩ := hpi
        have hj : j3 = j := hj
        subst hj
        rw [if_neg (by omega), if_neg (by omega), if_neg (by omega), if_neg (by omega), if_pos o]
        exact rw_9 hB hWt IH (hWf (hdp _ _ hw1)) hl hd hM hm hld hp hi (by omega) (by omega) hb hh hs hsf hfs R1 hfx1 o hw1 hw2 hw3
      · rw [if_neg (by omega), if_neg (by omega), if_neg (by omega), if_neg (by omega), if_neg (by omega), if_pos o]
        exact rw_11 hB hW0 hWt IH hWf hl hd hM hm hld hp hi (by omega) (by omega) hb hh hs hsf hfs R1 hfx1 o hk z1 z2 hkl hw0 e hpi
      · rw [e] at hpi
        obtain ⟨j1, hw1, j2, hw2, hj⟩ := hpi
        have hj : j2 = j := hj
        subst hj
        rw [if_neg (by omega), if_neg (by omega), if_neg (by omega), if_neg (by omega), if_neg (by omega), if_neg (by omega)]
        rcases o with o | o
        · exact rw_48 hB hWt IH (hWf (hdp _ _ hw1)) hl hd hM hm hld hp hi (by omega) (by omega) hb hh hs hsf hfs R1 hfx1 o hw1 hw2
        · exact rw_10 hB hWt IH (hWf (hdp _ _ hw1)) hl hd hM hm hld hp hi (by omega) (by omega) hb hh hs hsf hfs R1 hfx1 o hw1 hw2
end RV
