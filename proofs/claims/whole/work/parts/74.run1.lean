/-! run: class and reference together -/
def rw_F (σ σ2 : aw_m) (l : Nat) : Prop := (∀ k, k < l → σ2 (134 + k) = σ (134 + k)) ∧ ∀ i, i ≤ 3 → σ2 (134 + l) i = σ (134 + l) i
theorem rf_t {σ σ2 σ3 : aw_m} {l : Nat} (a : rw_F σ σ2 l) (b : rw_F σ2 σ3 l) : rw_F σ σ3 l := ⟨fun k hk => (b.1 k hk).trans (a.1 k hk), fun i hi => (b.2 i hi).trans (a.2 i hi)⟩
theorem rf_at {σ : aw_m} {l : Nat} {v : Int32} : rw_F σ (aw_p σ (134 + l) 4 v) l := ⟨fun k hk => aw_pk (by omega), fun i hi => by rw [aw_pe, up_n (by omega)]⟩
theorem rf_lo {σ : aw_m} {l k i : Nat} {v : Int32} (hk : k < 134) : rw_F σ (aw_p σ k i v) l := ⟨fun j hj => aw_pk (by omega), fun j hj => by rw [aw_pk (by omega)]⟩
theorem rf_r {σ : aw_m} {l : Nat} : rw_F σ σ l := ⟨fun _ _ => rfl, fun _ _ => rfl⟩
theorem fr_post {σ σ2 : aw_m} {l m p i j : Nat} {x y : Int32} (h : fr_ σ l m p x y i) (f : rw_F σ σ2 l) (hj : σ2 (134 + l) 4 = nI j) : fr_ σ2 l m p x y j :=
  ⟨(f.2 0 (by omega)).trans h.1, (f.2 1 (by omega)).trans h.2.1, (f.2 2 (by omega)).trans h.2.2.1, (f.2 3 (by omega)).trans h.2.2.2.1, hj⟩
def rw_Q (S : gs_S) (Z : gs_Z) (a1 a2 a3 a4 : Int32) (σ τ : aw_m) (l L j b h K : Nat) (E r : Option (Int32 × aw_m)) : Prop :=
  ∃ (v : Int32) (σ2 : aw_m) (st2 : Nat) (V2 : Nat → Nat → Int32), r = some (v, σ2) ∧ st2 ≤ 120 ∧ ec_E σ2 (rS S st2) (rZ Z V2) ∧ rw_F σ σ2 l ∧
    ((σ2 132 2 = 0 ∧ σ2 (134 + l) 4 = nI j ∧ ∃ n2 τ2, E = xq_R_run_70 n2 τ2 a1 a2 a3 a4 0 ∧ RT τ2 S Z st2 V2 b (h + 1) ∧ τ2 19 h = v ∧ rk_ τ τ2 b h (l + 1) ∧ K ≤ n2 + 2 * st2) ∨
     (σ2 132 2 ≠ 0 ∧ (∃ a, a ≤ L ∧ σ2 (134 + l) 4 = nI a) ∧ ∃ τ2, E = some (σ2 132 2, τ2) ∧ er_E τ2 (rS S st2) (rZ Z V2)))
theorem rq_pre {S : gs_S} {Z : gs_Z} {a1 a2 a3 a4 : Int32} {σ s τ τ1 : aw_m} {l L j b h K : Nat} {E r : Option (Int32 × aw_m)} (q : rw_Q S Z a1 a2 a3 a4 s τ1 l L j b h K E r) (f : rw_F σ s l) (k : rk_ τ τ1 b h (l + 1)) : rw_Q S Z a1 a2 a3 a4 σ τ l L j b h K E r := by
  obtain ⟨v, σ2, st2, V2, e1, e2, e3, e4, e5⟩ := q
  refine ⟨v, σ2, st2, V2, e1, e2, e3, rf_t f e4, ?_⟩
  rcases e5 with ⟨p1, p2, n2, τ2, p3, p4, p5, p6, p7⟩ | e5
  · exact Or.inl ⟨p1, p2, n2, τ2, p3, p4, p5, rk_t k p6 (by omega) (by omega) (by omega), p7⟩
  · exact Or.inr e5
def rw_Pre (S : gs_S) (Z : gs_Z) (st : Nat) (V : Nat → Nat → Int32) (σ τ : aw_m) (l m p : Nat) (x y : Int32) (i b h : Nat) : Prop :=
  ec_E σ (rS S st) (rZ Z V) ∧ σ 132 2 = 0 ∧ fr_ σ l m p x y i ∧ RT τ S Z st V (b + 1) h ∧ (τ 16 b = 0 ∧ τ 17 b = nI (42 * (6 + m) + 14 * p + i) ∧ τ 18 b = nI l) ∧ (τ 20 l = nI m ∧ τ 22 l = x ∧ τ 23 l = y)
def rw_H (S : gs_S) (Z : gs_Z) (N : Nat → Nat → Nat → Nat) (a1 a2 a3 a4 : Int32) (W : cw_W) (M : Nat) : Prop :=
  ∀ l d m p x y i j b h n st V σ τ, l < 6 → d ≤ 5 → 5 * (5 - l) + d ≤ M → m < 6 → S 5 (6 + m) 0 ≠ 0 → p < S 1 (6 + m) 0 → pw_ (N m p) (S 3 (6 + m) p) d i j → st ≤ 120 → 243 ≤ n + 2 * st → b + 3 * (5 * (5 - l) + d) ≤ 120 → h + 3 * (5 * (5 - l) + d) ≤ 120 → rw_Pre S Z st V σ τ l m p x y i b h →
    rw_Q S Z a1 a2 a3 a4 σ τ l (S 3 (6 + m) p) j b h (n + 2 * st) (xq_R_run_70 n τ a1 a2 a3 a4 0) (W σ 132 63 (nI l) (nI (5 - d)))
theorem ar_p {d : Nat} (hd : d + 1 ≤ 5) : nI (5 - (d + 1)) + (1 : Int32) = nI (5 - d) := by
  rw [nz_1, ad_nI]; congr 1; omega
theorem sc_set {σ : aw_m} {S : gs_S} {Z : gs_Z} {st m v : Nat} {V : Nat → Nat → Int32} (hB : gs_B S) (h : ec_E σ (rS S st) (rZ Z V)) (hm : m < 6) (hld : S 5 (6 + m) 0 ≠ 0) (hv : v < S 0 (6 + m) 0) (w : Int32) : xm_M_setValue σ 63 (nI m) (nI v) w = some (aw_p σ (76 + 11 * m) v w) ∧ ec_E (aw_p σ (76 + 11 * m) v w) (rS S st) (rZ Z (vu_ V m v w)) := by
  have hb := (hB.1 (6 + m) (by omega)).1
  have hc : σ (cb_ (6 + m)) 0 = nI (S 0 (6 + m) 0) := (h.1 (6 + m) (by omega)).1
  have h0 : ¬ rS S st 5 (6 + m) 0 = 0 := hld
  refine ⟨?_, ec_dyn h (fun k hk hne => aw_pk (hne m hm)) (fun a ha i hi => ?_) ?_⟩
  · unfold xm_M_setValue
    rw [mh_in h hm, b_some, if_neg h0, if_neg (by decide), if_pos (in_nI hm (by omega)), tn_nI (by omega), ← cb_l hm, hv_in hc (by omega) (by omega), b_some, if_pos hv, if_neg (by decide), if_pos (in_nI hm (by omega)), if_pos (in_nI (by omega) (by omega)), l_eq, tn_nI (by omega), show 63 + 1 + 2 + 11 * m + 10 = 76 + 11 * m by omega]
  · unfold vu_
    by_cases hq : a = m ∧ i = v
    · rw [if_pos hq, hq.1, hq.2, aw_pe, up_e]
    · rw [if_neg hq]
      by_cases ha2 : a = m
      · subst ha2
        rw [aw_pe, up_n (fun z => hq ⟨rfl, z⟩)]; exact h.2.2.1 a ha i hi
      · rw [aw_pk (by omega)]; exact h.2.2.1 a ha i hi
  · rw [aw_pk (by omega)]; exact h.2.2.2.2.2.2
theorem ec_ft {σ : aw_m} {S : gs_S} {Z : gs_Z} {st : Nat} {V : Nat → Nat → Int32} (h : ec_E σ (rS S st) (rZ Z V)) (v : Int32) : ec_E (aw_p σ 132 2 v) (rS S st) (rZ Z V) :=
  ec_dyn h (fun k hk _ => aw_pk (by omega)) (fun m hm v hv => by rw [aw_pk (by omega)]; exact h.2.2.1 m hm v hv) (by rw [aw_pe, up_n (by omega)]; exact h.2.2.2.2.2.2)
section RW
variable {S : gs_S} {Z : gs_Z} {N : Nat → Nat → Nat → Nat} {a1 a2 a3 a4 x y : Int32} {W : cw_W} {M l d m p i j b h n st : Nat} {V : Nat → Nat → Int32} {s τ : aw_m}
abbrev cw_f (W : cw_W) : Prop := ∀ (σ : aw_m) (m l : Nat) (a3 : Int32), m < 6 → l < 6 → σ 132 2 ≠ 0 → σ (134 + l) 0 = nI m → W σ 132 63 (nI l) a3 = some (0, σ)
/-- SET -/
theorem rw_3 (hB : gs_B S) (IH : rw_H S Z N a1 a2 a3 a4 W M) (hl : l < 6) (hd : d + 1 ≤ 5) (hM : 5 * (5 - l) + (d + 1) ≤ M + 1) (hm : m < 6) (hld : S 5 (6 + m) 0 ≠ 0) (hp : p < S 1 (6 + m) 0) (hi : i < S 3 (6 + m) p) (hst : st < 120) (hn : 243 ≤ n + 1 + 2 * st) (hb : b + 3 * (5 * (5 - l) + (d + 1)) ≤ 120) (hh : h + 3 * (5 * (5 - l) + (d + 1)) ≤ 120)
    (hs : ec_E s (rS S (st + 1)) (rZ Z V)) (hsf : s 132 2 = 0) (hfr : fr_ s l m p x y (i + 1)) (r : RT τ S Z st V b h) (hfx : τ 20 l = nI m ∧ τ 22 l = x ∧ τ 23 l = y)
    (ht : rx_tk S Z m (14 * p + i) 1) (ho : S 4 (6 + m) (14 * p + i) = 3) (hw : pw_ (N m p) (S 3 (6 + m) p) d (i + 1) j) :
    rw_Q S Z a1 a2 a3 a4 s τ l (S 3 (6 + m) p) j b h (n + 1 + 2 * st) ((xm_R_begin2 τ (nI (42 * (6 + m) + (14 * p + i))) (nI l)).bind fun q => xq_R_run_70 n q a1 a2 a3 a4 0) (xm_N_assign W s 132 63 (nI l) (nI (5 - (d + 1))) (Z 1 (6 + m) (14 * p + i))) := by
  have hbd := hB.1 (6 + m) (by omega)
  have hL := (hbd.2.2.1 p (by omega)).2
  obtain ⟨v, hv, hv0⟩ : ∃ v, Z 1 (6 + m) (14 * p + i) = nI v ∧ v < S 0 (6 + m) 0 := by
    rcases ht with ⟨q, -⟩ | ⟨q, -⟩ | ⟨q, -⟩ | ⟨-, -, v, hv, hv0⟩ | ⟨q, -⟩ | ⟨q, -⟩ | ⟨q, -⟩
    · omega
    · omega
    · omega
    · exact ⟨v, hv, hv0⟩
    · omega
    · omega
    · omega
  obtain ⟨τ2, g1, g2, g3, g4, -, g6⟩ := b2_n (l := l) hB r (by omega) hm (c := 14 * p + i) (by omega) (Or.inl (by omega)) (N := 1) (by omega) ht (q1 := 0) (fun z => absurd z (by omega))
  obtain ⟨t1, t2, t3⟩ := g4 rfl
  rw [show 42 * (6 + m) + (14 * p + i) + 1 = 42 * (6 + m) + 14 * p + (i + 1) by omega] at t2
  obtain ⟨y1, y2, y3⟩ := g6.2.2 l (by omega)
  have sub := IH l d m p x y (i + 1) j (b + 1) h n (st + 1) V s τ2 hl (by omega) (by omega) hm hld hp hw (by omega) (by omega) (by omega) (by omega) ⟨hs, hsf, hfr, g2, ⟨t1, t2, t3⟩, y1.trans hfx.1, y2.trans hfx.2.1, y3.trans hfx.2.2⟩
  rw [g1, b_some]
  unfold xm_N_assign
  rw [ar_p hd]
  obtain ⟨v1, σ1, st1, V1, e1, c1, hE1, hF1, q⟩ := sub
  rw [e1, b_some]
  dsimp only
  rcases q with ⟨f1, p1, n1, τ3, x1, R1, w1, k1, q1⟩ | ⟨f1, p1, τ3, x1, E1⟩
  · have hfr1 := fr_post hfr hF1 p1
    obtain ⟨n1, rfl⟩ : ∃ n', n1 = n' + 1 := ⟨n1 - 1, by omega⟩
    obtain ⟨u1, u2, u3⟩ := k1.1 b (by omega)
    obtain ⟨fx1, fx2, fx3⟩ := k1.2.2 l (by omega)
    obtain ⟨R2, K2⟩ := rt_pop hB R1
    obtain ⟨τ4, z1, z2, z3, z4⟩ := us_3 (l := l) (x := v1) hB R2 (by omega) hm (c := 14 * p + i) (by omega) hl ho (by rw [K2.2.1 h (by omega)]; exact w1) (by rw [(K2.2.2 l (by omega)).1, fx1]; exact y1.trans hfx.1) hv hv0
    obtain ⟨s1, s2⟩ := sc_set hB hE1 hm hld hv0 v1
    rw [if_pos f1, if_pos (in_nI hl (by omega)), tn_nI (by omega), show 132 + 1 + 1 + l = 134 + l by omega, hfr1.1, hv, s1, b_some]
    refine ⟨v1, _, st1, _, rfl, c1, s2, rf_t hF1 (rf_lo (by omega)), Or.inl ⟨by rw [aw_pk (by omega)]; exact f1, by rw [aw_pk (by omega)]; exact p1, n1, τ4, ?_, z2, z3, ?_, by omega⟩⟩
    · rw [x1, rr_1 R1 (by omega) (u1.trans g3.1), u2, u3, g3.2.1, g3.2.2, z1, b_some]
    · exact rk_t (rk_t (rk_t (rk_w g6 (b := b) (h := h) (l := l + 1) (by omega) (by omega) (by omega)) k1 (by omega) (by omega) (by omega)) K2 (by omega) (by omega) (by omega)) z4 (by omega) (by omega) (by omega)
  · rw [if_neg f1]
    exact ⟨v1, σ1, st1, V1, rfl, c1, hE1, hF1, Or.inr ⟨f1, p1, τ3, x1, E1⟩⟩
/-- THEN -/
theorem rw_10 (hB : gs_B S) (hW : ∀ q, q < S 3 (6 + m) p → rx_tk S Z m (14 * p + q) (N m p q)) (IH : rw_H S Z N a1 a2 a3 a4 W M) (hWf : cw_f W) (hl : l < 6) (hd : d + 1 ≤ 5) (hM : 5 * (5 - l) + (d + 1) ≤ M + 1) (hm : m < 6) (hld : S 5 (6 + m) 0 ≠ 0) (hp : p < S 1 (6 + m) 0) (hi : i < S 3 (6 + m) p) (hst : st < 120) (hn : 243 ≤ n + 1 + 2 * st) (hb : b + 3 * (5 * (5 - l) + (d + 1)) ≤ 120) (hh : h + 3 * (5 * (5 - l) + (d + 1)) ≤ 120)
    (hs : ec_E s (rS S (st + 1)) (rZ Z V)) (hsf : s 132 2 = 0) (hfr : fr_ s l m p x y (i + 1)) (r : RT τ S Z st V b h) (hfx : τ 20 l = nI m ∧ τ 22 l = x ∧ τ 23 l = y)
    (ho : S 4 (6 + m) (14 * p + i) = 10) {j1 : Nat} (hw1 : pw_ (N m p) (S 3 (6 + m) p) d (i + 1) j1) (hw : pw_ (N m p) (S 3 (6 + m) p) d j1 j) :
    rw_Q S Z a1 a2 a3 a4 s τ l (S 3 (6 + m) p) j b h (n + 1 + 2 * st) ((xm_R_begin2 τ (nI (42 * (6 + m) + (14 * p + i))) (nI l)).bind fun q => xq_R_run_70 n q a1 a2 a3 a4 0) (xm_N_combine W s 132 63 (nI l) (nI (5 - (d + 1))) (nI (S 4 (6 + m) (14 * p + i)))) := by
  have hbd := hB.1 (6 + m) (by omega)
  have hL := (hbd.2.2.1 p (by omega)).2
  obtain ⟨τ2, g1, g2, g3, g4, g5, g6⟩ := b2_10 (l := l) hB r (by omega) hm (c := 14 * p + i) (by omega) ho (q1 := 42 * (6 + m) + 14 * p + j1) (fun τ' e' => by
    rw [show 42 * (6 + m) + (14 * p + i) + 1 = 42 * (6 + m) + 14 * p + (i + 1) by omega]
    exact sr_end hB e' hm (by omega) hL hW (d := d) (by omega) hw1)
  obtain ⟨t1, t2, t3⟩ := g5
  rw [show 42 * (6 + m) + (14 * p + i) + 1 = 42 * (6 + m) + 14 * p + (i + 1) by omega] at t2
  obtain ⟨y1, y2, y3⟩ := g6.2.2 l (by omega)
  have sub := IH l d m p x y (i + 1) j1 (b + 1 + 1) h n (st + 1) V s τ2 hl (by omega) (by omega) hm hld hp hw1 (by omega) (by omega) (by omega) (by omega) ⟨hs, hsf, hfr, g2, ⟨t1, t2, t3⟩, y1.trans hfx.1, y2.trans hfx.2.1, y3.trans hfx.2.2⟩
  rw [g1, b_some, ho]
  unfold xm_N_combine
  rw [ar_p hd]
  obtain ⟨v1, σ1, st1, V1, e1, c1, hE1, hF1, q⟩ := sub
  rw [e1, b_some]
  dsimp only
  rcases q with ⟨f1, p1, n1, τ3, x1, R1, w1, k1, q1⟩ | ⟨f1, p1, τ3, x1, E1⟩
  · have hfr1 := fr_post hfr hF1 p1
    obtain ⟨n1, rfl⟩ : ∃ n', n1 = n' + 1 := ⟨n1 - 1, by omega⟩
    obtain ⟨u1, u2, u3⟩ := k1.1 b (by omega)
    obtain ⟨u4, -, -⟩ := k1.1 (b + 1) (by omega)
    obtain ⟨fx1, fx2, fx3⟩ := k1.2.2 l (by omega)
    obtain ⟨R2, K2⟩ := rt_pop hB R1
    obtain ⟨τ4, z1, z2, z4⟩ := rt_take hB R2 (by omega)
    have K3 : rk_ τ3 τ4 300 300 300 := rk_t K2 z4 (by omega) (by omega) (by omega)
    obtain ⟨v4, v5, v6⟩ := K3.1 b (by omega)
    obtain ⟨m4, m5, m6⟩ := K3.2.2 l (by omega)
    have sub2 := IH l d m p x y j1 j b h n1 st1 V1 σ1 τ4 hl (by omega) (by omega) hm hld hp hw c1 (by omega) (by omega) (by omega) ⟨hE1, f1, hfr1, z2, ⟨v4.trans (u1.trans g3.1), v5.trans (u2.trans g3.2.1), v6.trans (u3.trans g3.2.2)⟩, m4.trans (fx1.trans (y1.trans hfx.1)), m5.trans (fx2.trans (y2.trans hfx.2.1)), m6.trans (fx3.trans (y3.trans hfx.2.2))⟩
    have x2 : xq_R_run_70 n τ2 a1 a2 a3 a4 0 = xq_R_run_70 n1 τ4 a1 a2 a3 a4 0 := by rw [x1, rr_2 R1 (by omega) (u4.trans g4), z1, b_some]
    obtain ⟨w2, σ2, st2, V2, e2, c2, hE2, hF2, q⟩ := sub2
    rw [e2, b_some, x2]
    dsimp only
    have kk : rk_ τ τ4 b h (l + 1) := rk_t (rk_t (rk_w g6 (b := b) (h := h) (l := l + 1) (by omega) (by omega) (by omega)) k1 (by omega) (by omega) (by omega)) K3 (by omega) (by omega) (by omega)
    rcases q with ⟨f2, p2, n2, τ5, x3, R3, w3, k3, q3⟩ | ⟨f2, p2, τ5, x3, E3⟩
    · rw [if_pos f2, if_neg (by decide), if_neg (by decide), if_neg (by decide), if_neg (by decide), if_neg (by decide), if_neg (by decide), if_pos (by decide)]
      exact ⟨w2, σ2, st2, V2, rfl, c2, hE2, rf_t hF1 hF2, Or.inl ⟨f2, p2, n2, τ5, x3, R3, w3, rk_t kk k3 (by omega) (by omega) (by omega), by omega⟩⟩
    · rw [if_neg f2]
      exact ⟨0, σ2, st2, V2, rfl, c2, hE2, rf_t hF1 hF2, Or.inr ⟨f2, p2, τ5, x3, E3⟩⟩
  · rw [hWf σ1 m l _ hm hl f1 ((hF1.2 0 (by omega)).trans hfr.1), b_some]
    dsimp only
    rw [if_neg f1]
    exact ⟨0, σ1, st1, V1, rfl, c1, hE1, hF1, Or.inr ⟨f1, p1, τ3, x1, E1⟩⟩
/-- the five that combine -/
theorem rw_48 (hB : gs_B S) (hW : ∀ q, q < S 3 (6 + m) p → rx_tk S Z m (14 * p + q) (N m p q)) (IH : rw_H S Z N a1 a2 a3 a4 W M) (hWf : cw_f W) (hl : l < 6) (hd : d + 1 ≤ 5) (hM : 5 * (5 - l) + (d + 1) ≤ M + 1) (hm : m < 6) (hld : S 5 (6 + m) 0 ≠ 0) (hp : p < S 1 (6 + m) 0) (hi : i < S 3 (6 + m) p) (hst : st < 120) (hn : 243 ≤ n + 1 + 2 * st) (hb : b + 3 * (5 * (5 - l) + (d + 1)) ≤ 120) (hh : h + 3 * (5 * (5 - l) + (d + 1)) ≤ 120)
    (hs : ec_E s (rS S (st + 1)) (rZ Z V)) (hsf : s 132 2 = 0) (hfr : fr_ s l m p x y (i + 1)) (r : RT τ S Z st V b h) (hfx : τ 20 l = nI m ∧ τ 22 l = x ∧ τ 23 l = y)
    (ho : 4 ≤ S 4 (6 + m) (14 * p + i) ∧ S 4 (6 + m) (14 * p + i) ≤ 8) {j1 : Nat} (hw1 : pw_ (N m p) (S 3 (6 + m) p) d (i + 1) j1) (hw : pw_ (N m p) (S 3 (6 + m) p) d j1 j) :
    rw_Q S Z a1 a2 a3 a4 s τ l (S 3 (6 + m) p) j b h (n + 1 + 2 * st) ((xm_R_begin2 τ (nI (42 * (6 + m) + (14 * p + i))) (nI l)).bind fun q => xq_R_run_70 n q a1 a2 a3 a4 0) (xm_N_combine W s 132 63 (nI l) (nI (5 - (d + 1))) (nI (S 4 (6 + m) (14 * p + i)))) := by
  have hbd := hB.1 (6 + m) (by omega)
  have hL := (hbd.2.2.1 p (by omega)).2
  have hj1 := pw_le _ _ _ hw1
  have hj := pw_le _ _ _ hw
  obtain ⟨τ2, g1, g2, g3, -, g5, g6⟩ := b2_n (l := l) hB r (by omega) hm (c := 14 * p + i) (by omega) (Or.inl (by omega)) (N := 2) (by omega) (Or.inr (Or.inr (Or.inr (Or.inr (Or.inr (Or.inr ⟨Or.inl ho, rfl⟩)))))) (q1 := 42 * (6 + m) + 14 * p + j1) (fun _ τ' e' => by
    rw [show 42 * (6 + m) + (14 * p + i) + 1 = 42 * (6 + m) + 14 * p + (i + 1) by omega]
    exact sr_end hB e' hm (by omega) hL hW (d := d) (by omega) hw1)
  obtain ⟨⟨o1, o2, o3⟩, t1, t2, t3⟩ := g5 rfl
  rw [show 42 * (6 + m) + (14 * p + i) + 1 = 42 * (6 + m) + 14 * p + (i + 1) by omega] at t2
  obtain ⟨y1, y2, y3⟩ := g6.2.2 l (by omega)
  have sub := IH l d m p x y (i + 1) j1 (b + 1 + 1) h n (st + 1) V s τ2 hl (by omega) (by omega) hm hld hp hw1 (by omega) (by omega) (by omega) (by omega) ⟨hs, hsf, hfr, g2, ⟨t1, t2, t3⟩, y1.trans hfx.1, y2.trans hfx.2.1, y3.trans hfx.2.2⟩
  rw [g1, b_some]
  unfold xm_N_combine
  rw [ar_p hd]
  obtain ⟨v1, σ1, st1, V1, e1, c1, hE1, hF1, q⟩ := sub
  rw [e1, b_some]
  dsimp only
  rcases q with ⟨f1, p1, n1, τ3, x1, R1, w1, k1, q1⟩ | ⟨f1, p1, τ3, x1, E1⟩
  · have hfr1 := fr_post hfr hF1 p1
    obtain ⟨u1, u2, u3⟩ := k1.1 b (by omega)
    obtain ⟨u4, u5, u6⟩ := k1.1 (b + 1) (by omega)
    obtain ⟨fx1, fx2, fx3⟩ := k1.2.2 l (by omega)
    have sub2 := IH l d m p x y j1 j (b + 1) (h + 1) n1 st1 V1 σ1 τ3 hl (by omega) (by omega) hm hld hp hw c1 (by omega) (by omega) (by omega) ⟨hE1, f1, hfr1, R1, ⟨u4.trans o1, u5.trans o2, u6.trans o3⟩, fx1.trans (y1.trans hfx.1), fx2.trans (y2.trans hfx.2.1), fx3.trans (y3.trans hfx.2.2)⟩
    obtain ⟨w2, σ2, st2, V2, e2, c2, hE2, hF2, q⟩ := sub2
    rw [e2, b_some, x1]
    dsimp only
    have kk : rk_ τ τ3 b h (l + 1) := rk_t (rk_w g6 (b := b) (h := h) (l := l + 1) (by omega) (by omega) (by omega)) k1 (by omega) (by omega) (by omega)
    rcases q with ⟨f2, p2, n2, τ5, x3, R3, w3, k3, q3⟩ | ⟨f2, p2, τ5, x3, E3⟩
    · obtain ⟨n2, rfl⟩ : ∃ n', n2 = n' + 1 + 1 := ⟨n2 - 2, by omega⟩
      obtain ⟨r1, r2, r3⟩ := k3.1 b (by omega)
      obtain ⟨R4, K4⟩ := rt_pop hB R3
      have hv1 : aw_p τ5 0 22 (nI b) 19 h = v1 := by rw [K4.2.1 h (by omega), k3.2.1 h (by omega)]; exact w1
      have hv2 : aw_p τ5 0 22 (nI b) 19 (h + 1) = w2 := by rw [K4.2.1 (h + 1) (by omega)]; exact w3
      obtain ⟨z1, z2⟩ := us_2 (l := l) (x := v1) (y := w2) hB R4 (by omega) hm (c := 14 * p + i) (by omega) ho hv1 hv2
      have st5 : xq_R_run_70 (n2 + 1 + 1) τ5 a1 a2 a3 a4 0 = (xm_R_use (aw_p τ5 0 22 (nI b)) (nI (42 * (6 + m) + (14 * p + i))) (nI l)).bind fun q => xq_R_run_70 (n2 + 1) q.2 a1 a2 a3 a4 q.1 := by
        rw [rr_1 R3 (by omega) (r1.trans (u1.trans g3.1)), r2, r3, u2, u3, g3.2.1, g3.2.2]
      have kk2 := rk_t (rk_t kk k3 (by omega) (by omega) (by omega)) K4 (by omega) (by omega) (by omega)
      rw [if_pos f2, x3, st5]
      have good : ∀ τ6, xm_R_use (aw_p τ5 0 22 (nI b)) (nI (42 * (6 + m) + (14 * p + i))) (nI l) = some (0, τ6) ∧ RT τ6 S Z st2 V2 b (h + 1) ∧ τ6 19 h = ar_ (S 4 (6 + m) (14 * p + i)) v1 w2 ∧ rk_ (aw_p τ5 0 22 (nI b)) τ6 300 h 300 → ∀ r, r = some (ar_ (S 4 (6 + m) (14 * p + i)) v1 w2, σ2) → rw_Q S Z a1 a2 a3 a4 s τ l (S 3 (6 + m) p) j b h (n + 1 + 2 * st) ((xm_R_use (aw_p τ5 0 22 (nI b)) (nI (42 * (6 + m) + (14 * p + i))) (nI l)).bind fun q => xq_R_run_70 (n2 + 1) q.2 a1 a2 a3 a4 q.1) r := by
        intro τ6 ⟨h1, h2, h3, h4⟩ r hr
        rw [h1, b_some]
        exact ⟨_, σ2, st2, V2, hr, c2, hE2, rf_t hF1 hF2, Or.inl ⟨f2, p2, n2 + 1, τ6, rfl, h2, h3, rk_t kk2 h4 (by omega) (by omega) (by omega), by omega⟩⟩
      rcases (show S 4 (6 + m) (14 * p + i) = 4 ∨ S 4 (6 + m) (14 * p + i) = 5 ∨ S 4 (6 + m) (14 * p + i) = 6 ∨ S 4 (6 + m) (14 * p + i) = 7 ∨ S 4 (6 + m) (14 * p + i) = 8 by omega) with o | o | o | o | o
      · obtain ⟨τ6, h1⟩ := z2 (fun z => by omega)
        refine good τ6 h1 _ ?_
        rw [o, if_pos (by decide)]; rfl
      · obtain ⟨τ6, h1⟩ := z2 (fun z => by omega)
        refine good τ6 h1 _ ?_
        rw [o, if_neg (by decide), if_pos (by decide)]; rfl
      · obtain ⟨τ6, h1⟩ := z2 (fun z => by omega)
        refine good τ6 h1 _ ?_
        rw [o, if_neg (by decide), if_neg (by decide), if_pos (by decide)]; rfl
      · by_cases hz : w2 = 0
        · obtain ⟨τ6, h1, h2⟩ := z1 ⟨o, hz⟩
          rw [h1, b_some, o, if_neg (by decide), if_neg (by decide), if_neg (by decide), if_pos (by decide), if_pos hz]
          unfold xm_N_fail
          rw [l_eq, b_some]
          dsimp only
          rw [rr_bad (by decide)]
          refine ⟨0, _, st2, V2, rfl, c2, ec_ft hE2 _, rf_t (rf_t hF1 hF2) (rf_lo (by omega)), Or.inr ⟨?_, ⟨j, hj.2, ?_⟩, τ6, ?_, h2⟩⟩
          · rw [aw_pe, up_e]; decide
          · rw [aw_pk (by omega)]; exact p2
          · rw [aw_pe, up_e]
        · obtain ⟨τ6, h1⟩ := z2 (fun z => hz z.2)
          refine good τ6 h1 _ ?_
          rw [o, if_neg (by decide), if_neg (by decide), if_neg (by decide), if_pos (by decide), if_neg hz, if_pos hz]; rfl
      · obtain ⟨τ6, h1⟩ := z2 (fun z => by omega)
        refine good τ6 h1 _ ?_
        rw [o, if_neg (by decide), if_neg (by decide), if_neg (by decide), if_neg (by decide), if_pos (by decide)]
        show (if w2 ≤ v1 then some ((0 : Int32), σ2) else some ((1 : Int32), σ2)) = some (if w2 ≤ v1 then 0 else 1, σ2)
        by_cases hq : w2 ≤ v1
        · rw [if_pos hq, if_pos hq]
        · rw [if_neg hq, if_neg hq]
    · rw [if_neg f2]
      exact ⟨0, σ2, st2, V2, rfl, c2, hE2, rf_t hF1 hF2, Or.inr ⟨f2, p2, τ5, x3, E3⟩⟩
  · rw [hWf σ1 m l _ hm hl f1 ((hF1.2 0 (by omega)).trans hfr.1), b_some]
    dsimp only
    rw [if_neg f1]
    exact ⟨0, σ1, st1, V1, rfl, c1, hE1, hF1, Or.inr ⟨f1, p1, τ3, x1, E1⟩⟩
end RW
