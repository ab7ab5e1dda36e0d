/-! run: the reference's steps -/
section RS_
variable {τ : aw_m} {S : gs_S} {Z : gs_Z} {st b h n : Nat} {V : Nat → Nat → Int32} {a1 a2 a3 a4 : Int32}
theorem rr_bad {v : Int32} (hv : v ≠ 0) : xq_R_run_70 (n + 1) τ a1 a2 a3 a4 v = some (v, τ) := by
  rw [xq_R_run_70]
  simp only [hv, if_false]
  split <;> rfl
theorem rr_0 (r : RT τ S Z st V (b + 1) h) (hb : b < 300) (hst : st ≤ 120) (ht : τ 16 b = 0) : xq_R_run_70 (n + 1) τ a1 a2 a3 a4 0 = (if st = 120 then xq_R_run_70 n (aw_p τ 0 22 (nI b)) a1 a2 a3 a4 (-10) else (xm_R_begin2 (aw_p τ 0 22 (nI b)) (τ 17 b) (τ 18 b)).bind fun q => xq_R_run_70 n q a1 a2 a3 a4 0) := by
  obtain ⟨e, r1, r2⟩ := r
  have es : aw_p τ 0 22 (nI b) 0 15 = nI st := by rw [aw_pe, up_n (by omega)]; exact e.2.2.2.2.2.2
  have eb : aw_p τ 0 22 (nI b) 0 22 = nI b := by rw [aw_pe, up_e]
  rw [xq_R_run_70, r1, if_neg (show ¬ nI (b + 1) ≤ (0 : Int32) from nI_ge (a := 0) (by omega) (by omega)), if_pos rfl, l_eq, nI_pred, eb, if_pos (in_nI hb (by omega)), if_pos (in_nI hb (by omega)), if_pos (in_nI hb (by omega)), tn_nI (by omega), aw_pk (k' := 16) (by omega), ht, if_pos rfl, es, aw_pk (k' := 17) (by omega), aw_pk (k' := 18) (by omega)]
  by_cases hq : st = 120
  · rw [hq, if_pos (show nI 120 = (120 : Int32) from rfl), if_pos rfl]
  · rw [if_neg (show ¬ nI st = (120 : Int32) from fun z => hq ((nI_eq (b := 120) (by omega) (by omega)).mp z)), if_neg hq]
theorem rr_1 (r : RT τ S Z st V (b + 1) h) (hb : b < 300) (ht : τ 16 b = 1) : xq_R_run_70 (n + 1) τ a1 a2 a3 a4 0 = (xm_R_use (aw_p τ 0 22 (nI b)) (τ 17 b) (τ 18 b)).bind fun q => xq_R_run_70 n q.2 a1 a2 a3 a4 q.1 := by
  obtain ⟨e, r1, r2⟩ := r
  have eb : aw_p τ 0 22 (nI b) 0 22 = nI b := by rw [aw_pe, up_e]
  rw [xq_R_run_70, r1, if_neg (show ¬ nI (b + 1) ≤ (0 : Int32) from nI_ge (a := 0) (by omega) (by omega)), if_pos rfl, l_eq, nI_pred, eb, if_pos (in_nI hb (by omega)), if_pos (in_nI hb (by omega)), if_pos (in_nI hb (by omega)), tn_nI (by omega), aw_pk (k' := 16) (by omega), ht, if_neg (by decide), if_pos (in_nI hb (by omega)), if_pos rfl, aw_pk (k' := 17) (by omega), aw_pk (k' := 18) (by omega)]
theorem rr_2 (r : RT τ S Z st V (b + 1) h) (hb : b < 300) (ht : τ 16 b = 2) : xq_R_run_70 (n + 1) τ a1 a2 a3 a4 0 = (xm_R_take (aw_p τ 0 22 (nI b))).bind fun q => xq_R_run_70 n q.2 a1 a2 a3 a4 0 := by
  obtain ⟨e, r1, r2⟩ := r
  have eb : aw_p τ 0 22 (nI b) 0 22 = nI b := by rw [aw_pe, up_e]
  rw [xq_R_run_70, r1, if_neg (show ¬ nI (b + 1) ≤ (0 : Int32) from nI_ge (a := 0) (by omega) (by omega)), if_pos rfl, l_eq, nI_pred, eb, if_pos (in_nI hb (by omega)), if_pos (in_nI hb (by omega)), if_pos (in_nI hb (by omega)), tn_nI (by omega), aw_pk (k' := 16) (by omega), ht, if_neg (by decide), if_pos (in_nI hb (by omega)), if_neg (by decide), if_pos (in_nI hb (by omega)), if_pos rfl]
theorem rr_3 (r : RT τ S Z st V (b + 1) h) (hb : b < 300) (ht : τ 16 b = 3) : xq_R_run_70 (n + 1) τ a1 a2 a3 a4 0 = (xm_R_end (aw_p τ 0 22 (nI b)) (τ 17 b + 1)).bind fun q_205 => (xm_R_take (aw_p τ 0 22 (nI b))).bind fun q_213 => (if q_213.1 = 0 then (xm_R_end q_213.2 q_205).bind fun q_227 => (xm_R_push q_213.2 0 q_227 (τ 18 b)).bind fun q_232 => xq_R_run_70 n q_232 a1 a2 a3 a4 0 else (xm_R_push q_213.2 0 q_205 (τ 18 b)).bind fun q_232 => xq_R_run_70 n q_232 a1 a2 a3 a4 0) := by
  obtain ⟨e, r1, r2⟩ := r
  have eb : aw_p τ 0 22 (nI b) 0 22 = nI b := by rw [aw_pe, up_e]
  rw [xq_R_run_70, r1, if_neg (show ¬ nI (b + 1) ≤ (0 : Int32) from nI_ge (a := 0) (by omega) (by omega)), if_pos rfl, l_eq, nI_pred, eb, if_pos (in_nI hb (by omega)), if_pos (in_nI hb (by omega)), if_pos (in_nI hb (by omega)), tn_nI (by omega), aw_pk (k' := 16) (by omega), ht, if_neg (by decide), if_pos (in_nI hb (by omega)), if_neg (by decide), if_pos (in_nI hb (by omega)), if_neg (by decide), aw_pk (k' := 17) (by omega), aw_pk (k' := 18) (by omega)]
variable {m p i l c : Nat} {x y : Int32}
/-- the token's cells in the reference -/
theorem rc_tok (e : er_E τ (rS S st) (rZ Z V)) (hm : m < 6) (hc : c < 42) : τ 6 (42 * (6 + m) + c) = nI (S 4 (6 + m) c) ∧ τ 7 (42 * (6 + m) + c) = Z 0 (6 + m) c ∧ τ 8 (42 * (6 + m) + c) = Z 1 (6 + m) c :=
  (e.1 (6 + m) (by omega)).2.2.2 c hc
theorem b2_leaf (hB : gs_B S) (r : RT τ S Z st V b h) (hh : h < 300) (hm : m < 6) (hc : c < 42) (hl : l < 6) (hx : τ 22 l = x ∧ τ 23 l = y) {v : Int32}
    (ho : (S 4 (6 + m) c = 0 ∧ v = Z 0 (6 + m) c) ∨ (S 4 (6 + m) c = 1 ∧ v = if Z 0 (6 + m) c = 0 then x else y) ∨ (S 4 (6 + m) c = 2 ∧ ∃ k w, k < 6 ∧ w < 3 ∧ Z 0 (6 + m) c = nI k ∧ Z 1 (6 + m) c = nI w ∧ v = V k w)) :
    ∃ τ2, xm_R_begin2 τ (nI (42 * (6 + m) + c)) (nI l) = some τ2 ∧ RT τ2 S Z (st + 1) V b (h + 1) ∧ τ2 19 h = v ∧ rk_ τ τ2 300 h 300 := by
  have es : τ 0 15 = nI st := r.1.2.2.2.2.2.2
  obtain ⟨s1, s2⟩ := rt_step hB r
  obtain ⟨t1, t2, t3⟩ := rc_tok s1.1 hm hc
  obtain ⟨τ2, g1, g2, g3, g4⟩ := rt_give hB s1 hh v
  refine ⟨τ2, ?_, g2, g3, rk_t (rk_w s2 (b := 300) (h := h) (l := 300) (by omega) (by omega) (by omega)) g4 (by omega) (by omega) (by omega)⟩
  have hin : aw_in (nI (42 * (6 + m) + c)) 546 = true := in_nI (by omega) (by omega)
  obtain ⟨f1, f2, f3⟩ := s2.2.2 l (by omega)
  unfold xm_R_begin2
  rw [l_eq, es, nz_1, ad_nI, if_pos hin, tn_nI (by omega), t1, t2, t3]
  rcases ho with ⟨o, rfl⟩ | ⟨o, hv⟩ | ⟨o, k, w, hk, hw, e1, e2, rfl⟩
  · rw [o, if_pos (by decide), if_pos hin, g1, b_some]
  · rw [o, if_neg (by decide), if_pos (by decide), if_pos hin, tn_nI (by omega), f2, f3, hx.1, hx.2]
    by_cases hz : Z 0 (6 + m) c = 0
    · rw [if_pos hz] at hv ⊢
      rw [if_pos (in_nI hl (by omega)), ← hv, g1, b_some]
    · rw [if_neg hz] at hv ⊢
      rw [if_pos (in_nI hl (by omega)), ← hv, g1, b_some]
  · have hval : aw_p τ 0 15 (nI (st + 1)) 12 (3 * k + w) = V k w := s1.1.2.2.1 k hk w hw
    rw [o, if_neg (by decide), if_neg (by decide), if_pos (by decide), if_pos hin, if_pos hin, e1, e2, nz_3, mu_nI, ad_nI, if_pos (in_nI (by omega) (by omega)), tn_nI (by omega), hval, g1, b_some]
theorem b2_9 (hB : gs_B S) (r : RT τ S Z st V b h) (hb : b < 290) (hm : m < 6) (hc : c < 42) (ho : S 4 (6 + m) c = 9) :
    ∃ τ2, xm_R_begin2 τ (nI (42 * (6 + m) + c)) (nI l) = some τ2 ∧ RT τ2 S Z (st + 1) V (b + 1 + 1) h ∧ (τ2 16 b = 3 ∧ τ2 17 b = nI (42 * (6 + m) + c) ∧ τ2 18 b = nI l) ∧ (τ2 16 (b + 1) = 0 ∧ τ2 17 (b + 1) = nI (42 * (6 + m) + c + 1) ∧ τ2 18 (b + 1) = nI l) ∧ rk_ τ τ2 b 300 300 := by
  have es : τ 0 15 = nI st := r.1.2.2.2.2.2.2
  obtain ⟨s1, s2⟩ := rt_step hB r
  obtain ⟨t1, t2, t3⟩ := rc_tok s1.1 hm hc
  have hin : aw_in (nI (42 * (6 + m) + c)) 546 = true := in_nI (by omega) (by omega)
  obtain ⟨τ2, g1, g2, g3, g4⟩ := rt_push hB s1 (by omega) 3 (nI (42 * (6 + m) + c)) (nI l)
  obtain ⟨τ3, k1, k2, k3, k4⟩ := rt_push hB g2 (by omega) 0 (nI (42 * (6 + m) + c + 1)) (nI l)
  obtain ⟨y1, y2, y3⟩ := k4.1 b (by omega)
  refine ⟨τ3, ?_, k2, ⟨y1.trans g3.1, y2.trans g3.2.1, y3.trans g3.2.2⟩, k3, rk_t (rk_t (rk_w s2 (b := b) (h := 300) (l := 300) (by omega) (by omega) (by omega)) g4 (by omega) (by omega) (by omega)) k4 (by omega) (by omega) (by omega)⟩
  unfold xm_R_begin2
  rw [l_eq, es, nz_1, ad_nI, if_pos hin, tn_nI (by omega), t1, ho, if_neg (by decide), if_neg (by decide), if_neg (by decide), if_pos (by decide), ad_nI, g1, b_some, k1, b_some]
theorem b2_10 (hB : gs_B S) (r : RT τ S Z st V b h) (hb : b < 290) (hm : m < 6) (hc : c < 42) (ho : S 4 (6 + m) c = 10) {q1 : Nat} (he : ∀ τ', er_E τ' (rS S (st + 1)) (rZ Z V) → xm_R_end τ' (nI (42 * (6 + m) + c + 1)) = some (nI q1)) :
    ∃ τ2, xm_R_begin2 τ (nI (42 * (6 + m) + c)) (nI l) = some τ2 ∧ RT τ2 S Z (st + 1) V (b + 1 + 1 + 1) h ∧ (τ2 16 b = 0 ∧ τ2 17 b = nI q1 ∧ τ2 18 b = nI l) ∧ (τ2 16 (b + 1) = 2) ∧ (τ2 16 (b + 1 + 1) = 0 ∧ τ2 17 (b + 1 + 1) = nI (42 * (6 + m) + c + 1) ∧ τ2 18 (b + 1 + 1) = nI l) ∧ rk_ τ τ2 b 300 300 := by
  have es : τ 0 15 = nI st := r.1.2.2.2.2.2.2
  obtain ⟨s1, s2⟩ := rt_step hB r
  obtain ⟨t1, t2, t3⟩ := rc_tok s1.1 hm hc
  have hin : aw_in (nI (42 * (6 + m) + c)) 546 = true := in_nI (by omega) (by omega)
  obtain ⟨τ2, g1, g2, g3, g4⟩ := rt_push hB s1 (by omega) 0 (nI q1) (nI l)
  obtain ⟨τ3, k1, k2, k3, k4⟩ := rt_push hB g2 (by omega) 2 (nI (42 * (6 + m) + c)) (nI l)
  obtain ⟨τ4, j1, j2, j3, j4⟩ := rt_push hB k2 (by omega) 0 (nI (42 * (6 + m) + c + 1)) (nI l)
  obtain ⟨y1, y2, y3⟩ := k4.1 b (by omega)
  obtain ⟨w1, w2, w3⟩ := j4.1 b (by omega)
  obtain ⟨v1, -, -⟩ := j4.1 (b + 1) (by omega)
  refine ⟨τ4, ?_, j2, ⟨w1.trans (y1.trans g3.1), w2.trans (y2.trans g3.2.1), w3.trans (y3.trans g3.2.2)⟩, v1.trans k3.1, j3, rk_t (rk_t (rk_t (rk_w s2 (b := b) (h := 300) (l := 300) (by omega) (by omega) (by omega)) g4 (by omega) (by omega) (by omega)) k4 (by omega) (by omega) (by omega)) j4 (by omega) (by omega) (by omega)⟩
  unfold xm_R_begin2
  rw [l_eq, es, nz_1, ad_nI, if_pos hin, tn_nI (by omega), t1, ho, if_neg (by decide), if_neg (by decide), if_neg (by decide), if_neg (by decide), if_pos (by decide), ad_nI, he _ s1.1, b_some, g1, b_some, k1, b_some, j1, b_some]
theorem b2_n (hB : gs_B S) (r : RT τ S Z st V b h) (hb : b < 290) (hm : m < 6) (hc : c < 42) (ho : (3 ≤ S 4 (6 + m) c ∧ S 4 (6 + m) c ≤ 8) ∨ S 4 (6 + m) c = 11) {N : Nat} (hN : N ≤ 2) (ht : rx_tk S Z m c N) {q1 : Nat} (he : N = 2 → ∀ τ', er_E τ' (rS S (st + 1)) (rZ Z V) → xm_R_end τ' (nI (42 * (6 + m) + c + 1)) = some (nI q1)) :
    ∃ τ2, xm_R_begin2 τ (nI (42 * (6 + m) + c)) (nI l) = some τ2 ∧ RT τ2 S Z (st + 1) V (b + 1 + N) h ∧ (τ2 16 b = 1 ∧ τ2 17 b = nI (42 * (6 + m) + c) ∧ τ2 18 b = nI l) ∧ (N = 1 → τ2 16 (b + 1) = 0 ∧ τ2 17 (b + 1) = nI (42 * (6 + m) + c + 1) ∧ τ2 18 (b + 1) = nI l) ∧ (N = 2 → (τ2 16 (b + 1) = 0 ∧ τ2 17 (b + 1) = nI q1 ∧ τ2 18 (b + 1) = nI l) ∧ (τ2 16 (b + 1 + 1) = 0 ∧ τ2 17 (b + 1 + 1) = nI (42 * (6 + m) + c + 1) ∧ τ2 18 (b + 1 + 1) = nI l)) ∧ rk_ τ τ2 b 300 300 := by
  have es : τ 0 15 = nI st := r.1.2.2.2.2.2.2
  obtain ⟨s1, s2⟩ := rt_step hB r
  obtain ⟨t1, t2, t3⟩ := rc_tok s1.1 hm hc
  have hob := (hB.1 (6 + m) (by omega)).2.2.2 c hc
  have hin : aw_in (nI (42 * (6 + m) + c)) 546 = true := in_nI (by omega) (by omega)
  obtain ⟨τ2, g1, g2, g3, g4⟩ := rt_push hB s1 (by omega) 1 (nI (42 * (6 + m) + c)) (nI l)
  have hpt := sr_parts hB g2.1 hm hc ht
  have base : xm_R_begin2 τ (nI (42 * (6 + m) + c)) (nI l) = (if nI N = (2 : Int32) then (xm_R_end τ2 (nI (42 * (6 + m) + c + 1))).bind fun q_191 => (xm_R_push τ2 (0 : Int32) q_191 (nI l)).bind fun q_195 => (if nI N ≤ 0 then some q_195 else (xm_R_push q_195 (0 : Int32) (nI (42 * (6 + m) + c + 1)) (nI l)).bind fun q_209 => some q_209) else (if nI N ≤ 0 then some τ2 else (xm_R_push τ2 (0 : Int32) (nI (42 * (6 + m) + c + 1)) (nI l)).bind fun q_209 => some q_209)) := by
    unfold xm_R_begin2
    have z0 : ¬ nI (S 4 (6 + m) c) = (0 : Int32) := fun z => by have := (nI_eq (b := 0) (by omega) (by omega)).mp z; omega
    have z1 : ¬ nI (S 4 (6 + m) c) = nI 1 := fun z => by have := (nI_eq (by omega) (by omega)).mp z; omega
    have z2 : ¬ nI (S 4 (6 + m) c) = (2 : Int32) := fun z => by have := (nI_eq (b := 2) (by omega) (by omega)).mp z; omega
    have z9 : ¬ nI (S 4 (6 + m) c) = (9 : Int32) := fun z => by have := (nI_eq (b := 9) (by omega) (by omega)).mp z; omega
    have z10 : ¬ nI (S 4 (6 + m) c) = (10 : Int32) := fun z => by have := (nI_eq (b := 10) (by omega) (by omega)).mp z; omega
    rw [l_eq, es, nz_1, ad_nI, if_pos hin, tn_nI (by omega), t1, if_neg z0, if_neg z1, if_neg z2, if_neg z9, if_neg z10, ad_nI]
    have g1 : xm_R_push (aw_p τ 0 15 (nI (st + 1))) (nI 1) (nI (42 * (6 + m) + c)) (nI l) = some τ2 := g1
    rw [g1, b_some, hpt, b_some]
  have kk := rk_t (rk_w s2 (b := b) (h := 300) (l := 300) (by omega) (by omega) (by omega)) g4 (by omega) (by omega) (by omega)
  rw [base]
  rcases (show N = 0 ∨ N = 1 ∨ N = 2 by omega) with rfl | rfl | rfl
  · rw [if_neg (by decide), if_pos (by decide)]
    exact ⟨τ2, rfl, g2, g3, fun z => absurd z (by omega), fun z => absurd z (by omega), kk⟩
  · obtain ⟨τ3, k1, k2, k3, k4⟩ := rt_push hB g2 (by omega) 0 (nI (42 * (6 + m) + c + 1)) (nI l)
    obtain ⟨y1, y2, y3⟩ := k4.1 b (by omega)
    rw [if_neg (by decide), if_neg (by decide), k1, b_some]
    exact ⟨τ3, rfl, k2, ⟨y1.trans g3.1, y2.trans g3.2.1, y3.trans g3.2.2⟩, fun _ => k3, fun z => absurd z (by omega), rk_t kk k4 (by omega) (by omega) (by omega)⟩
  · obtain ⟨τ3, k1, k2, k3, k4⟩ := rt_push hB g2 (by omega) 0 (nI q1) (nI l)
    obtain ⟨τ4, j1, j2, j3, j4⟩ := rt_push hB k2 (by omega) 0 (nI (42 * (6 + m) + c + 1)) (nI l)
    obtain ⟨y1, y2, y3⟩ := k4.1 b (by omega)
    obtain ⟨w1, w2, w3⟩ := j4.1 b (by omega)
    obtain ⟨v1, v2, v3⟩ := j4.1 (b + 1) (by omega)
    rw [if_pos (by decide), he rfl _ g2.1, b_some, k1, b_some, if_neg (by decide), j1, b_some]
    exact ⟨τ4, rfl, j2, ⟨w1.trans (y1.trans g3.1), w2.trans (y2.trans g3.2.1), w3.trans (y3.trans g3.2.2)⟩, fun z => absurd z (by omega), fun _ => ⟨⟨v1.trans k3.1, v2.trans k3.2.1, v3.trans k3.2.2⟩, j3⟩, rk_t (rk_t kk k4 (by omega) (by omega) (by omega)) j4 (by omega) (by omega) (by omega)⟩
def ar_ (o : Nat) (x y : Int32) : Int32 := if o = 4 then x + y else if o = 5 then x - y else if o = 6 then x * y else if o = 8 then (if y ≤ x then 0 else 1) else x / y
theorem us_2 (hB : gs_B S) (r : RT τ S Z st V b (h + 1 + 1)) (hh : h < 290) (hm : m < 6) (hc : c < 42) (ho : 4 ≤ S 4 (6 + m) c ∧ S 4 (6 + m) c ≤ 8) (hx : τ 19 h = x) (hy : τ 19 (h + 1) = y) :
    ((S 4 (6 + m) c = 7 ∧ y = 0) → ∃ τ2, xm_R_use τ (nI (42 * (6 + m) + c)) (nI l) = some (-8, τ2) ∧ er_E τ2 (rS S st) (rZ Z V)) ∧
    (¬ (S 4 (6 + m) c = 7 ∧ y = 0) → ∃ τ2, xm_R_use τ (nI (42 * (6 + m) + c)) (nI l) = some (0, τ2) ∧ RT τ2 S Z st V b (h + 1) ∧ τ2 19 h = ar_ (S 4 (6 + m) c) x y ∧ rk_ τ τ2 300 h 300) := by
  obtain ⟨t1, t2, t3⟩ := rc_tok r.1 hm hc
  have hin : aw_in (nI (42 * (6 + m) + c)) 546 = true := in_nI (by omega) (by omega)
  have hpt := sr_parts (n := 2) hB r.1 hm hc (Or.inr (Or.inr (Or.inr (Or.inr (Or.inr (Or.inr ⟨Or.inl ho, rfl⟩))))))
  obtain ⟨τ2, g1, g2, g4⟩ := rt_take hB r (by omega)
  obtain ⟨τ3, k1, k2, k4⟩ := rt_take hB g2 (by omega)
  rw [hy] at g1
  rw [g4.2.1 h (by omega), hx] at k1
  obtain ⟨τ4, j1, j2, j3, j4⟩ := rt_give hB k2 (by omega) (ar_ (S 4 (6 + m) c) x y)
  have kk : rk_ τ τ4 300 h 300 := rk_t (rk_w (rk_t g4 k4 (by omega) (by omega) (by omega)) (b := 300) (h := h) (l := 300) (by omega) (by omega) (by omega)) j4 (by omega) (by omega) (by omega)
  unfold xm_R_use
  rw [if_pos hin, hpt, b_some, if_pos (show nI 2 = (2 : Int32) from rfl), g1, b_some, if_neg (show ¬ nI 2 ≤ (0 : Int32) by decide)]
  dsimp only
  rw [k1, b_some]
  dsimp only
  rw [tn_nI (by omega), t1]
  rcases (show S 4 (6 + m) c = 4 ∨ S 4 (6 + m) c = 5 ∨ S 4 (6 + m) c = 6 ∨ S 4 (6 + m) c = 7 ∨ S 4 (6 + m) c = 8 by omega) with o | o | o | o | o
  · rw [o] at j1 j3 ⊢
    rw [if_neg (by decide), if_neg (by decide), if_neg (by decide), if_neg (by decide), if_pos (by decide)]
    refine ⟨fun z => absurd z.1 (by omega), fun _ => ⟨τ4, ?_, j2, j3, kk⟩⟩
    have j1 : xm_R_give τ3 (x + y) = some τ4 := j1
    rw [j1, b_some]
  · rw [o] at j1 j3 ⊢
    rw [if_neg (by decide), if_neg (by decide), if_neg (by decide), if_neg (by decide), if_neg (by decide), if_pos (by decide)]
    refine ⟨fun z => absurd z.1 (by omega), fun _ => ⟨τ4, ?_, j2, j3, kk⟩⟩
    have j1 : xm_R_give τ3 (x - y) = some τ4 := j1
    rw [j1, b_some]
  · rw [o] at j1 j3 ⊢
    rw [if_neg (by decide), if_neg (by decide), if_neg (by decide), if_neg (by decide), if_neg (by decide), if_neg (by decide), if_pos (by decide)]
    refine ⟨fun z => absurd z.1 (by omega), fun _ => ⟨τ4, ?_, j2, j3, kk⟩⟩
    have j1 : xm_R_give τ3 (x * y) = some τ4 := j1
    rw [j1, b_some]
  · rw [o] at j1 j3 ⊢
    rw [if_neg (show ¬ nI 7 = (11 : Int32) by decide), if_pos (show nI 7 = (7 : Int32) from rfl)]
    refine ⟨fun z => ?_, fun z => ?_⟩
    · rw [if_pos z.2]
      exact ⟨τ3, rfl, k2.1⟩
    · have hy0 : ¬ y = 0 := fun w => z ⟨rfl, w⟩
      rw [if_neg hy0, if_neg (by decide), if_neg (by decide), if_neg (by decide), if_neg (by decide), if_neg (by decide), if_neg (by decide)]
      unfold xm_R_quotient
      have j1 : xm_R_give τ3 (x / y) = some τ4 := j1
      rw [if_neg hy0, if_pos hy0, b_some, j1, b_some]
      exact ⟨τ4, rfl, j2, j3, kk⟩
  · rw [o] at j1 j3 ⊢
    rw [if_neg (by decide), if_neg (by decide), if_neg (by decide), if_neg (by decide), if_neg (by decide), if_neg (by decide), if_neg (by decide), if_pos (by decide)]
    refine ⟨fun z => absurd z.1 (by omega), fun _ => ⟨τ4, ?_, j2, j3, kk⟩⟩
    have j1 : xm_R_give τ3 (if y ≤ x then 0 else 1) = some τ4 := j1
    by_cases hq : y ≤ x
    · rw [if_pos hq] at j1 ⊢
      rw [j1, b_some]
    · rw [if_neg hq] at j1 ⊢
      rw [j1, b_some]
theorem us_3 (hB : gs_B S) (r : RT τ S Z st V b (h + 1)) (hh : h < 290) (hm : m < 6) (hc : c < 42) (hl : l < 6) (ho : S 4 (6 + m) c = 3) (hx : τ 19 h = x) (hf : τ 20 l = nI m) {v : Nat} (hv : Z 1 (6 + m) c = nI v) (hv0 : v < S 0 (6 + m) 0) :
    ∃ τ2, xm_R_use τ (nI (42 * (6 + m) + c)) (nI l) = some (0, τ2) ∧ RT τ2 S Z st (vu_ V m v x) b (h + 1) ∧ τ2 19 h = x ∧ rk_ τ τ2 300 h 300 := by
  obtain ⟨t1, t2, t3⟩ := rc_tok r.1 hm hc
  have hb0 := (hB.1 (6 + m) (by omega)).1
  have hin : aw_in (nI (42 * (6 + m) + c)) 546 = true := in_nI (by omega) (by omega)
  have hpt := sr_parts (n := 1) hB r.1 hm hc (Or.inr (Or.inr (Or.inr (Or.inl ⟨ho, rfl, v, hv, hv0⟩))))
  obtain ⟨τ2, g1, g2, g4⟩ := rt_take hB r (by omega)
  rw [hx] at g1
  obtain ⟨k2, k4⟩ := rt_set hB g2 hm (v := v) (by omega) x
  obtain ⟨τ4, j1, j2, j3, j4⟩ := rt_give hB k2 (by omega) x
  obtain ⟨-, -, t4⟩ := rc_tok g2.1 hm hc
  refine ⟨τ4, ?_, j2, j3, rk_t (rk_w (rk_t g4 k4 (by omega) (by omega) (by omega)) (b := 300) (h := h) (l := 300) (by omega) (by omega) (by omega)) j4 (by omega) (by omega) (by omega)⟩
  unfold xm_R_use
  rw [if_pos hin, hpt, b_some, if_neg (show ¬ nI 1 = (2 : Int32) by decide), if_neg (show ¬ nI 1 ≤ (0 : Int32) by decide), g1, b_some]
  dsimp only
  rw [tn_nI (by omega), t1, ho, if_neg (by decide), if_neg (by decide), if_pos (by decide), if_pos (in_nI hl (by omega)), if_pos hin, tn_nI (by omega)]
  simp only [(g4.2.2 l (by omega)).1, hf, t4, hv]
  rw [nz_3, mu_nI, ad_nI, if_pos (in_nI (by omega) (by omega)), l_eq, if_pos rfl, tn_nI (by omega), j1, b_some]
theorem us_11 (hB : gs_B S) {N : Nat} (hN : N ≤ 2) (r : RT τ S Z st V b (h + N)) (hh : h < 290) (hb : b < 290) (hm : m < 6) (hc : c < 42) (hl : l < 6) (ho : S 4 (6 + m) c = 11) (ht : rx_tk S Z m c N) {k v : Nat} (e1 : Z 0 (6 + m) c = nI k) (e2 : Z 1 (6 + m) c = nI v)
    (hx : x = if N = 0 then 0 else τ 19 h) (hy : y = if N = 2 then τ 19 (h + 1) else 0) :
    (l = 5 → ∃ τ2, xm_R_use τ (nI (42 * (6 + m) + c)) (nI l) = some (-9, τ2) ∧ er_E τ2 (rS S st) (rZ Z V)) ∧
    (l < 5 → ∃ τ2, xm_R_use τ (nI (42 * (6 + m) + c)) (nI l) = some (0, τ2) ∧ RT τ2 S Z st V (b + 1) h ∧ (τ2 16 b = 0 ∧ τ2 17 b = nI (42 * (6 + k) + 14 * v + 0) ∧ τ2 18 b = nI (l + 1)) ∧ (τ2 20 (l + 1) = nI k ∧ τ2 22 (l + 1) = x ∧ τ2 23 (l + 1) = y) ∧ rk_ τ τ2 b h (l + 1)) := by
  obtain ⟨t1, t2, t3⟩ := rc_tok r.1 hm hc
  have hin : aw_in (nI (42 * (6 + m) + c)) 546 = true := in_nI (by omega) (by omega)
  have hpt := sr_parts hB r.1 hm hc ht
  have tail : ∀ τ3, RT τ3 S Z st V b h → rk_ τ τ3 300 h 300 →
      (l = 5 → ∃ τ2, (if nI l = (5 : Int32) then some ((-9 : Int32), τ3) else (xm_R_enter τ3 (nI l + 1) (τ3 7 (42 * (6 + m) + c)) (τ3 8 (42 * (6 + m) + c)) x y).bind fun q_79 => some ((0 : Int32), q_79)) = some (-9, τ2) ∧ er_E τ2 (rS S st) (rZ Z V)) ∧
      (l < 5 → ∃ τ2, (if nI l = (5 : Int32) then some ((-9 : Int32), τ3) else (xm_R_enter τ3 (nI l + 1) (τ3 7 (42 * (6 + m) + c)) (τ3 8 (42 * (6 + m) + c)) x y).bind fun q_79 => some ((0 : Int32), q_79)) = some (0, τ2) ∧ RT τ2 S Z st V (b + 1) h ∧ (τ2 16 b = 0 ∧ τ2 17 b = nI (42 * (6 + k) + 14 * v + 0) ∧ τ2 18 b = nI (l + 1)) ∧ (τ2 20 (l + 1) = nI k ∧ τ2 22 (l + 1) = x ∧ τ2 23 (l + 1) = y) ∧ rk_ τ τ2 b h (l + 1)) := by
    intro τ3 R3 K3
    refine ⟨fun z => ?_, fun z => ?_⟩
    · subst z
      rw [if_pos (show nI 5 = (5 : Int32) from rfl)]
      exact ⟨τ3, rfl, R3.1⟩
    · obtain ⟨-, w2, w3⟩ := rc_tok R3.1 hm hc
      obtain ⟨τ4, p1, p2, p3, p4, p5⟩ := rt_enter hB R3 (by omega) (f := l + 1) (m := k) (p := v) (by omega) x y
      rw [if_neg (fun w => by have := (nI_eq (b := 5) (by omega) (by omega)).mp w; omega), w2, w3, e1, e2, nz_1, ad_nI, p1, b_some]
      exact ⟨τ4, rfl, p2, p3, p4, rk_t (rk_w K3 (b := b) (h := h) (l := l + 1) (by omega) (by omega) (by omega)) p5 (by omega) (by omega) (by omega)⟩
  unfold xm_R_use
  rw [if_pos hin, hpt, b_some]
  rcases (show N = 0 ∨ N = 1 ∨ N = 2 by omega) with rfl | rfl | rfl
  · rw [if_pos rfl] at hx
    rw [if_neg (by omega)] at hy
    rw [if_neg (show ¬ nI 0 = (2 : Int32) by decide), if_pos (show nI 0 ≤ (0 : Int32) by decide), tn_nI (by omega), t1, ho, if_pos (by decide), if_pos hin, if_pos hin, ← hx]
    have e := tail τ r ⟨fun _ _ => ⟨rfl, rfl, rfl⟩, fun _ _ => rfl, fun _ _ => ⟨rfl, rfl, rfl⟩⟩
    rw [hy, hx] at e ⊢
    exact e
  · rw [if_neg (by omega)] at hx
    rw [if_neg (by omega)] at hy
    obtain ⟨τ2, g1, g2, g4⟩ := rt_take hB r (by omega)
    rw [← hx] at g1
    rw [if_neg (show ¬ nI 1 = (2 : Int32) by decide), if_neg (show ¬ nI 1 ≤ (0 : Int32) by decide), g1, b_some]
    dsimp only
    rw [tn_nI (by omega), t1, ho, if_pos (by decide), if_pos hin, if_pos hin]
    have e := tail τ2 g2 (rk_w g4 (by omega) (by omega) (by omega))
    rw [hy] at e ⊢
    exact e
  · rw [if_neg (by omega)] at hx
    rw [if_pos rfl] at hy
    obtain ⟨τ2, g1, g2, g4⟩ := rt_take hB (h := h + 1) r (by omega)
    obtain ⟨τ3, k1, k2, k4⟩ := rt_take hB g2 (by omega)
    rw [← hy] at g1
    rw [g4.2.1 h (by omega), ← hx] at k1
    rw [if_pos (show nI 2 = (2 : Int32) from rfl), g1, b_some, if_neg (show ¬ nI 2 ≤ (0 : Int32) by decide)]
    dsimp only
    rw [k1, b_some]
    dsimp only
    rw [tn_nI (by omega), t1, ho, if_pos (by decide), if_pos hin, if_pos hin]
    exact tail τ3 k2 (rk_w (rk_t g4 k4 (by omega) (by omega) (by omega)) (by omega) (by omega) (by omega))
end RS_
