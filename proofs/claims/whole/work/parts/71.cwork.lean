/-! run: the class's work, one token -/
abbrev cw_W : Type := aw_m → Nat → Nat → Int32 → Int32 → Option (Int32 × aw_m)
def cw_D (W : cw_W) (s : aw_m) (l ar : Nat) (x y : Int32) (o : Nat) (a b : Int32) : Option (Int32 × aw_m) :=
  if o = 0 then some (a, s) else if o = 1 then some (if a = 0 then x else y, s) else if o = 2 then (xm_M_valueOf s 63 a b).bind fun q => some (q, s) else
  if o = 3 then xm_N_assign W s 132 63 (nI l) (nI ar) b else if o = 9 then xm_N_choose W s 132 63 (nI l) (nI ar) else if o = 11 then xm_N_enter W s 132 63 (nI l) (nI ar) a b else xm_N_combine W s 132 63 (nI l) (nI ar) (nI o)
theorem b_eta {α β : Type} (q : Option (α × β)) : (q.bind fun z => some (z.1, z.2)) = q := by cases q <;> rfl
section CW
variable {S : gs_S} {Z : gs_Z} {st m p l i : Nat} {V : Nat → Nat → Int32} {x y : Int32} {σ : aw_m} {W : cw_W}
theorem cw_fault (hm : m < 6) (hl : l < 6) (hf : σ 132 2 ≠ 0) (hfr : σ (134 + l) 0 = nI m) (a3 : Int32) : xm_N_work_b W σ 132 63 (nI l) a3 = some (0, σ) := by
  unfold xm_N_work_b
  rw [if_pos (in_nI hl (by omega)), tn_nI (by omega), show 132 + 1 + 1 + l = 134 + l by omega, hfr, if_pos (in_nI hm (by omega)), if_neg hf]
theorem cw_late (hB : gs_B S) (h : ec_E σ (rS S 120) (rZ Z V)) (hm : m < 6) (hl : l < 6) (hp : p < S 1 (6 + m) 0) (hi : i < S 3 (6 + m) p) {ar : Nat} (ha : ar ≤ 4) (hf : σ 132 2 = 0) (hfr : fr_ σ l m p x y i) : xm_N_work_b W σ 132 63 (nI l) (nI ar) = some (0, aw_p σ 132 2 (-10)) := by
  have hb := hB.1 (6 + m) (by omega)
  have hL := (hb.2.2.1 p (by omega)).2
  have el := sc_lengthOf h (rS_B hB (by omega)) (e := 6 + m) (p := p) (by omega) (by omega)
  rw [if_pos (show p < rS S 120 1 (6 + m) 0 from hp)] at el
  have el : xm_C_lengthOf σ (cb_ (6 + m)) (nI p) = some (nI (S 3 (6 + m) p)) := el
  have e7 : σ 132 1 = nI 120 := h.2.2.2.2.2.2
  obtain ⟨f1, f2, f3, f4, f5⟩ := hfr
  unfold xm_N_work_b xm_N_fail
  rw [if_pos (in_nI hl (by omega)), tn_nI (by omega), show 132 + 1 + 1 + l = 134 + l by omega, f1, if_pos (in_nI hm (by omega)), if_pos hf, if_neg (show ¬ (4 : Int32) < nI ar from nI_nlt (a := 4) ha (by omega)), tn_nI (by omega), ← cb_l hm, f2, el, b_some, f5, if_pos (nI_lt hi (by omega)), e7, if_neg (by decide), l_eq, b_some]
theorem cw_go (hB : gs_B S) (h : ec_E σ (rS S st) (rZ Z V)) (hst : st < 120) (hm : m < 6) (hl : l < 6) (hp : p < S 1 (6 + m) 0) (hi : i < S 3 (6 + m) p) {ar : Nat} (ha : ar ≤ 4) (hf : σ 132 2 = 0) (hfr : fr_ σ l m p x y i) :
    xm_N_work_b W σ 132 63 (nI l) (nI ar) = cw_D W (aw_p (aw_p σ 132 1 (nI (st + 1))) (134 + l) 4 (nI (i + 1))) l ar x y (S 4 (6 + m) (14 * p + i)) (Z 0 (6 + m) (14 * p + i)) (Z 1 (6 + m) (14 * p + i)) := by
  have hb := hB.1 (6 + m) (by omega)
  have hL := (hb.2.2.1 p (by omega)).2
  have hob := hb.2.2.2 (14 * p + i) (by omega)
  have el := sc_lengthOf h (rS_B hB (by omega)) (e := 6 + m) (p := p) (by omega) (by omega)
  rw [if_pos (show p < rS S st 1 (6 + m) 0 from hp)] at el
  have el : xm_C_lengthOf σ (cb_ (6 + m)) (nI p) = some (nI (S 3 (6 + m) p)) := el
  have e7 : σ 132 1 = nI st := h.2.2.2.2.2.2
  obtain ⟨f1, f2, f3, f4, f5⟩ := hfr
  obtain ⟨o1, o2, o3⟩ := (h.1 (6 + m) (by omega)).2.2.2 (14 * p + i) (by omega)
  have o1 : σ (cb_ (6 + m) + 3) (14 * p + i) = nI (S 4 (6 + m) (14 * p + i)) := o1
  have o2 : σ (cb_ (6 + m) + 4) (14 * p + i) = Z 0 (6 + m) (14 * p + i) := o2
  have o3 : σ (cb_ (6 + m) + 5) (14 * p + i) = Z 1 (6 + m) (14 * p + i) := o3
  have hcr := cb_r (e := 6 + m) (by omega)
  have hin : aw_in (nI (14 * p + i)) 42 = true := in_nI (by omega) (by omega)
  unfold xm_N_work_b xm_C_cellOf
  rw [if_pos (in_nI hl (by omega)), tn_nI (by omega), show 132 + 1 + 1 + l = 134 + l by omega, f1, if_pos (in_nI hm (by omega)), if_pos hf, if_neg (show ¬ (4 : Int32) < nI ar from nI_nlt (a := 4) ha (by omega)), tn_nI (by omega), ← cb_l hm, f2, el, b_some, f5, if_pos (nI_lt hi (by omega)), e7, if_pos (show nI st < (120 : Int32) from nI_lt (b := 120) hst (by omega)), l_eq, aw_pk (by omega), f2, f5, nz_14, mu_nI, ad_nI, b_some, l_eq, nz_1, ad_nI, ad_nI, show p * 14 + i = 14 * p + i by omega]
  obtain ⟨s, hs⟩ : ∃ s, s = aw_p (aw_p σ 132 1 (nI (st + 1))) (134 + l) 4 (nI (i + 1)) := ⟨_, rfl⟩
  have s1 : s (cb_ (6 + m) + 3) (14 * p + i) = nI (S 4 (6 + m) (14 * p + i)) := by rw [hs, aw_pk (by omega), aw_pk (by omega)]; exact o1
  have s2 : s (cb_ (6 + m) + 4) (14 * p + i) = Z 0 (6 + m) (14 * p + i) := by rw [hs, aw_pk (by omega), aw_pk (by omega)]; exact o2
  have s3 : s (cb_ (6 + m) + 5) (14 * p + i) = Z 1 (6 + m) (14 * p + i) := by rw [hs, aw_pk (by omega), aw_pk (by omega)]; exact o3
  rw [← hs]
  simp only [hin, if_true, b_eta]
  rw [tn_nI (by omega), s1, s2, s3]
  rw [hs]
  have g2 : aw_p (aw_p σ 132 1 (nI (st + 1))) (134 + l) 4 (nI (i + 1)) (134 + l) 2 = x := by rw [aw_pe, up_n (by omega), aw_pk (by omega)]; exact f3
  have g3 : aw_p (aw_p σ 132 1 (nI (st + 1))) (134 + l) 4 (nI (i + 1)) (134 + l) 3 = y := by rw [aw_pe, up_n (by omega), aw_pk (by omega)]; exact f4
  rw [g2, g3]
  generalize S 4 (6 + m) (14 * p + i) = o at hob
  unfold cw_D
  rcases (show o = 0 ∨ o = 1 ∨ o = 2 ∨ o = 3 ∨ o = 4 ∨ o = 5 ∨ o = 6 ∨ o = 7 ∨ o = 8 ∨ o = 9 ∨ o = 10 ∨ o = 11 by omega) with rfl | rfl | rfl | rfl | rfl | rfl | rfl | rfl | rfl | rfl | rfl | rfl
  · rfl
  · rw [if_neg (show ¬ nI 1 = (0 : Int32) by decide), if_pos (show nI 1 = nI 1 from rfl), if_neg (show ¬ (1 : Nat) = 0 by decide), if_pos (show (1 : Nat) = 1 from rfl)]
    by_cases hz : Z 0 (6 + m) (14 * p + i) = 0
    · rw [if_pos hz, if_pos hz]
    · rw [if_neg hz, if_neg hz]
  · rfl
  · rfl
  · rfl
  · rfl
  · rfl
  · rfl
  · rfl
  · rfl
  · rfl
  · rfl
end CW
