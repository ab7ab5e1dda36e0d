/-! compile: class and reference alike -/
theorem cm_neg {σ τ : aw_m} {S : gs_S} {Z : gs_Z} (h : ec_E σ S Z) (hr : er_E τ S Z) (hB : gs_B S) {x : Int32} (hx : x < 0 ∨ ∃ k, 6 ≤ k ∧ k < 2 ^ 31 ∧ x = nI k) : ∃ σ2 τ2, xm_S_compile σ x = some (-1, σ2) ∧ xm_R_compile τ x = some (-1, τ2) ∧ ec_E σ2 S (g3 Z 3 0 0 (-1)) ∧ er_E τ2 S (g3 Z 3 0 0 (-1)) := by
  refine ⟨aw_p σ 0 4 (-1), aw_p τ 0 13 (-1), ?_, ?_, ec_place h _, er_place hr hB _⟩
  · unfold xm_S_compile xm_S_isModule
    rw [l_eq]
    rcases hx with hx | ⟨k, h6, hk, rfl⟩
    · rw [if_pos hx, b_some, if_pos rfl]
    · rw [if_neg (nI_pos hk), if_pos (show (6 : Int32) ≤ nI k from nI_le (a := 6) h6 hk), b_some, if_pos rfl]
  · unfold xm_R_compile
    rw [l_eq]
    rcases hx with hx | ⟨k, h6, hk, rfl⟩
    · rw [ri_neg hx, b_some, if_pos rfl]
    · rw [nz_5, ri_big (by omega) hk, b_some, if_pos rfl]
theorem cm_all {σ τ : aw_m} {S : gs_S} {Z Z1 : gs_Z} (h : ec_E σ S Z) (hr : er_E τ S Z) (hB : gs_B S) (hg : S 9 0 0 < 2 ^ 30) {m : Nat} (hm : m < 6) (hZ1 : Z1 = g3 Z 3 0 0 (-1)) :
    (∀ w, gs_fp S Z1 m (S 1 12 0) 0 = some w → ∃ σ2 τ2, xm_S_compile σ (nI m) = some (-3, σ2) ∧ xm_R_compile τ (nI m) = some (-3, τ2) ∧ ec_E σ2 S (g3 Z1 3 0 0 (nI w)) ∧ er_E τ2 S (g3 Z1 3 0 0 (nI w))) ∧
    (gs_fp S Z1 m (S 1 12 0) 0 = none → ((S 5 m 0 ≠ 0 ∧ gs_if S m) → ∃ σ2 τ2, xm_S_compile σ (nI m) = some (nI (S 5 m 0), σ2) ∧ xm_R_compile τ (nI m) = some (nI (S 5 m 0), τ2) ∧ ec_E σ2 (gs_new S Z1 m) (gz_cp Z1 12 m) ∧ er_E τ2 (gs_new S Z1 m) (gz_cp Z1 12 m)) ∧
      (¬ (S 5 m 0 ≠ 0 ∧ gs_if S m) → ∃ σ2 τ2, xm_S_compile σ (nI m) = some (nI (S 9 0 0 + 1), σ2) ∧ xm_R_compile τ (nI m) = some (nI (S 9 0 0 + 1), τ2) ∧ ec_E σ2 (gs_new (gs_nk S m) Z1 m) (gz_cp Z1 12 m) ∧ er_E τ2 (gs_new (gs_nk S m) Z1 m) (gz_cp Z1 12 m))) := by
  have b1 := (hB.1 12 (by omega)).2.1
  have h1 : ec_E (aw_p σ 0 4 (-1)) S Z1 := by rw [hZ1]; exact ec_place h _
  have r1 : er_E (aw_p τ 0 13 (-1)) S Z1 := by rw [hZ1]; exact er_place hr hB _
  obtain ⟨v, e1⟩ := cf_lp hB hm (Z := Z1) (S 1 12 0) 0 (by omega) 64 _ (by omega) h1
  obtain ⟨a1, a2⟩ := rcm_lp hB hg hm (Z := Z1) (S 1 12 0) 0 (by omega) 64 _ (by omega) r1 (fun q hq => absurd hq (Nat.not_lt_zero q))
  have eR : xm_R_compile τ (nI m) = xq_R_compile_18 64 (aw_p τ 0 13 (-1)) (nI m) (nI 0) := by
    unfold xm_R_compile
    rw [l_eq, nz_5, ri_in (by omega) (by omega), b_some, if_neg (by decide)]; rfl
  have eS : xm_S_compile σ (nI m) = (xq_L_firstWrong_2 64 (aw_p σ 0 4 (-1)) 7 1 (nI m) (nI 0)).bind fun q_23 => (if q_23.1 = (-1 : Int32) then (xm_L_keep q_23.2 7 1 (nI m)).bind fun q_49 => some (q_49.1, q_49.2) else aw_l (aw_p q_23.2 0 4 q_23.1) fun s_34 => some ((-3 : Int32), s_34)) := by
    unfold xm_S_compile xm_S_isModule xm_L_firstWrong
    rw [l_eq, if_neg (nI_pos (by omega)), if_neg (show ¬ (6 : Int32) ≤ nI m from nI_ge (b := 6) hm (by omega)), b_some, if_neg (by decide)]; rfl
  rw [eR, eS, e1, b_some]
  dsimp only
  have h2 : ec_E (aw_p (aw_p σ 0 4 (-1)) 7 2 v) S Z1 := ec_at h1 v
  cases hf : gs_fp S Z1 m (S 1 12 0) 0 with
  | some w =>
    refine ⟨fun w2 hw => ?_, fun z => (by cases z)⟩
    cases hw
    have hwl : w < 2 ^ 31 := by
      have : ∀ r p w, p + r = S 1 12 0 → gs_fp S Z1 m r p = some w → w < 2 ^ 31 := by
        intro r
        induction r with
        | zero => intro p w _ z; cases z
        | succ r ih =>
          intro p w hp z
          rw [gs_fp] at z
          cases hq : gs_fw S Z1 m p with
          | some w1 =>
            rw [hq] at z; cases z
            have := fw_le hB (by omega) hq
            omega
          | none => rw [hq] at z; exact ih (p + 1) w (by omega) z
      exact this _ 0 w (by omega) hf
    obtain ⟨τ2, q1, q2⟩ := a1 w hf
    show ∃ σ2 τ2, (if nI w = (-1 : Int32) then _ else _) = _ ∧ _
    rw [if_neg (nI_ne1 hwl), l_eq]
    exact ⟨_, τ2, rfl, q1, ec_place h2 _, q2⟩
  | none =>
    refine ⟨fun w2 hw => (by cases hw), fun _ => ?_⟩
    obtain ⟨c1, c2⟩ := a2 hf
    obtain ⟨d1, d2⟩ := sc_keep h2 hB hm (fp_v hm hf)
    refine ⟨fun hz => ?_, fun hz => ?_⟩
    · obtain ⟨τ2, q1, q2⟩ := c1 hz
      obtain ⟨σ2, s1, s2⟩ := d1 hz
      refine ⟨σ2, τ2, ?_, q1, s2, q2⟩
      show (if (-1 : Int32) = (-1 : Int32) then _ else _) = _
      rw [if_pos rfl, s1, b_some]
    · obtain ⟨τ2, q1, q2⟩ := c2 hz
      obtain ⟨σ2, s1, s2⟩ := d2 hz
      refine ⟨σ2, τ2, ?_, q1, s2, q2⟩
      show (if (-1 : Int32) = (-1 : Int32) then _ else _) = _
      rw [if_pos rfl, s1, b_some]
