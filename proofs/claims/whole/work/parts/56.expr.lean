/-! compile: expressions, on both sides -/
def gs_it (f : Nat → Bool × Nat) : Nat → Nat → Bool × Nat
  | 0, i => (true, i)
  | n + 1, i => if (f i).1 = true then gs_it f n (f i).2 else (false, (f i).2)
def gs_ex (S : gs_S) (Z : gs_Z) (m p : Nat) : Nat → Nat → Bool × Nat
  | 0, i => (false, i)
  | d + 1, i => if i < S 3 12 p then (match gs_pt S Z m p (14 * p + i) with | none => (false, i) | some n => gs_it (gs_ex S Z m p d) n (i + 1)) else (false, i)
theorem pt_le {S : gs_S} {Z : gs_Z} (hB : gs_B S) {m p c n : Nat} (hc : c < 42) (h : gs_pt S Z m p c = some n) : n ≤ 3 := by
  rcases gs_op hB hc with q | q | q | q | q | q | q | q
  · rw [pt_0 q] at h; cases h; omega
  · rw [pt_1 q] at h; split at h <;> cases h; omega
  · rw [pt_2 q] at h; obtain ⟨e, -, h⟩ := aw_bnd h; split at h <;> cases h; omega
  · rw [pt_3 q] at h; split at h <;> cases h; omega
  · rw [pt_9 q] at h; cases h; omega
  · rw [pt_11 q] at h
    obtain ⟨e, hs, h⟩ := aw_bnd h
    have he := (sn_lt hs).1
    by_cases hl : gs_lt (Z 1 12 c) (S 1 e 0) = true
    · rw [if_pos hl] at h; cases h
      have hb := hB.1 e he
      rcases ng_or (Z 1 12 c) with hb2 | ⟨v, hv, hb2⟩
      · rw [lt_ng hb2] at hl; cases hl
      · rw [hb2, lt_nn hv] at hl
        have hl := of_decide_eq_true hl
        rw [hb2, tn_nI hv]
        have := (hb.2.2.1 v (by have := hb.2.1; omega)).1
        omega
    · rw [if_neg hl] at h; cases h
  · rw [pt_d (Or.inl q)] at h; cases h; omega
  · rw [pt_d (Or.inr q)] at h; cases h; omega
theorem it_le {f : Nat → Bool × Nat} {b : Nat} (hf : ∀ i, i ≤ b → i ≤ (f i).2 ∧ (f i).2 ≤ b) : ∀ n i, i ≤ b → i ≤ (gs_it f n i).2 ∧ (gs_it f n i).2 ≤ b := by
  intro n
  induction n with
  | zero => intro i h; exact ⟨Nat.le_refl i, h⟩
  | succ n ih =>
    intro i h
    obtain ⟨h1, h2⟩ := hf i h
    rw [gs_it]
    by_cases ht : (f i).1 = true
    · rw [if_pos ht]; have := ih (f i).2 h2; omega
    · rw [if_neg ht]; exact ⟨h1, h2⟩
theorem ex_le {S : gs_S} {Z : gs_Z} {m p : Nat} : ∀ d i, i ≤ S 3 12 p → i ≤ (gs_ex S Z m p d i).2 ∧ (gs_ex S Z m p d i).2 ≤ S 3 12 p := by
  intro d
  induction d with
  | zero => intro i h; exact ⟨Nat.le_refl i, h⟩
  | succ d ih =>
    intro i h
    rw [gs_ex]
    by_cases hl : i < S 3 12 p
    · rw [if_pos hl]
      cases gs_pt S Z m p (14 * p + i) with
      | none => exact ⟨Nat.le_refl i, h⟩
      | some n => have := it_le ih n (i + 1) (by omega); exact ⟨by show i ≤ (gs_it _ n (i + 1)).2; omega, this.2⟩
    · rw [if_neg hl]; exact ⟨Nat.le_refl i, h⟩
theorem aw_pp {σ : aw_m} {k i : Nat} {x y : Int32} : aw_p (aw_p σ k i x) k i y = aw_p σ k i y := by
  funext a b
  by_cases h : a = k
  · subst h
    rw [aw_pe, aw_pe, aw_pe]
    by_cases h2 : b = i
    · subst h2; rw [up_e, up_e]
    · rw [up_n h2, up_n h2, up_n h2]
  · rw [aw_pk h, aw_pk h, aw_pk h]
theorem aw_ps {σ : aw_m} {k i : Nat} {x : Int32} (h : σ k i = x) : aw_p σ k i x = σ := by
  funext a b
  by_cases h1 : a = k
  · subst h1
    rw [aw_pe]
    by_cases h2 : b = i
    · subst h2; rw [up_e, h]
    · rw [up_n h2]
  · rw [aw_pk h1]
theorem ec_at {σ : aw_m} {S : gs_S} {Z : gs_Z} (h : ec_E σ S Z) (v : Int32) : ec_E (aw_p σ 7 2 v) S Z := by
  obtain ⟨h1, h2, h3, h4, h5, h6, h7⟩ := h
  refine ⟨fun e he => ?_, fun e he => ?_, fun m hm w hw => ?_, ?_, ?_, ?_, ?_⟩
  · have hc := cb_r he
    exact ec_kC (h1 e he) (fun j hj => aw_pk (by omega)) (fun _ _ _ => rfl) (fun _ _ _ => rfl)
  · have hv := ub_r he
    exact ec_kU (h2 e he) (fun j hj => aw_pk (by omega)) (fun _ _ _ _ => rfl)
  · rw [aw_pk (by omega)]; exact h3 m hm w hw
  · rw [aw_pe, up_n (by omega)]; exact h4
  · rw [aw_pk (by omega)]; exact h5
  · rw [aw_pk (by omega)]; exact h6
  · rw [aw_pk (by omega)]; exact h7
theorem ce_it {S : gs_S} {Z : gs_Z} {m p : Nat} (hl : S 3 12 p ≤ 14) (W : aw_m → Nat → Nat → Int32 → Int32 → Int32 → Option (Int32 × aw_m)) (f : Nat → Bool × Nat) (a : Int32) (c : Int32) (hf : ∀ i, i ≤ S 3 12 p → i ≤ (f i).2 ∧ (f i).2 ≤ S 3 12 p)
    (hW : ∀ (σ : aw_m) (i : Nat), ec_E σ S Z → i ≤ S 3 12 p → σ 7 2 = nI i → W σ 7 1 (nI m) (nI p) (a + 1) = some (if (f i).1 = true then 1 else 0, aw_p σ 7 2 (nI (f i).2))) :
    ∀ (r n k : Nat), n ≤ 3 → k + r = n → ∀ (g : Nat) (σ : aw_m) (i : Nat), r < g → ec_E σ S Z → i ≤ S 3 12 p → σ 7 2 = nI i → xq_L_isExpression_68 W g σ 7 1 (nI m) (nI p) a c (nI n) (nI k) = some (if (gs_it f r i).1 = true then 1 else 0, aw_p σ 7 2 (nI (gs_it f r i).2)) := by
  intro r
  induction r with
  | zero =>
    intro n k hn hk g σ i hg h hi hs
    obtain ⟨g, rfl⟩ : ∃ g', g = g' + 1 := ⟨g - 1, by omega⟩
    rw [xq_L_isExpression_68, if_pos (nI_le (by omega) (by omega)), gs_it, if_pos rfl, aw_ps hs]
  | succ r ih =>
    intro n k hn hk g σ i hg h hi hs
    obtain ⟨g, rfl⟩ : ∃ g', g = g' + 1 := ⟨g - 1, by omega⟩
    rw [xq_L_isExpression_68, if_neg (nI_ge (by omega) (by omega)), hW σ i h hi hs, b_some, gs_it]
    dsimp only
    by_cases ht : (f i).1 = true
    · rw [if_pos ht, if_neg (by decide), if_pos ht, nz_1, ad_nI]
      have := ih n (k + 1) hn (by omega) g (aw_p σ 7 2 (nI (f i).2)) (f i).2 (by omega) (ec_at h _) (hf i hi).2 (by rw [aw_pe, up_e])
      rw [aw_pp] at this
      exact this
    · rw [if_neg ht, if_pos rfl, if_neg ht]; rfl
theorem ce_ex {S : gs_S} {Z : gs_Z} (hB : gs_B S) {m p : Nat} (hm : m < 6) (hp : p < S 1 12 0) : ∀ (d : Nat), d ≤ 5 → ∀ (g : Nat) (σ : aw_m) (i : Nat), d < g → ec_E σ S Z → i ≤ S 3 12 p → σ 7 2 = nI i →
    xm_L_isExpression g σ 7 1 (nI m) (nI p) (nI (5 - d)) = some (if (gs_ex S Z m p d i).1 = true then 1 else 0, aw_p σ 7 2 (nI (gs_ex S Z m p d i).2)) := by
  have b1 := (hB.1 12 (by omega)).2.1
  have b2 := ((hB.1 12 (by omega)).2.2.1 p (by omega)).2
  intro d
  induction d with
  | zero =>
    intro _ g σ i hg h hi hs
    obtain ⟨g, rfl⟩ : ∃ g', g = g' + 1 := ⟨g - 1, by omega⟩
    show xm_L_isExpression_b _ σ 7 1 (nI m) (nI p) (nI 5) = _
    unfold xm_L_isExpression_b
    rw [if_pos (show (4 : Int32) < nI 5 by decide), gs_ex, aw_ps hs]; rfl
  | succ d ih =>
    intro hd g σ i hg h hi hs
    obtain ⟨g, rfl⟩ : ∃ g', g = g' + 1 := ⟨g - 1, by omega⟩
    have el : xm_C_lengthOf σ 1 (nI p) = some (nI (S 3 12 p)) := by
      have := sc_lengthOf h hB (e := 12) (p := p) (by omega) (by omega)
      rw [if_pos hp] at this
      exact this
    show xm_L_isExpression_b (xm_L_isExpression g) σ 7 1 (nI m) (nI p) (nI (5 - (d + 1))) = _
    unfold xm_L_isExpression_b xm_C_cellOf
    rw [if_neg (show ¬ (4 : Int32) < nI (5 - (d + 1)) from nI_nlt (a := 4) (by omega) (by omega)), el, b_some, hs, gs_ex]
    by_cases hl : i < S 3 12 p
    · rw [if_pos (nI_lt hl (by omega)), if_pos hl, nz_14, mu_nI, ad_nI, b_some, show p * 14 + i = 14 * p + i by omega, sc_isRight h hB hm hp (by omega), b_some]
      cases hq : gs_pt S Z m p (14 * p + i) with
      | none =>
        show (if (0 : Int32) = 0 then some ((0 : Int32), σ) else _) = some (if (false, i).1 = true then 1 else 0, aw_p σ 7 2 (nI i))
        rw [if_pos rfl, aw_ps hs]; rfl
      | some n =>
        have hn := pt_le hB (by omega) hq
        show (if (1 : Int32) = 0 then some ((0 : Int32), σ) else _) = _
        rw [if_neg (by decide), sc_partsOf h hB hm (by omega) hq, b_some, l_eq, nz_1, ad_nI]
        have := ce_it b2 (xm_L_isExpression g) (gs_ex S Z m p d) (nI (5 - (d + 1))) (nI (14 * p + i)) (fun j hj => ex_le d j hj)
          (fun σ2 j h2 hj hs2 => by
            have := ih (by omega) g σ2 j (by omega) h2 hj hs2
            rw [nz_1, ad_nI, show 5 - (d + 1) + 1 = 5 - d by omega]
            exact this) n n 0 hn (by omega) 64 (aw_p σ 7 2 (nI (i + 1))) (i + 1) (by omega) (ec_at h _) (by omega) (by rw [aw_pe, up_e])
        rw [aw_pp] at this
        exact this
    · rw [if_neg (nI_nlt (by omega) (by omega)), if_neg hl, aw_ps hs]; rfl
/-- the place of the first wrong token of procedure p, if there is one -/
def gs_fw (S : gs_S) (Z : gs_Z) (m p : Nat) : Option Nat := if (gs_ex S Z m p 5 0).1 = true ∧ (gs_ex S Z m p 5 0).2 = S 3 12 p then none else some (gs_ex S Z m p 5 0).2
def gs_fp (S : gs_S) (Z : gs_Z) (m : Nat) : Nat → Nat → Option Nat
  | 0, _ => none
  | n + 1, p => match gs_fw S Z m p with | some w => some (16 * p + w) | none => gs_fp S Z m n (p + 1)
theorem fw_le {S : gs_S} {Z : gs_Z} (hB : gs_B S) {m p w : Nat} (hp : p < 3) (h : gs_fw S Z m p = some w) : w ≤ 14 := by
  unfold gs_fw at h
  have := (ex_le (S := S) (Z := Z) (m := m) (p := p) 5 0 (Nat.zero_le _)).2
  have b2 := ((hB.1 12 (by omega)).2.2.1 p hp).2
  split at h
  · cases h
  · cases h; omega
theorem cf_lp {S : gs_S} {Z : gs_Z} (hB : gs_B S) {m : Nat} (hm : m < 6) : ∀ (r p : Nat), p + r = S 1 12 0 → ∀ (g : Nat) (σ : aw_m), r < g → ec_E σ S Z →
    ∃ v, xq_L_firstWrong_2 g σ 7 1 (nI m) (nI p) = some (match gs_fp S Z m r p with | none => -1 | some w => nI w, aw_p σ 7 2 v) := by
  have b1 := (hB.1 12 (by omega)).2.1
  intro r
  induction r with
  | zero =>
    intro p hp g σ hg h
    obtain ⟨g, rfl⟩ : ∃ g', g = g' + 1 := ⟨g - 1, by omega⟩
    have c2 : σ 1 1 = nI (S 1 12 0) := (h.1 12 (by omega)).2.1
    refine ⟨σ 7 2, ?_⟩
    rw [xq_L_firstWrong_2, c2, if_pos (nI_le (by omega) (by omega)), gs_fp, aw_ps rfl]
  | succ r ih =>
    intro p hp g σ hg h
    obtain ⟨g, rfl⟩ : ∃ g', g = g' + 1 := ⟨g - 1, by omega⟩
    have c2 : σ 1 1 = nI (S 1 12 0) := (h.1 12 (by omega)).2.1
    have b2 := ((hB.1 12 (by omega)).2.2.1 p (by omega)).2
    have hex := (ex_le (S := S) (Z := Z) (m := m) (p := p) 5 0 (Nat.zero_le _)).2
    have e1 := ce_ex hB hm (p := p) (by omega) 5 (by omega) 8 (aw_p σ 7 2 0) 0 (by omega) (ec_at h _) (Nat.zero_le _) (by rw [aw_pe, up_e]; rfl)
    rw [aw_pp] at e1
    have h2 := ec_at h (nI (gs_ex S Z m p 5 0).2)
    have el : xm_C_lengthOf (aw_p σ 7 2 (nI (gs_ex S Z m p 5 0).2)) 1 (nI p) = some (nI (S 3 12 p)) := by
      have := sc_lengthOf h2 hB (e := 12) (p := p) (by omega) (by omega)
      rw [if_pos (by omega)] at this
      exact this
    have e2 : xm_L_isExpression 8 (aw_p σ 7 2 0) 7 1 (nI m) (nI p) 0 = _ := e1
    rw [xq_L_firstWrong_2, c2, if_neg (nI_ge (by omega) (by omega)), l_eq, e2, b_some, gs_fp]
    dsimp only
    by_cases ht : (gs_ex S Z m p 5 0).1 = true
    · rw [if_pos ht, if_neg (by decide)]
      show ∃ v, ((xm_C_lengthOf (aw_p σ 7 2 (nI (gs_ex S Z m p 5 0).2)) 1 (nI p)).bind _) = _
      rw [el, b_some]
      show ∃ v, (if nI (S 3 12 p) ≤ aw_p σ 7 2 (nI (gs_ex S Z m p 5 0).2) 7 2 then _ else _) = _
      rw [aw_pe, up_e]
      by_cases hj : (gs_ex S Z m p 5 0).2 = S 3 12 p
      · rw [show gs_fw S Z m p = none by unfold gs_fw; rw [if_pos ⟨ht, hj⟩], if_pos (nI_le (by omega) (by omega)), nz_1, ad_nI]
        obtain ⟨v, hv⟩ := ih (p + 1) (by omega) g _ (by omega) h2
        rw [aw_pp] at hv
        exact ⟨v, hv⟩
      · rw [show gs_fw S Z m p = some (gs_ex S Z m p 5 0).2 by unfold gs_fw; rw [if_neg (fun z => hj z.2)], if_neg (nI_ge (by omega) (by omega)), nz_16, mu_nI, ad_nI]
        exact ⟨_, rfl⟩
    · rw [if_neg ht, if_pos rfl, show gs_fw S Z m p = some (gs_ex S Z m p 5 0).2 by unfold gs_fw; rw [if_neg (fun z => ht z.1)]]
      show ∃ v, some (16 * nI p + aw_p σ 7 2 (nI (gs_ex S Z m p 5 0).2) 7 2, _) = _
      rw [aw_pe, up_e, nz_16, mu_nI, ad_nI]
      exact ⟨_, rfl⟩
