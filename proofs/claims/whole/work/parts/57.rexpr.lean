/-! compile: the reference's first wrong token -/
theorem er_s {τ : aw_m} {S : gs_S} {Z : gs_Z} (h : er_E τ S Z) {k : Nat} (hk : 13 ≤ k) (g : Nat → Int32) : er_E (aw_s τ k g) S Z := by
  have e : ∀ j, j < 13 → aw_s τ k g j = τ j := fun j hj => if_neg (by omega)
  unfold er_E er_C er_U at h ⊢
  simp (disch := omega) only [e]
  exact h
theorem aw_sp {τ : aw_m} {k i : Nat} {g : Nat → Int32} {v : Int32} : aw_p (aw_s τ k g) k i v = aw_s τ k (upd g i v) := by
  funext a
  unfold aw_p aw_s
  by_cases h : a = k
  · rw [if_pos h, if_pos h, if_pos rfl]
  · rw [if_neg h, if_neg h, if_neg h]
theorem aw_se {τ : aw_m} {k : Nat} {g : Nat → Int32} : aw_s τ k g k = g := if_pos rfl
theorem aw_sn {τ : aw_m} {k j : Nat} {g : Nat → Int32} (h : j ≠ k) : aw_s τ k g j = τ j := if_neg h
section RF
variable {τ : aw_m} {S : gs_S} {Z : gs_Z} {m p : Nat}
/-- the reference's loops, by numbers -/
def rf_F (τ : aw_m) (m p n : Nat) (g : Nat → Int32) (i o : Nat) (dn : Int32) : Option (Int32 × aw_m) := xq_R_firstWrong_8 n (aw_s τ 15 g) (nI (36 + p)) (nI m) (nI o) dn (nI i)
def rf_G (τ : aw_m) (m p n f : Nat) (g : Nat → Int32) (i o : Nat) (q : Int32) : Option (Int32 × aw_m) := xq_R_firstWrong_84 (xq_R_firstWrong_8 n) f (aw_s τ 15 g) (nI (36 + p)) (nI m) (nI o) 0 (nI i) q
theorem rf_end (h : er_E τ S Z) (hB : gs_B S) (hp : p < 3) {n i o : Nat} {g : Nat → Int32} (hi : S 3 12 p ≤ i) (hi2 : i < 2 ^ 31) : rf_F τ m p (n + 1) g i o 0 = some (nI (S 3 12 p), aw_s τ 15 g) := by
  have c3 : τ 5 (36 + p) = nI (S 3 12 p) := ((h.1 12 (by omega)).2.2.1 p hp).2
  have b2 := ((hB.1 12 (by omega)).2.2.1 p hp).2
  unfold rf_F
  rw [xq_R_firstWrong_8, if_pos (in_nI (by omega) (by omega)), tn_nI (by omega), aw_sn (by omega), c3, if_pos (nI_le hi hi2), if_pos rfl, if_pos (in_nI (by omega) (by omega))]
theorem rf_wrong (h : er_E τ S Z) (hB : gs_B S) (hg : ∀ e, e < 12 → S 5 e 0 < 2 ^ 31) (hm : m < 6) (hp : p < 3) {n i o : Nat} {g : Nat → Int32} (hi : i < S 3 12 p) (ho : o ≤ 5) (hw : o = 5 ∨ gs_pt S Z m p (14 * p + i) = none) : rf_F τ m p (n + 1) g i o 0 = some (nI i, aw_s τ 15 g) := by
  have c3 : τ 5 (36 + p) = nI (S 3 12 p) := ((h.1 12 (by omega)).2.2.1 p hp).2
  have b2 := ((hB.1 12 (by omega)).2.2.1 p hp).2
  have e1 := sr_partsOf (er_s h (k := 15) (by omega) g) hB hg hm hp (c := 14 * p + i) (by omega)
  unfold rf_F
  rw [xq_R_firstWrong_8, if_pos (in_nI (by omega) (by omega)), tn_nI (by omega), aw_sn (by omega), c3, if_neg (nI_ge hi (by omega)), nz_14, mu_nI, ad_nI, show 14 * (36 + p) + i = 504 + (14 * p + i) by omega, e1, b_some, if_pos rfl]
  cases hq : gs_pt S Z m p (14 * p + i) with
  | none =>
    show (if (-1 : Int32) < 0 then _ else _) = _
    rw [if_pos (by decide)]
  | some k =>
    have hk := pt_le hB (by omega) hq
    rcases hw with hw | hw
    · show (if nI k < 0 then _ else _) = _
      rw [if_neg (nI_pos (by omega)), hw, if_neg (show ¬ nI 5 ≤ (4 : Int32) by decide)]
    · rw [hq] at hw; cases hw
/-- a right token at open = 0 -/
theorem rf_tok0 (h : er_E τ S Z) (hB : gs_B S) (hg : ∀ e, e < 12 → S 5 e 0 < 2 ^ 31) (hm : m < 6) (hp : p < 3) {n i k : Nat} {g : Nat → Int32} (hi : i < S 3 12 p) (hq : gs_pt S Z m p (14 * p + i) = some k) : rf_F τ m p (n + 1) g i 0 0 = (if k = 0 then rf_G τ m p n 64 g i 0 (nI k) else rf_G τ m p n 64 (upd g 0 (nI k)) i 1 (nI k)) := by
  have c3 : τ 5 (36 + p) = nI (S 3 12 p) := ((h.1 12 (by omega)).2.2.1 p hp).2
  have b2 := ((hB.1 12 (by omega)).2.2.1 p hp).2
  have e1 := sr_partsOf (er_s h (k := 15) (by omega) g) hB hg hm hp (c := 14 * p + i) (by omega)
  rw [hq] at e1
  have e1 : xm_R_partsOf (aw_s τ 15 g) (nI (504 + (14 * p + i))) (nI (36 + p)) (nI m) = some (nI k) := e1
  have hk := pt_le hB (by omega) hq
  unfold rf_F rf_G
  rw [xq_R_firstWrong_8, if_pos (in_nI (by omega) (by omega)), tn_nI (by omega), aw_sn (by omega), c3, if_neg (nI_ge hi (by omega)), nz_14, mu_nI, ad_nI, show 14 * (36 + p) + i = 504 + (14 * p + i) by omega, e1, b_some, if_pos rfl, if_neg (nI_pos (by omega)), if_pos (show nI 0 ≤ (4 : Int32) by decide), if_pos (show nI 0 ≤ (0 : Int32) by decide)]
  by_cases hk0 : k = 0
  · rw [hk0, if_pos (show nI 0 ≤ (0 : Int32) by decide), if_pos rfl]
  · rw [if_neg (show ¬ nI k ≤ (0 : Int32) from nI_ge (a := 0) (by omega) (by omega)), if_neg hk0, if_pos (in_nI (by omega) (by omega)), tn_nI (by omega), l_eq, aw_sp, nz_1, ad_nI]
/-- a right token at open = o + 1 -/
theorem rf_tok (h : er_E τ S Z) (hB : gs_B S) (hg : ∀ e, e < 12 → S 5 e 0 < 2 ^ 31) (hm : m < 6) (hp : p < 3) {n i k o r : Nat} {g : Nat → Int32} (hi : i < S 3 12 p) (hq : gs_pt S Z m p (14 * p + i) = some k) (ho : o + 1 ≤ 4) (hr : g o = nI (r + 1)) : rf_F τ m p (n + 1) g i (o + 1) 0 = (if k = 0 then rf_G τ m p n 64 (upd g o (nI r)) i (o + 1) (nI k) else rf_G τ m p n 64 (upd (upd g o (nI r)) (o + 1) (nI k)) i (o + 2) (nI k)) := by
  have c3 : τ 5 (36 + p) = nI (S 3 12 p) := ((h.1 12 (by omega)).2.2.1 p hp).2
  have b2 := ((hB.1 12 (by omega)).2.2.1 p hp).2
  have e1 := sr_partsOf (er_s h (k := 15) (by omega) g) hB hg hm hp (c := 14 * p + i) (by omega)
  rw [hq] at e1
  have e1 : xm_R_partsOf (aw_s τ 15 g) (nI (504 + (14 * p + i))) (nI (36 + p)) (nI m) = some (nI k) := e1
  have hk := pt_le hB (by omega) hq
  unfold rf_F rf_G
  rw [xq_R_firstWrong_8, if_pos (in_nI (by omega) (by omega)), tn_nI (by omega), aw_sn (by omega), c3, if_neg (nI_ge hi (by omega)), nz_14, mu_nI, ad_nI, show 14 * (36 + p) + i = 504 + (14 * p + i) by omega, e1, b_some, if_pos rfl, if_neg (nI_pos (by omega)), if_pos (show nI (o + 1) ≤ (4 : Int32) from nI_le (b := 4) (by omega) (by omega)), if_neg (show ¬ nI (o + 1) ≤ (0 : Int32) from nI_ge (a := 0) (by omega) (by omega)), nz_1, su_nI (by omega), Nat.add_sub_cancel, if_pos (in_nI (by omega) (by omega)), if_pos (in_nI (by omega) (by omega)), tn_nI (by omega), l_eq, aw_sp, aw_se, hr, su_nI (by omega), Nat.add_sub_cancel]
  by_cases hk0 : k = 0
  · rw [hk0, if_pos (show nI 0 ≤ (0 : Int32) by decide), if_pos rfl]
  · rw [if_neg (show ¬ nI k ≤ (0 : Int32) from nI_ge (a := 0) (by omega) (by omega)), if_neg hk0, if_pos (in_nI (by omega) (by omega)), tn_nI (by omega), l_eq, aw_sp, ad_nI]
theorem rf_pop {n f i o : Nat} {g : Nat → Int32} {q : Int32} (ho : o < 15) (hg : g o = nI 0) : rf_G τ m p n (f + 1) g i (o + 1) q = rf_G τ m p n f g i o q := by
  unfold rf_G
  rw [xq_R_firstWrong_84, if_neg (show ¬ nI (o + 1) ≤ (0 : Int32) from nI_ge (a := 0) (by omega) (by omega)), nz_1, su_nI (by omega), Nat.add_sub_cancel, if_pos (in_nI (by omega) (by omega)), tn_nI (by omega), aw_se, hg, if_pos (show nI 0 = (0 : Int32) from rfl)]
  rw [show nI (o + 1) + -nI 1 = nI o from pk_m1 o]
theorem rf_stay {n f i o r : Nat} {g : Nat → Int32} {q : Int32} (ho : o < 15) (hr : r < 100) (hg : g o = nI (r + 1)) : rf_G τ m p n (f + 1) g i (o + 1) q = rf_F τ m p n g (i + 1) (o + 1) 0 := by
  unfold rf_G rf_F
  rw [xq_R_firstWrong_84, if_neg (show ¬ nI (o + 1) ≤ (0 : Int32) from nI_ge (a := 0) (by omega) (by omega)), nz_1, su_nI (by omega), Nat.add_sub_cancel, if_pos (in_nI (by omega) (by omega)), tn_nI (by omega), aw_se, hg, if_neg (show ¬ nI (r + 1) = (0 : Int32) from nI_ne0 (by omega) (by omega)), if_neg (show ¬ nI (o + 1) = (0 : Int32) from nI_ne0 (by omega) (by omega)), ad_nI]
theorem rf_done {n f i : Nat} {g : Nat → Int32} {q : Int32} : rf_G τ m p n (f + 1) g i 0 q = rf_F τ m p n g (i + 1) 0 1 := by
  unfold rf_G rf_F
  rw [xq_R_firstWrong_84, if_pos (show nI 0 ≤ (0 : Int32) by decide), if_pos (show nI 0 = (0 : Int32) from rfl), nz_1, ad_nI]
/-- what one expression, read from place i at open = o, does -/
def rf_R (τ : aw_m) (S : gs_S) (m p o n i : Nat) (g : Nat → Int32) (x : Bool × Nat) : Prop :=
  (x.1 = false → ∃ g2, rf_F τ m p n g i o 0 = some (nI x.2, aw_s τ 15 g2)) ∧
  (x.1 = true → ∃ n2 f2 g2 q, rf_F τ m p n g i o 0 = rf_G τ m p n2 (f2 + 1) g2 (x.2 - 1) o q ∧ S 3 12 p < x.2 + n2 ∧ i < x.2 ∧ 59 + o ≤ f2 + 1 ∧ (∀ j, j + 1 < o → g2 j = g j) ∧ (∀ r, o ≠ 0 → g (o - 1) = nI (r + 1) → g2 (o - 1) = nI r))
theorem rf_it {d o : Nat} (hd : d + (o + 1) = 5) (ih : ∀ (n i : Nat) (g : Nat → Int32) (r : Nat), r < 100 → g o = nI (r + 1) → i ≤ S 3 12 p → S 3 12 p < i + n → rf_R τ S m p (o + 1) n i g (gs_ex S Z m p d i)) :
    ∀ (r n i : Nat) (g : Nat → Int32), r < 100 → g o = nI (r + 1) → i ≤ S 3 12 p → S 3 12 p < i + n →
    ((gs_it (gs_ex S Z m p d) (r + 1) i).1 = false → ∃ g2, rf_F τ m p n g i (o + 1) 0 = some (nI (gs_it (gs_ex S Z m p d) (r + 1) i).2, aw_s τ 15 g2)) ∧
    ((gs_it (gs_ex S Z m p d) (r + 1) i).1 = true → ∃ n2 f2 g2 q, rf_F τ m p n g i (o + 1) 0 = rf_G τ m p n2 (f2 + 1) g2 ((gs_it (gs_ex S Z m p d) (r + 1) i).2 - 1) (o + 1) q ∧ S 3 12 p < (gs_it (gs_ex S Z m p d) (r + 1) i).2 + n2 ∧ i < (gs_it (gs_ex S Z m p d) (r + 1) i).2 ∧ 60 + o ≤ f2 + 1 ∧ (∀ j, j < o → g2 j = g j) ∧ g2 o = nI 0) := by
  intro r
  induction r with
  | zero =>
    intro n i g hr hg hi hn
    obtain ⟨a1, a2⟩ := ih n i g 0 hr hg hi hn
    rw [gs_it]
    by_cases ht : (gs_ex S Z m p d i).1 = true
    · rw [if_pos ht, gs_it]
      refine ⟨fun z => (by cases z), fun _ => ?_⟩
      obtain ⟨n2, f2, g2, q, b1, b2, b3, b4, b5, b6⟩ := a2 ht
      exact ⟨n2, f2, g2, q, b1, b2, b3, by omega, fun j hj => b5 j (by omega), b6 0 (by omega) hg⟩
    · rw [if_neg ht]
      refine ⟨fun _ => a1 (by cases hh : (gs_ex S Z m p d i).1 with | false => rfl | true => exact absurd hh ht), fun z => (by cases z)⟩
  | succ r ihr =>
    intro n i g hr hg hi hn
    obtain ⟨a1, a2⟩ := ih n i g (r + 1) hr hg hi hn
    rw [gs_it]
    by_cases ht : (gs_ex S Z m p d i).1 = true
    · rw [if_pos ht]
      obtain ⟨n2, f2, g2, q, b1, b2, b3, b4, b5, b6⟩ := a2 ht
      have hle := (ex_le (S := S) (Z := Z) (m := m) (p := p) d i hi).2
      have hg2 : g2 o = nI (r + 1) := b6 (r + 1) (by omega) hg
      rw [rf_stay (by omega) (by omega) hg2, show (gs_ex S Z m p d i).2 - 1 + 1 = (gs_ex S Z m p d i).2 by omega] at b1
      obtain ⟨c1, c2⟩ := ihr n2 (gs_ex S Z m p d i).2 g2 (by omega) hg2 hle b2
      refine ⟨fun z => ?_, fun z => ?_⟩
      · obtain ⟨g3', e⟩ := c1 z
        exact ⟨g3', b1.trans e⟩
      · obtain ⟨n3, f3, g3', q3, e1, e2, e3, e4, e5, e6⟩ := c2 z
        exact ⟨n3, f3, g3', q3, b1.trans e1, e2, by omega, e4, fun j hj => (e5 j hj).trans (b5 j (by omega)), e6⟩
    · rw [if_neg ht]
      refine ⟨fun _ => a1 (by cases hh : (gs_ex S Z m p d i).1 with | false => rfl | true => exact absurd hh ht), fun z => (by cases z)⟩
theorem rf_ex (h : er_E τ S Z) (hB : gs_B S) (hg : ∀ e, e < 12 → S 5 e 0 < 2 ^ 31) (hm : m < 6) (hp : p < 3) : ∀ (d o : Nat), d + o = 5 → ∀ (n i : Nat) (g : Nat → Int32) (r : Nat), r < 100 → (o ≠ 0 → g (o - 1) = nI (r + 1)) → i ≤ S 3 12 p → S 3 12 p < i + n → rf_R τ S m p o n i g (gs_ex S Z m p d i) := by
  have b2 := ((hB.1 12 (by omega)).2.2.1 p hp).2
  intro d
  induction d with
  | zero =>
    intro o ho n i g r hr hg0 hi hn
    obtain ⟨n, rfl⟩ : ∃ n', n = n' + 1 := ⟨n - 1, by omega⟩
    rw [gs_ex]
    refine ⟨fun _ => ⟨g, ?_⟩, fun z => (by cases z)⟩
    by_cases hl : i < S 3 12 p
    · exact rf_wrong h hB hg hm hp hl (by omega) (Or.inl (by omega))
    · rw [rf_end h hB hp (by omega) (by omega), show S 3 12 p = i by omega]
  | succ d ih =>
    intro o ho n i g r hr hg0 hi hn
    obtain ⟨n, rfl⟩ : ∃ n', n = n' + 1 := ⟨n - 1, by omega⟩
    rw [gs_ex]
    by_cases hl : i < S 3 12 p
    · rw [if_pos hl]
      cases hq : gs_pt S Z m p (14 * p + i) with
      | none => exact ⟨fun _ => ⟨g, rf_wrong h hB hg hm hp hl (by omega) (Or.inr hq)⟩, fun z => (by cases z)⟩
      | some k =>
        have hk := pt_le hB (by omega) hq
        show rf_R τ S m p o (n + 1) i g (gs_it (gs_ex S Z m p d) k (i + 1))
        -- the world behind the token: open o, its counts g1
        obtain ⟨g1, hF, hg1, hg1o⟩ : ∃ g1 : Nat → Int32, rf_F τ m p (n + 1) g i o 0 = (if k = 0 then rf_G τ m p n 64 g1 i o (nI k) else rf_G τ m p n 64 (upd g1 o (nI k)) i (o + 1) (nI k)) ∧ (∀ j, j + 1 < o → g1 j = g j) ∧ (o ≠ 0 → g1 (o - 1) = nI r) := by
          by_cases h0 : o = 0
          · subst h0
            exact ⟨g, rf_tok0 h hB hg hm hp hl hq, fun _ _ => rfl, fun z => absurd rfl z⟩
          · obtain ⟨o, rfl⟩ : ∃ o', o = o' + 1 := ⟨o - 1, by omega⟩
            have hgo : g o = nI (r + 1) := hg0 (by omega)
            refine ⟨upd g o (nI r), rf_tok h hB hg hm hp hl hq (by omega) hgo, fun j hj => up_n (by omega), fun _ => ?_⟩
            show upd g o (nI r) o = _
            exact up_e
        have hdec : ∀ r', o ≠ 0 → g (o - 1) = nI (r' + 1) → nI r = nI r' := by
          intro r' h1 h2
          have h3 := (hg0 h1).symm.trans h2
          have h4 : nI (r + 1) - 1 = nI (r' + 1) - 1 := by rw [h3]
          rw [nI_pred, nI_pred] at h4
          exact h4
        by_cases hk0 : k = 0
        · subst hk0
          rw [if_pos rfl] at hF
          refine ⟨fun z => (by cases z), fun _ => ⟨n, 63, g1, nI 0, hF, ?_, ?_, by omega, hg1, fun r' h1 h2 => (hg1o h1).trans (hdec r' h1 h2)⟩⟩
          · show S 3 12 p < i + 1 + n; omega
          · show i < i + 1; omega
        · rw [if_neg hk0] at hF
          obtain ⟨k, rfl⟩ : ∃ k', k = k' + 1 := ⟨k - 1, by omega⟩
          have hs : upd g1 o (nI (k + 1)) o = nI (k + 1) := up_e
          rw [show (64 : Nat) = 63 + 1 from rfl, rf_stay (by omega) (by omega) hs] at hF
          obtain ⟨c1, c2⟩ := rf_it (τ := τ) (d := d) (o := o) (by omega) (fun n i g r a b c e => ih (o + 1) (by omega) n i g r a (fun _ => b) c e) k n (i + 1) (upd g1 o (nI (k + 1))) (by omega) hs (by omega) (by omega)
          refine ⟨fun z => ?_, fun z => ?_⟩
          · obtain ⟨g2, e⟩ := c1 z
            exact ⟨g2, hF.trans e⟩
          · obtain ⟨n2, f2, g2, q, e1, e2, e3, e4, e5, e6⟩ := c2 z
            obtain ⟨f2, rfl⟩ : ∃ f', f2 = f' + 1 := ⟨f2 - 1, by omega⟩
            rw [rf_pop (by omega) e6] at e1
            refine ⟨n2, f2, g2, q, hF.trans e1, e2, by omega, by omega, fun j hj => ?_, fun r' h1 h2 => ?_⟩
            · rw [e5 j (by omega), up_n (by omega)]; exact hg1 j hj
            · rw [e5 (o - 1) (by omega), up_n (by omega)]; exact (hg1o h1).trans (hdec r' h1 h2)
    · rw [if_neg hl]
      refine ⟨fun _ => ⟨g, ?_⟩, fun z => (by cases z)⟩
      rw [rf_end h hB hp (by omega) (by omega), show S 3 12 p = i by omega]
theorem sr_firstWrong (h : er_E τ S Z) (hB : gs_B S) (hg : ∀ e, e < 12 → S 5 e 0 < 2 ^ 31) (hm : m < 6) (hp : p < 3) : ∃ g2, xm_R_firstWrong τ (nI (36 + p)) (nI m) = some (match gs_fw S Z m p with | none => -1 | some w => nI w, aw_s τ 15 g2) := by
  have b2 := ((hB.1 12 (by omega)).2.2.1 p hp).2
  have e0 : xm_R_firstWrong τ (nI (36 + p)) (nI m) = rf_F τ m p 64 (τ 15) 0 0 0 := by
    unfold xm_R_firstWrong rf_F
    rw [show aw_s τ 15 (τ 15) = τ from by funext a; unfold aw_s; by_cases h : a = 15 <;> simp [h]]
    rfl
  rw [e0]
  obtain ⟨a1, a2⟩ := rf_ex h hB hg hm hp 5 0 rfl 64 0 (τ 15) 0 (by omega) (fun z => absurd rfl z) (Nat.zero_le _) (by omega)
  have hle := (ex_le (S := S) (Z := Z) (m := m) (p := p) 5 0 (Nat.zero_le _)).2
  by_cases ht : (gs_ex S Z m p 5 0).1 = true
  · obtain ⟨n2, f2, g2, q, c1, c2, c3, c4, -, -⟩ := a2 ht
    rw [rf_done, show (gs_ex S Z m p 5 0).2 - 1 + 1 = (gs_ex S Z m p 5 0).2 by omega] at c1
    refine ⟨g2, c1.trans ?_⟩
    have c5 : τ 5 (36 + p) = nI (S 3 12 p) := ((h.1 12 (by omega)).2.2.1 p hp).2
    obtain ⟨n2, rfl⟩ : ∃ n', n2 = n' + 1 := ⟨n2 - 1, by omega⟩
    unfold rf_F
    rw [xq_R_firstWrong_8, if_pos (in_nI (by omega) (by omega)), tn_nI (by omega), aw_sn (by omega), c5]
    by_cases hj : (gs_ex S Z m p 5 0).2 = S 3 12 p
    · rw [if_pos (nI_le (by omega) (by omega)), if_neg (by decide), show gs_fw S Z m p = none by unfold gs_fw; rw [if_pos ⟨ht, hj⟩]]
    · have e1 := sr_partsOf (er_s h (k := 15) (by omega) g2) hB hg hm hp (c := 14 * p + (gs_ex S Z m p 5 0).2) (by omega)
      rw [if_neg (nI_ge (by omega) (by omega)), nz_14, mu_nI, ad_nI, show 14 * (36 + p) + (gs_ex S Z m p 5 0).2 = 504 + (14 * p + (gs_ex S Z m p 5 0).2) by omega, e1, b_some, if_neg (by decide), show gs_fw S Z m p = some (gs_ex S Z m p 5 0).2 by unfold gs_fw; rw [if_neg (fun z => hj z.2)]]
  · obtain ⟨g2, e⟩ := a1 (by cases hh : (gs_ex S Z m p 5 0).1 with | false => rfl | true => exact absurd hh ht)
    rw [show gs_fw S Z m p = some (gs_ex S Z m p 5 0).2 by unfold gs_fw; rw [if_neg (fun z => ht z.1)]]
    exact ⟨g2, e⟩
end RF
