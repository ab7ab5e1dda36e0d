/-! a compiled object is right against the keys that it names -/
theorem st_mem {S : gs_S} {Z : gs_Z} {e m c k : Nat} {x : gi_T} (h : gi_mem x.2 k x.1 = true) : gi_mem (gi_st S Z e m c x).2 k (gi_st S Z e m c x).1 = true := by
  unfold gi_st
  by_cases hq : gi_nm S Z e m c = true ∧ gi_mem x.2 (Z 0 e c).toNatClampNeg x.1 = false
  · rw [if_pos hq]
    show gi_mem (gi_up x.2 x.1 _) k (x.1 + 1) = true
    rw [mem_add, h]; rfl
  · rw [if_neg hq]; exact h
theorem st_nm {S : gs_S} {Z : gs_Z} {e m c : Nat} {x : gi_T} (h : gi_nm S Z e m c = true) : gi_mem (gi_st S Z e m c x).2 (Z 0 e c).toNatClampNeg (gi_st S Z e m c x).1 = true := by
  unfold gi_st
  by_cases hq : gi_mem x.2 (Z 0 e c).toNatClampNeg x.1 = false
  · rw [if_pos ⟨h, hq⟩]
    show gi_mem (gi_up x.2 x.1 _) _ (x.1 + 1) = true
    rw [mem_add, decide_eq_true rfl, Bool.or_true]
  · rw [if_neg (fun z => hq z.2)]
    cases hb : gi_mem x.2 (Z 0 e c).toNatClampNeg x.1 with
    | false => exact absurd hb hq
    | true => rfl
theorem gii_mem {S : gs_S} {Z : gs_Z} {e m p k : Nat} : ∀ r i x, gi_mem x.2 k x.1 = true → gi_mem (gi_i S Z e m p r i x).2 k (gi_i S Z e m p r i x).1 = true := by
  intro r
  induction r with
  | zero => intro i x h; exact h
  | succ r ih => intro i x h; exact ih (i + 1) _ (st_mem h)
theorem gii_all {S : gs_S} {Z : gs_Z} {e m p j : Nat} (hn : gi_nm S Z e m (14 * p + j) = true) : ∀ r i x, i ≤ j → j < i + r → gi_mem (gi_i S Z e m p r i x).2 (Z 0 e (14 * p + j)).toNatClampNeg (gi_i S Z e m p r i x).1 = true := by
  intro r
  induction r with
  | zero => intro i x h1 h2; omega
  | succ r ih =>
    intro i x h1 h2
    by_cases hq : i = j
    · subst hq
      exact gii_mem r (i + 1) _ (st_nm hn)
    · exact ih (i + 1) _ (by omega) (by omega)
theorem gip_mem {S : gs_S} {Z : gs_Z} {e m k : Nat} : ∀ r p x, gi_mem x.2 k x.1 = true → gi_mem (gi_p S Z e m r p x).2 k (gi_p S Z e m r p x).1 = true := by
  intro r
  induction r with
  | zero => intro p x h; exact h
  | succ r ih => intro p x h; exact ih (p + 1) _ (gii_mem _ _ _ h)
theorem gip_all {S : gs_S} {Z : gs_Z} {e m q j : Nat} (hn : gi_nm S Z e m (14 * q + j) = true) (hj : j < S 3 e q) : ∀ r p x, p ≤ q → q < p + r → gi_mem (gi_p S Z e m r p x).2 (Z 0 e (14 * q + j)).toNatClampNeg (gi_p S Z e m r p x).1 = true := by
  intro r
  induction r with
  | zero => intro p x h1 h2; omega
  | succ r ih =>
    intro p x h1 h2
    by_cases hq : p = q
    · subst hq
      exact gip_mem r (p + 1) _ (gii_all hn _ 0 _ (Nat.zero_le j) (by omega))
    · exact ih (p + 1) _ (by omega) (by omega)
theorem gii_ok {S : gs_S} {Z : gs_Z} {e m p : Nat} : ∀ r i x, (∀ j, i ≤ j → j < i + r → gi_v S Z e m (14 * p + j)) → gi_ok S m x → gi_ok S m (gi_i S Z e m p r i x) := by
  intro r
  induction r with
  | zero => intro i x _ h; exact h
  | succ r ih => intro i x hv h; exact ih (i + 1) _ (fun j h1 h2 => hv j (by omega) (by omega)) (gi_st_ok h (hv i (by omega) (by omega)))
theorem gip_ok {S : gs_S} {Z : gs_Z} {e m : Nat} : ∀ r p x, (∀ q, p ≤ q → q < p + r → ∀ j, j < S 3 e q → gi_v S Z e m (14 * q + j)) → gi_ok S m x → gi_ok S m (gi_p S Z e m r p x) := by
  intro r
  induction r with
  | zero => intro p x _ h; exact h
  | succ r ih => intro p x hv h; exact ih (p + 1) _ (fun q h1 h2 => hv q (by omega) (by omega)) (gii_ok _ 0 _ (fun j _ h2 => hv p (by omega) (by omega) j (by omega)) h)
theorem it_pi {f : Nat → Bool × Nat} {g : Nat → Nat → Prop} (hf : ∀ i, (f i).1 = true → g i (f i).2) : ∀ n i, (gs_it f n i).1 = true → pi_ g n i (gs_it f n i).2 := by
  intro n
  induction n with
  | zero => intro i _; exact (rfl : i = i)
  | succ n ih =>
    intro i h
    by_cases hq : (f i).1 = true
    · have e : gs_it f (n + 1) i = gs_it f n (f i).2 := if_pos hq
      rw [e] at h ⊢
      exact ⟨(f i).2, hf i hq, ih _ h⟩
    · have e : gs_it f (n + 1) i = (false, (f i).2) := if_neg hq
      rw [e] at h
      cases h
theorem ex_pw {S : gs_S} {Z : gs_Z} {m p : Nat} : ∀ d i, (gs_ex S Z m p d i).1 = true → pw_ (fun i => (gs_pt S Z m p (14 * p + i)).getD 0) (S 3 12 p) d i (gs_ex S Z m p d i).2 := by
  intro d
  induction d with
  | zero => intro i h; cases h
  | succ d ih =>
    intro i h
    by_cases hi : i < S 3 12 p
    · cases hq : gs_pt S Z m p (14 * p + i) with
      | none =>
        have e : gs_ex S Z m p (d + 1) i = (false, i) := by rw [gs_ex, if_pos hi, hq]
        rw [e] at h; cases h
      | some n =>
        have e : gs_ex S Z m p (d + 1) i = gs_it (gs_ex S Z m p d) n (i + 1) := by rw [gs_ex, if_pos hi, hq]
        rw [e] at h ⊢
        refine ⟨hi, ?_⟩
        show pi_ _ ((gs_pt S Z m p (14 * p + i)).getD 0) (i + 1) _
        rw [hq]
        exact it_pi ih n (i + 1) h
    · have e : gs_ex S Z m p (d + 1) i = (false, i) := by rw [gs_ex, if_neg hi]
      rw [e] at h; cases h
theorem lt_ex {b : Int32} {n : Nat} (h : gs_lt b n = true) : ∃ v, b = nI v ∧ v < n := by
  rcases ng_or b with hb | ⟨k, hk, rfl⟩
  · rw [lt_ng hb] at h; cases h
  · rw [lt_nn hk] at h
    exact ⟨k, rfl, of_decide_eq_true h⟩
/-- the new object -/
theorem gw_new {S S1 : gs_S} {Z : gs_Z} {Fv Fp Fv2 Fp2 : Nat → Nat} {Fa Fa2 : Nat → Nat → Nat} {m K0 : Nat} (hB : gs_B S) (hE : ∀ e, e < 12 → S 5 e 0 ≠ 0 → gw_E Fv Fp Fa S Z e) (hD : gw_D S) (hm : m < 6) (hfp : gs_fp S Z m (S 1 12 0) 0 = none)
    (h1 : ∀ t e i, t ≠ 9 → (t ≠ 5 ∨ e ≠ m) → S1 t e i = S t e i) (h5 : S1 5 m 0 = K0) (h9 : S 9 0 0 ≤ S1 9 0 0) (hF : ∀ K, K ≤ S 9 0 0 → Fv2 K = Fv K ∧ Fp2 K = Fp K ∧ ∀ b, Fa2 K b = Fa K b) (hK : Fv2 K0 = S 0 12 0 ∧ Fp2 K0 = S 1 12 0 ∧ ∀ b, b < S 1 12 0 → Fa2 K0 b = S 2 12 b) (hB1 : gs_B S1) :
    gs_W (gs_new S1 Z m) (gz_cp Z 12 m) ∧ gs_B (gs_new S1 Z m) ∧ gs_new S1 Z m 9 0 0 = S1 9 0 0 := by
  have b1 := (hB.1 12 (by omega)).2.1
  have hv := fp_v hm hfp
  have hrt := fp_right hfp
  obtain ⟨x, hx⟩ : ∃ x, x = gi_p S Z 12 m (S 1 12 0) 0 (0, fun _ => 0) := ⟨_, rfl⟩
  have hok : gi_ok S m x := by rw [hx]; exact gip_ok _ 0 _ (fun q _ h2 j hj => hv q (by omega) j hj) gi_ok0
  have eN : gs_new S1 Z m = gs_iu (gs_cp S1 12 m) m x := by
    unfold gs_new
    rw [h1 1 12 0 (by omega) (by omega), gi_p_cong (S := S) (Z := Z) (e := 12) (fun c => by rw [cp_e (by omega)]; exact h1 3 12 c (by omega) (by omega)) (fun c => by rw [cp_e (by omega)]; exact h1 4 12 c (by omega) (by omega)) (fun c => cz_e (by omega)), ← hx]
  rw [eN]
  have hcp5 : ∀ k, k ≠ m → gs_cp S1 12 m 5 k 0 = S 5 k 0 := fun k hk => by rw [cp_n (by omega)]; exact h1 5 k 0 (by omega) (by omega)
  have f0 : ∀ t e i, e ≠ m → e < 12 → t ≤ 8 → gs_iu (gs_cp S1 12 m) m x t e i = S t e i := fun t e i he _ ht => by rw [iu_n (Or.inl he), cp_n (Or.inl he)]; exact h1 t e i (by omega) (Or.inr he)
  have fm : ∀ t i, t ≤ 4 → gs_iu (gs_cp S1 12 m) m x t m i = S t 12 i := fun t i ht => by rw [iu_n (by omega), cp_e ht]; exact h1 t 12 i (by omega) (by omega)
  have f5 : gs_iu (gs_cp S1 12 m) m x 5 m 0 = K0 := by rw [iu_n (by omega), cp_n (by omega)]; exact h5
  have f8 : ∀ i, i < x.1 → gs_iu (gs_cp S1 12 m) m x 8 m i = S 5 (x.2 i) 0 := fun i hi => by rw [iu_8]; exact hcp5 _ (hok.1 i hi).2.1
  have f9 : gs_iu (gs_cp S1 12 m) m x 9 0 0 = S1 9 0 0 := by rw [iu_n (by omega), cp_n (by omega)]
  refine ⟨⟨⟨Fv2, Fp2, Fa2, fun e he hp => ?_⟩, fun k hk hl i hi => ?_⟩, iu_B (gs_cpB hB1 (by omega)) hm ⟨fun j hj => ?_, hok.2⟩, f9⟩
  · by_cases hem : e = m
    · subst hem
      refine ⟨⟨?_, ?_, fun b hb => ?_⟩, ⟨fun p i => (gs_pt S Z e p (14 * p + i)).getD 0, fun p hp => ?_⟩, fun i hi => ?_⟩
      · rw [fm 0 0 (by omega), f5]; exact hK.1.symm
      · rw [fm 1 0 (by omega), f5]; exact hK.2.1.symm
      · rw [fm 1 0 (by omega)] at hb
        rw [fm 2 b (by omega), f5]; exact (hK.2.2 b hb).symm
      · rw [fm 1 0 (by omega)] at hp
        rw [fm 3 p (by omega)]
        obtain ⟨a1, a2⟩ := fw_none (fp_none _ 0 hfp p (Nat.zero_le p) (by omega))
        have hpw := ex_pw 5 0 a1
        rw [a2] at hpw
        have hL := ((hB.1 12 (by omega)).2.2.1 p (by omega)).2
        refine ⟨hpw, fun i hi => ?_⟩
        have hs := hrt p hp i hi
        cases hq : gs_pt S Z e p (14 * p + i) with
        | none => rw [hq] at hs; cases hs
        | some n =>
          show gw_tk Fv2 Fp2 Fa2 _ _ e (14 * p + i) ((gs_pt S Z e p (14 * p + i)).getD 0)
          rw [show (gs_pt S Z e p (14 * p + i)).getD 0 = n by rw [hq]; rfl]
          have see : ∀ a, (S 4 12 (14 * p + i) = 2 ∨ S 4 12 (14 * p + i) = 11) → gs_sn S e (Z 0 12 (14 * p + i)) = some a → ∃ k K, k < 6 ∧ Z 0 12 (14 * p + i) = nI k ∧ gw_k (gs_iu (gs_cp S1 12 e) e x) e k K ∧ Fv2 K = S 0 a 0 ∧ Fp2 K = S 1 a 0 ∧ ∀ b, b < S 1 a 0 → Fa2 K b = S 2 a b := by
            intro a hop ha
            obtain ⟨c1, c2, c3⟩ := sn_lt ha
            rcases c2 with c2 | ⟨d1, d2, d3, d4⟩
            · have hz := c3 c2 (by omega) (by omega)
              subst c2
              exact ⟨e, K0, hm, hz, Or.inl ⟨by omega, f5.symm⟩, hK⟩
            · have hA := (hE a (by omega) d2).1
              have hk9 := (hB.2.1 a (by omega)).2.2
              obtain ⟨g1, g2, g3⟩ := hF _ hk9
              have hnm : gi_nm S Z 12 e (14 * p + i) = true := by
                unfold gi_nm
                rw [Bool.and_eq_true, Bool.or_eq_true, decide_eq_true_eq, decide_eq_true_eq, decide_eq_true_eq]
                exact ⟨hop, fun z => d4 (by rw [d3] at z; exact (nI_eq (by omega) (by omega)).mp z)⟩
              have hmem := gip_all hnm hi (S 1 12 0) 0 (0, fun _ => 0) (Nat.zero_le p) (by omega)
              rw [← hx, d3, tn_nI (by omega)] at hmem
              obtain ⟨j, j1, j2⟩ := (mem_iff _).mp hmem
              refine ⟨a, S 5 a 0, d1, d3, Or.inr ⟨j, by rw [iu_6]; exact j1, by rw [iu_7]; exact j2, by rw [f8 j j1, j2]⟩, by rw [g1]; exact hA.1.symm, by rw [g2]; exact hA.2.1.symm, fun b hb => by rw [g3]; exact (hA.2.2 b hb).symm⟩
          unfold gw_tk
          rw [fm 4 _ (by omega), fm 0 0 (by omega), cz_e (t := 0) (by omega), cz_e (t := 1) (by omega)]
          rcases gs_op hB (c := 14 * p + i) (by omega) with o | o | o | o | o | o | o
          · rw [pt_0 o] at hq
            cases hq
            exact Or.inl ⟨o, rfl⟩
          · rw [pt_1 o] at hq
            by_cases hl : gs_lt (Z 0 12 (14 * p + i)) (S 2 12 p) = true
            · rw [if_pos hl] at hq
              cases hq
              exact Or.inr (Or.inl ⟨o, rfl⟩)
            · rw [if_neg hl] at hq; cases hq
          · rw [pt_2 o] at hq
            cases ha : gs_sn S e (Z 0 12 (14 * p + i)) with
            | none => rw [ha] at hq; cases hq
            | some a =>
              rw [ha, b_some] at hq
              obtain ⟨k, K, y1, y2, y3, y4, -, -⟩ := see a (Or.inl o) ha
              by_cases hl : gs_lt (Z 1 12 (14 * p + i)) (S 0 a 0) = true
              · rw [if_pos hl] at hq
                cases hq
                obtain ⟨v, v1, v2⟩ := lt_ex hl
                exact Or.inr (Or.inr (Or.inl ⟨o, rfl, k, v, K, y1, y2, v1, y3, by rw [y4]; exact v2⟩))
              · rw [if_neg hl] at hq; cases hq
          · rw [pt_3 o] at hq
            by_cases hl : gs_lt (Z 1 12 (14 * p + i)) (S 0 12 0) = true
            · rw [if_pos hl] at hq
              cases hq
              exact Or.inr (Or.inr (Or.inr (Or.inl ⟨o, rfl, lt_ex hl⟩)))
            · rw [if_neg hl] at hq; cases hq
          · rw [pt_9 o] at hq
            cases hq
            exact Or.inr (Or.inr (Or.inr (Or.inr (Or.inl ⟨o, rfl⟩))))
          · rw [pt_11 o] at hq
            cases ha : gs_sn S e (Z 0 12 (14 * p + i)) with
            | none => rw [ha] at hq; cases hq
            | some a =>
              rw [ha, b_some] at hq
              obtain ⟨k, K, y1, y2, y3, -, y5, y6⟩ := see a (Or.inr o) ha
              by_cases hl : gs_lt (Z 1 12 (14 * p + i)) (S 1 a 0) = true
              · rw [if_pos hl] at hq
                have hn : S 2 a (Z 1 12 (14 * p + i)).toNatClampNeg = n := by cases hq; rfl
                obtain ⟨v, v1, v2⟩ := lt_ex hl
                have hba := (hB.1 a (sn_lt ha).1).2.1
                rw [v1, tn_nI (by omega)] at hn
                exact Or.inr (Or.inr (Or.inr (Or.inr (Or.inr (Or.inl ⟨o, k, v, K, y1, y2, v1, y3, by rw [y5]; exact v2, by rw [y6 v v2]; exact hn.symm⟩)))))
              · rw [if_neg hl] at hq; cases hq
          · rw [pt_d o] at hq
            cases hq
            exact Or.inr (Or.inr (Or.inr (Or.inr (Or.inr (Or.inr ⟨o, rfl⟩)))))
      · rw [iu_6] at hi
        rw [f8 i hi, f9]
        obtain ⟨o1, o2, o3⟩ := hok.1 i hi
        exact ⟨o3, Nat.le_trans (hB.2.1 _ (by omega)).2.2 h9⟩
    · have hp' : S 5 e 0 ≠ 0 := by rw [f0 5 e 0 hem he (by omega)] at hp; exact hp
      exact gw_mv (hE e he hp') (fun t i ht => f0 t e i hem he ht) (fun t i _ => cz_n (Or.inl hem)) rfl (by rw [f9]; exact h9) (hB.2.1 e he).2.2 hF
  · rw [f0 5 _ 0 (by omega) (by omega) (by omega)] at hl
    rw [f0 6 _ 0 (by omega) (by omega) (by omega)] at hi
    have h7 := (hB.2.1 (6 + k) (by omega)).2.1 i hi
    rw [f0 7 _ i (by omega) (by omega) (by omega), f0 8 _ i (by omega) (by omega) (by omega), f0 5 _ 0 (by omega) (by omega) (by omega)]
    exact hD k hk hl i hi
  · obtain ⟨o1, o2, o3⟩ := hok.1 j hj
    exact ⟨o1, o2, by rw [hcp5 _ o2]; exact o3⟩
theorem gw_cm {S : gs_S} {Z : gs_Z} {m : Nat} (h : gs_W S Z) (hB : gs_B S) (hm : m < 6) (hfp : gs_fp S Z m (S 1 12 0) 0 = none) :
    ((S 5 m 0 ≠ 0 ∧ gs_if S m) → gs_W (gs_new S Z m) (gz_cp Z 12 m) ∧ gs_B (gs_new S Z m) ∧ gs_new S Z m 9 0 0 = S 9 0 0) ∧
    (gs_W (gs_new (gs_nk S m) Z m) (gz_cp Z 12 m) ∧ gs_B (gs_new (gs_nk S m) Z m) ∧ gs_new (gs_nk S m) Z m 9 0 0 = S 9 0 0 + 1) := by
  obtain ⟨⟨Fv, Fp, Fa, hE⟩, hD⟩ := h
  constructor
  · intro ⟨hp, i1, i2, i3⟩
    obtain ⟨a1, a2, a3⟩ := (hE m (by omega) hp).1
    exact gw_new (Fv2 := Fv) (Fp2 := Fp) (Fa2 := Fa) (K0 := S 5 m 0) hB hE hD hm hfp (fun _ _ _ _ _ => rfl) rfl (Nat.le_refl _) (fun K _ => ⟨rfl, rfl, fun _ => rfl⟩) ⟨by rw [← a1]; exact i1, by rw [← a2]; exact i2, fun b hb => by rw [← a3 b (by omega)]; exact i3 b (by omega)⟩ hB
  · have e9 : gs_nk S m 9 0 0 = S 9 0 0 + 1 := by unfold gs_nk; rw [g3_n (by omega), g3_e]
    have := gw_new (S1 := gs_nk S m) (Fv2 := fun K => if K = S 9 0 0 + 1 then S 0 12 0 else Fv K) (Fp2 := fun K => if K = S 9 0 0 + 1 then S 1 12 0 else Fp K) (Fa2 := fun K b => if K = S 9 0 0 + 1 then S 2 12 b else Fa K b) (K0 := S 9 0 0 + 1) hB hE hD hm hfp (fun t e i h1 h2 => by unfold gs_nk; rw [g3_n (by omega), g3_n (by omega)]) (by unfold gs_nk; exact g3_e) (by omega) (fun K hK => ⟨if_neg (by omega), if_neg (by omega), fun b => if_neg (by omega)⟩) ⟨if_pos rfl, if_pos rfl, fun b _ => if_pos rfl⟩ (nk_B hB)
    rw [e9] at this
    exact this
