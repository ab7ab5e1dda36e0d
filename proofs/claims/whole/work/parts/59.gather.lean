/-! compile: the imports, gathered token by token -/
def gi_mem (f : Nat → Nat) (k : Nat) : Nat → Bool
  | 0 => false
  | n + 1 => gi_mem f k n || decide (f n = k)
def gi_up (f : Nat → Nat) (n k : Nat) : Nat → Nat := fun j => if j = n then k else f j
abbrev gi_T : Type := Nat × (Nat → Nat)
def gi_nm (S : gs_S) (Z : gs_Z) (e m c : Nat) : Bool := (decide (S 4 e c = 2) || decide (S 4 e c = 11)) && decide (¬ Z 0 e c = nI m)
def gi_st (S : gs_S) (Z : gs_Z) (e m c : Nat) (x : gi_T) : gi_T := if gi_nm S Z e m c = true ∧ gi_mem x.2 (Z 0 e c).toNatClampNeg x.1 = false then (x.1 + 1, gi_up x.2 x.1 (Z 0 e c).toNatClampNeg) else x
def gi_i (S : gs_S) (Z : gs_Z) (e m p : Nat) : Nat → Nat → gi_T → gi_T
  | 0, _, x => x
  | r + 1, i, x => gi_i S Z e m p r (i + 1) (gi_st S Z e m (14 * p + i) x)
def gi_p (S : gs_S) (Z : gs_Z) (e m : Nat) : Nat → Nat → gi_T → gi_T
  | 0, _, x => x
  | r + 1, p, x => gi_p S Z e m r (p + 1) (gi_i S Z e m p (S 3 e p) 0 x)
def gi_b (b : Bool) : Nat := if b = true then 1 else 0
def gi_sum (f : Nat → Nat) (n : Nat) : Nat := gi_b (gi_mem f 0 n) + gi_b (gi_mem f 1 n) + gi_b (gi_mem f 2 n) + gi_b (gi_mem f 3 n) + gi_b (gi_mem f 4 n) + gi_b (gi_mem f 5 n)
theorem mem_iff {f : Nat → Nat} {k : Nat} : ∀ n, gi_mem f k n = true ↔ ∃ j, j < n ∧ f j = k := by
  intro n
  induction n with
  | zero => exact ⟨fun z => (by cases z), fun ⟨j, h, _⟩ => (by omega)⟩
  | succ n ih =>
    rw [gi_mem, Bool.or_eq_true, decide_eq_true_eq, ih]
    refine ⟨fun z => ?_, fun ⟨j, h1, h2⟩ => ?_⟩
    · rcases z with ⟨j, h1, h2⟩ | z
      · exact ⟨j, by omega, h2⟩
      · exact ⟨n, by omega, z⟩
    · by_cases hj : j = n
      · subst hj; exact Or.inr h2
      · exact Or.inl ⟨j, by omega, h2⟩
theorem mem_up {f : Nat → Nat} {k x : Nat} : ∀ n N, n ≤ N → gi_mem (gi_up f N x) k n = gi_mem f k n := by
  intro n N
  induction n with
  | zero => intro _; rfl
  | succ n ih =>
    intro h
    rw [gi_mem, gi_mem, ih (by omega)]
    unfold gi_up
    rw [if_neg (by omega)]
theorem mem_add {f : Nat → Nat} {k x n : Nat} : gi_mem (gi_up f n x) k (n + 1) = (gi_mem f k n || decide (x = k)) := by
  rw [gi_mem, mem_up n n (Nat.le_refl n)]
  unfold gi_up
  rw [if_pos rfl]
/-- the state of the gathering -/
def gi_ok (S : gs_S) (m : Nat) (x : gi_T) : Prop := (∀ j, j < x.1 → x.2 j < 6 ∧ x.2 j ≠ m ∧ S 5 (x.2 j) 0 ≠ 0) ∧ gi_sum x.2 x.1 = x.1
theorem gi_b1 (b : Bool) : gi_b b ≤ 1 := by unfold gi_b; split <;> omega
theorem gi_4 {S : gs_S} {m k : Nat} {x : gi_T} (h : gi_ok S m x) (hm : m < 6) (hk : k < 6) (hkm : k ≠ m) (hn : gi_mem x.2 k x.1 = false) : x.1 ≤ 4 := by
  have h2 := h.2
  have hmm : gi_mem x.2 m x.1 = false := by
    cases hq : gi_mem x.2 m x.1 with
    | false => rfl
    | true => obtain ⟨j, h3, h4⟩ := (mem_iff _).mp hq; exact absurd h4 (h.1 j h3).2.1
  have zk : gi_b (gi_mem x.2 k x.1) = 0 := by rw [hn]; rfl
  have zm : gi_b (gi_mem x.2 m x.1) = 0 := by rw [hmm]; rfl
  have b0 := gi_b1 (gi_mem x.2 0 x.1)
  have b1 := gi_b1 (gi_mem x.2 1 x.1)
  have b2 := gi_b1 (gi_mem x.2 2 x.1)
  have b3 := gi_b1 (gi_mem x.2 3 x.1)
  have b4 := gi_b1 (gi_mem x.2 4 x.1)
  have b5 := gi_b1 (gi_mem x.2 5 x.1)
  unfold gi_sum at h2
  rcases (show k = 0 ∨ k = 1 ∨ k = 2 ∨ k = 3 ∨ k = 4 ∨ k = 5 by omega) with rfl | rfl | rfl | rfl | rfl | rfl <;> rcases (show m = 0 ∨ m = 1 ∨ m = 2 ∨ m = 3 ∨ m = 4 ∨ m = 5 by omega) with rfl | rfl | rfl | rfl | rfl | rfl <;> first | omega | exact absurd rfl hkm
theorem gi_5 {S : gs_S} {m : Nat} {x : gi_T} (h : gi_ok S m x) (hm : m < 6) : x.1 ≤ 5 := by
  have h2 := h.2
  have hmm : gi_mem x.2 m x.1 = false := by
    cases hq : gi_mem x.2 m x.1 with
    | false => rfl
    | true => obtain ⟨j, h3, h4⟩ := (mem_iff _).mp hq; exact absurd h4 (h.1 j h3).2.1
  have zm : gi_b (gi_mem x.2 m x.1) = 0 := by rw [hmm]; rfl
  have b0 := gi_b1 (gi_mem x.2 0 x.1)
  have b1 := gi_b1 (gi_mem x.2 1 x.1)
  have b2 := gi_b1 (gi_mem x.2 2 x.1)
  have b3 := gi_b1 (gi_mem x.2 3 x.1)
  have b4 := gi_b1 (gi_mem x.2 4 x.1)
  have b5 := gi_b1 (gi_mem x.2 5 x.1)
  unfold gi_sum at h2
  rcases (show m = 0 ∨ m = 1 ∨ m = 2 ∨ m = 3 ∨ m = 4 ∨ m = 5 by omega) with rfl | rfl | rfl | rfl | rfl | rfl <;> omega
theorem gi_add {S : gs_S} {m k : Nat} {x : gi_T} (h : gi_ok S m x) (hk : k < 6) (hkm : k ≠ m) (hp : S 5 k 0 ≠ 0) (hn : gi_mem x.2 k x.1 = false) : gi_ok S m (x.1 + 1, gi_up x.2 x.1 k) := by
  refine ⟨fun j hj => ?_, ?_⟩
  · show gi_up x.2 x.1 k j < 6 ∧ gi_up x.2 x.1 k j ≠ m ∧ S 5 (gi_up x.2 x.1 k j) 0 ≠ 0
    unfold gi_up
    by_cases hq : j = x.1
    · rw [if_pos hq]; exact ⟨hk, hkm, hp⟩
    · rw [if_neg hq]
      have hj : j < x.1 + 1 := hj
      exact h.1 j (by omega)
  · show gi_sum (gi_up x.2 x.1 k) (x.1 + 1) = x.1 + 1
    have h2 := h.2
    unfold gi_sum at h2 ⊢
    simp only [mem_add]
    have e : ∀ i, i ≠ k → (gi_mem x.2 i x.1 || decide (k = i)) = gi_mem x.2 i x.1 := fun i hi => by rw [decide_eq_false (fun z => hi z.symm), Bool.or_false]
    have ek : gi_b (gi_mem x.2 k x.1 || decide (k = k)) = 1 := by rw [decide_eq_true rfl, Bool.or_true]; rfl
    have zk : gi_b (gi_mem x.2 k x.1) = 0 := by rw [hn]; rfl
    rcases (show k = 0 ∨ k = 1 ∨ k = 2 ∨ k = 3 ∨ k = 4 ∨ k = 5 by omega) with rfl | rfl | rfl | rfl | rfl | rfl
    · rw [ek, e 1 (by omega), e 2 (by omega), e 3 (by omega), e 4 (by omega), e 5 (by omega)]; omega
    · rw [ek, e 0 (by omega), e 2 (by omega), e 3 (by omega), e 4 (by omega), e 5 (by omega)]; omega
    · rw [ek, e 0 (by omega), e 1 (by omega), e 3 (by omega), e 4 (by omega), e 5 (by omega)]; omega
    · rw [ek, e 0 (by omega), e 1 (by omega), e 2 (by omega), e 4 (by omega), e 5 (by omega)]; omega
    · rw [ek, e 0 (by omega), e 1 (by omega), e 2 (by omega), e 3 (by omega), e 5 (by omega)]; omega
    · rw [ek, e 0 (by omega), e 1 (by omega), e 2 (by omega), e 3 (by omega), e 4 (by omega)]; omega
/-- a token that names another module names an object -/
def gi_v (S : gs_S) (Z : gs_Z) (e m c : Nat) : Prop := gi_nm S Z e m c = true → ∃ k, k < 6 ∧ k ≠ m ∧ Z 0 e c = nI k ∧ S 5 k 0 ≠ 0
theorem gi_st_ok {S : gs_S} {Z : gs_Z} {e m c : Nat} {x : gi_T} (h : gi_ok S m x) (hv : gi_v S Z e m c) : gi_ok S m (gi_st S Z e m c x) := by
  unfold gi_st
  by_cases hc : gi_nm S Z e m c = true ∧ gi_mem x.2 (Z 0 e c).toNatClampNeg x.1 = false
  · rw [if_pos hc]
    obtain ⟨k, h1, h2, h3, h4⟩ := hv hc.1
    rw [h3, tn_nI (by omega)] at hc ⊢
    exact gi_add h h1 h2 h4 hc.2
  · rw [if_neg hc]; exact h
/-- the state with the imports gathered so far in e's place -/
def gs_iu (S : gs_S) (e : Nat) (x : gi_T) : gs_S := fun t a i => if a = e then (if t = 6 then x.1 else if t = 7 then x.2 i else if t = 8 then S 5 (x.2 i) 0 else S t a i) else S t a i
theorem iu_n {S : gs_S} {e t a i : Nat} {x : gi_T} (h : a ≠ e ∨ (t ≠ 6 ∧ t ≠ 7 ∧ t ≠ 8)) : gs_iu S e x t a i = S t a i := by
  unfold gs_iu
  by_cases ha : a = e
  · rw [if_pos ha, if_neg (by omega), if_neg (by omega), if_neg (by omega)]
  · rw [if_neg ha]
theorem iu_6 {S : gs_S} {e i : Nat} {x : gi_T} : gs_iu S e x 6 e i = x.1 := by unfold gs_iu; rw [if_pos rfl, if_pos rfl]
theorem iu_7 {S : gs_S} {e i : Nat} {x : gi_T} : gs_iu S e x 7 e i = x.2 i := by unfold gs_iu; rw [if_pos rfl, if_neg (by omega), if_pos rfl]
theorem iu_8 {S : gs_S} {e i : Nat} {x : gi_T} : gs_iu S e x 8 e i = S 5 (x.2 i) 0 := by unfold gs_iu; rw [if_pos rfl, if_neg (by omega), if_neg (by omega), if_pos rfl]
theorem iu_B {S : gs_S} (hB : gs_B S) {m : Nat} (hm : m < 6) {x : gi_T} (h : gi_ok S m x) : gs_B (gs_iu S m x) := by
  obtain ⟨h1, h2, h3⟩ := hB
  refine ⟨fun e he => ?_, fun e he => ?_, by rw [iu_n (by omega)]; exact h3⟩
  · obtain ⟨a1, a2, a3, a4⟩ := h1 e he
    rw [iu_n (by omega), iu_n (by omega)]
    refine ⟨a1, a2, fun p hp => ?_, fun c hc => ?_⟩
    · rw [iu_n (by omega), iu_n (by omega)]; exact a3 p hp
    · rw [iu_n (by omega)]; exact a4 c hc
  · by_cases hq : e = m
    · subst hq
      rw [iu_6, iu_n (by omega), iu_n (by omega)]
      refine ⟨gi_5 h hm, fun i hi => ?_, (h2 e he).2.2⟩
      rw [iu_7]
      exact (h.1 i hi).1
    · rw [iu_n (by omega), iu_n (by omega), iu_n (by omega)]
      refine ⟨(h2 e he).1, fun i hi => ?_, (h2 e he).2.2⟩
      rw [iu_n (by omega)]
      exact (h2 e he).2.1 i hi
theorem sc_add {σ : aw_m} {S : gs_S} {Z : gs_Z} {m k : Nat} {x : gi_T} (hB : gs_B S) (hm : m < 6) (hx : gi_ok S m x) (h : ec_E σ (gs_iu S m x) Z) (hk : k < 6) (hkm : k ≠ m) (hp : S 5 k 0 ≠ 0) :
    ∃ σ2, xm_U_addImport σ (ub_ m) (nI k) (nI (S 5 k 0)) = some σ2 ∧ ec_E σ2 (gs_iu S m (if gi_mem x.2 k x.1 = false then (x.1 + 1, gi_up x.2 x.1 k) else x)) Z := by
  have hB2 := iu_B hB hm hx
  have h5 := gi_5 hx hm
  obtain ⟨a1, a2⟩ := sc_hasImport h hB2 (e := m) (m := k) (by omega) (by omega)
  obtain ⟨u1, u2, u3, u4⟩ := h.2.1 m (by omega)
  rw [iu_6] at u3 u4 a1 a2
  have hur := ub_r (e := m) (by omega)
  unfold xm_U_addImport
  rw [u3, if_neg (show ¬ (6 : Int32) ≤ nI x.1 from nI_ge (b := 6) (by omega) (by omega))]
  cases hq : gi_mem x.2 k x.1 with
  | true =>
    have hi : ∃ i, i < x.1 ∧ gs_iu S m x 7 m i = k := by
      obtain ⟨j, h1, h2⟩ := (mem_iff _).mp hq
      exact ⟨j, h1, by rw [iu_7]; exact h2⟩
    rw [a1 hi, b_some, if_neg (by decide), if_neg (by decide)]
    exact ⟨σ, rfl, h⟩
  | false =>
    have hi : ¬ ∃ i, i < x.1 ∧ gs_iu S m x 7 m i = k := by
      intro ⟨j, h1, h2⟩
      rw [iu_7] at h2
      have := (mem_iff _).mpr ⟨j, h1, h2⟩
      rw [hq] at this; cases this
    have h4 := gi_4 hx hm hk hkm hq
    rw [a2 hi, b_some, if_pos rfl, if_pos rfl, if_pos (in_nI (by omega) (by omega)), tn_nI (by omega), l_eq, aw_pk (by omega), u3, if_pos (in_nI (by omega) (by omega)), tn_nI (by omega), l_eq, l_eq, aw_pk (by omega), aw_pk (by omega), u3, nz_1, ad_nI]
    refine ⟨_, rfl, ?_⟩
    obtain ⟨h1, h2, h3, h4', h5', h6, h7⟩ := h
    refine ⟨fun e he => ?_, fun e he => ?_, fun a ha w hw => ?_, ?_, ?_, ?_, ?_⟩
    · have hcr := cb_r he
      refine ec_kC (h1 e he) (fun j hj => ?_) (fun t i ht => ?_) (fun _ _ _ => rfl)
      · simp (disch := omega) only [aw_pk]
      · rw [iu_n (by omega), iu_n (by omega)]
    · have hvr := ub_r he
      by_cases hqe : e = m
      · subst hqe
        refine ⟨?_, fun hz => ?_, ?_, fun i hi => ⟨?_, ?_⟩⟩
        · rw [iu_n (by omega)] at u1 ⊢
          rw [aw_pe, up_n (by omega), aw_pk (by omega), aw_pk (by omega)]; exact u1
        · rw [iu_n (by omega)] at u2 hz ⊢
          rw [aw_pe, up_n (by omega), aw_pk (by omega), aw_pk (by omega)]; exact u2 hz
        · rw [iu_6, aw_pe, up_e]
        · rw [iu_6] at hi
          have hi : i < x.1 + 1 := hi
          rw [iu_7, aw_pk (by omega), aw_pk (by omega), aw_pe]
          show upd _ _ _ i = nI (gi_up x.2 x.1 k i)
          unfold gi_up
          by_cases hj : i = x.1
          · rw [if_pos hj, hj, up_e]
          · have := (u4 i (by omega)).1
            rw [iu_7] at this
            rw [if_neg hj, up_n hj, this]
        · rw [iu_6] at hi
          have hi : i < x.1 + 1 := hi
          rw [iu_8, aw_pk (by omega), aw_pe]
          show upd _ _ _ i = nI (S 5 (gi_up x.2 x.1 k i) 0)
          unfold gi_up
          by_cases hj : i = x.1
          · rw [if_pos hj, hj, up_e]
          · have := (u4 i (by omega)).2
            rw [iu_8] at this
            rw [if_neg hj, up_n hj, aw_pk (by omega), this]
      · refine ec_kU (h2 e he) (fun j hj => ?_) (fun t i _ _ => ?_)
        · simp (disch := omega) only [aw_pk]
        · rw [iu_n (by omega), iu_n (by omega)]
    · simp (disch := omega) only [aw_pk]; exact h3 a ha w hw
    · simp (disch := omega) only [aw_pk]; rw [iu_n (by omega)] at h4' ⊢; exact h4'
    · simp (disch := omega) only [aw_pk]; exact h5'
    · simp (disch := omega) only [aw_pk]; exact h6
    · simp (disch := omega) only [aw_pk]; rw [iu_n (by omega)] at h7 ⊢; exact h7
