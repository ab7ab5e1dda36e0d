/-! load: the middle, and the class -/
abbrev gl_T : Type := Int32 × gs_S × gs_Z × (Nat → Bool)
def gl_im (W : gs_S → gs_Z → (Nat → Bool) → Nat → gl_T) (m : Nat) : Nat → Nat → gs_S → gs_Z → (Nat → Bool) → gl_T
  | 0, _, S, Z, B => if gs_al S 6 + gs_z S m ≤ 50 then (0, gs_ld S m, gz_ld Z m, B) else (-2, S, Z, B)
  | r + 1, i, S, Z, B => if (W S Z B (S 7 m i)).1 = 0 then (if (W S Z B (S 7 m i)).2.1 5 (6 + S 7 m i) 0 = S 8 m i then gl_im W m r (i + 1) (W S Z B (S 7 m i)).2.1 (W S Z B (S 7 m i)).2.2.1 (W S Z B (S 7 m i)).2.2.2 else (-5, (W S Z B (S 7 m i)).2)) else W S Z B (S 7 m i)
def gl_B (B : Nat → Bool) (m : Nat) : Nat → Bool := fun k => if k = m then true else B k
theorem lB_e {B : Nat → Bool} {m : Nat} : gl_B B m m = true := if_pos rfl
theorem lB_n {B : Nat → Bool} {m k : Nat} (h : k ≠ m) : gl_B B m k = B k := if_neg h
theorem lB_m {B : Nat → Bool} {m k : Nat} (h : B k = true) : gl_B B m k = true := by
  unfold gl_B
  by_cases hk : k = m
  · rw [if_pos hk]
  · rw [if_neg hk]; exact h
def gl_one : Nat → gs_S → gs_Z → (Nat → Bool) → Nat → gl_T
  | 0, S, Z, B, m => if S 5 (6 + m) 0 = 0 then (-6, S, Z, B) else (0, S, Z, B)
  | d + 1, S, Z, B, m => if S 5 (6 + m) 0 = 0 then (if B m = true then (-6, S, Z, B) else if S 5 m 0 = 0 then (-4, S, Z, B) else gl_im (gl_one d) m (S 6 m 0) 0 S Z (gl_B B m)) else (0, S, Z, B)
def gl_D (S0 : gs_S) (Z0 : gs_Z) (S : gs_S) (Z : gs_Z) (B : Nat → Bool) (m : Nat) : Prop :=
  ((∀ t i, t ≤ 8 → S t (6 + m) i = S0 t (6 + m) i) ∧ (∀ t i, t ≤ 1 → Z t (6 + m) i = Z0 t (6 + m) i) ∧ ∀ i, Z 2 m i = Z0 2 m i) ∨
  (B m = true ∧ S0 5 m 0 ≠ 0 ∧ (∀ t i, t ≤ 8 → S t (6 + m) i = S0 t m i) ∧ (∀ t i, t ≤ 1 → Z t (6 + m) i = Z0 t m i) ∧ ∀ i, i < S0 6 m 0 → S 5 (6 + S0 7 m i) 0 = S0 8 m i ∧ S0 8 m i ≠ 0)
def gl_J (S0 : gs_S) (Z0 : gs_Z) (S : gs_S) (Z : gs_Z) (B : Nat → Bool) : Prop :=
  (∀ t e i, e < 6 ∨ 12 ≤ e ∨ 8 < t → S t e i = S0 t e i) ∧ (∀ t e i, (t ≤ 1 ∧ (e < 6 ∨ 12 ≤ e)) ∨ (t = 2 ∧ 6 ≤ e) ∨ 2 < t → Z t e i = Z0 t e i) ∧
  ∀ m, m < 6 → (B m = true → S0 5 (6 + m) 0 = 0) ∧ gl_D S0 Z0 S Z B m
section GL
variable {S0 : gs_S} {Z0 : gs_Z}
theorem J_0 {B : Nat → Bool} (h : ∀ m, m < 6 → B m = false) : gl_J S0 Z0 S0 Z0 B :=
  ⟨fun _ _ _ _ => rfl, fun _ _ _ _ => rfl, fun m hm => ⟨fun z => (by rw [h m hm] at z; cases z), Or.inl ⟨fun _ _ _ => rfl, fun _ _ _ => rfl, fun _ => rfl⟩⟩⟩
theorem J_B (hB : gs_B S0) {S : gs_S} {Z : gs_Z} {B : Nat → Bool} (h : gl_J S0 Z0 S Z B) : gs_B S := by
  obtain ⟨j1, j2, j3⟩ := h
  obtain ⟨h1, h2, h3⟩ := hB
  have low : ∀ e, e < 13 → ∃ e', e' < 13 ∧ (e < 12 → e' < 12) ∧ ∀ t i, t ≤ 8 → S t e i = S0 t e' i := by
    intro e he
    by_cases hq : e < 6 ∨ 12 ≤ e
    · exact ⟨e, he, fun z => z, fun t i _ => j1 t e i (by omega)⟩
    · obtain ⟨-, d⟩ := j3 (e - 6) (by omega)
      rcases d with ⟨d, -⟩ | ⟨-, -, d, -⟩
      · rw [show 6 + (e - 6) = e by omega] at d
        exact ⟨e, he, fun z => z, d⟩
      · rw [show 6 + (e - 6) = e by omega] at d
        exact ⟨e - 6, by omega, fun _ => by omega, d⟩
  refine ⟨fun e he => ?_, fun e he => ?_, by rw [j1 10 0 0 (by omega)]; exact h3⟩
  · obtain ⟨e', g1, -, g2⟩ := low e he
    obtain ⟨a1, a2, a3, a4⟩ := h1 e' g1
    rw [g2 0 0 (by omega), g2 1 0 (by omega)]
    refine ⟨a1, a2, fun p hp => ?_, fun c hc => ?_⟩
    · rw [g2 2 p (by omega), g2 3 p (by omega)]; exact a3 p hp
    · rw [g2 4 c (by omega)]; exact a4 c hc
  · obtain ⟨e', -, g1, g2⟩ := low e (by omega)
    obtain ⟨a1, a2, a3⟩ := h2 e' (g1 he)
    rw [g2 6 0 (by omega), g2 5 0 (by omega), j1 9 0 0 (by omega)]
    refine ⟨a1, fun i hi => ?_, a3⟩
    rw [g2 7 i (by omega)]; exact a2 i hi
/-- what a step leaves -/
def gl_P (S0 : gs_S) (Z0 : gs_Z) (x : Nat → Prop) (S : gs_S) (B : Nat → Bool) (q : gl_T) : Prop :=
  gl_J S0 Z0 q.2.1 q.2.2.1 q.2.2.2 ∧ (∀ k, B k = true → q.2.2.2 k = true) ∧ ∀ k, k < 6 → ¬ x k → (S 5 (6 + k) 0 ≠ 0 ∨ B k = true) → q.2.1 5 (6 + k) 0 = S 5 (6 + k) 0
theorem J_ld {S : gs_S} {Z : gs_Z} {B : Nat → Bool} (h : gl_J S0 Z0 S Z B) {m : Nat} (hm : m < 6) (hp : S0 5 m 0 ≠ 0) (hBm : B m = true) (h0 : S 5 (6 + m) 0 = 0) (hc : ∀ j, j < S0 6 m 0 → S 5 (6 + S0 7 m j) 0 = S0 8 m j ∧ S0 8 m j ≠ 0) : gl_J S0 Z0 (gs_ld S m) (gz_ld Z m) B := by
  obtain ⟨j1, j2, j3⟩ := h
  have key : ∀ k i, (S 5 (6 + S0 7 k i) 0 = S0 8 k i ∧ S0 8 k i ≠ 0) → gs_ld S m 5 (6 + S0 7 k i) 0 = S0 8 k i ∧ S0 8 k i ≠ 0 := by
    intro k i ⟨z1, z2⟩
    have : S0 7 k i ≠ m := fun w => by rw [w, h0] at z1; exact z2 z1.symm
    rw [ld_n (by omega)]
    exact ⟨z1, z2⟩
  refine ⟨fun t e i he => ?_, fun t e i he => ?_, fun k hk => ⟨(j3 k hk).1, ?_⟩⟩
  · rw [ld_n (by omega)]; exact j1 t e i he
  · rw [lz_n (by omega)]; exact j2 t e i he
  · by_cases hq : k = m
    · subst hq
      refine Or.inr ⟨hBm, hp, fun t i ht => ?_, fun t i ht => ?_, fun i hi => key k i (hc i hi)⟩
      · rw [ld_e ht]; exact j1 t k i (by omega)
      · rw [lz_e ht]; exact j2 t k i (by omega)
    · rcases (j3 k hk).2 with ⟨d1, d2, d3⟩ | ⟨d1, d2, d3, d4, d5⟩
      · refine Or.inl ⟨fun t i ht => ?_, fun t i ht => ?_, fun i => ?_⟩
        · rw [ld_n (by omega)]; exact d1 t i ht
        · rw [lz_n (by omega)]; exact d2 t i ht
        · rw [lz_n (by omega)]; exact d3 i
      · refine Or.inr ⟨d1, d2, fun t i ht => ?_, fun t i ht => ?_, fun i hi => key k i (d5 i hi)⟩
        · rw [ld_n (by omega)]; exact d3 t i ht
        · rw [lz_n (by omega)]; exact d4 t i ht
theorem P_id {x : Nat → Prop} {S : gs_S} {Z : gs_Z} {B : Nat → Bool} {f : Int32} (h : gl_J S0 Z0 S Z B) : gl_P S0 Z0 x S B (f, S, Z, B) := ⟨h, fun _ z => z, fun _ _ _ _ => rfl⟩
theorem im_P (hB : gs_B S0) (W : gs_S → gs_Z → (Nat → Bool) → Nat → gl_T) {m : Nat} (hm : m < 6) (hp : S0 5 m 0 ≠ 0)
    (hW : ∀ S Z B k, k < 6 → gl_J S0 Z0 S Z B → gl_P S0 Z0 (fun _ => False) S B (W S Z B k) ∧ ((W S Z B k).1 = 0 → (W S Z B k).2.1 5 (6 + k) 0 ≠ 0)) :
    ∀ r i S Z B, i + r = S0 6 m 0 → gl_J S0 Z0 S Z B → B m = true → S 5 (6 + m) 0 = 0 → (∀ j, j < i → S 5 (6 + S0 7 m j) 0 = S0 8 m j ∧ S0 8 m j ≠ 0) →
    gl_P S0 Z0 (fun k => k = m) S B (gl_im W m r i S Z B) ∧ ((gl_im W m r i S Z B).1 = 0 → (gl_im W m r i S Z B).2.1 5 (6 + m) 0 ≠ 0) := by
  intro r
  induction r with
  | zero =>
    intro i S Z B hi hJ hBm h0 hc
    rw [gl_im]
    by_cases hl : gs_al S 6 + gs_z S m ≤ 50
    · rw [if_pos hl]
      refine ⟨⟨J_ld hJ hm hp hBm h0 (fun j hj => hc j (by omega)), fun _ z => z, fun k hk hx _ => ?_⟩, fun _ => ?_⟩
      · show gs_ld S m 5 (6 + k) 0 = _
        have : k ≠ m := hx
        rw [ld_n (by omega)]
      · show gs_ld S m 5 (6 + m) 0 ≠ 0
        rw [ld_e (by omega), hJ.1 5 m 0 (by omega)]; exact hp
    · rw [if_neg hl]
      exact ⟨P_id hJ, fun z => absurd (show (-2 : Int32) = 0 from z) (by decide)⟩
  | succ r ih =>
    intro i S Z B hi hJ hBm h0 hc
    have e7 : S 7 m i = S0 7 m i := hJ.1 7 m i (by omega)
    have e8 : S 8 m i = S0 8 m i := hJ.1 8 m i (by omega)
    have h7 : S 7 m i < 6 := by rw [e7]; exact (hB.2.1 m (by omega)).2.1 i (by omega)
    obtain ⟨⟨w1, w2, w3⟩, w4⟩ := hW S Z B (S 7 m i) h7 hJ
    rw [gl_im]
    generalize W S Z B (S 7 m i) = q at w1 w2 w3 w4
    by_cases hf : q.1 = 0
    · rw [if_pos hf]
      by_cases hk : q.2.1 5 (6 + S 7 m i) 0 = S 8 m i
      · rw [if_pos hk]
        have hst : ∀ k, k < 6 → (S 5 (6 + k) 0 ≠ 0 ∨ B k = true) → q.2.1 5 (6 + k) 0 = S 5 (6 + k) 0 := fun k hk h => w3 k hk (fun z => z) h
        obtain ⟨⟨p1, p2, p3⟩, p4⟩ := ih (i + 1) q.2.1 q.2.2.1 q.2.2.2 (by omega) w1 (w2 m hBm) (by rw [hst m hm (Or.inr hBm)]; exact h0) (fun j hj => by
          by_cases hq : j = i
          · rw [hq, ← e7, ← e8]
            exact ⟨hk, by rw [← hk]; exact w4 hf⟩
          · obtain ⟨c1, c2⟩ := hc j (by omega)
            have hs := (hB.2.1 m (by omega)).2.1 j (by omega)
            rw [hst (S0 7 m j) hs (Or.inl (by rw [c1]; exact c2))]
            exact ⟨c1, c2⟩)
        refine ⟨⟨p1, fun k z => p2 k (w2 k z), fun k hk hx h => ?_⟩, p4⟩
        have := hst k hk h
        rw [p3 k hk hx ?_, this]
        rcases h with h | h
        · exact Or.inl (by rw [this]; exact h)
        · exact Or.inr (w2 k h)
      · rw [if_neg hk]
        exact ⟨⟨w1, w2, fun k hk _ h => w3 k hk (fun z => z) h⟩, fun z => absurd (show (-5 : Int32) = 0 from z) (by decide)⟩
    · rw [if_neg hf]
      exact ⟨⟨w1, w2, fun k hk _ h => w3 k hk (fun z => z) h⟩, fun z => absurd z hf⟩
theorem J_lB {S : gs_S} {Z : gs_Z} {B : Nat → Bool} (h : gl_J S0 Z0 S Z B) {m : Nat} (h0 : S 5 (6 + m) 0 = 0) (hf : ¬ B m = true) : gl_J S0 Z0 S Z (gl_B B m) := by
  obtain ⟨j1, j2, j3⟩ := h
  refine ⟨j1, j2, fun k hk => ⟨fun z => ?_, ?_⟩⟩
  · by_cases hq : k = m
    · subst hq
      rcases (j3 k hk).2 with ⟨d1, -⟩ | ⟨d1, -⟩
      · rw [← d1 5 0 (by omega)]; exact h0
      · exact absurd d1 hf
    · rw [lB_n hq] at z; exact (j3 k hk).1 z
  · rcases (j3 k hk).2 with d | ⟨d1, d⟩
    · exact Or.inl d
    · exact Or.inr ⟨lB_m d1, d⟩
theorem one_P (hB : gs_B S0) : ∀ d S Z B m, m < 6 → gl_J S0 Z0 S Z B → gl_P S0 Z0 (fun _ => False) S B (gl_one d S Z B m) ∧ ((gl_one d S Z B m).1 = 0 → (gl_one d S Z B m).2.1 5 (6 + m) 0 ≠ 0) := by
  intro d
  induction d with
  | zero =>
    intro S Z B m hm hJ
    rw [gl_one]
    by_cases h0 : S 5 (6 + m) 0 = 0
    · rw [if_pos h0]; exact ⟨P_id hJ, fun z => absurd (show (-6 : Int32) = 0 from z) (by decide)⟩
    · rw [if_neg h0]; exact ⟨P_id hJ, fun _ => h0⟩
  | succ d ih =>
    intro S Z B m hm hJ
    rw [gl_one]
    by_cases h0 : S 5 (6 + m) 0 = 0
    · rw [if_pos h0]
      by_cases hb : B m = true
      · rw [if_pos hb]; exact ⟨P_id hJ, fun z => absurd (show (-6 : Int32) = 0 from z) (by decide)⟩
      rw [if_neg hb]
      by_cases hk : S 5 m 0 = 0
      · rw [if_pos hk]; exact ⟨P_id hJ, fun z => absurd (show (-4 : Int32) = 0 from z) (by decide)⟩
      rw [if_neg hk]
      obtain ⟨⟨p1, p2, p3⟩, p4⟩ := im_P hB (gl_one d) hm (by rw [← hJ.1 5 m 0 (by omega)]; exact hk) ih (S 6 m 0) 0 S Z (gl_B B m) (by rw [hJ.1 6 m 0 (by omega)]; omega) (J_lB hJ h0 hb) lB_e h0 (fun j hj => absurd hj (Nat.not_lt_zero j))
      refine ⟨⟨p1, fun k z => p2 k (lB_m z), fun k hk2 _ h => ?_⟩, p4⟩
      have hkm : k ≠ m := by
        intro z
        subst z
        rcases h with h | h
        · exact h h0
        · exact hb h
      refine p3 k hk2 hkm ?_
      rcases h with h | h
      · exact Or.inl h
      · exact Or.inr (lB_m h)
    · rw [if_neg h0]; exact ⟨P_id hJ, fun _ => h0⟩
def gl_bg (σ : aw_m) (B : Nat → Bool) : Prop := ∀ k, k < 6 → σ 65 k = if B k = true then 1 else 0
theorem ec_65 {σ : aw_m} {S : gs_S} {Z : gs_Z} (h : ec_E σ S Z) (i : Nat) (v : Int32) : ec_E (aw_p σ 65 i v) S Z := by
  obtain ⟨h1, h2, h3, h4, h5, h6, h7⟩ := h
  refine ⟨fun e he => ?_, fun e he => ?_, fun m hm w hw => ?_, ?_, ?_, ?_, ?_⟩
  · have hc := cb_r he
    exact ec_kC (h1 e he) (fun j hj => aw_pk (by omega)) (fun _ _ _ => rfl) (fun _ _ _ => rfl)
  · have hv := ub_r he
    exact ec_kU (h2 e he) (fun j hj => aw_pk (by omega)) (fun _ _ _ _ => rfl)
  · rw [aw_pk (by omega)]; exact h3 m hm w hw
  · rw [aw_pk (by omega)]; exact h4
  · rw [aw_pk (by omega)]; exact h5
  · rw [aw_pk (by omega)]; exact h6
  · rw [aw_pk (by omega)]; exact h7
theorem cl_im (hB : gs_B S0) (hg : S0 9 0 0 < 2 ^ 30) (W : gs_S → gs_Z → (Nat → Bool) → Nat → gl_T) (V : aw_m → Nat → Nat → Int32 → Int32 → Option (Int32 × aw_m)) (dp : Int32) {m : Nat} (hm : m < 6) (hp : S0 5 m 0 ≠ 0) (h8 : ∀ i, i < S0 6 m 0 → S0 8 m i < 2 ^ 31)
    (hW : ∀ S Z B k, k < 6 → gl_J S0 Z0 S Z B → gl_P S0 Z0 (fun _ => False) S B (W S Z B k) ∧ ((W S Z B k).1 = 0 → (W S Z B k).2.1 5 (6 + k) 0 ≠ 0))
    (hV : ∀ σ S Z B k, k < 6 → gl_J S0 Z0 S Z B → ec_E σ S Z → gl_bg σ B → ∃ σ2, V σ 63 7 (nI k) (dp + 1) = some ((W S Z B k).1, σ2) ∧ ec_E σ2 (W S Z B k).2.1 (W S Z B k).2.2.1 ∧ gl_bg σ2 (W S Z B k).2.2.2) :
    ∀ r i g σ S Z B, r < g → i + r = S0 6 m 0 → gl_J S0 Z0 S Z B → ec_E σ S Z → gl_bg σ B →
    ∃ σ2, xq_M_bringOne_57 V g σ 63 7 (nI m) dp (7 + 1 + 1 + 9 * m) (nI i) = some ((gl_im W m r i S Z B).1, σ2) ∧ ec_E σ2 (gl_im W m r i S Z B).2.1 (gl_im W m r i S Z B).2.2.1 ∧ gl_bg σ2 (gl_im W m r i S Z B).2.2.2 := by
  have b6 := (hB.2.1 m (by omega)).1
  intro r
  induction r with
  | zero =>
    intro i g σ S Z B hgl hi hJ h hb
    obtain ⟨g, rfl⟩ : ∃ g', g = g' + 1 := ⟨g - 1, by omega⟩
    have hBS := J_B hB hJ
    have u3 := (h.2.1 m (by omega)).2.2.1
    rw [ub_o hm, hJ.1 6 m 0 (by omega)] at u3
    have z1 := gs_al_le hBS 6 (by omega)
    have z2 := gs_z_le hBS (e := m) (by omega)
    have es := sc_size h hBS (e := m) (by omega)
    rw [cb_o hm] at es
    rw [xq_M_bringOne_57, u3, if_pos (nI_le (by omega) (by omega)), sc_all h hBS, b_some, es, b_some, ad_nI, gl_im]
    by_cases hl : gs_al S 6 + gs_z S m ≤ 50
    · obtain ⟨σ2, e1, e2, e3⟩ := sc_fill h hBS hm
      rw [ub_o hm] at e1
      rw [if_pos (show nI (gs_al S 6 + gs_z S m) ≤ (50 : Int32) from nI_le (b := 50) hl (by omega)), if_pos (in_nI hm (by omega)), tn_nI (by omega), e1, b_some, if_pos hl]
      exact ⟨σ2, rfl, e2, fun k hk => by rw [e3]; exact hb k hk⟩
    · rw [if_neg (show ¬ nI (gs_al S 6 + gs_z S m) ≤ (50 : Int32) from nI_ge (a := 50) (by omega) (by omega)), if_neg hl]
      exact ⟨σ, rfl, h, hb⟩
  | succ r ih =>
    intro i g σ S Z B hgl hi hJ h hb
    obtain ⟨g, rfl⟩ : ∃ g', g = g' + 1 := ⟨g - 1, by omega⟩
    have e7 : S 7 m i = S0 7 m i := hJ.1 7 m i (by omega)
    have e8 : S 8 m i = S0 8 m i := hJ.1 8 m i (by omega)
    have h7 : S 7 m i < 6 := by rw [e7]; exact (hB.2.1 m (by omega)).2.1 i (by omega)
    obtain ⟨-, -, u3, u4⟩ := h.2.1 m (by omega)
    rw [ub_o hm, hJ.1 6 m 0 (by omega)] at u3
    rw [ub_o hm, hJ.1 6 m 0 (by omega)] at u4
    obtain ⟨⟨w1, w2, w3⟩, w4⟩ := hW S Z B (S 7 m i) h7 hJ
    obtain ⟨σ2, v1, v2, v3⟩ := hV σ S Z B (S 7 m i) h7 hJ h hb
    rw [xq_M_bringOne_57, u3, if_neg (nI_ge (by omega) (by omega)), if_pos (in_nI (by omega) (by omega)), tn_nI (by omega), (u4 i (by omega)).1, v1, b_some, gl_im]
    generalize W S Z B (S 7 m i) = q at w1 w2 w3 w4 v1 v2 v3
    dsimp only
    by_cases hf : q.1 = 0
    · have x4 := (v2.2.1 m (by omega)).2.2.2
      have eq6 : q.2.1 6 m 0 = S0 6 m 0 := w1.1 6 m 0 (by omega)
      rw [ub_o hm, eq6] at x4
      obtain ⟨x5, x6⟩ := x4 i (by omega)
      rw [w1.1 7 m i (by omega), ← e7] at x5
      rw [w1.1 8 m i (by omega), ← e8] at x6
      have x7 := (v2.2.1 (6 + S 7 m i) (by omega)).2.1 (w4 hf)
      rw [ub_l h7] at x7
      have hBq := J_B hB w1
      have x8 := (hBq.2.1 (6 + S 7 m i) (by omega)).2.2
      rw [w1.1 9 0 0 (by omega)] at x8
      have x9 := h8 i (by omega)
      rw [if_pos hf, if_pos (in_nI (by omega) (by omega))]
      simp only [x5]
      rw [if_pos (in_nI h7 (by omega)), if_pos (in_nI (by omega) (by omega)), tn_nI (by omega), x7, x6, if_pos hf]
      by_cases hk : q.2.1 5 (6 + S 7 m i) 0 = S 8 m i
      · rw [if_pos (by rw [hk]), if_pos hk, nz_1, ad_nI]
        exact ih (i + 1) g σ2 q.2.1 q.2.2.1 q.2.2.2 (by omega) (by omega) w1 v2 v3
      · rw [if_neg (fun z => hk ((nI_eq (by omega) (by omega)).mp z)), if_neg hk]
        exact ⟨σ2, rfl, v2, v3⟩
    · rw [if_neg hf, if_neg hf]
      exact ⟨σ2, rfl, v2, v3⟩
theorem cl_one (hB : gs_B S0) (hg : S0 9 0 0 < 2 ^ 30) (h8 : ∀ m, m < 6 → S0 5 m 0 ≠ 0 → ∀ i, i < S0 6 m 0 → S0 8 m i < 2 ^ 31) : ∀ d, d ≤ 6 → ∀ g, d < g → ∀ σ S Z B m, m < 6 → gl_J S0 Z0 S Z B → ec_E σ S Z → gl_bg σ B →
    ∃ σ2, xm_M_bringOne g σ 63 7 (nI m) (nI (6 - d)) = some ((gl_one d S Z B m).1, σ2) ∧ ec_E σ2 (gl_one d S Z B m).2.1 (gl_one d S Z B m).2.2.1 ∧ gl_bg σ2 (gl_one d S Z B m).2.2.2 := by
  intro d
  induction d with
  | zero =>
    intro _ g hgl σ S Z B m hm hJ h hb
    obtain ⟨g, rfl⟩ : ∃ g', g = g' + 1 := ⟨g - 1, by omega⟩
    show ∃ σ2, xm_M_bringOne_b (xm_M_bringOne g) σ 63 7 (nI m) (nI 6) = _ ∧ _
    unfold xm_M_bringOne_b
    rw [mh_in h hm, b_some, gl_one]
    by_cases h0 : S 5 (6 + m) 0 = 0
    · rw [if_pos h0, if_pos rfl, if_pos (show (6 : Int32) ≤ nI 6 by decide), if_pos h0]
      exact ⟨σ, rfl, h, hb⟩
    · rw [if_neg h0, if_neg (by decide), if_neg h0]
      exact ⟨σ, rfl, h, hb⟩
  | succ d ih =>
    intro hd g hgl σ S Z B m hm hJ h hb
    obtain ⟨g, rfl⟩ : ∃ g', g = g' + 1 := ⟨g - 1, by omega⟩
    have hbm := hb m hm
    show ∃ σ2, xm_M_bringOne_b (xm_M_bringOne g) σ 63 7 (nI m) (nI (6 - (d + 1))) = _ ∧ _
    unfold xm_M_bringOne_b
    rw [mh_in h hm, b_some, gl_one]
    by_cases h0 : S 5 (6 + m) 0 = 0
    · rw [if_pos h0, if_pos rfl, if_neg (show ¬ (6 : Int32) ≤ nI (6 - (d + 1)) from nI_ge (b := 6) (by omega) (by omega)), if_pos (in_nI hm (by omega)), tn_nI (by omega), show 63 + 2 = 65 from rfl, hbm, if_pos h0]
      by_cases hbb : B m = true
      · rw [if_pos hbb, if_neg (by decide), if_pos hbb]
        exact ⟨σ, rfl, h, hb⟩
      · rw [if_neg hbb, if_pos rfl, if_neg hbb, lh_in h hm, b_some]
        by_cases hk : S 5 m 0 = 0
        · rw [if_pos hk, if_pos rfl, if_pos hk]
          exact ⟨σ, rfl, h, hb⟩
        · rw [if_neg hk, if_neg (by decide), if_pos (in_nI hm (by omega)), l_eq, if_pos (in_nI hm (by omega)), if_neg hk]
          have hp : S0 5 m 0 ≠ 0 := by rw [← hJ.1 5 m 0 (by omega)]; exact hk
          have b6 := (hB.2.1 m (by omega)).1
          have e6 : S 6 m 0 = S0 6 m 0 := hJ.1 6 m 0 (by omega)
          have := cl_im hB hg (gl_one d) (xm_M_bringOne g) (nI (6 - (d + 1))) hm hp (h8 m hm hp) (one_P hB d) (fun σ S Z B k hk hJ h hb => by
            rw [nz_1, ad_nI, show 6 - (d + 1) + 1 = 6 - d by omega]
            exact ih (by omega) g (by omega) σ S Z B k hk hJ h hb) (S 6 m 0) 0 64 (aw_p σ 65 m 1) S Z (gl_B B m) (by omega) (by omega) (J_lB hJ h0 hbb) (ec_65 h _ _) (fun k hk => by
              rw [aw_pe]
              by_cases hq : k = m
              · subst hq; rw [up_e, lB_e]; rfl
              · rw [up_n hq, lB_n hq]; exact hb k hk)
          exact this
    · rw [if_neg h0, if_neg (by decide), if_neg h0]
      exact ⟨σ, rfl, h, hb⟩
end GL
