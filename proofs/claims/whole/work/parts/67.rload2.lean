/-! load: the reference's loop against the middle -/
def gl_n (B : Nat → Bool) : Nat := gi_b (B 0) + gi_b (B 1) + gi_b (B 2) + gi_b (B 3) + gi_b (B 4) + gi_b (B 5)
theorem gn_le (B : Nat → Bool) : gl_n B ≤ 6 := by
  unfold gl_n
  have := gi_b1 (B 0); have := gi_b1 (B 1); have := gi_b1 (B 2); have := gi_b1 (B 3); have := gi_b1 (B 4); have := gi_b1 (B 5)
  omega
theorem gn_up {B : Nat → Bool} {m : Nat} (hm : m < 6) (h : ¬ B m = true) : gl_n (gl_B B m) = gl_n B + 1 := by
  have h0 : gi_b (B m) = 0 := if_neg h
  have h1 : gi_b (gl_B B m m) = 1 := by rw [lB_e]; rfl
  unfold gl_n
  rcases (show m = 0 ∨ m = 1 ∨ m = 2 ∨ m = 3 ∨ m = 4 ∨ m = 5 by omega) with rfl | rfl | rfl | rfl | rfl | rfl
  · rw [h1, lB_n (k := 1) (by omega), lB_n (k := 2) (by omega), lB_n (k := 3) (by omega), lB_n (k := 4) (by omega), lB_n (k := 5) (by omega)]; omega
  · rw [h1, lB_n (k := 0) (by omega), lB_n (k := 2) (by omega), lB_n (k := 3) (by omega), lB_n (k := 4) (by omega), lB_n (k := 5) (by omega)]; omega
  · rw [h1, lB_n (k := 0) (by omega), lB_n (k := 1) (by omega), lB_n (k := 3) (by omega), lB_n (k := 4) (by omega), lB_n (k := 5) (by omega)]; omega
  · rw [h1, lB_n (k := 0) (by omega), lB_n (k := 1) (by omega), lB_n (k := 2) (by omega), lB_n (k := 4) (by omega), lB_n (k := 5) (by omega)]; omega
  · rw [h1, lB_n (k := 0) (by omega), lB_n (k := 1) (by omega), lB_n (k := 2) (by omega), lB_n (k := 3) (by omega), lB_n (k := 5) (by omega)]; omega
  · rw [h1, lB_n (k := 0) (by omega), lB_n (k := 1) (by omega), lB_n (k := 2) (by omega), lB_n (k := 3) (by omega), lB_n (k := 4) (by omega)]; omega
theorem hc_ld {S : gs_S} {m : Nat} (h0 : S 5 (6 + m) 0 = 0) (hp : S 5 m 0 ≠ 0) : ∀ n, gs_hc (gs_ld S m) 6 n = gs_hc S 6 n + (if m < n then 1 else 0) := by
  intro n
  induction n with
  | zero => rw [if_neg (by omega)]; rfl
  | succ n ih =>
    rw [gs_hc, gs_hc, ih]
    by_cases hq : n = m
    · subst hq
      rw [ld_e (by omega), if_neg hp, if_pos h0, if_neg (by omega), if_pos (by omega)]
    · rw [ld_n (by omega)]
      by_cases hl : m < n
      · rw [if_pos hl, if_pos (show m < n + 1 by omega)]; omega
      · rw [if_neg hl, if_neg (show ¬ m < n + 1 by omega)]; omega
theorem one_ld {d : Nat} {S : gs_S} {Z : gs_Z} {B : Nat → Bool} {m : Nat} (h : S 5 (6 + m) 0 ≠ 0) : gl_one d S Z B m = (0, S, Z, B) := by
  cases d with
  | zero => rw [gl_one, if_neg h]
  | succ d => rw [gl_one, if_neg h]
theorem gi_all {S : gs_S} {m k : Nat} {x : gi_T} (h : gi_ok S m x) (hx : x.1 = 6) (hk : k < 6) : gi_mem x.2 k x.1 = true := by
  have h2 := h.2
  have b0 := gi_b1 (gi_mem x.2 0 x.1)
  have b1 := gi_b1 (gi_mem x.2 1 x.1)
  have b2 := gi_b1 (gi_mem x.2 2 x.1)
  have b3 := gi_b1 (gi_mem x.2 3 x.1)
  have b4 := gi_b1 (gi_mem x.2 4 x.1)
  have b5 := gi_b1 (gi_mem x.2 5 x.1)
  unfold gi_sum at h2
  have one : ∀ b : Bool, gi_b b = 1 → b = true := by intro b; cases b <;> decide
  rcases (show k = 0 ∨ k = 1 ∨ k = 2 ∨ k = 3 ∨ k = 4 ∨ k = 5 by omega) with rfl | rfl | rfl | rfl | rfl | rfl <;> exact one _ (by omega)
section RM
variable {S0 : gs_S} {Z0 : gs_Z} {C : aw_m → Int32 → Int32 → Int32 → Option (Int32 × aw_m)} {v1 v2 : Int32}
def rl_M (f : Nat → Nat) (K : Nat) (S : gs_S) (B : Nat → Bool) : Prop := ∀ k, k < 6 → (gi_mem f k K = true ↔ (B k = true ∧ S 5 (6 + k) 0 = 0))
/-- from depth K1 to depth K2, u iterations beside those of what is begun -/
def rl_Q (C : aw_m → Int32 → Int32 → Int32 → Option (Int32 × aw_m)) (v1 v2 : Int32) (f : Nat → Nat) (K1 K2 u n c : Nat) (τ : aw_m) (S : gs_S) (B : Nat → Bool) (q : gl_T) : Prop :=
  (q.1 = 0 → ∃ n' c' τ', xq_R_load_88 C n τ v1 v2 (nI K1) 0 (nI c) = xq_R_load_88 C n' τ' v1 v2 (nI K2) 0 (nI c') ∧ c' + gs_hc S 6 6 = c + gs_hc q.2.1 6 6 ∧ er_E τ' q.2.1 q.2.2.1 ∧ (∀ j, j < K2 → τ' 13 j = τ 13 j ∧ τ' 14 j = τ 14 j) ∧ n + 7 * gl_n B ≤ n' + u + 7 * gl_n q.2.2.2 ∧ rl_M f K2 q.2.1 q.2.2.2) ∧
  (q.1 ≠ 0 → ∃ n' K' c' τ', xq_R_load_88 C n τ v1 v2 (nI K1) 0 (nI c) = xq_R_load_88 C (n' + 1) τ' v1 v2 (nI K') q.1 c' ∧ er_E τ' q.2.1 q.2.2.1)
def rl_H (S0 : gs_S) (Z0 : gs_Z) (C : aw_m → Int32 → Int32 → Int32 → Option (Int32 × aw_m)) (v1 v2 : Int32) (d K : Nat) (x : gi_T) : Prop :=
  ∀ n c τ S Z B i, i < S0 6 (x.2 K) 0 → gl_J S0 Z0 S Z B → rl_M x.2 (K + 1) S B → er_E τ S Z → (∀ j, j < K + 1 → τ 13 j = nI (x.2 j)) → τ 14 K = nI i → S 5 (6 + S0 7 (x.2 K) i) 0 = 0 → 45 ≤ n + 7 * gl_n B → rl_Q C v1 v2 x.2 (K + 1) (K + 1) 0 n c τ S B (gl_one d S Z B (S0 7 (x.2 K) i))
theorem rl_r (hB : gs_B S0) (hg : S0 9 0 0 < 2 ^ 30) (h8 : ∀ m, m < 6 → S0 5 m 0 ≠ 0 → ∀ i, i < S0 6 m 0 → S0 8 m i < 2 ^ 31) {d K : Nat} (hK : K ≤ 5) {x : gi_T} (hx : x.1 = K + 1) (hok : gi_ok S0 99 x) (hT : gi_mem x.2 (x.2 K) K = false) (hH : rl_H S0 Z0 C v1 v2 d K x) :
    ∀ r i n c τ S Z B, i + r = S0 6 (x.2 K) 0 → gl_J S0 Z0 S Z B → B (x.2 K) = true → S 5 (6 + x.2 K) 0 = 0 → rl_M x.2 (K + 1) S B → er_E τ S Z → (∀ j, j < K + 1 → τ 13 j = nI (x.2 j)) → τ 14 K = nI i → r + 44 ≤ n + 7 * gl_n B →
    rl_Q C v1 v2 x.2 (K + 1) K (r + 1) n c τ S B (gl_im (gl_one d) (x.2 K) r i S Z B) := by
  obtain ⟨hm, -, hp⟩ := hok.1 K (by omega)
  have hb6 := (hB.2.1 (x.2 K) (by omega)).1
  intro r
  induction r with
  | zero =>
    intro i n c τ S Z B hi hJ hBm h0 hM h h13 h14 hn
    have hgn := gn_le B
    obtain ⟨n, rfl⟩ : ∃ n', n = n' + 1 + 1 := ⟨n - 2, by omega⟩
    have hBS := J_B hB hJ
    have e6 : S 6 (x.2 K) 0 = S0 6 (x.2 K) 0 := hJ.1 6 _ 0 (by omega)
    have e9 : S 9 0 0 = S0 9 0 0 := hJ.1 9 0 0 (by omega)
    have e5 : S 5 (x.2 K) 0 = S0 5 (x.2 K) 0 := hJ.1 5 _ 0 (by omega)
    obtain ⟨a1, a2⟩ := rl_end (C := C) (v1 := v1) (v2 := v2) (c := nI c) (n := n + 1) h hBS (by omega) hm hK (by omega) (h13 K (by omega)) h14
    rw [gl_im]
    by_cases hl : gs_al S 6 + gs_z S (x.2 K) ≤ 50
    · rw [if_pos hl]
      obtain ⟨τ2, e1, e2, e3⟩ := a1 hl
      refine ⟨fun _ => ⟨n + 1, c + 1, τ2, ?_, ?_, e2, fun j _ => ?_, ?_, fun k hk => ?_⟩, fun z => absurd rfl z⟩
      · rw [e1, nz_1, ad_nI]
      · show c + 1 + _ = c + gs_hc (gs_ld S (x.2 K)) 6 6
        rw [hc_ld h0 (by rw [e5]; exact hp), if_pos hm]; omega
      · rw [e3 13 (by omega), e3 14 (by omega)]; exact ⟨rfl, rfl⟩
      · show n + 1 + 1 + 7 * gl_n B ≤ n + 1 + (0 + 1) + 7 * gl_n B
        omega
      · show _ ↔ (B k = true ∧ gs_ld S (x.2 K) 5 (6 + k) 0 = 0)
        by_cases hq : k = x.2 K
        · rw [hq, hT, ld_e (by omega), e5]
          exact ⟨fun z => (by cases z), fun z => absurd z.2 hp⟩
        · have := hM k hk
          rw [gi_mem, decide_eq_false (fun z => hq z.symm), Bool.or_false] at this
          rw [ld_n (by omega)]; exact this
    · rw [if_neg hl]
      refine ⟨fun z => absurd (show (-2 : Int32) = 0 from z) (by decide), fun _ => ⟨n, K + 1, nI c, τ, a2 hl, h⟩⟩
  | succ r ih =>
    intro i n c τ S Z B hi hJ hBm h0 hM h h13 h14 hn
    have h7 : S0 7 (x.2 K) i < 6 := (hB.2.1 (x.2 K) (by omega)).2.1 i (by omega)
    have cmp : ∀ n c τ S Z B, gl_J S0 Z0 S Z B → B (x.2 K) = true → S 5 (6 + x.2 K) 0 = 0 → rl_M x.2 (K + 1) S B → er_E τ S Z → (∀ j, j < K + 1 → τ 13 j = nI (x.2 j)) → τ 14 K = nI i → r + 1 + 44 ≤ n + 7 * gl_n B → S 5 (6 + S0 7 (x.2 K) i) 0 ≠ 0 →
        rl_Q C v1 v2 x.2 (K + 1) K (r + 1 + 1) n c τ S B (if S 5 (6 + S0 7 (x.2 K) i) 0 = S0 8 (x.2 K) i then gl_im (gl_one d) (x.2 K) r (i + 1) S Z B else (-5, S, Z, B)) := by
      intro n c τ S Z B hJ hBm h0 hM h h13 h14 hn hld
      have hgn := gn_le B
      obtain ⟨n, rfl⟩ : ∃ n', n = n' + 1 + 1 := ⟨n - 2, by omega⟩
      have hBS := J_B hB hJ
      have e6 : S 6 (x.2 K) 0 = S0 6 (x.2 K) 0 := hJ.1 6 _ 0 (by omega)
      have e7 : S 7 (x.2 K) i = S0 7 (x.2 K) i := hJ.1 7 _ i (by omega)
      have e8 : S 8 (x.2 K) i = S0 8 (x.2 K) i := hJ.1 8 _ i (by omega)
      have e9 : S 9 0 0 = S0 9 0 0 := hJ.1 9 0 0 (by omega)
      have st := rl_cmp (C := C) (v1 := v1) (v2 := v2) (c := nI c) (n := n + 1) h hBS (by omega) hm hK (by omega) (by rw [e8]; exact h8 _ hm hp i (by omega)) (h13 K (by omega)) h14 (by rw [e7]; exact hld)
      rw [e7, e8] at st
      have hE := er_p h (k := 14) (by omega) K (nI (i + 1))
      by_cases hq : S 5 (6 + S0 7 (x.2 K) i) 0 = S0 8 (x.2 K) i
      · rw [if_pos hq] at st ⊢
        obtain ⟨p1, p2⟩ := ih (i + 1) (n + 1) c (aw_p τ 14 K (nI (i + 1))) S Z B (by omega) hJ hBm h0 hM hE (fun j hj => by rw [aw_pk (by omega)]; exact h13 j hj) (by rw [aw_pe, up_e]) (by omega)
        refine ⟨fun z => ?_, fun z => ?_⟩
        · obtain ⟨n', c', τ', q1, q2, q3, q4, q5, q6⟩ := p1 z
          refine ⟨n', c', τ', st.trans q1, q2, q3, fun j hj => ?_, by omega, q6⟩
          obtain ⟨y1, y2⟩ := q4 j hj
          rw [y1, y2, aw_pk (by omega), aw_pe, up_n (by omega)]
          exact ⟨rfl, rfl⟩
        · obtain ⟨n', K', c', τ', q1, q2⟩ := p2 z
          exact ⟨n', K', c', τ', st.trans q1, q2⟩
      · rw [if_neg hq] at st ⊢
        exact ⟨fun z => absurd (show (-5 : Int32) = 0 from z) (by decide), fun _ => ⟨n, K + 1, nI c, _, st, hE⟩⟩
    have e7 : S 7 (x.2 K) i = S0 7 (x.2 K) i := hJ.1 7 _ i (by omega)
    have e8 : S 8 (x.2 K) i = S0 8 (x.2 K) i := hJ.1 8 _ i (by omega)
    rw [gl_im, e7, e8]
    by_cases hld : S 5 (6 + S0 7 (x.2 K) i) 0 = 0
    · obtain ⟨p1, p2⟩ := hH n c τ S Z B i (by omega) hJ hM h h13 h14 hld (by omega)
      obtain ⟨⟨w1, w2, w3⟩, w4⟩ := one_P hB d S Z B (S0 7 (x.2 K) i) h7 hJ
      generalize gl_one d S Z B (S0 7 (x.2 K) i) = q at p1 p2 w1 w2 w3 w4
      by_cases hf : q.1 = 0
      · rw [if_pos hf]
        obtain ⟨n', c', τ', q1, q2, q3, q4, q5, q6⟩ := p1 hf
        obtain ⟨g1, g2⟩ := cmp n' c' τ' q.2.1 q.2.2.1 q.2.2.2 w1 (w2 _ hBm) (by rw [w3 _ hm (fun z => z) (Or.inr hBm)]; exact h0) q6 q3 (fun j hj => by rw [(q4 j hj).1]; exact h13 j hj) (by rw [(q4 K (by omega)).2]; exact h14) (by omega) (w4 hf)
        have es : (-5, q.2) = ((-5, q.2.1, q.2.2.1, q.2.2.2) : gl_T) := rfl
        rw [es]
        refine ⟨fun z => ?_, fun z => ?_⟩
        · obtain ⟨n2, c2, τ2, y1, y2, y3, y4, y5, y6⟩ := g1 z
          refine ⟨n2, c2, τ2, q1.trans y1, by omega, y3, fun j hj => ?_, by omega, y6⟩
          obtain ⟨o1, o2⟩ := y4 j hj
          obtain ⟨o3, o4⟩ := q4 j (by omega)
          exact ⟨o1.trans o3, o2.trans o4⟩
        · obtain ⟨n2, K2, c2, τ2, y1, y2⟩ := g2 z
          exact ⟨n2, K2, c2, τ2, q1.trans y1, y2⟩
      · rw [if_neg hf]
        exact ⟨fun z => absurd z hf, fun z => p2 z⟩
    · rw [one_ld hld]
      show rl_Q C v1 v2 x.2 (K + 1) K (r + 1 + 1) n c τ S B (if (0 : Int32) = 0 then (if S 5 (6 + S0 7 (x.2 K) i) 0 = S0 8 (x.2 K) i then gl_im (gl_one d) (x.2 K) r (i + 1) S Z B else (-5, S, Z, B)) else (0, S, Z, B))
      rw [if_pos rfl]
      exact cmp n c τ S Z B hJ hBm h0 hM h h13 h14 hn hld
theorem rl_d (hB : gs_B S0) (hg : S0 9 0 0 < 2 ^ 30) (h8 : ∀ m, m < 6 → S0 5 m 0 ≠ 0 → ∀ i, i < S0 6 m 0 → S0 8 m i < 2 ^ 31) : ∀ d K, d + K + 1 = 6 → ∀ (x : gi_T), x.1 = K + 1 → gi_ok S0 99 x → rl_H S0 Z0 C v1 v2 d K x := by
  intro d
  induction d with
  | zero =>
    intro K hdK x hx hok n c τ S Z B i hi hJ hM h h13 h14 hld hn
    obtain ⟨hm, -, hp⟩ := hok.1 K (by omega)
    have hgn := gn_le B
    obtain ⟨n, rfl⟩ : ∃ n', n = n' + 1 + 1 := ⟨n - 2, by omega⟩
    have hBS := J_B hB hJ
    have h7 : S0 7 (x.2 K) i < 6 := (hB.2.1 (x.2 K) (by omega)).2.1 i (by omega)
    have e6 : S 6 (x.2 K) 0 = S0 6 (x.2 K) 0 := hJ.1 6 _ 0 (by omega)
    have e7 : S 7 (x.2 K) i = S0 7 (x.2 K) i := hJ.1 7 _ i (by omega)
    have e9 : S 9 0 0 = S0 9 0 0 := hJ.1 9 0 0 (by omega)
    have st := rl_push (C := C) (v1 := v1) (v2 := v2) (c := nI c) (n := n + 1) h hBS (by omega) hm (by omega) (by omega) hx rfl (fun j hj => (hok.1 j hj).1) (fun j hj => h13 j (by omega)) h14 (by rw [e7]; exact hld)
    rw [e7, gi_all hok (by omega) h7, if_pos rfl] at st
    rw [gl_one, if_pos hld]
    exact ⟨fun z => absurd (show (-6 : Int32) = 0 from z) (by decide), fun _ => ⟨n, _, _, _, st, er_p (er_p h (by omega) _ _) (by omega) _ _⟩⟩
  | succ d ih =>
    intro K hdK x hx hok n c τ S Z B i hi hJ hM h h13 h14 hld hn
    obtain ⟨hm, -, hp⟩ := hok.1 K (by omega)
    have hgn := gn_le B
    obtain ⟨n, rfl⟩ : ∃ n', n = n' + 1 + 1 := ⟨n - 2, by omega⟩
    have hBS := J_B hB hJ
    have h7 : S0 7 (x.2 K) i < 6 := (hB.2.1 (x.2 K) (by omega)).2.1 i (by omega)
    have e6 : S 6 (x.2 K) 0 = S0 6 (x.2 K) 0 := hJ.1 6 _ 0 (by omega)
    have e7 : S 7 (x.2 K) i = S0 7 (x.2 K) i := hJ.1 7 _ i (by omega)
    have e9 : S 9 0 0 = S0 9 0 0 := hJ.1 9 0 0 (by omega)
    have st := rl_push (C := C) (v1 := v1) (v2 := v2) (c := nI c) (n := n + 1) h hBS (by omega) hm (by omega) (by omega) hx rfl (fun j hj => (hok.1 j hj).1) (fun j hj => h13 j (by omega)) h14 (by rw [e7]; exact hld)
    rw [e7, hx] at st
    obtain ⟨to, hto⟩ : ∃ to, to = S0 7 (x.2 K) i := ⟨_, rfl⟩
    rw [← hto] at st hld h7 ⊢
    have hE : er_E (aw_p (aw_p τ 13 (K + 1) (nI to)) 14 (K + 1) 0) S Z := er_p (er_p h (by omega) _ _) (by omega) _ _
    have e5 : S 5 to 0 = S0 5 to 0 := hJ.1 5 _ 0 (by omega)
    have e6t : S 6 to 0 = S0 6 to 0 := hJ.1 6 _ 0 (by omega)
    rw [gl_one, if_pos hld]
    by_cases hb : B to = true
    · rw [if_pos ((hM to h7).mpr ⟨hb, hld⟩)] at st
      rw [if_pos hb]
      exact ⟨fun z => absurd (show (-6 : Int32) = 0 from z) (by decide), fun _ => ⟨n, _, _, _, st, hE⟩⟩
    have hmf : ¬ gi_mem x.2 to (K + 1) = true := fun z => hb ((hM to h7).mp z).1
    have hmf2 : gi_mem x.2 to (K + 1) = false := by
      cases hq : gi_mem x.2 to (K + 1) with
      | false => rfl
      | true => exact absurd hq hmf
    rw [if_neg hmf] at st
    rw [if_neg hb]
    by_cases hk : S 5 to 0 = 0
    · rw [if_pos hk] at st ⊢
      exact ⟨fun z => absurd (show (-4 : Int32) = 0 from z) (by decide), fun _ => ⟨n, _, _, _, st, hE⟩⟩
    rw [if_neg hk] at st ⊢
    have hok2 : gi_ok S0 99 (x.1 + 1, gi_up x.2 x.1 to) := gi_add hok h7 (by omega) (by rw [← e5]; exact hk) (by rw [hx]; exact hmf2)
    rw [hx] at hok2
    have hup : gi_up x.2 (K + 1) to (K + 1) = to := if_pos rfl
    have hun : ∀ j, j < K + 1 → gi_up x.2 (K + 1) to j = x.2 j := fun j hj => if_neg (by omega)
    have hK5 : K + 1 ≤ 5 := by omega
    have hgu := gn_up h7 hb
    have hb6 := (hB.2.1 to (by omega)).1
    have sub := rl_r hB hg h8 (C := C) (v1 := v1) (v2 := v2) (d := d) hK5 (x := (K + 1 + 1, gi_up x.2 (K + 1) to)) rfl hok2 (by
      show gi_mem (gi_up x.2 (K + 1) to) (gi_up x.2 (K + 1) to (K + 1)) (K + 1) = false
      rw [hup, mem_up _ _ (Nat.le_refl _)]; exact hmf2) (ih (K + 1) (by omega) _ rfl hok2) (S 6 to 0) 0 (n + 1) c (aw_p (aw_p τ 13 (K + 1) (nI to)) 14 (K + 1) 0) S Z (gl_B B to)
    dsimp only at sub
    rw [hup] at sub
    obtain ⟨p1, p2⟩ := sub (by omega) (J_lB hJ hld hb) lB_e hld (fun k hk => by
        rw [mem_add]
        by_cases hq : k = to
        · subst hq
          rw [decide_eq_true rfl, Bool.or_true, lB_e]
          exact ⟨fun _ => ⟨rfl, hld⟩, fun _ => rfl⟩
        · rw [decide_eq_false (fun z => hq z.symm), Bool.or_false, lB_n hq]; exact hM k hk) hE (fun j hj => by
        rw [aw_pk (by omega), aw_pe]
        by_cases hq : j = K + 1
        · rw [hq, up_e, hup]
        · rw [up_n hq, hun j (by omega)]; exact h13 j (by omega)) (by rw [aw_pe, up_e]; rfl) (by omega)
    refine ⟨fun z => ?_, fun z => ?_⟩
    · obtain ⟨n', c', τ', q1, q2, q3, q4, q5, q6⟩ := p1 z
      refine ⟨n', c', τ', st.trans q1, q2, q3, fun j hj => ?_, by omega, fun k hk => ?_⟩
      · obtain ⟨y1, y2⟩ := q4 j hj
        rw [y1, y2, aw_pk (by omega), aw_pe, up_n (by omega), aw_pe, up_n (by omega), aw_pk (by omega)]
        exact ⟨rfl, rfl⟩
      · have := q6 k hk
        rw [mem_up _ _ (Nat.le_refl _)] at this
        exact this
    · obtain ⟨n', K', c', τ', q1, q2⟩ := p2 z
      exact ⟨n', K', c', τ', st.trans q1, q2⟩
end RM
