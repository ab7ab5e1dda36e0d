/-! what a shelf keeps: a key names an interface, what is kept is right against the keys it names, what is loaded is closed -/
def gw_k (S : gs_S) (e k K : Nat) : Prop := (k = e % 6 ∧ K = S 5 e 0) ∨ ∃ i, i < S 6 e 0 ∧ S 7 e i = k ∧ S 8 e i = K
def gw_tk (Fv Fp : Nat → Nat) (Fa : Nat → Nat → Nat) (S : gs_S) (Z : gs_Z) (e c n : Nat) : Prop :=
  (S 4 e c = 0 ∧ n = 0) ∨ (S 4 e c = 1 ∧ n = 0) ∨
  (S 4 e c = 2 ∧ n = 0 ∧ ∃ k v K, k < 6 ∧ Z 0 e c = nI k ∧ Z 1 e c = nI v ∧ gw_k S e k K ∧ v < Fv K) ∨
  (S 4 e c = 3 ∧ n = 1 ∧ ∃ v, Z 1 e c = nI v ∧ v < S 0 e 0) ∨
  (S 4 e c = 9 ∧ n = 3) ∨
  (S 4 e c = 11 ∧ ∃ k v K, k < 6 ∧ Z 0 e c = nI k ∧ Z 1 e c = nI v ∧ gw_k S e k K ∧ v < Fp K ∧ n = Fa K v) ∨
  (((4 ≤ S 4 e c ∧ S 4 e c ≤ 8) ∨ S 4 e c = 10) ∧ n = 2)
def gw_E (Fv Fp : Nat → Nat) (Fa : Nat → Nat → Nat) (S : gs_S) (Z : gs_Z) (e : Nat) : Prop :=
  (S 0 e 0 = Fv (S 5 e 0) ∧ S 1 e 0 = Fp (S 5 e 0) ∧ ∀ b, b < S 1 e 0 → S 2 e b = Fa (S 5 e 0) b) ∧
  (∃ N : Nat → Nat → Nat, ∀ p, p < S 1 e 0 → pw_ (N p) (S 3 e p) 5 0 (S 3 e p) ∧ ∀ i, i < S 3 e p → gw_tk Fv Fp Fa S Z e (14 * p + i) (N p i)) ∧
  ∀ i, i < S 6 e 0 → S 8 e i ≠ 0 ∧ S 8 e i ≤ S 9 0 0
def gw_D (S : gs_S) : Prop := ∀ m, m < 6 → S 5 (6 + m) 0 ≠ 0 → ∀ i, i < S 6 (6 + m) 0 → S 5 (6 + S 7 (6 + m) i) 0 = S 8 (6 + m) i
def gs_W (S : gs_S) (Z : gs_Z) : Prop := (∃ Fv Fp Fa, ∀ e, e < 12 → S 5 e 0 ≠ 0 → gw_E Fv Fp Fa S Z e) ∧ gw_D S
theorem gw_mv {Fv Fp Fv2 Fp2 : Nat → Nat} {Fa Fa2 : Nat → Nat → Nat} {S S2 : gs_S} {Z Z2 : gs_Z} {e e2 : Nat} (h : gw_E Fv Fp Fa S Z e) (hS : ∀ t i, t ≤ 8 → S2 t e2 i = S t e i) (hZ : ∀ t i, t ≤ 1 → Z2 t e2 i = Z t e i) (hm : e2 % 6 = e % 6) (h9 : S 9 0 0 ≤ S2 9 0 0) (hk : S 5 e 0 ≤ S 9 0 0) (hF : ∀ K, K ≤ S 9 0 0 → Fv2 K = Fv K ∧ Fp2 K = Fp K ∧ ∀ b, Fa2 K b = Fa K b) : gw_E Fv2 Fp2 Fa2 S2 Z2 e2 := by
  obtain ⟨hA, ⟨N, hN⟩, hC⟩ := h
  obtain ⟨f1, f2, f3⟩ := hF _ hk
  have kk : ∀ k K, gw_k S e k K → gw_k S2 e2 k K ∧ K ≤ S 9 0 0 := by
    intro k K hq
    rcases hq with ⟨a, b⟩ | ⟨i, a, b, c⟩
    · exact ⟨Or.inl ⟨by omega, by rw [hS 5 0 (by omega)]; exact b⟩, by rw [b]; exact hk⟩
    · exact ⟨Or.inr ⟨i, by rw [hS 6 0 (by omega)]; exact a, by rw [hS 7 i (by omega)]; exact b, by rw [hS 8 i (by omega)]; exact c⟩, by rw [← c]; exact (hC i a).2⟩
  refine ⟨⟨?_, ?_, fun b hb => ?_⟩, ⟨N, fun p hp => ?_⟩, fun i hi => ?_⟩
  · rw [hS 0 0 (by omega), hS 5 0 (by omega), f1]; exact hA.1
  · rw [hS 1 0 (by omega), hS 5 0 (by omega), f2]; exact hA.2.1
  · rw [hS 1 0 (by omega)] at hb
    rw [hS 2 b (by omega), hS 5 0 (by omega), f3]; exact hA.2.2 b hb
  · rw [hS 1 0 (by omega)] at hp
    rw [hS 3 p (by omega)]
    obtain ⟨n1, n2⟩ := hN p hp
    refine ⟨n1, fun i hi => ?_⟩
    have ht := n2 i hi
    unfold gw_tk at ht ⊢
    rw [hS 4 _ (by omega), hZ 0 _ (by omega), hZ 1 _ (by omega), hS 0 0 (by omega)]
    rcases ht with a | a | ⟨a, b, k, v, K, c1, c2, c3, c4, c5⟩ | a | a | ⟨a, k, v, K, c1, c2, c3, c4, c5, c6⟩ | a
    · exact Or.inl a
    · exact Or.inr (Or.inl a)
    · obtain ⟨d1, d2⟩ := kk k K c4
      exact Or.inr (Or.inr (Or.inl ⟨a, b, k, v, K, c1, c2, c3, d1, by rw [(hF K d2).1]; exact c5⟩))
    · exact Or.inr (Or.inr (Or.inr (Or.inl a)))
    · exact Or.inr (Or.inr (Or.inr (Or.inr (Or.inl a))))
    · obtain ⟨d1, d2⟩ := kk k K c4
      exact Or.inr (Or.inr (Or.inr (Or.inr (Or.inr (Or.inl ⟨a, k, v, K, c1, c2, c3, d1, by rw [(hF K d2).2.1]; exact c5, by rw [(hF K d2).2.2]; exact c6⟩)))))
    · exact Or.inr (Or.inr (Or.inr (Or.inr (Or.inr (Or.inr a)))))
  · rw [hS 6 0 (by omega)] at hi
    rw [hS 8 i (by omega)]
    obtain ⟨c1, c2⟩ := hC i hi
    exact ⟨c1, Nat.le_trans c2 h9⟩
theorem gw_map {S S2 : gs_S} {Z Z2 : gs_Z} (h : gs_W S Z) (hB : gs_B S) (h9 : S 9 0 0 ≤ S2 9 0 0) (hc : ∀ e, e < 12 → S2 5 e 0 ≠ 0 → ∃ e', e' < 12 ∧ e % 6 = e' % 6 ∧ S 5 e' 0 ≠ 0 ∧ (∀ t i, t ≤ 8 → S2 t e i = S t e' i) ∧ ∀ t i, t ≤ 1 → Z2 t e i = Z t e' i) (hd : gw_D S2) : gs_W S2 Z2 := by
  obtain ⟨⟨Fv, Fp, Fa, hE⟩, -⟩ := h
  refine ⟨⟨Fv, Fp, Fa, fun e he hp => ?_⟩, hd⟩
  obtain ⟨e', a1, a2, a3, a4, a5⟩ := hc e he hp
  exact gw_mv (hE e' a1 a3) a4 a5 a2 h9 (hB.2.1 e' a1).2.2 (fun K _ => ⟨rfl, rfl, fun _ => rfl⟩)
/-- nothing of what is kept or loaded has changed -/
theorem gw_same {S S2 : gs_S} {Z Z2 : gs_Z} (h : gs_W S Z) (hB : gs_B S) (h9 : S2 9 0 0 = S 9 0 0) (hS : ∀ t e i, e < 12 → t ≤ 8 → S2 t e i = S t e i) (hZ : ∀ t e i, e < 12 → t ≤ 1 → Z2 t e i = Z t e i) : gs_W S2 Z2 := by
  refine gw_map h hB (by omega) (fun e he hp => ⟨e, he, rfl, ?_, fun t i ht => hS t e i he ht, fun t i ht => hZ t e i he ht⟩) ?_
  · rw [hS 5 e 0 he (by omega)] at hp; exact hp
  · intro m hm hl i hi
    rw [hS 5 _ 0 (by omega) (by omega)] at hl
    rw [hS 6 _ 0 (by omega) (by omega)] at hi
    have h7 := (hB.2.1 (6 + m) (by omega)).2.1 i hi
    rw [hS 7 _ i (by omega) (by omega), hS 8 _ i (by omega) (by omega), hS 5 _ 0 (by omega) (by omega)]
    exact h.2 m hm hl i hi
/-- an object is dropped -/
theorem gw_rem {S : gs_S} {Z : gs_Z} (h : gs_W S Z) (hB : gs_B S) {m : Nat} (hm : m < 6) : gs_W (g3 S 5 m 0 0) Z := by
  refine gw_map h hB (by rw [g3_n (by omega)]; omega) (fun e he hp => ?_) (fun k hk hl i hi => ?_)
  · have hne : e ≠ m := fun z => hp (by rw [z]; exact g3_e)
    rw [g3_n (by omega)] at hp
    exact ⟨e, he, rfl, hp, fun t i _ => g3_n (by omega), fun _ _ _ => rfl⟩
  · rw [g3_n (by omega)] at hl hi
    rw [g3_n (by omega), g3_n (by omega), g3_n (by omega)]
    exact h.2 k hk hl i hi
/-- a loaded module that no loaded one imports is dropped -/
theorem gw_unl {S : gs_S} {Z : gs_Z} (h : gs_W S Z) (hB : gs_B S) {m : Nat} (hm : m < 6) (hu : ¬ gs_us S m) : gs_W (g3 S 5 (6 + m) 0 0) Z := by
  refine gw_map h hB (by rw [g3_n (by omega)]; omega) (fun e he hp => ?_) (fun k hk hl i hi => ?_)
  · have hne : e ≠ 6 + m := fun z => hp (by rw [z]; exact g3_e)
    rw [g3_n (by omega)] at hp
    exact ⟨e, he, rfl, hp, fun t i _ => g3_n (by omega), fun _ _ _ => rfl⟩
  · have hne : 6 + k ≠ 6 + m := fun z => hl (by rw [z]; exact g3_e)
    rw [g3_n (by omega)] at hl hi
    have hm7 : S 7 (6 + k) i ≠ m := fun z => hu ⟨k, hk, hl, i, hi, z⟩
    rw [g3_n (t' := 7) (by omega), g3_n (t' := 8) (by omega), g3_n (by omega)]
    exact h.2 k hk hl i hi
/-- load -/
theorem gw_load {S0 S1 : gs_S} {Z0 Z2 : gs_Z} {B : Nat → Bool} (h : gs_W S0 Z0) (hB : gs_B S0) (hJ : gl_J S0 Z0 S1 Z2 B) : gs_W S1 Z2 ∧ gs_W (gs_dr S1 B 6) Z2 := by
  obtain ⟨j1, j2, j3⟩ := hJ
  have e9 : S1 9 0 0 = S0 9 0 0 := j1 9 0 0 (by omega)
  have e79 : ∀ m, m < 6 → ∀ i, i < S0 6 (6 + m) 0 → S0 7 (6 + m) i < 6 := fun m hm i hi => (hB.2.1 (6 + m) (by omega)).2.1 i hi
  have src : ∀ e, e < 12 → S1 5 e 0 ≠ 0 → ∃ e', e' < 12 ∧ e % 6 = e' % 6 ∧ S0 5 e' 0 ≠ 0 ∧ (∀ t i, t ≤ 8 → S1 t e i = S0 t e' i) ∧ ∀ t i, t ≤ 1 → Z2 t e i = Z0 t e' i := by
    intro e he hp
    by_cases h6 : e < 6
    · rw [j1 5 e 0 (by omega)] at hp
      exact ⟨e, he, rfl, hp, fun t i _ => j1 t e i (by omega), fun t i _ => j2 t e i (by omega)⟩
    · obtain ⟨m, rfl⟩ : ∃ m, e = 6 + m := ⟨e - 6, by omega⟩
      rcases (j3 m (by omega)).2 with ⟨a1, a2, -⟩ | ⟨-, b2, b3, b4, -⟩
      · rw [a1 5 0 (by omega)] at hp
        exact ⟨6 + m, he, rfl, hp, a1, a2⟩
      · exact ⟨m, by omega, by omega, b2, b3, b4⟩
  refine ⟨gw_map h hB (by omega) src (fun m hm hl i hi => ?_), gw_map h hB (by rw [dr_n (by omega)]; omega) (fun e he hp => ?_) (fun m hm hl i hi => ?_)⟩
  · rcases (j3 m hm).2 with ⟨a1, -, -⟩ | ⟨-, b2, b3, -, b5⟩
    · rw [a1 5 0 (by omega)] at hl
      rw [a1 6 0 (by omega)] at hi
      rw [a1 7 i (by omega), a1 8 i (by omega)]
      have hd := h.2 m hm hl i hi
      obtain ⟨⟨Fv, Fp, Fa, hE⟩, -⟩ := h
      have h8 := ((hE (6 + m) (by omega) hl).2.2 i hi).1
      have h7 := e79 m hm i hi
      rcases (j3 _ h7).2 with ⟨c1, -, -⟩ | ⟨c1, -⟩
      · rw [c1 5 0 (by omega)]; exact hd
      · have := (j3 _ h7).1 c1
        omega
    · rw [b3 6 0 (by omega)] at hi
      rw [b3 7 i (by omega), b3 8 i (by omega)]
      exact (b5 i hi).1
  · have hp1 : S1 5 e 0 ≠ 0 := by
      intro z
      apply hp
      unfold gs_dr
      rw [z]
      split <;> rfl
    obtain ⟨e', s1, s2, s3, s4, s5⟩ := src e he hp1
    refine ⟨e', s1, s2, s3, fun t i ht => ?_, s5⟩
    rw [← s4 t i ht]
    unfold gs_dr
    by_cases hq : t = 5 ∧ i = 0 ∧ 6 ≤ e ∧ e < 6 + 6 ∧ B (e - 6) = true
    · exfalso
      apply hp
      unfold gs_dr
      rw [if_pos ⟨rfl, rfl, hq.2.2⟩]
    · rw [if_neg hq]
  · have hBm : ¬ B m = true := by
      intro z
      apply hl
      unfold gs_dr
      rw [if_pos ⟨rfl, rfl, by omega, by omega, by rw [show 6 + m - 6 = m by omega]; exact z⟩]
    have hl1 : S1 5 (6 + m) 0 ≠ 0 := by
      intro z
      apply hl
      unfold gs_dr
      rw [z]
      split <;> rfl
    rcases (j3 m hm).2 with ⟨a1, -, -⟩ | ⟨b1, -⟩
    · rw [a1 5 0 (by omega)] at hl1
      rw [dr_n (by omega), a1 6 0 (by omega)] at hi
      rw [dr_n (t := 7) (by omega), dr_n (t := 8) (by omega), a1 7 i (by omega), a1 8 i (by omega)]
      have hd := h.2 m hm hl1 i hi
      obtain ⟨⟨Fv, Fp, Fa, hE⟩, -⟩ := h
      have h8 := ((hE (6 + m) (by omega) hl1).2.2 i hi).1
      have h7 := e79 m hm i hi
      have hnB : ¬ B (S0 7 (6 + m) i) = true := fun z => by have := (j3 _ h7).1 z; omega
      rcases (j3 _ h7).2 with ⟨c1, -, -⟩ | ⟨c1, -⟩
      · unfold gs_dr
        rw [if_neg (fun z => hnB (by have := z.2.2.2.2; rw [show 6 + S0 7 (6 + m) i - 6 = S0 7 (6 + m) i by omega] at this; exact this)), c1 5 0 (by omega)]
        exact hd
      · exact absurd c1 hnB
    · exact absurd b1 hBm
/-- what a run needs -/
theorem gw_rx {S : gs_S} {Z : gs_Z} (h : gs_W S Z) : ∃ N, rx_W S Z N := by
  obtain ⟨⟨Fv, Fp, Fa, hE⟩, hD⟩ := h
  have key : ∀ m, ∃ N : Nat → Nat → Nat, m < 6 → S 5 (6 + m) 0 ≠ 0 → ∀ p, p < S 1 (6 + m) 0 → pw_ (N p) (S 3 (6 + m) p) 5 0 (S 3 (6 + m) p) ∧ ∀ i, i < S 3 (6 + m) p → rx_tk S Z m (14 * p + i) (N p i) := by
    intro m
    by_cases hq : m < 6 ∧ S 5 (6 + m) 0 ≠ 0
    · obtain ⟨hm, hl⟩ := hq
      obtain ⟨hA, ⟨N, hN⟩, hC⟩ := hE (6 + m) (by omega) hl
      have kk : ∀ k K, gw_k S (6 + m) k K → S 5 (6 + k) 0 = K ∧ K ≠ 0 := by
        intro k K hk
        rcases hk with ⟨a, b⟩ | ⟨i, a, b, c⟩
        · have : k = m := by omega
          subst this
          exact ⟨b.symm, by rw [b]; exact hl⟩
        · have hd := hD m hm hl i a
          rw [b, c] at hd
          exact ⟨hd, by rw [← c]; exact (hC i a).1⟩
      refine ⟨N, fun _ _ p hp => ⟨(hN p hp).1, fun i hi => ?_⟩⟩
      rcases (hN p hp).2 i hi with a | a | ⟨a, b, k, v, K, c1, c2, c3, c4, c5⟩ | a | a | ⟨a, k, v, K, c1, c2, c3, c4, c5, c6⟩ | a
      · exact Or.inl a
      · exact Or.inr (Or.inl a)
      · obtain ⟨d1, d2⟩ := kk k K c4
        have hk := (hE (6 + k) (by omega) (by rw [d1]; exact d2)).1
        rw [d1] at hk
        exact Or.inr (Or.inr (Or.inl ⟨a, b, k, v, c1, c2, c3, by rw [d1]; exact d2, by rw [hk.1]; exact c5⟩))
      · exact Or.inr (Or.inr (Or.inr (Or.inl a)))
      · exact Or.inr (Or.inr (Or.inr (Or.inr (Or.inl a))))
      · obtain ⟨d1, d2⟩ := kk k K c4
        have hk := (hE (6 + k) (by omega) (by rw [d1]; exact d2)).1
        rw [d1] at hk
        have hv : v < S 1 (6 + k) 0 := by rw [hk.2.1]; exact c5
        exact Or.inr (Or.inr (Or.inr (Or.inr (Or.inr (Or.inl ⟨a, k, v, c1, c2, c3, by rw [d1]; exact d2, hv, by rw [hk.2.2 v hv]; exact c6⟩)))))
      · exact Or.inr (Or.inr (Or.inr (Or.inr (Or.inr (Or.inr a)))))
    · exact ⟨fun _ _ => 0, fun h1 h2 => absurd ⟨h1, h2⟩ hq⟩
  obtain ⟨N0, h0⟩ := key 0
  obtain ⟨N1, h1⟩ := key 1
  obtain ⟨N2, h2⟩ := key 2
  obtain ⟨N3, h3⟩ := key 3
  obtain ⟨N4, h4⟩ := key 4
  obtain ⟨N5, h5⟩ := key 5
  refine ⟨fun m => match m with | 0 => N0 | 1 => N1 | 2 => N2 | 3 => N3 | 4 => N4 | _ => N5, fun m hm hl => ?_⟩
  rcases (show m = 0 ∨ m = 1 ∨ m = 2 ∨ m = 3 ∨ m = 4 ∨ m = 5 by omega) with rfl | rfl | rfl | rfl | rfl | rfl
  · exact h0 hm hl
  · exact h1 hm hl
  · exact h2 hm hl
  · exact h3 hm hl
  · exact h4 hm hl
  · exact h5 hm hl
