/-! compile: a token's rightness and parts, on both sides -/
def gs_lt (b : Int32) (n : Nat) : Bool := decide (¬ b < 0 ∧ b.toNatClampNeg < n)
def gs_sn (S : gs_S) (m : Nat) (a : Int32) : Option Nat := if a < 0 then none else if a.toNatClampNeg = m then some 12 else if a.toNatClampNeg < 6 ∧ S 5 a.toNatClampNeg 0 ≠ 0 then some a.toNatClampNeg else none
def gs_pt (S : gs_S) (Z : gs_Z) (m p c : Nat) : Option Nat :=
  if S 4 12 c = 0 then some 0
  else if S 4 12 c = 1 then (if gs_lt (Z 0 12 c) (S 2 12 p) = true then some 0 else none)
  else if S 4 12 c = 2 then (gs_sn S m (Z 0 12 c)).bind fun e => if gs_lt (Z 1 12 c) (S 0 e 0) = true then some 0 else none
  else if S 4 12 c = 3 then (if gs_lt (Z 1 12 c) (S 0 12 0) = true then some 1 else none)
  else if S 4 12 c = 9 then some 3
  else if S 4 12 c = 11 then (gs_sn S m (Z 0 12 c)).bind fun e => if gs_lt (Z 1 12 c) (S 1 e 0) = true then some (S 2 e (Z 1 12 c).toNatClampNeg) else none
  else some 2
theorem el_0 {a : Nat} (h : a < 2 ^ 31) : (nI a = (0 : Int32)) = (a = 0) := eq_nI (b := 0) h (by omega)
theorem el_1 {a : Nat} (h : a < 2 ^ 31) : (nI a = (1 : Int32)) = (a = 1) := eq_nI (b := 1) h (by omega)
theorem el_2 {a : Nat} (h : a < 2 ^ 31) : (nI a = (2 : Int32)) = (a = 2) := eq_nI (b := 2) h (by omega)
theorem el_3 {a : Nat} (h : a < 2 ^ 31) : (nI a = (3 : Int32)) = (a = 3) := eq_nI (b := 3) h (by omega)
theorem el_4 {a : Nat} (h : a < 2 ^ 31) : (nI a = (4 : Int32)) = (a = 4) := eq_nI (b := 4) h (by omega)
theorem el_5 {a : Nat} (h : a < 2 ^ 31) : (nI a = (5 : Int32)) = (a = 5) := eq_nI (b := 5) h (by omega)
theorem el_6 {a : Nat} (h : a < 2 ^ 31) : (nI a = (6 : Int32)) = (a = 6) := eq_nI (b := 6) h (by omega)
theorem el_7 {a : Nat} (h : a < 2 ^ 31) : (nI a = (7 : Int32)) = (a = 7) := eq_nI (b := 7) h (by omega)
theorem el_8 {a : Nat} (h : a < 2 ^ 31) : (nI a = (8 : Int32)) = (a = 8) := eq_nI (b := 8) h (by omega)
theorem el_9 {a : Nat} (h : a < 2 ^ 31) : (nI a = (9 : Int32)) = (a = 9) := eq_nI (b := 9) h (by omega)
theorem el_10 {a : Nat} (h : a < 2 ^ 31) : (nI a = (10 : Int32)) = (a = 10) := eq_nI (b := 10) h (by omega)
theorem el_11 {a : Nat} (h : a < 2 ^ 31) : (nI a = (11 : Int32)) = (a = 11) := eq_nI (b := 11) h (by omega)
theorem pt_0 {S : gs_S} {Z : gs_Z} {m p c : Nat} (q : S 4 12 c = 0) : gs_pt S Z m p c = some 0 := by unfold gs_pt; rw [if_pos q]
theorem pt_1 {S : gs_S} {Z : gs_Z} {m p c : Nat} (q : S 4 12 c = 1) : gs_pt S Z m p c = (if gs_lt (Z 0 12 c) (S 2 12 p) = true then some 0 else none) := by unfold gs_pt; rw [if_neg (by omega), if_pos q]
theorem pt_2 {S : gs_S} {Z : gs_Z} {m p c : Nat} (q : S 4 12 c = 2) : gs_pt S Z m p c = (gs_sn S m (Z 0 12 c)).bind fun e => if gs_lt (Z 1 12 c) (S 0 e 0) = true then some 0 else none := by unfold gs_pt; rw [if_neg (by omega), if_neg (by omega), if_pos q]
theorem pt_3 {S : gs_S} {Z : gs_Z} {m p c : Nat} (q : S 4 12 c = 3) : gs_pt S Z m p c = (if gs_lt (Z 1 12 c) (S 0 12 0) = true then some 1 else none) := by unfold gs_pt; rw [if_neg (by omega), if_neg (by omega), if_neg (by omega), if_pos q]
theorem pt_9 {S : gs_S} {Z : gs_Z} {m p c : Nat} (q : S 4 12 c = 9) : gs_pt S Z m p c = some 3 := by unfold gs_pt; rw [if_neg (by omega), if_neg (by omega), if_neg (by omega), if_neg (by omega), if_pos q]
theorem pt_11 {S : gs_S} {Z : gs_Z} {m p c : Nat} (q : S 4 12 c = 11) : gs_pt S Z m p c = (gs_sn S m (Z 0 12 c)).bind fun e => if gs_lt (Z 1 12 c) (S 1 e 0) = true then some (S 2 e (Z 1 12 c).toNatClampNeg) else none := by unfold gs_pt; rw [if_neg (by omega), if_neg (by omega), if_neg (by omega), if_neg (by omega), if_neg (by omega), if_pos q]
theorem pt_d {S : gs_S} {Z : gs_Z} {m p c : Nat} (q : (4 ≤ S 4 12 c ∧ S 4 12 c ≤ 8) ∨ S 4 12 c = 10) : gs_pt S Z m p c = some 2 := by unfold gs_pt; rw [if_neg (by omega), if_neg (by omega), if_neg (by omega), if_neg (by omega), if_neg (by omega), if_neg (by omega)]
theorem lt_ng {b : Int32} {n : Nat} (h : b < 0) : gs_lt b n = false := decide_eq_false (fun z => z.1 h)
theorem lt_nn {v n : Nat} (hv : v < 2 ^ 31) : gs_lt (nI v) n = decide (v < n) := by
  unfold gs_lt
  rw [tn_nI hv]
  by_cases h : v < n
  · rw [decide_eq_true h]; exact decide_eq_true ⟨nI_pos hv, h⟩
  · rw [decide_eq_false h]; exact decide_eq_false (fun z => h z.2)
theorem sn_lt {S : gs_S} {m : Nat} {a : Int32} {e : Nat} (h : gs_sn S m a = some e) : e < 13 ∧ (e = 12 ∨ (e < 6 ∧ S 5 e 0 ≠ 0 ∧ a = nI e ∧ e ≠ m)) ∧ (e = 12 → m < 2 ^ 31 → m ≠ 12 → a = nI m) := by
  unfold gs_sn at h
  by_cases h0 : a < 0
  · rw [if_pos h0] at h; cases h
  rw [if_neg h0] at h
  obtain ⟨k, hk, rfl⟩ := nI_of h0
  rw [tn_nI hk] at h
  by_cases h1 : k = m
  · rw [if_pos h1] at h; cases h
    exact ⟨by omega, Or.inl rfl, fun _ _ _ => by rw [h1]⟩
  rw [if_neg h1] at h
  by_cases h2 : k < 6 ∧ S 5 k 0 ≠ 0
  · rw [if_pos h2] at h; cases h
    exact ⟨by omega, Or.inr ⟨h2.1, h2.2, rfl, h1⟩, fun z => by omega⟩
  · rw [if_neg h2] at h; cases h
theorem sn_neg {S : gs_S} {m : Nat} {a : Int32} (h : a < 0) : gs_sn S m a = none := by unfold gs_sn; rw [if_pos h]
theorem sn_big {S : gs_S} {m k : Nat} (h6 : 6 ≤ k) (hk : k < 2 ^ 31) (hm : m < 6) : gs_sn S m (nI k) = none := by unfold gs_sn; rw [if_neg (nI_pos hk), tn_nI hk, if_neg (by omega), if_neg (by omega)]
theorem sn_own {S : gs_S} {m : Nat} (hm : m < 6) : gs_sn S m (nI m) = some 12 := by unfold gs_sn; rw [if_neg (nI_pos (by omega)), tn_nI (by omega), if_pos rfl]
theorem sn_abs {S : gs_S} {m k : Nat} (hk : k < 6) (h1 : k ≠ m) (h2 : S 5 k 0 = 0) : gs_sn S m (nI k) = none := by unfold gs_sn; rw [if_neg (nI_pos (by omega)), tn_nI (by omega), if_neg h1, if_neg (fun z => z.2 h2)]
theorem sn_in {S : gs_S} {m k : Nat} (hk : k < 6) (h1 : k ≠ m) (h2 : S 5 k 0 ≠ 0) : gs_sn S m (nI k) = some k := by unfold gs_sn; rw [if_neg (nI_pos (by omega)), tn_nI (by omega), if_neg h1, if_pos ⟨hk, h2⟩]
theorem nI_ne1 {a : Nat} (h : a < 2 ^ 31) : ¬ nI a = -1 := by
  intro z
  have z2 := congrArg Int32.toInt z
  have z3 : (-1 : Int32).toInt = -1 := by decide +kernel
  rw [nI_toInt h, z3] at z2
  omega
theorem ag_b {σ : aw_m} {S : gs_S} {Z : gs_Z} (h : ec_E σ S Z) (hB : gs_B S) {e : Nat} (he : e < 13) (b : Int32) : xm_C_argumentsOf σ (cb_ e) b = some (if gs_lt b (S 1 e 0) = true then nI (S 2 e b.toNatClampNeg) else -1) := by
  rcases ng_or b with hb | ⟨v, hv, rfl⟩
  · rw [sc_argumentsOfN hb, lt_ng hb, if_neg (by decide)]
  · rw [sc_argumentsOf h hB he hv, lt_nn hv, tn_nI hv]
    by_cases hl : v < S 1 e 0
    · rw [if_pos hl, if_pos (decide_eq_true hl)]
    · rw [if_neg hl, if_neg (by rw [decide_eq_false hl]; decide)]
theorem vr_b {σ : aw_m} {S : gs_S} {Z : gs_Z} (h : ec_E σ S Z) (hB : gs_B S) {e : Nat} (he : e < 13) (b : Int32) : xm_C_hasVariable σ (cb_ e) b = some (if gs_lt b (S 0 e 0) = true then 1 else 0) := by
  have b1 := (hB.1 e he).1
  rcases ng_or b with hb | ⟨v, hv, rfl⟩
  · rw [hv_neg hb, lt_ng hb, if_neg (by decide)]
  · rw [hv_in (h.1 e he).1 (by omega) hv, lt_nn hv]
    by_cases hl : v < S 0 e 0
    · rw [if_pos hl, if_pos (decide_eq_true hl)]
    · rw [if_neg hl, if_neg (by rw [decide_eq_false hl]; decide)]
theorem ng_ne {a : Int32} {m : Nat} (h : a < 0) (hm : m < 2 ^ 31) : ¬ a = nI m := fun z => nI_pos hm (z ▸ h)
theorem sc_Largs {σ : aw_m} {S : gs_S} {Z : gs_Z} (h : ec_E σ S Z) (hB : gs_B S) {m : Nat} (hm : m < 6) (a b : Int32) : xm_L_argumentsOf σ 7 1 (nI m) a b = some (match gs_sn S m a with | none => -1 | some e => if gs_lt b (S 1 e 0) = true then nI (S 2 e b.toNatClampNeg) else -1) := by
  unfold xm_L_argumentsOf gs_sn
  rcases md_or a with ha | ⟨k, h6, hk, rfl⟩ | ⟨k, hk, rfl⟩
  · rw [if_neg (ng_ne ha (by omega)), lh_neg ha, b_some, if_pos rfl, if_pos ha]
  · rw [if_neg (fun z => by have := (nI_eq hk (by omega)).mp z; omega), lh_big h6 hk, b_some, if_pos rfl, if_neg (nI_pos hk), tn_nI hk, if_neg (by omega), if_neg (by omega)]
  · rw [if_neg (nI_pos (by omega)) (c := nI k < 0), tn_nI (by omega)]
    by_cases h1 : k = m
    · subst h1
      have e := ag_b h hB (e := 12) (by omega) b
      rw [if_pos rfl, if_pos rfl]
      have e2 : xm_C_argumentsOf σ 1 b = _ := e
      rw [e2, b_some]
    · rw [if_neg (fun z => h1 ((nI_eq (by omega) (by omega)).mp z)), lh_in h hk, b_some, if_neg h1]
      by_cases h2 : S 5 k 0 = 0
      · rw [if_pos h2, if_pos rfl, if_neg (fun z => z.2 h2)]
      · rw [if_neg h2, if_neg (by decide), if_pos (in_nI hk (by omega)), if_pos ⟨hk, h2⟩, ← cb_o hk, ag_b h hB (by omega), b_some]
theorem gs_op {S : gs_S} (hB : gs_B S) {c : Nat} (hc : c < 42) : S 4 12 c = 0 ∨ S 4 12 c = 1 ∨ S 4 12 c = 2 ∨ S 4 12 c = 3 ∨ S 4 12 c = 9 ∨ S 4 12 c = 11 ∨ (4 ≤ S 4 12 c ∧ S 4 12 c ≤ 8) ∨ S 4 12 c = 10 := by
  have := (hB.1 12 (by omega)).2.2.2 c hc
  omega
theorem zo_1 (b : Bool) : (if b = true then (1 : Int32) else 0) = 0 ∨ (if b = true then (1 : Int32) else 0) = 1 := by cases b <;> simp
theorem sc_isRight {σ : aw_m} {S : gs_S} {Z : gs_Z} (h : ec_E σ S Z) (hB : gs_B S) {m p c : Nat} (hm : m < 6) (hp : p < S 1 12 0) (hc : c < 42) : xm_L_isRight σ 7 1 (nI m) (nI p) (nI c) = some (if (gs_pt S Z m p c).isSome = true then 1 else 0) := by
  obtain ⟨c1, c2, c3, c4⟩ := h.1 12 (by omega)
  have b3 := (hB.1 12 (by omega)).2.1
  have o1 : σ (1 + 3) c = nI (S 4 12 c) := (c4 c hc).1
  have o2 : σ (1 + 4) c = Z 0 12 c := (c4 c hc).2.1
  have o3 : σ (1 + 5) c = Z 1 12 c := (c4 c hc).2.2
  have hob := (hB.1 12 (by omega)).2.2.2 c hc
  unfold xm_L_isRight
  rw [if_pos (in_nI hc (by omega)), if_pos (in_nI hc (by omega)), if_pos (in_nI hc (by omega)), tn_nI (by omega), o1, o2, o3]
  simp (disch := omega) only [el_1, el_2, el_3, el_11]
  by_cases q1 : S 4 12 c = 1
  · rw [if_pos q1, pt_1 q1]
    have e : xm_C_argumentsOf σ 1 (nI p) = some (if p < S 1 12 0 then nI (S 2 12 p) else -1) := sc_argumentsOf h hB (e := 12) (by omega) (by omega)
    have ha2 := ((hB.1 12 (by omega)).2.2.1 p (by omega)).1
    rcases ng_or (Z 0 12 c) with ha | ⟨v, hv, ha⟩
    · rw [if_pos ha, lt_ng ha]; rfl
    · rw [ha, if_neg (nI_pos hv), e, b_some, if_pos hp, lt_nn hv]
      by_cases hl : v < S 2 12 p
      · rw [if_neg (nI_ge hl (by omega)), decide_eq_true hl]; rfl
      · rw [if_pos (nI_le (by omega) hv), decide_eq_false hl]; rfl
  rw [if_neg q1]
  by_cases q2 : S 4 12 c = 2
  · rw [if_pos q2, pt_2 q2]
    rcases md_or (Z 0 12 c) with ha | ⟨k, h6, hk, ha⟩ | ⟨k, hk, ha⟩
    · rw [if_neg (ng_ne ha (by omega)), lh_neg ha, b_some, if_pos rfl, sn_neg ha]; rfl
    · rw [ha, if_neg (fun z => by have := (nI_eq hk (by omega)).mp z; omega), lh_big h6 hk, b_some, if_pos rfl, sn_big h6 hk hm]; rfl
    · rw [ha]
      by_cases h1 : k = m
      · subst h1
        have e : xm_C_hasVariable σ 1 (Z 1 12 c) = _ := vr_b h hB (e := 12) (by omega) (Z 1 12 c)
        rw [if_pos rfl, sn_own hm, e, b_some, if_pos (zo_1 _), b_some]
        cases gs_lt (Z 1 12 c) (S 0 12 0) <;> rfl
      · rw [if_neg (fun z => h1 ((nI_eq (by omega) (by omega)).mp z)), lh_in h hk, b_some]
        by_cases h2 : S 5 k 0 = 0
        · rw [if_pos h2, if_pos rfl, sn_abs hk h1 h2]; rfl
        · rw [if_neg h2, if_neg (by decide), if_pos (in_nI hk (by omega)), sn_in hk h1 h2, tn_nI (by omega), ← cb_o hk, vr_b h hB (by omega), b_some, b_some]
          cases gs_lt (Z 1 12 c) (S 0 k 0) <;> rfl
  rw [if_neg q2]
  by_cases q3 : S 4 12 c = 3
  · have e : xm_C_hasVariable σ 1 (Z 1 12 c) = _ := vr_b h hB (e := 12) (by omega) (Z 1 12 c)
    rw [if_pos q3, e, b_some, if_pos (zo_1 _), pt_3 q3]
    cases gs_lt (Z 1 12 c) (S 0 12 0) <;> rfl
  rw [if_neg q3]
  by_cases q11 : S 4 12 c = 11
  · rw [if_pos q11, sc_Largs h hB hm, b_some, pt_11 q11]
    cases hs : gs_sn S m (Z 0 12 c) with
    | none => rfl
    | some e =>
      show (if (if gs_lt (Z 1 12 c) (S 1 e 0) = true then nI (S 2 e (Z 1 12 c).toNatClampNeg) else -1) = -1 then some 0 else some 1) = _
      rw [b_some]
      have he := (sn_lt hs).1
      cases hl : gs_lt (Z 1 12 c) (S 1 e 0) with
      | false => rfl
      | true =>
        rcases ng_or (Z 1 12 c) with hb | ⟨v, hv, hb⟩
        · rw [lt_ng hb] at hl; cases hl
        · rw [hb, lt_nn hv] at hl
          have hl := of_decide_eq_true hl
          have b5 := ((hB.1 e he).2.2.1 v (by have := (hB.1 e he).2.1; omega)).1
          rw [hb, tn_nI hv]
          show (if nI (S 2 e v) = -1 then some 0 else some 1) = some 1
          rw [if_neg (nI_ne1 (by omega))]
  rw [if_neg q11]
  rcases gs_op hB hc with q | q | q | q | q | q | q | q
  · rw [pt_0 q]; rfl
  · omega
  · omega
  · omega
  · rw [pt_9 q]; rfl
  · omega
  · rw [pt_d (Or.inl q)]; rfl
  · rw [pt_d (Or.inr q)]; rfl
theorem sc_partsOf {σ : aw_m} {S : gs_S} {Z : gs_Z} (h : ec_E σ S Z) (hB : gs_B S) {m p c n : Nat} (hm : m < 6) (hc : c < 42) (hn : gs_pt S Z m p c = some n) : xm_L_partsOf σ 7 1 (nI m) (nI c) = some (nI n) := by
  obtain ⟨c1, c2, c3, c4⟩ := h.1 12 (by omega)
  have o1 : σ (1 + 3) c = nI (S 4 12 c) := (c4 c hc).1
  have o2 : σ (1 + 4) c = Z 0 12 c := (c4 c hc).2.1
  have o3 : σ (1 + 5) c = Z 1 12 c := (c4 c hc).2.2
  have hob := (hB.1 12 (by omega)).2.2.2 c hc
  unfold xm_L_partsOf
  rw [if_pos (in_nI hc (by omega)), tn_nI (by omega), o1, o2, o3]
  simp (disch := omega) only [el_11]
  rw [if_pos (in_nI hc (by omega)), if_pos (in_nI hc (by omega)), if_pos (in_nI (by omega) (by omega)), tn_nI (by omega)]
  have zp : ∀ k, k < 12 → zp_parts k = nI (if k < 3 then 0 else if k = 3 then 1 else if k = 9 then 3 else if k = 11 then 0 else 2) := by decide +kernel
  rw [zp _ (by omega)]
  rcases gs_op hB hc with q | q | q | q | q | q | q | q
  · rw [pt_0 q] at hn; cases hn; rw [q]; rfl
  · rw [pt_1 q] at hn
    rw [q]
    by_cases hl : gs_lt (Z 0 12 c) (S 2 12 p) = true
    · rw [if_pos hl] at hn; cases hn; rfl
    · rw [if_neg hl] at hn; cases hn
  · rw [pt_2 q] at hn
    rw [q]
    obtain ⟨e, -, hn⟩ := aw_bnd hn
    by_cases hl : gs_lt (Z 1 12 c) (S 0 e 0) = true
    · rw [if_pos hl] at hn; cases hn; rfl
    · rw [if_neg hl] at hn; cases hn
  · rw [pt_3 q] at hn
    rw [q]
    by_cases hl : gs_lt (Z 1 12 c) (S 0 12 0) = true
    · rw [if_pos hl] at hn; cases hn; rfl
    · rw [if_neg hl] at hn; cases hn
  · rw [pt_9 q] at hn; cases hn; rw [q]; rfl
  · rw [pt_11 q] at hn
    obtain ⟨e, hs, hn⟩ := aw_bnd hn
    rw [if_pos q, sc_Largs h hB hm, b_some, hs]
    by_cases hl : gs_lt (Z 1 12 c) (S 1 e 0) = true
    · rw [if_pos hl] at hn; cases hn; show some (if gs_lt (Z 1 12 c) (S 1 e 0) = true then _ else _) = _; rw [if_pos hl]
    · rw [if_neg hl] at hn; cases hn
  · rw [pt_d (Or.inl q)] at hn; cases hn
    rw [if_neg (by omega), if_neg (by omega), if_neg (by omega), if_neg (by omega), if_neg (by omega)]
  · rw [pt_d (Or.inr q)] at hn; cases hn; rw [q]; rfl
theorem ri_b {τ : aw_m} (b : Int32) {n : Nat} (hn : n < 2 ^ 30) : xm_R_in τ b 0 (nI n - 1) = some (if gs_lt b n = true then 1 else 0) := by
  rcases ng_or b with hb | ⟨v, hv, rfl⟩
  · rw [ri_neg hb, lt_ng hb]; rfl
  · rw [nz_1, ri_lt hv hn, lt_nn hv]
    by_cases hl : v < n
    · rw [if_pos hl, decide_eq_true hl]; rfl
    · rw [if_neg hl, decide_eq_false hl]; rfl
theorem sr_seen {τ : aw_m} {S : gs_S} {Z : gs_Z} (h : er_E τ S Z) (hg : ∀ e, e < 12 → S 5 e 0 < 2 ^ 31) {m : Nat} (hm : m < 6) (a : Int32) : xm_R_seen τ a (nI m) = some (match gs_sn S m a with | none => -1 | some e => nI e) := by
  unfold xm_R_seen
  rcases md_or a with ha | ⟨k, h6, hk, rfl⟩ | ⟨k, hk, rfl⟩
  · rw [if_neg (ng_ne ha (by omega)), ri_neg ha, b_some, if_pos rfl, sn_neg ha]
  · rw [if_neg (fun z => by have := (nI_eq hk (by omega)).mp z; omega), nz_5, ri_big (by omega) hk, b_some, if_pos rfl, sn_big h6 hk hm]
  · by_cases h1 : k = m
    · subst h1; rw [if_pos rfl, sn_own hm]; rfl
    · have k1 := (h.2.1 k (by omega)).1
      rw [if_neg (fun z => h1 ((nI_eq (by omega) (by omega)).mp z)), nz_5, ri_in (by omega) (by omega), b_some, if_neg (by decide), if_pos (in_nI (by omega) (by omega)), tn_nI (by omega), k1]
      by_cases h2 : S 5 k 0 = 0
      · rw [h2, if_pos (show nI 0 ≤ (0 : Int32) from nI_le (b := 0) (Nat.le_refl 0) (by omega)), sn_abs hk h1 h2]
      · rw [if_neg (show ¬ nI (S 5 k 0) ≤ (0 : Int32) from nI_ge (a := 0) (by omega) (hg _ (by omega))), sn_in hk h1 h2]
theorem sr_partsOf {τ : aw_m} {S : gs_S} {Z : gs_Z} (h : er_E τ S Z) (hB : gs_B S) (hg : ∀ e, e < 12 → S 5 e 0 < 2 ^ 31) {m p c : Nat} (hm : m < 6) (hp : p < 3) (hc : c < 42) : xm_R_partsOf τ (nI (504 + c)) (nI (36 + p)) (nI m) = some (match gs_pt S Z m p c with | none => -1 | some n => nI n) := by
  obtain ⟨c1, c2, c3, c4⟩ := h.1 12 (by omega)
  have o1 : τ 6 (504 + c) = nI (S 4 12 c) := (c4 c hc).1
  have o2 : τ 7 (504 + c) = Z 0 12 c := (c4 c hc).2.1
  have o3 : τ 8 (504 + c) = Z 1 12 c := (c4 c hc).2.2
  have o4 : τ 4 (36 + p) = nI (S 2 12 p) := (c3 p hp).1
  have hob := (hB.1 12 (by omega)).2.2.2 c hc
  have hb2 := ((hB.1 12 (by omega)).2.2.1 p hp).1
  have hb0 := (hB.1 12 (by omega)).1
  have hin : aw_in (nI (504 + c)) 546 = true := in_nI (by omega) (by omega)
  unfold xm_R_partsOf
  have hin2 : aw_in (nI (36 + p)) 39 = true := in_nI (by omega) (by omega)
  rw [if_pos hin, tn_nI (by omega), o2, sr_seen h hg hm, b_some]
  simp only [hin, hin2, eq_self, if_true]
  rw [o1, o3, tn_nI (by omega), o4, tn_12, c1]
  rcases gs_op hB hc with q | q | q | q | q | q | q | q
  · rw [pt_0 q, q, if_pos (by decide)]; rfl
  · rw [pt_1 q, q, if_neg (by decide), if_pos (by decide), ri_b _ (by omega), b_some]
    cases gs_lt (Z 0 12 c) (S 2 12 p) <;> rfl
  · rw [pt_2 q, q, if_neg (by decide), if_neg (by decide), if_pos (by decide)]
    cases hs : gs_sn S m (Z 0 12 c) with
    | none => rfl
    | some e =>
      have he := (sn_lt hs).1
      have hbe := (hB.1 e he).1
      show (if nI e < 0 then some (-1) else if aw_in (nI e) 13 = true then _ else none) = _
      rw [if_neg (nI_pos (by omega)), if_pos (in_nI he (by omega)), tn_nI (by omega), (h.1 e he).1, ri_b _ (by omega), b_some, b_some]
      cases gs_lt (Z 1 12 c) (S 0 e 0) <;> rfl
  · rw [pt_3 q, q, if_neg (by decide), if_neg (by decide), if_neg (by decide), if_pos (by decide), ri_b _ (by omega), b_some]
    cases gs_lt (Z 1 12 c) (S 0 12 0) <;> rfl
  · rw [pt_9 q, q, if_neg (by decide), if_neg (by decide), if_neg (by decide), if_neg (by decide), if_neg (by decide), if_neg (by decide), if_neg (by decide), if_neg (by decide), if_neg (by decide), if_pos (by decide)]; rfl
  · rw [pt_11 q, q, if_neg (by decide), if_neg (by decide), if_neg (by decide), if_neg (by decide), if_neg (by decide), if_neg (by decide), if_neg (by decide), if_neg (by decide), if_neg (by decide), if_neg (by decide), if_neg (by decide), if_pos (by decide)]
    cases hs : gs_sn S m (Z 0 12 c) with
    | none => rfl
    | some e =>
      have he := (sn_lt hs).1
      have hbe := (hB.1 e he).2.1
      show (if nI e < 0 then some (-1) else if aw_in (nI e) 13 = true then _ else none) = _
      rw [if_neg (nI_pos (by omega)), if_pos (in_nI he (by omega)), tn_nI (by omega), (h.1 e he).2.1, ri_b _ (by omega), b_some, b_some]
      cases hl : gs_lt (Z 1 12 c) (S 1 e 0) with
      | false => rfl
      | true =>
        rcases ng_or (Z 1 12 c) with hb | ⟨v, hv, hb⟩
        · rw [lt_ng hb] at hl; cases hl
        · rw [hb, lt_nn hv] at hl
          have hl := of_decide_eq_true hl
          rw [hb, tn_nI hv, nz_3, mu_nI, ad_nI]
          show (if aw_in (nI (3 * e + v)) 39 = true then some (τ 4 (Int32.toNatClampNeg (nI (3 * e + v)))) else none) = some (nI (S 2 e v))
          rw [if_pos (in_nI (by omega) (by omega)), tn_nI (by omega), ((h.1 e he).2.2.1 v (by omega)).1]
  · rw [pt_d (Or.inl q)]
    rcases (show S 4 12 c = 4 ∨ S 4 12 c = 5 ∨ S 4 12 c = 6 ∨ S 4 12 c = 7 ∨ S 4 12 c = 8 by omega) with z | z | z | z | z
    · rw [z, if_neg (by decide), if_neg (by decide), if_neg (by decide), if_neg (by decide), if_pos (by decide)]; rfl
    · rw [z, if_neg (by decide), if_neg (by decide), if_neg (by decide), if_neg (by decide), if_neg (by decide), if_pos (by decide)]; rfl
    · rw [z, if_neg (by decide), if_neg (by decide), if_neg (by decide), if_neg (by decide), if_neg (by decide), if_neg (by decide), if_pos (by decide)]; rfl
    · rw [z, if_neg (by decide), if_neg (by decide), if_neg (by decide), if_neg (by decide), if_neg (by decide), if_neg (by decide), if_neg (by decide), if_pos (by decide)]; rfl
    · rw [z, if_neg (by decide), if_neg (by decide), if_neg (by decide), if_neg (by decide), if_neg (by decide), if_neg (by decide), if_neg (by decide), if_neg (by decide), if_pos (by decide)]; rfl
  · rw [pt_d (Or.inr q), q, if_neg (by decide), if_neg (by decide), if_neg (by decide), if_neg (by decide), if_neg (by decide), if_neg (by decide), if_neg (by decide), if_neg (by decide), if_neg (by decide), if_neg (by decide), if_pos (by decide)]; rfl
