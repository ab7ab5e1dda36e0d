/-! run: the structure of a loaded procedure, and what a run changes -/
def pi_ (f : Nat → Nat → Prop) : Nat → Nat → Nat → Prop
  | 0, i, j => i = j
  | n + 1, i, j => ∃ k, f i k ∧ pi_ f n k j
def pw_ (N : Nat → Nat) (L : Nat) : Nat → Nat → Nat → Prop
  | 0, _, _ => False
  | d + 1, i, j => i < L ∧ pi_ (pw_ N L d) (N i) (i + 1) j
theorem pi_le {f : Nat → Nat → Prop} {L : Nat} (hf : ∀ i j, f i j → i < j ∧ j ≤ L) : ∀ n i j, i ≤ L → pi_ f n i j → i ≤ j ∧ j ≤ L := by
  intro n
  induction n with
  | zero => intro i j hi h; have h : i = j := h; omega
  | succ n ih =>
    intro i j hi ⟨k, h1, h2⟩
    have a1 := hf i k h1
    have a2 := ih k j (by omega) h2
    omega
theorem pw_le {N : Nat → Nat} {L : Nat} : ∀ d i j, pw_ N L d i j → i < j ∧ j ≤ L := by
  intro d
  induction d with
  | zero => intro i j h; exact h.elim
  | succ d ih =>
    intro i j ⟨h1, h2⟩
    have := pi_le ih (N i) (i + 1) j (by omega) h2
    omega
def rS (S : gs_S) (st : Nat) : gs_S := fun t e i => if t = 10 then st else S t e i
def rZ (Z : gs_Z) (V : Nat → Nat → Int32) : gs_Z := fun t e i => if t = 2 then V e i else Z t e i
theorem rS_B {S : gs_S} {st : Nat} (hB : gs_B S) (h : st ≤ 120) : gs_B (rS S st) := ⟨fun e he => hB.1 e he, fun e he => hB.2.1 e he, h⟩
theorem ec_dyn {σ σ2 : aw_m} {S : gs_S} {Z : gs_Z} {st st2 : Nat} {V V2 : Nat → Nat → Int32} (h : ec_E σ (rS S st) (rZ Z V)) (hk : ∀ k, k < 132 → (∀ m, m < 6 → k ≠ 76 + 11 * m) → σ2 k = σ k) (hv : ∀ m, m < 6 → ∀ v, v < 3 → σ2 (76 + 11 * m) v = V2 m v) (hs : σ2 132 1 = nI st2) : ec_E σ2 (rS S st2) (rZ Z V2) := by
  obtain ⟨h1, h2, h3, h4, h5, h6, h7⟩ := h
  refine ⟨fun e he => ?_, fun e he => ?_, fun m hm w hw => hv m hm w hw, ?_, ?_, ?_, hs⟩
  · have hc := cb_r he
    exact ec_kC (h1 e he) (fun j hj => hk _ (by omega) (fun m hm => by omega)) (fun t i ht => by unfold rS; rw [if_neg (by omega), if_neg (by omega)]) (fun t i ht => by unfold rZ; rw [if_neg (by omega), if_neg (by omega)])
  · have hu := ub_r he
    exact ec_kU (h2 e he) (fun j hj => hk _ (by omega) (fun m hm => by omega)) (fun t i _ ht => by unfold rS; rw [if_neg (by omega), if_neg (by omega)])
  · rw [hk 7 (by omega) (fun m hm => by omega)]; exact h4
  · rw [hk 0 (by omega) (fun m hm => by omega)]; exact h5
  · rw [hk 0 (by omega) (fun m hm => by omega)]; exact h6
theorem er_dyn {τ τ2 : aw_m} {S : gs_S} {Z : gs_Z} {st st2 : Nat} {V V2 : Nat → Nat → Int32} (hB : gs_B S) (h : er_E τ (rS S st) (rZ Z V)) (hk : ∀ k, 1 ≤ k → k < 12 → τ2 k = τ k) (hv : ∀ m, m < 6 → ∀ v, v < 3 → τ2 12 (3 * m + v) = V2 m v) (h0 : ∀ i, 12 ≤ i → i < 15 → τ2 0 i = τ 0 i) (hs : τ2 0 15 = nI st2) : er_E τ2 (rS S st2) (rZ Z V2) := by
  obtain ⟨h1, h2, h3, h4, h5, h6, h7⟩ := h
  refine ⟨fun e he => ?_, fun e he => ?_, fun m hm w hw => hv m hm w hw, ?_, ?_, ?_, hs⟩
  · exact er_kC (h1 e he) (by rw [hk 2 (by omega) (by omega)]) (by rw [hk 3 (by omega) (by omega)]) (fun p _ => by rw [hk 4 (by omega) (by omega), hk 5 (by omega) (by omega)]; exact ⟨rfl, rfl⟩) (fun c _ => by rw [hk 6 (by omega) (by omega), hk 7 (by omega) (by omega), hk 8 (by omega) (by omega)]; exact ⟨rfl, rfl, rfl⟩) (fun t i ht => by unfold rS; rw [if_neg (by omega), if_neg (by omega)]) (fun t i ht => by unfold rZ; rw [if_neg (by omega), if_neg (by omega)])
  · exact er_kU (h2 e he) (by rw [hk 1 (by omega) (by omega)]) (by rw [hk 9 (by omega) (by omega)]) (fun i _ => by rw [hk 10 (by omega) (by omega), hk 11 (by omega) (by omega)]; exact ⟨rfl, rfl⟩) (hB.2.1 e he).1 (fun t i _ ht => by unfold rS; rw [if_neg (by omega), if_neg (by omega)])
  · rw [h0 12 (by omega) (by omega)]; exact h4
  · rw [h0 13 (by omega) (by omega)]; exact h5
  · rw [h0 14 (by omega) (by omega)]; exact h6
/-- token c of the loaded m is right, with n parts -/
def rx_tk (S : gs_S) (Z : gs_Z) (m c n : Nat) : Prop :=
  (S 4 (6 + m) c = 0 ∧ n = 0) ∨ (S 4 (6 + m) c = 1 ∧ n = 0) ∨
  (S 4 (6 + m) c = 2 ∧ n = 0 ∧ ∃ k v, k < 6 ∧ Z 0 (6 + m) c = nI k ∧ Z 1 (6 + m) c = nI v ∧ S 5 (6 + k) 0 ≠ 0 ∧ v < S 0 (6 + k) 0) ∨
  (S 4 (6 + m) c = 3 ∧ n = 1 ∧ ∃ v, Z 1 (6 + m) c = nI v ∧ v < S 0 (6 + m) 0) ∨
  (S 4 (6 + m) c = 9 ∧ n = 3) ∨
  (S 4 (6 + m) c = 11 ∧ ∃ k v, k < 6 ∧ Z 0 (6 + m) c = nI k ∧ Z 1 (6 + m) c = nI v ∧ S 5 (6 + k) 0 ≠ 0 ∧ v < S 1 (6 + k) 0 ∧ n = S 2 (6 + k) v) ∨
  (((4 ≤ S 4 (6 + m) c ∧ S 4 (6 + m) c ≤ 8) ∨ S 4 (6 + m) c = 10) ∧ n = 2)
def rx_W (S : gs_S) (Z : gs_Z) (N : Nat → Nat → Nat → Nat) : Prop :=
  ∀ m, m < 6 → S 5 (6 + m) 0 ≠ 0 → ∀ p, p < S 1 (6 + m) 0 → pw_ (N m p) (S 3 (6 + m) p) 5 0 (S 3 (6 + m) p) ∧ ∀ i, i < S 3 (6 + m) p → rx_tk S Z m (14 * p + i) (N m p i)
section RP
variable {S : gs_S} {Z : gs_Z} {st m c n : Nat} {V : Nat → Nat → Int32}
theorem sr_parts {τ : aw_m} (hB : gs_B S) (h : er_E τ (rS S st) (rZ Z V)) (hm : m < 6) (hc : c < 42) (ht : rx_tk S Z m c n) : xm_R_parts τ (nI (42 * (6 + m) + c)) = some (nI n) := by
  obtain ⟨o1, o2, o3⟩ := (h.1 (6 + m) (by omega)).2.2.2 c hc
  have o1 : τ 6 (42 * (6 + m) + c) = nI (S 4 (6 + m) c) := o1
  have o2 : τ 7 (42 * (6 + m) + c) = Z 0 (6 + m) c := o2
  have o3 : τ 8 (42 * (6 + m) + c) = Z 1 (6 + m) c := o3
  have hin : aw_in (nI (42 * (6 + m) + c)) 546 = true := in_nI (by omega) (by omega)
  unfold xm_R_parts
  simp only [hin, if_true]
  rw [tn_nI (by omega), o1, o2, o3]
  rcases ht with ⟨q, rfl⟩ | ⟨q, rfl⟩ | ⟨q, rfl, -⟩ | ⟨q, rfl, -⟩ | ⟨q, rfl⟩ | ⟨q, k, v, hk, e1, e2, hp, hv, rfl⟩ | ⟨q, rfl⟩
  · rw [q]; rfl
  · rw [q]; rfl
  · rw [q]; rfl
  · rw [q]; rfl
  · rw [q]; rfl
  · have hb := (hB.1 (6 + k) (by omega)).2.1
    have ha : τ 4 (3 * (6 + k) + v) = nI (S 2 (6 + k) v) := ((h.1 (6 + k) (by omega)).2.2.1 v (by omega)).1
    rw [q, e1, e2, if_neg (by decide), if_neg (by decide), if_neg (by decide), if_neg (by decide), if_neg (by decide), if_neg (by decide), if_neg (by decide), if_neg (by decide), if_neg (by decide), if_neg (by decide), if_neg (by decide), if_pos (by decide), nz_6, ad_nI, nz_3, mu_nI, ad_nI, if_pos (in_nI (by omega) (by omega)), tn_nI (by omega), ha]
  · rcases (show S 4 (6 + m) c = 4 ∨ S 4 (6 + m) c = 5 ∨ S 4 (6 + m) c = 6 ∨ S 4 (6 + m) c = 7 ∨ S 4 (6 + m) c = 8 ∨ S 4 (6 + m) c = 10 by omega) with z | z | z | z | z | z
    · rw [z]; rfl
    · rw [z]; rfl
    · rw [z]; rfl
    · rw [z]; rfl
    · rw [z]; rfl
    · rw [z]; rfl
theorem nI_need {r n : Nat} : nI (1 + r) + (nI n - 1) = nI (n + r) := by
  rw [Int32.sub_eq_add_neg, Int32.add_comm (nI n), ← Int32.add_assoc, show 1 + r = r + 1 by omega, nI_dec, ad_nI, Nat.add_comm]
theorem tk_le (hB : gs_B S) (h : rx_tk S Z m c n) : n ≤ 3 := by
  rcases h with ⟨-, rfl⟩ | ⟨-, rfl⟩ | ⟨-, rfl, -⟩ | ⟨-, rfl, -⟩ | ⟨-, rfl⟩ | ⟨-, k, v, hk, -, -, -, hv, rfl⟩ | ⟨-, rfl⟩
  · omega
  · omega
  · omega
  · omega
  · omega
  · have hb := hB.1 (6 + k) (by omega)
    have := (hb.2.2.1 v (by omega)).1
    omega
  · omega
theorem en_pi {τ : aw_m} {a : Int32} {b R : Nat} {f : Nat → Nat → Prop} (hf : ∀ i j, f i j → i < j) (hs : ∀ i j, f i j → ∀ g r, r ≤ R → xq_R_end_4 τ (g + (j - i)) a (nI (1 + r)) (nI (b + i)) = xq_R_end_4 τ g a (nI r) (nI (b + j))) : ∀ n i j, pi_ f n i j → i ≤ j ∧ ∀ g r, n + r ≤ R + 1 → xq_R_end_4 τ (g + (j - i)) a (nI (n + r)) (nI (b + i)) = xq_R_end_4 τ g a (nI r) (nI (b + j)) := by
  intro n
  induction n with
  | zero =>
    intro i j h
    have h : i = j := h
    subst h
    exact ⟨Nat.le_refl i, fun g r _ => by rw [Nat.sub_self, Nat.add_zero, Nat.zero_add]⟩
  | succ n ih =>
    intro i j ⟨k, h1, h2⟩
    obtain ⟨a1, a2⟩ := ih k j h2
    have a3 := hf i k h1
    refine ⟨by omega, fun g r hr => ?_⟩
    have e1 := hs i k h1 (g + (j - k)) (n + r) (by omega)
    rw [show g + (j - k) + (k - i) = g + (j - i) by omega, show 1 + (n + r) = n + 1 + r by omega] at e1
    rw [e1]
    exact a2 g r (by omega)
theorem en_pw {τ : aw_m} (hB : gs_B S) (h : er_E τ (rS S st) (rZ Z V)) (hm : m < 6) {p : Nat} {N : Nat → Nat} {L : Nat} (hp : p < 3) (hL : L ≤ 14) (ht : ∀ i, i < L → rx_tk S Z m (14 * p + i) (N i)) {a : Int32} : ∀ d i j, pw_ N L d i j → ∀ g r, r + 3 * d ≤ 100 → xq_R_end_4 τ (g + (j - i)) a (nI (1 + r)) (nI (42 * (6 + m) + 14 * p + i)) = xq_R_end_4 τ g a (nI r) (nI (42 * (6 + m) + 14 * p + j)) := by
  intro d
  induction d with
  | zero => intro i j h; exact h.elim
  | succ d ih =>
    intro i j ⟨h1, h2⟩ g r hr
    have hn := tk_le hB (ht i h1)
    obtain ⟨a1, a2⟩ := en_pi (τ := τ) (a := a) (b := 42 * (6 + m) + 14 * p) (R := 100 - 3 * d) (fun i j h => (pw_le d i j h).1) (fun i j h g r hr => ih i j h g r (by omega)) (N i) (i + 1) j h2
    rw [show g + (j - i) = g + (j - (i + 1)) + 1 by omega, xq_R_end_4, if_neg (show ¬ nI (1 + r) ≤ (0 : Int32) from nI_ge (a := 0) (by omega) (by omega)), show 42 * (6 + m) + 14 * p + i = 42 * (6 + m) + (14 * p + i) by omega, sr_parts hB h hm (by omega) (ht i h1), b_some, nI_need, nz_1, ad_nI, show 42 * (6 + m) + (14 * p + i) + 1 = 42 * (6 + m) + 14 * p + (i + 1) by omega]
    exact a2 g r (by omega)
theorem sr_end {τ : aw_m} (hB : gs_B S) (h : er_E τ (rS S st) (rZ Z V)) (hm : m < 6) {p : Nat} {N : Nat → Nat} {L : Nat} (hp : p < 3) (hL : L ≤ 14) (ht : ∀ i, i < L → rx_tk S Z m (14 * p + i) (N i)) {d i j : Nat} (hd : d ≤ 5) (hw : pw_ N L d i j) : xm_R_end τ (nI (42 * (6 + m) + 14 * p + i)) = some (nI (42 * (6 + m) + 14 * p + j)) := by
  have hj := pw_le d i j hw
  have e := en_pw hB h hm hp hL ht (a := nI (42 * (6 + m) + 14 * p + i)) d i j hw (64 - (j - i)) 0 (by omega)
  rw [show 64 - (j - i) + (j - i) = 64 by omega] at e
  unfold xm_R_end
  have e : xq_R_end_4 τ 64 (nI (42 * (6 + m) + 14 * p + i)) 1 (nI (42 * (6 + m) + 14 * p + i)) = _ := e
  rw [e, show 64 - (j - i) = 63 - (j - i) + 1 by omega, xq_R_end_4, if_pos (show nI 0 ≤ (0 : Int32) by decide)]
/-! the class: arguments, parts, skip -/
theorem sc_Margs {σ : aw_m} (hB : gs_B S) (h : ec_E σ (rS S st) (rZ Z V)) (hst : st ≤ 120) (a b : Int32) : ∃ q, xm_M_argumentsOf σ 63 a b = some q := by
  have hB2 := rS_B hB hst
  unfold xm_M_argumentsOf
  rcases md_or a with ha | ⟨k, h6, hk, rfl⟩ | ⟨k, hk, rfl⟩
  · rw [mh_neg ha, b_some, if_pos rfl]; exact ⟨_, rfl⟩
  · rw [mh_big h6 hk, b_some, if_pos rfl]; exact ⟨_, rfl⟩
  · rw [mh_in h hk, b_some]
    by_cases h0 : rS S st 5 (6 + k) 0 = 0
    · rw [if_pos h0, if_pos rfl]; exact ⟨_, rfl⟩
    · rw [if_neg h0, if_neg (by decide), if_pos (in_nI hk (by omega)), tn_nI (by omega), ← cb_l hk, ag_b h hB2 (by omega), b_some]; exact ⟨_, rfl⟩
theorem sc_Margs1 {σ : aw_m} (hB : gs_B S) (h : ec_E σ (rS S st) (rZ Z V)) (hst : st ≤ 120) {k v : Nat} (hk : k < 6) (hp : S 5 (6 + k) 0 ≠ 0) (hv : v < S 1 (6 + k) 0) : xm_M_argumentsOf σ 63 (nI k) (nI v) = some (nI (S 2 (6 + k) v)) := by
  have hB2 := rS_B hB hst
  have hb := (hB.1 (6 + k) (by omega)).2.1
  unfold xm_M_argumentsOf
  have h0 : ¬ rS S st 5 (6 + k) 0 = 0 := hp
  have e := sc_argumentsOf h hB2 (e := 6 + k) (p := v) (by omega) (by omega)
  rw [if_pos (show v < rS S st 1 (6 + k) 0 from hv)] at e
  rw [mh_in h hk, b_some, if_neg h0, if_neg (by decide), if_pos (in_nI hk (by omega)), tn_nI (by omega), ← cb_l hk, e, b_some]
  rfl
/-- the parts of the token in a cell of a loaded module, as the class's skip counts them -/
def nx_parts (σ : aw_m) (k1 k2 : Nat) (a : Int32) : Option Int32 := if aw_in a 42 = true then (if σ (k2 + 3) (Int32.toNatClampNeg a) = (11 : Int32) then (xm_M_argumentsOf σ k1 (σ (k2 + 4) (Int32.toNatClampNeg a)) (σ (k2 + 5) (Int32.toNatClampNeg a))).bind fun q => some (aw_max (0 : Int32) q) else if aw_in (σ (k2 + 3) (Int32.toNatClampNeg a)) 12 = true then some (aw_max (0 : Int32) (zp_parts (Int32.toNatClampNeg (σ (k2 + 3) (Int32.toNatClampNeg a))))) else none) else none
theorem nx_skip (n : Nat) (σ : aw_m) (j0 j1 j2 j3 : Nat) (v4 v5 : Int32) : xq_N_skip_29 (n + 1) σ j0 j1 j2 j3 v4 v5 = (if v5 ≤ 0 then some σ else (if v4 ≤ σ j2 4 then some σ else (xm_C_cellOf σ j3 (σ j2 1) (σ j2 4)).bind fun q => (nx_parts σ j1 j3 q).bind fun r => aw_l (aw_p σ j2 4 ((σ j2 4) + (1 : Int32))) fun s => xq_N_skip_29 n s j0 j1 j2 j3 v4 (v5 + (r - (1 : Int32))))) := by
  rw [xq_N_skip_29]
  by_cases h5 : v5 ≤ 0
  · rw [if_pos h5, if_pos h5]
  · rw [if_neg h5, if_neg h5]
    by_cases h4 : v4 ≤ σ j2 4
    · rw [if_pos h4, if_pos h4]
    · rw [if_neg h4, if_neg h4]
      cases xm_C_cellOf σ j3 (σ j2 1) (σ j2 4) with
      | none => rfl
      | some q =>
        rw [b_some, b_some]
        unfold nx_parts
        by_cases h : aw_in q 42 = true
        · simp only [if_pos h]
          by_cases h2 : σ (j3 + 3) (Int32.toNatClampNeg q) = 11
          · rw [if_pos h2, if_pos h2]
            cases xm_M_argumentsOf σ j1 (σ (j3 + 4) (Int32.toNatClampNeg q)) (σ (j3 + 5) (Int32.toNatClampNeg q)) with
            | none => rfl
            | some r => rfl
          · rw [if_neg h2, if_neg h2]
            by_cases h3 : aw_in (σ (j3 + 3) (Int32.toNatClampNeg q)) 12 = true
            · rw [if_pos h3, if_pos h3]; rfl
            · rw [if_neg h3, if_neg h3]; rfl
        · rw [if_neg h, if_neg h]; rfl
theorem cx_parts {σ : aw_m} (hB : gs_B S) (h : ec_E σ (rS S st) (rZ Z V)) (hst : st ≤ 120) (hm : m < 6) (hc : c < 42) (ht : rx_tk S Z m c n) : nx_parts σ 63 (cb_ (6 + m)) (nI c) = some (nI n) := by
  obtain ⟨o1, o2, o3⟩ := (h.1 (6 + m) (by omega)).2.2.2 c hc
  have o1 : σ (cb_ (6 + m) + 3) c = nI (S 4 (6 + m) c) := o1
  have o2 : σ (cb_ (6 + m) + 4) c = Z 0 (6 + m) c := o2
  have o3 : σ (cb_ (6 + m) + 5) c = Z 1 (6 + m) c := o3
  have hin : aw_in (nI c) 42 = true := in_nI (by omega) (by omega)
  unfold nx_parts
  simp only [hin, if_true]
  rw [tn_nI (by omega), o1, o2, o3]
  rcases ht with ⟨q, rfl⟩ | ⟨q, rfl⟩ | ⟨q, rfl, -⟩ | ⟨q, rfl, -⟩ | ⟨q, rfl⟩ | ⟨q, k, v, hk, e1, e2, hp, hv, rfl⟩ | ⟨q, rfl⟩
  · rw [q]; rfl
  · rw [q]; rfl
  · rw [q]; rfl
  · rw [q]; rfl
  · rw [q]; rfl
  · have hb := hB.1 (6 + k) (by omega)
    have hb2 := (hb.2.2.1 v (by omega)).1
    rw [q, e1, e2, if_pos (by decide), sc_Margs1 hB h hst hk hp hv, b_some]
    unfold aw_max
    by_cases hz : S 2 (6 + k) v = 0
    · rw [hz]; rfl
    · rw [if_pos (show (0 : Int32) < nI (S 2 (6 + k) v) from nI_lt (a := 0) (by omega) (by omega))]
  · rcases (show S 4 (6 + m) c = 4 ∨ S 4 (6 + m) c = 5 ∨ S 4 (6 + m) c = 6 ∨ S 4 (6 + m) c = 7 ∨ S 4 (6 + m) c = 8 ∨ S 4 (6 + m) c = 10 by omega) with z | z | z | z | z | z
    · rw [z]; rfl
    · rw [z]; rfl
    · rw [z]; rfl
    · rw [z]; rfl
    · rw [z]; rfl
    · rw [z]; rfl
theorem cx_parts0 {σ : aw_m} (hB : gs_B S) (h : ec_E σ (rS S st) (rZ Z V)) (hst : st ≤ 120) (hm : m < 6) (hc : c < 42) : ∃ q, nx_parts σ 63 (cb_ (6 + m)) (nI c) = some q := by
  obtain ⟨o1, o2, o3⟩ := (h.1 (6 + m) (by omega)).2.2.2 c hc
  have o1 : σ (cb_ (6 + m) + 3) c = nI (S 4 (6 + m) c) := o1
  have hob := (hB.1 (6 + m) (by omega)).2.2.2 c hc
  have hin : aw_in (nI c) 42 = true := in_nI (by omega) (by omega)
  unfold nx_parts
  simp only [hin, if_true]
  rw [tn_nI (by omega), o1]
  by_cases hq : nI (S 4 (6 + m) c) = (11 : Int32)
  · rw [if_pos hq]
    obtain ⟨q, e⟩ := sc_Margs hB h hst (σ (cb_ (6 + m) + 4) c) (σ (cb_ (6 + m) + 5) c)
    rw [e, b_some]; exact ⟨_, rfl⟩
  · rw [if_neg hq, if_pos (in_nI (by omega) (by omega))]; exact ⟨_, rfl⟩
def fr_ (σ : aw_m) (l m p : Nat) (x y : Int32) (i : Nat) : Prop := σ (134 + l) 0 = nI m ∧ σ (134 + l) 1 = nI p ∧ σ (134 + l) 2 = x ∧ σ (134 + l) 3 = y ∧ σ (134 + l) 4 = nI i
theorem fr_at {σ : aw_m} {l m p i j : Nat} {x y : Int32} (h : fr_ σ l m p x y i) : fr_ (aw_p σ (134 + l) 4 (nI j)) l m p x y j := by
  obtain ⟨h1, h2, h3, h4, h5⟩ := h
  refine ⟨?_, ?_, ?_, ?_, ?_⟩
  · rw [aw_pe, up_n (by omega)]; exact h1
  · rw [aw_pe, up_n (by omega)]; exact h2
  · rw [aw_pe, up_n (by omega)]; exact h3
  · rw [aw_pe, up_n (by omega)]; exact h4
  · rw [aw_pe, up_e]
theorem ec_fr {σ : aw_m} {l i : Nat} {v : Int32} (h : ec_E σ (rS S st) (rZ Z V)) : ec_E (aw_p σ (134 + l) i v) (rS S st) (rZ Z V) :=
  ec_dyn h (fun k hk _ => aw_pk (by omega)) (fun m hm v hv => by rw [aw_pk (by omega)]; exact h.2.2.1 m hm v hv) (by rw [aw_pk (by omega)]; exact h.2.2.2.2.2.2)
theorem sk_pi {l : Nat} {x y : Int32} {p L R : Nat} {f : Nat → Nat → Prop} (hf : ∀ i j, f i j → i < j) (hs : ∀ i j, f i j → ∀ g r σ, r ≤ R → ec_E σ (rS S st) (rZ Z V) → fr_ σ l m p x y i → xq_N_skip_29 (g + (j - i)) σ 132 63 (134 + l) (cb_ (6 + m)) (nI L) (nI (1 + r)) = xq_N_skip_29 g (aw_p σ (134 + l) 4 (nI j)) 132 63 (134 + l) (cb_ (6 + m)) (nI L) (nI r)) : ∀ n i j, pi_ f n i j → i ≤ j ∧ ∀ g r σ, n + r ≤ R + 1 → ec_E σ (rS S st) (rZ Z V) → fr_ σ l m p x y i → xq_N_skip_29 (g + (j - i)) σ 132 63 (134 + l) (cb_ (6 + m)) (nI L) (nI (n + r)) = xq_N_skip_29 g (aw_p σ (134 + l) 4 (nI j)) 132 63 (134 + l) (cb_ (6 + m)) (nI L) (nI r) := by
  intro n
  induction n with
  | zero =>
    intro i j h
    have h : i = j := h
    subst h
    exact ⟨Nat.le_refl i, fun g r σ _ _ hfr => by rw [Nat.sub_self, Nat.add_zero, Nat.zero_add, aw_ps hfr.2.2.2.2]⟩
  | succ n ih =>
    intro i j ⟨k, h1, h2⟩
    obtain ⟨a1, a2⟩ := ih k j h2
    have a3 := hf i k h1
    refine ⟨by omega, fun g r σ hr h hfr => ?_⟩
    have e1 := hs i k h1 (g + (j - k)) (n + r) σ (by omega) h hfr
    rw [show g + (j - k) + (k - i) = g + (j - i) by omega, show 1 + (n + r) = n + 1 + r by omega] at e1
    rw [e1, a2 g r _ (by omega) (ec_fr h) (fr_at hfr), aw_pp]
theorem sk_pw (hB : gs_B S) (hst : st ≤ 120) (hm : m < 6) {l : Nat} {x y : Int32} {p : Nat} {N : Nat → Nat} {L : Nat} (hp : p < 3) (hL : L ≤ 14) (ht : ∀ i, i < L → rx_tk S Z m (14 * p + i) (N i)) : ∀ d i j, pw_ N L d i j → ∀ g r σ, r + 3 * d ≤ 100 → ec_E σ (rS S st) (rZ Z V) → fr_ σ l m p x y i → xq_N_skip_29 (g + (j - i)) σ 132 63 (134 + l) (cb_ (6 + m)) (nI L) (nI (1 + r)) = xq_N_skip_29 g (aw_p σ (134 + l) 4 (nI j)) 132 63 (134 + l) (cb_ (6 + m)) (nI L) (nI r) := by
  intro d
  induction d with
  | zero => intro i j h; exact h.elim
  | succ d ih =>
    intro i j ⟨h1, h2⟩ g r σ hr h hfr
    have hn := tk_le hB (ht i h1)
    obtain ⟨a1, a2⟩ := sk_pi (S := S) (Z := Z) (st := st) (V := V) (m := m) (l := l) (x := x) (y := y) (p := p) (L := L) (R := 100 - 3 * d) (fun i j h => (pw_le d i j h).1) (fun i j h g r σ hr => ih i j h g r σ (by omega)) (N i) (i + 1) j h2
    have hfr2 := hfr
    obtain ⟨-, f2, -, -, f5⟩ := hfr
    rw [show g + (j - i) = g + (j - (i + 1)) + 1 by omega, nx_skip, if_neg (show ¬ nI (1 + r) ≤ (0 : Int32) from nI_ge (a := 0) (by omega) (by omega)), f5, if_neg (nI_ge h1 (by omega)), f2]
    unfold xm_C_cellOf
    rw [nz_14, mu_nI, ad_nI, b_some, show p * 14 + i = 14 * p + i by omega, cx_parts hB h hst hm (by omega) (ht i h1), b_some, l_eq, nI_need, nz_1, ad_nI, a2 g r _ (by omega) (ec_fr h) (fr_at hfr2), aw_pp]
theorem sc_skip (hB : gs_B S) (hst : st ≤ 120) (hm : m < 6) {l : Nat} {x y : Int32} {p : Nat} {N : Nat → Nat} (hp : p < S 1 (6 + m) 0) (ht : ∀ i, i < S 3 (6 + m) p → rx_tk S Z m (14 * p + i) (N i)) {d i j : Nat} (hd : d ≤ 5) (hw : pw_ N (S 3 (6 + m) p) d i j) {σ : aw_m} (h : ec_E σ (rS S st) (rZ Z V)) (hfr : fr_ σ l m p x y i) : xm_N_skip σ 132 63 (134 + l) = some (aw_p σ (134 + l) 4 (nI j)) := by
  have hb := hB.1 (6 + m) (by omega)
  have hL := (hb.2.2.1 p (by omega)).2
  have hj := pw_le d i j hw
  have el := sc_lengthOf h (rS_B hB hst) (e := 6 + m) (p := p) (by omega) (by omega)
  rw [if_pos (show p < rS S st 1 (6 + m) 0 from hp)] at el
  have el : xm_C_lengthOf σ (cb_ (6 + m)) (nI p) = some (nI (S 3 (6 + m) p)) := el
  have e := sk_pw hB hst hm (x := x) (y := y) (l := l) (by omega) hL ht d i j hw (64 - (j - i)) 0 σ (by omega) h hfr
  rw [show 64 - (j - i) + (j - i) = 64 by omega] at e
  have e : xq_N_skip_29 64 σ 132 63 (134 + l) (cb_ (6 + m)) (nI (S 3 (6 + m) p)) 1 = _ := e
  unfold xm_N_skip
  rw [hfr.1, if_pos (in_nI hm (by omega)), tn_nI (by omega), ← cb_l hm, hfr.2.1, el, b_some, e, show 64 - (j - i) = 63 - (j - i) + 1 by omega, nx_skip, if_pos (show nI 0 ≤ (0 : Int32) by decide)]
theorem sk_any (hB : gs_B S) (hst : st ≤ 120) (hm : m < 6) {l : Nat} {x y : Int32} {p L : Nat} (hp : p < 3) (hL : L ≤ 14) : ∀ r a v g σ, a + r = L → r < g → ec_E σ (rS S st) (rZ Z V) → fr_ σ l m p x y a → ∃ a', a' ≤ L ∧ xq_N_skip_29 g σ 132 63 (134 + l) (cb_ (6 + m)) (nI L) v = some (aw_p σ (134 + l) 4 (nI a')) := by
  intro r
  induction r with
  | zero =>
    intro a v g σ ha hg h hfr
    obtain ⟨g, rfl⟩ : ∃ g', g = g' + 1 := ⟨g - 1, by omega⟩
    refine ⟨a, by omega, ?_⟩
    rw [nx_skip, hfr.2.2.2.2, if_pos (nI_le (a := L) (b := a) (by omega) (by omega)), aw_ps hfr.2.2.2.2]
    split <;> rfl
  | succ r ih =>
    intro a v g σ ha hg h hfr
    obtain ⟨g, rfl⟩ : ∃ g', g = g' + 1 := ⟨g - 1, by omega⟩
    rw [nx_skip]
    by_cases hv : v ≤ 0
    · rw [if_pos hv]
      exact ⟨a, by omega, by rw [aw_ps hfr.2.2.2.2]⟩
    · obtain ⟨q, e⟩ := cx_parts0 hB h hst hm (c := 14 * p + a) (by omega)
      rw [if_neg hv, hfr.2.2.2.2, if_neg (nI_ge (by omega) (by omega)), hfr.2.1]
      unfold xm_C_cellOf
      rw [nz_14, mu_nI, ad_nI, b_some, show p * 14 + a = 14 * p + a by omega, e, b_some, l_eq, nz_1, ad_nI]
      obtain ⟨a', h1, h2⟩ := ih (a + 1) (v + (q - nI 1)) g _ (by omega) (by omega) (ec_fr h) (fr_at hfr)
      rw [aw_pp] at h2
      exact ⟨a', h1, h2⟩
theorem sc_skip0 (hB : gs_B S) (hst : st ≤ 120) (hm : m < 6) {l : Nat} {x y : Int32} {p : Nat} (hp : p < S 1 (6 + m) 0) {a : Nat} (ha : a ≤ S 3 (6 + m) p) {σ : aw_m} (h : ec_E σ (rS S st) (rZ Z V)) (hfr : fr_ σ l m p x y a) : ∃ a', a' ≤ S 3 (6 + m) p ∧ xm_N_skip σ 132 63 (134 + l) = some (aw_p σ (134 + l) 4 (nI a')) := by
  have hb := hB.1 (6 + m) (by omega)
  have hL := (hb.2.2.1 p (by omega)).2
  have el := sc_lengthOf h (rS_B hB hst) (e := 6 + m) (p := p) (by omega) (by omega)
  rw [if_pos (show p < rS S st 1 (6 + m) 0 from hp)] at el
  have el : xm_C_lengthOf σ (cb_ (6 + m)) (nI p) = some (nI (S 3 (6 + m) p)) := el
  unfold xm_N_skip
  rw [hfr.1, if_pos (in_nI hm (by omega)), tn_nI (by omega), ← cb_l hm, hfr.2.1, el, b_some]
  exact sk_any hB hst hm (by omega) hL (S 3 (6 + m) p - a) a 1 64 σ (by omega) (by omega) h hfr
end RP
