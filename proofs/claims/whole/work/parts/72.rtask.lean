/-! run: the reference's tasks, values, frames -/
def RT (τ : aw_m) (S : gs_S) (Z : gs_Z) (st : Nat) (V : Nat → Nat → Int32) (b h : Nat) : Prop := er_E τ (rS S st) (rZ Z V) ∧ τ 0 22 = nI b ∧ τ 0 24 = nI h
/-- what is kept below b, below h, and up to frame l -/
def rk_ (τ τ2 : aw_m) (b h l : Nat) : Prop := (∀ i, i < b → τ2 16 i = τ 16 i ∧ τ2 17 i = τ 17 i ∧ τ2 18 i = τ 18 i) ∧ (∀ i, i < h → τ2 19 i = τ 19 i) ∧ ∀ k, k < l → τ2 20 k = τ 20 k ∧ τ2 22 k = τ 22 k ∧ τ2 23 k = τ 23 k
theorem rk_t {τ τ2 τ3 : aw_m} {b h l b2 h2 l2 : Nat} (a : rk_ τ τ2 b h l) (c : rk_ τ2 τ3 b2 h2 l2) (hb : b ≤ b2) (hh : h ≤ h2) (hl : l ≤ l2) : rk_ τ τ3 b h l := by
  refine ⟨fun i hi => ?_, fun i hi => ?_, fun k hk => ?_⟩
  · obtain ⟨a1, a2, a3⟩ := a.1 i hi
    obtain ⟨c1, c2, c3⟩ := c.1 i (by omega)
    exact ⟨c1.trans a1, c2.trans a2, c3.trans a3⟩
  · exact (c.2.1 i (by omega)).trans (a.2.1 i hi)
  · obtain ⟨a1, a2, a3⟩ := a.2.2 k hk
    obtain ⟨c1, c2, c3⟩ := c.2.2 k (by omega)
    exact ⟨c1.trans a1, c2.trans a2, c3.trans a3⟩
theorem rk_w {τ τ2 : aw_m} {b h l b2 h2 l2 : Nat} (a : rk_ τ τ2 b2 h2 l2) (hb : b ≤ b2) (hh : h ≤ h2) (hl : l ≤ l2) : rk_ τ τ2 b h l :=
  ⟨fun i hi => a.1 i (by omega), fun i hi => a.2.1 i (by omega), fun k hk => a.2.2 k (by omega)⟩
section RT_
variable {τ : aw_m} {S : gs_S} {Z : gs_Z} {st b h : Nat} {V : Nat → Nat → Int32}
/-- only cells 16 and above, or fields above 15 of the object, have changed -/
theorem er_up {τ2 : aw_m} (hB : gs_B S) (e : er_E τ (rS S st) (rZ Z V)) (hk : ∀ k, 1 ≤ k → k < 13 → τ2 k = τ k) (h0 : ∀ i, i < 16 → τ2 0 i = τ 0 i) : er_E τ2 (rS S st) (rZ Z V) :=
  er_dyn hB e (fun k h1 h2 => hk k h1 (by omega)) (fun m hm v hv => by rw [hk 12 (by omega) (by omega)]; exact e.2.2.1 m hm v hv) (fun i _ hi => h0 i (by omega)) (by rw [h0 15 (by omega)]; exact e.2.2.2.2.2.2)
theorem rt_push (hB : gs_B S) (r : RT τ S Z st V b h) (hb : b < 300) (x y z : Int32) : ∃ τ2, xm_R_push τ x y z = some τ2 ∧ RT τ2 S Z st V (b + 1) h ∧ (τ2 16 b = x ∧ τ2 17 b = y ∧ τ2 18 b = z) ∧ rk_ τ τ2 b 300 300 := by
  obtain ⟨e, r1, r2⟩ := r
  refine ⟨aw_p (aw_p (aw_p (aw_p τ 16 b x) 17 b y) 18 b z) 0 22 (nI (b + 1)), ?_, ⟨er_up hB e (fun k h1 h2 => ?_) (fun i hi => ?_), ?_, ?_⟩, ⟨?_, ?_, ?_⟩, ⟨fun i hi => ?_, fun i hi => ?_, fun k hk => ?_⟩⟩
  · unfold xm_R_push
    simp (disch := omega) only [l_eq, aw_pk, r1, in_nI, tn_nI, if_true, nz_1, ad_nI]
  · simp (disch := omega) only [aw_pk]
  · rw [aw_pe, up_n (by omega), aw_pk (by omega), aw_pk (by omega), aw_pk (by omega)]
  · rw [aw_pe, up_e]
  · rw [aw_pe, up_n (by omega), aw_pk (by omega), aw_pk (by omega), aw_pk (by omega)]; exact r2
  · simp (disch := omega) only [aw_pk, aw_pe, up_e]
  · simp (disch := omega) only [aw_pk, aw_pe, up_e]
  · simp (disch := omega) only [aw_pk, aw_pe, up_e]
  · simp (disch := omega) only [aw_pk, aw_pe, up_n, and_self]
  · simp (disch := omega) only [aw_pk]
  · simp (disch := omega) only [aw_pk, and_self]
theorem rt_give (hB : gs_B S) (r : RT τ S Z st V b h) (hh : h < 300) (v : Int32) : ∃ τ2, xm_R_give τ v = some τ2 ∧ RT τ2 S Z st V b (h + 1) ∧ τ2 19 h = v ∧ rk_ τ τ2 300 h 300 := by
  obtain ⟨e, r1, r2⟩ := r
  refine ⟨aw_p (aw_p τ 19 h v) 0 24 (nI (h + 1)), ?_, ⟨er_up hB e (fun k h1 h2 => ?_) (fun i hi => ?_), ?_, ?_⟩, ?_, ⟨fun i hi => ?_, fun i hi => ?_, fun k hk => ?_⟩⟩
  · unfold xm_R_give
    simp (disch := omega) only [l_eq, aw_pk, r2, in_nI, tn_nI, if_true, nz_1, ad_nI]
  · simp (disch := omega) only [aw_pk]
  · rw [aw_pe, up_n (by omega), aw_pk (by omega)]
  · rw [aw_pe, up_n (by omega), aw_pk (by omega)]; exact r1
  · rw [aw_pe, up_e]
  · simp (disch := omega) only [aw_pk, aw_pe, up_e]
  · simp (disch := omega) only [aw_pk, and_self]
  · simp (disch := omega) only [aw_pk, aw_pe, up_n]
  · simp (disch := omega) only [aw_pk, and_self]
theorem rt_take (hB : gs_B S) (r : RT τ S Z st V b (h + 1)) (hh : h < 300) : ∃ τ2, xm_R_take τ = some (τ 19 h, τ2) ∧ RT τ2 S Z st V b h ∧ rk_ τ τ2 300 300 300 := by
  obtain ⟨e, r1, r2⟩ := r
  refine ⟨aw_p τ 0 24 (nI h), ?_, ⟨er_up hB e (fun k h1 h2 => ?_) (fun i hi => ?_), ?_, ?_⟩, ⟨fun i hi => ?_, fun i hi => ?_, fun k hk => ?_⟩⟩
  · unfold xm_R_take
    rw [l_eq, r2, nI_pred, aw_pe, up_e, if_pos (in_nI hh (by omega)), tn_nI (by omega), aw_pk (by omega)]
  · simp (disch := omega) only [aw_pk]
  · rw [aw_pe, up_n (by omega)]
  · rw [aw_pe, up_n (by omega)]; exact r1
  · rw [aw_pe, up_e]
  · simp (disch := omega) only [aw_pk, and_self]
  · simp (disch := omega) only [aw_pk]
  · simp (disch := omega) only [aw_pk, and_self]
theorem rt_pop (hB : gs_B S) (r : RT τ S Z st V (b + 1) h) : RT (aw_p τ 0 22 (nI b)) S Z st V b h ∧ rk_ τ (aw_p τ 0 22 (nI b)) 300 300 300 := by
  obtain ⟨e, r1, r2⟩ := r
  refine ⟨⟨er_up hB e (fun k h1 h2 => ?_) (fun i hi => ?_), ?_, ?_⟩, ⟨fun i hi => ?_, fun i hi => ?_, fun k hk => ?_⟩⟩
  · simp (disch := omega) only [aw_pk]
  · rw [aw_pe, up_n (by omega)]
  · rw [aw_pe, up_e]
  · rw [aw_pe, up_n (by omega)]; exact r2
  · simp (disch := omega) only [aw_pk, and_self]
  · simp (disch := omega) only [aw_pk]
  · simp (disch := omega) only [aw_pk, and_self]
theorem rt_step (hB : gs_B S) (r : RT τ S Z st V b h) : RT (aw_p τ 0 15 (nI (st + 1))) S Z (st + 1) V b h ∧ rk_ τ (aw_p τ 0 15 (nI (st + 1))) 300 300 300 := by
  obtain ⟨e, r1, r2⟩ := r
  refine ⟨⟨er_dyn hB e (fun k h1 h2 => ?_) (fun m hm v hv => ?_) (fun i _ hi => ?_) ?_, ?_, ?_⟩, ⟨fun i hi => ?_, fun i hi => ?_, fun k hk => ?_⟩⟩
  · simp (disch := omega) only [aw_pk]
  · rw [aw_pk (by omega)]; exact e.2.2.1 m hm v hv
  · rw [aw_pe, up_n (by omega)]
  · rw [aw_pe, up_e]
  · rw [aw_pe, up_n (by omega)]; exact r1
  · rw [aw_pe, up_n (by omega)]; exact r2
  · simp (disch := omega) only [aw_pk, and_self]
  · simp (disch := omega) only [aw_pk]
  · simp (disch := omega) only [aw_pk, and_self]
def vu_ (V : Nat → Nat → Int32) (m v : Nat) (w : Int32) : Nat → Nat → Int32 := fun a i => if a = m ∧ i = v then w else V a i
theorem rt_set (hB : gs_B S) (r : RT τ S Z st V b h) {m v : Nat} (hm : m < 6) (hv : v < 3) (w : Int32) : RT (aw_p τ 12 (3 * m + v) w) S Z st (vu_ V m v w) b h ∧ rk_ τ (aw_p τ 12 (3 * m + v) w) 300 300 300 := by
  obtain ⟨e, r1, r2⟩ := r
  refine ⟨⟨er_dyn hB e (fun k h1 h2 => ?_) (fun a ha i hi => ?_) (fun i _ hi => ?_) ?_, ?_, ?_⟩, ⟨fun i hi => ?_, fun i hi => ?_, fun k hk => ?_⟩⟩
  · simp (disch := omega) only [aw_pk]
  · rw [aw_pe]
    unfold vu_
    by_cases hq : a = m ∧ i = v
    · rw [if_pos hq, hq.1, hq.2, up_e]
    · rw [if_neg hq, up_n (by omega)]; exact e.2.2.1 a ha i hi
  · rw [aw_pk (by omega)]
  · rw [aw_pk (by omega)]; exact e.2.2.2.2.2.2
  · rw [aw_pk (by omega)]; exact r1
  · rw [aw_pk (by omega)]; exact r2
  · simp (disch := omega) only [aw_pk, and_self]
  · simp (disch := omega) only [aw_pk]
  · simp (disch := omega) only [aw_pk, and_self]
theorem rt_enter (hB : gs_B S) (r : RT τ S Z st V b h) (hb : b < 300) {f m p : Nat} (hf : f < 6) (x y : Int32) : ∃ τ2, xm_R_enter τ (nI f) (nI m) (nI p) x y = some τ2 ∧ RT τ2 S Z st V (b + 1) h ∧ (τ2 16 b = 0 ∧ τ2 17 b = nI (42 * (6 + m) + 14 * p + 0) ∧ τ2 18 b = nI f) ∧ (τ2 20 f = nI m ∧ τ2 22 f = x ∧ τ2 23 f = y) ∧ rk_ τ τ2 b 300 f := by
  obtain ⟨e, r1, r2⟩ := r
  obtain ⟨τ1, h1⟩ : ∃ τ1, τ1 = aw_p (aw_p (aw_p (aw_p τ 20 f (nI m)) 21 f (nI p)) 22 f x) 23 f y := ⟨_, rfl⟩
  have R1 : RT τ1 S Z st V b h := by
    rw [h1]
    refine ⟨er_up hB e (fun k a1 a2 => ?_) (fun i hi => ?_), ?_, ?_⟩
    · simp (disch := omega) only [aw_pk]
    · simp (disch := omega) only [aw_pk]
    · simp (disch := omega) only [aw_pk]; exact r1
    · simp (disch := omega) only [aw_pk]; exact r2
  obtain ⟨τ2, p1, p2, p3, p4⟩ := rt_push hB R1 hb 0 (nI (42 * (6 + m) + 14 * p)) (nI f)
  refine ⟨τ2, ?_, p2, p3, ?_, ?_⟩
  · unfold xm_R_enter
    simp (disch := omega) only [l_eq, in_nI, tn_nI, if_true, nz_6, nz_14, nz_42, ad_nI, mu_nI]
    rw [← h1, p1, b_some]
  · obtain ⟨q1, q2, q3⟩ := p4.2.2 f (by omega)
    rw [q1, q2, q3, h1]
    simp (disch := omega) only [aw_pk, aw_pe, up_e, and_self]
  · refine rk_t (τ2 := τ1) ?_ p4 (Nat.le_refl b) (by omega) (by omega)
    rw [h1]
    refine ⟨fun i hi => ?_, fun i hi => ?_, fun k hk => ?_⟩
    · simp (disch := omega) only [aw_pk, and_self]
    · simp (disch := omega) only [aw_pk]
    · simp (disch := omega) only [aw_pk, aw_pe, up_n, and_self]
end RT_
