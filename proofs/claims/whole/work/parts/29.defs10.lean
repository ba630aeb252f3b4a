/-! ===== the reference's answers ===== -/
theorem pe_none {op : Int32} {f : Nat → Int32} {n z w : Nat} (h : (lLs w n z).length ≤ 144) : pe op f n z w (-6) = pe op f n z w (-1) := by
  unfold pe
  rw [ply_none (by omega)]
def smi (E : Nat → Int32) (p : Nat) (b : Bool) : Nat → Bool
  | 0 => b
  | m + 1 => smi E p b m && decide (E (12 * (m + 1) + p) = E p)
def smo (E : Nat → Int32) (n : Nat) : Nat → Bool
  | 0 => true
  | p + 1 => smi E p (smo E n p) (n - 1)
theorem smi_iff (E : Nat → Int32) (p : Nat) (b : Bool) : ∀ m, smi E p b m = true ↔ b = true ∧ ∀ j, j < m → E (12 * (j + 1) + p) = E p
  | 0 => by simp [smi]
  | m + 1 => by
    rw [smi, Bool.and_eq_true, smi_iff E p b m, decide_eq_true_eq]
    constructor
    · rintro ⟨⟨h1, h2⟩, h3⟩
      refine ⟨h1, fun j hj => ?_⟩
      rcases Nat.lt_succ_iff_lt_or_eq.mp hj with q | q
      · exact h2 j q
      · rw [q]; exact h3
    · rintro ⟨h1, h2⟩
      exact ⟨⟨h1, fun j hj => h2 j (by omega)⟩, h2 m (by omega)⟩
theorem smo_iff (E : Nat → Int32) (n : Nat) : ∀ z, smo E n z = true ↔ ∀ p, p < z → ∀ j, j < n - 1 → E (12 * (j + 1) + p) = E p
  | 0 => by simp [smo]
  | z + 1 => by
    rw [smo, smi_iff, smo_iff E n z]
    constructor
    · rintro ⟨h1, h2⟩ p hp
      rcases Nat.lt_succ_iff_lt_or_eq.mp hp with q | q
      · exact h1 p q
      · rw [q]; exact h2
    · intro h
      exact ⟨fun p hp => h p (by omega), h z (by omega)⟩
theorem dfc0 (f g : Nat → Int32) (a b : Nat) : ∀ z, dfc f g a b z = 0 ↔ ∀ p, p < z → f (12 * a + p) = g (12 * b + p)
  | 0 => by simp [dfc]
  | z + 1 => by
    rw [dfc, Nat.add_eq_zero_iff, dfc0 f g a b z]
    constructor
    · rintro ⟨h1, h2⟩ p hp
      rcases Nat.lt_succ_iff_lt_or_eq.mp hp with q | q
      · exact h1 p q
      · rw [q]
        by_cases e : f (12 * a + z) = g (12 * b + z)
        · exact e
        · rw [if_neg e] at h2; omega
    · intro h
      exact ⟨fun p hp => h p (by omega), if_pos (h z (by omega))⟩
theorem aro_iff (E : Nat → Int32) (z : Nat) : ∀ n, aro E z n = true ↔ ∀ j, j < n → ∀ p, p < z → E (12 * (j + 1) + p) = E p
  | 0 => by simp [aro]
  | n + 1 => by
    rw [aro, Bool.and_eq_true, aro_iff E z n, decide_eq_true_eq, dfc0]
    constructor
    · rintro ⟨h1, h2⟩ j hj
      rcases Nat.lt_succ_iff_lt_or_eq.mp hj with q | q
      · exact h1 j q
      · rw [q]; intro p hp; have := h2 p hp; rw [show 12 * 0 + p = p by omega] at this; exact this
    · intro h
      refine ⟨fun j hj => h j (by omega), fun p hp => ?_⟩
      rw [show 12 * 0 + p = p by omega]; exact h n (by omega) p hp
theorem smo_aro (E : Nat → Int32) (n z : Nat) : smo E n z = aro E z (n - 1) := by
  rw [Bool.eq_iff_iff, smo_iff, aro_iff]
  exact ⟨fun h j hj p hp => h p hp j hj, fun h p hp j hj => h j hj p hp⟩
def alk (a b : Nat → Int32) : Nat → Bool
  | 0 => true
  | k + 1 => alk a b k && decide (a k = b k)
theorem alk_iff (a b : Nat → Int32) : ∀ z, alk a b z = true ↔ ∀ p, p < z → a p = b p
  | 0 => by simp [alk]
  | z + 1 => by
    rw [alk, Bool.and_eq_true, alk_iff a b z, decide_eq_true_eq]
    constructor
    · rintro ⟨h1, h2⟩ p hp
      rcases Nat.lt_succ_iff_lt_or_eq.mp hp with q | q
      · exact h1 p q
      · rw [q]; exact h2
    · intro h
      exact ⟨fun p hp => h p (by omega), h z (by omega)⟩
theorem alk_dfc (a b : Nat → Int32) (z : Nat) : alk a b z = decide (dfc b a 0 0 z = 0) := by
  rw [Bool.eq_iff_iff, alk_iff, decide_eq_true_eq, dfc0]
  constructor
  · intro h p hp; rw [show 12 * 0 + p = p by omega]; exact (h p hp).symm
  · intro h p hp; have := h p hp; rw [show 12 * 0 + p = p by omega] at this; exact this.symm
def wsm (h : Nat → Nat) : Nat → Nat × Int32 × Nat
  | 0 => (0, (-1), 0)
  | k + 1 => (if nI (h k) ≤ (wsm h k).2.1 then (wsm h k).1 else k, if nI (h k) ≤ (wsm h k).2.1 then (wsm h k).2.1 else nI (h k), (wsm h k).2.2 + if h k = 0 then 1 else 0)
def wS (a : Nat × Int32 × Nat) (k x : Nat) : Nat × Int32 × Nat := (if nI x ≤ a.2.1 then a.1 else k, if nI x ≤ a.2.1 then a.2.1 else nI x, a.2.2 + if x = 0 then 1 else 0)
def tS (a : Nat × Nat × Nat) (k x : Nat) : Nat × Nat × Nat := (if a.2.1 < x then k else a.1, if a.2.1 < x then x else a.2.1, a.2.2 + if x = 0 then 1 else 0)
theorem wS_s (a b c k x : Nat) (hb : b < 2 ^ 31) (hx : x < 2 ^ 31) : wS (a, nI b, c) k x = ((tS (a, b, c) k x).1, nI (tS (a, b, c) k x).2.1, (tS (a, b, c) k x).2.2) := by
  unfold wS tS
  by_cases q : b < x
  · have : ¬ nI x ≤ nI b := fun z => by have := (nI_leI hx hb).mp z; omega
    simp [this, q]
  · have : nI x ≤ nI b := nI_le (by omega) (by omega)
    simp [this, q]
theorem wS_0 (x : Nat) (hx : x < 2 ^ 31) : wS (0, (-1), 0) 0 x = ((tS (0, 0, 0) 0 x).1, nI (tS (0, 0, 0) 0 x).2.1, (tS (0, 0, 0) 0 x).2.2) := by
  have h0 : ¬ nI x ≤ (-1) := fun q => nI_pos hx (Int32.lt_of_le_of_lt q (by decide))
  unfold wS tS
  by_cases q : 0 < x
  · simp [h0, q]
  · obtain rfl : x = 0 := by omega
    simp [h0]
theorem wsm_eq {h : Nat → Nat} {b : Nat} (hb : b < 2 ^ 31) (hh : ∀ k, h k ≤ b) : ∀ k, wsm h (k + 1) = ((wst h (k + 1)).1, nI (wst h (k + 1)).2.1, (wst h (k + 1)).2.2)
  | 0 => wS_0 (h 0) (Nat.lt_of_le_of_lt (hh 0) hb)
  | k + 1 => by
    have e1 : wsm h (k + 1 + 1) = wS (wsm h (k + 1)) (k + 1) (h (k + 1)) := rfl
    rw [e1, wsm_eq hb hh k]
    exact wS_s _ _ _ _ _ (Nat.lt_of_le_of_lt (wst_le h hh (k + 1)) hb) (Nat.lt_of_le_of_lt (hh (k + 1)) hb)
theorem wsm_at {h : Nat → Nat} {b k : Nat} (hb : b < 2 ^ 31) (hh : ∀ k, h k ≤ b) (hk : 1 ≤ k) : wsm h k = ((wst h k).1, nI (wst h k).2.1, (wst h k).2.2) := by
  obtain ⟨j, rfl⟩ : ∃ j, k = j + 1 := ⟨k - 1, by omega⟩
  exact wsm_eq hb hh j
theorem brB_in' : ∀ q, q < 12 → ∀ a, a < 13 → ∀ s, s < 13 → inB (nI q) (nI a) (nI s - nI 1) = (decide (a ≤ q) && decide (q < s)) := by decide +kernel
def imf (A B : Nat → Int32) : Nat → Int32 := fun j => if j < 194 then A j else B (j - 194)
theorem imf_u0 (A B : Nat → Int32) (x : Int32) {i : Nat} (hi : i < 194) (j : Nat) : upd (imf A B) (194 * 0 + i) x j = imf (upd A i x) B j := by
  simp only [upd, imf]
  by_cases h : j = i
  · subst h; rw [if_pos (by omega), if_pos hi, if_pos rfl]
  · rw [if_neg (by omega)]
    by_cases h2 : j < 194
    · rw [if_pos h2, if_pos h2, if_neg h]
    · rw [if_neg h2, if_neg h2]
theorem imf_u1 (A B : Nat → Int32) (x : Int32) {i : Nat} (hi : i < 194) (j : Nat) : upd (imf A B) (194 * 1 + i) x j = imf A (upd B i x) j := by
  simp only [upd, imf]
  by_cases h : j = 194 * 1 + i
  · subst h; rw [if_pos rfl, if_neg (by omega), if_pos (by omega)]
  · rw [if_neg h]
    by_cases h2 : j < 194
    · rw [if_pos h2, if_pos h2]
    · rw [if_neg h2, if_neg h2, if_neg (by omega)]
theorem imf_0 (A B : Nat → Int32) {i : Nat} (hi : i < 194) : imf A B (194 * 0 + i) = A i := by
  simp only [imf]; rw [if_pos (by omega), show 194 * 0 + i = i by omega]
theorem imf_1 (A B : Nat → Int32) {i : Nat} : imf A B (194 * 1 + i) = B i := by
  simp only [imf]; rw [if_neg (by omega), show 194 * 1 + i - 194 = i by omega]
def kf (b0 b1 : Bool) : Nat → Int32 := fun j => if j = 0 then b2i b0 else b2i b1
theorem kf_u0 (b0 b1 : Bool) (j : Nat) : upd (kf b0 b1) 0 (vp_nar .boolean (nI 1)) j = kf true b1 j := by
  simp only [upd, kf]
  by_cases h : j = 0
  · rw [if_pos h, if_pos h]; rfl
  · rw [if_neg h, if_neg h, if_neg h]
theorem kf_u1 (b0 b1 : Bool) {j : Nat} (hj : j < 2) : upd (kf b0 b1) 1 (vp_nar .boolean (nI 1)) j = kf b0 true j := by
  simp only [upd, kf]
  by_cases h : j = 1
  · rw [if_pos h, if_neg (by omega)]; rfl
  · rw [if_neg h, if_pos (by omega), if_pos (by omega)]
theorem init_S {j : Nat} (hj : j < 194) : upd (upd (fun _ => 0) 3 (nI 5)) 4 (nI 1) j = mkS 0 0 (nI 0) (nI 5) (nI 1) (fun _ => nI 0) (fun _ => nI 0) j := by
  simp only [upd, mkS]
  by_cases h4 : j = 4
  · subst h4; rfl
  · rw [if_neg h4]
    by_cases h3 : j = 3
    · subst h3; rfl
    · rw [if_neg h3, if_neg h3, if_neg h4]
      by_cases h0 : j = 0
      · subst h0; rfl
      · by_cases h1 : j = 1
        · subst h1; rfl
        · by_cases h2 : j = 2
          · subst h2; rfl
          · rw [if_neg h0, if_neg h1, if_neg h2]
            split <;> rfl
