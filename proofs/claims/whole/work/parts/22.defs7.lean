/-! ===== the reference's words ===== -/
def mkS (n z : Nat) (op st ea : Int32) (g f : Nat → Int32) : Nat → Int32 := fun k => if k = 0 then nI n else if k = 1 then nI z else if k = 2 then op else if k = 3 then st else if k = 4 then ea else if k < 86 then g (k - 5) else f (k - 86)
theorem mkS_f {n z : Nat} {op st ea : Int32} {g f : Nat → Int32} {k : Nat} : mkS n z op st ea g f (86 + k) = f k := by
  simp only [mkS]
  rw [if_neg (by omega), if_neg (by omega), if_neg (by omega), if_neg (by omega), if_neg (by omega), if_neg (by omega), Nat.add_sub_cancel_left]
theorem mkS_g {n z : Nat} {op st ea : Int32} {g f : Nat → Int32} {k : Nat} (h : k < 81) : mkS n z op st ea g f (5 + k) = g k := by
  simp only [mkS]
  rw [if_neg (by omega), if_neg (by omega), if_neg (by omega), if_neg (by omega), if_neg (by omega), if_pos (by omega), Nat.add_sub_cancel_left]
theorem mkS_g2 {n z : Nat} {op st ea : Int32} {g f : Nat → Int32} {a b : Nat} (ha : a < 9) (hb : b < 9) : mkS n z op st ea g f (5 + 9 * a + b) = g (9 * a + b) := by
  rw [Nat.add_assoc, mkS_g (by omega)]
theorem mkS_un (n z n2 : Nat) (op st ea : Int32) (g f : Nat → Int32) (j : Nat) : upd (mkS n z op st ea g f) 0 (nI n2) j = mkS n2 z op st ea g f j := by
  simp only [upd, mkS]
  by_cases h : j = 0
  · rw [if_pos h, if_pos h]
  · rw [if_neg h, if_neg h, if_neg h]
theorem mkS_uz (n z z2 : Nat) (op st ea : Int32) (g f : Nat → Int32) (j : Nat) : upd (mkS n z op st ea g f) 1 (nI z2) j = mkS n z2 op st ea g f j := by
  simp only [upd, mkS]
  by_cases h : j = 1
  · subst h; rfl
  · rw [if_neg h, if_neg h, if_neg h]
theorem mkS_uo (n z : Nat) (op st ea v : Int32) (g f : Nat → Int32) (j : Nat) : upd (mkS n z op st ea g f) 2 v j = mkS n z v st ea g f j := by
  simp only [upd, mkS]
  by_cases h : j = 2
  · subst h; rfl
  · rw [if_neg h, if_neg h, if_neg h]
theorem mkS_us (n z : Nat) (op st ea v : Int32) (g f : Nat → Int32) (j : Nat) : upd (mkS n z op st ea g f) 3 v j = mkS n z op v ea g f j := by
  simp only [upd, mkS]
  by_cases h : j = 3
  · subst h; rfl
  · rw [if_neg h, if_neg h, if_neg h]
theorem mkS_ue (n z : Nat) (op st ea v : Int32) (g f : Nat → Int32) (j : Nat) : upd (mkS n z op st ea g f) 4 v j = mkS n z op st v g f j := by
  simp only [upd, mkS]
  by_cases h : j = 4
  · subst h; rfl
  · rw [if_neg h, if_neg h, if_neg h]
theorem mkS_ug (n z : Nat) (op st ea x : Int32) (g f : Nat → Int32) {k : Nat} (hk : k < 81) (j : Nat) : upd (mkS n z op st ea g f) (5 + k) x j = mkS n z op st ea (upd g k x) f j := by
  simp only [upd, mkS]
  by_cases h : j = 5 + k
  · subst h
    rw [if_pos rfl, if_neg (by omega), if_neg (by omega), if_neg (by omega), if_neg (by omega), if_neg (by omega), if_pos (by omega), Nat.add_sub_cancel_left, if_pos rfl]
  · rw [if_neg h]
    by_cases h2 : j - 5 = k
    · by_cases h3 : j < 5
      · have e : j = 0 ∨ j = 1 ∨ j = 2 ∨ j = 3 ∨ j = 4 := by omega
        rcases e with rfl | rfl | rfl | rfl | rfl <;> rfl
      · omega
    · rw [if_neg h2]
theorem mkS_uf (n z : Nat) (op st ea x : Int32) (g f : Nat → Int32) {k : Nat} (j : Nat) : upd (mkS n z op st ea g f) (86 + k) x j = mkS n z op st ea g (upd f k x) j := by
  simp only [upd, mkS]
  by_cases h : j = 86 + k
  · subst h
    rw [if_pos rfl, if_neg (by omega), if_neg (by omega), if_neg (by omega), if_neg (by omega), if_neg (by omega), if_neg (by omega), Nat.add_sub_cancel_left, if_pos rfl]
  · rw [if_neg h]
    by_cases h2 : j - 86 = k
    · by_cases h3 : j < 86
      · by_cases e0 : j = 0
        · subst e0; rfl
        by_cases e1 : j = 1
        · subst e1; rfl
        by_cases e2 : j = 2
        · subst e2; rfl
        by_cases e3 : j = 3
        · subst e3; rfl
        by_cases e4 : j = 4
        · subst e4; rfl
        rw [if_neg e0, if_neg e1, if_neg e2, if_neg e3, if_neg e4, if_pos h3, if_neg e0, if_neg e1, if_neg e2, if_neg e3, if_neg e4, if_pos h3]
      · omega
    · rw [if_neg h2]
theorem max_le {a b : Int32} (h : a ≤ b) : b = if a < b then b else a := by
  by_cases q : a < b
  · rw [if_pos q]
  · rw [if_neg q]; exact Int32.le_antisymm (Int32.not_lt.mp q) h
theorem max_gt {a b : Int32} (h : ¬ a ≤ b) : a = if a < b then b else a := by
  rw [if_neg (fun q => h (Int32.le_of_lt q))]
def lev (k : Nat) : Nat := if k = 0 then 0 else if k ≤ 2 then 1 else if k ≤ 6 then 2 else 3
theorem lev_s' : ∀ k, k < 10 → (0 < k) → lev k = lev ((k - 1) / 2) + 1 := by decide +kernel
theorem lev_s {k : Nat} (h : k < 10) (h0 : 0 < k) : lev k = lev ((k - 1) / 2) + 1 := lev_s' k h h0
theorem lev_le (k : Nat) : lev k ≤ 3 := by unfold lev; split; omega; split; omega; split <;> omega
theorem lev_d' : ∀ n, n < 10 → (2 ≤ n) → lev (n - 1) = dpl n := by decide +kernel
/-- letters of the reference: a row of each kind -/
def LTm (T : Nat → Nat → Int32) (L : List (List Nat)) : Prop := ∀ k, k < L.length → ∀ w, w < 6 → T w k = nI (lt L k w)
def updT (T : Nat → Nat → Int32) (i : Nat) (xs : List Nat) : Nat → Nat → Int32 := fun w k => if k = i then nI (xs.getD w 0) else T w k
theorem LTm_0 (T : Nat → Nat → Int32) : LTm T [] := fun k hk => absurd hk (Nat.not_lt_zero k)
theorem LTm_send {T : Nat → Nat → Int32} {L : List (List Nat)} (h : LTm T L) (x : List Nat) : LTm (updT T L.length x) (L ++ [x]) := by
  intro k hk w hw
  rw [List.length_append] at hk
  have hk : k < L.length + 1 := hk
  by_cases e : k < L.length
  · rw [lt_app e, ← h k e w hw]
    simp only [updT]
    rw [if_neg (by omega)]
  · obtain rfl : k = L.length := by omega
    rw [lt_last]
    simp [updT]
theorem or0 (x : Int32) : x ||| nI 0 = x := by
  apply Int32.toBitVec_inj.mp
  show x.toBitVec ||| 0#32 = x.toBitVec
  simp
def sm (f : Nat → Int32) : Nat → Int32
  | 0 => nI 0
  | k + 1 => sm f k + f k
def zo (n z : Nat) (f : Nat → Int32) : Prop := ∀ m, m < 9 → ∀ p, p < 12 → (n ≤ m ∨ z ≤ p) → f (12 * m + p) = nI 0
theorem add0 (x : Int32) : x + nI 0 = x := by rw [nI_0]; exact Int32.add_zero x
theorem sm_row {n z : Nat} {f : Nat → Int32} (h : zo n z f) {m : Nat} (hm : m < 9) (hz : z ≤ 12) : ∀ k, k ≤ 12 → sm f (12 * m + k) = sr f m (sm f (12 * m)) (if m < n then min k z else 0)
  | 0, _ => by
    have : (if m < n then min 0 z else 0) = 0 := by split <;> omega
    rw [this]; rfl
  | k + 1, hk => by
    have ih := sm_row h hm hz k (by omega)
    show sm f (12 * m + k) + f (12 * m + k) = _
    by_cases hn : m < n
    · rw [if_pos hn] at ih ⊢
      by_cases hkz : k < z
      · rw [ih, show min k z = k by omega, show min (k + 1) z = k + 1 by omega]; rfl
      · rw [h m hm k (by omega) (Or.inr (by omega)), add0, ih, show min k z = z by omega, show min (k + 1) z = z by omega]
    · rw [if_neg hn] at ih ⊢
      rw [h m hm k (by omega) (Or.inl (by omega)), add0, ih]
theorem sm_all {n z : Nat} {f : Nat → Int32} (h : zo n z f) (hz : z ≤ 12) : ∀ m, m ≤ 9 → sm f (12 * m) = sa f z (min m n)
  | 0, _ => by rw [show min 0 n = 0 by omega]; rfl
  | m + 1, hm => by
    have ih := sm_all h hz m (by omega)
    have e := sm_row h (show m < 9 by omega) hz 12 (Nat.le_refl _)
    rw [show 12 * (m + 1) = 12 * m + 12 by omega, e, ih]
    by_cases hn : m < n
    · rw [if_pos hn, show min 12 z = z by omega, show min m n = m by omega, show min (m + 1) n = m + 1 by omega]; rfl
    · rw [if_neg hn, show min m n = n by omega, show min (m + 1) n = n by omega]; rfl
theorem sm108 {n z : Nat} {f : Nat → Int32} (h : zo n z f) (hn : n ≤ 9) (hz : z ≤ 12) : sm f 108 = sa f z n := by
  have := sm_all h hz 9 (Nat.le_refl _)
  rw [show 12 * 9 = 108 from rfl, show min 9 n = n by omega] at this
  exact this
theorem dfc_symm (f g : Nat → Int32) (a b : Nat) : ∀ k, dfc f g a b k = dfc g f b a k
  | 0 => rfl
  | k + 1 => by
    rw [dfc, dfc, dfc_symm f g a b k]
    by_cases h : f (12 * a + k) = g (12 * b + k)
    · rw [if_pos h, if_pos h.symm]
    · rw [if_neg h, if_neg (fun q => h q.symm)]
theorem ntd_symm (f g : Nat → Int32) (z : Nat) : ∀ n, ntd f g z n = ntd g f z n
  | 0 => rfl
  | n + 1 => by rw [ntd, ntd, ntd_symm f g z n, dfc_symm]
theorem mtd_symm (f g : Nat → Int32) (z : Nat) : ∀ n, mtd f g z n = mtd g f z n
  | 0 => rfl
  | n + 1 => by rw [mtd, mtd, mtd_symm f g z n, dfc_symm]
