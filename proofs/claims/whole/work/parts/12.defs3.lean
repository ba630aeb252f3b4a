/-! ===== the letters of the ways ===== -/
def bld (B : List (List Nat)) (f : Nat → List Nat) : Nat → List (List Nat)
  | 0 => B
  | k + 1 => bld B f k ++ [f k]
theorem bld_len (B : List (List Nat)) (f : Nat → List Nat) : ∀ k, (bld B f k).length = B.length + k
  | 0 => rfl
  | k + 1 => by rw [bld, List.length_append, bld_len B f k]; rfl
def bld2 (B : List (List Nat)) (F : Nat → Nat → List Nat) (n : Nat) : Nat → List (List Nat)
  | 0 => B
  | r + 1 => bld (bld2 B F n r) (F r) n
theorem bld2_len (B : List (List Nat)) (F : Nat → Nat → List Nat) (n : Nat) : ∀ r, (bld2 B F n r).length = B.length + r * n
  | 0 => by rw [bld2, Nat.zero_mul]; rfl
  | r + 1 => by rw [bld2, bld_len, bld2_len B F n r, Nat.succ_mul, Nat.add_assoc]
def eF1 (z k : Nat) : List Nat := [0, k + 1, 0, 0, z, 0]
def eF2 (z k : Nat) : List Nat := [1, 0, k + 1, 0, z, 2]
def LEach (n z : Nat) : List (List Nat) := bld (bld [] (eF1 z) (n - 1)) (eF2 z) (n - 1)
def pF (n z rd m q kd : Nat) : List Nat := [rd, m, (m + 1 + n - 0) % n, z * q / n, z * (q + 1) / n - z * q / n, kd]
def gF1 (n z r m : Nat) : List Nat := pF n z r m ((m + n - r) % n) 1
def gF2 (n z r m : Nat) : List Nat := pF n z (n - 1 + r) m ((m + 1 + n - r) % n) 2
def LRing (n z : Nat) : List (List Nat) := bld2 (bld2 [] (gF1 n z) n (n - 1)) (gF2 n z) n (n - 1)
/-- the tree -/
def tcn (n v : Nat) : Nat := min n (2 ^ (v + 1) - 1) - (2 ^ v - 1)
def tF1 (z rd v j : Nat) : List Nat := [rd, 2 ^ v - 1 + j, (2 ^ v - 1 + j - 1) / 2, 0, z, 0]
def tF2 (z rd v j : Nat) : List Nat := [rd, (2 ^ v - 1 + j - 1) / 2, 2 ^ v - 1 + j, 0, z, 2]
def tU (n z : Nat) : Nat → List (List Nat)
  | 0 => []
  | i + 1 => bld (tU n z i) (tF1 z i (dpl n - i)) (tcn n (dpl n - i))
def tD (n z : Nat) : Nat → List (List Nat)
  | 0 => tU n z (dpl n)
  | i + 1 => bld (tD n z i) (tF2 z (dpl n + i) (i + 1)) (tcn n (i + 1))
def LTree (n z : Nat) : List (List Nat) := tD n z (dpl n)
/-- the halves -/
def nlo (lo sp : Nat → Nat) (d m : Nat) : Nat := if m &&& d = 0 then lo m else lo m + sp m / 2
def nsp (sp : Nat → Nat) (d m : Nat) : Nat := if m &&& d = 0 then sp m / 2 else sp m - sp m / 2
def hF (rd : Nat) (lo sp : Nat → Nat) (d m : Nat) : List Nat := if m &&& d = 0 then [rd, m, m ^^^ d, lo m + sp m / 2, sp m - sp m / 2, 1] else [rd, m, m ^^^ d, lo m, sp m / 2, 0]
def dlo (lo : Nat → Nat) (d m : Nat) : Nat := lo (m - (m &&& d))
def dsp (sp : Nat → Nat) (d m : Nat) : Nat := sp m + sp (m ^^^ d)
def dF (rd : Nat) (lo sp : Nat → Nat) (d m : Nat) : List Nat := [rd, m, m ^^^ d, lo m, sp m, 2]
def lg2 (P : Nat) : Nat := if P = 8 then 3 else if P = 4 then 2 else 1
def hlo (P z : Nat) : Nat → (Nat → Nat) × (Nat → Nat)
  | 0 => (fun _ => 0, fun _ => z)
  | i + 1 => (nlo (hlo P z i).1 (hlo P z i).2 (P / 2 ^ (i + 1)), nsp (hlo P z i).2 (P / 2 ^ (i + 1)))
def hup (P z : Nat) : Nat → (Nat → Nat) × (Nat → Nat)
  | 0 => hlo P z (lg2 P)
  | i + 1 => (dlo (hup P z i).1 (2 ^ i), dsp (hup P z i).2 (2 ^ i))
def rd0 (n : Nat) : Nat := if gp2 n < n then 1 else 0
def xF1 (P z j : Nat) : List Nat := [0, P + j, j, 0, z, 0]
def xF2 (rd P z j : Nat) : List Nat := [rd, j, j + P, 0, z, 2]
def hA0 (n z : Nat) : List (List Nat) := bld [] (xF1 (gp2 n) z) (n - gp2 n)
def hA1 (n z : Nat) : Nat → List (List Nat)
  | 0 => hA0 n z
  | i + 1 => bld (hA1 n z i) (hF (rd0 n + i) (hlo (gp2 n) z i).1 (hlo (gp2 n) z i).2 (gp2 n / 2 ^ (i + 1))) (gp2 n)
def hA2 (n z : Nat) : Nat → List (List Nat)
  | 0 => hA1 n z (lg2 (gp2 n))
  | i + 1 => bld (hA2 n z i) (dF (rd0 n + lg2 (gp2 n) + i) (hup (gp2 n) z i).1 (hup (gp2 n) z i).2 (2 ^ i)) (gp2 n)
def LHalf (n z : Nat) : List (List Nat) := bld (hA2 n z (lg2 (gp2 n))) (xF2 (rd0 n + lg2 (gp2 n) + lg2 (gp2 n)) (gp2 n) z) (n - gp2 n)
def lLs (w n z : Nat) : List (List Nat) := if w = 0 then LRing n z else if w = 1 then LHalf n z else if w = 2 then LTree n z else LEach n z
def lRd (w n : Nat) : Nat := if w = 0 then n - 1 + (n - 1) else if w = 1 then rd0 n + lg2 (gp2 n) + lg2 (gp2 n) + rd0 n else if w = 2 then dpl n + dpl n else 2
/-- steps through a row -/
def stp (f g : Nat → Nat) (i : Nat) : Nat → Nat := fun m => if m < i then f m else g m
theorem stp_at (f g : Nat → Nat) (i : Nat) : stp f g i i = g i := by simp [stp]
theorem stp_0 (f g : Nat → Nat) (m : Nat) : g m = stp f g 0 m := by simp [stp]
theorem stp_upd {f g sf : Nat → Nat} {P i x : Nat} (h : ∀ m, m < P → sf m = stp f g i m) (hx : f i = x) : ∀ m, m < P → updN sf i x m = stp f g (i + 1) m := by
  intro m hm
  simp only [updN, stp]
  by_cases e : m = i
  · subst e; rw [if_pos rfl, if_pos (by omega), hx]
  · rw [if_neg e, h m hm]
    simp only [stp]
    by_cases q : m < i
    · rw [if_pos q, if_pos (by omega)]
    · rw [if_neg q, if_neg (by omega)]
theorem stp_same {f g sf : Nat → Nat} {P i : Nat} (h : ∀ m, m < P → sf m = stp f g i m) (hx : f i = g i) : ∀ m, m < P → sf m = stp f g (i + 1) m := by
  intro m hm
  rw [h m hm]
  simp only [stp]
  by_cases e : m = i
  · subst e; rw [if_neg (by omega), if_pos (by omega), hx]
  · by_cases q : m < i
    · rw [if_pos q, if_pos (by omega)]
    · rw [if_neg q, if_neg (by omega)]
theorem stp_e {f g sf : Nat → Nat} {P i : Nat} (h : ∀ m, m < P → sf m = stp f g i m) (hi : P ≤ i) : ∀ m, m < P → sf m = f m := by
  intro m hm
  rw [h m hm]
  simp only [stp]
  rw [if_pos (by omega)]
def dd (d : Nat) : Prop := d = 1 ∨ d = 2 ∨ d = 4
theorem xa1' : ∀ m, m < 9 → ∀ d, d < 5 → ((d = 1 ∨ d = 2 ∨ d = 4) ∧ m &&& d = 0) → m + d = m ^^^ d := by decide +kernel
theorem xa2' : ∀ m, m < 9 → ∀ d, d < 5 → ((d = 1 ∨ d = 2 ∨ d = 4) ∧ ¬ m &&& d = 0) → d ≤ m ∧ m - d = m ^^^ d ∧ m &&& d = d := by decide +kernel
theorem xa1 {m d : Nat} (hm : m < 9) (hd : dd d) (h : m &&& d = 0) : m + d = m ^^^ d := xa1' m hm d (by rcases hd with rfl | rfl | rfl <;> decide) ⟨hd, h⟩
theorem xa2 {m d : Nat} (hm : m < 9) (hd : dd d) (h : ¬ m &&& d = 0) : d ≤ m ∧ m - d = m ^^^ d ∧ m &&& d = d := xa2' m hm d (by rcases hd with rfl | rfl | rfl <;> decide) ⟨hd, h⟩
theorem dd_le {d : Nat} (h : dd d) : 1 ≤ d ∧ d ≤ 4 := by rcases h with rfl | rfl | rfl <;> decide
/-- the pairs of a doubling that are done -/
def prd (d i j : Nat) : Bool := if j &&& d = 0 then decide (j < i) else decide (j - d < i)
theorem prd1B : ((List.range 9).all fun i => (List.range 9).all fun j => ([1, 2, 4] : List Nat).all fun d => (i &&& d == 0) || (prd d (i + 1) j == prd d i j)) = true := by decide +kernel
theorem prd2B : ((List.range 9).all fun i => (List.range 9).all fun j => ([1, 2, 4] : List Nat).all fun d => !(i &&& d == 0) || (j == i || (j == i + d || (prd d (i + 1) j == prd d i j)))) = true := by decide +kernel
theorem dd_mem {d : Nat} (h : dd d) : d ∈ ([1, 2, 4] : List Nat) := by rcases h with rfl | rfl | rfl <;> decide
theorem prd1 {i j d : Nat} (hi : i < 9) (hj : j < 9) (hd : dd d) (h : ¬ i &&& d = 0) : prd d (i + 1) j = prd d i j := by
  have := List.all_eq_true.mp (List.all_eq_true.mp (List.all_eq_true.mp prd1B i (List.mem_range.mpr hi)) j (List.mem_range.mpr hj)) d (dd_mem hd)
  simpa [h] using this
theorem prd2 {i j d : Nat} (hi : i < 9) (hj : j < 9) (hd : dd d) (h : i &&& d = 0) (h1 : j ≠ i) (h2 : j ≠ i + d) : prd d (i + 1) j = prd d i j := by
  have := List.all_eq_true.mp (List.all_eq_true.mp (List.all_eq_true.mp prd2B i (List.mem_range.mpr hi)) j (List.mem_range.mpr hj)) d (dd_mem hd)
  simpa [h, h1, h2] using this
theorem prd3' : ∀ i, i < 9 → ∀ d, d < 5 → ((d = 1 ∨ d = 2 ∨ d = 4) ∧ i &&& d = 0) → (¬ (i + d) &&& d = 0 ∧ (i + d) - ((i + d) &&& d) = i ∧ (i + d) ^^^ d = i) := by decide +kernel
theorem dpl_le (n : Nat) : dpl n ≤ 3 := by unfold dpl; split; omega; split; omega; split <;> omega
theorem p2ge {v : Nat} (h : 1 ≤ v) : 2 ≤ 2 ^ v := by
  have := Nat.pow_le_pow_right (n := 2) (by decide) h
  simpa using this
theorem tcn_le (n v : Nat) : tcn n v ≤ n := by unfold tcn; omega
theorem tU_len {n z : Nat} (h : n ≤ 9) : ∀ i, (tU n z i).length ≤ i * 9
  | 0 => Nat.zero_le _
  | i + 1 => by
    have h1 := tU_len (z := z) h i
    have h2 := tcn_le n (dpl n - i)
    rw [tU, bld_len, Nat.succ_mul]
    omega
theorem tD_len {n z : Nat} (h : n ≤ 9) : ∀ i, (tD n z i).length ≤ (3 + i) * 9
  | 0 => by
    have h1 := tU_len (z := z) h (dpl n)
    have h2 := dpl_le n
    rw [tD]; omega
  | i + 1 => by
    have h1 := tD_len (z := z) h i
    have h2 := tcn_le n (i + 1)
    rw [tD, bld_len]
    omega
theorem gp2_or (n : Nat) : gp2 n = 2 ∨ gp2 n = 4 ∨ gp2 n = 8 := by unfold gp2; split; omega; split <;> omega
theorem gp2_le {n : Nat} (h : 2 ≤ n) : gp2 n ≤ n := by unfold gp2; split; omega; split <;> omega
theorem lg2_le (P : Nat) : lg2 P ≤ 3 := by unfold lg2; split; omega; split <;> omega
theorem hdx : (([2, 4, 8] : List Nat).all fun P => (List.range 4).all fun i => !(decide (i ≤ lg2 P)) || ((decide (P / 2 ^ (i + 1) < 1) && decide (i = lg2 P)) || (decide (1 ≤ P / 2 ^ (i + 1)) && (decide (i < lg2 P) && (decide (P / 2 ^ (i + 1) = 1) || (decide (P / 2 ^ (i + 1) = 2) || decide (P / 2 ^ (i + 1) = 4))))))) = true := by decide +kernel
theorem upx : (([2, 4, 8] : List Nat).all fun P => (List.range 4).all fun i => !(decide (i ≤ lg2 P)) || ((decide (P ≤ 2 ^ i) && decide (i = lg2 P)) || (decide (2 ^ i < P) && (decide (i < lg2 P) && (decide (2 ^ i = 1) || (decide (2 ^ i = 2) || decide (2 ^ i = 4))))))) = true := by decide +kernel
theorem pmem {P : Nat} (h : P = 2 ∨ P = 4 ∨ P = 8) : P ∈ ([2, 4, 8] : List Nat) := by rcases h with rfl | rfl | rfl <;> decide
theorem hd_two {P i : Nat} (hP : P = 2 ∨ P = 4 ∨ P = 8) (hi : i ≤ lg2 P) : (P / 2 ^ (i + 1) < 1 ∧ i = lg2 P) ∨ (1 ≤ P / 2 ^ (i + 1) ∧ i < lg2 P ∧ dd (P / 2 ^ (i + 1))) := by
  have := List.all_eq_true.mp (List.all_eq_true.mp hdx P (pmem hP)) i (List.mem_range.mpr (Nat.lt_of_le_of_lt hi (Nat.lt_succ_of_le (lg2_le P))))
  simp only [hi, decide_true, Bool.not_true, Bool.false_or, Bool.or_eq_true, Bool.and_eq_true, decide_eq_true_eq] at this
  exact this
theorem up_two {P i : Nat} (hP : P = 2 ∨ P = 4 ∨ P = 8) (hi : i ≤ lg2 P) : (P ≤ 2 ^ i ∧ i = lg2 P) ∨ (2 ^ i < P ∧ i < lg2 P ∧ dd (2 ^ i)) := by
  have := List.all_eq_true.mp (List.all_eq_true.mp upx P (pmem hP)) i (List.mem_range.mpr (Nat.lt_of_le_of_lt hi (Nat.lt_succ_of_le (lg2_le P))))
  simp only [hi, decide_true, Bool.not_true, Bool.false_or, Bool.or_eq_true, Bool.and_eq_true, decide_eq_true_eq] at this
  exact this
theorem hd_ex {P i : Nat} (hP : P = 2 ∨ P = 4 ∨ P = 8) (hi : i ≤ lg2 P) (h : P / 2 ^ (i + 1) < 1) : i = lg2 P := by
  rcases hd_two hP hi with q | q
  · exact q.2
  · omega
theorem hd_in {P i : Nat} (hP : P = 2 ∨ P = 4 ∨ P = 8) (hi : i ≤ lg2 P) (h : 1 ≤ P / 2 ^ (i + 1)) : i < lg2 P ∧ dd (P / 2 ^ (i + 1)) := by
  rcases hd_two hP hi with q | q
  · omega
  · exact q.2
theorem up_ex {P i : Nat} (hP : P = 2 ∨ P = 4 ∨ P = 8) (hi : i ≤ lg2 P) (h : P ≤ 2 ^ i) : i = lg2 P := by
  rcases up_two hP hi with q | q
  · exact q.2
  · omega
theorem up_in {P i : Nat} (hP : P = 2 ∨ P = 4 ∨ P = 8) (hi : i ≤ lg2 P) (h : 2 ^ i < P) : i < lg2 P ∧ dd (2 ^ i) := by
  rcases up_two hP hi with q | q
  · omega
  · exact q.2
theorem nsp_le (sp : Nat → Nat) (d m : Nat) : nsp sp d m ≤ sp m := by unfold nsp; split <;> omega
theorem hlo_le (P z : Nat) : ∀ i m, (hlo P z i).2 m ≤ z
  | 0, _ => Nat.le_refl _
  | i + 1, m => Nat.le_trans (nsp_le _ _ m) (hlo_le P z i m)
theorem hA1_len (n z : Nat) : ∀ i, (hA1 n z i).length = (n - gp2 n) + i * gp2 n
  | 0 => by rw [hA1, hA0, bld_len, Nat.zero_mul]; show 0 + _ = _; omega
  | i + 1 => by rw [hA1, bld_len, hA1_len n z i, Nat.succ_mul, Nat.add_assoc]
theorem hA2_len (n z : Nat) : ∀ i, (hA2 n z i).length = (n - gp2 n) + (lg2 (gp2 n) + i) * gp2 n
  | 0 => by rw [hA2, hA1_len]; rfl
  | i + 1 => by rw [hA2, bld_len, hA2_len n z i, ← Nat.add_assoc (lg2 (gp2 n)), Nat.succ_mul, Nat.add_assoc]
/-- rows in the middle of a doubling -/
def dmid (f g : Nat → Nat) (d i : Nat) : Nat → Nat := fun j => if prd d i j then f j else g j
theorem prd3 {i d : Nat} (hi : i < 9) (hd : dd d) (h : i &&& d = 0) : ¬ (i + d) &&& d = 0 ∧ (i + d) - ((i + d) &&& d) = i ∧ (i + d) ^^^ d = i := prd3' i hi d (by rcases hd with rfl | rfl | rfl <;> decide) ⟨hd, h⟩
theorem dmid_0 (f g : Nat → Nat) (d j : Nat) : g j = dmid f g d 0 j := by
  have : prd d 0 j = false := by unfold prd; split <;> simp
  simp [dmid, this]
theorem dmid_skip {f g sf : Nat → Nat} {P d i : Nat} (hP : P ≤ 8) (hi : i < 9) (hd : dd d) (h0 : ¬ i &&& d = 0) (h : ∀ m, m < P → sf m = dmid f g d i m) : ∀ m, m < P → sf m = dmid f g d (i + 1) m := by
  intro m hm
  rw [h m hm]
  simp only [dmid]
  rw [prd1 hi (by omega) hd h0]
theorem prd_at {i d : Nat} (hi : i < 9) (hd : dd d) (h0 : i &&& d = 0) : prd d i i = false ∧ prd d i (i + d) = false ∧ prd d (i + 1) i = true ∧ prd d (i + 1) (i + d) = true := by
  have h3 := (prd3 hi hd h0).1
  unfold prd
  rw [if_pos h0, if_pos h0, if_neg h3, if_neg h3]
  simp
/-- one pair of a doubling: the length row -/
theorem dmid_len {sp sf : Nat → Nat} {P d i : Nat} (hP : P ≤ 8) (hi : i + d < P) (hd : dd d) (h0 : i &&& d = 0) (h : ∀ m, m < P → sf m = dmid (dsp sp d) sp d i m) : ∀ m, m < P → updN (updN sf i (sf i + sf (i + d))) (i + d) (updN sf i (sf i + sf (i + d)) i) m = dmid (dsp sp d) sp d (i + 1) m := by
  intro m hm
  have hd1 := dd_le hd
  obtain ⟨a1, a2, a3, a4⟩ := prd_at (show i < 9 by omega) hd h0
  obtain ⟨b1, b2, b3⟩ := prd3 (show i < 9 by omega) hd h0
  have e1 : sf i = sp i := by rw [h i (by omega)]; simp [dmid, a1]
  have e2 : sf (i + d) = sp (i + d) := by rw [h (i + d) hi]; simp [dmid, a2]
  have ex := xa1 (show i < 9 by omega) hd h0
  simp only [updN, dmid]
  by_cases q : m = i + d
  · subst q
    rw [if_pos rfl, if_pos trivial, if_pos a4, dsp, b3, e1, e2]
    omega
  · rw [if_neg q]
    by_cases q2 : m = i
    · subst q2
      rw [if_pos rfl, if_pos a3, dsp, ← ex, e1, e2]
    · rw [if_neg q2, h m hm, prd2 (show i < 9 by omega) (show m < 9 by omega) hd h0 q2 q]
      rfl
theorem dmid_lo {lo sf : Nat → Nat} {P d i : Nat} (hP : P ≤ 8) (hi : i + d < P) (hd : dd d) (h0 : i &&& d = 0) (h : ∀ m, m < P → sf m = dmid (dlo lo d) lo d i m) : ∀ m, m < P → updN sf (i + d) (sf i) m = dmid (dlo lo d) lo d (i + 1) m := by
  intro m hm
  have hd1 := dd_le hd
  obtain ⟨a1, a2, a3, a4⟩ := prd_at (show i < 9 by omega) hd h0
  obtain ⟨b1, b2, b3⟩ := prd3 (show i < 9 by omega) hd h0
  have e1 : sf i = lo i := by rw [h i (by omega)]; simp [dmid, a1]
  simp only [updN, dmid]
  by_cases q : m = i + d
  · subst q
    rw [if_pos rfl, if_pos a4, dlo, b2, e1]
  · rw [if_neg q]
    by_cases q2 : m = i
    · subst q2
      rw [if_pos a3, dlo, h0, e1]
      rfl
    · rw [h m hm, prd2 (show i < 9 by omega) (show m < 9 by omega) hd h0 q2 q]
      rfl
theorem prd_end : (([2, 4, 8] : List Nat).all fun P => ([1, 2, 4] : List Nat).all fun d => (List.range 9).all fun i => (List.range 8).all fun j => !(decide (P ≤ i + d)) || (!(decide (j < P)) || (!(decide (d < P)) || prd d i j))) = true := by decide +kernel
theorem dmid_e {f g sf : Nat → Nat} {P d i : Nat} (hP : P = 2 ∨ P = 4 ∨ P = 8) (hdP : d < P) (hi9 : i < 9) (hi : P ≤ i + d) (hd : dd d) (h : ∀ m, m < P → sf m = dmid f g d i m) : ∀ m, m < P → sf m = f m := by
  intro m hm
  have h8 : P ≤ 8 := by omega
  have := List.all_eq_true.mp (List.all_eq_true.mp (List.all_eq_true.mp (List.all_eq_true.mp prd_end P (pmem hP)) d (dd_mem hd)) i (List.mem_range.mpr hi9)) m (List.mem_range.mpr (by omega))
  have e : prd d i m = true := by simpa [hi, hm, hdP] using this
  rw [h m hm]
  simp [dmid, e]
