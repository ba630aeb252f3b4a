/-! ===== the reference's letters ===== -/
theorem pr1' : ∀ n, n < 10 → ∀ a, a < 10 → ∀ b, b < 10 → (a ≤ n ∧ b < n) → ((nI a - nI b) - (nI a - nI b) / nI n * nI n + nI n) - ((nI a - nI b) - (nI a - nI b) / nI n * nI n + nI n) / nI n * nI n = nI ((a + n - b) % n) := by decide +kernel
theorem pr1 {n a b : Nat} (hn : n ≤ 9) (ha : a ≤ n) (hb : b < n) : ((nI a - nI b) - (nI a - nI b) / nI n * nI n + nI n) - ((nI a - nI b) - (nI a - nI b) / nI n * nI n + nI n) / nI n * nI n = nI ((a + n - b) % n) := pr1' n (by omega) a (by omega) b (by omega) ⟨ha, hb⟩
def mrg (q c : Nat → Int32) (i : Nat) : Nat → Int32 := fun j => if j < i then q j else c j
theorem mrg_0 (q c : Nat → Int32) (j : Nat) : c j = mrg q c 0 j := by simp [mrg]
theorem mrg_s (q c : Nat → Int32) (i j : Nat) : upd (mrg q c i) i (q i) j = mrg q c (i + 1) j := by
  simp only [upd, mrg]
  by_cases h : j = i
  · subst h; rw [if_pos rfl, if_pos (by omega)]
  · rw [if_neg h]
    by_cases h2 : j < i
    · rw [if_pos h2, if_pos (by omega)]
    · rw [if_neg h2, if_neg (by omega)]
theorem mrg_e {q c : Nat → Int32} {i j : Nat} (h : j < i) : mrg q c i j = q j := by simp [mrg, h]
theorem upd_in {q : Nat → Int32} {f : Nat → Nat} {i x : Nat} (h : ∀ m, m < i → q m = nI (f m)) (hx : f i = x) : ∀ m, m < i + 1 → upd q i (nI x) m = nI (f m) := by
  intro m hm
  simp only [upd]
  by_cases e : m = i
  · subst e; rw [if_pos rfl, hx]
  · rw [if_neg e, h m (by omega)]
theorem upd_inZ {q : Nat → Int32} {f : Nat → Nat} {i : Nat} {x : Int32} (h : ∀ m, m < i → q m = nI (f m)) (hx : nI (f i) = x) : ∀ m, m < i + 1 → upd q i x m = nI (f m) := by
  intro m hm
  simp only [upd]
  by_cases e : m = i
  · subst e; rw [if_pos rfl, hx]
  · rw [if_neg e, h m (by omega)]
theorem an_not' : ∀ i, i < 9 → ∀ d, d < 5 → nI i &&& (nI d ^^^ (-1)) = nI (i - (i &&& d)) := by decide +kernel
theorem xlt' : (([2, 4, 8] : List Nat).all fun P => ([1, 2, 4] : List Nat).all fun d => (List.range 8).all fun i => !(decide (i < P)) || (!(decide (d < P)) || decide (i ^^^ d < P))) = true := by decide +kernel
theorem xlt {P d i : Nat} (hP : P = 2 ∨ P = 4 ∨ P = 8) (hd : dd d) (hdP : d < P) (hi : i < P) : i ^^^ d < P := by
  have := List.all_eq_true.mp (List.all_eq_true.mp (List.all_eq_true.mp xlt' P (pmem hP)) d (dd_mem hd)) i (List.mem_range.mpr (by omega))
  simpa [hi, hdP] using this
def bldF (B : List (List Nat)) (v : Nat) (f : Nat → List Nat) : Nat → List (List Nat)
  | 0 => B
  | k + 1 => if lev (k + 1) = v then bldF B v f k ++ [f k] else bldF B v f k
theorem bldF_len (B : List (List Nat)) (v : Nat) (f : Nat → List Nat) : ∀ k, (bldF B v f k).length ≤ B.length + k
  | 0 => Nat.le_refl _
  | k + 1 => by
    have := bldF_len B v f k
    unfold bldF
    split
    · rw [List.length_append]; show _ + 1 ≤ _; omega
    · omega
def uF1 (z rd j : Nat) : List Nat := [rd, j + 1, (j + 1 - 1) / 2, 0, z, 0]
def uF2 (z rd j : Nat) : List Nat := [rd, (j + 1 - 1) / 2, j + 1, 0, z, 2]
set_option maxRecDepth 20000 in
theorem tree_u {B : List (List Nat)} {n z rd v : Nat} (hn : 2 ≤ n) (hn9 : n ≤ 9) (hv : 1 ≤ v) (hv3 : v ≤ 3) : bldF B v (uF1 z rd) (n - 1) = bld B (tF1 z rd v) (tcn n v) := by
  rcases (show v = 1 ∨ v = 2 ∨ v = 3 by omega) with rfl | rfl | rfl <;> rcases (show n = 2 ∨ n = 3 ∨ n = 4 ∨ n = 5 ∨ n = 6 ∨ n = 7 ∨ n = 8 ∨ n = 9 by omega) with rfl | rfl | rfl | rfl | rfl | rfl | rfl | rfl <;> rfl
set_option maxRecDepth 20000 in
theorem tree_d {B : List (List Nat)} {n z rd v : Nat} (hn : 2 ≤ n) (hn9 : n ≤ 9) (hv : 1 ≤ v) (hv3 : v ≤ 3) : bldF B v (uF2 z rd) (n - 1) = bld B (tF2 z rd v) (tcn n v) := by
  rcases (show v = 1 ∨ v = 2 ∨ v = 3 by omega) with rfl | rfl | rfl <;> rcases (show n = 2 ∨ n = 3 ∨ n = 4 ∨ n = 5 ∨ n = 6 ∨ n = 7 ∨ n = 8 ∨ n = 9 by omega) with rfl | rfl | rfl | rfl | rfl | rfl | rfl | rfl <;> rfl
