/-! ===== pure words of the class and the reference ===== -/
def inB (v lo hi : Int32) : Bool := decide (lo ≤ v) && decide (v ≤ hi)
theorem inB_t {v lo hi : Int32} (h1 : ¬ v < lo) (h2 : ¬ hi < v) : nI 1 = b2i (inB v lo hi) := by
  have e1 : lo ≤ v := Int32.not_lt.mp h1
  have e2 : v ≤ hi := Int32.not_lt.mp h2
  simp [inB, e1, e2, b2i]; rfl
theorem inB_f1 {v lo hi : Int32} (h1 : v < lo) : nI 0 = b2i (inB v lo hi) := by
  have e1 : ¬ lo ≤ v := Int32.not_le.mpr h1
  simp [inB, e1, b2i]; rfl
theorem inB_f2 {v lo hi : Int32} (h1 : hi < v) : nI 0 = b2i (inB v lo hi) := by
  have e1 : ¬ v ≤ hi := Int32.not_le.mpr h1
  simp [inB, e1, b2i]; rfl
theorem inB_tt {a b c : Nat} (h1 : b ≤ a) (h2 : a ≤ c) (h3 : c < 2 ^ 31) : inB (nI a) (nI b) (nI c) = true := by
  simp [inB, nI_le h1 (by omega), nI_le h2 h3]
theorem inB_of {v : Int32} {c : Nat} (h3 : c < 2 ^ 31) (h : inB v (nI 0) (nI c) = true) : ∃ a : Nat, a ≤ c ∧ v = nI a := by
  simp only [inB, Bool.and_eq_true, decide_eq_true_eq] at h
  have h0 : ¬ v < 0 := Int32.not_lt.mpr (by have := h.1; rw [nI_0] at this; exact this)
  exact nI_of2 (n := c) (nI_toInt h3) h0 h.2
def hasB (k : Int32) (w : Nat) : Bool := decide (0 ≤ k) && decide (k < nI w)
theorem hasB_N {k w : Nat} (hk : k < w) (hw : w < 2 ^ 31) : hasB (nI k) w = true := by
  simp [hasB, nI_pos' (Nat.lt_trans hk hw), nI_lt hk hw]
theorem hasB_of {v : Int32} {w : Nat} (hw : w < 2 ^ 31) (h : hasB v w = true) : ∃ k : Nat, k < w ∧ v = nI k := by
  simp only [hasB, Bool.and_eq_true, decide_eq_true_eq] at h
  obtain ⟨j, hj, rfl⟩ := nI_of (Int32.not_lt.mpr h.1)
  exact ⟨j, (nI_ltI hj hw).mp h.2, rfl⟩
theorem hasB_in {v : Int32} {w : Nat} (h1 : 1 ≤ w) (hw : w < 2 ^ 31) : hasB v w = inB v (nI 0) (nI (w - 1)) := by
  rw [Bool.eq_iff_iff]
  simp only [hasB, inB, Bool.and_eq_true, decide_eq_true_eq, nI_0]
  constructor
  · rintro ⟨a, b⟩
    obtain ⟨j, hj, rfl⟩ := nI_of (Int32.not_lt.mpr a)
    have := (nI_ltI hj hw).mp b
    exact ⟨a, nI_le (by omega) (by omega)⟩
  · rintro ⟨a, b⟩
    obtain ⟨j, hj, rfl⟩ := nI_of (Int32.not_lt.mpr a)
    have := (nI_leI hj (by omega)).mp b
    exact ⟨a, nI_lt (by omega) hw⟩
/-- a with b mixed -/
def mix (op a b : Int32) : Int32 := if op = 0 then (a + b) - (a + b) / nI 997 * nI 997 else if op = nI 1 then (if a < b then b else a) else (nI 31 * a + b) - (nI 31 * a + b) / nI 997 * nI 997
/-- how many of the first k places differ -/
def dfc (f g : Nat → Int32) (a b : Nat) : Nat → Nat
  | 0 => 0
  | k + 1 => dfc f g a b k + if f (12 * a + k) = g (12 * b + k) then 0 else 1
theorem dfc_le (f g : Nat → Int32) (a b : Nat) : ∀ k, dfc f g a b k ≤ k
  | 0 => Nat.le_refl _
  | k + 1 => by
    have := dfc_le f g a b k
    unfold dfc
    split <;> omega
/-- all numbers at a place, mixed by rising machines -/
def mbr (op : Int32) (f : Nat → Int32) (p : Nat) : Nat → Int32
  | 0 => f p
  | k + 1 => mix op (mbr op f p k) (f (12 * (k + 1) + p))
/-- letters: rows of six numbers -/
def lt (L : List (List Nat)) (k w : Nat) : Nat := (L.getD k []).getD w 0
def LTc (tb : Nat → Int32) (L : List (List Nat)) : Prop := ∀ k, k < L.length → ∀ w, w < 6 → tb (6 * k + w) = nI (lt L k w)
def prc (st ea : Int32) (g : Nat → Int32) (L : List (List Nat)) (k : Nat) : Int32 := (st + ea * nI (lt L k 4)) * g (9 * lt L k 1 + lt L k 2)
/-- letters that fit n machines and z places, R rounds, in order -/
def WFL (L : List (List Nat)) (R n z : Nat) : Prop := L.length ≤ 144 ∧ ∀ k, k < L.length → lt L k 0 < R ∧ lt L k 1 < n ∧ lt L k 2 < n ∧ lt L k 3 + lt L k 4 ≤ z ∧ lt L k 5 ≤ 2
def sr (f : Nat → Int32) (m : Nat) (s : Int32) : Nat → Int32
  | 0 => s
  | k + 1 => sr f m s k + f (12 * m + k)
def sa (f : Nat → Int32) (z : Nat) : Nat → Int32
  | 0 => nI 0
  | m + 1 => sr f m (sa f z m) z
def sl (L : List (List Nat)) : Nat → Nat
  | 0 => 0
  | k + 1 => sl L k + lt L k 4
theorem hasB_1 {k : Int32} {w : Nat} (h1 : ¬ k < 0) (h2 : ¬ nI w ≤ k) : nI 1 = b2i (hasB k w) := by
  have e1 : 0 ≤ k := Int32.not_lt.mp h1
  have e2 : k < nI w := Int32.not_le.mp h2
  simp [hasB, e1, e2, b2i]; rfl
theorem hasB_2 {k : Int32} {w : Nat} (h1 : k < 0) : nI 0 = b2i (hasB k w) := by
  have e1 : ¬ 0 ≤ k := Int32.not_le.mpr h1
  simp [hasB, e1, b2i]; rfl
theorem hasB_3 {k : Int32} {w : Nat} (h2 : nI w ≤ k) : nI 0 = b2i (hasB k w) := by
  have e2 : ¬ k < nI w := Int32.not_lt.mpr h2
  simp [hasB, e2, b2i]; rfl
def brB (L : List (List Nat)) (k q : Nat) : Bool := decide (lt L k 3 ≤ q) && decide (q < lt L k 3 + lt L k 4)
theorem ar1' : ∀ n, n < 10 → ∀ a, a < 10 → ∀ b, b < 10 → (a ≤ n ∧ b < n ∧ ¬ 0 ≤ nI a - nI b) → nI a - nI b + nI n = nI ((a + n - b) % n) := by decide +kernel
theorem ar2' : ∀ n, n < 10 → ∀ a, a < 10 → ∀ b, b < 10 → (a ≤ n ∧ b < n ∧ 0 ≤ nI a - nI b ∧ ¬ nI a - nI b < nI n) → nI a - nI b - nI n = nI ((a + n - b) % n) := by decide +kernel
theorem ar3' : ∀ n, n < 10 → ∀ a, a < 10 → ∀ b, b < 10 → (a ≤ n ∧ b < n ∧ 0 ≤ nI a - nI b ∧ nI a - nI b < nI n) → nI a - nI b = nI ((a + n - b) % n) := by decide +kernel
theorem ar1 (n : Nat) (hn : n < 10) (a : Nat) (ha : a < 10) (b : Nat) (hb : b < 10) (h1 : a ≤ n) (h2 : b < n) (h3 : ¬ 0 ≤ nI a - nI b) : nI a - nI b + nI n = nI ((a + n - b) % n) := ar1' n hn a ha b hb ⟨h1, h2, h3⟩
theorem ar2 (n : Nat) (hn : n < 10) (a : Nat) (ha : a < 10) (b : Nat) (hb : b < 10) (h1 : a ≤ n) (h2 : b < n) (h3 : 0 ≤ nI a - nI b) (h4 : ¬ nI a - nI b < nI n) : nI a - nI b - nI n = nI ((a + n - b) % n) := ar2' n hn a ha b hb ⟨h1, h2, h3, h4⟩
theorem ar3 (n : Nat) (hn : n < 10) (a : Nat) (ha : a < 10) (b : Nat) (hb : b < 10) (h1 : a ≤ n) (h2 : b < n) (h3 : 0 ≤ nI a - nI b) (h4 : nI a - nI b < nI n) : nI a - nI b = nI ((a + n - b) % n) := ar3' n hn a ha b hb ⟨h1, h2, h3, h4⟩
def gp2 (n : Nat) : Nat := if 8 ≤ n then 8 else if 4 ≤ n then 4 else 2
def dpl (n : Nat) : Nat := if 7 < n then 3 else if 3 < n then 2 else if 1 < n then 1 else 0
theorem fol : ∀ v, v < 6 → (nI 1 <<< (nI v &&& 31)) - nI 1 = nI (2 ^ v - 1) := by decide +kernel
def bus (g : Nat → Int32) : Nat → Nat
  | 0 => 0
  | k + 1 => if g (k + 1) ≤ g (bus g k) then bus g k else k + 1
theorem bus_le (g : Nat → Int32) : ∀ k, bus g k ≤ k
  | 0 => Nat.le_refl _
  | k + 1 => by
    have := bus_le g k
    unfold bus
    split <;> omega
def lng (r : Nat → Int32) : Nat → Int32
  | 0 => nI 0
  | k + 1 => if lng r k < r k then r k else lng r k
def rcv (op : Int32) (kd : Nat) (h c : Int32) : Int32 := if kd = 0 then mix op h c else if kd = 1 then mix op c h else c
def aro (f : Nat → Int32) (z : Nat) : Nat → Bool
  | 0 => true
  | k + 1 => aro f z k && decide (dfc f f (k + 1) 0 z = 0)
theorem aro_mono (f : Nat → Int32) (z k : Nat) (h : aro f z k = false) : ∀ j, aro f z (k + j) = false
  | 0 => h
  | j + 1 => by
    have := aro_mono f z k h j
    show (aro f z (k + j) && _) = false
    rw [this]; rfl
theorem aro_no {f : Nat → Int32} {z k n : Nat} (h : 0 < dfc f f (k + 1) 0 z) (hk : k + 1 ≤ n) : nI 0 = b2i (aro f z n) := by
  have e : aro f z (k + 1) = false := by
    have : ¬ dfc f f (k + 1) 0 z = 0 := by omega
    simp [aro, this]
  have e2 := aro_mono f z (k + 1) e (n - (k + 1))
  rw [show k + 1 + (n - (k + 1)) = n by omega] at e2
  rw [e2]; rfl
def pmr (op : Int32) (f g : Nat → Int32) (n : Nat) : Nat → Nat
  | 0 => 0
  | k + 1 => pmr op f g n k + if g (12 * 0 + k) = mbr op f k (n - 1) then 1 else 0
def mtd (f g : Nat → Int32) (z : Nat) : Nat → Int32
  | 0 => nI 0
  | k + 1 => if 0 < dfc f g k k z then mtd f g z k ||| (nI 1 <<< (nI k &&& 31)) else mtd f g z k
def ntd (f g : Nat → Int32) (z : Nat) : Nat → Nat
  | 0 => 0
  | k + 1 => ntd f g z k + dfc f g k k z
theorem ntd_le (f g : Nat → Int32) (z : Nat) : ∀ n, ntd f g z n ≤ n * z
  | 0 => Nat.zero_le _
  | n + 1 => by
    have h1 := ntd_le f g z n
    have h2 := dfc_le f g n n z
    unfold ntd
    rw [Nat.succ_mul]
    omega
