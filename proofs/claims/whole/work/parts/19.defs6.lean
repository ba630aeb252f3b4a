/-! ===== the answers of the calls, as numbers of the state ===== -/
abbrev tn (x : Int32) : Nat := x.toNatClampNeg
theorem tn_N {k : Nat} (h : k < 2 ^ 31) : tn (nI k) = k := nI_clamp h
theorem inB_of2 {v : Int32} {b c : Nat} (hb : b < 2 ^ 31) (h3 : c < 2 ^ 31) (h : inB v (nI b) (nI c) = true) : ∃ a : Nat, b ≤ a ∧ a ≤ c ∧ v = nI a := by
  simp only [inB, Bool.and_eq_true, decide_eq_true_eq] at h
  have h0 : ¬ v < 0 := Int32.not_lt.mpr (by
    have h1 : (nI 0 : Int32) ≤ nI b := nI_le (Nat.zero_le _) hb
    rw [nI_0] at h1
    exact Int32.le_trans h1 h.1)
  obtain ⟨a, ha, rfl⟩ := nI_of2 (n := c) (nI_toInt h3) h0 h.2
  exact ⟨a, (nI_leI hb (by omega)).mp h.1, ha, rfl⟩
theorem inB_out {v : Int32} {c : Nat} (hc : c < 2 ^ 31) (h : inB v (nI 0) (nI c) = false) : v.toInt < 0 ∨ (c : Int) < v.toInt := by
  by_cases h0 : v.toInt < 0
  · exact Or.inl h0
  · right
    by_cases h1 : (c : Int) < v.toInt
    · exact h1
    · exfalso
      have a : nI 0 ≤ v := by rw [nI_0]; exact Int32.le_iff_toInt_le.mpr (by simpa using h0)
      have b : v ≤ nI c := Int32.le_iff_toInt_le.mpr (by rw [nI_toInt hc]; omega)
      simp [inB, a, b] at h
def isW (p : Int32) : Bool := inB p (nI 0) (nI 3)
/-- a way at its end, with the letter x lost -/
def pe (op : Int32) (f : Nat → Int32) (n z w : Nat) (x : Int32) : Nat → Int32 := (ply op (lLs w n z) (lRd w n) x f (lLs w n z).length).1
def tmw (st ea : Int32) (g : Nat → Int32) (n w s : Nat) : Int32 := (tkk st ea g (lLs w n s) (nI 0) (lLs w n s).length).1
def A_at (n z : Nat) (f : Nat → Int32) (p0 p1 : Int32) : Int32 := if inB p0 (nI 0) (nI (n - 1)) then (if inB p1 (nI 0) (nI (z - 1)) then f (12 * tn p0 + tn p1) else (-6)) else (-1)
def wv (n z : Nat) (st ea : Int32) (g : Nat → Int32) (w u : Nat) : Int32 :=
  if u = 0 then nI (lRd w n) else if u = 1 then nI (lLs w n z).length else if u = 2 then nI (sl (lLs w n z) (lLs w n z).length) else if u = 3 then (tkk st ea g (lLs w n z) (nI 0) (lLs w n z).length).1 else if u = 4 then nI (tkk st ea g (lLs w n z) (nI 0) (lLs w n z).length).2.2 else nI (bus (aR st ea g (lLs w n z) (lLs w n z).length) (n - 1))
def A_way (n z : Nat) (st ea : Int32) (g : Nat → Int32) (p0 p1 : Int32) : Int32 := if isW p0 then (if inB p1 (nI 0) (nI 5) then wv n z st ea g (tn p0) (tn p1) else (-2)) else (-1)
def A_letter (n z : Nat) (st ea : Int32) (g : Nat → Int32) (p0 p1 p2 : Int32) : Int32 := if isW p0 then (if inB p2 (nI 0) (nI 6) then (if hasB p1 (lLs (tn p0) n z).length then (if p2 = nI 6 then prc st ea g (lLs (tn p0) n z) (tn p1) else nI (lt (lLs (tn p0) n z) (tn p1) (tn p2))) else (-6)) else (-2)) else (-1)
def A_behind (op : Int32) (n z : Nat) (f : Nat → Int32) (p0 p1 p2 p3 : Int32) : Int32 := if isW p0 && inB p2 (nI 0) (nI (n - 1)) then (if 0 ≤ p1 then (if inB p3 (nI 0) (nI (z - 1)) then (ply op (lLs (tn p0) n z) (tn p1) (-1) f (lLs (tn p0) n z).length).1 (12 * tn p2 + tn p3) else (-6)) else (-2)) else (-1)
def A_same (op : Int32) (n z : Nat) (f : Nat → Int32) (p0 p1 : Int32) : Int32 := if isW p0 then (if inB p1 (nI 0) (nI 1) then (if p1 = 0 then b2i (aro (pe op f n z (tn p0) (-1)) z (n - 1)) else nI (pmr op f (pe op f n z (tn p0) (-1)) n z)) else (-2)) else (-1)
def A_alike (op : Int32) (n z : Nat) (f : Nat → Int32) (p0 p1 : Int32) : Int32 := if isW p0 && isW p1 then b2i (decide (dfc (pe op f n z (tn p0) (-1)) (pe op f n z (tn p1) (-1)) 0 0 z = 0)) else (-1)
def bst (T : Nat → Int32) : Nat → Nat × Int32
  | 0 => (0, T 0)
  | k + 1 => if T (k + 1) < (bst T k).2 then (k + 1, T (k + 1)) else bst T k
def A_best (st ea : Int32) (g : Nat → Int32) (n : Nat) (p0 p1 : Int32) : Int32 := if inB p0 (nI 1) (nI 99) && inB p1 (nI 0) (nI 1) then (if p1 = 0 then nI (bst (fun w => tmw st ea g n w (tn p0)) 3).1 else (bst (fun w => tmw st ea g n w (tn p0)) 3).2) else (-2)
def fr1 (T1 T2 : Nat → Int32) : Nat → Nat → Int32
  | 0, _ => (-6)
  | k + 1, s => if T1 s < T2 s then nI s else fr1 T1 T2 k (s + 1)
def A_from (st ea : Int32) (g : Nat → Int32) (n : Nat) (p0 p1 : Int32) : Int32 := if isW p0 && isW p1 then fr1 (tmw st ea g n (tn p0)) (tmw st ea g n (tn p1)) 99 1 else (-1)
def A_lost (op : Int32) (n z : Nat) (f : Nat → Int32) (p0 p1 p2 : Int32) : Int32 := if isW p0 then (if inB p2 (nI 0) (nI 1) then (if hasB p1 (lLs (tn p0) n z).length then (if p2 = 0 then mtd (pe op f n z (tn p0) (-1)) (pe op f n z (tn p0) p1) z n else nI (ntd (pe op f n z (tn p0) (-1)) (pe op f n z (tn p0) p1) z n)) else (-6)) else (-2)) else (-1)
/-- how many numbers are other if letter k is lost -/
def hrm (op : Int32) (n z : Nat) (f : Nat → Int32) (w k : Nat) : Nat := ntd (pe op f n z w (-1)) (pe op f n z w (nI k)) z n
def wst (h : Nat → Nat) : Nat → Nat × Nat × Nat
  | 0 => (0, 0, 0)
  | k + 1 => (if (wst h k).2.1 < h k then k else (wst h k).1, if (wst h k).2.1 < h k then h k else (wst h k).2.1, (wst h k).2.2 + if h k = 0 then 1 else 0)
theorem wst_le {b : Nat} (h : Nat → Nat) (hh : ∀ k, h k ≤ b) : ∀ k, (wst h k).2.1 ≤ b
  | 0 => Nat.zero_le _
  | k + 1 => by
    have h1 := wst_le h hh k
    have h2 := hh k
    simp only [wst]
    split <;> omega
def A_worst (op : Int32) (n z : Nat) (f : Nat → Int32) (p0 p1 : Int32) : Int32 := if isW p0 then (if inB p1 (nI 0) (nI 2) then (if p1 = 0 then nI (wst (hrm op n z f (tn p0)) (lLs (tn p0) n z).length).1 else if p1 = nI 1 then nI (wst (hrm op n z f (tn p0)) (lLs (tn p0) n z).length).2.1 else nI (wst (hrm op n z f (tn p0)) (lLs (tn p0) n z).length).2.2) else (-2)) else (-1)
def cmb (L : List (List Nat)) (m q u k : Nat) : Bool := decide (lt L k 2 = m) && (brB L k q && (decide (lt L k 5 = 2) == decide (u = 1)))
def cms (L : List (List Nat)) (m q u : Nat) : Nat → Nat
  | 0 => 0
  | k + 1 => cms L m q u k + if cmb L m q u k then 1 else 0
def A_comes (n z : Nat) (p0 p1 p2 p3 : Int32) : Int32 := if isW p0 && inB p1 (nI 0) (nI (n - 1)) then (if inB p2 (nI 0) (nI (z - 1)) && inB p3 (nI 0) (nI 1) then nI (cms (lLs (tn p0) n z) (tn p1) (tn p2) (tn p3) (lLs (tn p0) n z).length) else (-2)) else (-1)
def kpn (b0 b1 : Bool) : Nat := (if b0 then 1 else 0) + (if b1 then 2 else 0)
def A_count (n z : Nat) (op st ea : Int32) (f : Nat → Int32) (b0 b1 : Bool) (p0 : Int32) : Int32 := if inB p0 (nI 0) (nI 6) then (if p0 = nI 0 then nI n else if p0 = nI 1 then nI z else if p0 = nI 2 then op else if p0 = nI 3 then st else if p0 = nI 4 then ea else if p0 = nI 5 then sa f z n else nI (kpn b0 b1)) else (-2)
/-- what the calls that change do -/
def vMa (p0 p1 : Int32) : Bool := inB p0 (nI 2) (nI 9) && inB p1 (nI 1) (nI 12)
def A_mach (n : Nat) (p0 p1 : Int32) : Int32 := if vMa p0 p1 then nI n else (-2)
def vPu (n z : Nat) (p0 p1 p2 : Int32) : Bool := inB p0 (nI 0) (nI (n - 1)) && (inB p1 (nI 0) (nI (z - 1)) && inB p2 (nI 0) (nI 996))
def A_put (n z : Nat) (f : Nat → Int32) (p0 p1 p2 : Int32) : Int32 := if vPu n z p0 p1 p2 then f (12 * tn p0 + tn p1) else if inB p0 (nI 0) (nI (n - 1)) then (-2) else (-1)
def T_put (n z : Nat) (f : Nat → Int32) (p0 p1 p2 : Int32) : Nat → Int32 := if vPu n z p0 p1 p2 then upd f (12 * tn p0 + tn p1) p2 else f
def vRu (p0 p1 : Int32) : Bool := inB p0 (nI 0) (nI 2) && inB p1 (nI 0) (if p0 = 0 then nI 2 else nI 99)
def A_rule (op st ea : Int32) (p0 p1 : Int32) : Int32 := if vRu p0 p1 then (if p0 = 0 then op else if p0 = nI 1 then st else ea) else (-2)
def T_rule (c : Int32) (old : Int32) (p0 p1 : Int32) : Int32 := if vRu p0 p1 then (if p0 = c then p1 else old) else old
def vSl (n : Nat) (p0 p1 p2 : Int32) : Bool := (inB p0 (nI 0) (nI (n - 1)) && inB p1 (nI 0) (nI (n - 1))) && (!decide (p0 = p1) && inB p2 (nI 1) (nI 9))
def A_slow (n : Nat) (g : Nat → Int32) (p0 p1 p2 : Int32) : Int32 := if vSl n p0 p1 p2 then g (9 * tn p0 + tn p1) else if inB p0 (nI 0) (nI (n - 1)) && inB p1 (nI 0) (nI (n - 1)) then (-2) else (-1)
def T_slow (n : Nat) (g : Nat → Int32) (p0 p1 p2 : Int32) : Nat → Int32 := if vSl n p0 p1 p2 then upd (upd g (9 * tn p0 + tn p1) p2) (9 * tn p1 + tn p0) p2 else g
theorem nI1_ne : ¬ nI 1 = (0 : Int32) := by decide
theorem q00 : (nI 0 = (0 : Int32)) = True := by decide
theorem q10 : (nI 1 = (0 : Int32)) = False := by decide
theorem q20 : (nI 2 = (0 : Int32)) = False := by decide
theorem q01 : (nI 0 = nI 1) = False := by decide
theorem q02 : (nI 0 = nI 2) = False := by decide
theorem q12 : (nI 1 = nI 2) = False := by decide
theorem q21 : (nI 2 = nI 1) = False := by decide
theorem kp_or0 : ∀ b0 b1 : Bool, nI (kpn b0 b1) ||| (nI 1 <<< (nI 0 &&& 31)) = nI (kpn true b1) := by decide +kernel
theorem kp_or1 : ∀ b0 b1 : Bool, nI (kpn b0 b1) ||| (nI 1 <<< (nI 1 &&& 31)) = nI (kpn b0 true) := by decide +kernel
theorem kp_an0 : ∀ b1 : Bool, nI (kpn false b1) &&& (nI 1 <<< (nI 0 &&& 31)) = 0 := by decide +kernel
theorem kp_an1 : ∀ b0 : Bool, nI (kpn b0 false) &&& (nI 1 <<< (nI 1 &&& 31)) = 0 := by decide +kernel
theorem kp_at0 : ∀ b1 : Bool, ¬ nI (kpn true b1) &&& (nI 1 <<< (nI 0 &&& 31)) = 0 := by decide +kernel
theorem kp_at1 : ∀ b0 : Bool, ¬ nI (kpn b0 true) &&& (nI 1 <<< (nI 1 &&& 31)) = 0 := by decide +kernel
