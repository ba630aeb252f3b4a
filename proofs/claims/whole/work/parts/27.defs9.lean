/-! ===== the reference's plays and prices ===== -/
theorem ply_2y {op : Int32} {L : List (List Nat)} {t : Nat} {x : Int32} {f : Nat → Int32} {k : Nat} (h : k = 0 ∨ ¬ lt L k 0 = lt L (k - 1) 0) : (ply op L t x f (k + 1)).2 = (ply op L t x f k).1 := if_pos h
theorem ply_2n {op : Int32} {L : List (List Nat)} {t : Nat} {x : Int32} {f : Nat → Int32} {k : Nat} (h0 : ¬ k = 0) (h : lt L k 0 = lt L (k - 1) 0) : (ply op L t x f (k + 1)).2 = (ply op L t x f k).2 := if_neg (fun q => q.elim h0 (fun z => z h))
theorem ply_1y {op : Int32} {L : List (List Nat)} {t : Nat} {x : Int32} {f : Nat → Int32} {k : Nat} (h : lt L k 0 < t ∧ ¬ nI k = x) : (ply op L t x f (k + 1)).1 = dl1 op L k (ply op L t x f k).1 (ply op L t x f (k + 1)).2 := if_pos h
def bI (st ea : Int32) (g : Nat → Int32) (L : List (List Nat)) (k : Nat) : Nat → Int32 := if k = 0 ∨ k = L.length ∨ ¬ lt L k 0 = lt L (k - 1) 0 then fun _ => nI 0 else bR st ea g L k
theorem bR_s {st ea : Int32} {g : Nat → Int32} {L : List (List Nat)} {k : Nat} (hk : k < L.length) : ch L k (prc st ea g L k) (bI st ea g L k) = bR st ea g L (k + 1) := by
  rw [bR, bI]
  by_cases h : k = 0 ∨ ¬ lt L k 0 = lt L (k - 1) 0
  · rw [if_pos h, if_pos (h.elim Or.inl (fun q => Or.inr (Or.inr q)))]
  · rw [if_neg h, if_neg (fun q => by rcases q with q | q | q; exact h (Or.inl q); omega; exact h (Or.inr q))]
def aM (st ea : Int32) (g : Nat → Int32) (L : List (List Nat)) : Nat → (Nat → Int32)
  | 0 => fun _ => nI 0
  | k + 1 => if k + 1 = L.length ∨ ¬ lt L (k + 1) 0 = lt L k 0 then (fun m => aM st ea g L k m + bR st ea g L (k + 1) m) else aM st ea g L k
theorem z_add (x : Int32) : nI 0 + x = x := by rw [nI_0]; exact Int32.zero_add x
theorem ch_add (L : List (List Nat)) (k : Nat) (p : Int32) (a b c : Nat → Int32) (h : ∀ m, c m = a m + b m) (m : Nat) : ch L k p c m = a m + ch L k p b m := by
  simp only [ch, upd]
  by_cases h2 : m = lt L k 2
  · rw [if_pos h2, if_pos h2]
    by_cases h3 : lt L k 2 = lt L k 1
    · rw [if_pos h3, if_pos h3, h, h2, h3, Int32.add_assoc, Int32.add_assoc, Int32.add_assoc]
    · rw [if_neg h3, if_neg h3, h, h2, Int32.add_assoc]
  · rw [if_neg h2, if_neg h2]
    by_cases h3 : m = lt L k 1
    · rw [if_pos h3, if_pos h3, h, h3, Int32.add_assoc]
    · rw [if_neg h3, if_neg h3, h]
theorem aM_in {st ea : Int32} {g : Nat → Int32} {L : List (List Nat)} : ∀ k, k ≤ L.length → ∀ m, aR st ea g L k m = aM st ea g L k m + bI st ea g L k m
  | 0, _, m => by rw [bI, if_pos (Or.inl rfl)]; show nI 0 = nI 0 + nI 0; exact (add0 _).symm
  | k + 1, hk, m => by
    have ih := aM_in (st := st) (ea := ea) (g := g) (L := L) k (by omega)
    have e : aR st ea g L (k + 1) m = aM st ea g L k m + bR st ea g L (k + 1) m := by
      rw [← bR_s (by omega)]
      exact ch_add L k _ _ _ _ ih m
    by_cases h : k + 1 = L.length ∨ ¬ lt L (k + 1) 0 = lt L k 0
    · have e2 : bI st ea g L (k + 1) = fun _ => nI 0 := if_pos (Or.inr h)
      rw [e, aM, if_pos h, e2, add0]
    · rw [e, aM, if_neg h, bI, if_neg (fun q => by rcases q with q | q | q; omega; exact h (Or.inl q); exact h (Or.inr q))]
theorem aM_eq {st ea : Int32} {g : Nat → Int32} {L : List (List Nat)} (m : Nat) : aM st ea g L L.length m = aR st ea g L L.length m := by
  rw [aM_in L.length (Nat.le_refl _), bI, if_pos (Or.inr (Or.inl rfl)), add0]
theorem lng_pos (r : Nat → Int32) : ∀ k, ¬ lng r k < 0
  | 0 => by rw [lng, nI_0]; decide
  | k + 1 => by
    have ih := lng_pos r k
    rw [lng]
    split
    · rename_i h
      exact fun q => ih (Int32.lt_trans h q)
    · exact ih
theorem clo_first {T : Int32} (h : ¬ T < 0) : clo (nI 0, (-1), 0) T 0 = clo (nI 0, nI 0, 0) T 0 := by
  have h0 : (0 : Int32) ≤ T := Int32.not_lt.mp h
  have h1 : (-1 : Int32) < T := Int32.lt_of_lt_of_le (by decide) h0
  simp only [clo]
  rw [if_pos h1, if_pos h1, nI_0]
  by_cases q : (0 : Int32) < T
  · rw [if_pos q, if_pos q]
  · rw [if_neg q, if_neg q]
    have : T = 0 := Int32.le_antisymm (Int32.not_lt.mp q) h0
    rw [this]
theorem tk_two {st ea : Int32} {g : Nat → Int32} {L : List (List Nat)} {R : Nat} (hct : CTG L R) : ∀ k, k ≤ L.length → (tkk st ea g L (-1) k = (nI 0, (-1), 0) ∧ tkk st ea g L (nI 0) k = (nI 0, nI 0, 0) ∧ k < L.length ∧ lt L k 0 = 0) ∨ tkk st ea g L (-1) k = tkk st ea g L (nI 0) k
  | 0, _ => Or.inl ⟨rfl, rfl, hct.1, hct.2.1⟩
  | k + 1, hk => by
    have ih := tk_two (st := st) (ea := ea) (g := g) hct k (by omega)
    by_cases h : k + 1 = L.length ∨ ¬ lt L (k + 1) 0 = lt L k 0
    · right
      rw [tkk, tkk, if_pos h, if_pos h]
      rcases ih with ⟨a, b, c, d⟩ | a
      · rw [a, b, d]
        exact clo_first (lng_pos _ _)
      · rw [a]
    · rw [tkk, tkk, if_neg h, if_neg h]
      rcases ih with ⟨a, b, c, d⟩ | a
      · left
        refine ⟨a, b, ?_, ?_⟩
        · rcases Nat.lt_or_ge (k + 1) L.length with q | q
          · exact q
          · exact absurd (Or.inl (by omega)) h
        · have : lt L (k + 1) 0 = lt L k 0 := Classical.byContradiction (fun q => h (Or.inr q))
          rw [this, d]
      · exact Or.inr a
theorem tk_same {st ea : Int32} {g : Nat → Int32} {L : List (List Nat)} {R : Nat} (hct : CTG L R) : tkk st ea g L (-1) L.length = tkk st ea g L (nI 0) L.length := by
  rcases tk_two (st := st) (ea := ea) (g := g) hct L.length (Nat.le_refl _) with ⟨_, _, c, _⟩ | a
  · omega
  · exact a
theorem ply_x {op : Int32} {L : List (List Nat)} {t : Nat} {x y : Int32} {f : Nat → Int32} : ∀ k, (∀ j, j < k → (nI j = x ↔ nI j = y)) → ply op L t x f k = ply op L t y f k
  | 0, _ => rfl
  | k + 1, h => by
    have ih := ply_x (op := op) (L := L) (t := t) (f := f) k (fun j hj => h j (by omega))
    have e := h k (by omega)
    rw [ply, ply, ih]
    have ec : (lt L k 0 < t ∧ ¬ nI k = x) = (lt L k 0 < t ∧ ¬ nI k = y) := propext ⟨fun q => ⟨q.1, fun z => q.2 (e.mpr z)⟩, fun q => ⟨q.1, fun z => q.2 (e.mp z)⟩⟩
    simp only [ec]
theorem nneg {j : Nat} (h : j < 2 ^ 31) (c : Int32) (hc : c < 0) : ¬ nI j = c := fun e => nI_pos h (e ▸ hc)
theorem ply_none {op : Int32} {L : List (List Nat)} {t : Nat} {f : Nat → Int32} {k : Nat} (hk : k < 2 ^ 31) : ply op L t (-6) f k = ply op L t (-1) f k :=
  ply_x k (fun j hj => ⟨fun e => absurd e (nneg (by omega) (-6) (by decide)), fun e => absurd e (nneg (by omega) (-1) (by decide))⟩)
