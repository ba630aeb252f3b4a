/-! ===== the letters fit, by the kernel's own count ===== -/
def okl (R n z : Nat) : Nat → List (List Nat) → Bool
  | p, [] => Nat.beq (p + 1) R
  | p, x :: xs => match x with
    | [a, b, c, d, e, f] => (Nat.beq a p || Nat.beq a (p + 1)) && Nat.blt a R && Nat.blt b n && Nat.blt c n && Nat.ble (d + e) z && Nat.ble f 2 && okl R n z a xs
    | _ => false
def okf (R n z : Nat) (L : List (List Nat)) : Bool := match L with
  | [] => false
  | x :: xs => Nat.beq (x.getD 0 1) 0 && okl R n z 0 (x :: xs) && Nat.ble (x :: xs).length 144
theorem lt_cons0 (x : List Nat) (xs : List (List Nat)) (w : Nat) : lt (x :: xs) 0 w = x.getD w 0 := by simp [lt]
theorem lt_consS (x : List Nat) (xs : List (List Nat)) (k w : Nat) : lt (x :: xs) (k + 1) w = lt xs k w := by simp [lt]
theorem okl_spec {R n z : Nat} : ∀ (L : List (List Nat)) (p : Nat), okl R n z p L = true →
    (∀ k, k < L.length → lt L k 0 < R ∧ lt L k 1 < n ∧ lt L k 2 < n ∧ lt L k 3 + lt L k 4 ≤ z ∧ lt L k 5 ≤ 2) ∧ (0 < L.length → lt L 0 0 = p ∨ lt L 0 0 = p + 1) ∧ (∀ k, k + 1 < L.length → lt L (k + 1) 0 = lt L k 0 ∨ lt L (k + 1) 0 = lt L k 0 + 1) ∧ ((L.length = 0 → p + 1 = R) ∧ (0 < L.length → lt L (L.length - 1) 0 + 1 = R))
  | [], p, h => by
    have h : p + 1 = R := Nat.eq_of_beq_eq_true h
    exact ⟨fun k hk => absurd hk (Nat.not_lt_zero _), fun hk => absurd hk (Nat.not_lt_zero _), fun k hk => absurd hk (Nat.not_lt_zero _), fun _ => h, fun hk => absurd hk (Nat.not_lt_zero _)⟩
  | x :: xs, p, h => by
    unfold okl at h
    split at h
    · rename_i a b c d e f
      simp only [Bool.and_eq_true, Bool.or_eq_true, Nat.beq_eq, Nat.blt_eq, Nat.ble_eq] at h
      obtain ⟨⟨⟨⟨⟨⟨h1, h2⟩, h3⟩, h4⟩, h5⟩, h6⟩, h7⟩ := h
      obtain ⟨i1, i2, i3, i4, i5⟩ := okl_spec xs a h7
      refine ⟨?_, ?_, ?_, ?_, ?_⟩
      · intro k hk
        match k, hk with
        | 0, _ => simp only [lt_cons0]; exact ⟨h2, h3, h4, h5, h6⟩
        | k + 1, hk => simp only [lt_consS]; exact i1 k (by simpa using hk)
      · intro _
        rw [lt_cons0]; exact h1
      · intro k hk
        match k, hk with
        | 0, hk => rw [lt_consS, lt_cons0]; exact i2 (by simpa using hk)
        | k + 1, hk => rw [lt_consS, lt_consS]; exact i3 k (by simpa using hk)
      · intro hk; simp at hk
      · intro _
        match xs, i4, i5 with
        | [], i4, _ => exact i4 rfl
        | y :: ys, _, i5 =>
          have := i5 (by simp)
          simp only [List.length_cons, Nat.add_sub_cancel] at this ⊢
          rw [lt_consS]; exact this
    · exact absurd h (by decide)
theorem okf_spec {R n z : Nat} {L : List (List Nat)} (h : okf R n z L = true) : WFL L R n z ∧ CTG L R := by
  unfold okf at h
  split at h
  · exact absurd h (by decide)
  · rename_i x xs
    simp only [Bool.and_eq_true, Nat.beq_eq, Nat.ble_eq] at h
    obtain ⟨⟨h1, h2⟩, h3⟩ := h
    obtain ⟨i1, i2, i3, i4, i5⟩ := okl_spec (x :: xs) 0 h2
    refine ⟨⟨h3, i1⟩, by simp, ?_, i3, i5 (by simp)⟩
    rcases i2 (by simp) with q | q
    · exact q
    · rw [lt_cons0] at q ⊢
      match x, h1, q with
      | [], h1, _ => exact absurd h1 (by decide)
      | a :: as, h1, q => exact h1
theorem bld_all {P : List Nat → Prop} {B : List (List Nat)} {f : Nat → List Nat} (hB : ∀ x ∈ B, P x) : ∀ k, (∀ i, i < k → P (f i)) → ∀ x ∈ bld B f k, P x
  | 0, _ => hB
  | k + 1, h => by
    intro x hx
    rw [bld] at hx
    rcases List.mem_append.mp hx with q | q
    · exact bld_all hB k (fun i hi => h i (by omega)) x q
    · rw [List.mem_singleton.mp q]; exact h k (by omega)
theorem bld2_all {P : List Nat → Prop} {B : List (List Nat)} {F : Nat → Nat → List Nat} {n : Nat} (hB : ∀ x ∈ B, P x) : ∀ r, (∀ j, j < r → ∀ i, i < n → P (F j i)) → ∀ x ∈ bld2 B F n r, P x
  | 0, _ => hB
  | r + 1, h => by
    rw [bld2]
    exact bld_all (bld2_all hB r (fun j hj => h j (by omega))) n (h r (by omega))
/-- a letter without its span -/
def er (x : List Nat) : List Nat := [x.getD 0 0, x.getD 1 0, x.getD 2 0, 0, 0, x.getD 5 0]
theorem bld_er (B : List (List Nat)) (f : Nat → List Nat) : ∀ k, (bld B f k).map er = bld (B.map er) (fun i => er (f i)) k
  | 0 => rfl
  | k + 1 => by rw [bld, List.map_append, bld_er B f k]; rfl
theorem bld2_er (B : List (List Nat)) (F : Nat → Nat → List Nat) (n : Nat) : ∀ r, (bld2 B F n r).map er = bld2 (B.map er) (fun j i => er (F j i)) n r
  | 0 => rfl
  | r + 1 => by rw [bld2, bld_er, bld2_er B F n r]; rfl
theorem lt_er {L : List (List Nat)} {k w : Nat} (hk : k < L.length) (hw : w = 0 ∨ w = 1 ∨ w = 2 ∨ w = 5) : lt (L.map er) k w = lt L k w := by
  simp only [lt, List.getD_eq_getElem?_getD, List.getElem?_map]
  rw [List.getElem?_eq_getElem hk]
  rcases hw with rfl | rfl | rfl | rfl <;> rfl
theorem ring_er (n z : Nat) : (LRing n z).map er = (LRing n 0).map er := by
  rw [LRing, LRing, bld2_er, bld2_er, bld2_er, bld2_er]
  rfl
theorem ring_okB : ((List.range 8).all fun n => okf (lRd 0 (n + 2)) (n + 2) 0 ((LRing (n + 2) 0).map er)) = true := by decide +kernel
theorem mem_lt {L : List (List Nat)} {k : Nat} (hk : k < L.length) : L[k] ∈ L ∧ ∀ w, lt L k w = L[k].getD w 0 :=
  ⟨List.getElem_mem hk, fun w => by simp [lt, List.getD_eq_getElem?_getD, List.getElem?_eq_getElem hk]⟩
theorem pF_ok {n z rd m q kd : Nat} (hq : q < n) : (pF n z rd m q kd).getD 3 0 + (pF n z rd m q kd).getD 4 0 ≤ z := by
  show z * q / n + (z * (q + 1) / n - z * q / n) ≤ z
  have h1 : z * q / n ≤ z * (q + 1) / n := Nat.div_le_div_right (Nat.mul_le_mul_left _ (Nat.le_succ _))
  have h2 : z * (q + 1) / n ≤ z := by
    have : z * (q + 1) / n ≤ z * n / n := Nat.div_le_div_right (Nat.mul_le_mul_left _ hq)
    rw [Nat.mul_div_cancel _ (by omega)] at this
    exact this
  omega
theorem ring_ok {n z : Nat} (hn : 2 ≤ n) (hn9 : n ≤ 9) : WFL (LRing n z) (lRd 0 n) n z ∧ CTG (LRing n z) (lRd 0 n) := by
  have h := List.all_eq_true.mp ring_okB (n - 2) (List.mem_range.mpr (by omega))
  rw [show n - 2 + 2 = n by omega, ← ring_er n z] at h
  obtain ⟨⟨a1, a2⟩, b1, b2, b3, b4⟩ := okf_spec h
  rw [List.length_map] at a1 a2 b1 b3 b4
  have hs : ∀ x ∈ LRing n z, x.getD 3 0 + x.getD 4 0 ≤ z := by
    rw [LRing]
    refine bld2_all (bld2_all (fun x hx => absurd hx List.not_mem_nil) _ (fun j _ i _ => ?_)) _ (fun j _ i _ => ?_)
    · exact pF_ok (Nat.mod_lt _ (by omega))
    · exact pF_ok (Nat.mod_lt _ (by omega))
  refine ⟨⟨a1, fun k hk => ?_⟩, b1, ?_, fun k hk => ?_, ?_⟩
  · have q := a2 k hk
    rw [lt_er hk (Or.inl rfl), lt_er hk (Or.inr (Or.inl rfl)), lt_er hk (Or.inr (Or.inr (Or.inl rfl))), lt_er hk (Or.inr (Or.inr (Or.inr rfl)))] at q
    obtain ⟨m1, m2⟩ := mem_lt hk
    refine ⟨q.1, q.2.1, q.2.2.1, ?_, q.2.2.2.2⟩
    rw [m2, m2]; exact hs _ m1
  · rw [lt_er (by omega) (Or.inl rfl)] at b2; exact b2
  · have q := b3 k hk
    rw [lt_er hk (Or.inl rfl), lt_er (by omega) (Or.inl rfl)] at q; exact q
  · rw [lt_er (by omega) (Or.inl rfl)] at b4; exact b4
def okAn (w n : Nat) : Bool := (List.range 99).all fun z => okf (lRd w n) n (z + 1) (lLs w n (z + 1))
set_option maxRecDepth 100000 in
theorem okA_1_2 : okAn 1 2 = true := by decide +kernel
set_option maxRecDepth 100000 in
theorem okA_1_3 : okAn 1 3 = true := by decide +kernel
set_option maxRecDepth 100000 in
theorem okA_1_4 : okAn 1 4 = true := by decide +kernel
set_option maxRecDepth 100000 in
theorem okA_1_5 : okAn 1 5 = true := by decide +kernel
set_option maxRecDepth 100000 in
theorem okA_1_6 : okAn 1 6 = true := by decide +kernel
set_option maxRecDepth 100000 in
theorem okA_1_7 : okAn 1 7 = true := by decide +kernel
set_option maxRecDepth 100000 in
theorem okA_1_8 : okAn 1 8 = true := by decide +kernel
set_option maxRecDepth 100000 in
theorem okA_1_9 : okAn 1 9 = true := by decide +kernel
set_option maxRecDepth 100000 in
theorem okA_2_2 : okAn 2 2 = true := by decide +kernel
set_option maxRecDepth 100000 in
theorem okA_2_3 : okAn 2 3 = true := by decide +kernel
set_option maxRecDepth 100000 in
theorem okA_2_4 : okAn 2 4 = true := by decide +kernel
set_option maxRecDepth 100000 in
theorem okA_2_5 : okAn 2 5 = true := by decide +kernel
set_option maxRecDepth 100000 in
theorem okA_2_6 : okAn 2 6 = true := by decide +kernel
set_option maxRecDepth 100000 in
theorem okA_2_7 : okAn 2 7 = true := by decide +kernel
set_option maxRecDepth 100000 in
theorem okA_2_8 : okAn 2 8 = true := by decide +kernel
set_option maxRecDepth 100000 in
theorem okA_2_9 : okAn 2 9 = true := by decide +kernel
set_option maxRecDepth 100000 in
theorem okA_3_2 : okAn 3 2 = true := by decide +kernel
set_option maxRecDepth 100000 in
theorem okA_3_3 : okAn 3 3 = true := by decide +kernel
set_option maxRecDepth 100000 in
theorem okA_3_4 : okAn 3 4 = true := by decide +kernel
set_option maxRecDepth 100000 in
theorem okA_3_5 : okAn 3 5 = true := by decide +kernel
set_option maxRecDepth 100000 in
theorem okA_3_6 : okAn 3 6 = true := by decide +kernel
set_option maxRecDepth 100000 in
theorem okA_3_7 : okAn 3 7 = true := by decide +kernel
set_option maxRecDepth 100000 in
theorem okA_3_8 : okAn 3 8 = true := by decide +kernel
set_option maxRecDepth 100000 in
theorem okA_3_9 : okAn 3 9 = true := by decide +kernel
theorem lLs_ok {w n z : Nat} (hw : w ≤ 3) (hn : 2 ≤ n) (hn9 : n ≤ 9) (hz1 : 1 ≤ z) (hz : z ≤ 99) : WFL (lLs w n z) (lRd w n) n z ∧ CTG (lLs w n z) (lRd w n) := by
  have hd : okAn w n = true → WFL (lLs w n z) (lRd w n) n z ∧ CTG (lLs w n z) (lRd w n) := by
    intro h
    have := List.all_eq_true.mp h (z - 1) (List.mem_range.mpr (by omega))
    rw [show z - 1 + 1 = z by omega] at this
    exact okf_spec this
  rcases (show w = 0 ∨ w = 1 ∨ w = 2 ∨ w = 3 by omega) with rfl | rfl | rfl | rfl
  · exact ring_ok hn hn9
  · rcases (show n = 2 ∨ n = 3 ∨ n = 4 ∨ n = 5 ∨ n = 6 ∨ n = 7 ∨ n = 8 ∨ n = 9 by omega) with rfl | rfl | rfl | rfl | rfl | rfl | rfl | rfl
    · exact hd okA_1_2
    · exact hd okA_1_3
    · exact hd okA_1_4
    · exact hd okA_1_5
    · exact hd okA_1_6
    · exact hd okA_1_7
    · exact hd okA_1_8
    · exact hd okA_1_9
  · rcases (show n = 2 ∨ n = 3 ∨ n = 4 ∨ n = 5 ∨ n = 6 ∨ n = 7 ∨ n = 8 ∨ n = 9 by omega) with rfl | rfl | rfl | rfl | rfl | rfl | rfl | rfl
    · exact hd okA_2_2
    · exact hd okA_2_3
    · exact hd okA_2_4
    · exact hd okA_2_5
    · exact hd okA_2_6
    · exact hd okA_2_7
    · exact hd okA_2_8
    · exact hd okA_2_9
  · rcases (show n = 2 ∨ n = 3 ∨ n = 4 ∨ n = 5 ∨ n = 6 ∨ n = 7 ∨ n = 8 ∨ n = 9 by omega) with rfl | rfl | rfl | rfl | rfl | rfl | rfl | rfl
    · exact hd okA_3_2
    · exact hd okA_3_3
    · exact hd okA_3_4
    · exact hd okA_3_5
    · exact hd okA_3_6
    · exact hd okA_3_7
    · exact hd okA_3_8
    · exact hd okA_3_9
