/-! ===== prices and plays, letter by letter ===== -/
/-- the letters come by rounds, none of which is empty -/
def CTG (L : List (List Nat)) (R : Nat) : Prop := 1 ≤ L.length ∧ lt L 0 0 = 0 ∧ (∀ k, k + 1 < L.length → lt L (k + 1) 0 = lt L k 0 ∨ lt L (k + 1) 0 = lt L k 0 + 1) ∧ lt L (L.length - 1) 0 + 1 = R
theorem ctg_R {L : List (List Nat)} {R : Nat} (hct : CTG L R) (hL : L.length ≤ 144) : R ≤ 144 := by
  have h9 : ∀ j, j < L.length → lt L j 0 ≤ j := by
    intro j
    induction j with
    | zero => intro _; rw [hct.2.1]; exact Nat.le_refl _
    | succ j ih =>
      intro h
      have a := ih (by omega)
      have b := hct.2.2.1 j h
      omega
  have h1 := hct.1
  have h2 := h9 (L.length - 1) (by omega)
  have h3 := hct.2.2.2
  omega
def ch (L : List (List Nat)) (k : Nat) (p : Int32) (b : Nat → Int32) : Nat → Int32 := upd (upd b (lt L k 1) (b (lt L k 1) + p)) (lt L k 2) (upd b (lt L k 1) (b (lt L k 1) + p) (lt L k 2) + p)
def bR (st ea : Int32) (g : Nat → Int32) (L : List (List Nat)) : Nat → (Nat → Int32)
  | 0 => fun _ => nI 0
  | k + 1 => ch L k (prc st ea g L k) (if k = 0 ∨ ¬ lt L k 0 = lt L (k - 1) 0 then fun _ => nI 0 else bR st ea g L k)
def aR (st ea : Int32) (g : Nat → Int32) (L : List (List Nat)) : Nat → (Nat → Int32)
  | 0 => fun _ => nI 0
  | k + 1 => ch L k (prc st ea g L k) (aR st ea g L k)
def clo (s : Int32 × Int32 × Nat) (T : Int32) (r : Nat) : Int32 × Int32 × Nat := (s.1 + T, if s.2.1 < T then T else s.2.1, if s.2.1 < T then r else s.2.2)
def tkk (st ea : Int32) (g : Nat → Int32) (L : List (List Nat)) (l0 : Int32) : Nat → Int32 × Int32 × Nat
  | 0 => (nI 0, l0, 0)
  | k + 1 => if k + 1 = L.length ∨ ¬ lt L (k + 1) 0 = lt L k 0 then clo (tkk st ea g L l0 k) (lng (bR st ea g L (k + 1)) 9) (lt L k 0) else tkk st ea g L l0 k
/-- the inner loop of a round of prices: base is what stood before the round -/
def rIn (st ea : Int32) (g : Nat → Int32) (L : List (List Nat)) (l0 : Int32) (r k0 k : Nat) (b : Nat → Int32) : Prop :=
  (k = k0 ∧ b = (fun _ => nI 0) ∧ (k = 0 ∨ ¬ r = lt L (k - 1) 0)) ∨ (k0 < k ∧ b = bR st ea g L k ∧ lt L (k - 1) 0 = r ∧ tkk st ea g L l0 (k - 1) = tkk st ea g L l0 k0)
theorem rIn_s {st ea : Int32} {g : Nat → Int32} {L : List (List Nat)} {l0 : Int32} {r k0 k : Nat} {b : Nat → Int32} (h : rIn st ea g L l0 r k0 k b) (hk : k < L.length) (hr : lt L k 0 = r) : rIn st ea g L l0 r k0 (k + 1) (ch L k (prc st ea g L k) b) := by
  rcases h with ⟨rfl, hb, h0⟩ | ⟨h1, hb, h2, h3⟩
  · refine Or.inr ⟨by omega, ?_, hr, rfl⟩
    rw [bR, if_pos (h0.imp id (fun q => by rw [hr]; exact q)), hb]
  · refine Or.inr ⟨by omega, ?_, hr, ?_⟩
    · rw [bR, if_neg (by rw [hr, h2]; omega), hb]
    · rw [Nat.add_sub_cancel, ← h3]
      obtain ⟨j, rfl⟩ : ∃ j, k = j + 1 := ⟨k - 1, by omega⟩
      have h2 : lt L j 0 = r := h2
      rw [tkk, if_neg (by rw [hr, h2]; omega)]
      rfl
theorem rIn_e {st ea : Int32} {g : Nat → Int32} {L : List (List Nat)} {l0 : Int32} {r k0 k : Nat} {b : Nat → Int32} (h : rIn st ea g L l0 r k0 k b) (h0 : k0 < k) (hk : k = L.length ∨ ¬ lt L k 0 = r) : tkk st ea g L l0 k = clo (tkk st ea g L l0 k0) (lng b 9) r ∧ lt L (k - 1) 0 = r := by
  rcases h with ⟨rfl, hb, -⟩ | ⟨h1, hb, h2, h3⟩
  · omega
  · refine ⟨?_, h2⟩
    obtain ⟨j, rfl⟩ : ∃ j, k = j + 1 := ⟨k - 1, by omega⟩
    have h2 : lt L j 0 = r := h2
    have h3 : tkk st ea g L l0 j = tkk st ea g L l0 k0 := h3
    rw [tkk, if_pos (by rw [h2]; exact hk), h3, hb, h2]
/-- the outer loop's edge between rounds -/
def edge (L : List (List Nat)) (R r k : Nat) : Prop := r ≤ R ∧ k ≤ L.length ∧ (k < L.length → lt L k 0 = r) ∧ (k = 0 ∨ lt L (k - 1) 0 + 1 = r) ∧ (k = L.length → r = R)
theorem edge_0 {L : List (List Nat)} {R : Nat} (h : CTG L R) : edge L R 0 0 := ⟨Nat.zero_le _, Nat.zero_le _, fun _ => h.2.1, Or.inl rfl, fun e => by have := h.1; omega⟩
theorem edge_in {L : List (List Nat)} {R r k : Nat} (h : edge L R r k) (hr : r < R) : k < L.length ∧ lt L k 0 = r ∧ (k = 0 ∨ ¬ r = lt L (k - 1) 0) := by
  obtain ⟨h1, h2, h3, h4, h5⟩ := h
  have hk : k < L.length := by
    rcases Nat.lt_or_ge k L.length with q | q
    · exact q
    · have := h5 (by omega); omega
  exact ⟨hk, h3 hk, h4.imp id (fun q => by omega)⟩
theorem edge_s {L : List (List Nat)} {R r k0 k : Nat} (hc : CTG L R) (hr : r < R) (h0 : k0 < k) (hk : k ≤ L.length) (h2 : lt L (k - 1) 0 = r) (he : k = L.length ∨ ¬ lt L k 0 = r) : edge L R (r + 1) k := by
  obtain ⟨c1, c2, c3, c4⟩ := hc
  refine ⟨by omega, hk, fun q => ?_, Or.inr (by omega), fun q => ?_⟩
  · have := c3 (k - 1) (by omega)
    rw [show k - 1 + 1 = k by omega, h2] at this
    rcases he with e | e
    · omega
    · rcases this with t | t
      · exact absurd t e
      · exact t
  · rw [← q, h2] at c4
    omega
theorem edge_end {L : List (List Nat)} {R k : Nat} (h : edge L R R k) (hw : ∀ k, k < L.length → lt L k 0 < R) : k = L.length := by
  rcases Nat.lt_or_ge k L.length with q | q
  · have a := h.2.2.1 q
    have b := hw k q
    omega
  · have := h.2.1; omega
theorem edge_end2 {L : List (List Nat)} {R r k : Nat} (h : edge L R r k) (hr : R ≤ r) (hw : ∀ k, k < L.length → lt L k 0 < R) : k = L.length := by
  obtain rfl : r = R := by have := h.1; omega
  exact edge_end h hw
/-- what comes at each place -/
def dlv (op : Int32) (kd fr to a b : Nat) (nw bg : Nat → Int32) : Nat → Int32 := fun c => if 12 * to + a ≤ c ∧ c < 12 * to + b then rcv op kd (nw c) (bg (12 * fr + (c - 12 * to))) else nw c
theorem dlv_0 (op : Int32) (kd fr to a : Nat) (nw bg : Nat → Int32) (j : Nat) : nw j = dlv op kd fr to a (a + 0) nw bg j := by
  simp only [dlv]
  rw [if_neg (by omega)]
theorem dlv_s (op : Int32) (kd fr to a i : Nat) (nw bg : Nat → Int32) (j : Nat) : upd (dlv op kd fr to a (a + i) nw bg) (12 * to + (a + i)) (rcv op kd (dlv op kd fr to a (a + i) nw bg (12 * to + (a + i))) (bg (12 * fr + (a + i)))) j = dlv op kd fr to a (a + (i + 1)) nw bg j := by
  simp only [upd]
  by_cases h : j = 12 * to + (a + i)
  · subst h
    rw [if_pos rfl]
    simp only [dlv]
    rw [if_neg (by omega), if_pos (by omega), show 12 * to + (a + i) - 12 * to = a + i by omega]
  · rw [if_neg h]
    simp only [dlv]
    by_cases q : 12 * to + a ≤ j ∧ j < 12 * to + (a + i)
    · rw [if_pos q, if_pos (by omega)]
    · rw [if_neg q, if_neg (by omega)]
def dl1 (op : Int32) (L : List (List Nat)) (k : Nat) (nw bg : Nat → Int32) : Nat → Int32 := dlv op (lt L k 5) (lt L k 1) (lt L k 2) (lt L k 3) (lt L k 3 + lt L k 4) nw bg
def ply (op : Int32) (L : List (List Nat)) (t : Nat) (x : Int32) (f : Nat → Int32) : Nat → (Nat → Int32) × (Nat → Int32)
  | 0 => (f, f)
  | k + 1 => (if lt L k 0 < t ∧ ¬ nI k = x then dl1 op L k (ply op L t x f k).1 (if k = 0 ∨ ¬ lt L k 0 = lt L (k - 1) 0 then (ply op L t x f k).1 else (ply op L t x f k).2) else (ply op L t x f k).1, if k = 0 ∨ ¬ lt L k 0 = lt L (k - 1) 0 then (ply op L t x f k).1 else (ply op L t x f k).2)
def pIn (op : Int32) (L : List (List Nat)) (t : Nat) (x : Int32) (f : Nat → Int32) (r k0 k : Nat) (B : Nat → Int32) : Prop :=
  (k = k0 ∧ B = (ply op L t x f k).1 ∧ (k = 0 ∨ ¬ r = lt L (k - 1) 0)) ∨ (k0 < k ∧ B = (ply op L t x f k).2 ∧ lt L (k - 1) 0 = r)
theorem pIn_b {op : Int32} {L : List (List Nat)} {t : Nat} {x : Int32} {f : Nat → Int32} {r k0 k : Nat} {B : Nat → Int32} (h : pIn op L t x f r k0 k B) (hr : lt L k 0 = r) : (if k = 0 ∨ ¬ lt L k 0 = lt L (k - 1) 0 then (ply op L t x f k).1 else (ply op L t x f k).2) = B := by
  rcases h with ⟨rfl, hb, h0⟩ | ⟨h1, hb, h2⟩
  · rw [if_pos (h0.imp id (fun q => by rw [hr]; exact q)), hb]
  · rw [if_neg (by rw [hr, h2]; omega), hb]
theorem pIn_s {op : Int32} {L : List (List Nat)} {t : Nat} {x : Int32} {f : Nat → Int32} {r k0 k : Nat} {B : Nat → Int32} (h : pIn op L t x f r k0 k B) (hk0 : k0 ≤ k) (hr : lt L k 0 = r) : pIn op L t x f r k0 (k + 1) B :=
  Or.inr ⟨by omega, (pIn_b h hr).symm, hr⟩
theorem ply_y {op : Int32} {L : List (List Nat)} {t : Nat} {x : Int32} {f : Nat → Int32} {r k0 k : Nat} {B : Nat → Int32} (h : pIn op L t x f r k0 k B) (hr : lt L k 0 = r) (ht : r < t) (hx : ¬ nI k = x) : (ply op L t x f (k + 1)).1 = dl1 op L k (ply op L t x f k).1 B := by
  have e : (ply op L t x f (k + 1)).1 = if lt L k 0 < t ∧ ¬ nI k = x then dl1 op L k (ply op L t x f k).1 (if k = 0 ∨ ¬ lt L k 0 = lt L (k - 1) 0 then (ply op L t x f k).1 else (ply op L t x f k).2) else (ply op L t x f k).1 := rfl
  rw [e, pIn_b h hr, if_pos ⟨by omega, hx⟩]
theorem ply_n {op : Int32} {L : List (List Nat)} {t : Nat} {x : Int32} {f : Nat → Int32} {k : Nat} (hx : ¬ (lt L k 0 < t ∧ ¬ nI k = x)) : (ply op L t x f (k + 1)).1 = (ply op L t x f k).1 := by
  have e : (ply op L t x f (k + 1)).1 = if lt L k 0 < t ∧ ¬ nI k = x then dl1 op L k (ply op L t x f k).1 (if k = 0 ∨ ¬ lt L k 0 = lt L (k - 1) 0 then (ply op L t x f k).1 else (ply op L t x f k).2) else (ply op L t x f k).1 := rfl
  rw [e, if_neg hx]
theorem ctg_mono {L : List (List Nat)} {R k : Nat} (hc : CTG L R) : ∀ j, k + j < L.length → lt L k 0 ≤ lt L (k + j) 0
  | 0, _ => Nat.le_refl _
  | j + 1, h => by
    have h1 := ctg_mono (k := k) hc j (by omega)
    have h2 := hc.2.2.1 (k + j) (by omega)
    rw [Nat.add_assoc] at h2
    omega
theorem ply_stop {op : Int32} {L : List (List Nat)} {R t : Nat} {x : Int32} {f : Nat → Int32} {k : Nat} (hc : CTG L R) (hk : k < L.length → t ≤ lt L k 0) : ∀ j, k + j ≤ L.length → (ply op L t x f (k + j)).1 = (ply op L t x f k).1
  | 0, _ => rfl
  | j + 1, h => by
    rw [← Nat.add_assoc, ply_n, ply_stop hc hk j (by omega)]
    have h1 := ctg_mono (k := k) hc j (by omega)
    have h2 := hk (by omega)
    omega
theorem ply_fin {op : Int32} {L : List (List Nat)} {R t r k : Nat} {x : Int32} {f : Nat → Int32} (hc : CTG L R) (hw : ∀ k, k < L.length → lt L k 0 < R) (he : edge L R r k) (hr : t ≤ r ∨ R ≤ r) : (ply op L t x f k).1 = (ply op L t x f L.length).1 := by
  have hkl := he.2.1
  have := ply_stop (op := op) (t := t) (x := x) (f := f) (k := k) hc (fun q => by
    have a := he.2.2.1 q
    have b := hw k q
    omega) (L.length - k) (by omega)
  rw [show k + (L.length - k) = L.length by omega] at this
  exact this.symm
