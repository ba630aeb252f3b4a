/-! ===== pure words of the writes ===== -/
def fil (f : Nat → Int32) (v : Int32) (i : Nat) : Nat → Int32 := fun j => if j < i then v else f j
theorem fil_0 (f : Nat → Int32) (v : Int32) (j : Nat) : f j = fil f v 0 j := by simp [fil]
theorem fil_s (f : Nat → Int32) (v : Int32) (i j : Nat) : upd (fil f v i) i v j = fil f v (i + 1) j := by
  simp only [upd, fil]
  by_cases h : j = i
  · rw [if_pos h, if_pos (by omega)]
  · rw [if_neg h]
    by_cases h2 : j < i
    · rw [if_pos h2, if_pos (by omega)]
    · rw [if_neg h2, if_neg (by omega)]
theorem fil_e {f : Nat → Int32} {v : Int32} {i j : Nat} (h : j < i) : fil f v i j = v := by simp [fil, h]
theorem cpy_all {f g : Nat → Int32} {n j : Nat} (h : j < n) : va_cpy f g 0 0 n j = f j := by simp [va_cpy, h]
def nF (f : Nat → Nat) : Nat → Int32 := fun i => nI (f i)
def updN (f : Nat → Nat) (k x : Nat) : Nat → Nat := fun j => if j = k then x else f j
theorem upd_nF (f : Nat → Nat) (k x : Nat) : upd (nF f) k (nI x) = nF (updN f k x) := by
  funext j
  simp only [upd, nF, updN]
  split <;> rfl
theorem lt_app {L : List (List Nat)} {x : List Nat} {k w : Nat} (hk : k < L.length) : lt (L ++ [x]) k w = lt L k w := by
  simp [lt, List.getD_eq_getElem?_getD, List.getElem?_append_left hk]
theorem lt_last {L : List (List Nat)} {x : List Nat} {w : Nat} : lt (L ++ [x]) L.length w = x.getD w 0 := by
  simp [lt, List.getD_eq_getElem?_getD]
theorem LTc_send {tb : Nat → Int32} {L : List (List Nat)} (h : LTc tb L) (a b c d e f : Nat) :
    LTc (upd (upd (upd (upd (upd (upd tb (L.length * 6 + 0) (nI a)) (L.length * 6 + 1) (nI b)) (L.length * 6 + 2) (nI c)) (L.length * 6 + 3) (nI d)) (L.length * 6 + 4) (nI e)) (L.length * 6 + 5) (nI f)) (L ++ [[a, b, c, d, e, f]]) := by
  intro k hk w hw
  rw [List.length_append] at hk
  have hk : k < L.length + 1 := hk
  by_cases e : k < L.length
  · rw [lt_app e, ← h k e w hw]
    simp only [upd]
    rw [if_neg (by omega), if_neg (by omega), if_neg (by omega), if_neg (by omega), if_neg (by omega), if_neg (by omega)]
  · obtain rfl : k = L.length := by omega
    rw [lt_last]
    simp only [upd]
    match w, hw with
    | 0, _ => rw [if_neg (by omega), if_neg (by omega), if_neg (by omega), if_neg (by omega), if_neg (by omega), if_pos (by omega)]; rfl
    | 1, _ => rw [if_neg (by omega), if_neg (by omega), if_neg (by omega), if_neg (by omega), if_pos (by omega)]; rfl
    | 2, _ => rw [if_neg (by omega), if_neg (by omega), if_neg (by omega), if_pos (by omega)]; rfl
    | 3, _ => rw [if_neg (by omega), if_neg (by omega), if_pos (by omega)]; rfl
    | 4, _ => rw [if_neg (by omega), if_pos (by omega)]; rfl
    | 5, _ => rw [if_pos (by omega)]; rfl
    | n + 6, h => exact absurd h (by omega)
theorem LTc_0 (tb : Nat → Int32) : LTc tb [] := fun k hk => absurd hk (Nat.not_lt_zero k)
