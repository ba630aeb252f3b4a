set_option maxHeartbeats 4000000 in
set_option maxRecDepth 100000 in
theorem c_J7_fill_53178 (l : Launch) (G : va_G) (cI cZ : ClassId) (a : Nat) (cnt : Nat) (f : Nat → Int32) (v : Int32) (hc : cnt < 2 ^ 31) : CM l G cI cZ yJ7_fill_53178 cJ7_fill_53178 4 none 0 0 0 0 [.ref a, .int v] [(a, .inl (cI, cnt, .inl f))] (fun ov_ wv_ => ov_ = none ∧ wv_ = [(a, .inl (cI, cnt, .inl (fun _ => v)))]) := by
  refine CM.of (own := RJ7) (by decide) rfl (Nat.le_of_ble_eq_true rfl) ?_
  intro p e R s m args below meth c Q A X hR hret hnm hA fin hd ls hl
  subst hR
  have hx := X.1
  have hb := X.2.1
  have hl : lv_has ls 4 [(0, .ref a), (1, .int v)] := hl
  refine lv_iconst (v := nI 0) hx hb dJ7_fill_53178_0 (by decide) ?_
  refine lv_istore_n (lv' := [(2, .int (nI 0)), (0, .ref a), (1, .int v)]) hx hb dJ7_fill_53178_1 rfl hl (by decide) rfl (fun ls hl => ?_)
  refine lv_aload_n hx hb dJ7_fill_53178_2 rfl (lv_at hl 1 rfl) ?_
  refine va_alen (v := nI cnt) hx hb X.2.2.2.2.2.2.1 hd.1 0 0 rfl rfl rfl dJ7_fill_53178_3 ?_
  refine lv_istore_n (lv' := [(3, .int (nI cnt)), (2, .int (nI 0)), (0, .ref a), (1, .int v)]) hx hb dJ7_fill_53178_4 rfl hl (by decide) rfl (fun ls hl => ?_)
  have LP5 : ∀ (fu : Nat) (i : Nat), (i ≤ cnt) → (cnt - i) < fu → ∀ (H : Heap) (locs : List Loc), Hd G A s.heap [(a, .inl (cI, cnt, .inl (fil f v i)))] H locs → ∀ (ls : Array Slot), lv_has ls 4 [(0, .ref a), (1, .int v), (2, .int (nI i)), (3, .int (nI cnt))] → W p l e ({ frames := 0, cells := 0, slots := 0, locals := 0 } : Room) s m args below meth c H locs 0 0 Q (F0 m 5 ls []) := by
    intro fu
    induction fu with
    | zero =>
      intro i hi hfu
      exact absurd hfu (Nat.not_lt_zero _)
    | succ fu ih5 =>
      intro i hi hfu H locs hd ls hl
      refine lv_iload_n hx hb dJ7_fill_53178_5 rfl (lv_at hl 2 rfl) ?_
      refine lv_iload_n hx hb dJ7_fill_53178_6 rfl (lv_at hl 3 rfl) ?_
      refine n_icmp_ge (tgt := 20) hx hb dJ7_fill_53178_7 (by decide) (by omega) (by omega) (fun c_7 => ?_) (fun c_7 => ?_)
      · have hd := hd.arr 0 rfl (fun _ => v) (fun j hj => fil_e (by omega))
        have hd : Hd G A s.heap [(a, .inl (cI, cnt, .inl (fun _ => v)))] H locs := hd
        exact (fin _ _ [(a, .inl (cI, cnt, .inl (fun _ => v)))] _ _ (hd.sub [0] rfl rfl)).1 rfl ⟨rfl, rfl⟩ dJ7_fill_53178_20
      · refine lv_aload_n hx hb dJ7_fill_53178_10 rfl (lv_at hl 0 rfl) ?_
        refine lv_iload_n hx hb dJ7_fill_53178_11 rfl (lv_at hl 2 rfl) ?_
        refine lv_iload_n hx hb dJ7_fill_53178_12 rfl (lv_at hl 1 rfl) ?_
        refine n_iast X hd 0 rfl (by omega) (hc) dJ7_fill_53178_13 (fun H locs hd => ?_)
        have hd : Hd G A s.heap [(a, .inl (cI, cnt, .inl (upd (fil f v i) i v)))] H locs := hd
        refine lv_iinc (v := nI (i + 1)) (lv' := [(2, .int (nI (i + 1))), (0, .ref a), (1, .int v), (3, .int (nI cnt))]) hx hb dJ7_fill_53178_14 hl (k := 2) rfl (nI_1 _) (by decide) rfl (fun ls hl => ?_)
        refine lv_goto (tgt := 5) hx hb dJ7_fill_53178_17 (by decide) ?_
        have hd := hd.arr 0 rfl (fil f v (i + 1)) (fun j _ => fil_s f v i j)
        have hd : Hd G A s.heap [(a, .inl (cI, cnt, .inl (fil f v (i + 1))))] H locs := hd
        exact ih5  (i + 1) (by omega) (by omega) _ _ (hd.sub [0] rfl rfl) _ (lv_sub hl [1, 2, 0, 3] rfl)
  have hd := hd.arr 0 rfl (fil f v 0) (fun j _ => fil_0 f v j)
  have hd : Hd G A s.heap [(a, .inl (cI, cnt, .inl (fil f v 0)))] s.heap [] := hd
  exact LP5 ((cnt - 0) + 1) 0 (Nat.zero_le _) (Nat.lt_succ_self _) _ _ (hd.sub [0] rfl rfl) _ (lv_sub hl [2, 3, 1, 0] rfl)

set_option maxHeartbeats 4000000 in
set_option maxRecDepth 100000 in
theorem c_X3_set (l : Launch) (G : va_G) (cI cZ : ClassId) (h0 : Nat) (h1 : Nat) (f : Nat → Int32) (a : Nat) (b : Nat) (v : Int32) (ha : a < 9) (hb1 : b < 12) : CM l G cI cZ yX3_set cX3_set 4 none 2 43 0 0 [.ref h0, .int (nI a), .int (nI b), .int v] [(h0, .inr (3, [.ref h1])), (h1, .inl (cI, 108, .inl f))] (fun ov_ wv_ => ov_ = none ∧ wv_ = [(h0, .inr (3, [.ref h1])), (h1, .inl (cI, 108, .inl (upd f (12 * a + b) v)))]) := by
  refine CM.of (own := RX3) (by decide) rfl (Nat.le_of_ble_eq_true rfl) ?_
  intro p e R s m args below meth c Q A X hR hret hnm hA fin hd ls hl
  subst hR
  have hx := X.1
  have hb := X.2.1
  have hl : lv_has ls 4 [(0, .ref h0), (1, .int (nI a)), (2, .int (nI b)), (3, .int v)] := hl
  refine lv_iload_n hx hb dX3_set_0 rfl (lv_at hl 1 rfl) ?_
  refine lv_iload_n hx hb dX3_set_1 rfl (lv_at hl 2 rfl) ?_
  refine cR_S (As := [.int (nI a), .int (nI b)]) (rest := []) X (c_X3_isInside l G cI cZ a b (by first | assumption | omega) (by first | assumption | omega)) lk_X3_15 (hd.1.sub (ws' := []) [] rfl) hl.1 rfl rfl (Nat.le_of_ble_eq_true rfl) ⟨Nat.le_of_ble_eq_true rfl, Nat.le_of_ble_eq_true rfl⟩ ⟨Nat.le_of_ble_eq_true rfl, Nat.le_of_ble_eq_true rfl⟩ dX3_set_2 ?_
  refine b_if_eq (tgt := 20) hx hb dX3_set_5 (by decide) (fun c_5 => ?_) (fun c_5 => ?_)
  · exact absurd ((rfl : true = true).symm.trans c_5) (by decide)
  · refine lv_aload_n hx hb dX3_set_8 rfl (lv_at hl 0 rfl) ?_
    refine x_get (C := RX3) (T := TX3) (N := 1) (ci := 3) 0 inT_X3 rfl (by decide) lf_X3_9 rfl X hd.1 0 rfl rfl dX3_set_9 ?_
    refine lv_iload_n hx hb dX3_set_12 rfl (lv_at hl 1 rfl) ?_
    refine lv_bipush (v := nI 12) hx hb dX3_set_13 (by decide) ?_
    refine n_mul hx hb dX3_set_15  ?_
    refine lv_iload_n hx hb dX3_set_16 rfl (lv_at hl 2 rfl) ?_
    refine n_add hx hb dX3_set_17  ?_
    refine lv_iload_n hx hb dX3_set_18 rfl (lv_at hl 3 rfl) ?_
    refine n_iast X hd 1 rfl (by omega) (by decide) dX3_set_19 (fun H locs hd => ?_)
    have hd : Hd G A s.heap [(h0, .inr (3, [.ref h1])), (h1, .inl (cI, 108, .inl (upd f ((a * 12) + b) v)))] H locs := hd
    exact (fin _ _ [(h0, .inr (3, [.ref h1])), (h1, .inl (cI, 108, .inl (upd f ((a * 12) + b) v)))] _ _ (hd.sub [0, 1] rfl rfl)).1 rfl ⟨rfl, by rw [Nat.mul_comm]⟩ dX3_set_20

set_option maxHeartbeats 4000000 in
set_option maxRecDepth 100000 in
theorem c_X3_clear (l : Launch) (G : va_G) (cI cZ : ClassId) (h0 : Nat) (h1 : Nat) (f : Nat → Int32) : CM l G cI cZ yX3_clear cX3_clear 1 none 1 23 0 0 [.ref h0] [(h0, .inr (3, [.ref h1])), (h1, .inl (cI, 108, .inl f))] (fun ov_ wv_ => ov_ = none ∧ wv_ = [(h0, .inr (3, [.ref h1])), (h1, .inl (cI, 108, .inl (fun _ => nI 0)))]) := by
  refine CM.of (own := RX3) (by decide) rfl (Nat.le_of_ble_eq_true rfl) ?_
  intro p e R s m args below meth c Q A X hR hret hnm hA fin hd ls hl
  subst hR
  have hx := X.1
  have hb := X.2.1
  have hl : lv_has ls 1 [(0, .ref h0)] := hl
  refine lv_aload_n hx hb dX3_clear_0 rfl (lv_at hl 0 rfl) ?_
  refine x_get (C := RX3) (T := TX3) (N := 1) (ci := 3) 0 inT_X3 rfl (by decide) lf_X3_9 rfl X hd.1 0 rfl rfl dX3_clear_1 ?_
  refine lv_iconst (v := nI 0) hx hb dX3_clear_4 (by decide) ?_
  refine cM_S (As := [.ref h1, .int (nI 0)]) (rest := []) (wr := [(h0, .inr (3, [.ref h1]))]) X (c_J7_fill_53178 l G cI cZ h1 108 f (nI 0) (by decide)) lk_X3_19 hd hA [1] [0] rfl rfl rfl rfl (by decide) hl.1 rfl rfl (Nat.le_of_ble_eq_true rfl) ⟨Nat.le_of_ble_eq_true rfl, Nat.le_of_ble_eq_true rfl⟩ ⟨Nat.le_of_ble_eq_true rfl, Nat.le_of_ble_eq_true rfl⟩ dX3_clear_5 (fun v w1 H locs hp hd => ?_)
  obtain ⟨rfl, rfl⟩ := hp
  have hd : Hd G A s.heap [(h0, .inr (3, [.ref h1])), (h1, .inl (cI, 108, .inl (fun _ => (nI 0))))] H locs := hd
  refine st_all (st' := []) rfl ?_
  exact (fin _ _ [(h0, .inr (3, [.ref h1])), (h1, .inl (cI, 108, .inl (fun _ => (nI 0))))] _ _ (hd.sub [0, 1] rfl rfl)).1 rfl ⟨rfl, by rfl⟩ dX3_clear_8

set_option maxHeartbeats 4000000 in
set_option maxRecDepth 100000 in
theorem c_X3_copyFrom (l : Launch) (G : va_G) (cI cZ : ClassId) (h0 : Nat) (h1 : Nat) (g0 : Nat) (g1 : Nat) (f : Nat → Int32) (g : Nat → Int32) : CM l G cI cZ yX3_copyFrom cX3_copyFrom 2 none 1 18 0 0 [.ref h0, .ref g0] [(h0, .inr (3, [.ref h1])), (h1, .inl (cI, 108, .inl f)), (g0, .inr (3, [.ref g1])), (g1, .inl (cI, 108, .inl g))] (fun ov_ wv_ => ov_ = none ∧ wv_ = [(h0, .inr (3, [.ref h1])), (h1, .inl (cI, 108, .inl g)), (g0, .inr (3, [.ref g1])), (g1, .inl (cI, 108, .inl g))]) := by
  refine CM.of (own := RX3) (by decide) rfl (Nat.le_of_ble_eq_true rfl) ?_
  intro p e R s m args below meth c Q A X hR hret hnm hA fin hd ls hl
  subst hR
  have hx := X.1
  have hb := X.2.1
  have hl : lv_has ls 2 [(0, .ref h0), (1, .ref g0)] := hl
  refine lv_aload_n hx hb dX3_copyFrom_0 rfl (lv_at hl 1 rfl) ?_
  refine x_get (C := RX3) (T := TX3) (N := 1) (ci := 3) 0 inT_X3 rfl (by decide) lf_X3_9 rfl X hd.1 2 rfl rfl dX3_copyFrom_1 ?_
  refine lv_iconst (v := nI 0) hx hb dX3_copyFrom_4 (by decide) ?_
  refine lv_aload_n hx hb dX3_copyFrom_5 rfl (lv_at hl 0 rfl) ?_
  refine x_get (C := RX3) (T := TX3) (N := 1) (ci := 3) 0 inT_X3 rfl (by decide) lf_X3_9 rfl X hd.1 0 rfl rfl dX3_copyFrom_6 ?_
  refine lv_iconst (v := nI 0) hx hb dX3_copyFrom_9 (by decide) ?_
  refine lv_bipush (v := nI 108) hx hb dX3_copyFrom_10 (by decide) ?_
  refine x_copy X hd 3 1 rfl rfl (by decide) (by decide) (by decide) (by decide) (by decide) lo_X3_25 w_acN w_acS w_sysI (by decide) (Nat.le_of_ble_eq_true rfl) (by rw [X.2.2.1]; exact hl.1.symm) dX3_copyFrom_12 (fun H locs hd => ?_)
  have hd : Hd G A s.heap [(h0, .inr (3, [.ref h1])), (h1, .inl (cI, 108, .inl (va_cpy g f 0 0 108))), (g0, .inr (3, [.ref g1])), (g1, .inl (cI, 108, .inl g))] H locs := hd
  have hd := hd.arr 1 rfl g (fun j hj => cpy_all hj)
  have hd : Hd G A s.heap [(h0, .inr (3, [.ref h1])), (h1, .inl (cI, 108, .inl g)), (g0, .inr (3, [.ref g1])), (g1, .inl (cI, 108, .inl g))] H locs := hd
  exact (fin _ _ [(h0, .inr (3, [.ref h1])), (h1, .inl (cI, 108, .inl g)), (g0, .inr (3, [.ref g1])), (g1, .inl (cI, 108, .inl g))] _ _ (hd.sub [0, 1, 2, 3] rfl rfl)).1 rfl ⟨rfl, rfl⟩ dX3_copyFrom_15

set_option maxHeartbeats 4000000 in
set_option maxRecDepth 100000 in
theorem c_X4_begin (l : Launch) (G : va_G) (cI cZ : ClassId) (h0 : Nat) (hr : Nat) (ra : Nat) (hs : Nat) (f : Nat → Int32) (g : Nat → Int32) (n : Nat) (z : Nat) (op : Int32) (st : Int32) (ea : Int32) (n2 : Nat) (z2 : Nat) : CM l G cI cZ yX4_begin cX4_begin 3 none 2 43 0 0 [.ref h0, .int (nI n2), .int (nI z2)] [(h0, .inr (4, [.ref hr, .ref hs, .int (nI n), .int (nI z), .int op, .int st, .int ea])), (hr, .inr (3, [.ref ra])), (ra, .inl (cI, 108, .inl f)), (hs, .inl (cI, 81, .inl g))] (fun ov_ wv_ => ov_ = none ∧ wv_ = [(h0, .inr (4, [.ref hr, .ref hs, .int (nI n2), .int (nI z2), .int op, .int st, .int ea])), (hr, .inr (3, [.ref ra])), (ra, .inl (cI, 108, .inl (fun _ => nI 0))), (hs, .inl (cI, 81, .inl (fun _ => nI 1)))]) := by
  refine CM.of (own := RX4) (by decide) rfl (Nat.le_of_ble_eq_true rfl) ?_
  intro p e R s m args below meth c Q A X hR hret hnm hA fin hd ls hl
  subst hR
  have hx := X.1
  have hb := X.2.1
  have hl : lv_has ls 3 [(0, .ref h0), (1, .int (nI n2)), (2, .int (nI z2))] := hl
  refine lv_aload_n hx hb dX4_begin_0 rfl (lv_at hl 0 rfl) ?_
  refine lv_iload_n hx hb dX4_begin_1 rfl (lv_at hl 1 rfl) ?_
  refine x_put (C := RX4) (T := TX4) (N := 7) (ci := 4) (ty := .int) 2 inT_X4 tyX4 tyX4_ok nmX4 rfl (by decide) lf_X4_22 rfl rfl (by decide +kernel) X hd 0 rfl rfl rfl (Nat.le_of_ble_eq_true rfl) dX4_begin_2 (fun H locs hd => ?_)
  have hd : Hd G A s.heap [(h0, .inr (4, [.ref hr, .ref hs, .int (nI n2), .int (nI z), .int op, .int st, .int ea])), (hr, .inr (3, [.ref ra])), (ra, .inl (cI, 108, .inl f)), (hs, .inl (cI, 81, .inl g))] H locs := hd
  refine lv_aload_n hx hb dX4_begin_5 rfl (lv_at hl 0 rfl) ?_
  refine lv_iload_n hx hb dX4_begin_6 rfl (lv_at hl 2 rfl) ?_
  refine x_put (C := RX4) (T := TX4) (N := 7) (ci := 4) (ty := .int) 3 inT_X4 tyX4 tyX4_ok nmX4 rfl (by decide) lf_X4_26 rfl rfl (by decide +kernel) X hd 0 rfl rfl rfl (Nat.le_of_ble_eq_true rfl) dX4_begin_7 (fun H locs hd => ?_)
  have hd : Hd G A s.heap [(h0, .inr (4, [.ref hr, .ref hs, .int (nI n2), .int (nI z2), .int op, .int st, .int ea])), (hr, .inr (3, [.ref ra])), (ra, .inl (cI, 108, .inl f)), (hs, .inl (cI, 81, .inl g))] H locs := hd
  refine lv_aload_n hx hb dX4_begin_10 rfl (lv_at hl 0 rfl) ?_
  refine x_get (C := RX4) (T := TX4) (N := 7) (ci := 4) 0 inT_X4 rfl (by decide) lf_X4_12 rfl X hd.1 0 rfl rfl dX4_begin_11 ?_
  refine cM_V (As := []) (rest := []) (wr := [(h0, .inr (4, [.ref hr, .ref hs, .int (nI n2), .int (nI z2), .int op, .int st, .int ea])), (hs, .inl (cI, 81, .inl g))]) X (c_X3_clear l G cI cZ hr ra f ) lk_X4_44 hd hA [1, 2] [0, 3] rfl rfl rfl rfl (by decide) rfl rfl hl.1 rfl rfl (Nat.le_of_ble_eq_true rfl) ⟨Nat.le_of_ble_eq_true rfl, Nat.le_of_ble_eq_true rfl⟩ ⟨Nat.le_of_ble_eq_true rfl, Nat.le_of_ble_eq_true rfl⟩ dX4_begin_14 (fun v w1 H locs hp hd => ?_)
  obtain ⟨rfl, rfl⟩ := hp
  have hd : Hd G A s.heap [(h0, .inr (4, [.ref hr, .ref hs, .int (nI n2), .int (nI z2), .int op, .int st, .int ea])), (hs, .inl (cI, 81, .inl g)), (hr, .inr (3, [.ref ra])), (ra, .inl (cI, 108, .inl (fun _ => nI 0)))] H locs := hd
  refine st_all (st' := []) rfl ?_
  refine lv_aload_n hx hb dX4_begin_17 rfl (lv_at hl 0 rfl) ?_
  refine x_get (C := RX4) (T := TX4) (N := 7) (ci := 4) 1 inT_X4 rfl (by decide) lf_X4_18 rfl X hd.1 0 rfl rfl dX4_begin_18 ?_
  refine lv_iconst (v := nI 1) hx hb dX4_begin_21 (by decide) ?_
  refine cM_S (As := [.ref hs, .int (nI 1)]) (rest := []) (wr := [(h0, .inr (4, [.ref hr, .ref hs, .int (nI n2), .int (nI z2), .int op, .int st, .int ea])), (hr, .inr (3, [.ref ra])), (ra, .inl (cI, 108, .inl (fun _ => nI 0)))]) X (c_J7_fill_53178 l G cI cZ hs 81 g (nI 1) (by decide)) lk_X4_38 hd hA [1] [0, 2, 3] rfl rfl rfl rfl (by decide) hl.1 rfl rfl (Nat.le_of_ble_eq_true rfl) ⟨Nat.le_of_ble_eq_true rfl, Nat.le_of_ble_eq_true rfl⟩ ⟨Nat.le_of_ble_eq_true rfl, Nat.le_of_ble_eq_true rfl⟩ dX4_begin_22 (fun v w1 H locs hp hd => ?_)
  obtain ⟨rfl, rfl⟩ := hp
  have hd : Hd G A s.heap [(h0, .inr (4, [.ref hr, .ref hs, .int (nI n2), .int (nI z2), .int op, .int st, .int ea])), (hr, .inr (3, [.ref ra])), (ra, .inl (cI, 108, .inl (fun _ => nI 0))), (hs, .inl (cI, 81, .inl (fun _ => (nI 1))))] H locs := hd
  refine st_all (st' := []) rfl ?_
  exact (fin _ _ [(h0, .inr (4, [.ref hr, .ref hs, .int (nI n2), .int (nI z2), .int op, .int st, .int ea])), (hr, .inr (3, [.ref ra])), (ra, .inl (cI, 108, .inl (fun _ => nI 0))), (hs, .inl (cI, 81, .inl (fun _ => (nI 1))))] _ _ (hd.sub [0, 1, 2, 3] rfl rfl)).1 rfl ⟨rfl, by rfl⟩ dX4_begin_25

set_option maxHeartbeats 4000000 in
set_option maxRecDepth 100000 in
theorem c_X4_copyFrom (l : Launch) (G : va_G) (cI cZ : ClassId) (h0 : Nat) (hr : Nat) (ra : Nat) (hs : Nat) (f : Nat → Int32) (g : Nat → Int32) (n : Nat) (z : Nat) (op : Int32) (st : Int32) (ea : Int32) (j0 : Nat) (jr : Nat) (ja : Nat) (js : Nat) (f2 : Nat → Int32) (g2 : Nat → Int32) (n2 : Nat) (z2 : Nat) (op2 : Int32) (st2 : Int32) (ea2 : Int32) : CM l G cI cZ yX4_copyFrom cX4_copyFrom 2 none 2 39 0 0 [.ref h0, .ref j0] [(h0, .inr (4, [.ref hr, .ref hs, .int (nI n), .int (nI z), .int op, .int st, .int ea])), (hr, .inr (3, [.ref ra])), (ra, .inl (cI, 108, .inl f)), (hs, .inl (cI, 81, .inl g)), (j0, .inr (4, [.ref jr, .ref js, .int (nI n2), .int (nI z2), .int op2, .int st2, .int ea2])), (jr, .inr (3, [.ref ja])), (ja, .inl (cI, 108, .inl f2)), (js, .inl (cI, 81, .inl g2))] (fun ov_ wv_ => ov_ = none ∧ wv_ = [(h0, .inr (4, [.ref hr, .ref hs, .int (nI n2), .int (nI z2), .int op2, .int st2, .int ea2])), (hr, .inr (3, [.ref ra])), (ra, .inl (cI, 108, .inl f2)), (hs, .inl (cI, 81, .inl g2)), (j0, .inr (4, [.ref jr, .ref js, .int (nI n2), .int (nI z2), .int op2, .int st2, .int ea2])), (jr, .inr (3, [.ref ja])), (ja, .inl (cI, 108, .inl f2)), (js, .inl (cI, 81, .inl g2))]) := by
  refine CM.of (own := RX4) (by decide) rfl (Nat.le_of_ble_eq_true rfl) ?_
  intro p e R s m args below meth c Q A X hR hret hnm hA fin hd ls hl
  subst hR
  have hx := X.1
  have hb := X.2.1
  have hl : lv_has ls 2 [(0, .ref h0), (1, .ref j0)] := hl
  refine lv_aload_n hx hb dX4_copyFrom_0 rfl (lv_at hl 0 rfl) ?_
  refine lv_aload_n hx hb dX4_copyFrom_1 rfl (lv_at hl 1 rfl) ?_
  refine x_get (C := RX4) (T := TX4) (N := 7) (ci := 4) 2 inT_X4 rfl (by decide) lf_X4_22 rfl X hd.1 4 rfl rfl dX4_copyFrom_2 ?_
  refine x_put (C := RX4) (T := TX4) (N := 7) (ci := 4) (ty := .int) 2 inT_X4 tyX4 tyX4_ok nmX4 rfl (by decide) lf_X4_22 rfl rfl (by decide +kernel) X hd 0 rfl rfl rfl (Nat.le_of_ble_eq_true rfl) dX4_copyFrom_5 (fun H locs hd => ?_)
  have hd : Hd G A s.heap [(h0, .inr (4, [.ref hr, .ref hs, .int (nI n2), .int (nI z), .int op, .int st, .int ea])), (hr, .inr (3, [.ref ra])), (ra, .inl (cI, 108, .inl f)), (hs, .inl (cI, 81, .inl g)), (j0, .inr (4, [.ref jr, .ref js, .int (nI n2), .int (nI z2), .int op2, .int st2, .int ea2])), (jr, .inr (3, [.ref ja])), (ja, .inl (cI, 108, .inl f2)), (js, .inl (cI, 81, .inl g2))] H locs := hd
  refine lv_aload_n hx hb dX4_copyFrom_8 rfl (lv_at hl 0 rfl) ?_
  refine lv_aload_n hx hb dX4_copyFrom_9 rfl (lv_at hl 1 rfl) ?_
  refine x_get (C := RX4) (T := TX4) (N := 7) (ci := 4) 3 inT_X4 rfl (by decide) lf_X4_26 rfl X hd.1 4 rfl rfl dX4_copyFrom_10 ?_
  refine x_put (C := RX4) (T := TX4) (N := 7) (ci := 4) (ty := .int) 3 inT_X4 tyX4 tyX4_ok nmX4 rfl (by decide) lf_X4_26 rfl rfl (by decide +kernel) X hd 0 rfl rfl rfl (Nat.le_of_ble_eq_true rfl) dX4_copyFrom_13 (fun H locs hd => ?_)
  have hd : Hd G A s.heap [(h0, .inr (4, [.ref hr, .ref hs, .int (nI n2), .int (nI z2), .int op, .int st, .int ea])), (hr, .inr (3, [.ref ra])), (ra, .inl (cI, 108, .inl f)), (hs, .inl (cI, 81, .inl g)), (j0, .inr (4, [.ref jr, .ref js, .int (nI n2), .int (nI z2), .int op2, .int st2, .int ea2])), (jr, .inr (3, [.ref ja])), (ja, .inl (cI, 108, .inl f2)), (js, .inl (cI, 81, .inl g2))] H locs := hd
  refine lv_aload_n hx hb dX4_copyFrom_16 rfl (lv_at hl 0 rfl) ?_
  refine lv_aload_n hx hb dX4_copyFrom_17 rfl (lv_at hl 1 rfl) ?_
  refine x_get (C := RX4) (T := TX4) (N := 7) (ci := 4) 4 inT_X4 rfl (by decide) lf_X4_29 rfl X hd.1 4 rfl rfl dX4_copyFrom_18 ?_
  refine x_put (C := RX4) (T := TX4) (N := 7) (ci := 4) (ty := .int) 4 inT_X4 tyX4 tyX4_ok nmX4 rfl (by decide) lf_X4_29 rfl rfl (by decide +kernel) X hd 0 rfl rfl rfl (Nat.le_of_ble_eq_true rfl) dX4_copyFrom_21 (fun H locs hd => ?_)
  have hd : Hd G A s.heap [(h0, .inr (4, [.ref hr, .ref hs, .int (nI n2), .int (nI z2), .int op2, .int st, .int ea])), (hr, .inr (3, [.ref ra])), (ra, .inl (cI, 108, .inl f)), (hs, .inl (cI, 81, .inl g)), (j0, .inr (4, [.ref jr, .ref js, .int (nI n2), .int (nI z2), .int op2, .int st2, .int ea2])), (jr, .inr (3, [.ref ja])), (ja, .inl (cI, 108, .inl f2)), (js, .inl (cI, 81, .inl g2))] H locs := hd
  refine lv_aload_n hx hb dX4_copyFrom_24 rfl (lv_at hl 0 rfl) ?_
  refine lv_aload_n hx hb dX4_copyFrom_25 rfl (lv_at hl 1 rfl) ?_
  refine x_get (C := RX4) (T := TX4) (N := 7) (ci := 4) 5 inT_X4 rfl (by decide) lf_X4_32 rfl X hd.1 4 rfl rfl dX4_copyFrom_26 ?_
  refine x_put (C := RX4) (T := TX4) (N := 7) (ci := 4) (ty := .int) 5 inT_X4 tyX4 tyX4_ok nmX4 rfl (by decide) lf_X4_32 rfl rfl (by decide +kernel) X hd 0 rfl rfl rfl (Nat.le_of_ble_eq_true rfl) dX4_copyFrom_29 (fun H locs hd => ?_)
  have hd : Hd G A s.heap [(h0, .inr (4, [.ref hr, .ref hs, .int (nI n2), .int (nI z2), .int op2, .int st2, .int ea])), (hr, .inr (3, [.ref ra])), (ra, .inl (cI, 108, .inl f)), (hs, .inl (cI, 81, .inl g)), (j0, .inr (4, [.ref jr, .ref js, .int (nI n2), .int (nI z2), .int op2, .int st2, .int ea2])), (jr, .inr (3, [.ref ja])), (ja, .inl (cI, 108, .inl f2)), (js, .inl (cI, 81, .inl g2))] H locs := hd
  refine lv_aload_n hx hb dX4_copyFrom_32 rfl (lv_at hl 0 rfl) ?_
  refine lv_aload_n hx hb dX4_copyFrom_33 rfl (lv_at hl 1 rfl) ?_
  refine x_get (C := RX4) (T := TX4) (N := 7) (ci := 4) 6 inT_X4 rfl (by decide) lf_X4_35 rfl X hd.1 4 rfl rfl dX4_copyFrom_34 ?_
  refine x_put (C := RX4) (T := TX4) (N := 7) (ci := 4) (ty := .int) 6 inT_X4 tyX4 tyX4_ok nmX4 rfl (by decide) lf_X4_35 rfl rfl (by decide +kernel) X hd 0 rfl rfl rfl (Nat.le_of_ble_eq_true rfl) dX4_copyFrom_37 (fun H locs hd => ?_)
  have hd : Hd G A s.heap [(h0, .inr (4, [.ref hr, .ref hs, .int (nI n2), .int (nI z2), .int op2, .int st2, .int ea2])), (hr, .inr (3, [.ref ra])), (ra, .inl (cI, 108, .inl f)), (hs, .inl (cI, 81, .inl g)), (j0, .inr (4, [.ref jr, .ref js, .int (nI n2), .int (nI z2), .int op2, .int st2, .int ea2])), (jr, .inr (3, [.ref ja])), (ja, .inl (cI, 108, .inl f2)), (js, .inl (cI, 81, .inl g2))] H locs := hd
  refine lv_aload_n hx hb dX4_copyFrom_40 rfl (lv_at hl 0 rfl) ?_
  refine x_get (C := RX4) (T := TX4) (N := 7) (ci := 4) 0 inT_X4 rfl (by decide) lf_X4_12 rfl X hd.1 0 rfl rfl dX4_copyFrom_41 ?_
  refine lv_aload_n hx hb dX4_copyFrom_44 rfl (lv_at hl 1 rfl) ?_
  refine x_get (C := RX4) (T := TX4) (N := 7) (ci := 4) 0 inT_X4 rfl (by decide) lf_X4_12 rfl X hd.1 4 rfl rfl dX4_copyFrom_45 ?_
  refine cM_V (As := [.ref jr]) (rest := []) (wr := [(h0, .inr (4, [.ref hr, .ref hs, .int (nI n2), .int (nI z2), .int op2, .int st2, .int ea2])), (hs, .inl (cI, 81, .inl g)), (j0, .inr (4, [.ref jr, .ref js, .int (nI n2), .int (nI z2), .int op2, .int st2, .int ea2])), (js, .inl (cI, 81, .inl g2))]) X (c_X3_copyFrom l G cI cZ hr ra jr ja f f2 ) lk_X4_47 hd hA [1, 2, 5, 6] [0, 3, 4, 7] rfl rfl rfl rfl (by decide) rfl rfl hl.1 rfl rfl (Nat.le_of_ble_eq_true rfl) ⟨Nat.le_of_ble_eq_true rfl, Nat.le_of_ble_eq_true rfl⟩ ⟨Nat.le_of_ble_eq_true rfl, Nat.le_of_ble_eq_true rfl⟩ dX4_copyFrom_48 (fun v w1 H locs hp hd => ?_)
  obtain ⟨rfl, rfl⟩ := hp
  have hd : Hd G A s.heap [(h0, .inr (4, [.ref hr, .ref hs, .int (nI n2), .int (nI z2), .int op2, .int st2, .int ea2])), (hs, .inl (cI, 81, .inl g)), (j0, .inr (4, [.ref jr, .ref js, .int (nI n2), .int (nI z2), .int op2, .int st2, .int ea2])), (js, .inl (cI, 81, .inl g2)), (hr, .inr (3, [.ref ra])), (ra, .inl (cI, 108, .inl f2)), (jr, .inr (3, [.ref ja])), (ja, .inl (cI, 108, .inl f2))] H locs := hd
  refine st_all (st' := []) rfl ?_
  refine lv_aload_n hx hb dX4_copyFrom_51 rfl (lv_at hl 1 rfl) ?_
  refine x_get (C := RX4) (T := TX4) (N := 7) (ci := 4) 1 inT_X4 rfl (by decide) lf_X4_18 rfl X hd.1 2 rfl rfl dX4_copyFrom_52 ?_
  refine lv_iconst (v := nI 0) hx hb dX4_copyFrom_55 (by decide) ?_
  refine lv_aload_n hx hb dX4_copyFrom_56 rfl (lv_at hl 0 rfl) ?_
  refine x_get (C := RX4) (T := TX4) (N := 7) (ci := 4) 1 inT_X4 rfl (by decide) lf_X4_18 rfl X hd.1 0 rfl rfl dX4_copyFrom_57 ?_
  refine lv_iconst (v := nI 0) hx hb dX4_copyFrom_60 (by decide) ?_
  refine lv_bipush (v := nI 81) hx hb dX4_copyFrom_61 (by decide) ?_
  refine x_copy X hd 3 1 rfl rfl (by decide) (by decide) (by decide) (by decide) (by decide) lo_X4_51 w_acN w_acS w_sysI (by decide) (Nat.le_of_ble_eq_true rfl) (by rw [X.2.2.1]; exact hl.1.symm) dX4_copyFrom_63 (fun H locs hd => ?_)
  have hd : Hd G A s.heap [(h0, .inr (4, [.ref hr, .ref hs, .int (nI n2), .int (nI z2), .int op2, .int st2, .int ea2])), (hs, .inl (cI, 81, .inl (va_cpy g2 g 0 0 81))), (j0, .inr (4, [.ref jr, .ref js, .int (nI n2), .int (nI z2), .int op2, .int st2, .int ea2])), (js, .inl (cI, 81, .inl g2)), (hr, .inr (3, [.ref ra])), (ra, .inl (cI, 108, .inl f2)), (jr, .inr (3, [.ref ja])), (ja, .inl (cI, 108, .inl f2))] H locs := hd
  have hd := hd.arr 1 rfl g2 (fun j hj => cpy_all hj)
  have hd : Hd G A s.heap [(h0, .inr (4, [.ref hr, .ref hs, .int (nI n2), .int (nI z2), .int op2, .int st2, .int ea2])), (hs, .inl (cI, 81, .inl g2)), (j0, .inr (4, [.ref jr, .ref js, .int (nI n2), .int (nI z2), .int op2, .int st2, .int ea2])), (js, .inl (cI, 81, .inl g2)), (hr, .inr (3, [.ref ra])), (ra, .inl (cI, 108, .inl f2)), (jr, .inr (3, [.ref ja])), (ja, .inl (cI, 108, .inl f2))] H locs := hd
  exact (fin _ _ [(h0, .inr (4, [.ref hr, .ref hs, .int (nI n2), .int (nI z2), .int op2, .int st2, .int ea2])), (hr, .inr (3, [.ref ra])), (ra, .inl (cI, 108, .inl f2)), (hs, .inl (cI, 81, .inl g2)), (j0, .inr (4, [.ref jr, .ref js, .int (nI n2), .int (nI z2), .int op2, .int st2, .int ea2])), (jr, .inr (3, [.ref ja])), (ja, .inl (cI, 108, .inl f2)), (js, .inl (cI, 81, .inl g2))] _ _ (hd.sub [0, 4, 5, 1, 2, 6, 7, 3] rfl rfl)).1 rfl ⟨rfl, rfl⟩ dX4_copyFrom_66

set_option maxHeartbeats 4000000 in
set_option maxRecDepth 100000 in
theorem c_X4_setSlowness (l : Launch) (G : va_G) (cI cZ : ClassId) (h0 : Nat) (hr : Nat) (hs : Nat) (g : Nat → Int32) (n : Nat) (z : Nat) (op : Int32) (st : Int32) (ea : Int32) (a : Nat) (b : Nat) (v : Int32) (ha : a < 9) (hb1 : b < 9) : CM l G cI cZ yX4_setSlowness cX4_setSlowness 4 none 2 43 0 0 [.ref h0, .int (nI a), .int (nI b), .int v] [(h0, .inr (4, [.ref hr, .ref hs, .int (nI n), .int (nI z), .int op, .int st, .int ea])), (hs, .inl (cI, 81, .inl g))] (fun ov_ wv_ => ov_ = none ∧ wv_ = [(h0, .inr (4, [.ref hr, .ref hs, .int (nI n), .int (nI z), .int op, .int st, .int ea])), (hs, .inl (cI, 81, .inl (upd (upd g (9 * a + b) v) (9 * b + a) v)))]) := by
  refine CM.of (own := RX4) (by decide) rfl (Nat.le_of_ble_eq_true rfl) ?_
  intro p e R s m args below meth c Q A X hR hret hnm hA fin hd ls hl
  subst hR
  have hx := X.1
  have hb := X.2.1
  have hl : lv_has ls 4 [(0, .ref h0), (1, .int (nI a)), (2, .int (nI b)), (3, .int v)] := hl
  refine lv_iload_n hx hb dX4_setSlowness_0 rfl (lv_at hl 1 rfl) ?_
  refine lv_iload_n hx hb dX4_setSlowness_1 rfl (lv_at hl 2 rfl) ?_
  refine cR_S (As := [.int (nI a), .int (nI b)]) (rest := []) X (c_X4_hasLine l G cI cZ a b (by first | assumption | omega) (by first | assumption | omega)) lk_X4_61 (hd.1.sub (ws' := []) [] rfl) hl.1 rfl rfl (Nat.le_of_ble_eq_true rfl) ⟨Nat.le_of_ble_eq_true rfl, Nat.le_of_ble_eq_true rfl⟩ ⟨Nat.le_of_ble_eq_true rfl, Nat.le_of_ble_eq_true rfl⟩ dX4_setSlowness_2 ?_
  refine b_if_eq (tgt := 32) hx hb dX4_setSlowness_5 (by decide) (fun c_5 => ?_) (fun c_5 => ?_)
  · exact absurd ((rfl : true = true).symm.trans c_5) (by decide)
  · refine lv_aload_n hx hb dX4_setSlowness_8 rfl (lv_at hl 0 rfl) ?_
    refine x_get (C := RX4) (T := TX4) (N := 7) (ci := 4) 1 inT_X4 rfl (by decide) lf_X4_18 rfl X hd.1 0 rfl rfl dX4_setSlowness_9 ?_
    refine lv_iload_n hx hb dX4_setSlowness_12 rfl (lv_at hl 1 rfl) ?_
    refine lv_bipush (v := nI 9) hx hb dX4_setSlowness_13 (by decide) ?_
    refine n_mul hx hb dX4_setSlowness_15  ?_
    refine lv_iload_n hx hb dX4_setSlowness_16 rfl (lv_at hl 2 rfl) ?_
    refine n_add hx hb dX4_setSlowness_17  ?_
    refine lv_iload_n hx hb dX4_setSlowness_18 rfl (lv_at hl 3 rfl) ?_
    refine n_iast X hd 1 rfl (by omega) (by decide) dX4_setSlowness_19 (fun H locs hd => ?_)
    have hd : Hd G A s.heap [(h0, .inr (4, [.ref hr, .ref hs, .int (nI n), .int (nI z), .int op, .int st, .int ea])), (hs, .inl (cI, 81, .inl (upd g ((a * 9) + b) v)))] H locs := hd
    refine lv_aload_n hx hb dX4_setSlowness_20 rfl (lv_at hl 0 rfl) ?_
    refine x_get (C := RX4) (T := TX4) (N := 7) (ci := 4) 1 inT_X4 rfl (by decide) lf_X4_18 rfl X hd.1 0 rfl rfl dX4_setSlowness_21 ?_
    refine lv_iload_n hx hb dX4_setSlowness_24 rfl (lv_at hl 2 rfl) ?_
    refine lv_bipush (v := nI 9) hx hb dX4_setSlowness_25 (by decide) ?_
    refine n_mul hx hb dX4_setSlowness_27  ?_
    refine lv_iload_n hx hb dX4_setSlowness_28 rfl (lv_at hl 1 rfl) ?_
    refine n_add hx hb dX4_setSlowness_29  ?_
    refine lv_iload_n hx hb dX4_setSlowness_30 rfl (lv_at hl 3 rfl) ?_
    refine n_iast X hd 1 rfl (by omega) (by decide) dX4_setSlowness_31 (fun H locs hd => ?_)
    have hd : Hd G A s.heap [(h0, .inr (4, [.ref hr, .ref hs, .int (nI n), .int (nI z), .int op, .int st, .int ea])), (hs, .inl (cI, 81, .inl (upd (upd g ((a * 9) + b) v) ((b * 9) + a) v)))] H locs := hd
    exact (fin _ _ [(h0, .inr (4, [.ref hr, .ref hs, .int (nI n), .int (nI z), .int op, .int st, .int ea])), (hs, .inl (cI, 81, .inl (upd (upd g ((a * 9) + b) v) ((b * 9) + a) v)))] _ _ (hd.sub [0, 1] rfl rfl)).1 rfl ⟨rfl, by rw [Nat.mul_comm a 9, Nat.mul_comm b 9]⟩ dX4_setSlowness_32

set_option maxHeartbeats 4000000 in
set_option maxRecDepth 100000 in
theorem c_X0_charge (l : Launch) (G : va_G) (cI cZ : ClassId) (h0 : Nat) (hr : Nat) (ha : Nat) (tm : Int32) (lr : Nat) (r : Nat → Int32) (g : Nat → Int32) (k : Nat) (v : Int32) (hk : k < 9) : CM l G cI cZ yX0_charge cX0_charge 3 none 1 22 0 0 [.ref h0, .int (nI k), .int v] [(h0, .inr (0, [.ref hr, .ref ha, .int tm, .int (nI lr)])), (hr, .inl (cI, 9, .inl r)), (ha, .inl (cI, 9, .inl g))] (fun ov_ wv_ => ov_ = none ∧ wv_ = [(h0, .inr (0, [.ref hr, .ref ha, .int tm, .int (nI lr)])), (hr, .inl (cI, 9, .inl (upd r k (r k + v)))), (ha, .inl (cI, 9, .inl (upd g k (g k + v))))]) := by
  refine CM.of (own := RX0) (by decide) rfl (Nat.le_of_ble_eq_true rfl) ?_
  intro p e R s m args below meth c Q A X hR hret hnm hA fin hd ls hl
  subst hR
  have hx := X.1
  have hb := X.2.1
  have hl : lv_has ls 3 [(0, .ref h0), (1, .int (nI k)), (2, .int v)] := hl
  refine lv_iload_n hx hb dX0_charge_0 rfl (lv_at hl 1 rfl) ?_
  refine lv_iconst (v := nI 0) hx hb dX0_charge_1 (by decide) ?_
  refine lv_bipush (v := nI 8) hx hb dX0_charge_2 (by decide) ?_
  refine cR_SN (As := [.int (nI k), .int (nI 0), .int (nI 8)]) (rest := []) X (c_X5_isWithin l G cI cZ (nI k) (nI 0) (nI 8) ) lk_X0_57 (hd.1.sub (ws' := []) [] rfl) hl.1 rfl rfl (Nat.le_of_ble_eq_true rfl) ⟨Nat.le_of_ble_eq_true rfl, Nat.le_of_ble_eq_true rfl⟩ ⟨Nat.le_of_ble_eq_true rfl, Nat.le_of_ble_eq_true rfl⟩ dX0_charge_4 ?_
  refine st_eq (show (b2i (inB (nI k) (nI 0) (nI 8)) : Int32) = b2i true from congrArg b2i (inB_tt (by omega) (by omega) (by omega))) ?_
  refine b_if_eq (tgt := 30) hx hb dX0_charge_7 (by decide) (fun c_7 => ?_) (fun c_7 => ?_)
  · exact absurd ((rfl : true = true).symm.trans c_7) (by decide)
  · refine lv_aload_n hx hb dX0_charge_10 rfl (lv_at hl 0 rfl) ?_
    refine x_get (C := RX0) (T := TX0) (N := 4) (ci := 0) 0 inT_X0 rfl (by decide) lf_X0_9 rfl X hd.1 0 rfl rfl dX0_charge_11 ?_
    refine lv_iload_n hx hb dX0_charge_14 rfl (lv_at hl 1 rfl) ?_
    refine lv_dup2_11 hx hb dX0_charge_15 rfl rfl ?_
    refine n_iald X hd.1 1 rfl (by omega) (by decide) dX0_charge_16 ?_
    refine lv_iload_n hx hb dX0_charge_17 rfl (lv_at hl 2 rfl) ?_
    refine lv_iadd hx hb dX0_charge_18 ?_
    refine n_iast X hd 1 rfl (by omega) (by decide) dX0_charge_19 (fun H locs hd => ?_)
    have hd : Hd G A s.heap [(h0, .inr (0, [.ref hr, .ref ha, .int tm, .int (nI lr)])), (hr, .inl (cI, 9, .inl (upd r k ((r k) + v)))), (ha, .inl (cI, 9, .inl g))] H locs := hd
    refine lv_aload_n hx hb dX0_charge_20 rfl (lv_at hl 0 rfl) ?_
    refine x_get (C := RX0) (T := TX0) (N := 4) (ci := 0) 1 inT_X0 rfl (by decide) lf_X0_15 rfl X hd.1 0 rfl rfl dX0_charge_21 ?_
    refine lv_iload_n hx hb dX0_charge_24 rfl (lv_at hl 1 rfl) ?_
    refine lv_dup2_11 hx hb dX0_charge_25 rfl rfl ?_
    refine n_iald X hd.1 2 rfl (by omega) (by decide) dX0_charge_26 ?_
    refine lv_iload_n hx hb dX0_charge_27 rfl (lv_at hl 2 rfl) ?_
    refine lv_iadd hx hb dX0_charge_28 ?_
    refine n_iast X hd 2 rfl (by omega) (by decide) dX0_charge_29 (fun H locs hd => ?_)
    have hd : Hd G A s.heap [(h0, .inr (0, [.ref hr, .ref ha, .int tm, .int (nI lr)])), (hr, .inl (cI, 9, .inl (upd r k ((r k) + v)))), (ha, .inl (cI, 9, .inl (upd g k ((g k) + v))))] H locs := hd
    exact (fin _ _ [(h0, .inr (0, [.ref hr, .ref ha, .int tm, .int (nI lr)])), (hr, .inl (cI, 9, .inl (upd r k ((r k) + v)))), (ha, .inl (cI, 9, .inl (upd g k ((g k) + v))))] _ _ (hd.sub [0, 1, 2] rfl rfl)).1 rfl ⟨rfl, by rfl⟩ dX0_charge_30

set_option maxHeartbeats 4000000 in
set_option maxRecDepth 100000 in
theorem c_X3_init (l : Launch) (G : va_G) (cI cZ : ClassId) (h0 : Nat) : CM l G cI cZ yX3_init cX3_init 1 none 1 12 1 108 [.ref h0] [(h0, .inr (3, [.null]))] (fun ov_ wv_ => ∃ h1 : Nat, ov_ = none ∧ wv_ = [(h0, .inr (3, [.ref h1])), (h1, .inl (cI, 108, .inl (fun _ => 0)))]) := by
  refine CM.of (own := RX3) (by decide) rfl (Nat.le_of_ble_eq_true rfl) ?_
  intro p e R s m args below meth c Q A X hR hret hnm hA fin hd ls hl
  subst hR
  have hx := X.1
  have hb := X.2.1
  have hl : lv_has ls 1 [(0, .ref h0)] := hl
  refine lv_aload_n hx hb dX3_init_0 rfl (lv_at hl 0 rfl) ?_
  refine W.objInit hx hb X.2.2.2.1 (X.2.2.2.2.1 _ lo_X3_3) (X.2.2.2.2.1 _ w_objI) (X.2.2.2.2.1 _ w_objC) rfl (by rw [X.2.2.1]; exact hl.1) rfl dX3_init_1 (by decide) (Nat.le_of_ble_eq_true rfl) ?_
  refine W.eq (g2 := F0 m 4 ls []) rfl ?_
  refine lv_aload_n hx hb dX3_init_4 rfl (lv_at hl 0 rfl) ?_
  refine lv_bipush (v := nI 108) hx hb dX3_init_5 (by decide) ?_
  refine x_newaI X hd hA (N := 108) (by decide) (by decide) (by decide) (by decide) dX3_init_7 w_arrI (fun q_1 H locs hd => ?_)
  have hd : Hd G A s.heap [(h0, .inr (3, [.null])), (q_1, .inl (cI, 108, .inl (fun _ => 0)))] H locs := hd
  refine W.widen (k := 1) (n := 108) (by decide) (by decide) ?_
  refine x_putF (C := RX3) (T := TX3) (N := 1) (ci := 3) (ty := (.array .int)) 0 inT_X3 tyX3 tyX3_ok nmX3 rfl (by decide) lf_X3_9 rfl rfl (by decide +kernel) rfl hnm X hd 0 rfl rfl rfl (Nat.le_of_ble_eq_true rfl) dX3_init_9 (fun H locs hd => ?_)
  have hd : Hd G A s.heap [(h0, .inr (3, [.ref q_1])), (q_1, .inl (cI, 108, .inl (fun _ => 0)))] H locs := hd
  refine W.widen (k := 1) (n := 108) (by decide) (by decide) ?_
  exact (fin _ _ [(h0, .inr (3, [.ref q_1])), (q_1, .inl (cI, 108, .inl (fun _ => 0)))] _ _ (hd.sub [0, 1] rfl rfl)).1 rfl ⟨q_1, rfl, rfl⟩ dX3_init_12

set_option maxHeartbeats 4000000 in
set_option maxRecDepth 100000 in
theorem c_X4_init (l : Launch) (G : va_G) (cI cZ : ClassId) (h0 : Nat) : CM l G cI cZ yX4_init cX4_init 1 none 2 32 3 190 [.ref h0] [(h0, .inr (4, [.null, .null, .int (nI 0), .int (nI 0), .int (nI 0), .int (nI 0), .int (nI 0)]))] (fun ov_ wv_ => ∃ hr : Nat, ∃ ra : Nat, ∃ hs : Nat, ov_ = none ∧ wv_ = [(h0, .inr (4, [.ref hr, .ref hs, .int (nI 4), .int (nI 4), .int (nI 0), .int (nI 5), .int (nI 1)])), (hr, .inr (3, [.ref ra])), (ra, .inl (cI, 108, .inl (fun _ => 0))), (hs, .inl (cI, 81, .inl (fun _ => nI 1)))]) := by
  refine CM.of (own := RX4) (by decide) rfl (Nat.le_of_ble_eq_true rfl) ?_
  intro p e R s m args below meth c Q A X hR hret hnm hA fin hd ls hl
  subst hR
  have hx := X.1
  have hb := X.2.1
  have hl : lv_has ls 1 [(0, .ref h0)] := hl
  refine lv_aload_n hx hb dX4_init_0 rfl (lv_at hl 0 rfl) ?_
  refine W.objInit hx hb X.2.2.2.1 (X.2.2.2.2.1 _ lo_X4_3) (X.2.2.2.2.1 _ w_objI) (X.2.2.2.2.1 _ w_objC) rfl (by rw [X.2.2.1]; exact hl.1) rfl dX4_init_1 (by decide) (Nat.le_of_ble_eq_true rfl) ?_
  refine W.eq (g2 := F0 m 4 ls []) rfl ?_
  refine lv_aload_n hx hb dX4_init_4 rfl (lv_at hl 0 rfl) ?_
  refine x_new (C := RX3) (T := TX3) (N := 1) (ci := 3) (fs := [.null]) inT_X3 tyX3 tyX3_ok lc_X4_9 w_inst_X3 w_ini_X3 rfl (fun j hj => by match j, hj with | 0, _ => rfl | n + 1, h => exact absurd h (by omega)) X hd hA (by decide) (by decide) dX4_init_5 (fun q_1 H hd => ?_)
  have hd : Hd G A s.heap [(h0, .inr (4, [.null, .null, .int (nI 0), .int (nI 0), .int (nI 0), .int (nI 0), .int (nI 0)])), (q_1, .inr (3, [.null]))] H [] := hd
  refine W.widen (k := 1) (n := 1) (by decide) (by decide) ?_
  refine lv_dup hx hb dX4_init_8 rfl ?_
  refine cM_IN (As := []) (rest := [.ref q_1, .ref h0]) (wr := [(h0, .inr (4, [.null, .null, .int (nI 0), .int (nI 0), .int (nI 0), .int (nI 0), .int (nI 0)]))]) X (c_X3_init l G cI cZ q_1 ) lk_X4_11 hd hA [1] [0] rfl rfl rfl rfl (by decide) hl.1 rfl rfl (Nat.le_of_ble_eq_true rfl) ⟨Nat.le_of_ble_eq_true rfl, Nat.le_of_ble_eq_true rfl⟩ ⟨Nat.le_of_ble_eq_true rfl, Nat.le_of_ble_eq_true rfl⟩ dX4_init_9 (fun v w1 H locs hp hd => ?_)
  obtain ⟨qra, rfl, rfl⟩ := hp
  have hd : Hd G A s.heap [(h0, .inr (4, [.null, .null, .int (nI 0), .int (nI 0), .int (nI 0), .int (nI 0), .int (nI 0)])), (q_1, .inr (3, [.ref qra])), (qra, .inl (cI, 108, .inl (fun _ => 0)))] H locs := hd
  refine st_all (st' := [.ref q_1, .ref h0]) rfl ?_
  refine W.widen (k := 2) (n := 109) (by decide) (by decide) ?_
  refine x_putF (C := RX4) (T := TX4) (N := 7) (ci := 4) (ty := (.object "SumsForAll$Rows")) 0 inT_X4 tyX4 tyX4_ok nmX4 rfl (by decide) lf_X4_12 rfl rfl (by decide +kernel) rfl hnm X hd 0 rfl rfl rfl (Nat.le_of_ble_eq_true rfl) dX4_init_12 (fun H locs hd => ?_)
  have hd : Hd G A s.heap [(h0, .inr (4, [.ref q_1, .null, .int (nI 0), .int (nI 0), .int (nI 0), .int (nI 0), .int (nI 0)])), (q_1, .inr (3, [.ref qra])), (qra, .inl (cI, 108, .inl (fun _ => 0)))] H locs := hd
  refine lv_aload_n hx hb dX4_init_15 rfl (lv_at hl 0 rfl) ?_
  refine lv_bipush (v := nI 81) hx hb dX4_init_16 (by decide) ?_
  refine x_newaI X hd hA (N := 81) (by decide) (by decide) (by decide) (by decide) dX4_init_18 w_arrI (fun q_2 H locs hd => ?_)
  have hd : Hd G A s.heap [(h0, .inr (4, [.ref q_1, .null, .int (nI 0), .int (nI 0), .int (nI 0), .int (nI 0), .int (nI 0)])), (q_1, .inr (3, [.ref qra])), (qra, .inl (cI, 108, .inl (fun _ => 0))), (q_2, .inl (cI, 81, .inl (fun _ => 0)))] H locs := hd
  refine W.widen (k := 3) (n := 190) (by decide) (by decide) ?_
  refine x_putF (C := RX4) (T := TX4) (N := 7) (ci := 4) (ty := (.array .int)) 1 inT_X4 tyX4 tyX4_ok nmX4 rfl (by decide) lf_X4_18 rfl rfl (by decide +kernel) rfl hnm X hd 0 rfl rfl rfl (Nat.le_of_ble_eq_true rfl) dX4_init_20 (fun H locs hd => ?_)
  have hd : Hd G A s.heap [(h0, .inr (4, [.ref q_1, .ref q_2, .int (nI 0), .int (nI 0), .int (nI 0), .int (nI 0), .int (nI 0)])), (q_1, .inr (3, [.ref qra])), (qra, .inl (cI, 108, .inl (fun _ => 0))), (q_2, .inl (cI, 81, .inl (fun _ => 0)))] H locs := hd
  refine lv_aload_n hx hb dX4_init_23 rfl (lv_at hl 0 rfl) ?_
  refine lv_iconst (v := nI 4) hx hb dX4_init_24 (by decide) ?_
  refine x_put (C := RX4) (T := TX4) (N := 7) (ci := 4) (ty := .int) 2 inT_X4 tyX4 tyX4_ok nmX4 rfl (by decide) lf_X4_22 rfl rfl (by decide +kernel) X hd 0 rfl rfl rfl (Nat.le_of_ble_eq_true rfl) dX4_init_25 (fun H locs hd => ?_)
  have hd : Hd G A s.heap [(h0, .inr (4, [.ref q_1, .ref q_2, .int (nI 4), .int (nI 0), .int (nI 0), .int (nI 0), .int (nI 0)])), (q_1, .inr (3, [.ref qra])), (qra, .inl (cI, 108, .inl (fun _ => 0))), (q_2, .inl (cI, 81, .inl (fun _ => 0)))] H locs := hd
  refine lv_aload_n hx hb dX4_init_28 rfl (lv_at hl 0 rfl) ?_
  refine lv_iconst (v := nI 4) hx hb dX4_init_29 (by decide) ?_
  refine x_put (C := RX4) (T := TX4) (N := 7) (ci := 4) (ty := .int) 3 inT_X4 tyX4 tyX4_ok nmX4 rfl (by decide) lf_X4_26 rfl rfl (by decide +kernel) X hd 0 rfl rfl rfl (Nat.le_of_ble_eq_true rfl) dX4_init_30 (fun H locs hd => ?_)
  have hd : Hd G A s.heap [(h0, .inr (4, [.ref q_1, .ref q_2, .int (nI 4), .int (nI 4), .int (nI 0), .int (nI 0), .int (nI 0)])), (q_1, .inr (3, [.ref qra])), (qra, .inl (cI, 108, .inl (fun _ => 0))), (q_2, .inl (cI, 81, .inl (fun _ => 0)))] H locs := hd
  refine lv_aload_n hx hb dX4_init_33 rfl (lv_at hl 0 rfl) ?_
  refine lv_iconst (v := nI 0) hx hb dX4_init_34 (by decide) ?_
  refine x_put (C := RX4) (T := TX4) (N := 7) (ci := 4) (ty := .int) 4 inT_X4 tyX4 tyX4_ok nmX4 rfl (by decide) lf_X4_29 rfl rfl (by decide +kernel) X hd 0 rfl rfl rfl (Nat.le_of_ble_eq_true rfl) dX4_init_35 (fun H locs hd => ?_)
  have hd : Hd G A s.heap [(h0, .inr (4, [.ref q_1, .ref q_2, .int (nI 4), .int (nI 4), .int (nI 0), .int (nI 0), .int (nI 0)])), (q_1, .inr (3, [.ref qra])), (qra, .inl (cI, 108, .inl (fun _ => 0))), (q_2, .inl (cI, 81, .inl (fun _ => 0)))] H locs := hd
  refine lv_aload_n hx hb dX4_init_38 rfl (lv_at hl 0 rfl) ?_
  refine lv_iconst (v := nI 5) hx hb dX4_init_39 (by decide) ?_
  refine x_put (C := RX4) (T := TX4) (N := 7) (ci := 4) (ty := .int) 5 inT_X4 tyX4 tyX4_ok nmX4 rfl (by decide) lf_X4_32 rfl rfl (by decide +kernel) X hd 0 rfl rfl rfl (Nat.le_of_ble_eq_true rfl) dX4_init_40 (fun H locs hd => ?_)
  have hd : Hd G A s.heap [(h0, .inr (4, [.ref q_1, .ref q_2, .int (nI 4), .int (nI 4), .int (nI 0), .int (nI 5), .int (nI 0)])), (q_1, .inr (3, [.ref qra])), (qra, .inl (cI, 108, .inl (fun _ => 0))), (q_2, .inl (cI, 81, .inl (fun _ => 0)))] H locs := hd
  refine lv_aload_n hx hb dX4_init_43 rfl (lv_at hl 0 rfl) ?_
  refine lv_iconst (v := nI 1) hx hb dX4_init_44 (by decide) ?_
  refine x_put (C := RX4) (T := TX4) (N := 7) (ci := 4) (ty := .int) 6 inT_X4 tyX4 tyX4_ok nmX4 rfl (by decide) lf_X4_35 rfl rfl (by decide +kernel) X hd 0 rfl rfl rfl (Nat.le_of_ble_eq_true rfl) dX4_init_45 (fun H locs hd => ?_)
  have hd : Hd G A s.heap [(h0, .inr (4, [.ref q_1, .ref q_2, .int (nI 4), .int (nI 4), .int (nI 0), .int (nI 5), .int (nI 1)])), (q_1, .inr (3, [.ref qra])), (qra, .inl (cI, 108, .inl (fun _ => 0))), (q_2, .inl (cI, 81, .inl (fun _ => 0)))] H locs := hd
  refine lv_aload_n hx hb dX4_init_48 rfl (lv_at hl 0 rfl) ?_
  refine x_get (C := RX4) (T := TX4) (N := 7) (ci := 4) 1 inT_X4 rfl (by decide) lf_X4_18 rfl X hd.1 0 rfl rfl dX4_init_49 ?_
  refine lv_iconst (v := nI 1) hx hb dX4_init_52 (by decide) ?_
  refine cM_S (As := [.ref q_2, .int (nI 1)]) (rest := []) (wr := [(h0, .inr (4, [.ref q_1, .ref q_2, .int (nI 4), .int (nI 4), .int (nI 0), .int (nI 5), .int (nI 1)])), (q_1, .inr (3, [.ref qra])), (qra, .inl (cI, 108, .inl (fun _ => 0)))]) X (c_J7_fill_53178 l G cI cZ q_2 81 (fun _ => 0) (nI 1) (by decide)) lk_X4_38 hd hA [3] [0, 1, 2] rfl rfl rfl rfl (by decide) hl.1 rfl rfl (Nat.le_of_ble_eq_true rfl) ⟨Nat.le_of_ble_eq_true rfl, Nat.le_of_ble_eq_true rfl⟩ ⟨Nat.le_of_ble_eq_true rfl, Nat.le_of_ble_eq_true rfl⟩ dX4_init_53 (fun v w1 H locs hp hd => ?_)
  obtain ⟨rfl, rfl⟩ := hp
  have hd : Hd G A s.heap [(h0, .inr (4, [.ref q_1, .ref q_2, .int (nI 4), .int (nI 4), .int (nI 0), .int (nI 5), .int (nI 1)])), (q_1, .inr (3, [.ref qra])), (qra, .inl (cI, 108, .inl (fun _ => 0))), (q_2, .inl (cI, 81, .inl (fun _ => (nI 1))))] H locs := hd
  refine st_all (st' := []) rfl ?_
  refine W.widen (k := 3) (n := 190) (by decide) (by decide) ?_
  exact (fin _ _ [(h0, .inr (4, [.ref q_1, .ref q_2, .int (nI 4), .int (nI 4), .int (nI 0), .int (nI 5), .int (nI 1)])), (q_1, .inr (3, [.ref qra])), (qra, .inl (cI, 108, .inl (fun _ => 0))), (q_2, .inl (cI, 81, .inl (fun _ => (nI 1))))] _ _ (hd.sub [0, 1, 2, 3] rfl rfl)).1 rfl ⟨q_1, qra, q_2, rfl, by rfl⟩ dX4_init_56

set_option maxHeartbeats 4000000 in
set_option maxRecDepth 100000 in
theorem c_X2_init (l : Launch) (G : va_G) (cI cZ : ClassId) (h0 : Nat) : CM l G cI cZ yX2_init cX2_init 1 none 2 32 4 218 [.ref h0] [(h0, .inr (2, [.null, .null]))] (fun ov_ wv_ => ∃ hr : Nat, ∃ ra : Nat, ∃ hs : Nat, ∃ sa_ : Nat, ov_ = none ∧ wv_ = [(h0, .inr (2, [.ref hr, .ref hs])), (hr, .inr (3, [.ref ra])), (ra, .inl (cI, 108, .inl (fun _ => 0))), (hs, .inr (3, [.ref sa_])), (sa_, .inl (cI, 108, .inl (fun _ => 0)))]) := by
  refine CM.of (own := RX2) (by decide) rfl (Nat.le_of_ble_eq_true rfl) ?_
  intro p e R s m args below meth c Q A X hR hret hnm hA fin hd ls hl
  subst hR
  have hx := X.1
  have hb := X.2.1
  have hl : lv_has ls 1 [(0, .ref h0)] := hl
  refine lv_aload_n hx hb dX2_init_0 rfl (lv_at hl 0 rfl) ?_
  refine W.objInit hx hb X.2.2.2.1 (X.2.2.2.2.1 _ lo_X2_3) (X.2.2.2.2.1 _ w_objI) (X.2.2.2.2.1 _ w_objC) rfl (by rw [X.2.2.1]; exact hl.1) rfl dX2_init_1 (by decide) (Nat.le_of_ble_eq_true rfl) ?_
  refine W.eq (g2 := F0 m 4 ls []) rfl ?_
  refine lv_aload_n hx hb dX2_init_4 rfl (lv_at hl 0 rfl) ?_
  refine x_new (C := RX3) (T := TX3) (N := 1) (ci := 3) (fs := [.null]) inT_X3 tyX3 tyX3_ok lc_X2_9 w_inst_X3 w_ini_X3 rfl (fun j hj => by match j, hj with | 0, _ => rfl | n + 1, h => exact absurd h (by omega)) X hd hA (by decide) (by decide) dX2_init_5 (fun q_1 H hd => ?_)
  have hd : Hd G A s.heap [(h0, .inr (2, [.null, .null])), (q_1, .inr (3, [.null]))] H [] := hd
  refine W.widen (k := 1) (n := 1) (by decide) (by decide) ?_
  refine lv_dup hx hb dX2_init_8 rfl ?_
  refine cM_IN (As := []) (rest := [.ref q_1, .ref h0]) (wr := [(h0, .inr (2, [.null, .null]))]) X (c_X3_init l G cI cZ q_1 ) lk_X2_11 hd hA [1] [0] rfl rfl rfl rfl (by decide) hl.1 rfl rfl (Nat.le_of_ble_eq_true rfl) ⟨Nat.le_of_ble_eq_true rfl, Nat.le_of_ble_eq_true rfl⟩ ⟨Nat.le_of_ble_eq_true rfl, Nat.le_of_ble_eq_true rfl⟩ dX2_init_9 (fun v w1 H locs hp hd => ?_)
  obtain ⟨qra, rfl, rfl⟩ := hp
  have hd : Hd G A s.heap [(h0, .inr (2, [.null, .null])), (q_1, .inr (3, [.ref qra])), (qra, .inl (cI, 108, .inl (fun _ => 0)))] H locs := hd
  refine st_all (st' := [.ref q_1, .ref h0]) rfl ?_
  refine W.widen (k := 2) (n := 109) (by decide) (by decide) ?_
  refine x_putF (C := RX2) (T := TX2) (N := 2) (ci := 2) (ty := (.object "SumsForAll$Rows")) 0 inT_X2 tyX2 tyX2_ok nmX2 rfl (by decide) lf_X2_12 rfl rfl (by decide +kernel) rfl hnm X hd 0 rfl rfl rfl (Nat.le_of_ble_eq_true rfl) dX2_init_12 (fun H locs hd => ?_)
  have hd : Hd G A s.heap [(h0, .inr (2, [.ref q_1, .null])), (q_1, .inr (3, [.ref qra])), (qra, .inl (cI, 108, .inl (fun _ => 0)))] H locs := hd
  refine lv_aload_n hx hb dX2_init_15 rfl (lv_at hl 0 rfl) ?_
  refine x_new (C := RX3) (T := TX3) (N := 1) (ci := 3) (fs := [.null]) inT_X3 tyX3 tyX3_ok lc_X2_9 w_inst_X3 w_ini_X3 rfl (fun j hj => by match j, hj with | 0, _ => rfl | n + 1, h => exact absurd h (by omega)) X hd hA (by decide) (by decide) dX2_init_16 (fun q_2 H hd => ?_)
  have hd : Hd G A s.heap [(h0, .inr (2, [.ref q_1, .null])), (q_1, .inr (3, [.ref qra])), (qra, .inl (cI, 108, .inl (fun _ => 0))), (q_2, .inr (3, [.null]))] H locs := hd
  refine W.widen (k := 3) (n := 110) (by decide) (by decide) ?_
  refine lv_dup hx hb dX2_init_19 rfl ?_
  refine cM_IN (As := []) (rest := [.ref q_2, .ref h0]) (wr := [(h0, .inr (2, [.ref q_1, .null])), (q_1, .inr (3, [.ref qra])), (qra, .inl (cI, 108, .inl (fun _ => 0)))]) X (c_X3_init l G cI cZ q_2 ) lk_X2_11 hd hA [3] [0, 1, 2] rfl rfl rfl rfl (by decide) hl.1 rfl rfl (Nat.le_of_ble_eq_true rfl) ⟨Nat.le_of_ble_eq_true rfl, Nat.le_of_ble_eq_true rfl⟩ ⟨Nat.le_of_ble_eq_true rfl, Nat.le_of_ble_eq_true rfl⟩ dX2_init_20 (fun v w1 H locs hp hd => ?_)
  obtain ⟨qsa, rfl, rfl⟩ := hp
  have hd : Hd G A s.heap [(h0, .inr (2, [.ref q_1, .null])), (q_1, .inr (3, [.ref qra])), (qra, .inl (cI, 108, .inl (fun _ => 0))), (q_2, .inr (3, [.ref qsa])), (qsa, .inl (cI, 108, .inl (fun _ => 0)))] H locs := hd
  refine st_all (st' := [.ref q_2, .ref h0]) rfl ?_
  refine W.widen (k := 4) (n := 218) (by decide) (by decide) ?_
  refine x_putF (C := RX2) (T := TX2) (N := 2) (ci := 2) (ty := (.object "SumsForAll$Rows")) 1 inT_X2 tyX2 tyX2_ok nmX2 rfl (by decide) lf_X2_18 rfl rfl (by decide +kernel) rfl hnm X hd 0 rfl rfl rfl (Nat.le_of_ble_eq_true rfl) dX2_init_23 (fun H locs hd => ?_)
  have hd : Hd G A s.heap [(h0, .inr (2, [.ref q_1, .ref q_2])), (q_1, .inr (3, [.ref qra])), (qra, .inl (cI, 108, .inl (fun _ => 0))), (q_2, .inr (3, [.ref qsa])), (qsa, .inl (cI, 108, .inl (fun _ => 0)))] H locs := hd
  refine W.widen (k := 4) (n := 218) (by decide) (by decide) ?_
  exact (fin _ _ [(h0, .inr (2, [.ref q_1, .ref q_2])), (q_1, .inr (3, [.ref qra])), (qra, .inl (cI, 108, .inl (fun _ => 0))), (q_2, .inr (3, [.ref qsa])), (qsa, .inl (cI, 108, .inl (fun _ => 0)))] _ _ (hd.sub [0, 1, 2, 3, 4] rfl rfl)).1 rfl ⟨q_1, qra, q_2, qsa, rfl, rfl⟩ dX2_init_26

set_option maxHeartbeats 4000000 in
set_option maxRecDepth 100000 in
theorem c_X1_init (l : Launch) (G : va_G) (cI cZ : ClassId) (h0 : Nat) : CM l G cI cZ yX1_init cX1_init 1 none 1 12 3 882 [.ref h0] [(h0, .inr (1, [.null, .int (nI 0), .int (nI 0), .int (nI 0), .int (nI 0), .null, .null]))] (fun ov_ wv_ => ∃ ht : Nat, ∃ qa : Nat, ∃ qb : Nat, ov_ = none ∧ wv_ = [(h0, .inr (1, [.ref ht, .int (nI 0), .int (nI 0), .int (nI 0), .int (nI 0), .ref qa, .ref qb])), (ht, .inl (cI, 864, .inl (fun _ => 0))), (qa, .inl (cI, 9, .inl (fun _ => 0))), (qb, .inl (cI, 9, .inl (fun _ => 0)))]) := by
  refine CM.of (own := RX1) (by decide) rfl (Nat.le_of_ble_eq_true rfl) ?_
  intro p e R s m args below meth c Q A X hR hret hnm hA fin hd ls hl
  subst hR
  have hx := X.1
  have hb := X.2.1
  have hl : lv_has ls 1 [(0, .ref h0)] := hl
  refine lv_aload_n hx hb dX1_init_0 rfl (lv_at hl 0 rfl) ?_
  refine W.objInit hx hb X.2.2.2.1 (X.2.2.2.2.1 _ lo_X1_3) (X.2.2.2.2.1 _ w_objI) (X.2.2.2.2.1 _ w_objC) rfl (by rw [X.2.2.1]; exact hl.1) rfl dX1_init_1 (by decide) (Nat.le_of_ble_eq_true rfl) ?_
  refine W.eq (g2 := F0 m 4 ls []) rfl ?_
  refine lv_aload_n hx hb dX1_init_4 rfl (lv_at hl 0 rfl) ?_
  refine lv_sipush (v := nI 864) hx hb dX1_init_5 (by decide) ?_
  refine x_newaI X hd hA (N := 864) (by decide) (by decide) (by decide) (by decide) dX1_init_8 w_arrI (fun q_1 H locs hd => ?_)
  have hd : Hd G A s.heap [(h0, .inr (1, [.null, .int (nI 0), .int (nI 0), .int (nI 0), .int (nI 0), .null, .null])), (q_1, .inl (cI, 864, .inl (fun _ => 0)))] H locs := hd
  refine W.widen (k := 1) (n := 864) (by decide) (by decide) ?_
  refine x_putF (C := RX1) (T := TX1) (N := 7) (ci := 1) (ty := (.array .int)) 0 inT_X1 tyX1 tyX1_ok nmX1 rfl (by decide) lf_X1_9 rfl rfl (by decide +kernel) rfl hnm X hd 0 rfl rfl rfl (Nat.le_of_ble_eq_true rfl) dX1_init_10 (fun H locs hd => ?_)
  have hd : Hd G A s.heap [(h0, .inr (1, [.ref q_1, .int (nI 0), .int (nI 0), .int (nI 0), .int (nI 0), .null, .null])), (q_1, .inl (cI, 864, .inl (fun _ => 0)))] H locs := hd
  refine lv_aload_n hx hb dX1_init_13 rfl (lv_at hl 0 rfl) ?_
  refine lv_iconst (v := nI 0) hx hb dX1_init_14 (by decide) ?_
  refine x_put (C := RX1) (T := TX1) (N := 7) (ci := 1) (ty := .int) 1 inT_X1 tyX1 tyX1_ok nmX1 rfl (by decide) lf_X1_15 rfl rfl (by decide +kernel) X hd 0 rfl rfl rfl (Nat.le_of_ble_eq_true rfl) dX1_init_15 (fun H locs hd => ?_)
  have hd : Hd G A s.heap [(h0, .inr (1, [.ref q_1, .int (nI 0), .int (nI 0), .int (nI 0), .int (nI 0), .null, .null])), (q_1, .inl (cI, 864, .inl (fun _ => 0)))] H locs := hd
  refine lv_aload_n hx hb dX1_init_18 rfl (lv_at hl 0 rfl) ?_
  refine lv_iconst (v := nI 0) hx hb dX1_init_19 (by decide) ?_
  refine x_put (C := RX1) (T := TX1) (N := 7) (ci := 1) (ty := .int) 2 inT_X1 tyX1 tyX1_ok nmX1 rfl (by decide) lf_X1_19 rfl rfl (by decide +kernel) X hd 0 rfl rfl rfl (Nat.le_of_ble_eq_true rfl) dX1_init_20 (fun H locs hd => ?_)
  have hd : Hd G A s.heap [(h0, .inr (1, [.ref q_1, .int (nI 0), .int (nI 0), .int (nI 0), .int (nI 0), .null, .null])), (q_1, .inl (cI, 864, .inl (fun _ => 0)))] H locs := hd
  refine lv_aload_n hx hb dX1_init_23 rfl (lv_at hl 0 rfl) ?_
  refine lv_iconst (v := nI 0) hx hb dX1_init_24 (by decide) ?_
  refine x_put (C := RX1) (T := TX1) (N := 7) (ci := 1) (ty := .int) 3 inT_X1 tyX1 tyX1_ok nmX1 rfl (by decide) lf_X1_22 rfl rfl (by decide +kernel) X hd 0 rfl rfl rfl (Nat.le_of_ble_eq_true rfl) dX1_init_25 (fun H locs hd => ?_)
  have hd : Hd G A s.heap [(h0, .inr (1, [.ref q_1, .int (nI 0), .int (nI 0), .int (nI 0), .int (nI 0), .null, .null])), (q_1, .inl (cI, 864, .inl (fun _ => 0)))] H locs := hd
  refine lv_aload_n hx hb dX1_init_28 rfl (lv_at hl 0 rfl) ?_
  refine lv_iconst (v := nI 0) hx hb dX1_init_29 (by decide) ?_
  refine x_put (C := RX1) (T := TX1) (N := 7) (ci := 1) (ty := .int) 4 inT_X1 tyX1 tyX1_ok nmX1 rfl (by decide) lf_X1_25 rfl rfl (by decide +kernel) X hd 0 rfl rfl rfl (Nat.le_of_ble_eq_true rfl) dX1_init_30 (fun H locs hd => ?_)
  have hd : Hd G A s.heap [(h0, .inr (1, [.ref q_1, .int (nI 0), .int (nI 0), .int (nI 0), .int (nI 0), .null, .null])), (q_1, .inl (cI, 864, .inl (fun _ => 0)))] H locs := hd
  refine lv_aload_n hx hb dX1_init_33 rfl (lv_at hl 0 rfl) ?_
  refine lv_bipush (v := nI 9) hx hb dX1_init_34 (by decide) ?_
  refine x_newaI X hd hA (N := 9) (by decide) (by decide) (by decide) (by decide) dX1_init_36 w_arrI (fun q_2 H locs hd => ?_)
  have hd : Hd G A s.heap [(h0, .inr (1, [.ref q_1, .int (nI 0), .int (nI 0), .int (nI 0), .int (nI 0), .null, .null])), (q_1, .inl (cI, 864, .inl (fun _ => 0))), (q_2, .inl (cI, 9, .inl (fun _ => 0)))] H locs := hd
  refine W.widen (k := 2) (n := 873) (by decide) (by decide) ?_
  refine x_putF (C := RX1) (T := TX1) (N := 7) (ci := 1) (ty := (.array .int)) 5 inT_X1 tyX1 tyX1_ok nmX1 rfl (by decide) lf_X1_28 rfl rfl (by decide +kernel) rfl hnm X hd 0 rfl rfl rfl (Nat.le_of_ble_eq_true rfl) dX1_init_38 (fun H locs hd => ?_)
  have hd : Hd G A s.heap [(h0, .inr (1, [.ref q_1, .int (nI 0), .int (nI 0), .int (nI 0), .int (nI 0), .ref q_2, .null])), (q_1, .inl (cI, 864, .inl (fun _ => 0))), (q_2, .inl (cI, 9, .inl (fun _ => 0)))] H locs := hd
  refine lv_aload_n hx hb dX1_init_41 rfl (lv_at hl 0 rfl) ?_
  refine lv_bipush (v := nI 9) hx hb dX1_init_42 (by decide) ?_
  refine x_newaI X hd hA (N := 9) (by decide) (by decide) (by decide) (by decide) dX1_init_44 w_arrI (fun q_3 H locs hd => ?_)
  have hd : Hd G A s.heap [(h0, .inr (1, [.ref q_1, .int (nI 0), .int (nI 0), .int (nI 0), .int (nI 0), .ref q_2, .null])), (q_1, .inl (cI, 864, .inl (fun _ => 0))), (q_2, .inl (cI, 9, .inl (fun _ => 0))), (q_3, .inl (cI, 9, .inl (fun _ => 0)))] H locs := hd
  refine W.widen (k := 3) (n := 882) (by decide) (by decide) ?_
  refine x_putF (C := RX1) (T := TX1) (N := 7) (ci := 1) (ty := (.array .int)) 6 inT_X1 tyX1 tyX1_ok nmX1 rfl (by decide) lf_X1_31 rfl rfl (by decide +kernel) rfl hnm X hd 0 rfl rfl rfl (Nat.le_of_ble_eq_true rfl) dX1_init_46 (fun H locs hd => ?_)
  have hd : Hd G A s.heap [(h0, .inr (1, [.ref q_1, .int (nI 0), .int (nI 0), .int (nI 0), .int (nI 0), .ref q_2, .ref q_3])), (q_1, .inl (cI, 864, .inl (fun _ => 0))), (q_2, .inl (cI, 9, .inl (fun _ => 0))), (q_3, .inl (cI, 9, .inl (fun _ => 0)))] H locs := hd
  refine W.widen (k := 3) (n := 882) (by decide) (by decide) ?_
  exact (fin _ _ [(h0, .inr (1, [.ref q_1, .int (nI 0), .int (nI 0), .int (nI 0), .int (nI 0), .ref q_2, .ref q_3])), (q_1, .inl (cI, 864, .inl (fun _ => 0))), (q_2, .inl (cI, 9, .inl (fun _ => 0))), (q_3, .inl (cI, 9, .inl (fun _ => 0)))] _ _ (hd.sub [0, 1, 2, 3] rfl rfl)).1 rfl ⟨q_1, q_2, q_3, rfl, rfl⟩ dX1_init_49

set_option maxHeartbeats 4000000 in
set_option maxRecDepth 100000 in
theorem c_X0_init (l : Launch) (G : va_G) (cI cZ : ClassId) (h0 : Nat) : CM l G cI cZ yX0_init cX0_init 1 none 1 12 2 18 [.ref h0] [(h0, .inr (0, [.null, .null, .int (nI 0), .int (nI 0)]))] (fun ov_ wv_ => ∃ hr : Nat, ∃ ha : Nat, ov_ = none ∧ wv_ = [(h0, .inr (0, [.ref hr, .ref ha, .int (nI 0), .int (nI 0)])), (hr, .inl (cI, 9, .inl (fun _ => 0))), (ha, .inl (cI, 9, .inl (fun _ => 0)))]) := by
  refine CM.of (own := RX0) (by decide) rfl (Nat.le_of_ble_eq_true rfl) ?_
  intro p e R s m args below meth c Q A X hR hret hnm hA fin hd ls hl
  subst hR
  have hx := X.1
  have hb := X.2.1
  have hl : lv_has ls 1 [(0, .ref h0)] := hl
  refine lv_aload_n hx hb dX0_init_0 rfl (lv_at hl 0 rfl) ?_
  refine W.objInit hx hb X.2.2.2.1 (X.2.2.2.2.1 _ lo_X0_3) (X.2.2.2.2.1 _ w_objI) (X.2.2.2.2.1 _ w_objC) rfl (by rw [X.2.2.1]; exact hl.1) rfl dX0_init_1 (by decide) (Nat.le_of_ble_eq_true rfl) ?_
  refine W.eq (g2 := F0 m 4 ls []) rfl ?_
  refine lv_aload_n hx hb dX0_init_4 rfl (lv_at hl 0 rfl) ?_
  refine lv_bipush (v := nI 9) hx hb dX0_init_5 (by decide) ?_
  refine x_newaI X hd hA (N := 9) (by decide) (by decide) (by decide) (by decide) dX0_init_7 w_arrI (fun q_1 H locs hd => ?_)
  have hd : Hd G A s.heap [(h0, .inr (0, [.null, .null, .int (nI 0), .int (nI 0)])), (q_1, .inl (cI, 9, .inl (fun _ => 0)))] H locs := hd
  refine W.widen (k := 1) (n := 9) (by decide) (by decide) ?_
  refine x_putF (C := RX0) (T := TX0) (N := 4) (ci := 0) (ty := (.array .int)) 0 inT_X0 tyX0 tyX0_ok nmX0 rfl (by decide) lf_X0_9 rfl rfl (by decide +kernel) rfl hnm X hd 0 rfl rfl rfl (Nat.le_of_ble_eq_true rfl) dX0_init_9 (fun H locs hd => ?_)
  have hd : Hd G A s.heap [(h0, .inr (0, [.ref q_1, .null, .int (nI 0), .int (nI 0)])), (q_1, .inl (cI, 9, .inl (fun _ => 0)))] H locs := hd
  refine lv_aload_n hx hb dX0_init_12 rfl (lv_at hl 0 rfl) ?_
  refine lv_bipush (v := nI 9) hx hb dX0_init_13 (by decide) ?_
  refine x_newaI X hd hA (N := 9) (by decide) (by decide) (by decide) (by decide) dX0_init_15 w_arrI (fun q_2 H locs hd => ?_)
  have hd : Hd G A s.heap [(h0, .inr (0, [.ref q_1, .null, .int (nI 0), .int (nI 0)])), (q_1, .inl (cI, 9, .inl (fun _ => 0))), (q_2, .inl (cI, 9, .inl (fun _ => 0)))] H locs := hd
  refine W.widen (k := 2) (n := 18) (by decide) (by decide) ?_
  refine x_putF (C := RX0) (T := TX0) (N := 4) (ci := 0) (ty := (.array .int)) 1 inT_X0 tyX0 tyX0_ok nmX0 rfl (by decide) lf_X0_15 rfl rfl (by decide +kernel) rfl hnm X hd 0 rfl rfl rfl (Nat.le_of_ble_eq_true rfl) dX0_init_17 (fun H locs hd => ?_)
  have hd : Hd G A s.heap [(h0, .inr (0, [.ref q_1, .ref q_2, .int (nI 0), .int (nI 0)])), (q_1, .inl (cI, 9, .inl (fun _ => 0))), (q_2, .inl (cI, 9, .inl (fun _ => 0)))] H locs := hd
  refine lv_aload_n hx hb dX0_init_20 rfl (lv_at hl 0 rfl) ?_
  refine lv_iconst (v := nI 0) hx hb dX0_init_21 (by decide) ?_
  refine x_put (C := RX0) (T := TX0) (N := 4) (ci := 0) (ty := .int) 2 inT_X0 tyX0 tyX0_ok nmX0 rfl (by decide) lf_X0_18 rfl rfl (by decide +kernel) X hd 0 rfl rfl rfl (Nat.le_of_ble_eq_true rfl) dX0_init_22 (fun H locs hd => ?_)
  have hd : Hd G A s.heap [(h0, .inr (0, [.ref q_1, .ref q_2, .int (nI 0), .int (nI 0)])), (q_1, .inl (cI, 9, .inl (fun _ => 0))), (q_2, .inl (cI, 9, .inl (fun _ => 0)))] H locs := hd
  refine lv_aload_n hx hb dX0_init_25 rfl (lv_at hl 0 rfl) ?_
  refine lv_iconst (v := nI 0) hx hb dX0_init_26 (by decide) ?_
  refine x_put (C := RX0) (T := TX0) (N := 4) (ci := 0) (ty := .int) 3 inT_X0 tyX0 tyX0_ok nmX0 rfl (by decide) lf_X0_22 rfl rfl (by decide +kernel) X hd 0 rfl rfl rfl (Nat.le_of_ble_eq_true rfl) dX0_init_27 (fun H locs hd => ?_)
  have hd : Hd G A s.heap [(h0, .inr (0, [.ref q_1, .ref q_2, .int (nI 0), .int (nI 0)])), (q_1, .inl (cI, 9, .inl (fun _ => 0))), (q_2, .inl (cI, 9, .inl (fun _ => 0)))] H locs := hd
  refine W.widen (k := 2) (n := 18) (by decide) (by decide) ?_
  exact (fin _ _ [(h0, .inr (0, [.ref q_1, .ref q_2, .int (nI 0), .int (nI 0)])), (q_1, .inl (cI, 9, .inl (fun _ => 0))), (q_2, .inl (cI, 9, .inl (fun _ => 0)))] _ _ (hd.sub [0, 1, 2] rfl rfl)).1 rfl ⟨q_1, q_2, rfl, rfl⟩ dX0_init_30
