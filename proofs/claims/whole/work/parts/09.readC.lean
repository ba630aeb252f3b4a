set_option maxHeartbeats 4000000 in
set_option maxRecDepth 100000 in
theorem c_X5_isWithin (l : Launch) (G : va_G) (cI cZ : ClassId) (v : Int32) (lo : Int32) (hi : Int32) : CR l G cI cZ yX5_isWithin cX5_isWithin 3 .boolean 0 0 [.int v, .int lo, .int hi] [] (b2i (inB v lo hi)) := by
  refine CR.of (own := RX5) (by decide) rfl (b2i_nar _) (Nat.le_of_ble_eq_true rfl) ?_
  intro p e R s m args below meth c H Q X hR fin hP ls hl
  subst hR
  have hx := X.1
  have hb := X.2.1
  have hl : lv_has ls 3 [(0, .int v), (1, .int lo), (2, .int hi)] := hl
  refine lv_iload_n hx hb dX5_isWithin_0 rfl (lv_at hl 0 rfl) ?_
  refine lv_iload_n hx hb dX5_isWithin_1 rfl (lv_at hl 1 rfl) ?_
  refine lv_icmp_lt (tgt := 14) hx hb dX5_isWithin_2 (by decide) (fun c_2 => ?_) (fun c_2 => ?_)
  · refine lv_iconst (v := nI 0) hx hb dX5_isWithin_14 (by decide) ?_
    exact st_eq (show (nI 0 : Int32) = b2i (inB v lo hi) from by first | exact inB_t c_2 c_7 | exact inB_f1 c_2 | exact inB_f2 c_7) (fin _ _ dX5_isWithin_15)
  · refine lv_iload_n hx hb dX5_isWithin_5 rfl (lv_at hl 0 rfl) ?_
    refine lv_iload_n hx hb dX5_isWithin_6 rfl (lv_at hl 2 rfl) ?_
    refine lv_icmp_gt (tgt := 14) hx hb dX5_isWithin_7 (by decide) (fun c_7 => ?_) (fun c_7 => ?_)
    · refine lv_iconst (v := nI 0) hx hb dX5_isWithin_14 (by decide) ?_
      exact st_eq (show (nI 0 : Int32) = b2i (inB v lo hi) from by first | exact inB_t c_2 c_7 | exact inB_f1 c_2 | exact inB_f2 c_7) (fin _ _ dX5_isWithin_15)
    · refine lv_iconst (v := nI 1) hx hb dX5_isWithin_10 (by decide) ?_
      refine lv_goto (tgt := 15) hx hb dX5_isWithin_11 (by decide) ?_
      exact st_eq (show (nI 1 : Int32) = b2i (inB v lo hi) from by first | exact inB_t c_2 c_7 | exact inB_f1 c_2 | exact inB_f2 c_7) (fin _ _ dX5_isWithin_15)

set_option maxHeartbeats 4000000 in
set_option maxRecDepth 100000 in
theorem c_X5_isWay (l : Launch) (G : va_G) (cI cZ : ClassId) (v : Int32) : CR l G cI cZ yX5_isWay cX5_isWay 1 .boolean 1 22 [.int v] [] (b2i (inB v (nI 0) (nI 3))) := by
  refine CR.of (own := RX5) (by decide) rfl (b2i_nar _) (Nat.le_of_ble_eq_true rfl) ?_
  intro p e R s m args below meth c H Q X hR fin hP ls hl
  subst hR
  have hx := X.1
  have hb := X.2.1
  have hl : lv_has ls 1 [(0, .int v)] := hl
  refine lv_iload_n hx hb dX5_isWay_0 rfl (lv_at hl 0 rfl) ?_
  refine lv_iconst (v := nI 0) hx hb dX5_isWay_1 (by decide) ?_
  refine lv_iconst (v := nI 3) hx hb dX5_isWay_2 (by decide) ?_
  refine cR_S (As := [.int v, .int (nI 0), .int (nI 3)]) (rest := []) X (c_X5_isWithin l G cI cZ v (nI 0) (nI 3) ) lk_X5_50 (hP.sub (ws' := []) [] rfl) hl.1 rfl rfl (Nat.le_of_ble_eq_true rfl) ⟨Nat.le_of_ble_eq_true rfl, Nat.le_of_ble_eq_true rfl⟩ ⟨Nat.le_of_ble_eq_true rfl, Nat.le_of_ble_eq_true rfl⟩ dX5_isWay_3 ?_
  exact fin _ _ dX5_isWay_6

set_option maxHeartbeats 4000000 in
set_option maxRecDepth 100000 in
theorem c_X5_asNumber (l : Launch) (G : va_G) (cI cZ : ClassId) (b : Bool) : CR l G cI cZ yX5_asNumber cX5_asNumber 1 .int 0 0 [.int (b2i b)] [] (b2i b) := by
  refine CR.of (own := RX5) (by decide) rfl rfl (Nat.le_of_ble_eq_true rfl) ?_
  intro p e R s m args below meth c H Q X hR fin hP ls hl
  subst hR
  have hx := X.1
  have hb := X.2.1
  have hl : lv_has ls 1 [(0, .int (b2i b))] := hl
  refine lv_iload_n hx hb dX5_asNumber_0 rfl (lv_at hl 0 rfl) ?_
  refine b_if_eq (tgt := 8) hx hb dX5_asNumber_1 (by decide) (fun c_1 => ?_) (fun c_1 => ?_)
  · refine lv_iconst (v := nI 0) hx hb dX5_asNumber_8 (by decide) ?_
    exact st_eq (show (nI 0 : Int32) = b2i b from by first | (rw [c_1]; rfl)) (fin _ _ dX5_asNumber_9)
  · refine lv_iconst (v := nI 1) hx hb dX5_asNumber_4 (by decide) ?_
    refine lv_goto (tgt := 9) hx hb dX5_asNumber_5 (by decide) ?_
    exact st_eq (show (nI 1 : Int32) = b2i b from by first | (rw [c_1]; rfl)) (fin _ _ dX5_asNumber_9)

set_option maxHeartbeats 4000000 in
set_option maxRecDepth 100000 in
theorem c_X3_isInside (l : Launch) (G : va_G) (cI cZ : ClassId) (a : Nat) (b : Nat) (ha : a < 9) (hb1 : b < 12) : CR l G cI cZ yX3_isInside cX3_isInside 2 .boolean 1 22 [.int (nI a), .int (nI b)] [] (b2i true) := by
  refine CR.of (own := RX3) (by decide) rfl (b2i_nar _) (Nat.le_of_ble_eq_true rfl) ?_
  intro p e R s m args below meth c H Q X hR fin hP ls hl
  subst hR
  have hx := X.1
  have hb := X.2.1
  have hl : lv_has ls 2 [(0, .int (nI a)), (1, .int (nI b))] := hl
  refine lv_iload_n hx hb dX3_isInside_0 rfl (lv_at hl 0 rfl) ?_
  refine lv_iconst (v := nI 0) hx hb dX3_isInside_1 (by decide) ?_
  refine lv_bipush (v := nI 8) hx hb dX3_isInside_2 (by decide) ?_
  refine cR_SN (As := [.int (nI a), .int (nI 0), .int (nI 8)]) (rest := []) X (c_X5_isWithin l G cI cZ (nI a) (nI 0) (nI 8) ) lk_X3_35 (hP.sub (ws' := []) [] rfl) hl.1 rfl rfl (Nat.le_of_ble_eq_true rfl) ⟨Nat.le_of_ble_eq_true rfl, Nat.le_of_ble_eq_true rfl⟩ ⟨Nat.le_of_ble_eq_true rfl, Nat.le_of_ble_eq_true rfl⟩ dX3_isInside_4 ?_
  refine st_eq (show (b2i (inB (nI a) (nI 0) (nI 8)) : Int32) = b2i true from congrArg b2i (inB_tt (by omega) (by omega) (by omega))) ?_
  refine b_if_eq (tgt := 24) hx hb dX3_isInside_7 (by decide) (fun c_7 => ?_) (fun c_7 => ?_)
  · exact absurd ((rfl : true = true).symm.trans c_7) (by decide)
  · refine lv_iload_n hx hb dX3_isInside_10 rfl (lv_at hl 1 rfl) ?_
    refine lv_iconst (v := nI 0) hx hb dX3_isInside_11 (by decide) ?_
    refine lv_bipush (v := nI 11) hx hb dX3_isInside_12 (by decide) ?_
    refine cR_SN (As := [.int (nI b), .int (nI 0), .int (nI 11)]) (rest := []) X (c_X5_isWithin l G cI cZ (nI b) (nI 0) (nI 11) ) lk_X3_35 (hP.sub (ws' := []) [] rfl) hl.1 rfl rfl (Nat.le_of_ble_eq_true rfl) ⟨Nat.le_of_ble_eq_true rfl, Nat.le_of_ble_eq_true rfl⟩ ⟨Nat.le_of_ble_eq_true rfl, Nat.le_of_ble_eq_true rfl⟩ dX3_isInside_14 ?_
    refine st_eq (show (b2i (inB (nI b) (nI 0) (nI 11)) : Int32) = b2i true from congrArg b2i (inB_tt (by omega) (by omega) (by omega))) ?_
    refine b_if_eq (tgt := 24) hx hb dX3_isInside_17 (by decide) (fun c_17 => ?_) (fun c_17 => ?_)
    · exact absurd ((rfl : true = true).symm.trans c_17) (by decide)
    · refine lv_iconst (v := nI 1) hx hb dX3_isInside_20 (by decide) ?_
      refine lv_goto (tgt := 25) hx hb dX3_isInside_21 (by decide) ?_
      exact st_eq (show (nI 1 : Int32) = b2i true from rfl) (fin _ _ dX3_isInside_25)

set_option maxHeartbeats 4000000 in
set_option maxRecDepth 100000 in
theorem c_X4_hasLine (l : Launch) (G : va_G) (cI cZ : ClassId) (a : Nat) (b : Nat) (ha : a < 9) (hb1 : b < 9) : CR l G cI cZ yX4_hasLine cX4_hasLine 2 .boolean 1 22 [.int (nI a), .int (nI b)] [] (b2i true) := by
  refine CR.of (own := RX4) (by decide) rfl (b2i_nar _) (Nat.le_of_ble_eq_true rfl) ?_
  intro p e R s m args below meth c H Q X hR fin hP ls hl
  subst hR
  have hx := X.1
  have hb := X.2.1
  have hl : lv_has ls 2 [(0, .int (nI a)), (1, .int (nI b))] := hl
  refine lv_iload_n hx hb dX4_hasLine_0 rfl (lv_at hl 0 rfl) ?_
  refine lv_iconst (v := nI 0) hx hb dX4_hasLine_1 (by decide) ?_
  refine lv_bipush (v := nI 8) hx hb dX4_hasLine_2 (by decide) ?_
  refine cR_SN (As := [.int (nI a), .int (nI 0), .int (nI 8)]) (rest := []) X (c_X5_isWithin l G cI cZ (nI a) (nI 0) (nI 8) ) lk_X4_57 (hP.sub (ws' := []) [] rfl) hl.1 rfl rfl (Nat.le_of_ble_eq_true rfl) ⟨Nat.le_of_ble_eq_true rfl, Nat.le_of_ble_eq_true rfl⟩ ⟨Nat.le_of_ble_eq_true rfl, Nat.le_of_ble_eq_true rfl⟩ dX4_hasLine_4 ?_
  refine st_eq (show (b2i (inB (nI a) (nI 0) (nI 8)) : Int32) = b2i true from congrArg b2i (inB_tt (by omega) (by omega) (by omega))) ?_
  refine b_if_eq (tgt := 24) hx hb dX4_hasLine_7 (by decide) (fun c_7 => ?_) (fun c_7 => ?_)
  · exact absurd ((rfl : true = true).symm.trans c_7) (by decide)
  · refine lv_iload_n hx hb dX4_hasLine_10 rfl (lv_at hl 1 rfl) ?_
    refine lv_iconst (v := nI 0) hx hb dX4_hasLine_11 (by decide) ?_
    refine lv_bipush (v := nI 8) hx hb dX4_hasLine_12 (by decide) ?_
    refine cR_SN (As := [.int (nI b), .int (nI 0), .int (nI 8)]) (rest := []) X (c_X5_isWithin l G cI cZ (nI b) (nI 0) (nI 8) ) lk_X4_57 (hP.sub (ws' := []) [] rfl) hl.1 rfl rfl (Nat.le_of_ble_eq_true rfl) ⟨Nat.le_of_ble_eq_true rfl, Nat.le_of_ble_eq_true rfl⟩ ⟨Nat.le_of_ble_eq_true rfl, Nat.le_of_ble_eq_true rfl⟩ dX4_hasLine_14 ?_
    refine st_eq (show (b2i (inB (nI b) (nI 0) (nI 8)) : Int32) = b2i true from congrArg b2i (inB_tt (by omega) (by omega) (by omega))) ?_
    refine b_if_eq (tgt := 24) hx hb dX4_hasLine_17 (by decide) (fun c_17 => ?_) (fun c_17 => ?_)
    · exact absurd ((rfl : true = true).symm.trans c_17) (by decide)
    · refine lv_iconst (v := nI 1) hx hb dX4_hasLine_20 (by decide) ?_
      refine lv_goto (tgt := 25) hx hb dX4_hasLine_21 (by decide) ?_
      exact st_eq (show (nI 1 : Int32) = b2i true from rfl) (fin _ _ dX4_hasLine_25)

set_option maxHeartbeats 4000000 in
set_option maxRecDepth 100000 in
theorem c_X3_get (l : Launch) (G : va_G) (cI cZ : ClassId) (h0 : Nat) (h1 : Nat) (f : Nat → Int32) (a : Nat) (b : Nat) (ha : a < 9) (hb1 : b < 12) : CR l G cI cZ yX3_get cX3_get 3 .int 2 43 [.ref h0, .int (nI a), .int (nI b)] [(h0, .inr (3, [.ref h1])), (h1, .inl (cI, 108, .inl f))] (f (12 * a + b)) := by
  refine CR.of (own := RX3) (by decide) rfl rfl (Nat.le_of_ble_eq_true rfl) ?_
  intro p e R s m args below meth c H Q X hR fin hP ls hl
  subst hR
  have hx := X.1
  have hb := X.2.1
  have hl : lv_has ls 3 [(0, .ref h0), (1, .int (nI a)), (2, .int (nI b))] := hl
  refine lv_iload_n hx hb dX3_get_0 rfl (lv_at hl 1 rfl) ?_
  refine lv_iload_n hx hb dX3_get_1 rfl (lv_at hl 2 rfl) ?_
  refine cR_S (As := [.int (nI a), .int (nI b)]) (rest := []) X (c_X3_isInside l G cI cZ a b (by first | assumption | omega) (by first | assumption | omega)) lk_X3_15 (hP.sub (ws' := []) [] rfl) hl.1 rfl rfl (Nat.le_of_ble_eq_true rfl) ⟨Nat.le_of_ble_eq_true rfl, Nat.le_of_ble_eq_true rfl⟩ ⟨Nat.le_of_ble_eq_true rfl, Nat.le_of_ble_eq_true rfl⟩ dX3_get_2 ?_
  refine b_if_eq (tgt := 22) hx hb dX3_get_5 (by decide) (fun c_5 => ?_) (fun c_5 => ?_)
  · exact absurd ((rfl : true = true).symm.trans c_5) (by decide)
  · refine lv_aload_n hx hb dX3_get_8 rfl (lv_at hl 0 rfl) ?_
    refine x_get (C := RX3) (T := TX3) (N := 1) (ci := 3) 0 inT_X3 rfl (by decide) lf_X3_9 rfl X hP 0 rfl rfl dX3_get_9 ?_
    refine lv_iload_n hx hb dX3_get_12 rfl (lv_at hl 1 rfl) ?_
    refine lv_bipush (v := nI 12) hx hb dX3_get_13 (by decide) ?_
    refine n_mul hx hb dX3_get_15  ?_
    refine lv_iload_n hx hb dX3_get_16 rfl (lv_at hl 2 rfl) ?_
    refine n_add hx hb dX3_get_17  ?_
    refine n_iald X hP 1 rfl (by omega) (by decide) dX3_get_18 ?_
    refine lv_goto (tgt := 23) hx hb dX3_get_19 (by decide) ?_
    exact st_eq (show (f ((a * 12) + b) : Int32) = f (12 * a + b) from by rw [Nat.mul_comm]) (fin _ _ dX3_get_23)

set_option maxHeartbeats 4000000 in
set_option maxRecDepth 100000 in
theorem c_X4_hasMachine (l : Launch) (G : va_G) (cI cZ : ClassId) (h0 : Nat) (hr : Nat) (hs : Nat) (n : Nat) (z : Nat) (op : Int32) (st : Int32) (ea : Int32) (v : Int32) (hn : 1 ≤ n) : CR l G cI cZ yX4_hasMachine cX4_hasMachine 2 .boolean 1 22 [.ref h0, .int v] [(h0, .inr (4, [.ref hr, .ref hs, .int (nI n), .int (nI z), .int op, .int st, .int ea]))] (b2i (inB v (nI 0) (nI (n - 1)))) := by
  refine CR.of (own := RX4) (by decide) rfl (b2i_nar _) (Nat.le_of_ble_eq_true rfl) ?_
  intro p e R s m args below meth c H Q X hR fin hP ls hl
  subst hR
  have hx := X.1
  have hb := X.2.1
  have hl : lv_has ls 2 [(0, .ref h0), (1, .int v)] := hl
  refine lv_iload_n hx hb dX4_hasMachine_0 rfl (lv_at hl 1 rfl) ?_
  refine lv_iconst (v := nI 0) hx hb dX4_hasMachine_1 (by decide) ?_
  refine lv_aload_n hx hb dX4_hasMachine_2 rfl (lv_at hl 0 rfl) ?_
  refine x_get (C := RX4) (T := TX4) (N := 7) (ci := 4) 2 inT_X4 rfl (by decide) lf_X4_22 rfl X hP 0 rfl rfl dX4_hasMachine_3 ?_
  refine lv_iconst (v := nI 1) hx hb dX4_hasMachine_6 (by decide) ?_
  refine n_sub hx hb dX4_hasMachine_7 (by omega) ?_
  refine cR_SN (As := [.int v, .int (nI 0), .int (nI (n - 1))]) (rest := []) X (c_X5_isWithin l G cI cZ v (nI 0) (nI (n - 1)) ) lk_X4_57 (hP.sub (ws' := []) [] rfl) hl.1 rfl rfl (Nat.le_of_ble_eq_true rfl) ⟨Nat.le_of_ble_eq_true rfl, Nat.le_of_ble_eq_true rfl⟩ ⟨Nat.le_of_ble_eq_true rfl, Nat.le_of_ble_eq_true rfl⟩ dX4_hasMachine_8 ?_
  exact fin _ _ dX4_hasMachine_11

set_option maxHeartbeats 4000000 in
set_option maxRecDepth 100000 in
theorem c_X4_hasPlace (l : Launch) (G : va_G) (cI cZ : ClassId) (h0 : Nat) (hr : Nat) (hs : Nat) (n : Nat) (z : Nat) (op : Int32) (st : Int32) (ea : Int32) (v : Int32) (hz : 1 ≤ z) : CR l G cI cZ yX4_hasPlace cX4_hasPlace 2 .boolean 1 22 [.ref h0, .int v] [(h0, .inr (4, [.ref hr, .ref hs, .int (nI n), .int (nI z), .int op, .int st, .int ea]))] (b2i (inB v (nI 0) (nI (z - 1)))) := by
  refine CR.of (own := RX4) (by decide) rfl (b2i_nar _) (Nat.le_of_ble_eq_true rfl) ?_
  intro p e R s m args below meth c H Q X hR fin hP ls hl
  subst hR
  have hx := X.1
  have hb := X.2.1
  have hl : lv_has ls 2 [(0, .ref h0), (1, .int v)] := hl
  refine lv_iload_n hx hb dX4_hasPlace_0 rfl (lv_at hl 1 rfl) ?_
  refine lv_iconst (v := nI 0) hx hb dX4_hasPlace_1 (by decide) ?_
  refine lv_aload_n hx hb dX4_hasPlace_2 rfl (lv_at hl 0 rfl) ?_
  refine x_get (C := RX4) (T := TX4) (N := 7) (ci := 4) 3 inT_X4 rfl (by decide) lf_X4_26 rfl X hP 0 rfl rfl dX4_hasPlace_3 ?_
  refine lv_iconst (v := nI 1) hx hb dX4_hasPlace_6 (by decide) ?_
  refine n_sub hx hb dX4_hasPlace_7 (by omega) ?_
  refine cR_SN (As := [.int v, .int (nI 0), .int (nI (z - 1))]) (rest := []) X (c_X5_isWithin l G cI cZ v (nI 0) (nI (z - 1)) ) lk_X4_57 (hP.sub (ws' := []) [] rfl) hl.1 rfl rfl (Nat.le_of_ble_eq_true rfl) ⟨Nat.le_of_ble_eq_true rfl, Nat.le_of_ble_eq_true rfl⟩ ⟨Nat.le_of_ble_eq_true rfl, Nat.le_of_ble_eq_true rfl⟩ dX4_hasPlace_8 ?_
  exact fin _ _ dX4_hasPlace_11

set_option maxHeartbeats 4000000 in
set_option maxRecDepth 100000 in
theorem c_X4_slowness (l : Launch) (G : va_G) (cI cZ : ClassId) (h0 : Nat) (hr : Nat) (hs : Nat) (n : Nat) (z : Nat) (op : Int32) (st : Int32) (ea : Int32) (g : Nat → Int32) (a : Nat) (b : Nat) (ha : a < 9) (hb1 : b < 9) : CR l G cI cZ yX4_slowness cX4_slowness 3 .int 2 43 [.ref h0, .int (nI a), .int (nI b)] [(h0, .inr (4, [.ref hr, .ref hs, .int (nI n), .int (nI z), .int op, .int st, .int ea])), (hs, .inl (cI, 81, .inl g))] (g (9 * a + b)) := by
  refine CR.of (own := RX4) (by decide) rfl rfl (Nat.le_of_ble_eq_true rfl) ?_
  intro p e R s m args below meth c H Q X hR fin hP ls hl
  subst hR
  have hx := X.1
  have hb := X.2.1
  have hl : lv_has ls 3 [(0, .ref h0), (1, .int (nI a)), (2, .int (nI b))] := hl
  refine lv_iload_n hx hb dX4_slowness_0 rfl (lv_at hl 1 rfl) ?_
  refine lv_iload_n hx hb dX4_slowness_1 rfl (lv_at hl 2 rfl) ?_
  refine cR_S (As := [.int (nI a), .int (nI b)]) (rest := []) X (c_X4_hasLine l G cI cZ a b (by first | assumption | omega) (by first | assumption | omega)) lk_X4_61 (hP.sub (ws' := []) [] rfl) hl.1 rfl rfl (Nat.le_of_ble_eq_true rfl) ⟨Nat.le_of_ble_eq_true rfl, Nat.le_of_ble_eq_true rfl⟩ ⟨Nat.le_of_ble_eq_true rfl, Nat.le_of_ble_eq_true rfl⟩ dX4_slowness_2 ?_
  refine b_if_eq (tgt := 22) hx hb dX4_slowness_5 (by decide) (fun c_5 => ?_) (fun c_5 => ?_)
  · exact absurd ((rfl : true = true).symm.trans c_5) (by decide)
  · refine lv_aload_n hx hb dX4_slowness_8 rfl (lv_at hl 0 rfl) ?_
    refine x_get (C := RX4) (T := TX4) (N := 7) (ci := 4) 1 inT_X4 rfl (by decide) lf_X4_18 rfl X hP 0 rfl rfl dX4_slowness_9 ?_
    refine lv_iload_n hx hb dX4_slowness_12 rfl (lv_at hl 1 rfl) ?_
    refine lv_bipush (v := nI 9) hx hb dX4_slowness_13 (by decide) ?_
    refine n_mul hx hb dX4_slowness_15  ?_
    refine lv_iload_n hx hb dX4_slowness_16 rfl (lv_at hl 2 rfl) ?_
    refine n_add hx hb dX4_slowness_17  ?_
    refine n_iald X hP 1 rfl (by omega) (by decide) dX4_slowness_18 ?_
    refine lv_goto (tgt := 23) hx hb dX4_slowness_19 (by decide) ?_
    exact st_eq (show (g ((a * 9) + b) : Int32) = g (9 * a + b) from by rw [Nat.mul_comm]) (fin _ _ dX4_slowness_23)

set_option maxHeartbeats 4000000 in
set_option maxRecDepth 100000 in
theorem c_X4_mixed (l : Launch) (G : va_G) (cI cZ : ClassId) (h0 : Nat) (hr : Nat) (hs : Nat) (n : Nat) (z : Nat) (op : Int32) (st : Int32) (ea : Int32) (a : Int32) (b : Int32) : CR l G cI cZ yX4_mixed cX4_mixed 3 .int 1 13 [.ref h0, .int a, .int b] [(h0, .inr (4, [.ref hr, .ref hs, .int (nI n), .int (nI z), .int op, .int st, .int ea]))] (mix op a b) := by
  refine CR.of (own := RX4) (by decide) rfl rfl (Nat.le_of_ble_eq_true rfl) ?_
  intro p e R s m args below meth c H Q X hR fin hP ls hl
  subst hR
  have hx := X.1
  have hb := X.2.1
  have hl : lv_has ls 3 [(0, .ref h0), (1, .int a), (2, .int b)] := hl
  refine lv_aload_n hx hb dX4_mixed_0 rfl (lv_at hl 0 rfl) ?_
  refine x_get (C := RX4) (T := TX4) (N := 7) (ci := 4) 4 inT_X4 rfl (by decide) lf_X4_29 rfl X hP 0 rfl rfl dX4_mixed_1 ?_
  refine lv_if_ne (tgt := 15) hx hb dX4_mixed_4 (by decide) (fun c_4 => ?_) (fun c_4 => ?_)
  · refine lv_aload_n hx hb dX4_mixed_15 rfl (lv_at hl 0 rfl) ?_
    refine x_get (C := RX4) (T := TX4) (N := 7) (ci := 4) 4 inT_X4 rfl (by decide) lf_X4_29 rfl X hP 0 rfl rfl dX4_mixed_16 ?_
    refine lv_iconst (v := nI 1) hx hb dX4_mixed_19 (by decide) ?_
    refine lv_icmp_ne (tgt := 29) hx hb dX4_mixed_20 (by decide) (fun c_20 => ?_) (fun c_20 => ?_)
    · refine lv_bipush (v := nI 31) hx hb dX4_mixed_29 (by decide) ?_
      refine lv_iload_n hx hb dX4_mixed_31 rfl (lv_at hl 1 rfl) ?_
      refine lv_imul hx hb dX4_mixed_32 ?_
      refine lv_iload_n hx hb dX4_mixed_33 rfl (lv_at hl 2 rfl) ?_
      refine lv_iadd hx hb dX4_mixed_34 ?_
      refine lv_sipush (v := nI 997) hx hb dX4_mixed_35 (by decide) ?_
      refine lv_irem hx hb dX4_mixed_38 (by decide) ?_
      exact st_eq (show ((((nI 31) * a) + b) - (((nI 31) * a) + b) / (nI 997) * (nI 997) : Int32) = mix op a b from by rw [mix, if_neg c_4, if_neg c_20]) (fin _ _ dX4_mixed_39)
    · refine lv_iload_n hx hb dX4_mixed_23 rfl (lv_at hl 1 rfl) ?_
      refine lv_iload_n hx hb dX4_mixed_24 rfl (lv_at hl 2 rfl) ?_
      refine va_mmax hx hb (by rw [X.2.2.1]; exact hl.1.symm) X.2.2.2.1 (X.2.2.2.2.1 _ lo_X4_65) (X.2.2.2.2.1 _ w_maxS) (X.2.2.2.2.1 _ w_mathI) (X.2.2.2.2.1 _ w_maxC) (by decide) (Nat.le_of_ble_eq_true rfl) (Nat.zero_le _) (Nat.zero_le _) dX4_mixed_25 ?_
      exact st_eq (show (if a < b then b else a : Int32) = mix op a b from by rw [mix, if_neg c_4, if_pos c_20]) (fin _ _ dX4_mixed_28)
  · refine lv_iload_n hx hb dX4_mixed_7 rfl (lv_at hl 1 rfl) ?_
    refine lv_iload_n hx hb dX4_mixed_8 rfl (lv_at hl 2 rfl) ?_
    refine lv_iadd hx hb dX4_mixed_9 ?_
    refine lv_sipush (v := nI 997) hx hb dX4_mixed_10 (by decide) ?_
    refine lv_irem hx hb dX4_mixed_13 (by decide) ?_
    exact st_eq (show ((a + b) - (a + b) / (nI 997) * (nI 997) : Int32) = mix op a b from by rw [mix, if_pos c_4]) (fin _ _ dX4_mixed_14)

set_option maxHeartbeats 4000000 in
set_option maxRecDepth 100000 in
theorem c_X3_differing (l : Launch) (G : va_G) (cI cZ : ClassId) (h0 : Nat) (h1 : Nat) (g0 : Nat) (g1 : Nat) (f : Nat → Int32) (g : Nat → Int32) (a : Nat) (b : Nat) (z : Nat) (ha : a < 9) (hb1 : b < 9) (hz : z ≤ 12) : CR l G cI cZ yX3_differing cX3_differing 7 .int 3 65 [.ref h0, .int (nI a), .ref g0, .int (nI b), .int (nI z)] [(h0, .inr (3, [.ref h1])), (h1, .inl (cI, 108, .inl f)), (g0, .inr (3, [.ref g1])), (g1, .inl (cI, 108, .inl g))] (nI (dfc f g a b z)) := by
  refine CR.of (own := RX3) (by decide) rfl rfl (Nat.le_of_ble_eq_true rfl) ?_
  intro p e R s m args below meth c H Q X hR fin hP ls hl
  subst hR
  have hx := X.1
  have hb := X.2.1
  have hl : lv_has ls 7 [(0, .ref h0), (1, .int (nI a)), (2, .ref g0), (3, .int (nI b)), (4, .int (nI z))] := hl
  refine lv_iconst (v := nI 0) hx hb dX3_differing_0 (by decide) ?_
  refine lv_istore (lv' := [(5, .int (nI 0)), (0, .ref h0), (1, .int (nI a)), (2, .ref g0), (3, .int (nI b)), (4, .int (nI z))]) hx hb dX3_differing_1 hl (by decide) rfl (fun ls hl => ?_)
  refine lv_iconst (v := nI 0) hx hb dX3_differing_3 (by decide) ?_
  refine lv_istore (lv' := [(6, .int (nI 0)), (5, .int (nI 0)), (0, .ref h0), (1, .int (nI a)), (2, .ref g0), (3, .int (nI b)), (4, .int (nI z))]) hx hb dX3_differing_4 hl (by decide) rfl (fun ls hl => ?_)
  have LP6 : ∀ (fu : Nat) (i : Nat), (i ≤ z) → (z - i) < fu → ∀ (ls : Array Slot), lv_has ls 7 [(0, .ref h0), (1, .int (nI a)), (2, .ref g0), (3, .int (nI b)), (4, .int (nI z)), (5, .int (nI (dfc f g a b i))), (6, .int (nI i))] → W p l e ({ frames := 3, cells := 0, slots := 0, locals := 65 } : Room) s m args below meth c H [] 0 0 Q (F0 m 6 ls []) := by
    intro fu
    induction fu with
    | zero =>
      intro i hi hfu
      exact absurd hfu (Nat.not_lt_zero _)
    | succ fu ih6 =>
      intro i hi hfu  ls hl
      refine lv_iload hx hb dX3_differing_6 (lv_at hl 6 rfl) ?_
      refine lv_iload hx hb dX3_differing_8 (lv_at hl 4 rfl) ?_
      refine n_icmp_ge (tgt := 39) hx hb dX3_differing_10 (by decide) (by omega) (by omega) (fun c_10 => ?_) (fun c_10 => ?_)
      · refine lv_iload hx hb dX3_differing_39 (lv_at hl 5 rfl) ?_
        exact st_eq (show (nI (dfc f g a b i) : Int32) = nI (dfc f g a b z) from by rw [show i = z by omega]) (fin _ _ dX3_differing_41)
      · refine lv_aload_n hx hb dX3_differing_13 rfl (lv_at hl 0 rfl) ?_
        refine lv_iload_n hx hb dX3_differing_14 rfl (lv_at hl 1 rfl) ?_
        refine lv_iload hx hb dX3_differing_15 (lv_at hl 6 rfl) ?_
        refine cR_V (As := [.int (nI a), .int (nI i)]) (rest := []) X (c_X3_get l G cI cZ h0 h1 f a i (by first | assumption | omega) (by first | assumption | omega)) lk_X3_31 (hP.sub (ws' := [(h0, .inr (3, [.ref h1])), (h1, .inl (cI, 108, .inl f))]) [0, 1] rfl) rfl rfl hl.1 rfl rfl (Nat.le_of_ble_eq_true rfl) ⟨Nat.le_of_ble_eq_true rfl, Nat.le_of_ble_eq_true rfl⟩ ⟨Nat.le_of_ble_eq_true rfl, Nat.le_of_ble_eq_true rfl⟩ dX3_differing_17 ?_
        refine lv_aload_n hx hb dX3_differing_20 rfl (lv_at hl 2 rfl) ?_
        refine lv_iload_n hx hb dX3_differing_21 rfl (lv_at hl 3 rfl) ?_
        refine lv_iload hx hb dX3_differing_22 (lv_at hl 6 rfl) ?_
        refine cR_V (As := [.int (nI b), .int (nI i)]) (rest := [.int (f (12 * a + i))]) X (c_X3_get l G cI cZ g0 g1 g b i (by first | assumption | omega) (by first | assumption | omega)) lk_X3_31 (hP.sub (ws' := [(g0, .inr (3, [.ref g1])), (g1, .inl (cI, 108, .inl g))]) [2, 3] rfl) rfl rfl hl.1 rfl rfl (Nat.le_of_ble_eq_true rfl) ⟨Nat.le_of_ble_eq_true rfl, Nat.le_of_ble_eq_true rfl⟩ ⟨Nat.le_of_ble_eq_true rfl, Nat.le_of_ble_eq_true rfl⟩ dX3_differing_24 ?_
        refine lv_icmp_eq (tgt := 33) hx hb dX3_differing_27 (by decide) (fun c_27 => ?_) (fun c_27 => ?_)
        · refine lv_iinc (v := nI (i + 1)) (lv' := [(6, .int (nI (i + 1))), (0, .ref h0), (1, .int (nI a)), (2, .ref g0), (3, .int (nI b)), (4, .int (nI z)), (5, .int (nI (dfc f g a b i)))]) hx hb dX3_differing_33 hl (k := 6) rfl (nI_1 _) (by decide) rfl (fun ls hl => ?_)
          refine lv_goto (tgt := 6) hx hb dX3_differing_36 (by decide) ?_
          have hl : lv_has ls 7 [(6, .int (nI (i + 1))), (0, .ref h0), (1, .int (nI a)), (2, .ref g0), (3, .int (nI b)), (4, .int (nI z)), (5, .int (nI (dfc f g a b (i + 1))))] := lv_rep hl (congrArg (fun z_ : Int32 => ([(6, .int (nI (i + 1))), (0, .ref h0), (1, .int (nI a)), (2, .ref g0), (3, .int (nI b)), (4, .int (nI z)), (5, .int z_)] : List (Nat × Value))) (show (nI (dfc f g a b i) : Int32) = nI (dfc f g a b (i + 1)) from by first | (rw [dfc, if_pos c_27]; rfl) | (rw [dfc, if_neg c_27])))
          exact ih6  (i + 1) (by omega) (by omega) _ (lv_sub hl [1, 2, 3, 4, 5, 6, 0] rfl)
        · refine lv_iinc (v := nI (dfc f g a b i + 1)) (lv' := [(5, .int (nI (dfc f g a b i + 1))), (0, .ref h0), (1, .int (nI a)), (2, .ref g0), (3, .int (nI b)), (4, .int (nI z)), (6, .int (nI i))]) hx hb dX3_differing_30 hl (k := 5) rfl (nI_1 _) (by decide) rfl (fun ls hl => ?_)
          refine lv_iinc (v := nI (i + 1)) (lv' := [(6, .int (nI (i + 1))), (5, .int (nI (dfc f g a b i + 1))), (0, .ref h0), (1, .int (nI a)), (2, .ref g0), (3, .int (nI b)), (4, .int (nI z))]) hx hb dX3_differing_33 hl (k := 6) rfl (nI_1 _) (by decide) rfl (fun ls hl => ?_)
          refine lv_goto (tgt := 6) hx hb dX3_differing_36 (by decide) ?_
          have hl : lv_has ls 7 [(6, .int (nI (i + 1))), (5, .int (nI (dfc f g a b (i + 1)))), (0, .ref h0), (1, .int (nI a)), (2, .ref g0), (3, .int (nI b)), (4, .int (nI z))] := lv_rep hl (congrArg (fun z_ : Int32 => ([(6, .int (nI (i + 1))), (5, .int z_), (0, .ref h0), (1, .int (nI a)), (2, .ref g0), (3, .int (nI b)), (4, .int (nI z))] : List (Nat × Value))) (show (nI (dfc f g a b i + 1) : Int32) = nI (dfc f g a b (i + 1)) from by first | (rw [dfc, if_pos c_27]; rfl) | (rw [dfc, if_neg c_27])))
          exact ih6  (i + 1) (by omega) (by omega) _ (lv_sub hl [2, 3, 4, 5, 6, 1, 0] rfl)
  have hl : lv_has ls 7 [(6, .int (nI 0)), (5, .int (nI (dfc f g a b 0))), (0, .ref h0), (1, .int (nI a)), (2, .ref g0), (3, .int (nI b)), (4, .int (nI z))] := lv_rep hl (congrArg (fun z_ : Int32 => ([(6, .int (nI 0)), (5, .int z_), (0, .ref h0), (1, .int (nI a)), (2, .ref g0), (3, .int (nI b)), (4, .int (nI z))] : List (Nat × Value))) (show (nI 0 : Int32) = nI (dfc f g a b 0) from rfl))
  exact LP6 ((z - 0) + 1) 0 (Nat.zero_le _) (Nat.lt_succ_self _) _ (lv_sub hl [2, 3, 4, 5, 6, 1, 0] rfl)

set_option maxHeartbeats 4000000 in
set_option maxRecDepth 100000 in
theorem c_X4_mixedByRising (l : Launch) (G : va_G) (cI cZ : ClassId) (h0 : Nat) (hr : Nat) (hs : Nat) (n : Nat) (z : Nat) (op : Int32) (st : Int32) (ea : Int32) (ra : Nat) (f : Nat → Int32) (q : Nat) (hn : 1 ≤ n) (hn9 : n ≤ 9) (hq : q < 12) : CR l G cI cZ yX4_mixedByRising cX4_mixedByRising 4 .int 3 65 [.ref h0, .int (nI q)] [(h0, .inr (4, [.ref hr, .ref hs, .int (nI n), .int (nI z), .int op, .int st, .int ea])), (hr, .inr (3, [.ref ra])), (ra, .inl (cI, 108, .inl f))] (mbr op f q (n - 1)) := by
  refine CR.of (own := RX4) (by decide) rfl rfl (Nat.le_of_ble_eq_true rfl) ?_
  intro p e R s m args below meth c H Q X hR fin hP ls hl
  subst hR
  have hx := X.1
  have hb := X.2.1
  have hl : lv_has ls 4 [(0, .ref h0), (1, .int (nI q))] := hl
  refine lv_aload_n hx hb dX4_mixedByRising_0 rfl (lv_at hl 0 rfl) ?_
  refine x_get (C := RX4) (T := TX4) (N := 7) (ci := 4) 0 inT_X4 rfl (by decide) lf_X4_12 rfl X hP 0 rfl rfl dX4_mixedByRising_1 ?_
  refine lv_iconst (v := nI 0) hx hb dX4_mixedByRising_4 (by decide) ?_
  refine lv_iload_n hx hb dX4_mixedByRising_5 rfl (lv_at hl 1 rfl) ?_
  refine cR_V (As := [.int (nI 0), .int (nI q)]) (rest := []) X (c_X3_get l G cI cZ hr ra f 0 q (by first | assumption | omega) (by first | assumption | omega)) lk_X4_71 (hP.sub (ws' := [(hr, .inr (3, [.ref ra])), (ra, .inl (cI, 108, .inl f))]) [1, 2] rfl) rfl rfl hl.1 rfl rfl (Nat.le_of_ble_eq_true rfl) ⟨Nat.le_of_ble_eq_true rfl, Nat.le_of_ble_eq_true rfl⟩ ⟨Nat.le_of_ble_eq_true rfl, Nat.le_of_ble_eq_true rfl⟩ dX4_mixedByRising_6 ?_
  refine lv_istore_n (lv' := [(2, .int (f (12 * 0 + q))), (0, .ref h0), (1, .int (nI q))]) hx hb dX4_mixedByRising_9 rfl hl (by decide) rfl (fun ls hl => ?_)
  refine lv_iconst (v := nI 1) hx hb dX4_mixedByRising_10 (by decide) ?_
  refine lv_istore_n (lv' := [(3, .int (nI 1)), (2, .int (f (12 * 0 + q))), (0, .ref h0), (1, .int (nI q))]) hx hb dX4_mixedByRising_11 rfl hl (by decide) rfl (fun ls hl => ?_)
  have LP12 : ∀ (fu : Nat) (i : Nat), (i + 1 ≤ n) → (n - i) < fu → ∀ (ls : Array Slot), lv_has ls 4 [(0, .ref h0), (1, .int (nI q)), (2, .int (mbr op f q i)), (3, .int (nI (i + 1)))] → W p l e ({ frames := 3, cells := 0, slots := 0, locals := 65 } : Room) s m args below meth c H [] 0 0 Q (F0 m 12 ls []) := by
    intro fu
    induction fu with
    | zero =>
      intro i hi hfu
      exact absurd hfu (Nat.not_lt_zero _)
    | succ fu ih12 =>
      intro i hi hfu  ls hl
      refine lv_iload_n hx hb dX4_mixedByRising_12 rfl (lv_at hl 3 rfl) ?_
      refine lv_aload_n hx hb dX4_mixedByRising_13 rfl (lv_at hl 0 rfl) ?_
      refine x_get (C := RX4) (T := TX4) (N := 7) (ci := 4) 2 inT_X4 rfl (by decide) lf_X4_22 rfl X hP 0 rfl rfl dX4_mixedByRising_14 ?_
      refine n_icmp_ge (tgt := 41) hx hb dX4_mixedByRising_17 (by decide) (by omega) (by omega) (fun c_17 => ?_) (fun c_17 => ?_)
      · refine lv_iload_n hx hb dX4_mixedByRising_41 rfl (lv_at hl 2 rfl) ?_
        exact st_eq (show (mbr op f q i : Int32) = mbr op f q (n - 1) from by rw [show n - 1 = i by omega]) (fin _ _ dX4_mixedByRising_42)
      · refine lv_aload_n hx hb dX4_mixedByRising_20 rfl (lv_at hl 0 rfl) ?_
        refine lv_iload_n hx hb dX4_mixedByRising_21 rfl (lv_at hl 2 rfl) ?_
        refine lv_aload_n hx hb dX4_mixedByRising_22 rfl (lv_at hl 0 rfl) ?_
        refine x_get (C := RX4) (T := TX4) (N := 7) (ci := 4) 0 inT_X4 rfl (by decide) lf_X4_12 rfl X hP 0 rfl rfl dX4_mixedByRising_23 ?_
        refine lv_iload_n hx hb dX4_mixedByRising_26 rfl (lv_at hl 3 rfl) ?_
        refine lv_iload_n hx hb dX4_mixedByRising_27 rfl (lv_at hl 1 rfl) ?_
        refine cR_V (As := [.int (nI (i + 1)), .int (nI q)]) (rest := [.int (mbr op f q i), .ref h0]) X (c_X3_get l G cI cZ hr ra f (i + 1) q (by first | assumption | omega) (by first | assumption | omega)) lk_X4_71 (hP.sub (ws' := [(hr, .inr (3, [.ref ra])), (ra, .inl (cI, 108, .inl f))]) [1, 2] rfl) rfl rfl hl.1 rfl rfl (Nat.le_of_ble_eq_true rfl) ⟨Nat.le_of_ble_eq_true rfl, Nat.le_of_ble_eq_true rfl⟩ ⟨Nat.le_of_ble_eq_true rfl, Nat.le_of_ble_eq_true rfl⟩ dX4_mixedByRising_28 ?_
        refine cR_V (As := [.int (mbr op f q i), .int (f (12 * (i + 1) + q))]) (rest := []) X (c_X4_mixed l G cI cZ h0 hr hs n z op st ea (mbr op f q i) (f (12 * (i + 1) + q)) ) lk_X4_74 (hP.sub (ws' := [(h0, .inr (4, [.ref hr, .ref hs, .int (nI n), .int (nI z), .int op, .int st, .int ea]))]) [0] rfl) rfl rfl hl.1 rfl rfl (Nat.le_of_ble_eq_true rfl) ⟨Nat.le_of_ble_eq_true rfl, Nat.le_of_ble_eq_true rfl⟩ ⟨Nat.le_of_ble_eq_true rfl, Nat.le_of_ble_eq_true rfl⟩ dX4_mixedByRising_31 ?_
        refine lv_istore_n (lv' := [(2, .int (mix op (mbr op f q i) (f (12 * (i + 1) + q)))), (0, .ref h0), (1, .int (nI q)), (3, .int (nI (i + 1)))]) hx hb dX4_mixedByRising_34 rfl hl (by decide) rfl (fun ls hl => ?_)
        refine lv_iinc (v := nI (i + 1 + 1)) (lv' := [(3, .int (nI (i + 1 + 1))), (2, .int (mix op (mbr op f q i) (f (12 * (i + 1) + q)))), (0, .ref h0), (1, .int (nI q))]) hx hb dX4_mixedByRising_35 hl (k := 3) rfl (nI_1 _) (by decide) rfl (fun ls hl => ?_)
        refine lv_goto (tgt := 12) hx hb dX4_mixedByRising_38 (by decide) ?_
        have hl : lv_has ls 4 [(3, .int (nI (i + 1 + 1))), (2, .int (mbr op f q (i + 1))), (0, .ref h0), (1, .int (nI q))] := lv_rep hl (congrArg (fun z_ : Int32 => ([(3, .int (nI (i + 1 + 1))), (2, .int z_), (0, .ref h0), (1, .int (nI q))] : List (Nat × Value))) (show (mix op (mbr op f q i) (f (12 * (i + 1) + q)) : Int32) = mbr op f q (i + 1) from rfl))
        have hl : lv_has ls 4 [(3, .int (nI ((i + 1) + 1))), (2, .int (mbr op f q (i + 1))), (0, .ref h0), (1, .int (nI q))] := lv_rep hl (congrArg (fun z_ : Int32 => ([(3, .int z_), (2, .int (mbr op f q (i + 1))), (0, .ref h0), (1, .int (nI q))] : List (Nat × Value))) (show (nI (i + 1 + 1) : Int32) = nI ((i + 1) + 1) from rfl))
        exact ih12  (i + 1) (by omega) (by omega) _ (lv_sub hl [2, 3, 1, 0] rfl)
  have hl : lv_has ls 4 [(3, .int (nI 1)), (2, .int (mbr op f q 0)), (0, .ref h0), (1, .int (nI q))] := lv_rep hl (congrArg (fun z_ : Int32 => ([(3, .int (nI 1)), (2, .int z_), (0, .ref h0), (1, .int (nI q))] : List (Nat × Value))) (show (f (12 * 0 + q) : Int32) = mbr op f q 0 from by rw [mbr]; congr 1; omega))
  have hl : lv_has ls 4 [(3, .int (nI (0 + 1))), (2, .int (mbr op f q 0)), (0, .ref h0), (1, .int (nI q))] := lv_rep hl (congrArg (fun z_ : Int32 => ([(3, .int z_), (2, .int (mbr op f q 0)), (0, .ref h0), (1, .int (nI q))] : List (Nat × Value))) (show (nI 1 : Int32) = nI (0 + 1) from rfl))
  exact LP12 ((n - 0) + 1) 0 (by omega) (Nat.lt_succ_self _) _ (lv_sub hl [2, 3, 1, 0] rfl)

set_option maxHeartbeats 4000000 in
set_option maxRecDepth 100000 in
theorem c_X4_allNumbersAdded (l : Launch) (G : va_G) (cI cZ : ClassId) (h0 : Nat) (hr : Nat) (hs : Nat) (n : Nat) (z : Nat) (op : Int32) (st : Int32) (ea : Int32) (ra : Nat) (f : Nat → Int32) (hn9 : n ≤ 9) (hz : z ≤ 12) : CR l G cI cZ yX4_allNumbersAdded cX4_allNumbersAdded 4 .int 3 65 [.ref h0] [(h0, .inr (4, [.ref hr, .ref hs, .int (nI n), .int (nI z), .int op, .int st, .int ea])), (hr, .inr (3, [.ref ra])), (ra, .inl (cI, 108, .inl f))] (sa f z n) := by
  refine CR.of (own := RX4) (by decide) rfl rfl (Nat.le_of_ble_eq_true rfl) ?_
  intro p e R s m args below meth c H Q X hR fin hP ls hl
  subst hR
  have hx := X.1
  have hb := X.2.1
  have hl : lv_has ls 4 [(0, .ref h0)] := hl
  refine lv_iconst (v := nI 0) hx hb dX4_allNumbersAdded_0 (by decide) ?_
  refine lv_istore_n (lv' := [(1, .int (nI 0)), (0, .ref h0)]) hx hb dX4_allNumbersAdded_1 rfl hl (by decide) rfl (fun ls hl => ?_)
  refine lv_iconst (v := nI 0) hx hb dX4_allNumbersAdded_2 (by decide) ?_
  refine lv_istore_n (lv' := [(2, .int (nI 0)), (1, .int (nI 0)), (0, .ref h0)]) hx hb dX4_allNumbersAdded_3 rfl hl (by decide) rfl (fun ls hl => ?_)
  have LP4 : ∀ (fu : Nat) (i : Nat), (i ≤ n) → (n - i) < fu → ∀ (ls : Array Slot), lv_has ls 4 [(0, .ref h0), (1, .int (sa f z i)), (2, .int (nI i))] → W p l e ({ frames := 3, cells := 0, slots := 0, locals := 65 } : Room) s m args below meth c H [] 0 0 Q (F0 m 4 ls []) := by
    intro fu
    induction fu with
    | zero =>
      intro i hi hfu
      exact absurd hfu (Nat.not_lt_zero _)
    | succ fu ih4 =>
      intro i hi hfu  ls hl
      refine lv_iload_n hx hb dX4_allNumbersAdded_4 rfl (lv_at hl 2 rfl) ?_
      refine lv_aload_n hx hb dX4_allNumbersAdded_5 rfl (lv_at hl 0 rfl) ?_
      refine x_get (C := RX4) (T := TX4) (N := 7) (ci := 4) 2 inT_X4 rfl (by decide) lf_X4_22 rfl X hP 0 rfl rfl dX4_allNumbersAdded_6 ?_
      refine n_icmp_ge (tgt := 46) hx hb dX4_allNumbersAdded_9 (by decide) (by omega) (by omega) (fun c_9 => ?_) (fun c_9 => ?_)
      · refine lv_iload_n hx hb dX4_allNumbersAdded_46 rfl (lv_at hl 1 rfl) ?_
        exact st_eq (show (sa f z i : Int32) = sa f z n from by rw [show i = n by omega]) (fin _ _ dX4_allNumbersAdded_47)
      · refine lv_iconst (v := nI 0) hx hb dX4_allNumbersAdded_12 (by decide) ?_
        refine lv_istore_n (lv' := [(3, .int (nI 0)), (0, .ref h0), (1, .int (sa f z i)), (2, .int (nI i))]) hx hb dX4_allNumbersAdded_13 rfl hl (by decide) rfl (fun ls hl => ?_)
        have LP14 : ∀ (fu : Nat) (j : Nat), (j ≤ z) → (z - j) < fu → ∀ (ls : Array Slot), lv_has ls 4 [(0, .ref h0), (1, .int (sr f i (sa f z i) j)), (2, .int (nI i)), (3, .int (nI j))] → W p l e ({ frames := 3, cells := 0, slots := 0, locals := 65 } : Room) s m args below meth c H [] 0 0 Q (F0 m 14 ls []) := by
          intro fu
          induction fu with
          | zero =>
            intro j hj hfu
            exact absurd hfu (Nat.not_lt_zero _)
          | succ fu ih14 =>
            intro j hj hfu  ls hl
            refine lv_iload_n hx hb dX4_allNumbersAdded_14 rfl (lv_at hl 3 rfl) ?_
            refine lv_aload_n hx hb dX4_allNumbersAdded_15 rfl (lv_at hl 0 rfl) ?_
            refine x_get (C := RX4) (T := TX4) (N := 7) (ci := 4) 3 inT_X4 rfl (by decide) lf_X4_26 rfl X hP 0 rfl rfl dX4_allNumbersAdded_16 ?_
            refine n_icmp_ge (tgt := 40) hx hb dX4_allNumbersAdded_19 (by decide) (by omega) (by omega) (fun c_19 => ?_) (fun c_19 => ?_)
            · refine lv_iinc (v := nI (i + 1)) (lv' := [(2, .int (nI (i + 1))), (0, .ref h0), (1, .int (sr f i (sa f z i) j)), (3, .int (nI j))]) hx hb dX4_allNumbersAdded_40 hl (k := 2) rfl (nI_1 _) (by decide) rfl (fun ls hl => ?_)
              refine lv_goto (tgt := 4) hx hb dX4_allNumbersAdded_43 (by decide) ?_
              have hl : lv_has ls 4 [(2, .int (nI (i + 1))), (0, .ref h0), (1, .int (sa f z (i + 1))), (3, .int (nI j))] := lv_rep hl (congrArg (fun z_ : Int32 => ([(2, .int (nI (i + 1))), (0, .ref h0), (1, .int z_), (3, .int (nI j))] : List (Nat × Value))) (show (sr f i (sa f z i) j : Int32) = sa f z (i + 1) from by rw [show j = z by omega]; rfl))
              exact ih4  (i + 1) (by omega) (by omega) _ (lv_sub hl [1, 2, 0] rfl)
            · refine lv_iload_n hx hb dX4_allNumbersAdded_22 rfl (lv_at hl 1 rfl) ?_
              refine lv_aload_n hx hb dX4_allNumbersAdded_23 rfl (lv_at hl 0 rfl) ?_
              refine x_get (C := RX4) (T := TX4) (N := 7) (ci := 4) 0 inT_X4 rfl (by decide) lf_X4_12 rfl X hP 0 rfl rfl dX4_allNumbersAdded_24 ?_
              refine lv_iload_n hx hb dX4_allNumbersAdded_27 rfl (lv_at hl 2 rfl) ?_
              refine lv_iload_n hx hb dX4_allNumbersAdded_28 rfl (lv_at hl 3 rfl) ?_
              refine cR_V (As := [.int (nI i), .int (nI j)]) (rest := [.int (sr f i (sa f z i) j)]) X (c_X3_get l G cI cZ hr ra f i j (by first | assumption | omega) (by first | assumption | omega)) lk_X4_71 (hP.sub (ws' := [(hr, .inr (3, [.ref ra])), (ra, .inl (cI, 108, .inl f))]) [1, 2] rfl) rfl rfl hl.1 rfl rfl (Nat.le_of_ble_eq_true rfl) ⟨Nat.le_of_ble_eq_true rfl, Nat.le_of_ble_eq_true rfl⟩ ⟨Nat.le_of_ble_eq_true rfl, Nat.le_of_ble_eq_true rfl⟩ dX4_allNumbersAdded_29 ?_
              refine lv_iadd hx hb dX4_allNumbersAdded_32 ?_
              refine lv_istore_n (lv' := [(1, .int ((sr f i (sa f z i) j) + (f (12 * i + j)))), (0, .ref h0), (2, .int (nI i)), (3, .int (nI j))]) hx hb dX4_allNumbersAdded_33 rfl hl (by decide) rfl (fun ls hl => ?_)
              refine lv_iinc (v := nI (j + 1)) (lv' := [(3, .int (nI (j + 1))), (1, .int ((sr f i (sa f z i) j) + (f (12 * i + j)))), (0, .ref h0), (2, .int (nI i))]) hx hb dX4_allNumbersAdded_34 hl (k := 3) rfl (nI_1 _) (by decide) rfl (fun ls hl => ?_)
              refine lv_goto (tgt := 14) hx hb dX4_allNumbersAdded_37 (by decide) ?_
              have hl : lv_has ls 4 [(3, .int (nI (j + 1))), (1, .int (sr f i (sa f z i) (j + 1))), (0, .ref h0), (2, .int (nI i))] := lv_rep hl (congrArg (fun z_ : Int32 => ([(3, .int (nI (j + 1))), (1, .int z_), (0, .ref h0), (2, .int (nI i))] : List (Nat × Value))) (show ((sr f i (sa f z i) j) + (f (12 * i + j)) : Int32) = sr f i (sa f z i) (j + 1) from rfl))
              exact ih14  (j + 1) (by omega) (by omega) _ (lv_sub hl [2, 1, 3, 0] rfl)
        have hl : lv_has ls 4 [(3, .int (nI 0)), (0, .ref h0), (1, .int (sr f i (sa f z i) 0)), (2, .int (nI i))] := lv_rep hl (congrArg (fun z_ : Int32 => ([(3, .int (nI 0)), (0, .ref h0), (1, .int z_), (2, .int (nI i))] : List (Nat × Value))) (show (sa f z i : Int32) = sr f i (sa f z i) 0 from rfl))
        exact LP14 ((z - 0) + 1) 0 (Nat.zero_le _) (Nat.lt_succ_self _) _ (lv_sub hl [1, 2, 3, 0] rfl)
  have hl : lv_has ls 4 [(2, .int (nI 0)), (1, .int (sa f z 0)), (0, .ref h0)] := lv_rep hl (congrArg (fun z_ : Int32 => ([(2, .int (nI 0)), (1, .int z_), (0, .ref h0)] : List (Nat × Value))) (show (nI 0 : Int32) = sa f z 0 from rfl))
  exact LP4 ((n - 0) + 1) 0 (Nat.zero_le _) (Nat.lt_succ_self _) _ (lv_sub hl [2, 1, 0] rfl)

set_option maxHeartbeats 4000000 in
set_option maxRecDepth 100000 in
theorem c_X1_has (l : Launch) (G : va_G) (cI cZ : ClassId) (h0 : Nat) (ht : Nat) (qa : Nat) (qb : Nat) (rd : Nat) (ln : Nat) (lz : Nat) (L : List (List Nat)) (k : Int32) : CR l G cI cZ yX1_has cX1_has 2 .boolean 0 0 [.ref h0, .int k] [(h0, .inr (1, [.ref ht, .int (nI L.length), .int (nI rd), .int (nI ln), .int (nI lz), .ref qa, .ref qb]))] (b2i (hasB k L.length)) := by
  refine CR.of (own := RX1) (by decide) rfl (b2i_nar _) (Nat.le_of_ble_eq_true rfl) ?_
  intro p e R s m args below meth c H Q X hR fin hP ls hl
  subst hR
  have hx := X.1
  have hb := X.2.1
  have hl : lv_has ls 2 [(0, .ref h0), (1, .int k)] := hl
  refine lv_iload_n hx hb dX1_has_0 rfl (lv_at hl 1 rfl) ?_
  refine lv_if_lt (tgt := 16) hx hb dX1_has_1 (by decide) (fun c_1 => ?_) (fun c_1 => ?_)
  · refine lv_iconst (v := nI 0) hx hb dX1_has_16 (by decide) ?_
    exact st_eq (show (nI 0 : Int32) = b2i (hasB k L.length) from by first | exact hasB_1 c_1 c_9 | exact hasB_2 c_1 | exact hasB_3 c_9) (fin _ _ dX1_has_17)
  · refine lv_iload_n hx hb dX1_has_4 rfl (lv_at hl 1 rfl) ?_
    refine lv_aload_n hx hb dX1_has_5 rfl (lv_at hl 0 rfl) ?_
    refine x_get (C := RX1) (T := TX1) (N := 7) (ci := 1) 1 inT_X1 rfl (by decide) lf_X1_15 rfl X hP 0 rfl rfl dX1_has_6 ?_
    refine lv_icmp_ge (tgt := 16) hx hb dX1_has_9 (by decide) (fun c_9 => ?_) (fun c_9 => ?_)
    · refine lv_iconst (v := nI 0) hx hb dX1_has_16 (by decide) ?_
      exact st_eq (show (nI 0 : Int32) = b2i (hasB k L.length) from by first | exact hasB_1 c_1 c_9 | exact hasB_2 c_1 | exact hasB_3 c_9) (fin _ _ dX1_has_17)
    · refine lv_iconst (v := nI 1) hx hb dX1_has_12 (by decide) ?_
      refine lv_goto (tgt := 17) hx hb dX1_has_13 (by decide) ?_
      exact st_eq (show (nI 1 : Int32) = b2i (hasB k L.length) from by first | exact hasB_1 c_1 c_9 | exact hasB_2 c_1 | exact hasB_3 c_9) (fin _ _ dX1_has_17)

set_option maxHeartbeats 4000000 in
set_option maxRecDepth 100000 in
theorem c_X1_told (l : Launch) (G : va_G) (cI cZ : ClassId) (h0 : Nat) (ht : Nat) (qa : Nat) (qb : Nat) (rd : Nat) (ln : Nat) (lz : Nat) (L : List (List Nat)) (tb : Nat → Int32) (k : Nat) (w : Nat) (htb : LTc tb L) (hL : L.length ≤ 144) (hk : k < L.length) (hw : w < 6) : CR l G cI cZ yX1_told cX1_told 3 .int 1 22 [.ref h0, .int (nI k), .int (nI w)] [(h0, .inr (1, [.ref ht, .int (nI L.length), .int (nI rd), .int (nI ln), .int (nI lz), .ref qa, .ref qb])), (ht, .inl (cI, 864, .inl tb))] (nI (lt L k w)) := by
  refine CR.of (own := RX1) (by decide) rfl rfl (Nat.le_of_ble_eq_true rfl) ?_
  intro p e R s m args below meth c H Q X hR fin hP ls hl
  subst hR
  have hx := X.1
  have hb := X.2.1
  have hl : lv_has ls 3 [(0, .ref h0), (1, .int (nI k)), (2, .int (nI w))] := hl
  refine lv_aload_n hx hb dX1_told_0 rfl (lv_at hl 0 rfl) ?_
  refine lv_iload_n hx hb dX1_told_1 rfl (lv_at hl 1 rfl) ?_
  refine cR_V (As := [.int (nI k)]) (rest := []) X (c_X1_has l G cI cZ h0 ht qa qb rd ln lz L (nI k) ) lk_X1_52 (hP.sub (ws' := [(h0, .inr (1, [.ref ht, .int (nI L.length), .int (nI rd), .int (nI ln), .int (nI lz), .ref qa, .ref qb]))]) [0] rfl) rfl rfl hl.1 rfl rfl (Nat.le_of_ble_eq_true rfl) ⟨Nat.le_of_ble_eq_true rfl, Nat.le_of_ble_eq_true rfl⟩ ⟨Nat.le_of_ble_eq_true rfl, Nat.le_of_ble_eq_true rfl⟩ dX1_told_2 ?_
  refine st_eq (show (b2i (hasB (nI k) L.length) : Int32) = b2i true from congrArg b2i (hasB_N hk (by omega))) ?_
  refine b_if_eq (tgt := 31) hx hb dX1_told_5 (by decide) (fun c_5 => ?_) (fun c_5 => ?_)
  · exact absurd ((rfl : true = true).symm.trans c_5) (by decide)
  · refine lv_iload_n hx hb dX1_told_8 rfl (lv_at hl 2 rfl) ?_
    refine lv_iconst (v := nI 0) hx hb dX1_told_9 (by decide) ?_
    refine lv_iconst (v := nI 5) hx hb dX1_told_10 (by decide) ?_
    refine cR_SN (As := [.int (nI w), .int (nI 0), .int (nI 5)]) (rest := []) X (c_X5_isWithin l G cI cZ (nI w) (nI 0) (nI 5) ) lk_X1_56 (hP.sub (ws' := []) [] rfl) hl.1 rfl rfl (Nat.le_of_ble_eq_true rfl) ⟨Nat.le_of_ble_eq_true rfl, Nat.le_of_ble_eq_true rfl⟩ ⟨Nat.le_of_ble_eq_true rfl, Nat.le_of_ble_eq_true rfl⟩ dX1_told_11 ?_
    refine st_eq (show (b2i (inB (nI w) (nI 0) (nI 5)) : Int32) = b2i true from congrArg b2i (inB_tt (by omega) (by omega) (by omega))) ?_
    refine b_if_eq (tgt := 31) hx hb dX1_told_14 (by decide) (fun c_14 => ?_) (fun c_14 => ?_)
    · exact absurd ((rfl : true = true).symm.trans c_14) (by decide)
    · refine lv_aload_n hx hb dX1_told_17 rfl (lv_at hl 0 rfl) ?_
      refine x_get (C := RX1) (T := TX1) (N := 7) (ci := 1) 0 inT_X1 rfl (by decide) lf_X1_9 rfl X hP 0 rfl rfl dX1_told_18 ?_
      refine lv_iload_n hx hb dX1_told_21 rfl (lv_at hl 1 rfl) ?_
      refine lv_bipush (v := nI 6) hx hb dX1_told_22 (by decide) ?_
      refine n_mul hx hb dX1_told_24  ?_
      refine lv_iload_n hx hb dX1_told_25 rfl (lv_at hl 2 rfl) ?_
      refine n_add hx hb dX1_told_26  ?_
      refine n_iald X hP 1 rfl (by omega) (by decide) dX1_told_27 ?_
      refine st_eq (show (tb ((k * 6) + w) : Int32) = nI (lt L k w) from by rw [Nat.mul_comm k 6]; exact htb k hk w hw) ?_
      refine lv_goto (tgt := 32) hx hb dX1_told_28 (by decide) ?_
      exact fin _ _ dX1_told_32

set_option maxHeartbeats 4000000 in
set_option maxRecDepth 100000 in
theorem c_X1_brings (l : Launch) (G : va_G) (cI cZ : ClassId) (h0 : Nat) (ht : Nat) (qa : Nat) (qb : Nat) (rd : Nat) (ln : Nat) (lz : Nat) (L : List (List Nat)) (tb : Nat → Int32) (n : Nat) (z : Nat) (k : Nat) (q : Nat) (htb : LTc tb L) (hwf : WFL L rd n z) (hn9 : n ≤ 9) (hz : z ≤ 99) (hk : k < L.length) (hq : q < 12) : CR l G cI cZ yX1_brings cX1_brings 4 .boolean 2 44 [.ref h0, .int (nI k), .int (nI q)] [(h0, .inr (1, [.ref ht, .int (nI L.length), .int (nI rd), .int (nI ln), .int (nI lz), .ref qa, .ref qb])), (ht, .inl (cI, 864, .inl tb))] (b2i (brB L k q)) := by
  have hL := hwf.1
  obtain ⟨w0, w1, w2, w3, w4⟩ := hwf.2 k hk
  refine CR.of (own := RX1) (by decide) rfl (b2i_nar _) (Nat.le_of_ble_eq_true rfl) ?_
  intro p e R s m args below meth c H Q X hR fin hP ls hl
  subst hR
  have hx := X.1
  have hb := X.2.1
  have hl : lv_has ls 4 [(0, .ref h0), (1, .int (nI k)), (2, .int (nI q))] := hl
  refine lv_aload_n hx hb dX1_brings_0 rfl (lv_at hl 0 rfl) ?_
  refine lv_iload_n hx hb dX1_brings_1 rfl (lv_at hl 1 rfl) ?_
  refine lv_iconst (v := nI 3) hx hb dX1_brings_2 (by decide) ?_
  refine cR_V (As := [.int (nI k), .int (nI 3)]) (rest := []) X (c_X1_told l G cI cZ h0 ht qa qb rd ln lz L tb k 3 (by first | assumption | omega) (by first | assumption | omega) (by first | assumption | omega) (by first | assumption | omega)) lk_X1_60 (hP.sub (ws' := [(h0, .inr (1, [.ref ht, .int (nI L.length), .int (nI rd), .int (nI ln), .int (nI lz), .ref qa, .ref qb])), (ht, .inl (cI, 864, .inl tb))]) [0, 1] rfl) rfl rfl hl.1 rfl rfl (Nat.le_of_ble_eq_true rfl) ⟨Nat.le_of_ble_eq_true rfl, Nat.le_of_ble_eq_true rfl⟩ ⟨Nat.le_of_ble_eq_true rfl, Nat.le_of_ble_eq_true rfl⟩ dX1_brings_3 ?_
  refine lv_istore_n (lv' := [(3, .int (nI (lt L k 3))), (0, .ref h0), (1, .int (nI k)), (2, .int (nI q))]) hx hb dX1_brings_6 rfl hl (by decide) rfl (fun ls hl => ?_)
  refine lv_iload_n hx hb dX1_brings_7 rfl (lv_at hl 3 rfl) ?_
  refine lv_iload_n hx hb dX1_brings_8 rfl (lv_at hl 0 rfl) ?_
  refine n_icmp_lt (tgt := 28) hx hb dX1_brings_9 (by decide) (by omega) (by omega) (fun c_9 => ?_) (fun c_9 => ?_)
  · refine lv_iconst (v := nI 0) hx hb dX1_brings_28 (by decide) ?_
    exact st_eq (show (nI 0 : Int32) = b2i (brB L k q) from by first | (simp [brB, c_9, c_21, b2i, Nat.not_le.mpr c_9]; done) | (simp [brB, c_9, c_21, b2i]; rfl) | (simp [brB, Nat.not_le.mpr c_9, b2i]; rfl) | (simp [brB, Nat.not_lt.mpr c_21, b2i]; rfl)) (fin _ _ dX1_brings_29)
  · refine lv_iload_n hx hb dX1_brings_12 rfl (lv_at hl 3 rfl) ?_
    refine lv_iload_n hx hb dX1_brings_13 rfl (lv_at hl 0 rfl) ?_
    refine lv_aload_n hx hb dX1_brings_14 rfl (lv_at hl 1 rfl) ?_
    refine lv_iload_n hx hb dX1_brings_15 rfl (lv_at hl 2 rfl) ?_
    refine lv_iconst (v := nI 4) hx hb dX1_brings_16 (by decide) ?_
    refine cR_V (As := [.int (nI k), .int (nI 4)]) (rest := [.int (nI (lt L k 3)), .int (nI q)]) X (c_X1_told l G cI cZ h0 ht qa qb rd ln lz L tb k 4 (by first | assumption | omega) (by first | assumption | omega) (by first | assumption | omega) (by first | assumption | omega)) lk_X1_60 (hP.sub (ws' := [(h0, .inr (1, [.ref ht, .int (nI L.length), .int (nI rd), .int (nI ln), .int (nI lz), .ref qa, .ref qb])), (ht, .inl (cI, 864, .inl tb))]) [0, 1] rfl) rfl rfl hl.1 rfl rfl (Nat.le_of_ble_eq_true rfl) ⟨Nat.le_of_ble_eq_true rfl, Nat.le_of_ble_eq_true rfl⟩ ⟨Nat.le_of_ble_eq_true rfl, Nat.le_of_ble_eq_true rfl⟩ dX1_brings_17 ?_
    refine n_add hx hb dX1_brings_20  ?_
    refine n_icmp_ge (tgt := 28) hx hb dX1_brings_21 (by decide) (by omega) (by omega) (fun c_21 => ?_) (fun c_21 => ?_)
    · refine lv_iconst (v := nI 0) hx hb dX1_brings_28 (by decide) ?_
      exact st_eq (show (nI 0 : Int32) = b2i (brB L k q) from by first | (simp [brB, c_9, c_21, b2i, Nat.not_le.mpr c_9]; done) | (simp [brB, c_9, c_21, b2i]; rfl) | (simp [brB, Nat.not_le.mpr c_9, b2i]; rfl) | (simp [brB, Nat.not_lt.mpr c_21, b2i]; rfl)) (fin _ _ dX1_brings_29)
    · refine lv_iconst (v := nI 1) hx hb dX1_brings_24 (by decide) ?_
      refine lv_goto (tgt := 29) hx hb dX1_brings_25 (by decide) ?_
      exact st_eq (show (nI 1 : Int32) = b2i (brB L k q) from by first | (simp [brB, c_9, c_21, b2i, Nat.not_le.mpr c_9]; done) | (simp [brB, c_9, c_21, b2i]; rfl) | (simp [brB, Nat.not_le.mpr c_9, b2i]; rfl) | (simp [brB, Nat.not_lt.mpr c_21, b2i]; rfl)) (fin _ _ dX1_brings_29)

set_option maxHeartbeats 4000000 in
set_option maxRecDepth 100000 in
theorem c_X1_numbersInAll (l : Launch) (G : va_G) (cI cZ : ClassId) (h0 : Nat) (ht : Nat) (qa : Nat) (qb : Nat) (rd : Nat) (ln : Nat) (lz : Nat) (L : List (List Nat)) (tb : Nat → Int32) (htb : LTc tb L) (hL : L.length ≤ 144) : CR l G cI cZ yX1_numbersInAll cX1_numbersInAll 3 .int 2 44 [.ref h0] [(h0, .inr (1, [.ref ht, .int (nI L.length), .int (nI rd), .int (nI ln), .int (nI lz), .ref qa, .ref qb])), (ht, .inl (cI, 864, .inl tb))] (nI (sl L L.length)) := by
  refine CR.of (own := RX1) (by decide) rfl rfl (Nat.le_of_ble_eq_true rfl) ?_
  intro p e R s m args below meth c H Q X hR fin hP ls hl
  subst hR
  have hx := X.1
  have hb := X.2.1
  have hl : lv_has ls 3 [(0, .ref h0)] := hl
  refine lv_iconst (v := nI 0) hx hb dX1_numbersInAll_0 (by decide) ?_
  refine lv_istore_n (lv' := [(1, .int (nI 0)), (0, .ref h0)]) hx hb dX1_numbersInAll_1 rfl hl (by decide) rfl (fun ls hl => ?_)
  refine lv_iconst (v := nI 0) hx hb dX1_numbersInAll_2 (by decide) ?_
  refine lv_istore_n (lv' := [(2, .int (nI 0)), (1, .int (nI 0)), (0, .ref h0)]) hx hb dX1_numbersInAll_3 rfl hl (by decide) rfl (fun ls hl => ?_)
  have LP4 : ∀ (fu : Nat) (i : Nat), (i ≤ L.length) → (L.length - i) < fu → ∀ (ls : Array Slot), lv_has ls 3 [(0, .ref h0), (1, .int (nI (sl L i))), (2, .int (nI i))] → W p l e ({ frames := 2, cells := 0, slots := 0, locals := 44 } : Room) s m args below meth c H [] 0 0 Q (F0 m 4 ls []) := by
    intro fu
    induction fu with
    | zero =>
      intro i hi hfu
      exact absurd hfu (Nat.not_lt_zero _)
    | succ fu ih4 =>
      intro i hi hfu  ls hl
      refine lv_iload_n hx hb dX1_numbersInAll_4 rfl (lv_at hl 2 rfl) ?_
      refine lv_aload_n hx hb dX1_numbersInAll_5 rfl (lv_at hl 0 rfl) ?_
      refine x_get (C := RX1) (T := TX1) (N := 7) (ci := 1) 1 inT_X1 rfl (by decide) lf_X1_15 rfl X hP 0 rfl rfl dX1_numbersInAll_6 ?_
      refine n_icmp_ge (tgt := 27) hx hb dX1_numbersInAll_9 (by decide) (by omega) (by omega) (fun c_9 => ?_) (fun c_9 => ?_)
      · refine lv_iload_n hx hb dX1_numbersInAll_27 rfl (lv_at hl 1 rfl) ?_
        exact st_eq (show (nI (sl L i) : Int32) = nI (sl L L.length) from by rw [show i = L.length by omega]) (fin _ _ dX1_numbersInAll_28)
      · refine lv_iload_n hx hb dX1_numbersInAll_12 rfl (lv_at hl 1 rfl) ?_
        refine lv_aload_n hx hb dX1_numbersInAll_13 rfl (lv_at hl 0 rfl) ?_
        refine lv_iload_n hx hb dX1_numbersInAll_14 rfl (lv_at hl 2 rfl) ?_
        refine lv_iconst (v := nI 4) hx hb dX1_numbersInAll_15 (by decide) ?_
        refine cR_V (As := [.int (nI i), .int (nI 4)]) (rest := [.int (nI (sl L i))]) X (c_X1_told l G cI cZ h0 ht qa qb rd ln lz L tb i 4 (by first | assumption | omega) (by first | assumption | omega) (by first | assumption | omega) (by first | assumption | omega)) lk_X1_60 (hP.sub (ws' := [(h0, .inr (1, [.ref ht, .int (nI L.length), .int (nI rd), .int (nI ln), .int (nI lz), .ref qa, .ref qb])), (ht, .inl (cI, 864, .inl tb))]) [0, 1] rfl) rfl rfl hl.1 rfl rfl (Nat.le_of_ble_eq_true rfl) ⟨Nat.le_of_ble_eq_true rfl, Nat.le_of_ble_eq_true rfl⟩ ⟨Nat.le_of_ble_eq_true rfl, Nat.le_of_ble_eq_true rfl⟩ dX1_numbersInAll_16 ?_
        refine n_add hx hb dX1_numbersInAll_19  ?_
        refine lv_istore_n (lv' := [(1, .int (nI ((sl L i) + (lt L i 4)))), (0, .ref h0), (2, .int (nI i))]) hx hb dX1_numbersInAll_20 rfl hl (by decide) rfl (fun ls hl => ?_)
        refine lv_iinc (v := nI (i + 1)) (lv' := [(2, .int (nI (i + 1))), (1, .int (nI ((sl L i) + (lt L i 4)))), (0, .ref h0)]) hx hb dX1_numbersInAll_21 hl (k := 2) rfl (nI_1 _) (by decide) rfl (fun ls hl => ?_)
        refine lv_goto (tgt := 4) hx hb dX1_numbersInAll_24 (by decide) ?_
        have hl : lv_has ls 3 [(2, .int (nI (i + 1))), (1, .int (nI (sl L (i + 1)))), (0, .ref h0)] := lv_rep hl (congrArg (fun z_ : Int32 => ([(2, .int (nI (i + 1))), (1, .int z_), (0, .ref h0)] : List (Nat × Value))) (show (nI ((sl L i) + (lt L i 4)) : Int32) = nI (sl L (i + 1)) from rfl))
        exact ih4  (i + 1) (by omega) (by omega) _ (lv_sub hl [2, 1, 0] rfl)
  have hl : lv_has ls 3 [(2, .int (nI 0)), (1, .int (nI (sl L 0))), (0, .ref h0)] := lv_rep hl (congrArg (fun z_ : Int32 => ([(2, .int (nI 0)), (1, .int z_), (0, .ref h0)] : List (Nat × Value))) (show (nI 0 : Int32) = nI (sl L 0) from rfl))
  exact LP4 ((L.length - 0) + 1) 0 (Nat.zero_le _) (Nat.lt_succ_self _) _ (lv_sub hl [2, 1, 0] rfl)

set_option maxHeartbeats 4000000 in
set_option maxRecDepth 100000 in
theorem c_X4_priceOf (l : Launch) (G : va_G) (cI cZ : ClassId) (h0 : Nat) (hr : Nat) (hs : Nat) (mn : Nat) (mz : Nat) (op : Int32) (st : Int32) (ea : Int32) (g : Nat → Int32) (h1 : Nat) (ht : Nat) (qa : Nat) (qb : Nat) (rd : Nat) (ln : Nat) (lz : Nat) (L : List (List Nat)) (tb : Nat → Int32) (n : Nat) (z : Nat) (k : Nat) (htb : LTc tb L) (hwf : WFL L rd n z) (hn9 : n ≤ 9) (hz : z ≤ 99) (hk : k < L.length) : CR l G cI cZ yX4_priceOf cX4_priceOf 4 .int 3 65 [.ref h0, .ref h1, .int (nI k)] [(h0, .inr (4, [.ref hr, .ref hs, .int (nI mn), .int (nI mz), .int op, .int st, .int ea])), (hs, .inl (cI, 81, .inl g)), (h1, .inr (1, [.ref ht, .int (nI L.length), .int (nI rd), .int (nI ln), .int (nI lz), .ref qa, .ref qb])), (ht, .inl (cI, 864, .inl tb))] (prc st ea g L k) := by
  have hL := hwf.1
  obtain ⟨w0, w1, w2, w3, w4⟩ := hwf.2 k hk
  refine CR.of (own := RX4) (by decide) rfl rfl (Nat.le_of_ble_eq_true rfl) ?_
  intro p e R s m args below meth c H Q X hR fin hP ls hl
  subst hR
  have hx := X.1
  have hb := X.2.1
  have hl : lv_has ls 4 [(0, .ref h0), (1, .ref h1), (2, .int (nI k))] := hl
  refine lv_aload_n hx hb dX4_priceOf_0 rfl (lv_at hl 0 rfl) ?_
  refine lv_aload_n hx hb dX4_priceOf_1 rfl (lv_at hl 1 rfl) ?_
  refine lv_iload_n hx hb dX4_priceOf_2 rfl (lv_at hl 2 rfl) ?_
  refine lv_iconst (v := nI 1) hx hb dX4_priceOf_3 (by decide) ?_
  refine cR_V (As := [.int (nI k), .int (nI 1)]) (rest := [.ref h0]) X (c_X1_told l G cI cZ h1 ht qa qb rd ln lz L tb k 1 (by first | assumption | omega) (by first | assumption | omega) (by first | assumption | omega) (by first | assumption | omega)) lk_X4_77 (hP.sub (ws' := [(h1, .inr (1, [.ref ht, .int (nI L.length), .int (nI rd), .int (nI ln), .int (nI lz), .ref qa, .ref qb])), (ht, .inl (cI, 864, .inl tb))]) [2, 3] rfl) rfl rfl hl.1 rfl rfl (Nat.le_of_ble_eq_true rfl) ⟨Nat.le_of_ble_eq_true rfl, Nat.le_of_ble_eq_true rfl⟩ ⟨Nat.le_of_ble_eq_true rfl, Nat.le_of_ble_eq_true rfl⟩ dX4_priceOf_4 ?_
  refine lv_aload_n hx hb dX4_priceOf_7 rfl (lv_at hl 1 rfl) ?_
  refine lv_iload_n hx hb dX4_priceOf_8 rfl (lv_at hl 2 rfl) ?_
  refine lv_iconst (v := nI 2) hx hb dX4_priceOf_9 (by decide) ?_
  refine cR_V (As := [.int (nI k), .int (nI 2)]) (rest := [.int (nI (lt L k 1)), .ref h0]) X (c_X1_told l G cI cZ h1 ht qa qb rd ln lz L tb k 2 (by first | assumption | omega) (by first | assumption | omega) (by first | assumption | omega) (by first | assumption | omega)) lk_X4_77 (hP.sub (ws' := [(h1, .inr (1, [.ref ht, .int (nI L.length), .int (nI rd), .int (nI ln), .int (nI lz), .ref qa, .ref qb])), (ht, .inl (cI, 864, .inl tb))]) [2, 3] rfl) rfl rfl hl.1 rfl rfl (Nat.le_of_ble_eq_true rfl) ⟨Nat.le_of_ble_eq_true rfl, Nat.le_of_ble_eq_true rfl⟩ ⟨Nat.le_of_ble_eq_true rfl, Nat.le_of_ble_eq_true rfl⟩ dX4_priceOf_10 ?_
  refine cR_V (As := [.int (nI (lt L k 1)), .int (nI (lt L k 2))]) (rest := []) X (c_X4_slowness l G cI cZ h0 hr hs mn mz op st ea g (lt L k 1) (lt L k 2) (by first | assumption | omega) (by first | assumption | omega)) lk_X4_82 (hP.sub (ws' := [(h0, .inr (4, [.ref hr, .ref hs, .int (nI mn), .int (nI mz), .int op, .int st, .int ea])), (hs, .inl (cI, 81, .inl g))]) [0, 1] rfl) rfl rfl hl.1 rfl rfl (Nat.le_of_ble_eq_true rfl) ⟨Nat.le_of_ble_eq_true rfl, Nat.le_of_ble_eq_true rfl⟩ ⟨Nat.le_of_ble_eq_true rfl, Nat.le_of_ble_eq_true rfl⟩ dX4_priceOf_13 ?_
  refine lv_istore_n (lv' := [(3, .int (g (9 * (lt L k 1) + (lt L k 2)))), (0, .ref h0), (1, .ref h1), (2, .int (nI k))]) hx hb dX4_priceOf_16 rfl hl (by decide) rfl (fun ls hl => ?_)
  refine lv_aload_n hx hb dX4_priceOf_17 rfl (lv_at hl 1 rfl) ?_
  refine x_get (C := RX4) (T := TX4) (N := 7) (ci := 4) 5 inT_X4 rfl (by decide) lf_X4_32 rfl X hP 0 rfl rfl dX4_priceOf_18 ?_
  refine lv_aload_n hx hb dX4_priceOf_21 rfl (lv_at hl 1 rfl) ?_
  refine x_get (C := RX4) (T := TX4) (N := 7) (ci := 4) 6 inT_X4 rfl (by decide) lf_X4_35 rfl X hP 0 rfl rfl dX4_priceOf_22 ?_
  refine lv_aload_n hx hb dX4_priceOf_25 rfl (lv_at hl 2 rfl) ?_
  refine lv_iload_n hx hb dX4_priceOf_26 rfl (lv_at hl 3 rfl) ?_
  refine lv_iconst (v := nI 4) hx hb dX4_priceOf_27 (by decide) ?_
  refine cR_V (As := [.int (nI k), .int (nI 4)]) (rest := [.int ea, .int st]) X (c_X1_told l G cI cZ h1 ht qa qb rd ln lz L tb k 4 (by first | assumption | omega) (by first | assumption | omega) (by first | assumption | omega) (by first | assumption | omega)) lk_X4_77 (hP.sub (ws' := [(h1, .inr (1, [.ref ht, .int (nI L.length), .int (nI rd), .int (nI ln), .int (nI lz), .ref qa, .ref qb])), (ht, .inl (cI, 864, .inl tb))]) [2, 3] rfl) rfl rfl hl.1 rfl rfl (Nat.le_of_ble_eq_true rfl) ⟨Nat.le_of_ble_eq_true rfl, Nat.le_of_ble_eq_true rfl⟩ ⟨Nat.le_of_ble_eq_true rfl, Nat.le_of_ble_eq_true rfl⟩ dX4_priceOf_28 ?_
  refine lv_imul hx hb dX4_priceOf_31 ?_
  refine lv_iadd hx hb dX4_priceOf_32 ?_
  refine lv_iload_n hx hb dX4_priceOf_33 rfl (lv_at hl 0 rfl) ?_
  refine lv_imul hx hb dX4_priceOf_34 ?_
  exact st_eq (show ((st + (ea * (nI (lt L k 4)))) * (g (9 * (lt L k 1) + (lt L k 2))) : Int32) = prc st ea g L k from rfl) (fin _ _ dX4_priceOf_35)

set_option maxHeartbeats 4000000 in
set_option maxRecDepth 100000 in
theorem c_X1_partStart (l : Launch) (G : va_G) (cI cZ : ClassId) (h0 : Nat) (ht : Nat) (qa : Nat) (qb : Nat) (rd : Nat) (ln : Nat) (lz : Nat) (L : List (List Nat)) (q : Nat) (hn : 1 ≤ ln) (hn9 : ln ≤ 9) (hz : lz ≤ 99) (hq : q ≤ 10) : CR l G cI cZ yX1_partStart cX1_partStart 2 .int 0 0 [.ref h0, .int (nI q)] [(h0, .inr (1, [.ref ht, .int (nI L.length), .int (nI rd), .int (nI ln), .int (nI lz), .ref qa, .ref qb]))] (nI (lz * q / ln)) := by
  refine CR.of (own := RX1) (by decide) rfl rfl (Nat.le_of_ble_eq_true rfl) ?_
  intro p e R s m args below meth c H Q X hR fin hP ls hl
  subst hR
  have hx := X.1
  have hb := X.2.1
  have hl : lv_has ls 2 [(0, .ref h0), (1, .int (nI q))] := hl
  refine lv_aload_n hx hb dX1_partStart_0 rfl (lv_at hl 0 rfl) ?_
  refine x_get (C := RX1) (T := TX1) (N := 7) (ci := 1) 3 inT_X1 rfl (by decide) lf_X1_22 rfl X hP 0 rfl rfl dX1_partStart_1 ?_
  refine n_if_le (tgt := 21) hx hb dX1_partStart_4 (by decide) (by omega) (fun c_4 => ?_) (fun c_4 => ?_)
  · exfalso; omega
  · refine lv_aload_n hx hb dX1_partStart_7 rfl (lv_at hl 0 rfl) ?_
    refine x_get (C := RX1) (T := TX1) (N := 7) (ci := 1) 4 inT_X1 rfl (by decide) lf_X1_25 rfl X hP 0 rfl rfl dX1_partStart_8 ?_
    refine lv_iload_n hx hb dX1_partStart_11 rfl (lv_at hl 1 rfl) ?_
    refine n_mul hx hb dX1_partStart_12  ?_
    refine lv_aload_n hx hb dX1_partStart_13 rfl (lv_at hl 0 rfl) ?_
    refine x_get (C := RX1) (T := TX1) (N := 7) (ci := 1) 3 inT_X1 rfl (by decide) lf_X1_22 rfl X hP 0 rfl rfl dX1_partStart_14 ?_
    refine n_div hx hb dX1_partStart_17 (Nat.lt_of_le_of_lt (Nat.mul_le_mul hz hq) (by decide)) (by omega) (by omega) ?_
    refine lv_goto (tgt := 22) hx hb dX1_partStart_18 (by decide) ?_
    exact st_eq (show (nI ((lz * q) / ln) : Int32) = nI (lz * q / ln) from by first | rfl | simp_all) (fin _ _ dX1_partStart_22)

set_option maxHeartbeats 4000000 in
set_option maxRecDepth 100000 in
theorem c_X1_aroundTheRing (l : Launch) (G : va_G) (cI cZ : ClassId) (h0 : Nat) (ht : Nat) (qa : Nat) (qb : Nat) (rd : Nat) (ln : Nat) (lz : Nat) (L : List (List Nat)) (a : Nat) (b : Nat) (hn9 : ln ≤ 9) (ha : a ≤ ln) (hb1 : b < ln) : CR l G cI cZ yX1_aroundTheRing cX1_aroundTheRing 2 .int 0 0 [.ref h0, .int (nI a - nI b)] [(h0, .inr (1, [.ref ht, .int (nI L.length), .int (nI rd), .int (nI ln), .int (nI lz), .ref qa, .ref qb]))] (nI ((a + ln - b) % ln)) := by
  refine CR.of (own := RX1) (by decide) rfl rfl (Nat.le_of_ble_eq_true rfl) ?_
  intro p e R s m args below meth c H Q X hR fin hP ls hl
  subst hR
  have hx := X.1
  have hb := X.2.1
  have hl : lv_has ls 2 [(0, .ref h0), (1, .int (nI a - nI b))] := hl
  refine lv_iload_n hx hb dX1_aroundTheRing_0 rfl (lv_at hl 1 rfl) ?_
  refine lv_if_ge (tgt := 13) hx hb dX1_aroundTheRing_1 (by decide) (fun c_1 => ?_) (fun c_1 => ?_)
  · refine lv_iload_n hx hb dX1_aroundTheRing_13 rfl (lv_at hl 1 rfl) ?_
    refine lv_aload_n hx hb dX1_aroundTheRing_14 rfl (lv_at hl 0 rfl) ?_
    refine x_get (C := RX1) (T := TX1) (N := 7) (ci := 1) 3 inT_X1 rfl (by decide) lf_X1_22 rfl X hP 0 rfl rfl dX1_aroundTheRing_15 ?_
    refine lv_icmp_lt (tgt := 30) hx hb dX1_aroundTheRing_18 (by decide) (fun c_18 => ?_) (fun c_18 => ?_)
    · refine lv_iload_n hx hb dX1_aroundTheRing_30 rfl (lv_at hl 1 rfl) ?_
      exact st_eq (show (nI a - nI b : Int32) = nI ((a + ln - b) % ln) from by first | exact ar1 ln (by omega) a (by omega) b (by omega) ha hb1 c_1 | exact ar2 ln (by omega) a (by omega) b (by omega) ha hb1 c_1 c_18 | exact ar3 ln (by omega) a (by omega) b (by omega) ha hb1 c_1 c_18) (fin _ _ dX1_aroundTheRing_31)
    · refine lv_iload_n hx hb dX1_aroundTheRing_21 rfl (lv_at hl 1 rfl) ?_
      refine lv_aload_n hx hb dX1_aroundTheRing_22 rfl (lv_at hl 0 rfl) ?_
      refine x_get (C := RX1) (T := TX1) (N := 7) (ci := 1) 3 inT_X1 rfl (by decide) lf_X1_22 rfl X hP 0 rfl rfl dX1_aroundTheRing_23 ?_
      refine lv_isub hx hb dX1_aroundTheRing_26 ?_
      refine lv_goto (tgt := 31) hx hb dX1_aroundTheRing_27 (by decide) ?_
      exact st_eq (show ((nI a - nI b) - (nI ln) : Int32) = nI ((a + ln - b) % ln) from by first | exact ar1 ln (by omega) a (by omega) b (by omega) ha hb1 c_1 | exact ar2 ln (by omega) a (by omega) b (by omega) ha hb1 c_1 c_18 | exact ar3 ln (by omega) a (by omega) b (by omega) ha hb1 c_1 c_18) (fin _ _ dX1_aroundTheRing_31)
  · refine lv_iload_n hx hb dX1_aroundTheRing_4 rfl (lv_at hl 1 rfl) ?_
    refine lv_aload_n hx hb dX1_aroundTheRing_5 rfl (lv_at hl 0 rfl) ?_
    refine x_get (C := RX1) (T := TX1) (N := 7) (ci := 1) 3 inT_X1 rfl (by decide) lf_X1_22 rfl X hP 0 rfl rfl dX1_aroundTheRing_6 ?_
    refine lv_iadd hx hb dX1_aroundTheRing_9 ?_
    refine lv_goto (tgt := 31) hx hb dX1_aroundTheRing_10 (by decide) ?_
    exact st_eq (show ((nI a - nI b) + (nI ln) : Int32) = nI ((a + ln - b) % ln) from by first | exact ar1 ln (by omega) a (by omega) b (by omega) ha hb1 c_1 | exact ar2 ln (by omega) a (by omega) b (by omega) ha hb1 c_1 c_18 | exact ar3 ln (by omega) a (by omega) b (by omega) ha hb1 c_1 c_18) (fin _ _ dX1_aroundTheRing_31)

set_option maxHeartbeats 4000000 in
set_option maxRecDepth 100000 in
theorem c_X1_greatestPowerOfTwo (l : Launch) (G : va_G) (cI cZ : ClassId) (h0 : Nat) (ht : Nat) (qa : Nat) (qb : Nat) (rd : Nat) (ln : Nat) (lz : Nat) (L : List (List Nat)) (hn : 2 ≤ ln) (hn9 : ln ≤ 9) : CR l G cI cZ yX1_greatestPowerOfTwo cX1_greatestPowerOfTwo 3 .int 0 0 [.ref h0] [(h0, .inr (1, [.ref ht, .int (nI L.length), .int (nI rd), .int (nI ln), .int (nI lz), .ref qa, .ref qb]))] (nI (gp2 ln)) := by
  refine CR.of (own := RX1) (by decide) rfl rfl (Nat.le_of_ble_eq_true rfl) ?_
  intro p e R s m args below meth c H Q X hR fin hP ls hl
  subst hR
  have hx := X.1
  have hb := X.2.1
  have hl : lv_has ls 3 [(0, .ref h0)] := hl
  refine lv_iconst (v := nI 1) hx hb dX1_greatestPowerOfTwo_0 (by decide) ?_
  refine lv_istore_n (lv' := [(1, .int (nI 1)), (0, .ref h0)]) hx hb dX1_greatestPowerOfTwo_1 rfl hl (by decide) rfl (fun ls hl => ?_)
  refine lv_iconst (v := nI 2) hx hb dX1_greatestPowerOfTwo_2 (by decide) ?_
  refine lv_istore_n (lv' := [(2, .int (nI 2)), (1, .int (nI 1)), (0, .ref h0)]) hx hb dX1_greatestPowerOfTwo_3 rfl hl (by decide) rfl (fun ls hl => ?_)
  refine lv_iload_n hx hb dX1_greatestPowerOfTwo_4 rfl (lv_at hl 0 rfl) ?_
  refine lv_bipush (v := nI 9) hx hb dX1_greatestPowerOfTwo_5 (by decide) ?_
  refine n_icmp_gt (tgt := 27) hx hb dX1_greatestPowerOfTwo_7 (by decide) (by omega) (by omega) (fun c_7 => ?_) (fun c_7 => ?_)
  · exfalso; omega
  · refine lv_iload_n hx hb dX1_greatestPowerOfTwo_10 rfl (lv_at hl 0 rfl) ?_
    refine lv_aload_n hx hb dX1_greatestPowerOfTwo_11 rfl (lv_at hl 2 rfl) ?_
    refine x_get (C := RX1) (T := TX1) (N := 7) (ci := 1) 3 inT_X1 rfl (by decide) lf_X1_22 rfl X hP 0 rfl rfl dX1_greatestPowerOfTwo_12 ?_
    refine n_icmp_gt (tgt := 20) hx hb dX1_greatestPowerOfTwo_15 (by decide) (by omega) (by omega) (fun c_15 => ?_) (fun c_15 => ?_)
    · refine lv_iload_n hx hb dX1_greatestPowerOfTwo_20 rfl (lv_at hl 0 rfl) ?_
      refine lv_iconst (v := nI 2) hx hb dX1_greatestPowerOfTwo_21 (by decide) ?_
      refine n_mul hx hb dX1_greatestPowerOfTwo_22  ?_
      refine lv_istore_n (lv' := [(2, .int (nI (2 * 2))), (1, .int (nI 1)), (0, .ref h0)]) hx hb dX1_greatestPowerOfTwo_23 rfl hl (by decide) rfl (fun ls hl => ?_)
      refine lv_goto (tgt := 4) hx hb dX1_greatestPowerOfTwo_24 (by decide) ?_
      refine lv_iload_n hx hb dX1_greatestPowerOfTwo_4 rfl (lv_at hl 0 rfl) ?_
      refine lv_bipush (v := nI 9) hx hb dX1_greatestPowerOfTwo_5 (by decide) ?_
      refine n_icmp_gt (tgt := 27) hx hb dX1_greatestPowerOfTwo_7 (by decide) (by omega) (by omega) (fun c_7 => ?_) (fun c_7 => ?_)
      · exfalso; omega
      · refine lv_iload_n hx hb dX1_greatestPowerOfTwo_10 rfl (lv_at hl 0 rfl) ?_
        refine lv_aload_n hx hb dX1_greatestPowerOfTwo_11 rfl (lv_at hl 2 rfl) ?_
        refine x_get (C := RX1) (T := TX1) (N := 7) (ci := 1) 3 inT_X1 rfl (by decide) lf_X1_22 rfl X hP 0 rfl rfl dX1_greatestPowerOfTwo_12 ?_
        refine n_icmp_gt (tgt := 20) hx hb dX1_greatestPowerOfTwo_15 (by decide) (by omega) (by omega) (fun c_15 => ?_) (fun c_15 => ?_)
        · refine lv_iload_n hx hb dX1_greatestPowerOfTwo_20 rfl (lv_at hl 0 rfl) ?_
          refine lv_iconst (v := nI 2) hx hb dX1_greatestPowerOfTwo_21 (by decide) ?_
          refine n_mul hx hb dX1_greatestPowerOfTwo_22  ?_
          refine lv_istore_n (lv' := [(2, .int (nI ((2 * 2) * 2))), (1, .int (nI 1)), (0, .ref h0)]) hx hb dX1_greatestPowerOfTwo_23 rfl hl (by decide) rfl (fun ls hl => ?_)
          refine lv_goto (tgt := 4) hx hb dX1_greatestPowerOfTwo_24 (by decide) ?_
          refine lv_iload_n hx hb dX1_greatestPowerOfTwo_4 rfl (lv_at hl 0 rfl) ?_
          refine lv_bipush (v := nI 9) hx hb dX1_greatestPowerOfTwo_5 (by decide) ?_
          refine n_icmp_gt (tgt := 27) hx hb dX1_greatestPowerOfTwo_7 (by decide) (by omega) (by omega) (fun c_7 => ?_) (fun c_7 => ?_)
          · exfalso; omega
          · refine lv_iload_n hx hb dX1_greatestPowerOfTwo_10 rfl (lv_at hl 0 rfl) ?_
            refine lv_aload_n hx hb dX1_greatestPowerOfTwo_11 rfl (lv_at hl 2 rfl) ?_
            refine x_get (C := RX1) (T := TX1) (N := 7) (ci := 1) 3 inT_X1 rfl (by decide) lf_X1_22 rfl X hP 0 rfl rfl dX1_greatestPowerOfTwo_12 ?_
            refine n_icmp_gt (tgt := 20) hx hb dX1_greatestPowerOfTwo_15 (by decide) (by omega) (by omega) (fun c_15 => ?_) (fun c_15 => ?_)
            · refine lv_iload_n hx hb dX1_greatestPowerOfTwo_20 rfl (lv_at hl 0 rfl) ?_
              refine lv_iconst (v := nI 2) hx hb dX1_greatestPowerOfTwo_21 (by decide) ?_
              refine n_mul hx hb dX1_greatestPowerOfTwo_22  ?_
              refine lv_istore_n (lv' := [(2, .int (nI (((2 * 2) * 2) * 2))), (1, .int (nI 1)), (0, .ref h0)]) hx hb dX1_greatestPowerOfTwo_23 rfl hl (by decide) rfl (fun ls hl => ?_)
              refine lv_goto (tgt := 4) hx hb dX1_greatestPowerOfTwo_24 (by decide) ?_
              refine lv_iload_n hx hb dX1_greatestPowerOfTwo_4 rfl (lv_at hl 0 rfl) ?_
              refine lv_bipush (v := nI 9) hx hb dX1_greatestPowerOfTwo_5 (by decide) ?_
              refine n_icmp_gt (tgt := 27) hx hb dX1_greatestPowerOfTwo_7 (by decide) (by omega) (by omega) (fun c_7 => ?_) (fun c_7 => ?_)
              · refine lv_iload_n hx hb dX1_greatestPowerOfTwo_27 rfl (lv_at hl 1 rfl) ?_
                exact st_eq (show (nI 1 : Int32) = nI (gp2 ln) from by congr 1; simp only [gp2]; split <;> (try split) <;> omega) (fin _ _ dX1_greatestPowerOfTwo_28)
              · exfalso; omega
            · refine lv_iload_n hx hb dX1_greatestPowerOfTwo_18 rfl (lv_at hl 0 rfl) ?_
              refine lv_istore_n (lv' := [(1, .int (nI ((2 * 2) * 2))), (2, .int (nI ((2 * 2) * 2))), (0, .ref h0)]) hx hb dX1_greatestPowerOfTwo_19 rfl hl (by decide) rfl (fun ls hl => ?_)
              refine lv_iload_n hx hb dX1_greatestPowerOfTwo_20 rfl (lv_at hl 1 rfl) ?_
              refine lv_iconst (v := nI 2) hx hb dX1_greatestPowerOfTwo_21 (by decide) ?_
              refine n_mul hx hb dX1_greatestPowerOfTwo_22  ?_
              refine lv_istore_n (lv' := [(2, .int (nI (((2 * 2) * 2) * 2))), (1, .int (nI ((2 * 2) * 2))), (0, .ref h0)]) hx hb dX1_greatestPowerOfTwo_23 rfl hl (by decide) rfl (fun ls hl => ?_)
              refine lv_goto (tgt := 4) hx hb dX1_greatestPowerOfTwo_24 (by decide) ?_
              refine lv_iload_n hx hb dX1_greatestPowerOfTwo_4 rfl (lv_at hl 0 rfl) ?_
              refine lv_bipush (v := nI 9) hx hb dX1_greatestPowerOfTwo_5 (by decide) ?_
              refine n_icmp_gt (tgt := 27) hx hb dX1_greatestPowerOfTwo_7 (by decide) (by omega) (by omega) (fun c_7 => ?_) (fun c_7 => ?_)
              · refine lv_iload_n hx hb dX1_greatestPowerOfTwo_27 rfl (lv_at hl 1 rfl) ?_
                exact st_eq (show (nI ((2 * 2) * 2) : Int32) = nI (gp2 ln) from by congr 1; simp only [gp2]; split <;> (try split) <;> omega) (fin _ _ dX1_greatestPowerOfTwo_28)
              · exfalso; omega
        · refine lv_iload_n hx hb dX1_greatestPowerOfTwo_18 rfl (lv_at hl 0 rfl) ?_
          refine lv_istore_n (lv' := [(1, .int (nI (2 * 2))), (2, .int (nI (2 * 2))), (0, .ref h0)]) hx hb dX1_greatestPowerOfTwo_19 rfl hl (by decide) rfl (fun ls hl => ?_)
          refine lv_iload_n hx hb dX1_greatestPowerOfTwo_20 rfl (lv_at hl 1 rfl) ?_
          refine lv_iconst (v := nI 2) hx hb dX1_greatestPowerOfTwo_21 (by decide) ?_
          refine n_mul hx hb dX1_greatestPowerOfTwo_22  ?_
          refine lv_istore_n (lv' := [(2, .int (nI ((2 * 2) * 2))), (1, .int (nI (2 * 2))), (0, .ref h0)]) hx hb dX1_greatestPowerOfTwo_23 rfl hl (by decide) rfl (fun ls hl => ?_)
          refine lv_goto (tgt := 4) hx hb dX1_greatestPowerOfTwo_24 (by decide) ?_
          refine lv_iload_n hx hb dX1_greatestPowerOfTwo_4 rfl (lv_at hl 0 rfl) ?_
          refine lv_bipush (v := nI 9) hx hb dX1_greatestPowerOfTwo_5 (by decide) ?_
          refine n_icmp_gt (tgt := 27) hx hb dX1_greatestPowerOfTwo_7 (by decide) (by omega) (by omega) (fun c_7 => ?_) (fun c_7 => ?_)
          · exfalso; omega
          · refine lv_iload_n hx hb dX1_greatestPowerOfTwo_10 rfl (lv_at hl 0 rfl) ?_
            refine lv_aload_n hx hb dX1_greatestPowerOfTwo_11 rfl (lv_at hl 2 rfl) ?_
            refine x_get (C := RX1) (T := TX1) (N := 7) (ci := 1) 3 inT_X1 rfl (by decide) lf_X1_22 rfl X hP 0 rfl rfl dX1_greatestPowerOfTwo_12 ?_
            refine n_icmp_gt (tgt := 20) hx hb dX1_greatestPowerOfTwo_15 (by decide) (by omega) (by omega) (fun c_15 => ?_) (fun c_15 => ?_)
            · refine lv_iload_n hx hb dX1_greatestPowerOfTwo_20 rfl (lv_at hl 0 rfl) ?_
              refine lv_iconst (v := nI 2) hx hb dX1_greatestPowerOfTwo_21 (by decide) ?_
              refine n_mul hx hb dX1_greatestPowerOfTwo_22  ?_
              refine lv_istore_n (lv' := [(2, .int (nI (((2 * 2) * 2) * 2))), (1, .int (nI (2 * 2))), (0, .ref h0)]) hx hb dX1_greatestPowerOfTwo_23 rfl hl (by decide) rfl (fun ls hl => ?_)
              refine lv_goto (tgt := 4) hx hb dX1_greatestPowerOfTwo_24 (by decide) ?_
              refine lv_iload_n hx hb dX1_greatestPowerOfTwo_4 rfl (lv_at hl 0 rfl) ?_
              refine lv_bipush (v := nI 9) hx hb dX1_greatestPowerOfTwo_5 (by decide) ?_
              refine n_icmp_gt (tgt := 27) hx hb dX1_greatestPowerOfTwo_7 (by decide) (by omega) (by omega) (fun c_7 => ?_) (fun c_7 => ?_)
              · refine lv_iload_n hx hb dX1_greatestPowerOfTwo_27 rfl (lv_at hl 1 rfl) ?_
                exact st_eq (show (nI (2 * 2) : Int32) = nI (gp2 ln) from by congr 1; simp only [gp2]; split <;> (try split) <;> omega) (fin _ _ dX1_greatestPowerOfTwo_28)
              · exfalso; omega
            · refine lv_iload_n hx hb dX1_greatestPowerOfTwo_18 rfl (lv_at hl 0 rfl) ?_
              refine lv_istore_n (lv' := [(1, .int (nI ((2 * 2) * 2))), (2, .int (nI ((2 * 2) * 2))), (0, .ref h0)]) hx hb dX1_greatestPowerOfTwo_19 rfl hl (by decide) rfl (fun ls hl => ?_)
              refine lv_iload_n hx hb dX1_greatestPowerOfTwo_20 rfl (lv_at hl 1 rfl) ?_
              refine lv_iconst (v := nI 2) hx hb dX1_greatestPowerOfTwo_21 (by decide) ?_
              refine n_mul hx hb dX1_greatestPowerOfTwo_22  ?_
              refine lv_istore_n (lv' := [(2, .int (nI (((2 * 2) * 2) * 2))), (1, .int (nI ((2 * 2) * 2))), (0, .ref h0)]) hx hb dX1_greatestPowerOfTwo_23 rfl hl (by decide) rfl (fun ls hl => ?_)
              refine lv_goto (tgt := 4) hx hb dX1_greatestPowerOfTwo_24 (by decide) ?_
              refine lv_iload_n hx hb dX1_greatestPowerOfTwo_4 rfl (lv_at hl 0 rfl) ?_
              refine lv_bipush (v := nI 9) hx hb dX1_greatestPowerOfTwo_5 (by decide) ?_
              refine n_icmp_gt (tgt := 27) hx hb dX1_greatestPowerOfTwo_7 (by decide) (by omega) (by omega) (fun c_7 => ?_) (fun c_7 => ?_)
              · refine lv_iload_n hx hb dX1_greatestPowerOfTwo_27 rfl (lv_at hl 1 rfl) ?_
                exact st_eq (show (nI ((2 * 2) * 2) : Int32) = nI (gp2 ln) from by congr 1; simp only [gp2]; split <;> (try split) <;> omega) (fin _ _ dX1_greatestPowerOfTwo_28)
              · exfalso; omega
    · refine lv_iload_n hx hb dX1_greatestPowerOfTwo_18 rfl (lv_at hl 0 rfl) ?_
      refine lv_istore_n (lv' := [(1, .int (nI 2)), (2, .int (nI 2)), (0, .ref h0)]) hx hb dX1_greatestPowerOfTwo_19 rfl hl (by decide) rfl (fun ls hl => ?_)
      refine lv_iload_n hx hb dX1_greatestPowerOfTwo_20 rfl (lv_at hl 1 rfl) ?_
      refine lv_iconst (v := nI 2) hx hb dX1_greatestPowerOfTwo_21 (by decide) ?_
      refine n_mul hx hb dX1_greatestPowerOfTwo_22  ?_
      refine lv_istore_n (lv' := [(2, .int (nI (2 * 2))), (1, .int (nI 2)), (0, .ref h0)]) hx hb dX1_greatestPowerOfTwo_23 rfl hl (by decide) rfl (fun ls hl => ?_)
      refine lv_goto (tgt := 4) hx hb dX1_greatestPowerOfTwo_24 (by decide) ?_
      refine lv_iload_n hx hb dX1_greatestPowerOfTwo_4 rfl (lv_at hl 0 rfl) ?_
      refine lv_bipush (v := nI 9) hx hb dX1_greatestPowerOfTwo_5 (by decide) ?_
      refine n_icmp_gt (tgt := 27) hx hb dX1_greatestPowerOfTwo_7 (by decide) (by omega) (by omega) (fun c_7 => ?_) (fun c_7 => ?_)
      · exfalso; omega
      · refine lv_iload_n hx hb dX1_greatestPowerOfTwo_10 rfl (lv_at hl 0 rfl) ?_
        refine lv_aload_n hx hb dX1_greatestPowerOfTwo_11 rfl (lv_at hl 2 rfl) ?_
        refine x_get (C := RX1) (T := TX1) (N := 7) (ci := 1) 3 inT_X1 rfl (by decide) lf_X1_22 rfl X hP 0 rfl rfl dX1_greatestPowerOfTwo_12 ?_
        refine n_icmp_gt (tgt := 20) hx hb dX1_greatestPowerOfTwo_15 (by decide) (by omega) (by omega) (fun c_15 => ?_) (fun c_15 => ?_)
        · refine lv_iload_n hx hb dX1_greatestPowerOfTwo_20 rfl (lv_at hl 0 rfl) ?_
          refine lv_iconst (v := nI 2) hx hb dX1_greatestPowerOfTwo_21 (by decide) ?_
          refine n_mul hx hb dX1_greatestPowerOfTwo_22  ?_
          refine lv_istore_n (lv' := [(2, .int (nI ((2 * 2) * 2))), (1, .int (nI 2)), (0, .ref h0)]) hx hb dX1_greatestPowerOfTwo_23 rfl hl (by decide) rfl (fun ls hl => ?_)
          refine lv_goto (tgt := 4) hx hb dX1_greatestPowerOfTwo_24 (by decide) ?_
          refine lv_iload_n hx hb dX1_greatestPowerOfTwo_4 rfl (lv_at hl 0 rfl) ?_
          refine lv_bipush (v := nI 9) hx hb dX1_greatestPowerOfTwo_5 (by decide) ?_
          refine n_icmp_gt (tgt := 27) hx hb dX1_greatestPowerOfTwo_7 (by decide) (by omega) (by omega) (fun c_7 => ?_) (fun c_7 => ?_)
          · exfalso; omega
          · refine lv_iload_n hx hb dX1_greatestPowerOfTwo_10 rfl (lv_at hl 0 rfl) ?_
            refine lv_aload_n hx hb dX1_greatestPowerOfTwo_11 rfl (lv_at hl 2 rfl) ?_
            refine x_get (C := RX1) (T := TX1) (N := 7) (ci := 1) 3 inT_X1 rfl (by decide) lf_X1_22 rfl X hP 0 rfl rfl dX1_greatestPowerOfTwo_12 ?_
            refine n_icmp_gt (tgt := 20) hx hb dX1_greatestPowerOfTwo_15 (by decide) (by omega) (by omega) (fun c_15 => ?_) (fun c_15 => ?_)
            · refine lv_iload_n hx hb dX1_greatestPowerOfTwo_20 rfl (lv_at hl 0 rfl) ?_
              refine lv_iconst (v := nI 2) hx hb dX1_greatestPowerOfTwo_21 (by decide) ?_
              refine n_mul hx hb dX1_greatestPowerOfTwo_22  ?_
              refine lv_istore_n (lv' := [(2, .int (nI (((2 * 2) * 2) * 2))), (1, .int (nI 2)), (0, .ref h0)]) hx hb dX1_greatestPowerOfTwo_23 rfl hl (by decide) rfl (fun ls hl => ?_)
              refine lv_goto (tgt := 4) hx hb dX1_greatestPowerOfTwo_24 (by decide) ?_
              refine lv_iload_n hx hb dX1_greatestPowerOfTwo_4 rfl (lv_at hl 0 rfl) ?_
              refine lv_bipush (v := nI 9) hx hb dX1_greatestPowerOfTwo_5 (by decide) ?_
              refine n_icmp_gt (tgt := 27) hx hb dX1_greatestPowerOfTwo_7 (by decide) (by omega) (by omega) (fun c_7 => ?_) (fun c_7 => ?_)
              · refine lv_iload_n hx hb dX1_greatestPowerOfTwo_27 rfl (lv_at hl 1 rfl) ?_
                exact st_eq (show (nI 2 : Int32) = nI (gp2 ln) from by congr 1; simp only [gp2]; split <;> (try split) <;> omega) (fin _ _ dX1_greatestPowerOfTwo_28)
              · exfalso; omega
            · refine lv_iload_n hx hb dX1_greatestPowerOfTwo_18 rfl (lv_at hl 0 rfl) ?_
              refine lv_istore_n (lv' := [(1, .int (nI ((2 * 2) * 2))), (2, .int (nI ((2 * 2) * 2))), (0, .ref h0)]) hx hb dX1_greatestPowerOfTwo_19 rfl hl (by decide) rfl (fun ls hl => ?_)
              refine lv_iload_n hx hb dX1_greatestPowerOfTwo_20 rfl (lv_at hl 1 rfl) ?_
              refine lv_iconst (v := nI 2) hx hb dX1_greatestPowerOfTwo_21 (by decide) ?_
              refine n_mul hx hb dX1_greatestPowerOfTwo_22  ?_
              refine lv_istore_n (lv' := [(2, .int (nI (((2 * 2) * 2) * 2))), (1, .int (nI ((2 * 2) * 2))), (0, .ref h0)]) hx hb dX1_greatestPowerOfTwo_23 rfl hl (by decide) rfl (fun ls hl => ?_)
              refine lv_goto (tgt := 4) hx hb dX1_greatestPowerOfTwo_24 (by decide) ?_
              refine lv_iload_n hx hb dX1_greatestPowerOfTwo_4 rfl (lv_at hl 0 rfl) ?_
              refine lv_bipush (v := nI 9) hx hb dX1_greatestPowerOfTwo_5 (by decide) ?_
              refine n_icmp_gt (tgt := 27) hx hb dX1_greatestPowerOfTwo_7 (by decide) (by omega) (by omega) (fun c_7 => ?_) (fun c_7 => ?_)
              · refine lv_iload_n hx hb dX1_greatestPowerOfTwo_27 rfl (lv_at hl 1 rfl) ?_
                exact st_eq (show (nI ((2 * 2) * 2) : Int32) = nI (gp2 ln) from by congr 1; simp only [gp2]; split <;> (try split) <;> omega) (fin _ _ dX1_greatestPowerOfTwo_28)
              · exfalso; omega
        · refine lv_iload_n hx hb dX1_greatestPowerOfTwo_18 rfl (lv_at hl 0 rfl) ?_
          refine lv_istore_n (lv' := [(1, .int (nI (2 * 2))), (2, .int (nI (2 * 2))), (0, .ref h0)]) hx hb dX1_greatestPowerOfTwo_19 rfl hl (by decide) rfl (fun ls hl => ?_)
          refine lv_iload_n hx hb dX1_greatestPowerOfTwo_20 rfl (lv_at hl 1 rfl) ?_
          refine lv_iconst (v := nI 2) hx hb dX1_greatestPowerOfTwo_21 (by decide) ?_
          refine n_mul hx hb dX1_greatestPowerOfTwo_22  ?_
          refine lv_istore_n (lv' := [(2, .int (nI ((2 * 2) * 2))), (1, .int (nI (2 * 2))), (0, .ref h0)]) hx hb dX1_greatestPowerOfTwo_23 rfl hl (by decide) rfl (fun ls hl => ?_)
          refine lv_goto (tgt := 4) hx hb dX1_greatestPowerOfTwo_24 (by decide) ?_
          refine lv_iload_n hx hb dX1_greatestPowerOfTwo_4 rfl (lv_at hl 0 rfl) ?_
          refine lv_bipush (v := nI 9) hx hb dX1_greatestPowerOfTwo_5 (by decide) ?_
          refine n_icmp_gt (tgt := 27) hx hb dX1_greatestPowerOfTwo_7 (by decide) (by omega) (by omega) (fun c_7 => ?_) (fun c_7 => ?_)
          · exfalso; omega
          · refine lv_iload_n hx hb dX1_greatestPowerOfTwo_10 rfl (lv_at hl 0 rfl) ?_
            refine lv_aload_n hx hb dX1_greatestPowerOfTwo_11 rfl (lv_at hl 2 rfl) ?_
            refine x_get (C := RX1) (T := TX1) (N := 7) (ci := 1) 3 inT_X1 rfl (by decide) lf_X1_22 rfl X hP 0 rfl rfl dX1_greatestPowerOfTwo_12 ?_
            refine n_icmp_gt (tgt := 20) hx hb dX1_greatestPowerOfTwo_15 (by decide) (by omega) (by omega) (fun c_15 => ?_) (fun c_15 => ?_)
            · refine lv_iload_n hx hb dX1_greatestPowerOfTwo_20 rfl (lv_at hl 0 rfl) ?_
              refine lv_iconst (v := nI 2) hx hb dX1_greatestPowerOfTwo_21 (by decide) ?_
              refine n_mul hx hb dX1_greatestPowerOfTwo_22  ?_
              refine lv_istore_n (lv' := [(2, .int (nI (((2 * 2) * 2) * 2))), (1, .int (nI (2 * 2))), (0, .ref h0)]) hx hb dX1_greatestPowerOfTwo_23 rfl hl (by decide) rfl (fun ls hl => ?_)
              refine lv_goto (tgt := 4) hx hb dX1_greatestPowerOfTwo_24 (by decide) ?_
              refine lv_iload_n hx hb dX1_greatestPowerOfTwo_4 rfl (lv_at hl 0 rfl) ?_
              refine lv_bipush (v := nI 9) hx hb dX1_greatestPowerOfTwo_5 (by decide) ?_
              refine n_icmp_gt (tgt := 27) hx hb dX1_greatestPowerOfTwo_7 (by decide) (by omega) (by omega) (fun c_7 => ?_) (fun c_7 => ?_)
              · refine lv_iload_n hx hb dX1_greatestPowerOfTwo_27 rfl (lv_at hl 1 rfl) ?_
                exact st_eq (show (nI (2 * 2) : Int32) = nI (gp2 ln) from by congr 1; simp only [gp2]; split <;> (try split) <;> omega) (fin _ _ dX1_greatestPowerOfTwo_28)
              · exfalso; omega
            · refine lv_iload_n hx hb dX1_greatestPowerOfTwo_18 rfl (lv_at hl 0 rfl) ?_
              refine lv_istore_n (lv' := [(1, .int (nI ((2 * 2) * 2))), (2, .int (nI ((2 * 2) * 2))), (0, .ref h0)]) hx hb dX1_greatestPowerOfTwo_19 rfl hl (by decide) rfl (fun ls hl => ?_)
              refine lv_iload_n hx hb dX1_greatestPowerOfTwo_20 rfl (lv_at hl 1 rfl) ?_
              refine lv_iconst (v := nI 2) hx hb dX1_greatestPowerOfTwo_21 (by decide) ?_
              refine n_mul hx hb dX1_greatestPowerOfTwo_22  ?_
              refine lv_istore_n (lv' := [(2, .int (nI (((2 * 2) * 2) * 2))), (1, .int (nI ((2 * 2) * 2))), (0, .ref h0)]) hx hb dX1_greatestPowerOfTwo_23 rfl hl (by decide) rfl (fun ls hl => ?_)
              refine lv_goto (tgt := 4) hx hb dX1_greatestPowerOfTwo_24 (by decide) ?_
              refine lv_iload_n hx hb dX1_greatestPowerOfTwo_4 rfl (lv_at hl 0 rfl) ?_
              refine lv_bipush (v := nI 9) hx hb dX1_greatestPowerOfTwo_5 (by decide) ?_
              refine n_icmp_gt (tgt := 27) hx hb dX1_greatestPowerOfTwo_7 (by decide) (by omega) (by omega) (fun c_7 => ?_) (fun c_7 => ?_)
              · refine lv_iload_n hx hb dX1_greatestPowerOfTwo_27 rfl (lv_at hl 1 rfl) ?_
                exact st_eq (show (nI ((2 * 2) * 2) : Int32) = nI (gp2 ln) from by congr 1; simp only [gp2]; split <;> (try split) <;> omega) (fin _ _ dX1_greatestPowerOfTwo_28)
              · exfalso; omega

set_option maxHeartbeats 4000000 in
set_option maxRecDepth 100000 in
theorem c_X1_upper (l : Launch) (G : va_G) (cI cZ : ClassId) (k : Nat) (hk : 1 ≤ k) (hk9 : k ≤ 9) : CR l G cI cZ yX1_upper cX1_upper 1 .int 0 0 [.int (nI k)] [] (nI ((k - 1) / 2)) := by
  refine CR.of (own := RX1) (by decide) rfl rfl (Nat.le_of_ble_eq_true rfl) ?_
  intro p e R s m args below meth c H Q X hR fin hP ls hl
  subst hR
  have hx := X.1
  have hb := X.2.1
  have hl : lv_has ls 1 [(0, .int (nI k))] := hl
  refine lv_iload_n hx hb dX1_upper_0 rfl (lv_at hl 0 rfl) ?_
  refine lv_iconst (v := nI 1) hx hb dX1_upper_1 (by decide) ?_
  refine n_sub hx hb dX1_upper_2 (by omega) ?_
  refine lv_iconst (v := nI 2) hx hb dX1_upper_3 (by decide) ?_
  refine n_div hx hb dX1_upper_4 (by omega) (by omega) (by omega) ?_
  exact fin _ _ dX1_upper_5

set_option maxHeartbeats 4000000 in
set_option maxRecDepth 100000 in
theorem c_X1_firstOnLevel (l : Launch) (G : va_G) (cI cZ : ClassId) (v : Nat) (hv : v < 6) : CR l G cI cZ yX1_firstOnLevel cX1_firstOnLevel 1 .int 0 0 [.int (nI v)] [] (nI (2 ^ v - 1)) := by
  refine CR.of (own := RX1) (by decide) rfl rfl (Nat.le_of_ble_eq_true rfl) ?_
  intro p e R s m args below meth c H Q X hR fin hP ls hl
  subst hR
  have hx := X.1
  have hb := X.2.1
  have hl : lv_has ls 1 [(0, .int (nI v))] := hl
  refine lv_iconst (v := nI 1) hx hb dX1_firstOnLevel_0 (by decide) ?_
  refine lv_iload_n hx hb dX1_firstOnLevel_1 rfl (lv_at hl 0 rfl) ?_
  refine lv_ishl hx hb dX1_firstOnLevel_2 ?_
  refine lv_iconst (v := nI 1) hx hb dX1_firstOnLevel_3 (by decide) ?_
  refine lv_isub hx hb dX1_firstOnLevel_4 ?_
  exact st_eq (show (((nI 1) <<< ((nI v) &&& 31)) - (nI 1) : Int32) = nI (2 ^ v - 1) from fol v hv) (fin _ _ dX1_firstOnLevel_5)

set_option maxHeartbeats 4000000 in
set_option maxRecDepth 100000 in
theorem c_X1_deepestLevel (l : Launch) (G : va_G) (cI cZ : ClassId) (h0 : Nat) (ht : Nat) (qa : Nat) (qb : Nat) (rd : Nat) (ln : Nat) (lz : Nat) (L : List (List Nat)) (hn9 : ln ≤ 9) : CR l G cI cZ yX1_deepestLevel cX1_deepestLevel 3 .int 1 20 [.ref h0] [(h0, .inr (1, [.ref ht, .int (nI L.length), .int (nI rd), .int (nI ln), .int (nI lz), .ref qa, .ref qb]))] (nI (dpl ln)) := by
  refine CR.of (own := RX1) (by decide) rfl rfl (Nat.le_of_ble_eq_true rfl) ?_
  intro p e R s m args below meth c H Q X hR fin hP ls hl
  subst hR
  have hx := X.1
  have hb := X.2.1
  have hl : lv_has ls 3 [(0, .ref h0)] := hl
  refine lv_iconst (v := nI 0) hx hb dX1_deepestLevel_0 (by decide) ?_
  refine lv_istore_n (lv' := [(1, .int (nI 0)), (0, .ref h0)]) hx hb dX1_deepestLevel_1 rfl hl (by decide) rfl (fun ls hl => ?_)
  refine lv_iconst (v := nI 1) hx hb dX1_deepestLevel_2 (by decide) ?_
  refine lv_istore_n (lv' := [(2, .int (nI 1)), (1, .int (nI 0)), (0, .ref h0)]) hx hb dX1_deepestLevel_3 rfl hl (by decide) rfl (fun ls hl => ?_)
  refine lv_iload_n hx hb dX1_deepestLevel_4 rfl (lv_at hl 0 rfl) ?_
  refine lv_iconst (v := nI 3) hx hb dX1_deepestLevel_5 (by decide) ?_
  refine n_icmp_gt (tgt := 28) hx hb dX1_deepestLevel_6 (by decide) (by omega) (by omega) (fun c_6 => ?_) (fun c_6 => ?_)
  · exfalso; omega
  · refine lv_iload_n hx hb dX1_deepestLevel_9 rfl (lv_at hl 0 rfl) ?_
    refine cR_S (As := [.int (nI 1)]) (rest := []) X (c_X1_firstOnLevel l G cI cZ 1 (by first | assumption | omega)) lk_X1_104 (hP.sub (ws' := []) [] rfl) hl.1 rfl rfl (Nat.le_of_ble_eq_true rfl) ⟨Nat.le_of_ble_eq_true rfl, Nat.le_of_ble_eq_true rfl⟩ ⟨Nat.le_of_ble_eq_true rfl, Nat.le_of_ble_eq_true rfl⟩ dX1_deepestLevel_10 ?_
    refine st_eq (show nI (2 ^ 1 - 1) = nI 1 from rfl) ?_
    refine lv_aload_n hx hb dX1_deepestLevel_13 rfl (lv_at hl 2 rfl) ?_
    refine x_get (C := RX1) (T := TX1) (N := 7) (ci := 1) 3 inT_X1 rfl (by decide) lf_X1_22 rfl X hP 0 rfl rfl dX1_deepestLevel_14 ?_
    refine n_icmp_ge (tgt := 22) hx hb dX1_deepestLevel_17 (by decide) (by omega) (by omega) (fun c_17 => ?_) (fun c_17 => ?_)
    · refine lv_iinc (v := nI (1 + 1)) (lv' := [(2, .int (nI (1 + 1))), (1, .int (nI 0)), (0, .ref h0)]) hx hb dX1_deepestLevel_22 hl (k := 0) rfl (nI_1 _) (by decide) rfl (fun ls hl => ?_)
      refine lv_goto (tgt := 4) hx hb dX1_deepestLevel_25 (by decide) ?_
      refine lv_iload_n hx hb dX1_deepestLevel_4 rfl (lv_at hl 0 rfl) ?_
      refine lv_iconst (v := nI 3) hx hb dX1_deepestLevel_5 (by decide) ?_
      refine n_icmp_gt (tgt := 28) hx hb dX1_deepestLevel_6 (by decide) (by omega) (by omega) (fun c_6 => ?_) (fun c_6 => ?_)
      · exfalso; omega
      · refine lv_iload_n hx hb dX1_deepestLevel_9 rfl (lv_at hl 0 rfl) ?_
        refine cR_S (As := [.int (nI (1 + 1))]) (rest := []) X (c_X1_firstOnLevel l G cI cZ (1 + 1) (by first | assumption | omega)) lk_X1_104 (hP.sub (ws' := []) [] rfl) hl.1 rfl rfl (Nat.le_of_ble_eq_true rfl) ⟨Nat.le_of_ble_eq_true rfl, Nat.le_of_ble_eq_true rfl⟩ ⟨Nat.le_of_ble_eq_true rfl, Nat.le_of_ble_eq_true rfl⟩ dX1_deepestLevel_10 ?_
        refine st_eq (show nI (2 ^ (1 + 1) - 1) = nI 3 from rfl) ?_
        refine lv_aload_n hx hb dX1_deepestLevel_13 rfl (lv_at hl 2 rfl) ?_
        refine x_get (C := RX1) (T := TX1) (N := 7) (ci := 1) 3 inT_X1 rfl (by decide) lf_X1_22 rfl X hP 0 rfl rfl dX1_deepestLevel_14 ?_
        refine n_icmp_ge (tgt := 22) hx hb dX1_deepestLevel_17 (by decide) (by omega) (by omega) (fun c_17 => ?_) (fun c_17 => ?_)
        · refine lv_iinc (v := nI (1 + 1 + 1)) (lv' := [(2, .int (nI (1 + 1 + 1))), (1, .int (nI 0)), (0, .ref h0)]) hx hb dX1_deepestLevel_22 hl (k := 0) rfl (nI_1 _) (by decide) rfl (fun ls hl => ?_)
          refine lv_goto (tgt := 4) hx hb dX1_deepestLevel_25 (by decide) ?_
          refine lv_iload_n hx hb dX1_deepestLevel_4 rfl (lv_at hl 0 rfl) ?_
          refine lv_iconst (v := nI 3) hx hb dX1_deepestLevel_5 (by decide) ?_
          refine n_icmp_gt (tgt := 28) hx hb dX1_deepestLevel_6 (by decide) (by omega) (by omega) (fun c_6 => ?_) (fun c_6 => ?_)
          · exfalso; omega
          · refine lv_iload_n hx hb dX1_deepestLevel_9 rfl (lv_at hl 0 rfl) ?_
            refine cR_S (As := [.int (nI (1 + 1 + 1))]) (rest := []) X (c_X1_firstOnLevel l G cI cZ (1 + 1 + 1) (by first | assumption | omega)) lk_X1_104 (hP.sub (ws' := []) [] rfl) hl.1 rfl rfl (Nat.le_of_ble_eq_true rfl) ⟨Nat.le_of_ble_eq_true rfl, Nat.le_of_ble_eq_true rfl⟩ ⟨Nat.le_of_ble_eq_true rfl, Nat.le_of_ble_eq_true rfl⟩ dX1_deepestLevel_10 ?_
            refine st_eq (show nI (2 ^ (1 + 1 + 1) - 1) = nI 7 from rfl) ?_
            refine lv_aload_n hx hb dX1_deepestLevel_13 rfl (lv_at hl 2 rfl) ?_
            refine x_get (C := RX1) (T := TX1) (N := 7) (ci := 1) 3 inT_X1 rfl (by decide) lf_X1_22 rfl X hP 0 rfl rfl dX1_deepestLevel_14 ?_
            refine n_icmp_ge (tgt := 22) hx hb dX1_deepestLevel_17 (by decide) (by omega) (by omega) (fun c_17 => ?_) (fun c_17 => ?_)
            · refine lv_iinc (v := nI (1 + 1 + 1 + 1)) (lv' := [(2, .int (nI (1 + 1 + 1 + 1))), (1, .int (nI 0)), (0, .ref h0)]) hx hb dX1_deepestLevel_22 hl (k := 0) rfl (nI_1 _) (by decide) rfl (fun ls hl => ?_)
              refine lv_goto (tgt := 4) hx hb dX1_deepestLevel_25 (by decide) ?_
              refine lv_iload_n hx hb dX1_deepestLevel_4 rfl (lv_at hl 0 rfl) ?_
              refine lv_iconst (v := nI 3) hx hb dX1_deepestLevel_5 (by decide) ?_
              refine n_icmp_gt (tgt := 28) hx hb dX1_deepestLevel_6 (by decide) (by omega) (by omega) (fun c_6 => ?_) (fun c_6 => ?_)
              · refine lv_iload_n hx hb dX1_deepestLevel_28 rfl (lv_at hl 1 rfl) ?_
                exact st_eq (show (nI 0 : Int32) = nI (dpl ln) from by congr 1; simp only [dpl]; split <;> (try split) <;> (try split) <;> omega) (fin _ _ dX1_deepestLevel_29)
              · exfalso; omega
            · refine lv_iload_n hx hb dX1_deepestLevel_20 rfl (lv_at hl 0 rfl) ?_
              refine lv_istore_n (lv' := [(1, .int (nI (1 + 1 + 1))), (2, .int (nI (1 + 1 + 1))), (0, .ref h0)]) hx hb dX1_deepestLevel_21 rfl hl (by decide) rfl (fun ls hl => ?_)
              refine lv_iinc (v := nI (1 + 1 + 1 + 1)) (lv' := [(2, .int (nI (1 + 1 + 1 + 1))), (1, .int (nI (1 + 1 + 1))), (0, .ref h0)]) hx hb dX1_deepestLevel_22 hl (k := 1) rfl (nI_1 _) (by decide) rfl (fun ls hl => ?_)
              refine lv_goto (tgt := 4) hx hb dX1_deepestLevel_25 (by decide) ?_
              refine lv_iload_n hx hb dX1_deepestLevel_4 rfl (lv_at hl 0 rfl) ?_
              refine lv_iconst (v := nI 3) hx hb dX1_deepestLevel_5 (by decide) ?_
              refine n_icmp_gt (tgt := 28) hx hb dX1_deepestLevel_6 (by decide) (by omega) (by omega) (fun c_6 => ?_) (fun c_6 => ?_)
              · refine lv_iload_n hx hb dX1_deepestLevel_28 rfl (lv_at hl 1 rfl) ?_
                exact st_eq (show (nI (1 + 1 + 1) : Int32) = nI (dpl ln) from by congr 1; simp only [dpl]; split <;> (try split) <;> (try split) <;> omega) (fin _ _ dX1_deepestLevel_29)
              · exfalso; omega
        · refine lv_iload_n hx hb dX1_deepestLevel_20 rfl (lv_at hl 0 rfl) ?_
          refine lv_istore_n (lv' := [(1, .int (nI (1 + 1))), (2, .int (nI (1 + 1))), (0, .ref h0)]) hx hb dX1_deepestLevel_21 rfl hl (by decide) rfl (fun ls hl => ?_)
          refine lv_iinc (v := nI (1 + 1 + 1)) (lv' := [(2, .int (nI (1 + 1 + 1))), (1, .int (nI (1 + 1))), (0, .ref h0)]) hx hb dX1_deepestLevel_22 hl (k := 1) rfl (nI_1 _) (by decide) rfl (fun ls hl => ?_)
          refine lv_goto (tgt := 4) hx hb dX1_deepestLevel_25 (by decide) ?_
          refine lv_iload_n hx hb dX1_deepestLevel_4 rfl (lv_at hl 0 rfl) ?_
          refine lv_iconst (v := nI 3) hx hb dX1_deepestLevel_5 (by decide) ?_
          refine n_icmp_gt (tgt := 28) hx hb dX1_deepestLevel_6 (by decide) (by omega) (by omega) (fun c_6 => ?_) (fun c_6 => ?_)
          · exfalso; omega
          · refine lv_iload_n hx hb dX1_deepestLevel_9 rfl (lv_at hl 0 rfl) ?_
            refine cR_S (As := [.int (nI (1 + 1 + 1))]) (rest := []) X (c_X1_firstOnLevel l G cI cZ (1 + 1 + 1) (by first | assumption | omega)) lk_X1_104 (hP.sub (ws' := []) [] rfl) hl.1 rfl rfl (Nat.le_of_ble_eq_true rfl) ⟨Nat.le_of_ble_eq_true rfl, Nat.le_of_ble_eq_true rfl⟩ ⟨Nat.le_of_ble_eq_true rfl, Nat.le_of_ble_eq_true rfl⟩ dX1_deepestLevel_10 ?_
            refine st_eq (show nI (2 ^ (1 + 1 + 1) - 1) = nI 7 from rfl) ?_
            refine lv_aload_n hx hb dX1_deepestLevel_13 rfl (lv_at hl 2 rfl) ?_
            refine x_get (C := RX1) (T := TX1) (N := 7) (ci := 1) 3 inT_X1 rfl (by decide) lf_X1_22 rfl X hP 0 rfl rfl dX1_deepestLevel_14 ?_
            refine n_icmp_ge (tgt := 22) hx hb dX1_deepestLevel_17 (by decide) (by omega) (by omega) (fun c_17 => ?_) (fun c_17 => ?_)
            · refine lv_iinc (v := nI (1 + 1 + 1 + 1)) (lv' := [(2, .int (nI (1 + 1 + 1 + 1))), (1, .int (nI (1 + 1))), (0, .ref h0)]) hx hb dX1_deepestLevel_22 hl (k := 0) rfl (nI_1 _) (by decide) rfl (fun ls hl => ?_)
              refine lv_goto (tgt := 4) hx hb dX1_deepestLevel_25 (by decide) ?_
              refine lv_iload_n hx hb dX1_deepestLevel_4 rfl (lv_at hl 0 rfl) ?_
              refine lv_iconst (v := nI 3) hx hb dX1_deepestLevel_5 (by decide) ?_
              refine n_icmp_gt (tgt := 28) hx hb dX1_deepestLevel_6 (by decide) (by omega) (by omega) (fun c_6 => ?_) (fun c_6 => ?_)
              · refine lv_iload_n hx hb dX1_deepestLevel_28 rfl (lv_at hl 1 rfl) ?_
                exact st_eq (show (nI (1 + 1) : Int32) = nI (dpl ln) from by congr 1; simp only [dpl]; split <;> (try split) <;> (try split) <;> omega) (fin _ _ dX1_deepestLevel_29)
              · exfalso; omega
            · refine lv_iload_n hx hb dX1_deepestLevel_20 rfl (lv_at hl 0 rfl) ?_
              refine lv_istore_n (lv' := [(1, .int (nI (1 + 1 + 1))), (2, .int (nI (1 + 1 + 1))), (0, .ref h0)]) hx hb dX1_deepestLevel_21 rfl hl (by decide) rfl (fun ls hl => ?_)
              refine lv_iinc (v := nI (1 + 1 + 1 + 1)) (lv' := [(2, .int (nI (1 + 1 + 1 + 1))), (1, .int (nI (1 + 1 + 1))), (0, .ref h0)]) hx hb dX1_deepestLevel_22 hl (k := 1) rfl (nI_1 _) (by decide) rfl (fun ls hl => ?_)
              refine lv_goto (tgt := 4) hx hb dX1_deepestLevel_25 (by decide) ?_
              refine lv_iload_n hx hb dX1_deepestLevel_4 rfl (lv_at hl 0 rfl) ?_
              refine lv_iconst (v := nI 3) hx hb dX1_deepestLevel_5 (by decide) ?_
              refine n_icmp_gt (tgt := 28) hx hb dX1_deepestLevel_6 (by decide) (by omega) (by omega) (fun c_6 => ?_) (fun c_6 => ?_)
              · refine lv_iload_n hx hb dX1_deepestLevel_28 rfl (lv_at hl 1 rfl) ?_
                exact st_eq (show (nI (1 + 1 + 1) : Int32) = nI (dpl ln) from by congr 1; simp only [dpl]; split <;> (try split) <;> (try split) <;> omega) (fin _ _ dX1_deepestLevel_29)
              · exfalso; omega
    · refine lv_iload_n hx hb dX1_deepestLevel_20 rfl (lv_at hl 0 rfl) ?_
      refine lv_istore_n (lv' := [(1, .int (nI 1)), (2, .int (nI 1)), (0, .ref h0)]) hx hb dX1_deepestLevel_21 rfl hl (by decide) rfl (fun ls hl => ?_)
      refine lv_iinc (v := nI (1 + 1)) (lv' := [(2, .int (nI (1 + 1))), (1, .int (nI 1)), (0, .ref h0)]) hx hb dX1_deepestLevel_22 hl (k := 1) rfl (nI_1 _) (by decide) rfl (fun ls hl => ?_)
      refine lv_goto (tgt := 4) hx hb dX1_deepestLevel_25 (by decide) ?_
      refine lv_iload_n hx hb dX1_deepestLevel_4 rfl (lv_at hl 0 rfl) ?_
      refine lv_iconst (v := nI 3) hx hb dX1_deepestLevel_5 (by decide) ?_
      refine n_icmp_gt (tgt := 28) hx hb dX1_deepestLevel_6 (by decide) (by omega) (by omega) (fun c_6 => ?_) (fun c_6 => ?_)
      · exfalso; omega
      · refine lv_iload_n hx hb dX1_deepestLevel_9 rfl (lv_at hl 0 rfl) ?_
        refine cR_S (As := [.int (nI (1 + 1))]) (rest := []) X (c_X1_firstOnLevel l G cI cZ (1 + 1) (by first | assumption | omega)) lk_X1_104 (hP.sub (ws' := []) [] rfl) hl.1 rfl rfl (Nat.le_of_ble_eq_true rfl) ⟨Nat.le_of_ble_eq_true rfl, Nat.le_of_ble_eq_true rfl⟩ ⟨Nat.le_of_ble_eq_true rfl, Nat.le_of_ble_eq_true rfl⟩ dX1_deepestLevel_10 ?_
        refine st_eq (show nI (2 ^ (1 + 1) - 1) = nI 3 from rfl) ?_
        refine lv_aload_n hx hb dX1_deepestLevel_13 rfl (lv_at hl 2 rfl) ?_
        refine x_get (C := RX1) (T := TX1) (N := 7) (ci := 1) 3 inT_X1 rfl (by decide) lf_X1_22 rfl X hP 0 rfl rfl dX1_deepestLevel_14 ?_
        refine n_icmp_ge (tgt := 22) hx hb dX1_deepestLevel_17 (by decide) (by omega) (by omega) (fun c_17 => ?_) (fun c_17 => ?_)
        · refine lv_iinc (v := nI (1 + 1 + 1)) (lv' := [(2, .int (nI (1 + 1 + 1))), (1, .int (nI 1)), (0, .ref h0)]) hx hb dX1_deepestLevel_22 hl (k := 0) rfl (nI_1 _) (by decide) rfl (fun ls hl => ?_)
          refine lv_goto (tgt := 4) hx hb dX1_deepestLevel_25 (by decide) ?_
          refine lv_iload_n hx hb dX1_deepestLevel_4 rfl (lv_at hl 0 rfl) ?_
          refine lv_iconst (v := nI 3) hx hb dX1_deepestLevel_5 (by decide) ?_
          refine n_icmp_gt (tgt := 28) hx hb dX1_deepestLevel_6 (by decide) (by omega) (by omega) (fun c_6 => ?_) (fun c_6 => ?_)
          · exfalso; omega
          · refine lv_iload_n hx hb dX1_deepestLevel_9 rfl (lv_at hl 0 rfl) ?_
            refine cR_S (As := [.int (nI (1 + 1 + 1))]) (rest := []) X (c_X1_firstOnLevel l G cI cZ (1 + 1 + 1) (by first | assumption | omega)) lk_X1_104 (hP.sub (ws' := []) [] rfl) hl.1 rfl rfl (Nat.le_of_ble_eq_true rfl) ⟨Nat.le_of_ble_eq_true rfl, Nat.le_of_ble_eq_true rfl⟩ ⟨Nat.le_of_ble_eq_true rfl, Nat.le_of_ble_eq_true rfl⟩ dX1_deepestLevel_10 ?_
            refine st_eq (show nI (2 ^ (1 + 1 + 1) - 1) = nI 7 from rfl) ?_
            refine lv_aload_n hx hb dX1_deepestLevel_13 rfl (lv_at hl 2 rfl) ?_
            refine x_get (C := RX1) (T := TX1) (N := 7) (ci := 1) 3 inT_X1 rfl (by decide) lf_X1_22 rfl X hP 0 rfl rfl dX1_deepestLevel_14 ?_
            refine n_icmp_ge (tgt := 22) hx hb dX1_deepestLevel_17 (by decide) (by omega) (by omega) (fun c_17 => ?_) (fun c_17 => ?_)
            · refine lv_iinc (v := nI (1 + 1 + 1 + 1)) (lv' := [(2, .int (nI (1 + 1 + 1 + 1))), (1, .int (nI 1)), (0, .ref h0)]) hx hb dX1_deepestLevel_22 hl (k := 0) rfl (nI_1 _) (by decide) rfl (fun ls hl => ?_)
              refine lv_goto (tgt := 4) hx hb dX1_deepestLevel_25 (by decide) ?_
              refine lv_iload_n hx hb dX1_deepestLevel_4 rfl (lv_at hl 0 rfl) ?_
              refine lv_iconst (v := nI 3) hx hb dX1_deepestLevel_5 (by decide) ?_
              refine n_icmp_gt (tgt := 28) hx hb dX1_deepestLevel_6 (by decide) (by omega) (by omega) (fun c_6 => ?_) (fun c_6 => ?_)
              · refine lv_iload_n hx hb dX1_deepestLevel_28 rfl (lv_at hl 1 rfl) ?_
                exact st_eq (show (nI 1 : Int32) = nI (dpl ln) from by congr 1; simp only [dpl]; split <;> (try split) <;> (try split) <;> omega) (fin _ _ dX1_deepestLevel_29)
              · exfalso; omega
            · refine lv_iload_n hx hb dX1_deepestLevel_20 rfl (lv_at hl 0 rfl) ?_
              refine lv_istore_n (lv' := [(1, .int (nI (1 + 1 + 1))), (2, .int (nI (1 + 1 + 1))), (0, .ref h0)]) hx hb dX1_deepestLevel_21 rfl hl (by decide) rfl (fun ls hl => ?_)
              refine lv_iinc (v := nI (1 + 1 + 1 + 1)) (lv' := [(2, .int (nI (1 + 1 + 1 + 1))), (1, .int (nI (1 + 1 + 1))), (0, .ref h0)]) hx hb dX1_deepestLevel_22 hl (k := 1) rfl (nI_1 _) (by decide) rfl (fun ls hl => ?_)
              refine lv_goto (tgt := 4) hx hb dX1_deepestLevel_25 (by decide) ?_
              refine lv_iload_n hx hb dX1_deepestLevel_4 rfl (lv_at hl 0 rfl) ?_
              refine lv_iconst (v := nI 3) hx hb dX1_deepestLevel_5 (by decide) ?_
              refine n_icmp_gt (tgt := 28) hx hb dX1_deepestLevel_6 (by decide) (by omega) (by omega) (fun c_6 => ?_) (fun c_6 => ?_)
              · refine lv_iload_n hx hb dX1_deepestLevel_28 rfl (lv_at hl 1 rfl) ?_
                exact st_eq (show (nI (1 + 1 + 1) : Int32) = nI (dpl ln) from by congr 1; simp only [dpl]; split <;> (try split) <;> (try split) <;> omega) (fin _ _ dX1_deepestLevel_29)
              · exfalso; omega
        · refine lv_iload_n hx hb dX1_deepestLevel_20 rfl (lv_at hl 0 rfl) ?_
          refine lv_istore_n (lv' := [(1, .int (nI (1 + 1))), (2, .int (nI (1 + 1))), (0, .ref h0)]) hx hb dX1_deepestLevel_21 rfl hl (by decide) rfl (fun ls hl => ?_)
          refine lv_iinc (v := nI (1 + 1 + 1)) (lv' := [(2, .int (nI (1 + 1 + 1))), (1, .int (nI (1 + 1))), (0, .ref h0)]) hx hb dX1_deepestLevel_22 hl (k := 1) rfl (nI_1 _) (by decide) rfl (fun ls hl => ?_)
          refine lv_goto (tgt := 4) hx hb dX1_deepestLevel_25 (by decide) ?_
          refine lv_iload_n hx hb dX1_deepestLevel_4 rfl (lv_at hl 0 rfl) ?_
          refine lv_iconst (v := nI 3) hx hb dX1_deepestLevel_5 (by decide) ?_
          refine n_icmp_gt (tgt := 28) hx hb dX1_deepestLevel_6 (by decide) (by omega) (by omega) (fun c_6 => ?_) (fun c_6 => ?_)
          · exfalso; omega
          · refine lv_iload_n hx hb dX1_deepestLevel_9 rfl (lv_at hl 0 rfl) ?_
            refine cR_S (As := [.int (nI (1 + 1 + 1))]) (rest := []) X (c_X1_firstOnLevel l G cI cZ (1 + 1 + 1) (by first | assumption | omega)) lk_X1_104 (hP.sub (ws' := []) [] rfl) hl.1 rfl rfl (Nat.le_of_ble_eq_true rfl) ⟨Nat.le_of_ble_eq_true rfl, Nat.le_of_ble_eq_true rfl⟩ ⟨Nat.le_of_ble_eq_true rfl, Nat.le_of_ble_eq_true rfl⟩ dX1_deepestLevel_10 ?_
            refine st_eq (show nI (2 ^ (1 + 1 + 1) - 1) = nI 7 from rfl) ?_
            refine lv_aload_n hx hb dX1_deepestLevel_13 rfl (lv_at hl 2 rfl) ?_
            refine x_get (C := RX1) (T := TX1) (N := 7) (ci := 1) 3 inT_X1 rfl (by decide) lf_X1_22 rfl X hP 0 rfl rfl dX1_deepestLevel_14 ?_
            refine n_icmp_ge (tgt := 22) hx hb dX1_deepestLevel_17 (by decide) (by omega) (by omega) (fun c_17 => ?_) (fun c_17 => ?_)
            · refine lv_iinc (v := nI (1 + 1 + 1 + 1)) (lv' := [(2, .int (nI (1 + 1 + 1 + 1))), (1, .int (nI (1 + 1))), (0, .ref h0)]) hx hb dX1_deepestLevel_22 hl (k := 0) rfl (nI_1 _) (by decide) rfl (fun ls hl => ?_)
              refine lv_goto (tgt := 4) hx hb dX1_deepestLevel_25 (by decide) ?_
              refine lv_iload_n hx hb dX1_deepestLevel_4 rfl (lv_at hl 0 rfl) ?_
              refine lv_iconst (v := nI 3) hx hb dX1_deepestLevel_5 (by decide) ?_
              refine n_icmp_gt (tgt := 28) hx hb dX1_deepestLevel_6 (by decide) (by omega) (by omega) (fun c_6 => ?_) (fun c_6 => ?_)
              · refine lv_iload_n hx hb dX1_deepestLevel_28 rfl (lv_at hl 1 rfl) ?_
                exact st_eq (show (nI (1 + 1) : Int32) = nI (dpl ln) from by congr 1; simp only [dpl]; split <;> (try split) <;> (try split) <;> omega) (fin _ _ dX1_deepestLevel_29)
              · exfalso; omega
            · refine lv_iload_n hx hb dX1_deepestLevel_20 rfl (lv_at hl 0 rfl) ?_
              refine lv_istore_n (lv' := [(1, .int (nI (1 + 1 + 1))), (2, .int (nI (1 + 1 + 1))), (0, .ref h0)]) hx hb dX1_deepestLevel_21 rfl hl (by decide) rfl (fun ls hl => ?_)
              refine lv_iinc (v := nI (1 + 1 + 1 + 1)) (lv' := [(2, .int (nI (1 + 1 + 1 + 1))), (1, .int (nI (1 + 1 + 1))), (0, .ref h0)]) hx hb dX1_deepestLevel_22 hl (k := 1) rfl (nI_1 _) (by decide) rfl (fun ls hl => ?_)
              refine lv_goto (tgt := 4) hx hb dX1_deepestLevel_25 (by decide) ?_
              refine lv_iload_n hx hb dX1_deepestLevel_4 rfl (lv_at hl 0 rfl) ?_
              refine lv_iconst (v := nI 3) hx hb dX1_deepestLevel_5 (by decide) ?_
              refine n_icmp_gt (tgt := 28) hx hb dX1_deepestLevel_6 (by decide) (by omega) (by omega) (fun c_6 => ?_) (fun c_6 => ?_)
              · refine lv_iload_n hx hb dX1_deepestLevel_28 rfl (lv_at hl 1 rfl) ?_
                exact st_eq (show (nI (1 + 1 + 1) : Int32) = nI (dpl ln) from by congr 1; simp only [dpl]; split <;> (try split) <;> (try split) <;> omega) (fin _ _ dX1_deepestLevel_29)
              · exfalso; omega

set_option maxHeartbeats 4000000 in
set_option maxRecDepth 100000 in
theorem c_X0_busiestMachine (l : Launch) (G : va_G) (cI cZ : ClassId) (h0 : Nat) (hr : Nat) (ha : Nat) (tm : Int32) (lr : Nat) (g : Nat → Int32) (n : Nat) (hn : 1 ≤ n) (hn9 : n ≤ 9) : CR l G cI cZ yX0_busiestMachine cX0_busiestMachine 4 .int 0 0 [.ref h0, .int (nI n)] [(h0, .inr (0, [.ref hr, .ref ha, .int tm, .int (nI lr)])), (ha, .inl (cI, 9, .inl g))] (nI (bus g (n - 1))) := by
  refine CR.of (own := RX0) (by decide) rfl rfl (Nat.le_of_ble_eq_true rfl) ?_
  intro p e R s m args below meth c H Q X hR fin hP ls hl
  subst hR
  have hx := X.1
  have hb := X.2.1
  have hl : lv_has ls 4 [(0, .ref h0), (1, .int (nI n))] := hl
  refine lv_iconst (v := nI 0) hx hb dX0_busiestMachine_0 (by decide) ?_
  refine lv_istore_n (lv' := [(2, .int (nI 0)), (0, .ref h0), (1, .int (nI n))]) hx hb dX0_busiestMachine_1 rfl hl (by decide) rfl (fun ls hl => ?_)
  refine lv_iconst (v := nI 1) hx hb dX0_busiestMachine_2 (by decide) ?_
  refine lv_istore_n (lv' := [(3, .int (nI 1)), (2, .int (nI 0)), (0, .ref h0), (1, .int (nI n))]) hx hb dX0_busiestMachine_3 rfl hl (by decide) rfl (fun ls hl => ?_)
  have LP4 : ∀ (fu : Nat) (i : Nat), (i + 1 ≤ n) → (n - i) < fu → ∀ (ls : Array Slot), lv_has ls 4 [(0, .ref h0), (1, .int (nI n)), (2, .int (nI (bus g i))), (3, .int (nI (i + 1)))] → W p l e ({ frames := 0, cells := 0, slots := 0, locals := 0 } : Room) s m args below meth c H [] 0 0 Q (F0 m 4 ls []) := by
    intro fu
    induction fu with
    | zero =>
      intro i hi hfu
      exact absurd hfu (Nat.not_lt_zero _)
    | succ fu ih4 =>
      intro i hi hfu  ls hl
      refine lv_iload_n hx hb dX0_busiestMachine_4 rfl (lv_at hl 3 rfl) ?_
      refine lv_iload_n hx hb dX0_busiestMachine_5 rfl (lv_at hl 1 rfl) ?_
      refine n_icmp_ge (tgt := 38) hx hb dX0_busiestMachine_6 (by decide) (by omega) (by omega) (fun c_6 => ?_) (fun c_6 => ?_)
      · refine lv_iload_n hx hb dX0_busiestMachine_38 rfl (lv_at hl 2 rfl) ?_
        exact st_eq (show (nI (bus g i) : Int32) = nI (bus g (n - 1)) from by rw [show n - 1 = i by omega]) (fin _ _ dX0_busiestMachine_39)
      · refine lv_iload_n hx hb dX0_busiestMachine_9 rfl (lv_at hl 3 rfl) ?_
        refine lv_bipush (v := nI 9) hx hb dX0_busiestMachine_10 (by decide) ?_
        refine n_icmp_ge (tgt := 38) hx hb dX0_busiestMachine_12 (by decide) (by omega) (by omega) (fun c_12 => ?_) (fun c_12 => ?_)
        · exfalso; omega
        · refine lv_aload_n hx hb dX0_busiestMachine_15 rfl (lv_at hl 0 rfl) ?_
          refine x_get (C := RX0) (T := TX0) (N := 4) (ci := 0) 1 inT_X0 rfl (by decide) lf_X0_15 rfl X hP 0 rfl rfl dX0_busiestMachine_16 ?_
          refine lv_iload_n hx hb dX0_busiestMachine_19 rfl (lv_at hl 3 rfl) ?_
          refine n_iald X hP 1 rfl (by omega) (by decide) dX0_busiestMachine_20 ?_
          refine lv_aload_n hx hb dX0_busiestMachine_21 rfl (lv_at hl 0 rfl) ?_
          refine x_get (C := RX0) (T := TX0) (N := 4) (ci := 0) 1 inT_X0 rfl (by decide) lf_X0_15 rfl X hP 0 rfl rfl dX0_busiestMachine_22 ?_
          refine lv_iload_n hx hb dX0_busiestMachine_25 rfl (lv_at hl 2 rfl) ?_
          refine n_iald X hP 1 rfl (Nat.lt_of_le_of_lt (bus_le g i) (by omega)) (by decide) dX0_busiestMachine_26 ?_
          refine lv_icmp_le (tgt := 32) hx hb dX0_busiestMachine_27 (by decide) (fun c_27 => ?_) (fun c_27 => ?_)
          · refine lv_iinc (v := nI (i + 1 + 1)) (lv' := [(3, .int (nI (i + 1 + 1))), (0, .ref h0), (1, .int (nI n)), (2, .int (nI (bus g i)))]) hx hb dX0_busiestMachine_32 hl (k := 3) rfl (nI_1 _) (by decide) rfl (fun ls hl => ?_)
            refine lv_goto (tgt := 4) hx hb dX0_busiestMachine_35 (by decide) ?_
            have hl : lv_has ls 4 [(3, .int (nI (i + 1 + 1))), (0, .ref h0), (1, .int (nI n)), (2, .int (nI (bus g (i + 1))))] := lv_rep hl (congrArg (fun z_ : Int32 => ([(3, .int (nI (i + 1 + 1))), (0, .ref h0), (1, .int (nI n)), (2, .int z_)] : List (Nat × Value))) (show (nI (bus g i) : Int32) = nI (bus g (i + 1)) from by first | (rw [bus, if_pos c_27]; done) | rw [bus, if_neg c_27]))
            have hl : lv_has ls 4 [(3, .int (nI ((i + 1) + 1))), (0, .ref h0), (1, .int (nI n)), (2, .int (nI (bus g (i + 1))))] := lv_rep hl (congrArg (fun z_ : Int32 => ([(3, .int z_), (0, .ref h0), (1, .int (nI n)), (2, .int (nI (bus g (i + 1))))] : List (Nat × Value))) (show (nI (i + 1 + 1) : Int32) = nI ((i + 1) + 1) from rfl))
            exact ih4  (i + 1) (by omega) (by omega) _ (lv_sub hl [1, 2, 3, 0] rfl)
          · refine lv_iload_n hx hb dX0_busiestMachine_30 rfl (lv_at hl 3 rfl) ?_
            refine lv_istore_n (lv' := [(2, .int (nI (i + 1))), (0, .ref h0), (1, .int (nI n)), (3, .int (nI (i + 1)))]) hx hb dX0_busiestMachine_31 rfl hl (by decide) rfl (fun ls hl => ?_)
            refine lv_iinc (v := nI (i + 1 + 1)) (lv' := [(3, .int (nI (i + 1 + 1))), (2, .int (nI (i + 1))), (0, .ref h0), (1, .int (nI n))]) hx hb dX0_busiestMachine_32 hl (k := 3) rfl (nI_1 _) (by decide) rfl (fun ls hl => ?_)
            refine lv_goto (tgt := 4) hx hb dX0_busiestMachine_35 (by decide) ?_
            have hl : lv_has ls 4 [(3, .int (nI (i + 1 + 1))), (2, .int (nI (bus g (i + 1)))), (0, .ref h0), (1, .int (nI n))] := lv_rep hl (congrArg (fun z_ : Int32 => ([(3, .int (nI (i + 1 + 1))), (2, .int z_), (0, .ref h0), (1, .int (nI n))] : List (Nat × Value))) (show (nI (i + 1) : Int32) = nI (bus g (i + 1)) from by first | (rw [bus, if_pos c_27]; done) | rw [bus, if_neg c_27]))
            have hl : lv_has ls 4 [(3, .int (nI ((i + 1) + 1))), (2, .int (nI (bus g (i + 1)))), (0, .ref h0), (1, .int (nI n))] := lv_rep hl (congrArg (fun z_ : Int32 => ([(3, .int z_), (2, .int (nI (bus g (i + 1)))), (0, .ref h0), (1, .int (nI n))] : List (Nat × Value))) (show (nI (i + 1 + 1) : Int32) = nI ((i + 1) + 1) from rfl))
            exact ih4  (i + 1) (by omega) (by omega) _ (lv_sub hl [2, 3, 1, 0] rfl)
  have hl : lv_has ls 4 [(3, .int (nI 1)), (2, .int (nI (bus g 0))), (0, .ref h0), (1, .int (nI n))] := lv_rep hl (congrArg (fun z_ : Int32 => ([(3, .int (nI 1)), (2, .int z_), (0, .ref h0), (1, .int (nI n))] : List (Nat × Value))) (show (nI 0 : Int32) = nI (bus g 0) from rfl))
  have hl : lv_has ls 4 [(3, .int (nI (0 + 1))), (2, .int (nI (bus g 0))), (0, .ref h0), (1, .int (nI n))] := lv_rep hl (congrArg (fun z_ : Int32 => ([(3, .int z_), (2, .int (nI (bus g 0))), (0, .ref h0), (1, .int (nI n))] : List (Nat × Value))) (show (nI 1 : Int32) = nI (0 + 1) from rfl))
  exact LP4 ((n - 0) + 1) 0 (by omega) (Nat.lt_succ_self _) _ (lv_sub hl [2, 3, 1, 0] rfl)

set_option maxHeartbeats 4000000 in
set_option maxRecDepth 100000 in
theorem c_X0_longestInRound (l : Launch) (G : va_G) (cI cZ : ClassId) (h0 : Nat) (hr : Nat) (ha : Nat) (tm : Int32) (lr : Nat) (g : Nat → Int32) : CR l G cI cZ yX0_longestInRound cX0_longestInRound 3 .int 1 13 [.ref h0] [(h0, .inr (0, [.ref hr, .ref ha, .int tm, .int (nI lr)])), (hr, .inl (cI, 9, .inl g))] (lng g 9) := by
  refine CR.of (own := RX0) (by decide) rfl rfl (Nat.le_of_ble_eq_true rfl) ?_
  intro p e R s m args below meth c H Q X hR fin hP ls hl
  subst hR
  have hx := X.1
  have hb := X.2.1
  have hl : lv_has ls 3 [(0, .ref h0)] := hl
  refine lv_iconst (v := nI 0) hx hb dX0_longestInRound_0 (by decide) ?_
  refine lv_istore_n (lv' := [(1, .int (nI 0)), (0, .ref h0)]) hx hb dX0_longestInRound_1 rfl hl (by decide) rfl (fun ls hl => ?_)
  refine lv_iconst (v := nI 0) hx hb dX0_longestInRound_2 (by decide) ?_
  refine lv_istore_n (lv' := [(2, .int (nI 0)), (1, .int (nI 0)), (0, .ref h0)]) hx hb dX0_longestInRound_3 rfl hl (by decide) rfl (fun ls hl => ?_)
  have LP4 : ∀ (fu : Nat) (i : Nat), (i ≤ 9) → (9 - i) < fu → ∀ (ls : Array Slot), lv_has ls 3 [(0, .ref h0), (1, .int (lng g i)), (2, .int (nI i))] → W p l e ({ frames := 1, cells := 0, slots := 0, locals := 13 } : Room) s m args below meth c H [] 0 0 Q (F0 m 4 ls []) := by
    intro fu
    induction fu with
    | zero =>
      intro i hi hfu
      exact absurd hfu (Nat.not_lt_zero _)
    | succ fu ih4 =>
      intro i hi hfu  ls hl
      refine lv_iload_n hx hb dX0_longestInRound_4 rfl (lv_at hl 2 rfl) ?_
      refine lv_bipush (v := nI 9) hx hb dX0_longestInRound_5 (by decide) ?_
      refine n_icmp_ge (tgt := 27) hx hb dX0_longestInRound_7 (by decide) (by omega) (by omega) (fun c_7 => ?_) (fun c_7 => ?_)
      · refine lv_iload_n hx hb dX0_longestInRound_27 rfl (lv_at hl 1 rfl) ?_
        exact st_eq (show (lng g i : Int32) = lng g 9 from by rw [show i = 9 by omega]) (fin _ _ dX0_longestInRound_28)
      · refine lv_iload_n hx hb dX0_longestInRound_10 rfl (lv_at hl 1 rfl) ?_
        refine lv_aload_n hx hb dX0_longestInRound_11 rfl (lv_at hl 0 rfl) ?_
        refine x_get (C := RX0) (T := TX0) (N := 4) (ci := 0) 0 inT_X0 rfl (by decide) lf_X0_9 rfl X hP 0 rfl rfl dX0_longestInRound_12 ?_
        refine lv_iload_n hx hb dX0_longestInRound_15 rfl (lv_at hl 2 rfl) ?_
        refine n_iald X hP 1 rfl (by omega) (by decide) dX0_longestInRound_16 ?_
        refine va_mmax hx hb (by rw [X.2.2.1]; exact hl.1.symm) X.2.2.2.1 (X.2.2.2.2.1 _ lo_X0_61) (X.2.2.2.2.1 _ w_maxS) (X.2.2.2.2.1 _ w_mathI) (X.2.2.2.2.1 _ w_maxC) (by decide) (Nat.le_of_ble_eq_true rfl) (Nat.zero_le _) (Nat.zero_le _) dX0_longestInRound_17 ?_
        refine lv_istore_n (lv' := [(1, .int (if (lng g i) < (g i) then (g i) else (lng g i))), (0, .ref h0), (2, .int (nI i))]) hx hb dX0_longestInRound_20 rfl hl (by decide) rfl (fun ls hl => ?_)
        refine lv_iinc (v := nI (i + 1)) (lv' := [(2, .int (nI (i + 1))), (1, .int (if (lng g i) < (g i) then (g i) else (lng g i))), (0, .ref h0)]) hx hb dX0_longestInRound_21 hl (k := 2) rfl (nI_1 _) (by decide) rfl (fun ls hl => ?_)
        refine lv_goto (tgt := 4) hx hb dX0_longestInRound_24 (by decide) ?_
        have hl : lv_has ls 3 [(2, .int (nI (i + 1))), (1, .int (lng g (i + 1))), (0, .ref h0)] := lv_rep hl (congrArg (fun z_ : Int32 => ([(2, .int (nI (i + 1))), (1, .int z_), (0, .ref h0)] : List (Nat × Value))) (show (if (lng g i) < (g i) then (g i) else (lng g i) : Int32) = lng g (i + 1) from rfl))
        exact ih4  (i + 1) (by omega) (by omega) _ (lv_sub hl [2, 1, 0] rfl)
  have hl : lv_has ls 3 [(2, .int (nI 0)), (1, .int (lng g 0)), (0, .ref h0)] := lv_rep hl (congrArg (fun z_ : Int32 => ([(2, .int (nI 0)), (1, .int z_), (0, .ref h0)] : List (Nat × Value))) (show (nI 0 : Int32) = lng g 0 from rfl))
  exact LP4 ((9 - 0) + 1) 0 (Nat.zero_le _) (Nat.lt_succ_self _) _ (lv_sub hl [2, 1, 0] rfl)

set_option maxHeartbeats 4000000 in
set_option maxRecDepth 100000 in
theorem c_X2_received (l : Launch) (G : va_G) (cI cZ : ClassId) (h0 : Nat) (hr : Nat) (hs : Nat) (n : Nat) (z : Nat) (op : Int32) (st : Int32) (ea : Int32) (kd : Nat) (a : Int32) (b : Int32) (hkd : kd ≤ 2) : CR l G cI cZ yX2_received cX2_received 4 .int 2 35 [.ref h0, .int (nI kd), .int a, .int b] [(h0, .inr (4, [.ref hr, .ref hs, .int (nI n), .int (nI z), .int op, .int st, .int ea]))] (rcv op kd a b) := by
  refine CR.of (own := RX2) (by decide) rfl rfl (Nat.le_of_ble_eq_true rfl) ?_
  intro p e R s m args below meth c H Q X hR fin hP ls hl
  subst hR
  have hx := X.1
  have hb := X.2.1
  have hl : lv_has ls 4 [(0, .ref h0), (1, .int (nI kd)), (2, .int a), (3, .int b)] := hl
  refine lv_iload_n hx hb dX2_received_0 rfl (lv_at hl 1 rfl) ?_
  refine n_if_ne (tgt := 11) hx hb dX2_received_1 (by decide) (by omega) (fun c_1 => ?_) (fun c_1 => ?_)
  · refine lv_iload_n hx hb dX2_received_11 rfl (lv_at hl 1 rfl) ?_
    refine lv_iconst (v := nI 1) hx hb dX2_received_12 (by decide) ?_
    refine n_icmp_ne (tgt := 25) hx hb dX2_received_13 (by decide) (by omega) (by omega) (fun c_13 => ?_) (fun c_13 => ?_)
    · refine lv_iload_n hx hb dX2_received_25 rfl (lv_at hl 3 rfl) ?_
      exact st_eq (show (b : Int32) = rcv op kd a b from by first | (rw [rcv, if_neg c_1, if_pos c_13]; done) | rw [rcv, if_neg c_1, if_neg c_13]) (fin _ _ dX2_received_26)
    · refine lv_aload_n hx hb dX2_received_16 rfl (lv_at hl 0 rfl) ?_
      refine lv_iload_n hx hb dX2_received_17 rfl (lv_at hl 3 rfl) ?_
      refine lv_iload_n hx hb dX2_received_18 rfl (lv_at hl 2 rfl) ?_
      refine cR_V (As := [.int b, .int a]) (rest := []) X (c_X4_mixed l G cI cZ h0 hr hs n z op st ea b a ) lk_X2_56 (hP.sub (ws' := [(h0, .inr (4, [.ref hr, .ref hs, .int (nI n), .int (nI z), .int op, .int st, .int ea]))]) [0] rfl) rfl rfl hl.1 rfl rfl (Nat.le_of_ble_eq_true rfl) ⟨Nat.le_of_ble_eq_true rfl, Nat.le_of_ble_eq_true rfl⟩ ⟨Nat.le_of_ble_eq_true rfl, Nat.le_of_ble_eq_true rfl⟩ dX2_received_19 ?_
      refine lv_goto (tgt := 26) hx hb dX2_received_22 (by decide) ?_
      exact st_eq (show (mix op b a : Int32) = rcv op kd a b from by first | (rw [rcv, if_neg c_1, if_pos c_13]; done) | rw [rcv, if_neg c_1, if_neg c_13]) (fin _ _ dX2_received_26)
  · refine lv_aload_n hx hb dX2_received_4 rfl (lv_at hl 0 rfl) ?_
    refine lv_iload_n hx hb dX2_received_5 rfl (lv_at hl 2 rfl) ?_
    refine lv_iload_n hx hb dX2_received_6 rfl (lv_at hl 3 rfl) ?_
    refine cR_V (As := [.int a, .int b]) (rest := []) X (c_X4_mixed l G cI cZ h0 hr hs n z op st ea a b ) lk_X2_56 (hP.sub (ws' := [(h0, .inr (4, [.ref hr, .ref hs, .int (nI n), .int (nI z), .int op, .int st, .int ea]))]) [0] rfl) rfl rfl hl.1 rfl rfl (Nat.le_of_ble_eq_true rfl) ⟨Nat.le_of_ble_eq_true rfl, Nat.le_of_ble_eq_true rfl⟩ ⟨Nat.le_of_ble_eq_true rfl, Nat.le_of_ble_eq_true rfl⟩ dX2_received_7 ?_
    exact st_eq (show (mix op a b : Int32) = rcv op kd a b from by rw [rcv, if_pos c_1]) (fin _ _ dX2_received_10)

set_option maxHeartbeats 4000000 in
set_option maxRecDepth 100000 in
theorem c_X5_allRowsAreOne (l : Launch) (G : va_G) (cI cZ : ClassId) (x0 : Nat) (nw : Nat) (i0 : Nat) (i1 : Nat) (kp : Nat) (le : Nat) (bs : Nat) (us : Nat) (an : Nat) (sr_ : Nat) (ss : Nat) (n : Nat) (z : Nat) (op : Int32) (st : Int32) (ea : Int32) (r0 : Nat) (r1 : Nat) (f : Nat → Int32) (hn : 2 ≤ n) (hn9 : n ≤ 9) (hz1 : 1 ≤ z) (hz : z ≤ 12) : CR l G cI cZ yX5_allRowsAreOne cX5_allRowsAreOne 3 .boolean 4 91 [.ref x0, .ref r0] [(x0, .inr (5, [.ref nw, .ref i0, .ref i1, .int (nI kp), .ref le, .ref bs, .ref us, .ref an])), (nw, .inr (4, [.ref sr_, .ref ss, .int (nI n), .int (nI z), .int op, .int st, .int ea])), (r0, .inr (3, [.ref r1])), (r1, .inl (cI, 108, .inl f))] (b2i (aro f z (n - 1))) := by
  refine CR.of (own := RX5) (by decide) rfl (b2i_nar _) (Nat.le_of_ble_eq_true rfl) ?_
  intro p e R s m args below meth c H Q X hR fin hP ls hl
  subst hR
  have hx := X.1
  have hb := X.2.1
  have hl : lv_has ls 3 [(0, .ref x0), (1, .ref r0)] := hl
  refine lv_iconst (v := nI 1) hx hb dX5_allRowsAreOne_0 (by decide) ?_
  refine lv_istore_n (lv' := [(2, .int (nI 1)), (0, .ref x0), (1, .ref r0)]) hx hb dX5_allRowsAreOne_1 rfl hl (by decide) rfl (fun ls hl => ?_)
  have LP2 : ∀ (fu : Nat) (i : Nat), (i + 1 ≤ n) → (aro f z i = true) → (n - i) < fu → ∀ (ls : Array Slot), lv_has ls 3 [(0, .ref x0), (1, .ref r0), (2, .int (nI (i + 1)))] → W p l e ({ frames := 4, cells := 0, slots := 0, locals := 91 } : Room) s m args below meth c H [] 0 0 Q (F0 m 2 ls []) := by
    intro fu
    induction fu with
    | zero =>
      intro i hi har hfu
      exact absurd hfu (Nat.not_lt_zero _)
    | succ fu ih2 =>
      intro i hi har hfu  ls hl
      refine lv_iload_n hx hb dX5_allRowsAreOne_2 rfl (lv_at hl 2 rfl) ?_
      refine lv_aload_n hx hb dX5_allRowsAreOne_3 rfl (lv_at hl 0 rfl) ?_
      refine x_get (C := RX5) (T := TX5) (N := 8) (ci := 5) 0 inT_X5 rfl (by decide) lf_X5_10 rfl X hP 0 rfl rfl dX5_allRowsAreOne_4 ?_
      refine x_getN (C := RX4) (T := TX4) (N := 7) (ci := 4) 2 inT_X4 rfl (by decide) lf_X5_54 rfl X hP 1 rfl rfl dX5_allRowsAreOne_7 ?_
      refine n_icmp_ge (tgt := 38) hx hb dX5_allRowsAreOne_10 (by decide) (by omega) (by omega) (fun c_10 => ?_) (fun c_10 => ?_)
      · refine lv_iconst (v := nI 1) hx hb dX5_allRowsAreOne_38 (by decide) ?_
        exact st_eq (show (nI 1 : Int32) = b2i (aro f z (n - 1)) from by rw [show n - 1 = i by omega, har]; rfl) (fin _ _ dX5_allRowsAreOne_39)
      · refine lv_aload_n hx hb dX5_allRowsAreOne_13 rfl (lv_at hl 1 rfl) ?_
        refine lv_iload_n hx hb dX5_allRowsAreOne_14 rfl (lv_at hl 2 rfl) ?_
        refine lv_aload_n hx hb dX5_allRowsAreOne_15 rfl (lv_at hl 1 rfl) ?_
        refine lv_iconst (v := nI 0) hx hb dX5_allRowsAreOne_16 (by decide) ?_
        refine lv_aload_n hx hb dX5_allRowsAreOne_17 rfl (lv_at hl 0 rfl) ?_
        refine x_get (C := RX5) (T := TX5) (N := 8) (ci := 5) 0 inT_X5 rfl (by decide) lf_X5_10 rfl X hP 0 rfl rfl dX5_allRowsAreOne_18 ?_
        refine x_getN (C := RX4) (T := TX4) (N := 7) (ci := 4) 3 inT_X4 rfl (by decide) lf_X5_162 rfl X hP 1 rfl rfl dX5_allRowsAreOne_21 ?_
        refine cR_V (As := [.int (nI (i + 1)), .ref r0, .int (nI 0), .int (nI z)]) (rest := []) X (c_X3_differing l G cI cZ r0 r1 r0 r1 f f (i + 1) 0 z (by first | assumption | omega) (by first | assumption | omega) (by first | assumption | omega)) lk_X5_165 (hP.sub (ws' := [(r0, .inr (3, [.ref r1])), (r1, .inl (cI, 108, .inl f)), (r0, .inr (3, [.ref r1])), (r1, .inl (cI, 108, .inl f))]) [2, 3, 2, 3] rfl) rfl rfl hl.1 rfl rfl (Nat.le_of_ble_eq_true rfl) ⟨Nat.le_of_ble_eq_true rfl, Nat.le_of_ble_eq_true rfl⟩ ⟨Nat.le_of_ble_eq_true rfl, Nat.le_of_ble_eq_true rfl⟩ dX5_allRowsAreOne_24 ?_
        refine n_if_le (tgt := 32) hx hb dX5_allRowsAreOne_27 (by decide) (Nat.lt_of_le_of_lt (dfc_le _ _ _ _ _) (by omega)) (fun c_27 => ?_) (fun c_27 => ?_)
        · refine lv_iinc (v := nI (i + 1 + 1)) (lv' := [(2, .int (nI (i + 1 + 1))), (0, .ref x0), (1, .ref r0)]) hx hb dX5_allRowsAreOne_32 hl (k := 2) rfl (nI_1 _) (by decide) rfl (fun ls hl => ?_)
          refine lv_goto (tgt := 2) hx hb dX5_allRowsAreOne_35 (by decide) ?_
          have hl : lv_has ls 3 [(2, .int (nI ((i + 1) + 1))), (0, .ref x0), (1, .ref r0)] := lv_rep hl (congrArg (fun z_ : Int32 => ([(2, .int z_), (0, .ref x0), (1, .ref r0)] : List (Nat × Value))) (show (nI (i + 1 + 1) : Int32) = nI ((i + 1) + 1) from rfl))
          exact ih2  (i + 1) (by omega) (by simp [aro, har, c_27]) (by omega) _ (lv_sub hl [1, 2, 0] rfl)
        · refine lv_iconst (v := nI 0) hx hb dX5_allRowsAreOne_30 (by decide) ?_
          exact st_eq (show (nI 0 : Int32) = b2i (aro f z (n - 1)) from aro_no c_27 (by omega)) (fin _ _ dX5_allRowsAreOne_31)
  have hl : lv_has ls 3 [(2, .int (nI (0 + 1))), (0, .ref x0), (1, .ref r0)] := lv_rep hl (congrArg (fun z_ : Int32 => ([(2, .int z_), (0, .ref x0), (1, .ref r0)] : List (Nat × Value))) (show (nI 1 : Int32) = nI (0 + 1) from rfl))
  exact LP2 ((n - 0) + 1) 0 (by omega) rfl (Nat.lt_succ_self _) _ (lv_sub hl [1, 2, 0] rfl)

set_option maxHeartbeats 4000000 in
set_option maxRecDepth 100000 in
theorem c_X5_placesMixedByRising (l : Launch) (G : va_G) (cI cZ : ClassId) (x0 : Nat) (nw : Nat) (i0 : Nat) (i1 : Nat) (kp : Nat) (le : Nat) (bs : Nat) (us : Nat) (an : Nat) (sr_ : Nat) (ss : Nat) (n : Nat) (z : Nat) (op : Int32) (st : Int32) (ea : Int32) (ra : Nat) (r0 : Nat) (r1 : Nat) (f : Nat → Int32) (g : Nat → Int32) (hn : 2 ≤ n) (hn9 : n ≤ 9) (hz1 : 1 ≤ z) (hz : z ≤ 12) : CR l G cI cZ yX5_placesMixedByRising cX5_placesMixedByRising 4 .int 4 88 [.ref x0, .ref r0] [(x0, .inr (5, [.ref nw, .ref i0, .ref i1, .int (nI kp), .ref le, .ref bs, .ref us, .ref an])), (nw, .inr (4, [.ref sr_, .ref ss, .int (nI n), .int (nI z), .int op, .int st, .int ea])), (sr_, .inr (3, [.ref ra])), (ra, .inl (cI, 108, .inl f)), (r0, .inr (3, [.ref r1])), (r1, .inl (cI, 108, .inl g))] (nI (pmr op f g n z)) := by
  refine CR.of (own := RX5) (by decide) rfl rfl (Nat.le_of_ble_eq_true rfl) ?_
  intro p e R s m args below meth c H Q X hR fin hP ls hl
  subst hR
  have hx := X.1
  have hb := X.2.1
  have hl : lv_has ls 4 [(0, .ref x0), (1, .ref r0)] := hl
  refine lv_iconst (v := nI 0) hx hb dX5_placesMixedByRising_0 (by decide) ?_
  refine lv_istore_n (lv' := [(2, .int (nI 0)), (0, .ref x0), (1, .ref r0)]) hx hb dX5_placesMixedByRising_1 rfl hl (by decide) rfl (fun ls hl => ?_)
  refine lv_iconst (v := nI 0) hx hb dX5_placesMixedByRising_2 (by decide) ?_
  refine lv_istore_n (lv' := [(3, .int (nI 0)), (2, .int (nI 0)), (0, .ref x0), (1, .ref r0)]) hx hb dX5_placesMixedByRising_3 rfl hl (by decide) rfl (fun ls hl => ?_)
  have LP4 : ∀ (fu : Nat) (i : Nat), (i ≤ z) → (z - i) < fu → ∀ (ls : Array Slot), lv_has ls 4 [(0, .ref x0), (1, .ref r0), (2, .int (nI (pmr op f g n i))), (3, .int (nI i))] → W p l e ({ frames := 4, cells := 0, slots := 0, locals := 88 } : Room) s m args below meth c H [] 0 0 Q (F0 m 4 ls []) := by
    intro fu
    induction fu with
    | zero =>
      intro i hi hfu
      exact absurd hfu (Nat.not_lt_zero _)
    | succ fu ih4 =>
      intro i hi hfu  ls hl
      refine lv_iload_n hx hb dX5_placesMixedByRising_4 rfl (lv_at hl 3 rfl) ?_
      refine lv_aload_n hx hb dX5_placesMixedByRising_5 rfl (lv_at hl 0 rfl) ?_
      refine x_get (C := RX5) (T := TX5) (N := 8) (ci := 5) 0 inT_X5 rfl (by decide) lf_X5_10 rfl X hP 0 rfl rfl dX5_placesMixedByRising_6 ?_
      refine x_getN (C := RX4) (T := TX4) (N := 7) (ci := 4) 3 inT_X4 rfl (by decide) lf_X5_162 rfl X hP 1 rfl rfl dX5_placesMixedByRising_9 ?_
      refine n_icmp_ge (tgt := 41) hx hb dX5_placesMixedByRising_12 (by decide) (by omega) (by omega) (fun c_12 => ?_) (fun c_12 => ?_)
      · refine lv_iload_n hx hb dX5_placesMixedByRising_41 rfl (lv_at hl 2 rfl) ?_
        exact st_eq (show (nI (pmr op f g n i) : Int32) = nI (pmr op f g n z) from by rw [show i = z by omega]) (fin _ _ dX5_placesMixedByRising_42)
      · refine lv_aload_n hx hb dX5_placesMixedByRising_15 rfl (lv_at hl 1 rfl) ?_
        refine lv_iconst (v := nI 0) hx hb dX5_placesMixedByRising_16 (by decide) ?_
        refine lv_iload_n hx hb dX5_placesMixedByRising_17 rfl (lv_at hl 3 rfl) ?_
        refine cR_V (As := [.int (nI 0), .int (nI i)]) (rest := []) X (c_X3_get l G cI cZ r0 r1 g 0 i (by first | assumption | omega) (by first | assumption | omega)) lk_X5_72 (hP.sub (ws' := [(r0, .inr (3, [.ref r1])), (r1, .inl (cI, 108, .inl g))]) [4, 5] rfl) rfl rfl hl.1 rfl rfl (Nat.le_of_ble_eq_true rfl) ⟨Nat.le_of_ble_eq_true rfl, Nat.le_of_ble_eq_true rfl⟩ ⟨Nat.le_of_ble_eq_true rfl, Nat.le_of_ble_eq_true rfl⟩ dX5_placesMixedByRising_18 ?_
        refine lv_aload_n hx hb dX5_placesMixedByRising_21 rfl (lv_at hl 0 rfl) ?_
        refine x_get (C := RX5) (T := TX5) (N := 8) (ci := 5) 0 inT_X5 rfl (by decide) lf_X5_10 rfl X hP 0 rfl rfl dX5_placesMixedByRising_22 ?_
        refine lv_iload_n hx hb dX5_placesMixedByRising_25 rfl (lv_at hl 3 rfl) ?_
        refine cR_V (As := [.int (nI i)]) (rest := [.int (g (12 * 0 + i))]) X (c_X4_mixedByRising l G cI cZ nw sr_ ss n z op st ea ra f i (by first | assumption | omega) (by first | assumption | omega) (by first | assumption | omega)) lk_X5_195 (hP.sub (ws' := [(nw, .inr (4, [.ref sr_, .ref ss, .int (nI n), .int (nI z), .int op, .int st, .int ea])), (sr_, .inr (3, [.ref ra])), (ra, .inl (cI, 108, .inl f))]) [1, 2, 3] rfl) rfl rfl hl.1 rfl rfl (Nat.le_of_ble_eq_true rfl) ⟨Nat.le_of_ble_eq_true rfl, Nat.le_of_ble_eq_true rfl⟩ ⟨Nat.le_of_ble_eq_true rfl, Nat.le_of_ble_eq_true rfl⟩ dX5_placesMixedByRising_26 ?_
        refine lv_icmp_ne (tgt := 35) hx hb dX5_placesMixedByRising_29 (by decide) (fun c_29 => ?_) (fun c_29 => ?_)
        · refine lv_iinc (v := nI (i + 1)) (lv' := [(3, .int (nI (i + 1))), (0, .ref x0), (1, .ref r0), (2, .int (nI (pmr op f g n i)))]) hx hb dX5_placesMixedByRising_35 hl (k := 3) rfl (nI_1 _) (by decide) rfl (fun ls hl => ?_)
          refine lv_goto (tgt := 4) hx hb dX5_placesMixedByRising_38 (by decide) ?_
          have hl : lv_has ls 4 [(3, .int (nI (i + 1))), (0, .ref x0), (1, .ref r0), (2, .int (nI (pmr op f g n (i + 1))))] := lv_rep hl (congrArg (fun z_ : Int32 => ([(3, .int (nI (i + 1))), (0, .ref x0), (1, .ref r0), (2, .int z_)] : List (Nat × Value))) (show (nI (pmr op f g n i) : Int32) = nI (pmr op f g n (i + 1)) from by first | (rw [pmr, if_pos c_29]; done) | (rw [pmr, if_neg c_29]; rfl)))
          exact ih4  (i + 1) (by omega) (by omega) _ (lv_sub hl [1, 2, 3, 0] rfl)
        · refine lv_iinc (v := nI (pmr op f g n i + 1)) (lv' := [(2, .int (nI (pmr op f g n i + 1))), (0, .ref x0), (1, .ref r0), (3, .int (nI i))]) hx hb dX5_placesMixedByRising_32 hl (k := 2) rfl (nI_1 _) (by decide) rfl (fun ls hl => ?_)
          refine lv_iinc (v := nI (i + 1)) (lv' := [(3, .int (nI (i + 1))), (2, .int (nI (pmr op f g n i + 1))), (0, .ref x0), (1, .ref r0)]) hx hb dX5_placesMixedByRising_35 hl (k := 3) rfl (nI_1 _) (by decide) rfl (fun ls hl => ?_)
          refine lv_goto (tgt := 4) hx hb dX5_placesMixedByRising_38 (by decide) ?_
          have hl : lv_has ls 4 [(3, .int (nI (i + 1))), (2, .int (nI (pmr op f g n (i + 1)))), (0, .ref x0), (1, .ref r0)] := lv_rep hl (congrArg (fun z_ : Int32 => ([(3, .int (nI (i + 1))), (2, .int z_), (0, .ref x0), (1, .ref r0)] : List (Nat × Value))) (show (nI (pmr op f g n i + 1) : Int32) = nI (pmr op f g n (i + 1)) from by first | (rw [pmr, if_pos c_29]; done) | (rw [pmr, if_neg c_29]; rfl)))
          exact ih4  (i + 1) (by omega) (by omega) _ (lv_sub hl [2, 3, 1, 0] rfl)
  have hl : lv_has ls 4 [(3, .int (nI 0)), (2, .int (nI (pmr op f g n 0))), (0, .ref x0), (1, .ref r0)] := lv_rep hl (congrArg (fun z_ : Int32 => ([(3, .int (nI 0)), (2, .int z_), (0, .ref x0), (1, .ref r0)] : List (Nat × Value))) (show (nI 0 : Int32) = nI (pmr op f g n 0) from rfl))
  exact LP4 ((z - 0) + 1) 0 (Nat.zero_le _) (Nat.lt_succ_self _) _ (lv_sub hl [2, 3, 1, 0] rfl)

set_option maxHeartbeats 4000000 in
set_option maxRecDepth 100000 in
theorem c_X5_machinesThatDiffer (l : Launch) (G : va_G) (cI cZ : ClassId) (x0 : Nat) (nw : Nat) (i0 : Nat) (i1 : Nat) (kp : Nat) (le : Nat) (bs : Nat) (us : Nat) (an : Nat) (sr_ : Nat) (ss : Nat) (n : Nat) (z : Nat) (op : Int32) (st : Int32) (ea : Int32) (ur : Nat) (ur1 : Nat) (ub : Nat) (ar_ : Nat) (ar1_ : Nat) (ab : Nat) (f : Nat → Int32) (g : Nat → Int32) (hn : 2 ≤ n) (hn9 : n ≤ 9) (hz1 : 1 ≤ z) (hz : z ≤ 12) : CR l G cI cZ yX5_machinesThatDiffer cX5_machinesThatDiffer 3 .int 4 91 [.ref x0] [(x0, .inr (5, [.ref nw, .ref i0, .ref i1, .int (nI kp), .ref le, .ref bs, .ref us, .ref an])), (nw, .inr (4, [.ref sr_, .ref ss, .int (nI n), .int (nI z), .int op, .int st, .int ea])), (us, .inr (2, [.ref ur, .ref ub])), (ur, .inr (3, [.ref ur1])), (ur1, .inl (cI, 108, .inl f)), (an, .inr (2, [.ref ar_, .ref ab])), (ar_, .inr (3, [.ref ar1_])), (ar1_, .inl (cI, 108, .inl g))] (mtd f g z n) := by
  refine CR.of (own := RX5) (by decide) rfl rfl (Nat.le_of_ble_eq_true rfl) ?_
  intro p e R s m args below meth c H Q X hR fin hP ls hl
  subst hR
  have hx := X.1
  have hb := X.2.1
  have hl : lv_has ls 3 [(0, .ref x0)] := hl
  refine lv_iconst (v := nI 0) hx hb dX5_machinesThatDiffer_0 (by decide) ?_
  refine lv_istore_n (lv' := [(1, .int (nI 0)), (0, .ref x0)]) hx hb dX5_machinesThatDiffer_1 rfl hl (by decide) rfl (fun ls hl => ?_)
  refine lv_iconst (v := nI 0) hx hb dX5_machinesThatDiffer_2 (by decide) ?_
  refine lv_istore_n (lv' := [(2, .int (nI 0)), (1, .int (nI 0)), (0, .ref x0)]) hx hb dX5_machinesThatDiffer_3 rfl hl (by decide) rfl (fun ls hl => ?_)
  have LP4 : ∀ (fu : Nat) (i : Nat), (i ≤ n) → (n - i) < fu → ∀ (ls : Array Slot), lv_has ls 3 [(0, .ref x0), (1, .int (mtd f g z i)), (2, .int (nI i))] → W p l e ({ frames := 4, cells := 0, slots := 0, locals := 91 } : Room) s m args below meth c H [] 0 0 Q (F0 m 4 ls []) := by
    intro fu
    induction fu with
    | zero =>
      intro i hi hfu
      exact absurd hfu (Nat.not_lt_zero _)
    | succ fu ih4 =>
      intro i hi hfu  ls hl
      refine lv_iload_n hx hb dX5_machinesThatDiffer_4 rfl (lv_at hl 2 rfl) ?_
      refine lv_aload_n hx hb dX5_machinesThatDiffer_5 rfl (lv_at hl 0 rfl) ?_
      refine x_get (C := RX5) (T := TX5) (N := 8) (ci := 5) 0 inT_X5 rfl (by decide) lf_X5_10 rfl X hP 0 rfl rfl dX5_machinesThatDiffer_6 ?_
      refine x_getN (C := RX4) (T := TX4) (N := 7) (ci := 4) 2 inT_X4 rfl (by decide) lf_X5_54 rfl X hP 1 rfl rfl dX5_machinesThatDiffer_9 ?_
      refine n_icmp_ge (tgt := 56) hx hb dX5_machinesThatDiffer_12 (by decide) (by omega) (by omega) (fun c_12 => ?_) (fun c_12 => ?_)
      · refine lv_iload_n hx hb dX5_machinesThatDiffer_56 rfl (lv_at hl 1 rfl) ?_
        exact st_eq (show (mtd f g z i : Int32) = mtd f g z n from by rw [show i = n by omega]) (fin _ _ dX5_machinesThatDiffer_57)
      · refine lv_aload_n hx hb dX5_machinesThatDiffer_15 rfl (lv_at hl 0 rfl) ?_
        refine x_get (C := RX5) (T := TX5) (N := 8) (ci := 5) 6 inT_X5 rfl (by decide) lf_X5_43 rfl X hP 0 rfl rfl dX5_machinesThatDiffer_16 ?_
        refine x_getN (C := RX2) (T := TX2) (N := 2) (ci := 2) 0 inT_X2 rfl (by decide) lf_X5_145 rfl X hP 2 rfl rfl dX5_machinesThatDiffer_19 ?_
        refine lv_iload_n hx hb dX5_machinesThatDiffer_22 rfl (lv_at hl 2 rfl) ?_
        refine lv_aload_n hx hb dX5_machinesThatDiffer_23 rfl (lv_at hl 0 rfl) ?_
        refine x_get (C := RX5) (T := TX5) (N := 8) (ci := 5) 7 inT_X5 rfl (by decide) lf_X5_47 rfl X hP 0 rfl rfl dX5_machinesThatDiffer_24 ?_
        refine x_getN (C := RX2) (T := TX2) (N := 2) (ci := 2) 0 inT_X2 rfl (by decide) lf_X5_145 rfl X hP 5 rfl rfl dX5_machinesThatDiffer_27 ?_
        refine lv_iload_n hx hb dX5_machinesThatDiffer_30 rfl (lv_at hl 2 rfl) ?_
        refine lv_aload_n hx hb dX5_machinesThatDiffer_31 rfl (lv_at hl 0 rfl) ?_
        refine x_get (C := RX5) (T := TX5) (N := 8) (ci := 5) 0 inT_X5 rfl (by decide) lf_X5_10 rfl X hP 0 rfl rfl dX5_machinesThatDiffer_32 ?_
        refine x_getN (C := RX4) (T := TX4) (N := 7) (ci := 4) 3 inT_X4 rfl (by decide) lf_X5_162 rfl X hP 1 rfl rfl dX5_machinesThatDiffer_35 ?_
        refine cR_V (As := [.int (nI i), .ref ar_, .int (nI i), .int (nI z)]) (rest := []) X (c_X3_differing l G cI cZ ur ur1 ar_ ar1_ f g i i z (by first | assumption | omega) (by first | assumption | omega) (by first | assumption | omega)) lk_X5_165 (hP.sub (ws' := [(ur, .inr (3, [.ref ur1])), (ur1, .inl (cI, 108, .inl f)), (ar_, .inr (3, [.ref ar1_])), (ar1_, .inl (cI, 108, .inl g))]) [3, 4, 6, 7] rfl) rfl rfl hl.1 rfl rfl (Nat.le_of_ble_eq_true rfl) ⟨Nat.le_of_ble_eq_true rfl, Nat.le_of_ble_eq_true rfl⟩ ⟨Nat.le_of_ble_eq_true rfl, Nat.le_of_ble_eq_true rfl⟩ dX5_machinesThatDiffer_38 ?_
        refine n_if_le (tgt := 50) hx hb dX5_machinesThatDiffer_41 (by decide) (Nat.lt_of_le_of_lt (dfc_le _ _ _ _ _) (by omega)) (fun c_41 => ?_) (fun c_41 => ?_)
        · refine lv_iinc (v := nI (i + 1)) (lv' := [(2, .int (nI (i + 1))), (0, .ref x0), (1, .int (mtd f g z i))]) hx hb dX5_machinesThatDiffer_50 hl (k := 2) rfl (nI_1 _) (by decide) rfl (fun ls hl => ?_)
          refine lv_goto (tgt := 4) hx hb dX5_machinesThatDiffer_53 (by decide) ?_
          have hl : lv_has ls 3 [(2, .int (nI (i + 1))), (0, .ref x0), (1, .int (mtd f g z (i + 1)))] := lv_rep hl (congrArg (fun z_ : Int32 => ([(2, .int (nI (i + 1))), (0, .ref x0), (1, .int z_)] : List (Nat × Value))) (show (mtd f g z i : Int32) = mtd f g z (i + 1) from by first | (rw [mtd, if_pos c_41]; done) | (rw [mtd, if_neg (by omega)])))
          exact ih4  (i + 1) (by omega) (by omega) _ (lv_sub hl [1, 2, 0] rfl)
        · refine lv_iload_n hx hb dX5_machinesThatDiffer_44 rfl (lv_at hl 1 rfl) ?_
          refine lv_iconst (v := nI 1) hx hb dX5_machinesThatDiffer_45 (by decide) ?_
          refine lv_iload_n hx hb dX5_machinesThatDiffer_46 rfl (lv_at hl 2 rfl) ?_
          refine lv_ishl hx hb dX5_machinesThatDiffer_47 ?_
          refine lv_ior hx hb dX5_machinesThatDiffer_48 ?_
          refine lv_istore_n (lv' := [(1, .int ((mtd f g z i) ||| ((nI 1) <<< ((nI i) &&& 31)))), (0, .ref x0), (2, .int (nI i))]) hx hb dX5_machinesThatDiffer_49 rfl hl (by decide) rfl (fun ls hl => ?_)
          refine lv_iinc (v := nI (i + 1)) (lv' := [(2, .int (nI (i + 1))), (1, .int ((mtd f g z i) ||| ((nI 1) <<< ((nI i) &&& 31)))), (0, .ref x0)]) hx hb dX5_machinesThatDiffer_50 hl (k := 2) rfl (nI_1 _) (by decide) rfl (fun ls hl => ?_)
          refine lv_goto (tgt := 4) hx hb dX5_machinesThatDiffer_53 (by decide) ?_
          have hl : lv_has ls 3 [(2, .int (nI (i + 1))), (1, .int (mtd f g z (i + 1))), (0, .ref x0)] := lv_rep hl (congrArg (fun z_ : Int32 => ([(2, .int (nI (i + 1))), (1, .int z_), (0, .ref x0)] : List (Nat × Value))) (show ((mtd f g z i) ||| ((nI 1) <<< ((nI i) &&& 31)) : Int32) = mtd f g z (i + 1) from by first | (rw [mtd, if_pos c_41]; done) | (rw [mtd, if_neg (by omega)])))
          exact ih4  (i + 1) (by omega) (by omega) _ (lv_sub hl [2, 1, 0] rfl)
  have hl : lv_has ls 3 [(2, .int (nI 0)), (1, .int (mtd f g z 0)), (0, .ref x0)] := lv_rep hl (congrArg (fun z_ : Int32 => ([(2, .int (nI 0)), (1, .int z_), (0, .ref x0)] : List (Nat × Value))) (show (nI 0 : Int32) = mtd f g z 0 from rfl))
  exact LP4 ((n - 0) + 1) 0 (Nat.zero_le _) (Nat.lt_succ_self _) _ (lv_sub hl [2, 1, 0] rfl)

set_option maxHeartbeats 4000000 in
set_option maxRecDepth 100000 in
theorem c_X5_numbersThatDiffer (l : Launch) (G : va_G) (cI cZ : ClassId) (x0 : Nat) (nw : Nat) (i0 : Nat) (i1 : Nat) (kp : Nat) (le : Nat) (bs : Nat) (us : Nat) (an : Nat) (sr_ : Nat) (ss : Nat) (n : Nat) (z : Nat) (op : Int32) (st : Int32) (ea : Int32) (ur : Nat) (ur1 : Nat) (ub : Nat) (ar_ : Nat) (ar1_ : Nat) (ab : Nat) (f : Nat → Int32) (g : Nat → Int32) (hn : 2 ≤ n) (hn9 : n ≤ 9) (hz1 : 1 ≤ z) (hz : z ≤ 12) : CR l G cI cZ yX5_numbersThatDiffer cX5_numbersThatDiffer 3 .int 4 91 [.ref x0] [(x0, .inr (5, [.ref nw, .ref i0, .ref i1, .int (nI kp), .ref le, .ref bs, .ref us, .ref an])), (nw, .inr (4, [.ref sr_, .ref ss, .int (nI n), .int (nI z), .int op, .int st, .int ea])), (us, .inr (2, [.ref ur, .ref ub])), (ur, .inr (3, [.ref ur1])), (ur1, .inl (cI, 108, .inl f)), (an, .inr (2, [.ref ar_, .ref ab])), (ar_, .inr (3, [.ref ar1_])), (ar1_, .inl (cI, 108, .inl g))] (nI (ntd f g z n)) := by
  refine CR.of (own := RX5) (by decide) rfl rfl (Nat.le_of_ble_eq_true rfl) ?_
  intro p e R s m args below meth c H Q X hR fin hP ls hl
  subst hR
  have hx := X.1
  have hb := X.2.1
  have hl : lv_has ls 3 [(0, .ref x0)] := hl
  refine lv_iconst (v := nI 0) hx hb dX5_numbersThatDiffer_0 (by decide) ?_
  refine lv_istore_n (lv' := [(1, .int (nI 0)), (0, .ref x0)]) hx hb dX5_numbersThatDiffer_1 rfl hl (by decide) rfl (fun ls hl => ?_)
  refine lv_iconst (v := nI 0) hx hb dX5_numbersThatDiffer_2 (by decide) ?_
  refine lv_istore_n (lv' := [(2, .int (nI 0)), (1, .int (nI 0)), (0, .ref x0)]) hx hb dX5_numbersThatDiffer_3 rfl hl (by decide) rfl (fun ls hl => ?_)
  have LP4 : ∀ (fu : Nat) (i : Nat), (i ≤ n) → (n - i) < fu → ∀ (ls : Array Slot), lv_has ls 3 [(0, .ref x0), (1, .int (nI (ntd f g z i))), (2, .int (nI i))] → W p l e ({ frames := 4, cells := 0, slots := 0, locals := 91 } : Room) s m args below meth c H [] 0 0 Q (F0 m 4 ls []) := by
    intro fu
    induction fu with
    | zero =>
      intro i hi hfu
      exact absurd hfu (Nat.not_lt_zero _)
    | succ fu ih4 =>
      intro i hi hfu  ls hl
      refine lv_iload_n hx hb dX5_numbersThatDiffer_4 rfl (lv_at hl 2 rfl) ?_
      refine lv_aload_n hx hb dX5_numbersThatDiffer_5 rfl (lv_at hl 0 rfl) ?_
      refine x_get (C := RX5) (T := TX5) (N := 8) (ci := 5) 0 inT_X5 rfl (by decide) lf_X5_10 rfl X hP 0 rfl rfl dX5_numbersThatDiffer_6 ?_
      refine x_getN (C := RX4) (T := TX4) (N := 7) (ci := 4) 2 inT_X4 rfl (by decide) lf_X5_54 rfl X hP 1 rfl rfl dX5_numbersThatDiffer_9 ?_
      refine n_icmp_ge (tgt := 50) hx hb dX5_numbersThatDiffer_12 (by decide) (by omega) (by omega) (fun c_12 => ?_) (fun c_12 => ?_)
      · refine lv_iload_n hx hb dX5_numbersThatDiffer_50 rfl (lv_at hl 1 rfl) ?_
        exact st_eq (show (nI (ntd f g z i) : Int32) = nI (ntd f g z n) from by rw [show i = n by omega]) (fin _ _ dX5_numbersThatDiffer_51)
      · refine lv_iload_n hx hb dX5_numbersThatDiffer_15 rfl (lv_at hl 1 rfl) ?_
        refine lv_aload_n hx hb dX5_numbersThatDiffer_16 rfl (lv_at hl 0 rfl) ?_
        refine x_get (C := RX5) (T := TX5) (N := 8) (ci := 5) 6 inT_X5 rfl (by decide) lf_X5_43 rfl X hP 0 rfl rfl dX5_numbersThatDiffer_17 ?_
        refine x_getN (C := RX2) (T := TX2) (N := 2) (ci := 2) 0 inT_X2 rfl (by decide) lf_X5_145 rfl X hP 2 rfl rfl dX5_numbersThatDiffer_20 ?_
        refine lv_iload_n hx hb dX5_numbersThatDiffer_23 rfl (lv_at hl 2 rfl) ?_
        refine lv_aload_n hx hb dX5_numbersThatDiffer_24 rfl (lv_at hl 0 rfl) ?_
        refine x_get (C := RX5) (T := TX5) (N := 8) (ci := 5) 7 inT_X5 rfl (by decide) lf_X5_47 rfl X hP 0 rfl rfl dX5_numbersThatDiffer_25 ?_
        refine x_getN (C := RX2) (T := TX2) (N := 2) (ci := 2) 0 inT_X2 rfl (by decide) lf_X5_145 rfl X hP 5 rfl rfl dX5_numbersThatDiffer_28 ?_
        refine lv_iload_n hx hb dX5_numbersThatDiffer_31 rfl (lv_at hl 2 rfl) ?_
        refine lv_aload_n hx hb dX5_numbersThatDiffer_32 rfl (lv_at hl 0 rfl) ?_
        refine x_get (C := RX5) (T := TX5) (N := 8) (ci := 5) 0 inT_X5 rfl (by decide) lf_X5_10 rfl X hP 0 rfl rfl dX5_numbersThatDiffer_33 ?_
        refine x_getN (C := RX4) (T := TX4) (N := 7) (ci := 4) 3 inT_X4 rfl (by decide) lf_X5_162 rfl X hP 1 rfl rfl dX5_numbersThatDiffer_36 ?_
        refine cR_V (As := [.int (nI i), .ref ar_, .int (nI i), .int (nI z)]) (rest := [.int (nI (ntd f g z i))]) X (c_X3_differing l G cI cZ ur ur1 ar_ ar1_ f g i i z (by first | assumption | omega) (by first | assumption | omega) (by first | assumption | omega)) lk_X5_165 (hP.sub (ws' := [(ur, .inr (3, [.ref ur1])), (ur1, .inl (cI, 108, .inl f)), (ar_, .inr (3, [.ref ar1_])), (ar1_, .inl (cI, 108, .inl g))]) [3, 4, 6, 7] rfl) rfl rfl hl.1 rfl rfl (Nat.le_of_ble_eq_true rfl) ⟨Nat.le_of_ble_eq_true rfl, Nat.le_of_ble_eq_true rfl⟩ ⟨Nat.le_of_ble_eq_true rfl, Nat.le_of_ble_eq_true rfl⟩ dX5_numbersThatDiffer_39 ?_
        refine n_add hx hb dX5_numbersThatDiffer_42  ?_
        refine lv_istore_n (lv' := [(1, .int (nI ((ntd f g z i) + (dfc f g i i z)))), (0, .ref x0), (2, .int (nI i))]) hx hb dX5_numbersThatDiffer_43 rfl hl (by decide) rfl (fun ls hl => ?_)
        refine lv_iinc (v := nI (i + 1)) (lv' := [(2, .int (nI (i + 1))), (1, .int (nI ((ntd f g z i) + (dfc f g i i z)))), (0, .ref x0)]) hx hb dX5_numbersThatDiffer_44 hl (k := 2) rfl (nI_1 _) (by decide) rfl (fun ls hl => ?_)
        refine lv_goto (tgt := 4) hx hb dX5_numbersThatDiffer_47 (by decide) ?_
        have hl : lv_has ls 3 [(2, .int (nI (i + 1))), (1, .int (nI (ntd f g z (i + 1)))), (0, .ref x0)] := lv_rep hl (congrArg (fun z_ : Int32 => ([(2, .int (nI (i + 1))), (1, .int z_), (0, .ref x0)] : List (Nat × Value))) (show (nI ((ntd f g z i) + (dfc f g i i z)) : Int32) = nI (ntd f g z (i + 1)) from rfl))
        exact ih4  (i + 1) (by omega) (by omega) _ (lv_sub hl [2, 1, 0] rfl)
  have hl : lv_has ls 3 [(2, .int (nI 0)), (1, .int (nI (ntd f g z 0))), (0, .ref x0)] := lv_rep hl (congrArg (fun z_ : Int32 => ([(2, .int (nI 0)), (1, .int z_), (0, .ref x0)] : List (Nat × Value))) (show (nI 0 : Int32) = nI (ntd f g z 0) from rfl))
  exact LP4 ((n - 0) + 1) 0 (Nat.zero_le _) (Nat.lt_succ_self _) _ (lv_sub hl [2, 1, 0] rfl)
