set_option maxHeartbeats 4000000 in
set_option maxRecDepth 100000 in
theorem c_X6_in (l : Launch) (G : va_G) (cI cZ : ClassId) (v : Int32) (lo : Int32) (hi : Int32) : CR l G cI cZ yX6_in cX6_in 3 .boolean 0 0 [.int v, .int lo, .int hi] [] (b2i (inB v lo hi)) := by
  refine CR.of (own := RX6) (by decide) rfl (b2i_nar _) (Nat.le_of_ble_eq_true rfl) ?_
  intro p e R s m args below meth c H Q X hR fin hP ls hl
  subst hR
  have hx := X.1
  have hb := X.2.1
  have hl : lv_has ls 3 [(0, .int v), (1, .int lo), (2, .int hi)] := hl
  refine lv_iload_n hx hb dX6_in_0 rfl (lv_at hl 0 rfl) ?_
  refine lv_iload_n hx hb dX6_in_1 rfl (lv_at hl 1 rfl) ?_
  refine lv_icmp_lt (tgt := 14) hx hb dX6_in_2 (by decide) (fun c_2 => ?_) (fun c_2 => ?_)
  · refine lv_iconst (v := nI 0) hx hb dX6_in_14 (by decide) ?_
    exact st_eq (show (nI 0 : Int32) = b2i (inB v lo hi) from by first | exact inB_t c_2 c_7 | exact inB_f1 c_2 | exact inB_f2 c_7) (fin _ _ dX6_in_15)
  · refine lv_iload_n hx hb dX6_in_5 rfl (lv_at hl 0 rfl) ?_
    refine lv_iload_n hx hb dX6_in_6 rfl (lv_at hl 2 rfl) ?_
    refine lv_icmp_gt (tgt := 14) hx hb dX6_in_7 (by decide) (fun c_7 => ?_) (fun c_7 => ?_)
    · refine lv_iconst (v := nI 0) hx hb dX6_in_14 (by decide) ?_
      exact st_eq (show (nI 0 : Int32) = b2i (inB v lo hi) from by first | exact inB_t c_2 c_7 | exact inB_f1 c_2 | exact inB_f2 c_7) (fin _ _ dX6_in_15)
    · refine lv_iconst (v := nI 1) hx hb dX6_in_10 (by decide) ?_
      refine lv_goto (tgt := 15) hx hb dX6_in_11 (by decide) ?_
      exact st_eq (show (nI 1 : Int32) = b2i (inB v lo hi) from by first | exact inB_t c_2 c_7 | exact inB_f1 c_2 | exact inB_f2 c_7) (fin _ _ dX6_in_15)

set_option maxHeartbeats 4000000 in
set_option maxRecDepth 100000 in
theorem c_X6_isWay (l : Launch) (G : va_G) (cI cZ : ClassId) (v : Int32) : CR l G cI cZ yX6_isWay cX6_isWay 1 .boolean 1 22 [.int v] [] (b2i (inB v (nI 0) (nI 3))) := by
  refine CR.of (own := RX6) (by decide) rfl (b2i_nar _) (Nat.le_of_ble_eq_true rfl) ?_
  intro p e R s m args below meth c H Q X hR fin hP ls hl
  subst hR
  have hx := X.1
  have hb := X.2.1
  have hl : lv_has ls 1 [(0, .int v)] := hl
  refine lv_iload_n hx hb dX6_isWay_0 rfl (lv_at hl 0 rfl) ?_
  refine lv_iconst (v := nI 0) hx hb dX6_isWay_1 (by decide) ?_
  refine lv_iconst (v := nI 3) hx hb dX6_isWay_2 (by decide) ?_
  refine cR_S (As := [.int v, .int (nI 0), .int (nI 3)]) (rest := []) X (c_X6_in l G cI cZ v (nI 0) (nI 3) ) lk_X6_69 (hP.sub (ws' := []) [] rfl) hl.1 rfl rfl (Nat.le_of_ble_eq_true rfl) ⟨Nat.le_of_ble_eq_true rfl, Nat.le_of_ble_eq_true rfl⟩ ⟨Nat.le_of_ble_eq_true rfl, Nat.le_of_ble_eq_true rfl⟩ dX6_isWay_3 ?_
  exact fin _ _ dX6_isWay_6

set_option maxHeartbeats 4000000 in
set_option maxRecDepth 100000 in
theorem c_X6_isMachine (l : Launch) (G : va_G) (cI cZ : ClassId) (m0 : Nat) (cs : Nat) (cg : Nat) (ck : Nat) (c0 : Nat) (c1 : Nat) (c2 : Nat) (c3 : Nat) (c4 : Nat) (c5 : Nat) (cl : Nat) (cp : Nat) (cq : Nat) (cr : Nat) (cn : Nat) (cb : Nat) (cu : Nat) (cv : Nat) (ce : Nat) (wl : Nat) (rd : Nat) (lr : Nat) (tm : Int32) (lgs : Int32) (n : Nat) (z : Nat) (op : Int32) (st : Int32) (ea : Int32) (g : Nat → Int32) (f : Nat → Int32) (v : Int32) (hn : 2 ≤ n) : CR l G cI cZ yX6_isMachine cX6_isMachine 2 .boolean 1 22 [.ref m0, .int v] [(m0, .inr (6, [.ref cs, .ref cg, .ref ck, .ref c0, .ref c1, .ref c2, .ref c3, .ref c4, .ref c5, .int (nI wl), .int (nI rd), .ref cl, .ref cp, .ref cq, .ref cr, .ref cn, .ref cb, .ref cu, .ref cv, .int tm, .int (nI lr), .int lgs, .ref ce])), (cs, .inl (cI, 194, .inl (mkS n z op st ea g f)))] (b2i (inB v (nI 0) (nI (n - 1)))) := by
  refine CR.of (own := RX6) (by decide) rfl (b2i_nar _) (Nat.le_of_ble_eq_true rfl) ?_
  intro p e R s m args below meth c H Q X hR fin hP ls hl
  subst hR
  have hx := X.1
  have hb := X.2.1
  have hl : lv_has ls 2 [(0, .ref m0), (1, .int v)] := hl
  refine lv_iload_n hx hb dX6_isMachine_0 rfl (lv_at hl 1 rfl) ?_
  refine lv_iconst (v := nI 0) hx hb dX6_isMachine_1 (by decide) ?_
  refine lv_aload_n hx hb dX6_isMachine_2 rfl (lv_at hl 0 rfl) ?_
  refine x_get (C := RX6) (T := TX6) (N := 23) (ci := 6) 0 inT_X6 rfl (by decide) lf_X6_7 rfl X hP 0 rfl rfl dX6_isMachine_3 ?_
  refine lv_iconst (v := nI 0) hx hb dX6_isMachine_6 (by decide) ?_
  refine n_iald X hP 1 rfl (by omega) (by decide) dX6_isMachine_7 ?_
  refine st_eq (show (mkS n z op st ea g f) 0 = nI n from rfl) ?_
  refine lv_iconst (v := nI 1) hx hb dX6_isMachine_8 (by decide) ?_
  refine n_sub hx hb dX6_isMachine_9 (by omega) ?_
  refine cR_S (As := [.int v, .int (nI 0), .int (nI (n - 1))]) (rest := []) X (c_X6_in l G cI cZ v (nI 0) (nI (n - 1)) ) lk_X6_69 (hP.sub (ws' := []) [] rfl) hl.1 rfl rfl (Nat.le_of_ble_eq_true rfl) ⟨Nat.le_of_ble_eq_true rfl, Nat.le_of_ble_eq_true rfl⟩ ⟨Nat.le_of_ble_eq_true rfl, Nat.le_of_ble_eq_true rfl⟩ dX6_isMachine_10 ?_
  exact fin _ _ dX6_isMachine_13

set_option maxHeartbeats 4000000 in
set_option maxRecDepth 100000 in
theorem c_X6_isPlace (l : Launch) (G : va_G) (cI cZ : ClassId) (m0 : Nat) (cs : Nat) (cg : Nat) (ck : Nat) (c0 : Nat) (c1 : Nat) (c2 : Nat) (c3 : Nat) (c4 : Nat) (c5 : Nat) (cl : Nat) (cp : Nat) (cq : Nat) (cr : Nat) (cn : Nat) (cb : Nat) (cu : Nat) (cv : Nat) (ce : Nat) (wl : Nat) (rd : Nat) (lr : Nat) (tm : Int32) (lgs : Int32) (n : Nat) (z : Nat) (op : Int32) (st : Int32) (ea : Int32) (g : Nat → Int32) (f : Nat → Int32) (v : Int32) (hz1 : 1 ≤ z) : CR l G cI cZ yX6_isPlace cX6_isPlace 2 .boolean 1 22 [.ref m0, .int v] [(m0, .inr (6, [.ref cs, .ref cg, .ref ck, .ref c0, .ref c1, .ref c2, .ref c3, .ref c4, .ref c5, .int (nI wl), .int (nI rd), .ref cl, .ref cp, .ref cq, .ref cr, .ref cn, .ref cb, .ref cu, .ref cv, .int tm, .int (nI lr), .int lgs, .ref ce])), (cs, .inl (cI, 194, .inl (mkS n z op st ea g f)))] (b2i (inB v (nI 0) (nI (z - 1)))) := by
  refine CR.of (own := RX6) (by decide) rfl (b2i_nar _) (Nat.le_of_ble_eq_true rfl) ?_
  intro p e R s m args below meth c H Q X hR fin hP ls hl
  subst hR
  have hx := X.1
  have hb := X.2.1
  have hl : lv_has ls 2 [(0, .ref m0), (1, .int v)] := hl
  refine lv_iload_n hx hb dX6_isPlace_0 rfl (lv_at hl 1 rfl) ?_
  refine lv_iconst (v := nI 0) hx hb dX6_isPlace_1 (by decide) ?_
  refine lv_aload_n hx hb dX6_isPlace_2 rfl (lv_at hl 0 rfl) ?_
  refine x_get (C := RX6) (T := TX6) (N := 23) (ci := 6) 0 inT_X6 rfl (by decide) lf_X6_7 rfl X hP 0 rfl rfl dX6_isPlace_3 ?_
  refine lv_iconst (v := nI 1) hx hb dX6_isPlace_6 (by decide) ?_
  refine n_iald X hP 1 rfl (by omega) (by decide) dX6_isPlace_7 ?_
  refine st_eq (show (mkS n z op st ea g f) 1 = nI z from rfl) ?_
  refine lv_iconst (v := nI 1) hx hb dX6_isPlace_8 (by decide) ?_
  refine n_sub hx hb dX6_isPlace_9 (by omega) ?_
  refine cR_S (As := [.int v, .int (nI 0), .int (nI (z - 1))]) (rest := []) X (c_X6_in l G cI cZ v (nI 0) (nI (z - 1)) ) lk_X6_69 (hP.sub (ws' := []) [] rfl) hl.1 rfl rfl (Nat.le_of_ble_eq_true rfl) ⟨Nat.le_of_ble_eq_true rfl, Nat.le_of_ble_eq_true rfl⟩ ⟨Nat.le_of_ble_eq_true rfl, Nat.le_of_ble_eq_true rfl⟩ dX6_isPlace_10 ?_
  exact fin _ _ dX6_isPlace_13

set_option maxHeartbeats 4000000 in
set_option maxRecDepth 100000 in
theorem c_X6_cell (l : Launch) (G : va_G) (cI cZ : ClassId) (a : Nat) (b : Nat) : CR l G cI cZ yX6_cell cX6_cell 2 .int 0 0 [.int (nI a), .int (nI b)] [] (nI (12 * a + b)) := by
  refine CR.of (own := RX6) (by decide) rfl rfl (Nat.le_of_ble_eq_true rfl) ?_
  intro p e R s m args below meth c H Q X hR fin hP ls hl
  subst hR
  have hx := X.1
  have hb := X.2.1
  have hl : lv_has ls 2 [(0, .int (nI a)), (1, .int (nI b))] := hl
  refine lv_bipush (v := nI 12) hx hb dX6_cell_0 (by decide) ?_
  refine lv_iload_n hx hb dX6_cell_2 rfl (lv_at hl 0 rfl) ?_
  refine n_mul hx hb dX6_cell_3  ?_
  refine lv_iload_n hx hb dX6_cell_4 rfl (lv_at hl 1 rfl) ?_
  refine n_add hx hb dX6_cell_5  ?_
  exact st_eq (show (nI ((12 * a) + b) : Int32) = nI (12 * a + b) from by first | rfl | simp_all) (fin _ _ dX6_cell_6)

set_option maxHeartbeats 4000000 in
set_option maxRecDepth 100000 in
theorem c_X6_at (l : Launch) (G : va_G) (cI cZ : ClassId) (m0 : Nat) (cs : Nat) (cg : Nat) (ck : Nat) (c0 : Nat) (c1 : Nat) (c2 : Nat) (c3 : Nat) (c4 : Nat) (c5 : Nat) (cl : Nat) (cp : Nat) (cq : Nat) (cr : Nat) (cn : Nat) (cb : Nat) (cu : Nat) (cv : Nat) (ce : Nat) (wl : Nat) (rd : Nat) (lr : Nat) (tm : Int32) (lgs : Int32) (n : Nat) (z : Nat) (op : Int32) (st : Int32) (ea : Int32) (g : Nat → Int32) (f : Nat → Int32) (p0 : Int32) (p1 : Int32) (hn : 2 ≤ n) (hn9 : n ≤ 9) (hz1 : 1 ≤ z) (hz : z ≤ 12) : CR l G cI cZ yX6_at cX6_at 3 .int 2 43 [.ref m0, .int p0, .int p1] [(m0, .inr (6, [.ref cs, .ref cg, .ref ck, .ref c0, .ref c1, .ref c2, .ref c3, .ref c4, .ref c5, .int (nI wl), .int (nI rd), .ref cl, .ref cp, .ref cq, .ref cr, .ref cn, .ref cb, .ref cu, .ref cv, .int tm, .int (nI lr), .int lgs, .ref ce])), (cs, .inl (cI, 194, .inl (mkS n z op st ea g f)))] (A_at n z f p0 p1) := by
  refine CR.of (own := RX6) (by decide) rfl rfl (Nat.le_of_ble_eq_true rfl) ?_
  intro p e R s m args below meth c H Q X hR fin hP ls hl
  subst hR
  have hx := X.1
  have hb := X.2.1
  have hl : lv_has ls 3 [(0, .ref m0), (1, .int p0), (2, .int p1)] := hl
  refine lv_aload_n hx hb dX6_at_0 rfl (lv_at hl 0 rfl) ?_
  refine lv_iload_n hx hb dX6_at_1 rfl (lv_at hl 1 rfl) ?_
  refine cR_V (As := [.int p0]) (rest := []) X (c_X6_isMachine l G cI cZ m0 cs cg ck c0 c1 c2 c3 c4 c5 cl cp cq cr cn cb cu cv ce wl rd lr tm lgs n z op st ea g f p0 (by first | assumption | omega)) lk_X6_73 (hP.sub (ws' := [(m0, .inr (6, [.ref cs, .ref cg, .ref ck, .ref c0, .ref c1, .ref c2, .ref c3, .ref c4, .ref c5, .int (nI wl), .int (nI rd), .ref cl, .ref cp, .ref cq, .ref cr, .ref cn, .ref cb, .ref cu, .ref cv, .int tm, .int (nI lr), .int lgs, .ref ce])), (cs, .inl (cI, 194, .inl (mkS n z op st ea g f)))]) [0, 1] rfl) rfl rfl hl.1 rfl rfl (Nat.le_of_ble_eq_true rfl) ⟨Nat.le_of_ble_eq_true rfl, Nat.le_of_ble_eq_true rfl⟩ ⟨Nat.le_of_ble_eq_true rfl, Nat.le_of_ble_eq_true rfl⟩ dX6_at_2 ?_
  refine b_if_ne (tgt := 10) hx hb dX6_at_5 (by decide) (fun c_5 => ?_) (fun c_5 => ?_)
  · obtain ⟨ka, hka, rfl⟩ := inB_of (by omega) c_5
    refine lv_aload_n hx hb dX6_at_10 rfl (lv_at hl 0 rfl) ?_
    refine lv_iload_n hx hb dX6_at_11 rfl (lv_at hl 2 rfl) ?_
    refine cR_V (As := [.int p1]) (rest := []) X (c_X6_isPlace l G cI cZ m0 cs cg ck c0 c1 c2 c3 c4 c5 cl cp cq cr cn cb cu cv ce wl rd lr tm lgs n z op st ea g f p1 (by first | assumption | omega)) lk_X6_77 (hP.sub (ws' := [(m0, .inr (6, [.ref cs, .ref cg, .ref ck, .ref c0, .ref c1, .ref c2, .ref c3, .ref c4, .ref c5, .int (nI wl), .int (nI rd), .ref cl, .ref cp, .ref cq, .ref cr, .ref cn, .ref cb, .ref cu, .ref cv, .int tm, .int (nI lr), .int lgs, .ref ce])), (cs, .inl (cI, 194, .inl (mkS n z op st ea g f)))]) [0, 1] rfl) rfl rfl hl.1 rfl rfl (Nat.le_of_ble_eq_true rfl) ⟨Nat.le_of_ble_eq_true rfl, Nat.le_of_ble_eq_true rfl⟩ ⟨Nat.le_of_ble_eq_true rfl, Nat.le_of_ble_eq_true rfl⟩ dX6_at_12 ?_
    refine b_if_eq (tgt := 34) hx hb dX6_at_15 (by decide) (fun c_15 => ?_) (fun c_15 => ?_)
    · refine lv_bipush (v := (-6)) hx hb dX6_at_34 (by decide) ?_
      exact st_eq (show ((-6) : Int32) = A_at n z f (nI ka) p1 from by simp only [A_at, c_5, c_15, tn_N (show ka < 2 ^ 31 by omega)]; try simp []) (fin _ _ dX6_at_36)
    · obtain ⟨kb, hkb, rfl⟩ := inB_of (by omega) c_15
      refine lv_aload_n hx hb dX6_at_18 rfl (lv_at hl 0 rfl) ?_
      refine x_get (C := RX6) (T := TX6) (N := 23) (ci := 6) 0 inT_X6 rfl (by decide) lf_X6_7 rfl X hP 0 rfl rfl dX6_at_19 ?_
      refine lv_bipush (v := nI 86) hx hb dX6_at_22 (by decide) ?_
      refine lv_iload_n hx hb dX6_at_24 rfl (lv_at hl 1 rfl) ?_
      refine lv_iload_n hx hb dX6_at_25 rfl (lv_at hl 2 rfl) ?_
      refine cR_S (As := [.int (nI ka), .int (nI kb)]) (rest := [.int (nI 86), .ref cs]) X (c_X6_cell l G cI cZ ka kb ) lk_X6_80 (hP.sub (ws' := []) [] rfl) hl.1 rfl rfl (Nat.le_of_ble_eq_true rfl) ⟨Nat.le_of_ble_eq_true rfl, Nat.le_of_ble_eq_true rfl⟩ ⟨Nat.le_of_ble_eq_true rfl, Nat.le_of_ble_eq_true rfl⟩ dX6_at_26 ?_
      refine n_add hx hb dX6_at_29  ?_
      refine n_iald X hP 1 rfl (by omega) (by decide) dX6_at_30 ?_
      refine st_eq (show (mkS n z op st ea g f) (86 + (12 * ka + kb)) = f (12 * ka + kb) from mkS_f) ?_
      refine lv_goto (tgt := 36) hx hb dX6_at_31 (by decide) ?_
      exact st_eq (show (f (12 * ka + kb) : Int32) = A_at n z f (nI ka) (nI kb) from by simp only [A_at, c_5, c_15, tn_N (show ka < 2 ^ 31 by omega), tn_N (show kb < 2 ^ 31 by omega)]; try simp []) (fin _ _ dX6_at_36)
  · refine lv_iconst (v := (-1)) hx hb dX6_at_8 (by decide) ?_
    exact st_eq (show ((-1) : Int32) = A_at n z f p0 p1 from by simp only [A_at, c_5]; try simp []) (fin _ _ dX6_at_9)

set_option maxHeartbeats 4000000 in
set_option maxRecDepth 100000 in
theorem c_X6_levelOf (l : Launch) (G : va_G) (cI cZ : ClassId) (k : Nat) (hk : k < 10) : CR l G cI cZ yX6_levelOf cX6_levelOf 3 .int 0 0 [.int (nI k)] [] (nI (lev k)) := by
  refine CR.of (own := RX6) (by decide) rfl rfl (Nat.le_of_ble_eq_true rfl) ?_
  intro p e R s m args below meth c H Q X hR fin hP ls hl
  subst hR
  have hx := X.1
  have hb := X.2.1
  have hl : lv_has ls 3 [(0, .int (nI k))] := hl
  refine lv_iconst (v := nI 0) hx hb dX6_levelOf_0 (by decide) ?_
  refine lv_istore_n (lv' := [(1, .int (nI 0)), (0, .int (nI k))]) hx hb dX6_levelOf_1 rfl hl (by decide) rfl (fun ls hl => ?_)
  refine lv_iload_n hx hb dX6_levelOf_2 rfl (lv_at hl 1 rfl) ?_
  refine lv_istore_n (lv' := [(2, .int (nI k)), (1, .int (nI 0)), (0, .int (nI k))]) hx hb dX6_levelOf_3 rfl hl (by decide) rfl (fun ls hl => ?_)
  have LP4 : ∀ (fu : Nat) (c_ : Nat) (q : Nat), (q ≤ k) → (c_ + lev q = lev k) → q < fu → ∀ (ls : Array Slot), lv_has ls 3 [(0, .int (nI k)), (1, .int (nI c_)), (2, .int (nI q))] → W p l e ({ frames := 0, cells := 0, slots := 0, locals := 0 } : Room) s m args below meth c H [] 0 0 Q (F0 m 4 ls []) := by
    intro fu
    induction fu with
    | zero =>
      intro c_ q hq hc hfu
      exact absurd hfu (Nat.not_lt_zero _)
    | succ fu ih4 =>
      intro c_ q hq hc hfu  ls hl
      refine lv_iload_n hx hb dX6_levelOf_4 rfl (lv_at hl 2 rfl) ?_
      refine n_if_le (tgt := 20) hx hb dX6_levelOf_5 (by decide) (by omega) (fun c_5 => ?_) (fun c_5 => ?_)
      · refine lv_iload_n hx hb dX6_levelOf_20 rfl (lv_at hl 1 rfl) ?_
        exact st_eq (show (nI c_ : Int32) = nI (lev k) from by congr 1; rw [c_5] at hc; have : lev 0 = 0 := rfl; omega) (fin _ _ dX6_levelOf_21)
      · refine lv_iinc (v := nI (c_ + 1)) (lv' := [(1, .int (nI (c_ + 1))), (0, .int (nI k)), (2, .int (nI q))]) hx hb dX6_levelOf_8 hl (k := 1) rfl (nI_1 _) (by decide) rfl (fun ls hl => ?_)
        refine lv_iload_n hx hb dX6_levelOf_11 rfl (lv_at hl 2 rfl) ?_
        refine lv_iconst (v := nI 1) hx hb dX6_levelOf_12 (by decide) ?_
        refine n_sub hx hb dX6_levelOf_13 (by omega) ?_
        refine lv_iconst (v := nI 2) hx hb dX6_levelOf_14 (by decide) ?_
        refine n_div hx hb dX6_levelOf_15 (by omega) (by omega) (by omega) ?_
        refine lv_istore_n (lv' := [(2, .int (nI ((q - 1) / 2))), (1, .int (nI (c_ + 1))), (0, .int (nI k))]) hx hb dX6_levelOf_16 rfl hl (by decide) rfl (fun ls hl => ?_)
        refine lv_goto (tgt := 4) hx hb dX6_levelOf_17 (by decide) ?_
        exact ih4  (c_ + 1) ((q - 1) / 2) (by omega) (by have := lev_s (show q < 10 by omega) c_5; omega) (by omega) _ (lv_sub hl [2, 1, 0] rfl)
  exact LP4 (k + 1) 0 k (Nat.le_refl _) (Nat.zero_add _) (Nat.lt_succ_self _) _ (lv_sub hl [2, 1, 0] rfl)

set_option maxHeartbeats 4000000 in
set_option maxRecDepth 100000 in
theorem c_X6_mixed (l : Launch) (G : va_G) (cI cZ : ClassId) (m0 : Nat) (cs : Nat) (cg : Nat) (ck : Nat) (c0 : Nat) (c1 : Nat) (c2 : Nat) (c3 : Nat) (c4 : Nat) (c5 : Nat) (cl : Nat) (cp : Nat) (cq : Nat) (cr : Nat) (cn : Nat) (cb : Nat) (cu : Nat) (cv : Nat) (ce : Nat) (wl : Nat) (rd : Nat) (lr : Nat) (tm : Int32) (lgs : Int32) (n : Nat) (z : Nat) (op : Int32) (st : Int32) (ea : Int32) (g : Nat → Int32) (f : Nat → Int32) (a : Int32) (b : Int32) : CR l G cI cZ yX6_mixed cX6_mixed 3 .int 0 0 [.ref m0, .int a, .int b] [(m0, .inr (6, [.ref cs, .ref cg, .ref ck, .ref c0, .ref c1, .ref c2, .ref c3, .ref c4, .ref c5, .int (nI wl), .int (nI rd), .ref cl, .ref cp, .ref cq, .ref cr, .ref cn, .ref cb, .ref cu, .ref cv, .int tm, .int (nI lr), .int lgs, .ref ce])), (cs, .inl (cI, 194, .inl (mkS n z op st ea g f)))] (mix op a b) := by
  refine CR.of (own := RX6) (by decide) rfl rfl (Nat.le_of_ble_eq_true rfl) ?_
  intro p e R s m args below meth c H Q X hR fin hP ls hl
  subst hR
  have hx := X.1
  have hb := X.2.1
  have hl : lv_has ls 3 [(0, .ref m0), (1, .int a), (2, .int b)] := hl
  refine lv_aload_n hx hb dX6_mixed_0 rfl (lv_at hl 0 rfl) ?_
  refine x_get (C := RX6) (T := TX6) (N := 23) (ci := 6) 0 inT_X6 rfl (by decide) lf_X6_7 rfl X hP 0 rfl rfl dX6_mixed_1 ?_
  refine lv_iconst (v := nI 2) hx hb dX6_mixed_4 (by decide) ?_
  refine n_iald X hP 1 rfl (by omega) (by decide) dX6_mixed_5 ?_
  refine st_eq (show (mkS n z op st ea g f) 2 = op from rfl) ?_
  refine lv_if_ne (tgt := 19) hx hb dX6_mixed_6 (by decide) (fun c_6 => ?_) (fun c_6 => ?_)
  · refine lv_aload_n hx hb dX6_mixed_19 rfl (lv_at hl 0 rfl) ?_
    refine x_get (C := RX6) (T := TX6) (N := 23) (ci := 6) 0 inT_X6 rfl (by decide) lf_X6_7 rfl X hP 0 rfl rfl dX6_mixed_20 ?_
    refine lv_iconst (v := nI 2) hx hb dX6_mixed_23 (by decide) ?_
    refine n_iald X hP 1 rfl (by omega) (by decide) dX6_mixed_24 ?_
    refine st_eq (show (mkS n z op st ea g f) 2 = op from rfl) ?_
    refine lv_iconst (v := nI 1) hx hb dX6_mixed_25 (by decide) ?_
    refine lv_icmp_ne (tgt := 42) hx hb dX6_mixed_26 (by decide) (fun c_26 => ?_) (fun c_26 => ?_)
    · refine lv_bipush (v := nI 31) hx hb dX6_mixed_42 (by decide) ?_
      refine lv_iload_n hx hb dX6_mixed_44 rfl (lv_at hl 1 rfl) ?_
      refine lv_imul hx hb dX6_mixed_45 ?_
      refine lv_iload_n hx hb dX6_mixed_46 rfl (lv_at hl 2 rfl) ?_
      refine lv_iadd hx hb dX6_mixed_47 ?_
      refine lv_sipush (v := nI 997) hx hb dX6_mixed_48 (by decide) ?_
      refine lv_irem hx hb dX6_mixed_51 (by decide) ?_
      exact st_eq (show ((((nI 31) * a) + b) - (((nI 31) * a) + b) / (nI 997) * (nI 997) : Int32) = mix op a b from by first | (rw [mix, if_pos c_6]; done) | (rw [mix, if_neg c_6, if_pos c_26]; exact max_le c_31) | (rw [mix, if_neg c_6, if_pos c_26]; exact max_gt c_31) | (rw [mix, if_neg c_6, if_neg c_26]; done)) (fin _ _ dX6_mixed_52)
    · refine lv_iload_n hx hb dX6_mixed_29 rfl (lv_at hl 1 rfl) ?_
      refine lv_iload_n hx hb dX6_mixed_30 rfl (lv_at hl 2 rfl) ?_
      refine lv_icmp_le (tgt := 38) hx hb dX6_mixed_31 (by decide) (fun c_31 => ?_) (fun c_31 => ?_)
      · refine lv_iload_n hx hb dX6_mixed_38 rfl (lv_at hl 2 rfl) ?_
        refine lv_goto (tgt := 52) hx hb dX6_mixed_39 (by decide) ?_
        exact st_eq (show (b : Int32) = mix op a b from by first | (rw [mix, if_pos c_6]; done) | (rw [mix, if_neg c_6, if_pos c_26]; exact max_le c_31) | (rw [mix, if_neg c_6, if_pos c_26]; exact max_gt c_31) | (rw [mix, if_neg c_6, if_neg c_26]; done)) (fin _ _ dX6_mixed_52)
      · refine lv_iload_n hx hb dX6_mixed_34 rfl (lv_at hl 1 rfl) ?_
        refine lv_goto (tgt := 52) hx hb dX6_mixed_35 (by decide) ?_
        exact st_eq (show (a : Int32) = mix op a b from by first | (rw [mix, if_pos c_6]; done) | (rw [mix, if_neg c_6, if_pos c_26]; exact max_le c_31) | (rw [mix, if_neg c_6, if_pos c_26]; exact max_gt c_31) | (rw [mix, if_neg c_6, if_neg c_26]; done)) (fin _ _ dX6_mixed_52)
  · refine lv_iload_n hx hb dX6_mixed_9 rfl (lv_at hl 1 rfl) ?_
    refine lv_iload_n hx hb dX6_mixed_10 rfl (lv_at hl 2 rfl) ?_
    refine lv_iadd hx hb dX6_mixed_11 ?_
    refine lv_sipush (v := nI 997) hx hb dX6_mixed_12 (by decide) ?_
    refine lv_irem hx hb dX6_mixed_15 (by decide) ?_
    refine lv_goto (tgt := 52) hx hb dX6_mixed_16 (by decide) ?_
    exact st_eq (show ((a + b) - (a + b) / (nI 997) * (nI 997) : Int32) = mix op a b from by first | (rw [mix, if_pos c_6]; done) | (rw [mix, if_neg c_6, if_pos c_26]; exact max_le c_31) | (rw [mix, if_neg c_6, if_pos c_26]; exact max_gt c_31) | (rw [mix, if_neg c_6, if_neg c_26]; done)) (fin _ _ dX6_mixed_52)

set_option maxHeartbeats 4000000 in
set_option maxRecDepth 100000 in
theorem c_X6_priceOf (l : Launch) (G : va_G) (cI cZ : ClassId) (m0 : Nat) (cs : Nat) (cg : Nat) (ck : Nat) (c0 : Nat) (c1 : Nat) (c2 : Nat) (c3 : Nat) (c4 : Nat) (c5 : Nat) (cl : Nat) (cp : Nat) (cq : Nat) (cr : Nat) (cn : Nat) (cb : Nat) (cu : Nat) (cv : Nat) (ce : Nat) (rd : Nat) (lr : Nat) (tm : Int32) (lgs : Int32) (n : Nat) (z : Nat) (op : Int32) (st : Int32) (ea : Int32) (g : Nat → Int32) (f : Nat → Int32) (L : List (List Nat)) (T : Nat → Nat → Int32) (n_ : Nat) (z_ : Nat) (k : Nat) (htb : LTm T L) (hwf : WFL L rd n_ z_) (hn9_ : n_ ≤ 9) (hz99 : z_ ≤ 99) (hk : k < L.length) : CR l G cI cZ yX6_priceOf cX6_priceOf 2 .int 0 0 [.ref m0, .int (nI k)] [(m0, .inr (6, [.ref cs, .ref cg, .ref ck, .ref c0, .ref c1, .ref c2, .ref c3, .ref c4, .ref c5, .int (nI L.length), .int (nI rd), .ref cl, .ref cp, .ref cq, .ref cr, .ref cn, .ref cb, .ref cu, .ref cv, .int tm, .int (nI lr), .int lgs, .ref ce])), (cs, .inl (cI, 194, .inl (mkS n z op st ea g f))), (c1, .inl (cI, 144, .inl (T 1))), (c2, .inl (cI, 144, .inl (T 2))), (c4, .inl (cI, 144, .inl (T 4)))] (prc st ea g L k) := by
  have hL := hwf.1
  obtain ⟨w0, w1, w2, w3, w4⟩ := hwf.2 k hk
  refine CR.of (own := RX6) (by decide) rfl rfl (Nat.le_of_ble_eq_true rfl) ?_
  intro p e R s m args below meth c H Q X hR fin hP ls hl
  subst hR
  have hx := X.1
  have hb := X.2.1
  have hl : lv_has ls 2 [(0, .ref m0), (1, .int (nI k))] := hl
  refine lv_aload_n hx hb dX6_priceOf_0 rfl (lv_at hl 0 rfl) ?_
  refine x_get (C := RX6) (T := TX6) (N := 23) (ci := 6) 0 inT_X6 rfl (by decide) lf_X6_7 rfl X hP 0 rfl rfl dX6_priceOf_1 ?_
  refine lv_iconst (v := nI 3) hx hb dX6_priceOf_4 (by decide) ?_
  refine n_iald X hP 1 rfl (by omega) (by decide) dX6_priceOf_5 ?_
  refine st_eq (show (mkS n z op st ea g f) 3 = st from rfl) ?_
  refine lv_aload_n hx hb dX6_priceOf_6 rfl (lv_at hl 0 rfl) ?_
  refine x_get (C := RX6) (T := TX6) (N := 23) (ci := 6) 0 inT_X6 rfl (by decide) lf_X6_7 rfl X hP 0 rfl rfl dX6_priceOf_7 ?_
  refine lv_iconst (v := nI 4) hx hb dX6_priceOf_10 (by decide) ?_
  refine n_iald X hP 1 rfl (by omega) (by decide) dX6_priceOf_11 ?_
  refine st_eq (show (mkS n z op st ea g f) 4 = ea from rfl) ?_
  refine lv_aload_n hx hb dX6_priceOf_12 rfl (lv_at hl 0 rfl) ?_
  refine x_get (C := RX6) (T := TX6) (N := 23) (ci := 6) 7 inT_X6 rfl (by decide) lf_X6_32 rfl X hP 0 rfl rfl dX6_priceOf_13 ?_
  refine lv_iload_n hx hb dX6_priceOf_16 rfl (lv_at hl 1 rfl) ?_
  refine n_iald X hP 4 rfl (by omega) (by decide) dX6_priceOf_17 ?_
  refine st_eq (show (T 4) k = nI (lt L k 4) from htb _ (by omega) 4 (by decide)) ?_
  refine lv_imul hx hb dX6_priceOf_18 ?_
  refine lv_iadd hx hb dX6_priceOf_19 ?_
  refine lv_aload_n hx hb dX6_priceOf_20 rfl (lv_at hl 0 rfl) ?_
  refine x_get (C := RX6) (T := TX6) (N := 23) (ci := 6) 0 inT_X6 rfl (by decide) lf_X6_7 rfl X hP 0 rfl rfl dX6_priceOf_21 ?_
  refine lv_iconst (v := nI 5) hx hb dX6_priceOf_24 (by decide) ?_
  refine lv_bipush (v := nI 9) hx hb dX6_priceOf_25 (by decide) ?_
  refine lv_aload_n hx hb dX6_priceOf_27 rfl (lv_at hl 0 rfl) ?_
  refine x_get (C := RX6) (T := TX6) (N := 23) (ci := 6) 4 inT_X6 rfl (by decide) lf_X6_23 rfl X hP 0 rfl rfl dX6_priceOf_28 ?_
  refine lv_iload_n hx hb dX6_priceOf_31 rfl (lv_at hl 1 rfl) ?_
  refine n_iald X hP 2 rfl (by omega) (by decide) dX6_priceOf_32 ?_
  refine st_eq (show (T 1) k = nI (lt L k 1) from htb _ (by omega) 1 (by decide)) ?_
  refine n_mul hx hb dX6_priceOf_33  ?_
  refine n_add hx hb dX6_priceOf_34  ?_
  refine lv_aload_n hx hb dX6_priceOf_35 rfl (lv_at hl 0 rfl) ?_
  refine x_get (C := RX6) (T := TX6) (N := 23) (ci := 6) 5 inT_X6 rfl (by decide) lf_X6_26 rfl X hP 0 rfl rfl dX6_priceOf_36 ?_
  refine lv_iload_n hx hb dX6_priceOf_39 rfl (lv_at hl 1 rfl) ?_
  refine n_iald X hP 3 rfl (by omega) (by decide) dX6_priceOf_40 ?_
  refine st_eq (show (T 2) k = nI (lt L k 2) from htb _ (by omega) 2 (by decide)) ?_
  refine n_add hx hb dX6_priceOf_41  ?_
  refine n_iald X hP 1 rfl (by omega) (by decide) dX6_priceOf_42 ?_
  refine st_eq (show ((mkS n z op st ea g f) ((5 + (9 * (lt L k 1))) + (lt L k 2)) : Int32) = g (9 * lt L k 1 + lt L k 2) from mkS_g2 (by omega) (by omega)) ?_
  refine lv_imul hx hb dX6_priceOf_43 ?_
  exact st_eq (show ((st + (ea * (nI (lt L k 4)))) * (g (9 * lt L k 1 + lt L k 2)) : Int32) = prc st ea g L k from rfl) (fin _ _ dX6_priceOf_44)

set_option maxHeartbeats 4000000 in
set_option maxRecDepth 100000 in
theorem c_X6_busiest (l : Launch) (G : va_G) (cI cZ : ClassId) (m0 : Nat) (cs : Nat) (cg : Nat) (ck : Nat) (c0 : Nat) (c1 : Nat) (c2 : Nat) (c3 : Nat) (c4 : Nat) (c5 : Nat) (cl : Nat) (cp : Nat) (cq : Nat) (cr : Nat) (cn : Nat) (cb : Nat) (cu : Nat) (cv : Nat) (ce : Nat) (wl : Nat) (rd : Nat) (lr : Nat) (tm : Int32) (lgs : Int32) (n : Nat) (z : Nat) (op : Int32) (st : Int32) (ea : Int32) (g : Nat → Int32) (f : Nat → Int32) (a_ : Nat → Int32) (hn : 2 ≤ n) (hn9 : n ≤ 9) (hz1 : 1 ≤ z) (hz : z ≤ 12) : CR l G cI cZ yX6_busiest cX6_busiest 3 .int 0 0 [.ref m0] [(m0, .inr (6, [.ref cs, .ref cg, .ref ck, .ref c0, .ref c1, .ref c2, .ref c3, .ref c4, .ref c5, .int (nI wl), .int (nI rd), .ref cl, .ref cp, .ref cq, .ref cr, .ref cn, .ref cb, .ref cu, .ref cv, .int tm, .int (nI lr), .int lgs, .ref ce])), (cs, .inl (cI, 194, .inl (mkS n z op st ea g f))), (cv, .inl (cI, 9, .inl a_))] (nI (bus a_ (n - 1))) := by
  refine CR.of (own := RX6) (by decide) rfl rfl (Nat.le_of_ble_eq_true rfl) ?_
  intro p e R s m args below meth c H Q X hR fin hP ls hl
  subst hR
  have hx := X.1
  have hb := X.2.1
  have hl : lv_has ls 3 [(0, .ref m0)] := hl
  refine lv_iconst (v := nI 0) hx hb dX6_busiest_0 (by decide) ?_
  refine lv_istore_n (lv' := [(1, .int (nI 0)), (0, .ref m0)]) hx hb dX6_busiest_1 rfl hl (by decide) rfl (fun ls hl => ?_)
  refine lv_iconst (v := nI 1) hx hb dX6_busiest_2 (by decide) ?_
  refine lv_istore_n (lv' := [(2, .int (nI 1)), (1, .int (nI 0)), (0, .ref m0)]) hx hb dX6_busiest_3 rfl hl (by decide) rfl (fun ls hl => ?_)
  have LP4 : ∀ (fu : Nat) (i : Nat), (i + 1 ≤ n) → (n - i) < fu → ∀ (ls : Array Slot), lv_has ls 3 [(0, .ref m0), (1, .int (nI (bus a_ i))), (2, .int (nI (i + 1)))] → W p l e ({ frames := 0, cells := 0, slots := 0, locals := 0 } : Room) s m args below meth c H [] 0 0 Q (F0 m 4 ls []) := by
    intro fu
    induction fu with
    | zero =>
      intro i hi hfu
      exact absurd hfu (Nat.not_lt_zero _)
    | succ fu ih4 =>
      intro i hi hfu  ls hl
      refine lv_iload_n hx hb dX6_busiest_4 rfl (lv_at hl 2 rfl) ?_
      refine lv_aload_n hx hb dX6_busiest_5 rfl (lv_at hl 0 rfl) ?_
      refine x_get (C := RX6) (T := TX6) (N := 23) (ci := 6) 0 inT_X6 rfl (by decide) lf_X6_7 rfl X hP 0 rfl rfl dX6_busiest_6 ?_
      refine lv_iconst (v := nI 0) hx hb dX6_busiest_9 (by decide) ?_
      refine n_iald X hP 1 rfl (by omega) (by decide) dX6_busiest_10 ?_
      refine st_eq (show (mkS n z op st ea g f) 0 = nI n from rfl) ?_
      refine n_icmp_ge (tgt := 41) hx hb dX6_busiest_11 (by decide) (by omega) (by omega) (fun c_11 => ?_) (fun c_11 => ?_)
      · refine lv_iload_n hx hb dX6_busiest_41 rfl (lv_at hl 1 rfl) ?_
        exact st_eq (show (nI (bus a_ i) : Int32) = nI (bus a_ (n - 1)) from by rw [show n - 1 = i by omega]) (fin _ _ dX6_busiest_42)
      · refine lv_aload_n hx hb dX6_busiest_14 rfl (lv_at hl 0 rfl) ?_
        refine x_get (C := RX6) (T := TX6) (N := 23) (ci := 6) 18 inT_X6 rfl (by decide) lf_X6_59 rfl X hP 0 rfl rfl dX6_busiest_15 ?_
        refine lv_iload_n hx hb dX6_busiest_18 rfl (lv_at hl 2 rfl) ?_
        refine n_iald X hP 2 rfl (by omega) (by decide) dX6_busiest_19 ?_
        refine lv_aload_n hx hb dX6_busiest_20 rfl (lv_at hl 0 rfl) ?_
        refine x_get (C := RX6) (T := TX6) (N := 23) (ci := 6) 18 inT_X6 rfl (by decide) lf_X6_59 rfl X hP 0 rfl rfl dX6_busiest_21 ?_
        refine lv_iload_n hx hb dX6_busiest_24 rfl (lv_at hl 1 rfl) ?_
        refine n_iald X hP 2 rfl (Nat.lt_of_le_of_lt (bus_le a_ i) (by omega)) (by decide) dX6_busiest_25 ?_
        refine lv_icmp_le (tgt := 33) hx hb dX6_busiest_26 (by decide) (fun c_26 => ?_) (fun c_26 => ?_)
        · refine lv_iload_n hx hb dX6_busiest_33 rfl (lv_at hl 1 rfl) ?_
          refine lv_istore_n (lv' := [(1, .int (nI (bus a_ i))), (0, .ref m0), (2, .int (nI (i + 1)))]) hx hb dX6_busiest_34 rfl hl (by decide) rfl (fun ls hl => ?_)
          refine lv_iinc (v := nI (i + 1 + 1)) (lv' := [(2, .int (nI (i + 1 + 1))), (1, .int (nI (bus a_ i))), (0, .ref m0)]) hx hb dX6_busiest_35 hl (k := 2) rfl (nI_1 _) (by decide) rfl (fun ls hl => ?_)
          refine lv_goto (tgt := 4) hx hb dX6_busiest_38 (by decide) ?_
          have hl : lv_has ls 3 [(2, .int (nI (i + 1 + 1))), (1, .int (nI (bus a_ (i + 1)))), (0, .ref m0)] := lv_rep hl (congrArg (fun z_ : Int32 => ([(2, .int (nI (i + 1 + 1))), (1, .int z_), (0, .ref m0)] : List (Nat × Value))) (show (nI (bus a_ i) : Int32) = nI (bus a_ (i + 1)) from by first | (rw [bus, if_pos c_26]; done) | rw [bus, if_neg c_26]))
          have hl : lv_has ls 3 [(2, .int (nI ((i + 1) + 1))), (1, .int (nI (bus a_ (i + 1)))), (0, .ref m0)] := lv_rep hl (congrArg (fun z_ : Int32 => ([(2, .int z_), (1, .int (nI (bus a_ (i + 1)))), (0, .ref m0)] : List (Nat × Value))) (show (nI (i + 1 + 1) : Int32) = nI ((i + 1) + 1) from rfl))
          exact ih4  (i + 1) (by omega) (by omega) _ (lv_sub hl [2, 1, 0] rfl)
        · refine lv_iload_n hx hb dX6_busiest_29 rfl (lv_at hl 2 rfl) ?_
          refine lv_goto (tgt := 34) hx hb dX6_busiest_30 (by decide) ?_
          refine lv_istore_n (lv' := [(1, .int (nI (i + 1))), (0, .ref m0), (2, .int (nI (i + 1)))]) hx hb dX6_busiest_34 rfl hl (by decide) rfl (fun ls hl => ?_)
          refine lv_iinc (v := nI (i + 1 + 1)) (lv' := [(2, .int (nI (i + 1 + 1))), (1, .int (nI (i + 1))), (0, .ref m0)]) hx hb dX6_busiest_35 hl (k := 2) rfl (nI_1 _) (by decide) rfl (fun ls hl => ?_)
          refine lv_goto (tgt := 4) hx hb dX6_busiest_38 (by decide) ?_
          have hl : lv_has ls 3 [(2, .int (nI (i + 1 + 1))), (1, .int (nI (bus a_ (i + 1)))), (0, .ref m0)] := lv_rep hl (congrArg (fun z_ : Int32 => ([(2, .int (nI (i + 1 + 1))), (1, .int z_), (0, .ref m0)] : List (Nat × Value))) (show (nI (i + 1) : Int32) = nI (bus a_ (i + 1)) from by first | (rw [bus, if_pos c_26]; done) | rw [bus, if_neg c_26]))
          have hl : lv_has ls 3 [(2, .int (nI ((i + 1) + 1))), (1, .int (nI (bus a_ (i + 1)))), (0, .ref m0)] := lv_rep hl (congrArg (fun z_ : Int32 => ([(2, .int z_), (1, .int (nI (bus a_ (i + 1)))), (0, .ref m0)] : List (Nat × Value))) (show (nI (i + 1 + 1) : Int32) = nI ((i + 1) + 1) from rfl))
          exact ih4  (i + 1) (by omega) (by omega) _ (lv_sub hl [2, 1, 0] rfl)
  have hl : lv_has ls 3 [(2, .int (nI 1)), (1, .int (nI (bus a_ 0))), (0, .ref m0)] := lv_rep hl (congrArg (fun z_ : Int32 => ([(2, .int (nI 1)), (1, .int z_), (0, .ref m0)] : List (Nat × Value))) (show (nI 0 : Int32) = nI (bus a_ 0) from rfl))
  have hl : lv_has ls 3 [(2, .int (nI (0 + 1))), (1, .int (nI (bus a_ 0))), (0, .ref m0)] := lv_rep hl (congrArg (fun z_ : Int32 => ([(2, .int z_), (1, .int (nI (bus a_ 0))), (0, .ref m0)] : List (Nat × Value))) (show (nI 1 : Int32) = nI (0 + 1) from rfl))
  exact LP4 ((n - 0) + 1) 0 (by omega) (Nat.lt_succ_self _) _ (lv_sub hl [2, 1, 0] rfl)

set_option maxHeartbeats 4000000 in
set_option maxRecDepth 100000 in
theorem c_X6_numbers (l : Launch) (G : va_G) (cI cZ : ClassId) (m0 : Nat) (cs : Nat) (cg : Nat) (ck : Nat) (c0 : Nat) (c1 : Nat) (c2 : Nat) (c3 : Nat) (c4 : Nat) (c5 : Nat) (cl : Nat) (cp : Nat) (cq : Nat) (cr : Nat) (cn : Nat) (cb : Nat) (cu : Nat) (cv : Nat) (ce : Nat) (rd : Nat) (lr : Nat) (tm : Int32) (lgs : Int32) (L : List (List Nat)) (T : Nat → Nat → Int32) (htb : LTm T L) (hL : L.length ≤ 144) : CR l G cI cZ yX6_numbers cX6_numbers 3 .int 0 0 [.ref m0] [(m0, .inr (6, [.ref cs, .ref cg, .ref ck, .ref c0, .ref c1, .ref c2, .ref c3, .ref c4, .ref c5, .int (nI L.length), .int (nI rd), .ref cl, .ref cp, .ref cq, .ref cr, .ref cn, .ref cb, .ref cu, .ref cv, .int tm, .int (nI lr), .int lgs, .ref ce])), (c4, .inl (cI, 144, .inl (T 4)))] (nI (sl L L.length)) := by
  refine CR.of (own := RX6) (by decide) rfl rfl (Nat.le_of_ble_eq_true rfl) ?_
  intro p e R s m args below meth c H Q X hR fin hP ls hl
  subst hR
  have hx := X.1
  have hb := X.2.1
  have hl : lv_has ls 3 [(0, .ref m0)] := hl
  refine lv_iconst (v := nI 0) hx hb dX6_numbers_0 (by decide) ?_
  refine lv_istore_n (lv' := [(1, .int (nI 0)), (0, .ref m0)]) hx hb dX6_numbers_1 rfl hl (by decide) rfl (fun ls hl => ?_)
  refine lv_iconst (v := nI 0) hx hb dX6_numbers_2 (by decide) ?_
  refine lv_istore_n (lv' := [(2, .int (nI 0)), (1, .int (nI 0)), (0, .ref m0)]) hx hb dX6_numbers_3 rfl hl (by decide) rfl (fun ls hl => ?_)
  have LP4 : ∀ (fu : Nat) (i : Nat), (i ≤ L.length) → (L.length - i) < fu → ∀ (ls : Array Slot), lv_has ls 3 [(0, .ref m0), (1, .int (nI (sl L i))), (2, .int (nI i))] → W p l e ({ frames := 0, cells := 0, slots := 0, locals := 0 } : Room) s m args below meth c H [] 0 0 Q (F0 m 4 ls []) := by
    intro fu
    induction fu with
    | zero =>
      intro i hi hfu
      exact absurd hfu (Nat.not_lt_zero _)
    | succ fu ih4 =>
      intro i hi hfu  ls hl
      refine lv_iload_n hx hb dX6_numbers_4 rfl (lv_at hl 2 rfl) ?_
      refine lv_aload_n hx hb dX6_numbers_5 rfl (lv_at hl 0 rfl) ?_
      refine x_get (C := RX6) (T := TX6) (N := 23) (ci := 6) 9 inT_X6 rfl (by decide) lf_X6_84 rfl X hP 0 rfl rfl dX6_numbers_6 ?_
      refine n_icmp_ge (tgt := 27) hx hb dX6_numbers_9 (by decide) (by omega) (by omega) (fun c_9 => ?_) (fun c_9 => ?_)
      · refine lv_iload_n hx hb dX6_numbers_27 rfl (lv_at hl 1 rfl) ?_
        exact st_eq (show (nI (sl L i) : Int32) = nI (sl L L.length) from by rw [show i = L.length by omega]) (fin _ _ dX6_numbers_28)
      · refine lv_iload_n hx hb dX6_numbers_12 rfl (lv_at hl 1 rfl) ?_
        refine lv_aload_n hx hb dX6_numbers_13 rfl (lv_at hl 0 rfl) ?_
        refine x_get (C := RX6) (T := TX6) (N := 23) (ci := 6) 7 inT_X6 rfl (by decide) lf_X6_32 rfl X hP 0 rfl rfl dX6_numbers_14 ?_
        refine lv_iload_n hx hb dX6_numbers_17 rfl (lv_at hl 2 rfl) ?_
        refine n_iald X hP 1 rfl (by omega) (by decide) dX6_numbers_18 ?_
        refine st_eq (show (T 4) i = nI (lt L i 4) from htb _ (by omega) 4 (by decide)) ?_
        refine n_add hx hb dX6_numbers_19  ?_
        refine lv_istore_n (lv' := [(1, .int (nI ((sl L i) + (lt L i 4)))), (0, .ref m0), (2, .int (nI i))]) hx hb dX6_numbers_20 rfl hl (by decide) rfl (fun ls hl => ?_)
        refine lv_iinc (v := nI (i + 1)) (lv' := [(2, .int (nI (i + 1))), (1, .int (nI ((sl L i) + (lt L i 4)))), (0, .ref m0)]) hx hb dX6_numbers_21 hl (k := 2) rfl (nI_1 _) (by decide) rfl (fun ls hl => ?_)
        refine lv_goto (tgt := 4) hx hb dX6_numbers_24 (by decide) ?_
        have hl : lv_has ls 3 [(2, .int (nI (i + 1))), (1, .int (nI (sl L (i + 1)))), (0, .ref m0)] := lv_rep hl (congrArg (fun z_ : Int32 => ([(2, .int (nI (i + 1))), (1, .int z_), (0, .ref m0)] : List (Nat × Value))) (show (nI ((sl L i) + (lt L i 4)) : Int32) = nI (sl L (i + 1)) from rfl))
        exact ih4  (i + 1) (by omega) (by omega) _ (lv_sub hl [2, 1, 0] rfl)
  have hl : lv_has ls 3 [(2, .int (nI 0)), (1, .int (nI (sl L 0))), (0, .ref m0)] := lv_rep hl (congrArg (fun z_ : Int32 => ([(2, .int (nI 0)), (1, .int z_), (0, .ref m0)] : List (Nat × Value))) (show (nI 0 : Int32) = nI (sl L 0) from rfl))
  exact LP4 ((L.length - 0) + 1) 0 (Nat.zero_le _) (Nat.lt_succ_self _) _ (lv_sub hl [2, 1, 0] rfl)

set_option maxHeartbeats 4000000 in
set_option maxRecDepth 100000 in
theorem c_X6_allMixed (l : Launch) (G : va_G) (cI cZ : ClassId) (m0 : Nat) (cs : Nat) (cg : Nat) (ck : Nat) (c0 : Nat) (c1 : Nat) (c2 : Nat) (c3 : Nat) (c4 : Nat) (c5 : Nat) (cl : Nat) (cp : Nat) (cq : Nat) (cr : Nat) (cn : Nat) (cb : Nat) (cu : Nat) (cv : Nat) (ce : Nat) (wl : Nat) (rd : Nat) (lr : Nat) (tm : Int32) (lgs : Int32) (n : Nat) (z : Nat) (op : Int32) (st : Int32) (ea : Int32) (g : Nat → Int32) (f : Nat → Int32) (q : Nat) (hn : 2 ≤ n) (hn9 : n ≤ 9) (hz1 : 1 ≤ z) (hz : z ≤ 12) (hq : q < 12) : CR l G cI cZ yX6_allMixed cX6_allMixed 4 .int 1 22 [.ref m0, .int (nI q)] [(m0, .inr (6, [.ref cs, .ref cg, .ref ck, .ref c0, .ref c1, .ref c2, .ref c3, .ref c4, .ref c5, .int (nI wl), .int (nI rd), .ref cl, .ref cp, .ref cq, .ref cr, .ref cn, .ref cb, .ref cu, .ref cv, .int tm, .int (nI lr), .int lgs, .ref ce])), (cs, .inl (cI, 194, .inl (mkS n z op st ea g f)))] (mbr op f q (n - 1)) := by
  refine CR.of (own := RX6) (by decide) rfl rfl (Nat.le_of_ble_eq_true rfl) ?_
  intro p e R s m args below meth c H Q X hR fin hP ls hl
  subst hR
  have hx := X.1
  have hb := X.2.1
  have hl : lv_has ls 4 [(0, .ref m0), (1, .int (nI q))] := hl
  refine lv_aload_n hx hb dX6_allMixed_0 rfl (lv_at hl 0 rfl) ?_
  refine x_get (C := RX6) (T := TX6) (N := 23) (ci := 6) 0 inT_X6 rfl (by decide) lf_X6_7 rfl X hP 0 rfl rfl dX6_allMixed_1 ?_
  refine lv_bipush (v := nI 86) hx hb dX6_allMixed_4 (by decide) ?_
  refine lv_iload_n hx hb dX6_allMixed_6 rfl (lv_at hl 1 rfl) ?_
  refine n_add hx hb dX6_allMixed_7  ?_
  refine n_iald X hP 1 rfl (by omega) (by decide) dX6_allMixed_8 ?_
  refine st_eq (show (mkS n z op st ea g f) (86 + q) = f q from mkS_f) ?_
  refine lv_istore_n (lv' := [(2, .int (f q)), (0, .ref m0), (1, .int (nI q))]) hx hb dX6_allMixed_9 rfl hl (by decide) rfl (fun ls hl => ?_)
  refine lv_iconst (v := nI 1) hx hb dX6_allMixed_10 (by decide) ?_
  refine lv_istore_n (lv' := [(3, .int (nI 1)), (2, .int (f q)), (0, .ref m0), (1, .int (nI q))]) hx hb dX6_allMixed_11 rfl hl (by decide) rfl (fun ls hl => ?_)
  have LP12 : ∀ (fu : Nat) (i : Nat), (i + 1 ≤ n) → (n - i) < fu → ∀ (ls : Array Slot), lv_has ls 4 [(0, .ref m0), (1, .int (nI q)), (2, .int (mbr op f q i)), (3, .int (nI (i + 1)))] → W p l e ({ frames := 1, cells := 0, slots := 0, locals := 22 } : Room) s m args below meth c H [] 0 0 Q (F0 m 12 ls []) := by
    intro fu
    induction fu with
    | zero =>
      intro i hi hfu
      exact absurd hfu (Nat.not_lt_zero _)
    | succ fu ih12 =>
      intro i hi hfu  ls hl
      refine lv_iload_n hx hb dX6_allMixed_12 rfl (lv_at hl 3 rfl) ?_
      refine lv_aload_n hx hb dX6_allMixed_13 rfl (lv_at hl 0 rfl) ?_
      refine x_get (C := RX6) (T := TX6) (N := 23) (ci := 6) 0 inT_X6 rfl (by decide) lf_X6_7 rfl X hP 0 rfl rfl dX6_allMixed_14 ?_
      refine lv_iconst (v := nI 0) hx hb dX6_allMixed_17 (by decide) ?_
      refine n_iald X hP 1 rfl (by omega) (by decide) dX6_allMixed_18 ?_
      refine st_eq (show (mkS n z op st ea g f) 0 = nI n from rfl) ?_
      refine n_icmp_ge (tgt := 47) hx hb dX6_allMixed_19 (by decide) (by omega) (by omega) (fun c_19 => ?_) (fun c_19 => ?_)
      · refine lv_iload_n hx hb dX6_allMixed_47 rfl (lv_at hl 2 rfl) ?_
        exact st_eq (show (mbr op f q i : Int32) = mbr op f q (n - 1) from by rw [show n - 1 = i by omega]) (fin _ _ dX6_allMixed_48)
      · refine lv_aload_n hx hb dX6_allMixed_22 rfl (lv_at hl 0 rfl) ?_
        refine lv_iload_n hx hb dX6_allMixed_23 rfl (lv_at hl 2 rfl) ?_
        refine lv_aload_n hx hb dX6_allMixed_24 rfl (lv_at hl 0 rfl) ?_
        refine x_get (C := RX6) (T := TX6) (N := 23) (ci := 6) 0 inT_X6 rfl (by decide) lf_X6_7 rfl X hP 0 rfl rfl dX6_allMixed_25 ?_
        refine lv_bipush (v := nI 86) hx hb dX6_allMixed_28 (by decide) ?_
        refine lv_iload_n hx hb dX6_allMixed_30 rfl (lv_at hl 3 rfl) ?_
        refine lv_iload_n hx hb dX6_allMixed_31 rfl (lv_at hl 1 rfl) ?_
        refine cR_S (As := [.int (nI (i + 1)), .int (nI q)]) (rest := [.int (nI 86), .ref cs, .int (mbr op f q i), .ref m0]) X (c_X6_cell l G cI cZ (i + 1) q ) lk_X6_80 (hP.sub (ws' := []) [] rfl) hl.1 rfl rfl (Nat.le_of_ble_eq_true rfl) ⟨Nat.le_of_ble_eq_true rfl, Nat.le_of_ble_eq_true rfl⟩ ⟨Nat.le_of_ble_eq_true rfl, Nat.le_of_ble_eq_true rfl⟩ dX6_allMixed_32 ?_
        refine n_add hx hb dX6_allMixed_35  ?_
        refine n_iald X hP 1 rfl (by omega) (by decide) dX6_allMixed_36 ?_
        refine st_eq (show (mkS n z op st ea g f) (86 + (12 * (i + 1) + q)) = f (12 * (i + 1) + q) from mkS_f) ?_
        refine cR_V (As := [.int (mbr op f q i), .int (f (12 * (i + 1) + q))]) (rest := []) X (c_X6_mixed l G cI cZ m0 cs cg ck c0 c1 c2 c3 c4 c5 cl cp cq cr cn cb cu cv ce wl rd lr tm lgs n z op st ea g f (mbr op f q i) (f (12 * (i + 1) + q)) ) lk_X6_125 (hP.sub (ws' := [(m0, .inr (6, [.ref cs, .ref cg, .ref ck, .ref c0, .ref c1, .ref c2, .ref c3, .ref c4, .ref c5, .int (nI wl), .int (nI rd), .ref cl, .ref cp, .ref cq, .ref cr, .ref cn, .ref cb, .ref cu, .ref cv, .int tm, .int (nI lr), .int lgs, .ref ce])), (cs, .inl (cI, 194, .inl (mkS n z op st ea g f)))]) [0, 1] rfl) rfl rfl hl.1 rfl rfl (Nat.le_of_ble_eq_true rfl) ⟨Nat.le_of_ble_eq_true rfl, Nat.le_of_ble_eq_true rfl⟩ ⟨Nat.le_of_ble_eq_true rfl, Nat.le_of_ble_eq_true rfl⟩ dX6_allMixed_37 ?_
        refine lv_istore_n (lv' := [(2, .int (mix op (mbr op f q i) (f (12 * (i + 1) + q)))), (0, .ref m0), (1, .int (nI q)), (3, .int (nI (i + 1)))]) hx hb dX6_allMixed_40 rfl hl (by decide) rfl (fun ls hl => ?_)
        refine lv_iinc (v := nI (i + 1 + 1)) (lv' := [(3, .int (nI (i + 1 + 1))), (2, .int (mix op (mbr op f q i) (f (12 * (i + 1) + q)))), (0, .ref m0), (1, .int (nI q))]) hx hb dX6_allMixed_41 hl (k := 3) rfl (nI_1 _) (by decide) rfl (fun ls hl => ?_)
        refine lv_goto (tgt := 12) hx hb dX6_allMixed_44 (by decide) ?_
        have hl : lv_has ls 4 [(3, .int (nI (i + 1 + 1))), (2, .int (mbr op f q (i + 1))), (0, .ref m0), (1, .int (nI q))] := lv_rep hl (congrArg (fun z_ : Int32 => ([(3, .int (nI (i + 1 + 1))), (2, .int z_), (0, .ref m0), (1, .int (nI q))] : List (Nat × Value))) (show (mix op (mbr op f q i) (f (12 * (i + 1) + q)) : Int32) = mbr op f q (i + 1) from rfl))
        have hl : lv_has ls 4 [(3, .int (nI ((i + 1) + 1))), (2, .int (mbr op f q (i + 1))), (0, .ref m0), (1, .int (nI q))] := lv_rep hl (congrArg (fun z_ : Int32 => ([(3, .int z_), (2, .int (mbr op f q (i + 1))), (0, .ref m0), (1, .int (nI q))] : List (Nat × Value))) (show (nI (i + 1 + 1) : Int32) = nI ((i + 1) + 1) from rfl))
        exact ih12  (i + 1) (by omega) (by omega) _ (lv_sub hl [2, 3, 1, 0] rfl)
  have hl : lv_has ls 4 [(3, .int (nI 1)), (2, .int (mbr op f q 0)), (0, .ref m0), (1, .int (nI q))] := lv_rep hl (congrArg (fun z_ : Int32 => ([(3, .int (nI 1)), (2, .int z_), (0, .ref m0), (1, .int (nI q))] : List (Nat × Value))) (show (f q : Int32) = mbr op f q 0 from rfl))
  have hl : lv_has ls 4 [(3, .int (nI (0 + 1))), (2, .int (mbr op f q 0)), (0, .ref m0), (1, .int (nI q))] := lv_rep hl (congrArg (fun z_ : Int32 => ([(3, .int z_), (2, .int (mbr op f q 0)), (0, .ref m0), (1, .int (nI q))] : List (Nat × Value))) (show (nI 1 : Int32) = nI (0 + 1) from rfl))
  exact LP12 ((n - 0) + 1) 0 (by omega) (Nat.lt_succ_self _) _ (lv_sub hl [2, 3, 1, 0] rfl)

set_option maxHeartbeats 4000000 in
set_option maxRecDepth 100000 in
theorem c_X6_otherNumbers (l : Launch) (G : va_G) (cI cZ : ClassId) (m0 : Nat) (cs : Nat) (cg : Nat) (ck : Nat) (c0 : Nat) (c1 : Nat) (c2 : Nat) (c3 : Nat) (c4 : Nat) (c5 : Nat) (cl : Nat) (cp : Nat) (cq : Nat) (cr : Nat) (cn : Nat) (cb : Nat) (cu : Nat) (cv : Nat) (ce : Nat) (wl : Nat) (rd : Nat) (lr : Nat) (tm : Int32) (lgs : Int32) (n : Nat) (z : Nat) (op : Int32) (st : Int32) (ea : Int32) (g : Nat → Int32) (f : Nat → Int32) (nw : Nat → Int32) (en : Nat → Int32) (a : Nat) (hn : 2 ≤ n) (hn9 : n ≤ 9) (hz1 : 1 ≤ z) (hz : z ≤ 12) (ha : a < 9) : CR l G cI cZ yX6_otherNumbers cX6_otherNumbers 4 .int 1 21 [.ref m0, .int (nI a)] [(m0, .inr (6, [.ref cs, .ref cg, .ref ck, .ref c0, .ref c1, .ref c2, .ref c3, .ref c4, .ref c5, .int (nI wl), .int (nI rd), .ref cl, .ref cp, .ref cq, .ref cr, .ref cn, .ref cb, .ref cu, .ref cv, .int tm, .int (nI lr), .int lgs, .ref ce])), (cs, .inl (cI, 194, .inl (mkS n z op st ea g f))), (cn, .inl (cI, 108, .inl nw)), (ce, .inl (cI, 108, .inl en))] (nI (dfc nw en a a z)) := by
  refine CR.of (own := RX6) (by decide) rfl rfl (Nat.le_of_ble_eq_true rfl) ?_
  intro p e R s m args below meth c H Q X hR fin hP ls hl
  subst hR
  have hx := X.1
  have hb := X.2.1
  have hl : lv_has ls 4 [(0, .ref m0), (1, .int (nI a))] := hl
  refine lv_iconst (v := nI 0) hx hb dX6_otherNumbers_0 (by decide) ?_
  refine lv_istore_n (lv' := [(2, .int (nI 0)), (0, .ref m0), (1, .int (nI a))]) hx hb dX6_otherNumbers_1 rfl hl (by decide) rfl (fun ls hl => ?_)
  refine lv_iconst (v := nI 0) hx hb dX6_otherNumbers_2 (by decide) ?_
  refine lv_istore_n (lv' := [(3, .int (nI 0)), (2, .int (nI 0)), (0, .ref m0), (1, .int (nI a))]) hx hb dX6_otherNumbers_3 rfl hl (by decide) rfl (fun ls hl => ?_)
  have LP4 : ∀ (fu : Nat) (i : Nat), (i ≤ z) → (z - i) < fu → ∀ (ls : Array Slot), lv_has ls 4 [(0, .ref m0), (1, .int (nI a)), (2, .int (nI (dfc nw en a a i))), (3, .int (nI i))] → W p l e ({ frames := 1, cells := 0, slots := 0, locals := 21 } : Room) s m args below meth c H [] 0 0 Q (F0 m 4 ls []) := by
    intro fu
    induction fu with
    | zero =>
      intro i hi hfu
      exact absurd hfu (Nat.not_lt_zero _)
    | succ fu ih4 =>
      intro i hi hfu  ls hl
      refine lv_iload_n hx hb dX6_otherNumbers_4 rfl (lv_at hl 3 rfl) ?_
      refine lv_aload_n hx hb dX6_otherNumbers_5 rfl (lv_at hl 0 rfl) ?_
      refine x_get (C := RX6) (T := TX6) (N := 23) (ci := 6) 0 inT_X6 rfl (by decide) lf_X6_7 rfl X hP 0 rfl rfl dX6_otherNumbers_6 ?_
      refine lv_iconst (v := nI 1) hx hb dX6_otherNumbers_9 (by decide) ?_
      refine n_iald X hP 1 rfl (by omega) (by decide) dX6_otherNumbers_10 ?_
      refine st_eq (show (mkS n z op st ea g f) 1 = nI z from rfl) ?_
      refine n_icmp_ge (tgt := 51) hx hb dX6_otherNumbers_11 (by decide) (by omega) (by omega) (fun c_11 => ?_) (fun c_11 => ?_)
      · refine lv_iload_n hx hb dX6_otherNumbers_51 rfl (lv_at hl 2 rfl) ?_
        exact st_eq (show (nI (dfc nw en a a i) : Int32) = nI (dfc nw en a a z) from by rw [show i = z by omega]) (fin _ _ dX6_otherNumbers_52)
      · refine lv_iload_n hx hb dX6_otherNumbers_14 rfl (lv_at hl 2 rfl) ?_
        refine lv_aload_n hx hb dX6_otherNumbers_15 rfl (lv_at hl 0 rfl) ?_
        refine x_get (C := RX6) (T := TX6) (N := 23) (ci := 6) 15 inT_X6 rfl (by decide) lf_X6_50 rfl X hP 0 rfl rfl dX6_otherNumbers_16 ?_
        refine lv_iload_n hx hb dX6_otherNumbers_19 rfl (lv_at hl 1 rfl) ?_
        refine lv_iload_n hx hb dX6_otherNumbers_20 rfl (lv_at hl 3 rfl) ?_
        refine cR_S (As := [.int (nI a), .int (nI i)]) (rest := [.ref cn, .int (nI (dfc nw en a a i))]) X (c_X6_cell l G cI cZ a i ) lk_X6_80 (hP.sub (ws' := []) [] rfl) hl.1 rfl rfl (Nat.le_of_ble_eq_true rfl) ⟨Nat.le_of_ble_eq_true rfl, Nat.le_of_ble_eq_true rfl⟩ ⟨Nat.le_of_ble_eq_true rfl, Nat.le_of_ble_eq_true rfl⟩ dX6_otherNumbers_21 ?_
        refine n_iald X hP 2 rfl (by omega) (by decide) dX6_otherNumbers_24 ?_
        refine lv_aload_n hx hb dX6_otherNumbers_25 rfl (lv_at hl 0 rfl) ?_
        refine x_get (C := RX6) (T := TX6) (N := 23) (ci := 6) 22 inT_X6 rfl (by decide) lf_X6_62 rfl X hP 0 rfl rfl dX6_otherNumbers_26 ?_
        refine lv_iload_n hx hb dX6_otherNumbers_29 rfl (lv_at hl 1 rfl) ?_
        refine lv_iload_n hx hb dX6_otherNumbers_30 rfl (lv_at hl 3 rfl) ?_
        refine cR_S (As := [.int (nI a), .int (nI i)]) (rest := [.ref ce, .int (nw (12 * a + i)), .int (nI (dfc nw en a a i))]) X (c_X6_cell l G cI cZ a i ) lk_X6_80 (hP.sub (ws' := []) [] rfl) hl.1 rfl rfl (Nat.le_of_ble_eq_true rfl) ⟨Nat.le_of_ble_eq_true rfl, Nat.le_of_ble_eq_true rfl⟩ ⟨Nat.le_of_ble_eq_true rfl, Nat.le_of_ble_eq_true rfl⟩ dX6_otherNumbers_31 ?_
        refine n_iald X hP 3 rfl (by omega) (by decide) dX6_otherNumbers_34 ?_
        refine lv_icmp_eq (tgt := 42) hx hb dX6_otherNumbers_35 (by decide) (fun c_35 => ?_) (fun c_35 => ?_)
        · refine lv_iconst (v := nI 0) hx hb dX6_otherNumbers_42 (by decide) ?_
          refine n_add hx hb dX6_otherNumbers_43  ?_
          refine lv_istore_n (lv' := [(2, .int (nI ((dfc nw en a a i) + 0))), (0, .ref m0), (1, .int (nI a)), (3, .int (nI i))]) hx hb dX6_otherNumbers_44 rfl hl (by decide) rfl (fun ls hl => ?_)
          refine lv_iinc (v := nI (i + 1)) (lv' := [(3, .int (nI (i + 1))), (2, .int (nI ((dfc nw en a a i) + 0))), (0, .ref m0), (1, .int (nI a))]) hx hb dX6_otherNumbers_45 hl (k := 3) rfl (nI_1 _) (by decide) rfl (fun ls hl => ?_)
          refine lv_goto (tgt := 4) hx hb dX6_otherNumbers_48 (by decide) ?_
          have hl : lv_has ls 4 [(3, .int (nI (i + 1))), (2, .int (nI (dfc nw en a a (i + 1)))), (0, .ref m0), (1, .int (nI a))] := lv_rep hl (congrArg (fun z_ : Int32 => ([(3, .int (nI (i + 1))), (2, .int z_), (0, .ref m0), (1, .int (nI a))] : List (Nat × Value))) (show (nI ((dfc nw en a a i) + 0) : Int32) = nI (dfc nw en a a (i + 1)) from by first | (rw [dfc, if_pos c_35]; done) | (rw [dfc, if_neg c_35]; done)))
          exact ih4  (i + 1) (by omega) (by omega) _ (lv_sub hl [2, 3, 1, 0] rfl)
        · refine lv_iconst (v := nI 1) hx hb dX6_otherNumbers_38 (by decide) ?_
          refine lv_goto (tgt := 43) hx hb dX6_otherNumbers_39 (by decide) ?_
          refine n_add hx hb dX6_otherNumbers_43  ?_
          refine lv_istore_n (lv' := [(2, .int (nI ((dfc nw en a a i) + 1))), (0, .ref m0), (1, .int (nI a)), (3, .int (nI i))]) hx hb dX6_otherNumbers_44 rfl hl (by decide) rfl (fun ls hl => ?_)
          refine lv_iinc (v := nI (i + 1)) (lv' := [(3, .int (nI (i + 1))), (2, .int (nI ((dfc nw en a a i) + 1))), (0, .ref m0), (1, .int (nI a))]) hx hb dX6_otherNumbers_45 hl (k := 3) rfl (nI_1 _) (by decide) rfl (fun ls hl => ?_)
          refine lv_goto (tgt := 4) hx hb dX6_otherNumbers_48 (by decide) ?_
          have hl : lv_has ls 4 [(3, .int (nI (i + 1))), (2, .int (nI (dfc nw en a a (i + 1)))), (0, .ref m0), (1, .int (nI a))] := lv_rep hl (congrArg (fun z_ : Int32 => ([(3, .int (nI (i + 1))), (2, .int z_), (0, .ref m0), (1, .int (nI a))] : List (Nat × Value))) (show (nI ((dfc nw en a a i) + 1) : Int32) = nI (dfc nw en a a (i + 1)) from by first | (rw [dfc, if_pos c_35]; done) | (rw [dfc, if_neg c_35]; done)))
          exact ih4  (i + 1) (by omega) (by omega) _ (lv_sub hl [2, 3, 1, 0] rfl)
  have hl : lv_has ls 4 [(3, .int (nI 0)), (2, .int (nI (dfc nw en a a 0))), (0, .ref m0), (1, .int (nI a))] := lv_rep hl (congrArg (fun z_ : Int32 => ([(3, .int (nI 0)), (2, .int z_), (0, .ref m0), (1, .int (nI a))] : List (Nat × Value))) (show (nI 0 : Int32) = nI (dfc nw en a a 0) from rfl))
  exact LP4 ((z - 0) + 1) 0 (Nat.zero_le _) (Nat.lt_succ_self _) _ (lv_sub hl [2, 3, 1, 0] rfl)

set_option maxHeartbeats 4000000 in
set_option maxRecDepth 100000 in
theorem c_X6_harm (l : Launch) (G : va_G) (cI cZ : ClassId) (m0 : Nat) (cs : Nat) (cg : Nat) (ck : Nat) (c0 : Nat) (c1 : Nat) (c2 : Nat) (c3 : Nat) (c4 : Nat) (c5 : Nat) (cl : Nat) (cp : Nat) (cq : Nat) (cr : Nat) (cn : Nat) (cb : Nat) (cu : Nat) (cv : Nat) (ce : Nat) (wl : Nat) (rd : Nat) (lr : Nat) (tm : Int32) (lgs : Int32) (n : Nat) (z : Nat) (op : Int32) (st : Int32) (ea : Int32) (g : Nat → Int32) (f : Nat → Int32) (nw : Nat → Int32) (en : Nat → Int32) (hn : 2 ≤ n) (hn9 : n ≤ 9) (hz1 : 1 ≤ z) (hz : z ≤ 12) : CR l G cI cZ yX6_harm cX6_harm 3 .int 2 44 [.ref m0] [(m0, .inr (6, [.ref cs, .ref cg, .ref ck, .ref c0, .ref c1, .ref c2, .ref c3, .ref c4, .ref c5, .int (nI wl), .int (nI rd), .ref cl, .ref cp, .ref cq, .ref cr, .ref cn, .ref cb, .ref cu, .ref cv, .int tm, .int (nI lr), .int lgs, .ref ce])), (cs, .inl (cI, 194, .inl (mkS n z op st ea g f))), (cn, .inl (cI, 108, .inl nw)), (ce, .inl (cI, 108, .inl en))] (nI (ntd nw en z n)) := by
  refine CR.of (own := RX6) (by decide) rfl rfl (Nat.le_of_ble_eq_true rfl) ?_
  intro p e R s m args below meth c H Q X hR fin hP ls hl
  subst hR
  have hx := X.1
  have hb := X.2.1
  have hl : lv_has ls 3 [(0, .ref m0)] := hl
  refine lv_iconst (v := nI 0) hx hb dX6_harm_0 (by decide) ?_
  refine lv_istore_n (lv' := [(1, .int (nI 0)), (0, .ref m0)]) hx hb dX6_harm_1 rfl hl (by decide) rfl (fun ls hl => ?_)
  refine lv_iconst (v := nI 0) hx hb dX6_harm_2 (by decide) ?_
  refine lv_istore_n (lv' := [(2, .int (nI 0)), (1, .int (nI 0)), (0, .ref m0)]) hx hb dX6_harm_3 rfl hl (by decide) rfl (fun ls hl => ?_)
  have LP4 : ∀ (fu : Nat) (i : Nat), (i ≤ n) → (n - i) < fu → ∀ (ls : Array Slot), lv_has ls 3 [(0, .ref m0), (1, .int (nI (ntd nw en z i))), (2, .int (nI i))] → W p l e ({ frames := 2, cells := 0, slots := 0, locals := 44 } : Room) s m args below meth c H [] 0 0 Q (F0 m 4 ls []) := by
    intro fu
    induction fu with
    | zero =>
      intro i hi hfu
      exact absurd hfu (Nat.not_lt_zero _)
    | succ fu ih4 =>
      intro i hi hfu  ls hl
      refine lv_iload_n hx hb dX6_harm_4 rfl (lv_at hl 2 rfl) ?_
      refine lv_aload_n hx hb dX6_harm_5 rfl (lv_at hl 0 rfl) ?_
      refine x_get (C := RX6) (T := TX6) (N := 23) (ci := 6) 0 inT_X6 rfl (by decide) lf_X6_7 rfl X hP 0 rfl rfl dX6_harm_6 ?_
      refine lv_iconst (v := nI 0) hx hb dX6_harm_9 (by decide) ?_
      refine n_iald X hP 1 rfl (by omega) (by decide) dX6_harm_10 ?_
      refine st_eq (show (mkS n z op st ea g f) 0 = nI n from rfl) ?_
      refine n_icmp_ge (tgt := 28) hx hb dX6_harm_11 (by decide) (by omega) (by omega) (fun c_11 => ?_) (fun c_11 => ?_)
      · refine lv_iload_n hx hb dX6_harm_28 rfl (lv_at hl 1 rfl) ?_
        exact st_eq (show (nI (ntd nw en z i) : Int32) = nI (ntd nw en z n) from by rw [show i = n by omega]) (fin _ _ dX6_harm_29)
      · refine lv_iload_n hx hb dX6_harm_14 rfl (lv_at hl 1 rfl) ?_
        refine lv_aload_n hx hb dX6_harm_15 rfl (lv_at hl 0 rfl) ?_
        refine lv_iload_n hx hb dX6_harm_16 rfl (lv_at hl 2 rfl) ?_
        refine cR_V (As := [.int (nI i)]) (rest := [.int (nI (ntd nw en z i))]) X (c_X6_otherNumbers l G cI cZ m0 cs cg ck c0 c1 c2 c3 c4 c5 cl cp cq cr cn cb cu cv ce wl rd lr tm lgs n z op st ea g f nw en i (by first | assumption | omega) (by first | assumption | omega) (by first | assumption | omega) (by first | assumption | omega) (by first | assumption | omega)) lk_X6_180 (hP.sub (ws' := [(m0, .inr (6, [.ref cs, .ref cg, .ref ck, .ref c0, .ref c1, .ref c2, .ref c3, .ref c4, .ref c5, .int (nI wl), .int (nI rd), .ref cl, .ref cp, .ref cq, .ref cr, .ref cn, .ref cb, .ref cu, .ref cv, .int tm, .int (nI lr), .int lgs, .ref ce])), (cs, .inl (cI, 194, .inl (mkS n z op st ea g f))), (cn, .inl (cI, 108, .inl nw)), (ce, .inl (cI, 108, .inl en))]) [0, 1, 2, 3] rfl) rfl rfl hl.1 rfl rfl (Nat.le_of_ble_eq_true rfl) ⟨Nat.le_of_ble_eq_true rfl, Nat.le_of_ble_eq_true rfl⟩ ⟨Nat.le_of_ble_eq_true rfl, Nat.le_of_ble_eq_true rfl⟩ dX6_harm_17 ?_
        refine n_add hx hb dX6_harm_20  ?_
        refine lv_istore_n (lv' := [(1, .int (nI ((ntd nw en z i) + (dfc nw en i i z)))), (0, .ref m0), (2, .int (nI i))]) hx hb dX6_harm_21 rfl hl (by decide) rfl (fun ls hl => ?_)
        refine lv_iinc (v := nI (i + 1)) (lv' := [(2, .int (nI (i + 1))), (1, .int (nI ((ntd nw en z i) + (dfc nw en i i z)))), (0, .ref m0)]) hx hb dX6_harm_22 hl (k := 2) rfl (nI_1 _) (by decide) rfl (fun ls hl => ?_)
        refine lv_goto (tgt := 4) hx hb dX6_harm_25 (by decide) ?_
        have hl : lv_has ls 3 [(2, .int (nI (i + 1))), (1, .int (nI (ntd nw en z (i + 1)))), (0, .ref m0)] := lv_rep hl (congrArg (fun z_ : Int32 => ([(2, .int (nI (i + 1))), (1, .int z_), (0, .ref m0)] : List (Nat × Value))) (show (nI ((ntd nw en z i) + (dfc nw en i i z)) : Int32) = nI (ntd nw en z (i + 1)) from rfl))
        exact ih4  (i + 1) (by omega) (by omega) _ (lv_sub hl [2, 1, 0] rfl)
  have hl : lv_has ls 3 [(2, .int (nI 0)), (1, .int (nI (ntd nw en z 0))), (0, .ref m0)] := lv_rep hl (congrArg (fun z_ : Int32 => ([(2, .int (nI 0)), (1, .int z_), (0, .ref m0)] : List (Nat × Value))) (show (nI 0 : Int32) = nI (ntd nw en z 0) from rfl))
  exact LP4 ((n - 0) + 1) 0 (Nat.zero_le _) (Nat.lt_succ_self _) _ (lv_sub hl [2, 1, 0] rfl)

set_option maxHeartbeats 4000000 in
set_option maxRecDepth 100000 in
theorem c_X6_harmed (l : Launch) (G : va_G) (cI cZ : ClassId) (m0 : Nat) (cs : Nat) (cg : Nat) (ck : Nat) (c0 : Nat) (c1 : Nat) (c2 : Nat) (c3 : Nat) (c4 : Nat) (c5 : Nat) (cl : Nat) (cp : Nat) (cq : Nat) (cr : Nat) (cn : Nat) (cb : Nat) (cu : Nat) (cv : Nat) (ce : Nat) (wl : Nat) (rd : Nat) (lr : Nat) (tm : Int32) (lgs : Int32) (n : Nat) (z : Nat) (op : Int32) (st : Int32) (ea : Int32) (g : Nat → Int32) (f : Nat → Int32) (nw : Nat → Int32) (en : Nat → Int32) (hn : 2 ≤ n) (hn9 : n ≤ 9) (hz1 : 1 ≤ z) (hz : z ≤ 12) : CR l G cI cZ yX6_harmed cX6_harmed 3 .int 2 44 [.ref m0] [(m0, .inr (6, [.ref cs, .ref cg, .ref ck, .ref c0, .ref c1, .ref c2, .ref c3, .ref c4, .ref c5, .int (nI wl), .int (nI rd), .ref cl, .ref cp, .ref cq, .ref cr, .ref cn, .ref cb, .ref cu, .ref cv, .int tm, .int (nI lr), .int lgs, .ref ce])), (cs, .inl (cI, 194, .inl (mkS n z op st ea g f))), (cn, .inl (cI, 108, .inl nw)), (ce, .inl (cI, 108, .inl en))] (mtd nw en z n) := by
  refine CR.of (own := RX6) (by decide) rfl rfl (Nat.le_of_ble_eq_true rfl) ?_
  intro p e R s m args below meth c H Q X hR fin hP ls hl
  subst hR
  have hx := X.1
  have hb := X.2.1
  have hl : lv_has ls 3 [(0, .ref m0)] := hl
  refine lv_iconst (v := nI 0) hx hb dX6_harmed_0 (by decide) ?_
  refine lv_istore_n (lv' := [(1, .int (nI 0)), (0, .ref m0)]) hx hb dX6_harmed_1 rfl hl (by decide) rfl (fun ls hl => ?_)
  refine lv_iconst (v := nI 0) hx hb dX6_harmed_2 (by decide) ?_
  refine lv_istore_n (lv' := [(2, .int (nI 0)), (1, .int (nI 0)), (0, .ref m0)]) hx hb dX6_harmed_3 rfl hl (by decide) rfl (fun ls hl => ?_)
  have LP4 : ∀ (fu : Nat) (i : Nat), (i ≤ n) → (n - i) < fu → ∀ (ls : Array Slot), lv_has ls 3 [(0, .ref m0), (1, .int (mtd nw en z i)), (2, .int (nI i))] → W p l e ({ frames := 2, cells := 0, slots := 0, locals := 44 } : Room) s m args below meth c H [] 0 0 Q (F0 m 4 ls []) := by
    intro fu
    induction fu with
    | zero =>
      intro i hi hfu
      exact absurd hfu (Nat.not_lt_zero _)
    | succ fu ih4 =>
      intro i hi hfu  ls hl
      refine lv_iload_n hx hb dX6_harmed_4 rfl (lv_at hl 2 rfl) ?_
      refine lv_aload_n hx hb dX6_harmed_5 rfl (lv_at hl 0 rfl) ?_
      refine x_get (C := RX6) (T := TX6) (N := 23) (ci := 6) 0 inT_X6 rfl (by decide) lf_X6_7 rfl X hP 0 rfl rfl dX6_harmed_6 ?_
      refine lv_iconst (v := nI 0) hx hb dX6_harmed_9 (by decide) ?_
      refine n_iald X hP 1 rfl (by omega) (by decide) dX6_harmed_10 ?_
      refine st_eq (show (mkS n z op st ea g f) 0 = nI n from rfl) ?_
      refine n_icmp_ge (tgt := 38) hx hb dX6_harmed_11 (by decide) (by omega) (by omega) (fun c_11 => ?_) (fun c_11 => ?_)
      · refine lv_iload_n hx hb dX6_harmed_38 rfl (lv_at hl 1 rfl) ?_
        exact st_eq (show (mtd nw en z i : Int32) = mtd nw en z n from by rw [show i = n by omega]) (fin _ _ dX6_harmed_39)
      · refine lv_iload_n hx hb dX6_harmed_14 rfl (lv_at hl 1 rfl) ?_
        refine lv_aload_n hx hb dX6_harmed_15 rfl (lv_at hl 0 rfl) ?_
        refine lv_iload_n hx hb dX6_harmed_16 rfl (lv_at hl 2 rfl) ?_
        refine cR_V (As := [.int (nI i)]) (rest := [.int (mtd nw en z i)]) X (c_X6_otherNumbers l G cI cZ m0 cs cg ck c0 c1 c2 c3 c4 c5 cl cp cq cr cn cb cu cv ce wl rd lr tm lgs n z op st ea g f nw en i (by first | assumption | omega) (by first | assumption | omega) (by first | assumption | omega) (by first | assumption | omega) (by first | assumption | omega)) lk_X6_180 (hP.sub (ws' := [(m0, .inr (6, [.ref cs, .ref cg, .ref ck, .ref c0, .ref c1, .ref c2, .ref c3, .ref c4, .ref c5, .int (nI wl), .int (nI rd), .ref cl, .ref cp, .ref cq, .ref cr, .ref cn, .ref cb, .ref cu, .ref cv, .int tm, .int (nI lr), .int lgs, .ref ce])), (cs, .inl (cI, 194, .inl (mkS n z op st ea g f))), (cn, .inl (cI, 108, .inl nw)), (ce, .inl (cI, 108, .inl en))]) [0, 1, 2, 3] rfl) rfl rfl hl.1 rfl rfl (Nat.le_of_ble_eq_true rfl) ⟨Nat.le_of_ble_eq_true rfl, Nat.le_of_ble_eq_true rfl⟩ ⟨Nat.le_of_ble_eq_true rfl, Nat.le_of_ble_eq_true rfl⟩ dX6_harmed_17 ?_
        refine n_if_le (tgt := 29) hx hb dX6_harmed_20 (by decide) (Nat.lt_of_le_of_lt (dfc_le _ _ _ _ _) (by omega)) (fun c_20 => ?_) (fun c_20 => ?_)
        · refine lv_iconst (v := nI 0) hx hb dX6_harmed_29 (by decide) ?_
          refine lv_ior hx hb dX6_harmed_30 ?_
          refine lv_istore_n (lv' := [(1, .int ((mtd nw en z i) ||| (nI 0))), (0, .ref m0), (2, .int (nI i))]) hx hb dX6_harmed_31 rfl hl (by decide) rfl (fun ls hl => ?_)
          refine lv_iinc (v := nI (i + 1)) (lv' := [(2, .int (nI (i + 1))), (1, .int ((mtd nw en z i) ||| (nI 0))), (0, .ref m0)]) hx hb dX6_harmed_32 hl (k := 2) rfl (nI_1 _) (by decide) rfl (fun ls hl => ?_)
          refine lv_goto (tgt := 4) hx hb dX6_harmed_35 (by decide) ?_
          have hl : lv_has ls 3 [(2, .int (nI (i + 1))), (1, .int (mtd nw en z (i + 1))), (0, .ref m0)] := lv_rep hl (congrArg (fun z_ : Int32 => ([(2, .int (nI (i + 1))), (1, .int z_), (0, .ref m0)] : List (Nat × Value))) (show ((mtd nw en z i) ||| (nI 0) : Int32) = mtd nw en z (i + 1) from by first | (rw [mtd, if_pos c_20]; done) | (rw [mtd, if_neg (by omega), or0])))
          exact ih4  (i + 1) (by omega) (by omega) _ (lv_sub hl [2, 1, 0] rfl)
        · refine lv_iconst (v := nI 1) hx hb dX6_harmed_23 (by decide) ?_
          refine lv_iload_n hx hb dX6_harmed_24 rfl (lv_at hl 2 rfl) ?_
          refine lv_ishl hx hb dX6_harmed_25 ?_
          refine lv_goto (tgt := 30) hx hb dX6_harmed_26 (by decide) ?_
          refine lv_ior hx hb dX6_harmed_30 ?_
          refine lv_istore_n (lv' := [(1, .int ((mtd nw en z i) ||| ((nI 1) <<< ((nI i) &&& 31)))), (0, .ref m0), (2, .int (nI i))]) hx hb dX6_harmed_31 rfl hl (by decide) rfl (fun ls hl => ?_)
          refine lv_iinc (v := nI (i + 1)) (lv' := [(2, .int (nI (i + 1))), (1, .int ((mtd nw en z i) ||| ((nI 1) <<< ((nI i) &&& 31)))), (0, .ref m0)]) hx hb dX6_harmed_32 hl (k := 2) rfl (nI_1 _) (by decide) rfl (fun ls hl => ?_)
          refine lv_goto (tgt := 4) hx hb dX6_harmed_35 (by decide) ?_
          have hl : lv_has ls 3 [(2, .int (nI (i + 1))), (1, .int (mtd nw en z (i + 1))), (0, .ref m0)] := lv_rep hl (congrArg (fun z_ : Int32 => ([(2, .int (nI (i + 1))), (1, .int z_), (0, .ref m0)] : List (Nat × Value))) (show ((mtd nw en z i) ||| ((nI 1) <<< ((nI i) &&& 31)) : Int32) = mtd nw en z (i + 1) from by first | (rw [mtd, if_pos c_20]; done) | (rw [mtd, if_neg (by omega), or0])))
          exact ih4  (i + 1) (by omega) (by omega) _ (lv_sub hl [2, 1, 0] rfl)
  have hl : lv_has ls 3 [(2, .int (nI 0)), (1, .int (mtd nw en z 0)), (0, .ref m0)] := lv_rep hl (congrArg (fun z_ : Int32 => ([(2, .int (nI 0)), (1, .int z_), (0, .ref m0)] : List (Nat × Value))) (show (nI 0 : Int32) = mtd nw en z 0 from rfl))
  exact LP4 ((n - 0) + 1) 0 (Nat.zero_le _) (Nat.lt_succ_self _) _ (lv_sub hl [2, 1, 0] rfl)

set_option maxHeartbeats 4000000 in
set_option maxRecDepth 100000 in
theorem c_X6_allNumbers (l : Launch) (G : va_G) (cI cZ : ClassId) (m0 : Nat) (cs : Nat) (cg : Nat) (ck : Nat) (c0 : Nat) (c1 : Nat) (c2 : Nat) (c3 : Nat) (c4 : Nat) (c5 : Nat) (cl : Nat) (cp : Nat) (cq : Nat) (cr : Nat) (cn : Nat) (cb : Nat) (cu : Nat) (cv : Nat) (ce : Nat) (wl : Nat) (rd : Nat) (lr : Nat) (tm : Int32) (lgs : Int32) (n : Nat) (z : Nat) (op : Int32) (st : Int32) (ea : Int32) (g : Nat → Int32) (f : Nat → Int32) : CR l G cI cZ yX6_allNumbers cX6_allNumbers 3 .int 0 0 [.ref m0] [(m0, .inr (6, [.ref cs, .ref cg, .ref ck, .ref c0, .ref c1, .ref c2, .ref c3, .ref c4, .ref c5, .int (nI wl), .int (nI rd), .ref cl, .ref cp, .ref cq, .ref cr, .ref cn, .ref cb, .ref cu, .ref cv, .int tm, .int (nI lr), .int lgs, .ref ce])), (cs, .inl (cI, 194, .inl (mkS n z op st ea g f)))] (sm f 108) := by
  refine CR.of (own := RX6) (by decide) rfl rfl (Nat.le_of_ble_eq_true rfl) ?_
  intro p e R s m args below meth c H Q X hR fin hP ls hl
  subst hR
  have hx := X.1
  have hb := X.2.1
  have hl : lv_has ls 3 [(0, .ref m0)] := hl
  refine lv_iconst (v := nI 0) hx hb dX6_allNumbers_0 (by decide) ?_
  refine lv_istore_n (lv' := [(1, .int (nI 0)), (0, .ref m0)]) hx hb dX6_allNumbers_1 rfl hl (by decide) rfl (fun ls hl => ?_)
  refine lv_iconst (v := nI 0) hx hb dX6_allNumbers_2 (by decide) ?_
  refine lv_istore_n (lv' := [(2, .int (nI 0)), (1, .int (nI 0)), (0, .ref m0)]) hx hb dX6_allNumbers_3 rfl hl (by decide) rfl (fun ls hl => ?_)
  have LP4 : ∀ (fu : Nat) (i : Nat), (i ≤ 108) → (108 - i) < fu → ∀ (ls : Array Slot), lv_has ls 3 [(0, .ref m0), (1, .int (sm f i)), (2, .int (nI i))] → W p l e ({ frames := 0, cells := 0, slots := 0, locals := 0 } : Room) s m args below meth c H [] 0 0 Q (F0 m 4 ls []) := by
    intro fu
    induction fu with
    | zero =>
      intro i hi hfu
      exact absurd hfu (Nat.not_lt_zero _)
    | succ fu ih4 =>
      intro i hi hfu  ls hl
      refine lv_iload_n hx hb dX6_allNumbers_4 rfl (lv_at hl 2 rfl) ?_
      refine lv_bipush (v := nI 108) hx hb dX6_allNumbers_5 (by decide) ?_
      refine n_icmp_ge (tgt := 28) hx hb dX6_allNumbers_7 (by decide) (by omega) (by omega) (fun c_7 => ?_) (fun c_7 => ?_)
      · refine lv_iload_n hx hb dX6_allNumbers_28 rfl (lv_at hl 1 rfl) ?_
        exact st_eq (show (sm f i : Int32) = sm f 108 from by rw [show i = 108 by omega]) (fin _ _ dX6_allNumbers_29)
      · refine lv_iload_n hx hb dX6_allNumbers_10 rfl (lv_at hl 1 rfl) ?_
        refine lv_aload_n hx hb dX6_allNumbers_11 rfl (lv_at hl 0 rfl) ?_
        refine x_get (C := RX6) (T := TX6) (N := 23) (ci := 6) 0 inT_X6 rfl (by decide) lf_X6_7 rfl X hP 0 rfl rfl dX6_allNumbers_12 ?_
        refine lv_bipush (v := nI 86) hx hb dX6_allNumbers_15 (by decide) ?_
        refine lv_iload_n hx hb dX6_allNumbers_17 rfl (lv_at hl 2 rfl) ?_
        refine n_add hx hb dX6_allNumbers_18  ?_
        refine n_iald X hP 1 rfl (by omega) (by decide) dX6_allNumbers_19 ?_
        refine st_eq (show (mkS n z op st ea g f) (86 + i) = f i from mkS_f) ?_
        refine lv_iadd hx hb dX6_allNumbers_20 ?_
        refine lv_istore_n (lv' := [(1, .int ((sm f i) + (f i))), (0, .ref m0), (2, .int (nI i))]) hx hb dX6_allNumbers_21 rfl hl (by decide) rfl (fun ls hl => ?_)
        refine lv_iinc (v := nI (i + 1)) (lv' := [(2, .int (nI (i + 1))), (1, .int ((sm f i) + (f i))), (0, .ref m0)]) hx hb dX6_allNumbers_22 hl (k := 2) rfl (nI_1 _) (by decide) rfl (fun ls hl => ?_)
        refine lv_goto (tgt := 4) hx hb dX6_allNumbers_25 (by decide) ?_
        have hl : lv_has ls 3 [(2, .int (nI (i + 1))), (1, .int (sm f (i + 1))), (0, .ref m0)] := lv_rep hl (congrArg (fun z_ : Int32 => ([(2, .int (nI (i + 1))), (1, .int z_), (0, .ref m0)] : List (Nat × Value))) (show ((sm f i) + (f i) : Int32) = sm f (i + 1) from rfl))
        exact ih4  (i + 1) (by omega) (by omega) _ (lv_sub hl [2, 1, 0] rfl)
  have hl : lv_has ls 3 [(2, .int (nI 0)), (1, .int (sm f 0)), (0, .ref m0)] := lv_rep hl (congrArg (fun z_ : Int32 => ([(2, .int (nI 0)), (1, .int z_), (0, .ref m0)] : List (Nat × Value))) (show (nI 0 : Int32) = sm f 0 from rfl))
  exact LP4 ((108 - 0) + 1) 0 (Nat.zero_le _) (Nat.lt_succ_self _) _ (lv_sub hl [2, 1, 0] rfl)
