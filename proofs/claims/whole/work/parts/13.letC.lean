set_option maxHeartbeats 4000000 in
set_option maxRecDepth 100000 in
theorem c_X1_send (l : Launch) (G : va_G) (cI cZ : ClassId) (h0 : Nat) (ht : Nat) (qa : Nat) (qb : Nat) (rd : Nat) (ln : Nat) (lz : Nat) (L : List (List Nat)) (tb : Nat → Int32) (s_ : Nat) (r_ : Nat) (f_ : Nat) (l_ : Nat) (k_ : Nat) (htb : LTc tb L) (hL : L.length < 144) : CM l G cI cZ yX1_send cX1_send 7 none 0 0 0 0 [.ref h0, .int (nI s_), .int (nI r_), .int (nI f_), .int (nI l_), .int (nI k_)] [(h0, .inr (1, [.ref ht, .int (nI L.length), .int (nI rd), .int (nI ln), .int (nI lz), .ref qa, .ref qb])), (ht, .inl (cI, 864, .inl tb))] (fun ov_ wv_ => ∃ tb2 : Nat → Int32, ov_ = none ∧ wv_ = [(h0, .inr (1, [.ref ht, .int (nI ((L ++ [[rd, s_, r_, f_, l_, k_]]).length)), .int (nI rd), .int (nI ln), .int (nI lz), .ref qa, .ref qb])), (ht, .inl (cI, 864, .inl tb2))] ∧ (LTc tb2 (L ++ [[rd, s_, r_, f_, l_, k_]]))) := by
  refine CM.of (own := RX1) (by decide) rfl (Nat.le_of_ble_eq_true rfl) ?_
  intro p e R s m args below meth c Q A X hR hret hnm hA fin hd ls hl
  subst hR
  have hx := X.1
  have hb := X.2.1
  have hl : lv_has ls 7 [(0, .ref h0), (1, .int (nI s_)), (2, .int (nI r_)), (3, .int (nI f_)), (4, .int (nI l_)), (5, .int (nI k_))] := hl
  refine lv_aload_n hx hb dX1_send_0 rfl (lv_at hl 0 rfl) ?_
  refine x_get (C := RX1) (T := TX1) (N := 7) (ci := 1) 1 inT_X1 rfl (by decide) lf_X1_15 rfl X hd.1 0 rfl rfl dX1_send_1 ?_
  refine lv_sipush (v := nI 144) hx hb dX1_send_4 (by decide) ?_
  refine n_icmp_lt (tgt := 11) hx hb dX1_send_7 (by decide) (by omega) (by omega) (fun c_7 => ?_) (fun c_7 => ?_)
  · refine lv_aload_n hx hb dX1_send_11 rfl (lv_at hl 0 rfl) ?_
    refine x_get (C := RX1) (T := TX1) (N := 7) (ci := 1) 1 inT_X1 rfl (by decide) lf_X1_15 rfl X hd.1 0 rfl rfl dX1_send_12 ?_
    refine lv_bipush (v := nI 6) hx hb dX1_send_15 (by decide) ?_
    refine n_mul hx hb dX1_send_17  ?_
    refine lv_istore (lv' := [(6, .int (nI (L.length * 6))), (0, .ref h0), (1, .int (nI s_)), (2, .int (nI r_)), (3, .int (nI f_)), (4, .int (nI l_)), (5, .int (nI k_))]) hx hb dX1_send_18 hl (by decide) rfl (fun ls hl => ?_)
    refine lv_aload_n hx hb dX1_send_20 rfl (lv_at hl 1 rfl) ?_
    refine x_get (C := RX1) (T := TX1) (N := 7) (ci := 1) 0 inT_X1 rfl (by decide) lf_X1_9 rfl X hd.1 0 rfl rfl dX1_send_21 ?_
    refine lv_iload hx hb dX1_send_24 (lv_at hl 0 rfl) ?_
    refine lv_iconst (v := nI 0) hx hb dX1_send_26 (by decide) ?_
    refine n_add hx hb dX1_send_27  ?_
    refine lv_aload_n hx hb dX1_send_28 rfl (lv_at hl 1 rfl) ?_
    refine x_get (C := RX1) (T := TX1) (N := 7) (ci := 1) 2 inT_X1 rfl (by decide) lf_X1_19 rfl X hd.1 0 rfl rfl dX1_send_29 ?_
    refine n_iast X hd 1 rfl (by omega) (by decide) dX1_send_32 (fun H locs hd => ?_)
    have hd : Hd G A s.heap [(h0, .inr (1, [.ref ht, .int (nI L.length), .int (nI rd), .int (nI ln), .int (nI lz), .ref qa, .ref qb])), (ht, .inl (cI, 864, .inl (upd tb ((L.length * 6) + 0) (nI rd))))] H locs := hd
    refine lv_aload_n hx hb dX1_send_33 rfl (lv_at hl 1 rfl) ?_
    refine x_get (C := RX1) (T := TX1) (N := 7) (ci := 1) 0 inT_X1 rfl (by decide) lf_X1_9 rfl X hd.1 0 rfl rfl dX1_send_34 ?_
    refine lv_iload hx hb dX1_send_37 (lv_at hl 0 rfl) ?_
    refine lv_iconst (v := nI 1) hx hb dX1_send_39 (by decide) ?_
    refine n_add hx hb dX1_send_40  ?_
    refine lv_iload_n hx hb dX1_send_41 rfl (lv_at hl 2 rfl) ?_
    refine n_iast X hd 1 rfl (by omega) (by decide) dX1_send_42 (fun H locs hd => ?_)
    have hd : Hd G A s.heap [(h0, .inr (1, [.ref ht, .int (nI L.length), .int (nI rd), .int (nI ln), .int (nI lz), .ref qa, .ref qb])), (ht, .inl (cI, 864, .inl (upd (upd tb ((L.length * 6) + 0) (nI rd)) ((L.length * 6) + 1) (nI s_))))] H locs := hd
    refine lv_aload_n hx hb dX1_send_43 rfl (lv_at hl 1 rfl) ?_
    refine x_get (C := RX1) (T := TX1) (N := 7) (ci := 1) 0 inT_X1 rfl (by decide) lf_X1_9 rfl X hd.1 0 rfl rfl dX1_send_44 ?_
    refine lv_iload hx hb dX1_send_47 (lv_at hl 0 rfl) ?_
    refine lv_iconst (v := nI 2) hx hb dX1_send_49 (by decide) ?_
    refine n_add hx hb dX1_send_50  ?_
    refine lv_iload_n hx hb dX1_send_51 rfl (lv_at hl 3 rfl) ?_
    refine n_iast X hd 1 rfl (by omega) (by decide) dX1_send_52 (fun H locs hd => ?_)
    have hd : Hd G A s.heap [(h0, .inr (1, [.ref ht, .int (nI L.length), .int (nI rd), .int (nI ln), .int (nI lz), .ref qa, .ref qb])), (ht, .inl (cI, 864, .inl (upd (upd (upd tb ((L.length * 6) + 0) (nI rd)) ((L.length * 6) + 1) (nI s_)) ((L.length * 6) + 2) (nI r_))))] H locs := hd
    refine lv_aload_n hx hb dX1_send_53 rfl (lv_at hl 1 rfl) ?_
    refine x_get (C := RX1) (T := TX1) (N := 7) (ci := 1) 0 inT_X1 rfl (by decide) lf_X1_9 rfl X hd.1 0 rfl rfl dX1_send_54 ?_
    refine lv_iload hx hb dX1_send_57 (lv_at hl 0 rfl) ?_
    refine lv_iconst (v := nI 3) hx hb dX1_send_59 (by decide) ?_
    refine n_add hx hb dX1_send_60  ?_
    refine lv_iload_n hx hb dX1_send_61 rfl (lv_at hl 4 rfl) ?_
    refine n_iast X hd 1 rfl (by omega) (by decide) dX1_send_62 (fun H locs hd => ?_)
    have hd : Hd G A s.heap [(h0, .inr (1, [.ref ht, .int (nI L.length), .int (nI rd), .int (nI ln), .int (nI lz), .ref qa, .ref qb])), (ht, .inl (cI, 864, .inl (upd (upd (upd (upd tb ((L.length * 6) + 0) (nI rd)) ((L.length * 6) + 1) (nI s_)) ((L.length * 6) + 2) (nI r_)) ((L.length * 6) + 3) (nI f_))))] H locs := hd
    refine lv_aload_n hx hb dX1_send_63 rfl (lv_at hl 1 rfl) ?_
    refine x_get (C := RX1) (T := TX1) (N := 7) (ci := 1) 0 inT_X1 rfl (by decide) lf_X1_9 rfl X hd.1 0 rfl rfl dX1_send_64 ?_
    refine lv_iload hx hb dX1_send_67 (lv_at hl 0 rfl) ?_
    refine lv_iconst (v := nI 4) hx hb dX1_send_69 (by decide) ?_
    refine n_add hx hb dX1_send_70  ?_
    refine lv_iload hx hb dX1_send_71 (lv_at hl 5 rfl) ?_
    refine n_iast X hd 1 rfl (by omega) (by decide) dX1_send_73 (fun H locs hd => ?_)
    have hd : Hd G A s.heap [(h0, .inr (1, [.ref ht, .int (nI L.length), .int (nI rd), .int (nI ln), .int (nI lz), .ref qa, .ref qb])), (ht, .inl (cI, 864, .inl (upd (upd (upd (upd (upd tb ((L.length * 6) + 0) (nI rd)) ((L.length * 6) + 1) (nI s_)) ((L.length * 6) + 2) (nI r_)) ((L.length * 6) + 3) (nI f_)) ((L.length * 6) + 4) (nI l_))))] H locs := hd
    refine lv_aload_n hx hb dX1_send_74 rfl (lv_at hl 1 rfl) ?_
    refine x_get (C := RX1) (T := TX1) (N := 7) (ci := 1) 0 inT_X1 rfl (by decide) lf_X1_9 rfl X hd.1 0 rfl rfl dX1_send_75 ?_
    refine lv_iload hx hb dX1_send_78 (lv_at hl 0 rfl) ?_
    refine lv_iconst (v := nI 5) hx hb dX1_send_80 (by decide) ?_
    refine n_add hx hb dX1_send_81  ?_
    refine lv_iload hx hb dX1_send_82 (lv_at hl 6 rfl) ?_
    refine n_iast X hd 1 rfl (by omega) (by decide) dX1_send_84 (fun H locs hd => ?_)
    have hd : Hd G A s.heap [(h0, .inr (1, [.ref ht, .int (nI L.length), .int (nI rd), .int (nI ln), .int (nI lz), .ref qa, .ref qb])), (ht, .inl (cI, 864, .inl (upd (upd (upd (upd (upd (upd tb ((L.length * 6) + 0) (nI rd)) ((L.length * 6) + 1) (nI s_)) ((L.length * 6) + 2) (nI r_)) ((L.length * 6) + 3) (nI f_)) ((L.length * 6) + 4) (nI l_)) ((L.length * 6) + 5) (nI k_))))] H locs := hd
    refine lv_aload_n hx hb dX1_send_85 rfl (lv_at hl 1 rfl) ?_
    refine lv_dup hx hb dX1_send_86 rfl ?_
    refine x_get (C := RX1) (T := TX1) (N := 7) (ci := 1) 1 inT_X1 rfl (by decide) lf_X1_15 rfl X hd.1 0 rfl rfl dX1_send_87 ?_
    refine lv_iconst (v := nI 1) hx hb dX1_send_90 (by decide) ?_
    refine n_add hx hb dX1_send_91  ?_
    refine x_put (C := RX1) (T := TX1) (N := 7) (ci := 1) (ty := .int) 1 inT_X1 tyX1 tyX1_ok nmX1 rfl (by decide) lf_X1_15 rfl rfl (by decide +kernel) X hd 0 rfl rfl rfl (Nat.le_of_ble_eq_true rfl) dX1_send_92 (fun H locs hd => ?_)
    have hd : Hd G A s.heap [(h0, .inr (1, [.ref ht, .int (nI (L.length + 1)), .int (nI rd), .int (nI ln), .int (nI lz), .ref qa, .ref qb])), (ht, .inl (cI, 864, .inl (upd (upd (upd (upd (upd (upd tb ((L.length * 6) + 0) (nI rd)) ((L.length * 6) + 1) (nI s_)) ((L.length * 6) + 2) (nI r_)) ((L.length * 6) + 3) (nI f_)) ((L.length * 6) + 4) (nI l_)) ((L.length * 6) + 5) (nI k_))))] H locs := hd
    exact (fin _ _ [(h0, .inr (1, [.ref ht, .int (nI (L.length + 1)), .int (nI rd), .int (nI ln), .int (nI lz), .ref qa, .ref qb])), (ht, .inl (cI, 864, .inl (upd (upd (upd (upd (upd (upd tb ((L.length * 6) + 0) (nI rd)) ((L.length * 6) + 1) (nI s_)) ((L.length * 6) + 2) (nI r_)) ((L.length * 6) + 3) (nI f_)) ((L.length * 6) + 4) (nI l_)) ((L.length * 6) + 5) (nI k_))))] _ _ (hd.sub [0, 1] rfl rfl)).1 rfl ⟨(upd (upd (upd (upd (upd (upd tb ((L.length * 6) + 0) (nI rd)) ((L.length * 6) + 1) (nI s_)) ((L.length * 6) + 2) (nI r_)) ((L.length * 6) + 3) (nI f_)) ((L.length * 6) + 4) (nI l_)) ((L.length * 6) + 5) (nI k_)), rfl, by rw [List.length_append]; rfl, LTc_send htb _ _ _ _ _ _⟩ dX1_send_95
  · exfalso; omega

set_option maxHeartbeats 4000000 in
set_option maxRecDepth 100000 in
theorem c_X1_endRound (l : Launch) (G : va_G) (cI cZ : ClassId) (h0 : Nat) (ht : Nat) (qa : Nat) (qb : Nat) (rd : Nat) (ln : Nat) (lz : Nat) (wr_ : Nat) : CM l G cI cZ yX1_endRound cX1_endRound 1 none 0 0 0 0 [.ref h0] [(h0, .inr (1, [.ref ht, .int (nI wr_), .int (nI rd), .int (nI ln), .int (nI lz), .ref qa, .ref qb]))] (fun ov_ wv_ => ov_ = none ∧ wv_ = [(h0, .inr (1, [.ref ht, .int (nI wr_), .int (nI (rd + 1)), .int (nI ln), .int (nI lz), .ref qa, .ref qb]))]) := by
  refine CM.of (own := RX1) (by decide) rfl (Nat.le_of_ble_eq_true rfl) ?_
  intro p e R s m args below meth c Q A X hR hret hnm hA fin hd ls hl
  subst hR
  have hx := X.1
  have hb := X.2.1
  have hl : lv_has ls 1 [(0, .ref h0)] := hl
  refine lv_aload_n hx hb dX1_endRound_0 rfl (lv_at hl 0 rfl) ?_
  refine lv_dup hx hb dX1_endRound_1 rfl ?_
  refine x_get (C := RX1) (T := TX1) (N := 7) (ci := 1) 2 inT_X1 rfl (by decide) lf_X1_19 rfl X hd.1 0 rfl rfl dX1_endRound_2 ?_
  refine lv_iconst (v := nI 1) hx hb dX1_endRound_5 (by decide) ?_
  refine n_add hx hb dX1_endRound_6  ?_
  refine x_put (C := RX1) (T := TX1) (N := 7) (ci := 1) (ty := .int) 2 inT_X1 tyX1 tyX1_ok nmX1 rfl (by decide) lf_X1_19 rfl rfl (by decide +kernel) X hd 0 rfl rfl rfl (Nat.le_of_ble_eq_true rfl) dX1_endRound_7 (fun H locs hd => ?_)
  have hd : Hd G A s.heap [(h0, .inr (1, [.ref ht, .int (nI wr_), .int (nI (rd + 1)), .int (nI ln), .int (nI lz), .ref qa, .ref qb]))] H locs := hd
  exact (fin _ _ [(h0, .inr (1, [.ref ht, .int (nI wr_), .int (nI (rd + 1)), .int (nI ln), .int (nI lz), .ref qa, .ref qb]))] _ _ (hd.sub [0] rfl rfl)).1 rfl ⟨rfl, rfl⟩ dX1_endRound_10

set_option maxHeartbeats 4000000 in
set_option maxRecDepth 100000 in
theorem c_X1_sendWhole (l : Launch) (G : va_G) (cI cZ : ClassId) (h0 : Nat) (ht : Nat) (qa : Nat) (qb : Nat) (rd : Nat) (ln : Nat) (lz : Nat) (L : List (List Nat)) (tb : Nat → Int32) (s_ : Nat) (r_ : Nat) (k_ : Nat) (htb : LTc tb L) (hL : L.length < 144) : CM l G cI cZ yX1_sendWhole cX1_sendWhole 4 none 1 26 0 0 [.ref h0, .int (nI s_), .int (nI r_), .int (nI k_)] [(h0, .inr (1, [.ref ht, .int (nI L.length), .int (nI rd), .int (nI ln), .int (nI lz), .ref qa, .ref qb])), (ht, .inl (cI, 864, .inl tb))] (fun ov_ wv_ => ∃ tb2 : Nat → Int32, ov_ = none ∧ wv_ = [(h0, .inr (1, [.ref ht, .int (nI ((L ++ [[rd, s_, r_, 0, lz, k_]]).length)), .int (nI rd), .int (nI ln), .int (nI lz), .ref qa, .ref qb])), (ht, .inl (cI, 864, .inl tb2))] ∧ (LTc tb2 (L ++ [[rd, s_, r_, 0, lz, k_]]))) := by
  refine CM.of (own := RX1) (by decide) rfl (Nat.le_of_ble_eq_true rfl) ?_
  intro p e R s m args below meth c Q A X hR hret hnm hA fin hd ls hl
  subst hR
  have hx := X.1
  have hb := X.2.1
  have hl : lv_has ls 4 [(0, .ref h0), (1, .int (nI s_)), (2, .int (nI r_)), (3, .int (nI k_))] := hl
  refine lv_aload_n hx hb dX1_sendWhole_0 rfl (lv_at hl 0 rfl) ?_
  refine lv_iload_n hx hb dX1_sendWhole_1 rfl (lv_at hl 1 rfl) ?_
  refine lv_iload_n hx hb dX1_sendWhole_2 rfl (lv_at hl 2 rfl) ?_
  refine lv_iconst (v := nI 0) hx hb dX1_sendWhole_3 (by decide) ?_
  refine lv_aload_n hx hb dX1_sendWhole_4 rfl (lv_at hl 0 rfl) ?_
  refine x_get (C := RX1) (T := TX1) (N := 7) (ci := 1) 4 inT_X1 rfl (by decide) lf_X1_25 rfl X hd.1 0 rfl rfl dX1_sendWhole_5 ?_
  refine lv_iload_n hx hb dX1_sendWhole_8 rfl (lv_at hl 3 rfl) ?_
  refine cM_V (As := [.int (nI s_), .int (nI r_), .int (nI 0), .int (nI lz), .int (nI k_)]) (rest := []) (wr := []) X (c_X1_send l G cI cZ h0 ht qa qb rd ln lz L tb s_ r_ 0 lz k_ (by first | assumption | omega) (by first | assumption | omega)) lk_X1_63 hd hA [0, 1] [] rfl rfl rfl rfl (by decide) rfl rfl hl.1 rfl rfl (Nat.le_of_ble_eq_true rfl) ⟨Nat.le_of_ble_eq_true rfl, Nat.le_of_ble_eq_true rfl⟩ ⟨Nat.le_of_ble_eq_true rfl, Nat.le_of_ble_eq_true rfl⟩ dX1_sendWhole_9 (fun v w1 H locs hp hd => ?_)
  obtain ⟨tb9, rfl, rfl, hT9⟩ := hp
  have hd : Hd G A s.heap [(h0, .inr (1, [.ref ht, .int (nI ((L ++ [[rd, s_, r_, 0, lz, k_]]).length)), .int (nI rd), .int (nI ln), .int (nI lz), .ref qa, .ref qb])), (ht, .inl (cI, 864, .inl tb9))] H locs := hd
  refine st_all (st' := []) rfl ?_
  exact (fin _ _ [(h0, .inr (1, [.ref ht, .int (nI ((L ++ [[rd, s_, r_, 0, lz, k_]]).length)), .int (nI rd), .int (nI ln), .int (nI lz), .ref qa, .ref qb])), (ht, .inl (cI, 864, .inl tb9))] _ _ (hd.sub [0, 1] rfl rfl)).1 rfl ⟨tb9, rfl, rfl, hT9⟩ dX1_sendWhole_12

set_option maxHeartbeats 4000000 in
set_option maxRecDepth 100000 in
theorem c_X1_sendPart (l : Launch) (G : va_G) (cI cZ : ClassId) (h0 : Nat) (ht : Nat) (qa : Nat) (qb : Nat) (rd : Nat) (ln : Nat) (lz : Nat) (L : List (List Nat)) (tb : Nat → Int32) (m_ : Nat) (q_ : Nat) (k_ : Nat) (htb : LTc tb L) (hL : L.length < 144) (hn : 1 ≤ ln) (hn9 : ln ≤ 9) (hz : lz ≤ 99) (hm : m_ < ln) (hq : q_ < ln) : CM l G cI cZ yX1_sendPart cX1_sendPart 5 none 1 26 0 0 [.ref h0, .int (nI m_), .int (nI q_), .int (nI k_)] [(h0, .inr (1, [.ref ht, .int (nI L.length), .int (nI rd), .int (nI ln), .int (nI lz), .ref qa, .ref qb])), (ht, .inl (cI, 864, .inl tb))] (fun ov_ wv_ => ∃ tb2 : Nat → Int32, ov_ = none ∧ wv_ = [(h0, .inr (1, [.ref ht, .int (nI ((L ++ [pF ln lz rd m_ q_ k_]).length)), .int (nI rd), .int (nI ln), .int (nI lz), .ref qa, .ref qb])), (ht, .inl (cI, 864, .inl tb2))] ∧ (LTc tb2 (L ++ [pF ln lz rd m_ q_ k_]))) := by
  refine CM.of (own := RX1) (by decide) rfl (Nat.le_of_ble_eq_true rfl) ?_
  intro p e R s m args below meth c Q A X hR hret hnm hA fin hd ls hl
  subst hR
  have hx := X.1
  have hb := X.2.1
  have hl : lv_has ls 5 [(0, .ref h0), (1, .int (nI m_)), (2, .int (nI q_)), (3, .int (nI k_))] := hl
  refine lv_aload_n hx hb dX1_sendPart_0 rfl (lv_at hl 0 rfl) ?_
  refine lv_iload_n hx hb dX1_sendPart_1 rfl (lv_at hl 2 rfl) ?_
  refine cR_V (As := [.int (nI q_)]) (rest := []) X (c_X1_partStart l G cI cZ h0 ht qa qb rd ln lz L q_ (by first | assumption | omega) (by first | assumption | omega) (by first | assumption | omega) (by first | assumption | omega)) lk_X1_78 (hd.1.sub (ws' := [(h0, .inr (1, [.ref ht, .int (nI L.length), .int (nI rd), .int (nI ln), .int (nI lz), .ref qa, .ref qb]))]) [0] rfl) rfl rfl hl.1 rfl rfl (Nat.le_of_ble_eq_true rfl) ⟨Nat.le_of_ble_eq_true rfl, Nat.le_of_ble_eq_true rfl⟩ ⟨Nat.le_of_ble_eq_true rfl, Nat.le_of_ble_eq_true rfl⟩ dX1_sendPart_2 ?_
  refine lv_istore (lv' := [(4, .int (nI (lz * q_ / ln))), (0, .ref h0), (1, .int (nI m_)), (2, .int (nI q_)), (3, .int (nI k_))]) hx hb dX1_sendPart_5 hl (by decide) rfl (fun ls hl => ?_)
  refine lv_aload_n hx hb dX1_sendPart_7 rfl (lv_at hl 1 rfl) ?_
  refine lv_iload_n hx hb dX1_sendPart_8 rfl (lv_at hl 2 rfl) ?_
  refine lv_aload_n hx hb dX1_sendPart_9 rfl (lv_at hl 1 rfl) ?_
  refine lv_iload_n hx hb dX1_sendPart_10 rfl (lv_at hl 2 rfl) ?_
  refine lv_iconst (v := nI 1) hx hb dX1_sendPart_11 (by decide) ?_
  refine n_add hx hb dX1_sendPart_12  ?_
  refine st_eq (show (nI (m_ + 1) : Int32) = nI (m_ + 1) - nI 0 from by rw [pk_sub (Nat.zero_le _)]; rfl) ?_
  refine cR_V (As := [.int (nI (m_ + 1) - nI 0)]) (rest := [.int (nI m_), .ref h0]) X (c_X1_aroundTheRing l G cI cZ h0 ht qa qb rd ln lz L (m_ + 1) 0 (by first | assumption | omega) (by first | assumption | omega) (by first | assumption | omega)) lk_X1_67 (hd.1.sub (ws' := [(h0, .inr (1, [.ref ht, .int (nI L.length), .int (nI rd), .int (nI ln), .int (nI lz), .ref qa, .ref qb]))]) [0] rfl) rfl rfl hl.1 rfl rfl (Nat.le_of_ble_eq_true rfl) ⟨Nat.le_of_ble_eq_true rfl, Nat.le_of_ble_eq_true rfl⟩ ⟨Nat.le_of_ble_eq_true rfl, Nat.le_of_ble_eq_true rfl⟩ dX1_sendPart_13 ?_
  refine lv_iload hx hb dX1_sendPart_16 (lv_at hl 0 rfl) ?_
  refine lv_aload_n hx hb dX1_sendPart_18 rfl (lv_at hl 1 rfl) ?_
  refine lv_iload_n hx hb dX1_sendPart_19 rfl (lv_at hl 3 rfl) ?_
  refine lv_iconst (v := nI 1) hx hb dX1_sendPart_20 (by decide) ?_
  refine n_add hx hb dX1_sendPart_21  ?_
  refine cR_V (As := [.int (nI (q_ + 1))]) (rest := [.int (nI (lz * q_ / ln)), .int (nI (((m_ + 1) + ln - 0) % ln)), .int (nI m_), .ref h0]) X (c_X1_partStart l G cI cZ h0 ht qa qb rd ln lz L (q_ + 1) (by first | assumption | omega) (by first | assumption | omega) (by first | assumption | omega) (by first | assumption | omega)) lk_X1_78 (hd.1.sub (ws' := [(h0, .inr (1, [.ref ht, .int (nI L.length), .int (nI rd), .int (nI ln), .int (nI lz), .ref qa, .ref qb]))]) [0] rfl) rfl rfl hl.1 rfl rfl (Nat.le_of_ble_eq_true rfl) ⟨Nat.le_of_ble_eq_true rfl, Nat.le_of_ble_eq_true rfl⟩ ⟨Nat.le_of_ble_eq_true rfl, Nat.le_of_ble_eq_true rfl⟩ dX1_sendPart_22 ?_
  refine lv_iload hx hb dX1_sendPart_25 (lv_at hl 0 rfl) ?_
  refine n_sub hx hb dX1_sendPart_27 (Nat.div_le_div_right (Nat.mul_le_mul_left _ (Nat.le_succ _))) ?_
  refine lv_iload_n hx hb dX1_sendPart_28 rfl (lv_at hl 4 rfl) ?_
  refine cM_V (As := [.int (nI m_), .int (nI (((m_ + 1) + ln - 0) % ln)), .int (nI (lz * q_ / ln)), .int (nI ((lz * (q_ + 1) / ln) - (lz * q_ / ln))), .int (nI k_)]) (rest := []) (wr := []) X (c_X1_send l G cI cZ h0 ht qa qb rd ln lz L tb m_ (((m_ + 1) + ln - 0) % ln) (lz * q_ / ln) ((lz * (q_ + 1) / ln) - (lz * q_ / ln)) k_ (by first | assumption | omega) (by first | assumption | omega)) lk_X1_63 hd hA [0, 1] [] rfl rfl rfl rfl (by decide) rfl rfl hl.1 rfl rfl (Nat.le_of_ble_eq_true rfl) ⟨Nat.le_of_ble_eq_true rfl, Nat.le_of_ble_eq_true rfl⟩ ⟨Nat.le_of_ble_eq_true rfl, Nat.le_of_ble_eq_true rfl⟩ dX1_sendPart_29 (fun v w1 H locs hp hd => ?_)
  obtain ⟨tb9, rfl, rfl, hT9⟩ := hp
  have hd : Hd G A s.heap [(h0, .inr (1, [.ref ht, .int (nI ((L ++ [[rd, m_, (((m_ + 1) + ln - 0) % ln), (lz * q_ / ln), ((lz * (q_ + 1) / ln) - (lz * q_ / ln)), k_]]).length)), .int (nI rd), .int (nI ln), .int (nI lz), .ref qa, .ref qb])), (ht, .inl (cI, 864, .inl tb9))] H locs := hd
  refine st_all (st' := []) rfl ?_
  exact (fin _ _ [(h0, .inr (1, [.ref ht, .int (nI ((L ++ [[rd, m_, (((m_ + 1) + ln - 0) % ln), (lz * q_ / ln), ((lz * (q_ + 1) / ln) - (lz * q_ / ln)), k_]]).length)), .int (nI rd), .int (nI ln), .int (nI lz), .ref qa, .ref qb])), (ht, .inl (cI, 864, .inl tb9))] _ _ (hd.sub [0, 1] rfl rfl)).1 rfl ⟨tb9, rfl, by rfl, hT9⟩ dX1_sendPart_32

set_option maxHeartbeats 4000000 in
set_option maxRecDepth 100000 in
theorem c_X1_writeEach (l : Launch) (G : va_G) (cI cZ : ClassId) (h0 : Nat) (ht : Nat) (qa : Nat) (qb : Nat) (ln : Nat) (lz : Nat) (tb0 : Nat → Int32) (hn : 2 ≤ ln) (hn9 : ln ≤ 9) (hz : lz ≤ 99) : CM l G cI cZ yX1_writeEach cX1_writeEach 2 none 2 49 0 0 [.ref h0] [(h0, .inr (1, [.ref ht, .int (nI 0), .int (nI 0), .int (nI ln), .int (nI lz), .ref qa, .ref qb])), (ht, .inl (cI, 864, .inl tb0))] (fun ov_ wv_ => ∃ tb2 : Nat → Int32, ov_ = none ∧ wv_ = [(h0, .inr (1, [.ref ht, .int (nI ((LEach ln lz).length)), .int (nI 2), .int (nI ln), .int (nI lz), .ref qa, .ref qb])), (ht, .inl (cI, 864, .inl tb2))] ∧ (LTc tb2 (LEach ln lz))) := by
  refine CM.of (own := RX1) (by decide) rfl (Nat.le_of_ble_eq_true rfl) ?_
  intro p e R s m args below meth c Q A X hR hret hnm hA fin hd ls hl
  subst hR
  have hx := X.1
  have hb := X.2.1
  have hl : lv_has ls 2 [(0, .ref h0)] := hl
  refine lv_iconst (v := nI 1) hx hb dX1_writeEach_0 (by decide) ?_
  refine lv_istore_n (lv' := [(1, .int (nI 1)), (0, .ref h0)]) hx hb dX1_writeEach_1 rfl hl (by decide) rfl (fun ls hl => ?_)
  have LP2 : ∀ (fu : Nat) (i : Nat) (tb : Nat → Int32), (i + 1 ≤ ln) → (LTc tb (bld [] (eF1 lz) i)) → (ln - i) < fu → ∀ (H : Heap) (locs : List Loc), Hd G A s.heap [(h0, .inr (1, [.ref ht, .int (nI ((bld [] (eF1 lz) i).length)), .int (nI 0), .int (nI ln), .int (nI lz), .ref qa, .ref qb])), (ht, .inl (cI, 864, .inl tb))] H locs → ∀ (ls : Array Slot), lv_has ls 2 [(0, .ref h0), (1, .int (nI (i + 1)))] → W p l e ({ frames := 2, cells := 0, slots := 0, locals := 49 } : Room) s m args below meth c H locs 0 0 Q (F0 m 2 ls []) := by
    intro fu
    induction fu with
    | zero =>
      intro i tb hi htb hfu
      exact absurd hfu (Nat.not_lt_zero _)
    | succ fu ih2 =>
      intro i tb hi htb hfu H locs hd ls hl
      refine lv_iload_n hx hb dX1_writeEach_2 rfl (lv_at hl 1 rfl) ?_
      refine lv_aload_n hx hb dX1_writeEach_3 rfl (lv_at hl 0 rfl) ?_
      refine x_get (C := RX1) (T := TX1) (N := 7) (ci := 1) 3 inT_X1 rfl (by decide) lf_X1_22 rfl X hd.1 0 rfl rfl dX1_writeEach_4 ?_
      refine n_icmp_ge (tgt := 23) hx hb dX1_writeEach_7 (by decide) (by omega) (by omega) (fun c_7 => ?_) (fun c_7 => ?_)
      · refine lv_aload_n hx hb dX1_writeEach_23 rfl (lv_at hl 0 rfl) ?_
        refine cM_V (As := []) (rest := []) (wr := [(ht, .inl (cI, 864, .inl tb))]) X (c_X1_endRound l G cI cZ h0 ht qa qb 0 ln lz ((bld [] (eF1 lz) i).length) ) lk_X1_75 hd hA [0] [1] rfl rfl rfl rfl (by decide) rfl rfl hl.1 rfl rfl (Nat.le_of_ble_eq_true rfl) ⟨Nat.le_of_ble_eq_true rfl, Nat.le_of_ble_eq_true rfl⟩ ⟨Nat.le_of_ble_eq_true rfl, Nat.le_of_ble_eq_true rfl⟩ dX1_writeEach_24 (fun v w1 H locs hp hd => ?_)
        obtain ⟨rfl, rfl⟩ := hp
        have hd : Hd G A s.heap [(ht, .inl (cI, 864, .inl tb)), (h0, .inr (1, [.ref ht, .int (nI ((bld [] (eF1 lz) i).length)), .int (nI (0 + 1)), .int (nI ln), .int (nI lz), .ref qa, .ref qb]))] H locs := hd
        refine st_all (st' := []) rfl ?_
        refine lv_iconst (v := nI 1) hx hb dX1_writeEach_27 (by decide) ?_
        refine lv_istore_n (lv' := [(1, .int (nI 1)), (0, .ref h0)]) hx hb dX1_writeEach_28 rfl hl (by decide) rfl (fun ls hl => ?_)
        have LP29 : ∀ (fu : Nat) (i : Nat) (tb : Nat → Int32), (i + 1 ≤ ln) → (LTc tb (bld (bld [] (eF1 lz) (ln - 1)) (eF2 lz) i)) → (ln - i) < fu → ∀ (H : Heap) (locs : List Loc), Hd G A s.heap [(ht, .inl (cI, 864, .inl tb)), (h0, .inr (1, [.ref ht, .int (nI ((bld (bld [] (eF1 lz) (ln - 1)) (eF2 lz) i).length)), .int (nI (0 + 1)), .int (nI ln), .int (nI lz), .ref qa, .ref qb]))] H locs → ∀ (ls : Array Slot), lv_has ls 2 [(0, .ref h0), (1, .int (nI (i + 1)))] → W p l e ({ frames := 2, cells := 0, slots := 0, locals := 49 } : Room) s m args below meth c H locs 0 0 Q (F0 m 29 ls []) := by
          intro fu
          induction fu with
          | zero =>
            intro i tb hi htb hfu
            exact absurd hfu (Nat.not_lt_zero _)
          | succ fu ih29 =>
            intro i tb hi htb hfu H locs hd ls hl
            refine lv_iload_n hx hb dX1_writeEach_29 rfl (lv_at hl 1 rfl) ?_
            refine lv_aload_n hx hb dX1_writeEach_30 rfl (lv_at hl 0 rfl) ?_
            refine x_get (C := RX1) (T := TX1) (N := 7) (ci := 1) 3 inT_X1 rfl (by decide) lf_X1_22 rfl X hd.1 1 rfl rfl dX1_writeEach_31 ?_
            refine n_icmp_ge (tgt := 50) hx hb dX1_writeEach_34 (by decide) (by omega) (by omega) (fun c_34 => ?_) (fun c_34 => ?_)
            · refine lv_aload_n hx hb dX1_writeEach_50 rfl (lv_at hl 0 rfl) ?_
              refine cM_V (As := []) (rest := []) (wr := [(ht, .inl (cI, 864, .inl tb))]) X (c_X1_endRound l G cI cZ h0 ht qa qb (0 + 1) ln lz ((bld (bld [] (eF1 lz) (ln - 1)) (eF2 lz) i).length) ) lk_X1_75 hd hA [1] [0] rfl rfl rfl rfl (by decide) rfl rfl hl.1 rfl rfl (Nat.le_of_ble_eq_true rfl) ⟨Nat.le_of_ble_eq_true rfl, Nat.le_of_ble_eq_true rfl⟩ ⟨Nat.le_of_ble_eq_true rfl, Nat.le_of_ble_eq_true rfl⟩ dX1_writeEach_51 (fun v w1 H locs hp hd => ?_)
              obtain ⟨rfl, rfl⟩ := hp
              have hd : Hd G A s.heap [(ht, .inl (cI, 864, .inl tb)), (h0, .inr (1, [.ref ht, .int (nI ((bld (bld [] (eF1 lz) (ln - 1)) (eF2 lz) i).length)), .int (nI ((0 + 1) + 1)), .int (nI ln), .int (nI lz), .ref qa, .ref qb]))] H locs := hd
              refine st_all (st' := []) rfl ?_
              exact (fin _ _ [(h0, .inr (1, [.ref ht, .int (nI ((bld (bld [] (eF1 lz) (ln - 1)) (eF2 lz) i).length)), .int (nI ((0 + 1) + 1)), .int (nI ln), .int (nI lz), .ref qa, .ref qb])), (ht, .inl (cI, 864, .inl tb))] _ _ (hd.sub [1, 0] rfl rfl)).1 rfl ⟨tb, rfl, by rw [LEach, show ln - 1 = i by omega], (by rw [LEach, show ln - 1 = i by omega] ; rw [show ln - 1 = i by omega] at htb; exact htb)⟩ dX1_writeEach_54
            · refine lv_aload_n hx hb dX1_writeEach_37 rfl (lv_at hl 0 rfl) ?_
              refine lv_iconst (v := nI 0) hx hb dX1_writeEach_38 (by decide) ?_
              refine lv_iload_n hx hb dX1_writeEach_39 rfl (lv_at hl 1 rfl) ?_
              refine lv_iconst (v := nI 2) hx hb dX1_writeEach_40 (by decide) ?_
              refine cM_V (As := [.int (nI 0), .int (nI (i + 1)), .int (nI 2)]) (rest := []) (wr := []) X (c_X1_sendWhole l G cI cZ h0 ht qa qb (0 + 1) ln lz (bld (bld [] (eF1 lz) (ln - 1)) (eF2 lz) i) tb 0 (i + 1) 2 (by first | assumption | omega) (by rw [bld_len, bld_len]; show 0 + (ln - 1) + i < 144; omega)) lk_X1_85 hd hA [1, 0] [] rfl rfl rfl rfl (by decide) rfl rfl hl.1 rfl rfl (Nat.le_of_ble_eq_true rfl) ⟨Nat.le_of_ble_eq_true rfl, Nat.le_of_ble_eq_true rfl⟩ ⟨Nat.le_of_ble_eq_true rfl, Nat.le_of_ble_eq_true rfl⟩ dX1_writeEach_41 (fun v w1 H locs hp hd => ?_)
              obtain ⟨tb41, rfl, rfl, hT41⟩ := hp
              have hd : Hd G A s.heap [(h0, .inr (1, [.ref ht, .int (nI (((bld (bld [] (eF1 lz) (ln - 1)) (eF2 lz) i) ++ [[(0 + 1), 0, (i + 1), 0, lz, 2]]).length)), .int (nI (0 + 1)), .int (nI ln), .int (nI lz), .ref qa, .ref qb])), (ht, .inl (cI, 864, .inl tb41))] H locs := hd
              refine st_all (st' := []) rfl ?_
              rw [show ((bld (bld [] (eF1 lz) (ln - 1)) (eF2 lz) i) ++ [[(0 + 1), 0, (i + 1), 0, lz, 2]]) = bld (bld [] (eF1 lz) (ln - 1)) (eF2 lz) (i + 1) from rfl] at hd hT41
              have hd : Hd G A s.heap [(h0, .inr (1, [.ref ht, .int (nI ((bld (bld [] (eF1 lz) (ln - 1)) (eF2 lz) (i + 1)).length)), .int (nI (0 + 1)), .int (nI ln), .int (nI lz), .ref qa, .ref qb])), (ht, .inl (cI, 864, .inl tb41))] H locs := hd
              refine lv_iinc (v := nI (i + 1 + 1)) (lv' := [(1, .int (nI (i + 1 + 1))), (0, .ref h0)]) hx hb dX1_writeEach_44 hl (k := 1) rfl (nI_1 _) (by decide) rfl (fun ls hl => ?_)
              refine lv_goto (tgt := 29) hx hb dX1_writeEach_47 (by decide) ?_
              have hl : lv_has ls 2 [(1, .int (nI ((i + 1) + 1))), (0, .ref h0)] := lv_rep hl (congrArg (fun z_ : Int32 => ([(1, .int z_), (0, .ref h0)] : List (Nat × Value))) (show (nI (i + 1 + 1) : Int32) = nI ((i + 1) + 1) from rfl))
              exact ih29  (i + 1) tb41 (by omega) hT41 (by omega) _ _ (hd.sub [1, 0] rfl rfl) _ (lv_sub hl [1, 0] rfl)
        have hl : lv_has ls 2 [(1, .int (nI (0 + 1))), (0, .ref h0)] := lv_rep hl (congrArg (fun z_ : Int32 => ([(1, .int z_), (0, .ref h0)] : List (Nat × Value))) (show (nI 1 : Int32) = nI (0 + 1) from rfl))
        have hd : Hd G A s.heap [(ht, .inl (cI, 864, .inl tb)), (h0, .inr (1, [.ref ht, .int (nI ((bld (bld [] (eF1 lz) (ln - 1)) (eF2 lz) 0).length)), .int (nI (0 + 1)), .int (nI ln), .int (nI lz), .ref qa, .ref qb]))] H locs := hd.cong (congrArg (fun z_ : Int32 => ([(ht, .inl (cI, 864, .inl tb)), (h0, .inr (1, [.ref ht, .int z_, .int (nI (0 + 1)), .int (nI ln), .int (nI lz), .ref qa, .ref qb]))] : va_W)) (show (nI ((bld [] (eF1 lz) i).length) : Int32) = nI ((bld (bld [] (eF1 lz) (ln - 1)) (eF2 lz) 0).length) from by rw [show ln - 1 = i by omega]; rfl))
        exact LP29 ((ln - 0) + 1) 0 tb (by omega) (by rw [show ln - 1 = i by omega]; exact htb) (Nat.lt_succ_self _) _ _ (hd.sub [0, 1] rfl rfl) _ (lv_sub hl [1, 0] rfl)
      · refine lv_aload_n hx hb dX1_writeEach_10 rfl (lv_at hl 0 rfl) ?_
        refine lv_iload_n hx hb dX1_writeEach_11 rfl (lv_at hl 1 rfl) ?_
        refine lv_iconst (v := nI 0) hx hb dX1_writeEach_12 (by decide) ?_
        refine lv_iconst (v := nI 0) hx hb dX1_writeEach_13 (by decide) ?_
        refine cM_V (As := [.int (nI (i + 1)), .int (nI 0), .int (nI 0)]) (rest := []) (wr := []) X (c_X1_sendWhole l G cI cZ h0 ht qa qb 0 ln lz (bld [] (eF1 lz) i) tb (i + 1) 0 0 (by first | assumption | omega) (by rw [bld_len]; show 0 + i < 144; omega)) lk_X1_85 hd hA [0, 1] [] rfl rfl rfl rfl (by decide) rfl rfl hl.1 rfl rfl (Nat.le_of_ble_eq_true rfl) ⟨Nat.le_of_ble_eq_true rfl, Nat.le_of_ble_eq_true rfl⟩ ⟨Nat.le_of_ble_eq_true rfl, Nat.le_of_ble_eq_true rfl⟩ dX1_writeEach_14 (fun v w1 H locs hp hd => ?_)
        obtain ⟨tb14, rfl, rfl, hT14⟩ := hp
        have hd : Hd G A s.heap [(h0, .inr (1, [.ref ht, .int (nI (((bld [] (eF1 lz) i) ++ [[0, (i + 1), 0, 0, lz, 0]]).length)), .int (nI 0), .int (nI ln), .int (nI lz), .ref qa, .ref qb])), (ht, .inl (cI, 864, .inl tb14))] H locs := hd
        refine st_all (st' := []) rfl ?_
        rw [show ((bld [] (eF1 lz) i) ++ [[0, (i + 1), 0, 0, lz, 0]]) = bld [] (eF1 lz) (i + 1) from rfl] at hd hT14
        have hd : Hd G A s.heap [(h0, .inr (1, [.ref ht, .int (nI ((bld [] (eF1 lz) (i + 1)).length)), .int (nI 0), .int (nI ln), .int (nI lz), .ref qa, .ref qb])), (ht, .inl (cI, 864, .inl tb14))] H locs := hd
        refine lv_iinc (v := nI (i + 1 + 1)) (lv' := [(1, .int (nI (i + 1 + 1))), (0, .ref h0)]) hx hb dX1_writeEach_17 hl (k := 1) rfl (nI_1 _) (by decide) rfl (fun ls hl => ?_)
        refine lv_goto (tgt := 2) hx hb dX1_writeEach_20 (by decide) ?_
        have hl : lv_has ls 2 [(1, .int (nI ((i + 1) + 1))), (0, .ref h0)] := lv_rep hl (congrArg (fun z_ : Int32 => ([(1, .int z_), (0, .ref h0)] : List (Nat × Value))) (show (nI (i + 1 + 1) : Int32) = nI ((i + 1) + 1) from rfl))
        exact ih2  (i + 1) tb14 (by omega) hT14 (by omega) _ _ (hd.sub [0, 1] rfl rfl) _ (lv_sub hl [1, 0] rfl)
  have hl : lv_has ls 2 [(1, .int (nI (0 + 1))), (0, .ref h0)] := lv_rep hl (congrArg (fun z_ : Int32 => ([(1, .int z_), (0, .ref h0)] : List (Nat × Value))) (show (nI 1 : Int32) = nI (0 + 1) from rfl))
  have hd : Hd G A s.heap [(h0, .inr (1, [.ref ht, .int (nI ((bld [] (eF1 lz) 0).length)), .int (nI 0), .int (nI ln), .int (nI lz), .ref qa, .ref qb])), (ht, .inl (cI, 864, .inl tb0))] s.heap [] := hd.cong (congrArg (fun z_ : Int32 => ([(h0, .inr (1, [.ref ht, .int z_, .int (nI 0), .int (nI ln), .int (nI lz), .ref qa, .ref qb])), (ht, .inl (cI, 864, .inl tb0))] : va_W)) (show (nI 0 : Int32) = nI ((bld [] (eF1 lz) 0).length) from rfl))
  exact LP2 ((ln - 0) + 1) 0 tb0 (by omega) (LTc_0 _) (Nat.lt_succ_self _) _ _ (hd.sub [0, 1] rfl rfl) _ (lv_sub hl [1, 0] rfl)

set_option maxHeartbeats 4000000 in
set_option maxRecDepth 100000 in
theorem c_X1_writeRing (l : Launch) (G : va_G) (cI cZ : ClassId) (h0 : Nat) (ht : Nat) (qa : Nat) (qb : Nat) (ln : Nat) (lz : Nat) (tb0 : Nat → Int32) (hn : 2 ≤ ln) (hn9 : ln ≤ 9) (hz : lz ≤ 99) : CM l G cI cZ yX1_writeRing cX1_writeRing 3 none 2 50 0 0 [.ref h0] [(h0, .inr (1, [.ref ht, .int (nI 0), .int (nI 0), .int (nI ln), .int (nI lz), .ref qa, .ref qb])), (ht, .inl (cI, 864, .inl tb0))] (fun ov_ wv_ => ∃ tb2 : Nat → Int32, ov_ = none ∧ wv_ = [(h0, .inr (1, [.ref ht, .int (nI ((LRing ln lz).length)), .int (nI (ln - 1 + (ln - 1))), .int (nI ln), .int (nI lz), .ref qa, .ref qb])), (ht, .inl (cI, 864, .inl tb2))] ∧ (LTc tb2 (LRing ln lz))) := by
  refine CM.of (own := RX1) (by decide) rfl (Nat.le_of_ble_eq_true rfl) ?_
  intro p e R s m args below meth c Q A X hR hret hnm hA fin hd ls hl
  subst hR
  have hx := X.1
  have hb := X.2.1
  have hl : lv_has ls 3 [(0, .ref h0)] := hl
  refine lv_iconst (v := nI 0) hx hb dX1_writeRing_0 (by decide) ?_
  refine lv_istore_n (lv' := [(1, .int (nI 0)), (0, .ref h0)]) hx hb dX1_writeRing_1 rfl hl (by decide) rfl (fun ls hl => ?_)
  have LP2 : ∀ (fu : Nat) (r : Nat) (tb : Nat → Int32), (r ≤ ln - 1) → (LTc tb (bld2 [] (gF1 ln lz) ln r)) → (ln - r) < fu → ∀ (H : Heap) (locs : List Loc), Hd G A s.heap [(h0, .inr (1, [.ref ht, .int (nI ((bld2 [] (gF1 ln lz) ln r).length)), .int (nI r), .int (nI ln), .int (nI lz), .ref qa, .ref qb])), (ht, .inl (cI, 864, .inl tb))] H locs → ∀ (ls : Array Slot), lv_has ls 3 [(0, .ref h0), (1, .int (nI r))] → W p l e ({ frames := 2, cells := 0, slots := 0, locals := 50 } : Room) s m args below meth c H locs 0 0 Q (F0 m 2 ls []) := by
    intro fu
    induction fu with
    | zero =>
      intro r tb hr htb hfu
      exact absurd hfu (Nat.not_lt_zero _)
    | succ fu ih2 =>
      intro r tb hr htb hfu H locs hd ls hl
      refine lv_iload_n hx hb dX1_writeRing_2 rfl (lv_at hl 1 rfl) ?_
      refine lv_aload_n hx hb dX1_writeRing_3 rfl (lv_at hl 0 rfl) ?_
      refine x_get (C := RX1) (T := TX1) (N := 7) (ci := 1) 3 inT_X1 rfl (by decide) lf_X1_22 rfl X hd.1 0 rfl rfl dX1_writeRing_4 ?_
      refine lv_iconst (v := nI 1) hx hb dX1_writeRing_7 (by decide) ?_
      refine n_sub hx hb dX1_writeRing_8 (by omega) ?_
      refine n_icmp_ge (tgt := 51) hx hb dX1_writeRing_9 (by decide) (by omega) (by omega) (fun c_9 => ?_) (fun c_9 => ?_)
      · refine lv_iconst (v := nI 0) hx hb dX1_writeRing_51 (by decide) ?_
        refine lv_istore_n (lv' := [(1, .int (nI 0)), (0, .ref h0)]) hx hb dX1_writeRing_52 rfl hl (by decide) rfl (fun ls hl => ?_)
        have LP53 : ∀ (fu : Nat) (r : Nat) (tb : Nat → Int32), (r ≤ ln - 1) → (LTc tb (bld2 (bld2 [] (gF1 ln lz) ln (ln - 1)) (gF2 ln lz) ln r)) → (ln - r) < fu → ∀ (H : Heap) (locs : List Loc), Hd G A s.heap [(h0, .inr (1, [.ref ht, .int (nI ((bld2 (bld2 [] (gF1 ln lz) ln (ln - 1)) (gF2 ln lz) ln r).length)), .int (nI (ln - 1 + r)), .int (nI ln), .int (nI lz), .ref qa, .ref qb])), (ht, .inl (cI, 864, .inl tb))] H locs → ∀ (ls : Array Slot), lv_has ls 3 [(0, .ref h0), (1, .int (nI r))] → W p l e ({ frames := 2, cells := 0, slots := 0, locals := 50 } : Room) s m args below meth c H locs 0 0 Q (F0 m 53 ls []) := by
          intro fu
          induction fu with
          | zero =>
            intro r tb hr htb hfu
            exact absurd hfu (Nat.not_lt_zero _)
          | succ fu ih53 =>
            intro r tb hr htb hfu H locs hd ls hl
            refine lv_iload_n hx hb dX1_writeRing_53 rfl (lv_at hl 1 rfl) ?_
            refine lv_aload_n hx hb dX1_writeRing_54 rfl (lv_at hl 0 rfl) ?_
            refine x_get (C := RX1) (T := TX1) (N := 7) (ci := 1) 3 inT_X1 rfl (by decide) lf_X1_22 rfl X hd.1 0 rfl rfl dX1_writeRing_55 ?_
            refine lv_iconst (v := nI 1) hx hb dX1_writeRing_58 (by decide) ?_
            refine n_sub hx hb dX1_writeRing_59 (by omega) ?_
            refine n_icmp_ge (tgt := 104) hx hb dX1_writeRing_60 (by decide) (by omega) (by omega) (fun c_60 => ?_) (fun c_60 => ?_)
            · exact (fin _ _ [(h0, .inr (1, [.ref ht, .int (nI ((bld2 (bld2 [] (gF1 ln lz) ln (ln - 1)) (gF2 ln lz) ln r).length)), .int (nI (ln - 1 + r)), .int (nI ln), .int (nI lz), .ref qa, .ref qb])), (ht, .inl (cI, 864, .inl tb))] _ _ (hd.sub [0, 1] rfl rfl)).1 rfl ⟨tb, rfl, by rw [LRing, show r = ln - 1 by omega], (by rw [LRing]; rw [show r = ln - 1 by omega] at htb; exact htb)⟩ dX1_writeRing_104
            · refine lv_iconst (v := nI 0) hx hb dX1_writeRing_63 (by decide) ?_
              refine lv_istore_n (lv' := [(2, .int (nI 0)), (0, .ref h0), (1, .int (nI r))]) hx hb dX1_writeRing_64 rfl hl (by decide) rfl (fun ls hl => ?_)
              have LP65 : ∀ (fu : Nat) (i : Nat) (tb : Nat → Int32), (i ≤ ln) → (LTc tb (bld (bld2 (bld2 [] (gF1 ln lz) ln (ln - 1)) (gF2 ln lz) ln r) (gF2 ln lz r) i)) → (ln - i) < fu → ∀ (H : Heap) (locs : List Loc), Hd G A s.heap [(h0, .inr (1, [.ref ht, .int (nI ((bld (bld2 (bld2 [] (gF1 ln lz) ln (ln - 1)) (gF2 ln lz) ln r) (gF2 ln lz r) i).length)), .int (nI (ln - 1 + r)), .int (nI ln), .int (nI lz), .ref qa, .ref qb])), (ht, .inl (cI, 864, .inl tb))] H locs → ∀ (ls : Array Slot), lv_has ls 3 [(0, .ref h0), (1, .int (nI r)), (2, .int (nI i))] → W p l e ({ frames := 2, cells := 0, slots := 0, locals := 50 } : Room) s m args below meth c H locs 0 0 Q (F0 m 65 ls []) := by
                intro fu
                induction fu with
                | zero =>
                  intro i tb hi htb hfu
                  exact absurd hfu (Nat.not_lt_zero _)
                | succ fu ih65 =>
                  intro i tb hi htb hfu H locs hd ls hl
                  refine lv_iload_n hx hb dX1_writeRing_65 rfl (lv_at hl 2 rfl) ?_
                  refine lv_aload_n hx hb dX1_writeRing_66 rfl (lv_at hl 0 rfl) ?_
                  refine x_get (C := RX1) (T := TX1) (N := 7) (ci := 1) 3 inT_X1 rfl (by decide) lf_X1_22 rfl X hd.1 0 rfl rfl dX1_writeRing_67 ?_
                  refine n_icmp_ge (tgt := 94) hx hb dX1_writeRing_70 (by decide) (by omega) (by omega) (fun c_70 => ?_) (fun c_70 => ?_)
                  · rw [show (bld (bld2 (bld2 [] (gF1 ln lz) ln (ln - 1)) (gF2 ln lz) ln r) (gF2 ln lz r) i) = bld2 (bld2 [] (gF1 ln lz) ln (ln - 1)) (gF2 ln lz) ln (r + 1) from by rw [show i = ln by omega]; rfl] at hd htb
                    have hd : Hd G A s.heap [(h0, .inr (1, [.ref ht, .int (nI ((bld2 (bld2 [] (gF1 ln lz) ln (ln - 1)) (gF2 ln lz) ln (r + 1)).length)), .int (nI (ln - 1 + r)), .int (nI ln), .int (nI lz), .ref qa, .ref qb])), (ht, .inl (cI, 864, .inl tb))] H locs := hd
                    refine lv_aload_n hx hb dX1_writeRing_94 rfl (lv_at hl 0 rfl) ?_
                    refine cM_V (As := []) (rest := []) (wr := [(ht, .inl (cI, 864, .inl tb))]) X (c_X1_endRound l G cI cZ h0 ht qa qb (ln - 1 + r) ln lz ((bld2 (bld2 [] (gF1 ln lz) ln (ln - 1)) (gF2 ln lz) ln (r + 1)).length) ) lk_X1_75 hd hA [0] [1] rfl rfl rfl rfl (by decide) rfl rfl hl.1 rfl rfl (Nat.le_of_ble_eq_true rfl) ⟨Nat.le_of_ble_eq_true rfl, Nat.le_of_ble_eq_true rfl⟩ ⟨Nat.le_of_ble_eq_true rfl, Nat.le_of_ble_eq_true rfl⟩ dX1_writeRing_95 (fun v w1 H locs hp hd => ?_)
                    obtain ⟨rfl, rfl⟩ := hp
                    have hd : Hd G A s.heap [(ht, .inl (cI, 864, .inl tb)), (h0, .inr (1, [.ref ht, .int (nI ((bld2 (bld2 [] (gF1 ln lz) ln (ln - 1)) (gF2 ln lz) ln (r + 1)).length)), .int (nI ((ln - 1 + r) + 1)), .int (nI ln), .int (nI lz), .ref qa, .ref qb]))] H locs := hd
                    refine st_all (st' := []) rfl ?_
                    refine lv_iinc (v := nI (r + 1)) (lv' := [(1, .int (nI (r + 1))), (0, .ref h0), (2, .int (nI i))]) hx hb dX1_writeRing_98 hl (k := 1) rfl (nI_1 _) (by decide) rfl (fun ls hl => ?_)
                    refine lv_goto (tgt := 53) hx hb dX1_writeRing_101 (by decide) ?_
                    have hd : Hd G A s.heap [(ht, .inl (cI, 864, .inl tb)), (h0, .inr (1, [.ref ht, .int (nI ((bld2 (bld2 [] (gF1 ln lz) ln (ln - 1)) (gF2 ln lz) ln (r + 1)).length)), .int (nI (ln - 1 + (r + 1))), .int (nI ln), .int (nI lz), .ref qa, .ref qb]))] H locs := hd.cong (congrArg (fun z_ : Int32 => ([(ht, .inl (cI, 864, .inl tb)), (h0, .inr (1, [.ref ht, .int (nI ((bld2 (bld2 [] (gF1 ln lz) ln (ln - 1)) (gF2 ln lz) ln (r + 1)).length)), .int z_, .int (nI ln), .int (nI lz), .ref qa, .ref qb]))] : va_W)) (show (nI ((ln - 1 + r) + 1) : Int32) = nI (ln - 1 + (r + 1)) from by first | rfl | (congr 1; omega)))
                    exact ih53  (r + 1) tb (by omega) htb (by omega) _ _ (hd.sub [1, 0] rfl rfl) _ (lv_sub hl [1, 0] rfl)
                  · refine lv_aload_n hx hb dX1_writeRing_73 rfl (lv_at hl 0 rfl) ?_
                    refine lv_iload_n hx hb dX1_writeRing_74 rfl (lv_at hl 2 rfl) ?_
                    refine lv_aload_n hx hb dX1_writeRing_75 rfl (lv_at hl 0 rfl) ?_
                    refine lv_iload_n hx hb dX1_writeRing_76 rfl (lv_at hl 2 rfl) ?_
                    refine lv_iconst (v := nI 1) hx hb dX1_writeRing_77 (by decide) ?_
                    refine n_add hx hb dX1_writeRing_78  ?_
                    refine lv_iload_n hx hb dX1_writeRing_79 rfl (lv_at hl 1 rfl) ?_
                    refine lv_isub hx hb dX1_writeRing_80 ?_
-- NOTE pc 81: arg .int ((nI (i + 1)) - (nI r)) for .int (nI (i + 1) - nI r)
                    refine cR_V (As := [.int ((nI (i + 1)) - (nI r))]) (rest := [.int (nI i), .ref h0]) X (c_X1_aroundTheRing l G cI cZ h0 ht qa qb (ln - 1 + r) ln lz (bld (bld2 (bld2 [] (gF1 ln lz) ln (ln - 1)) (gF2 ln lz) ln r) (gF2 ln lz r) i) (i + 1) r (by first | assumption | omega) (by first | assumption | omega) (by first | assumption | omega)) lk_X1_67 (hd.1.sub (ws' := [(h0, .inr (1, [.ref ht, .int (nI ((bld (bld2 (bld2 [] (gF1 ln lz) ln (ln - 1)) (gF2 ln lz) ln r) (gF2 ln lz r) i).length)), .int (nI (ln - 1 + r)), .int (nI ln), .int (nI lz), .ref qa, .ref qb]))]) [0] rfl) rfl rfl hl.1 rfl rfl (Nat.le_of_ble_eq_true rfl) ⟨Nat.le_of_ble_eq_true rfl, Nat.le_of_ble_eq_true rfl⟩ ⟨Nat.le_of_ble_eq_true rfl, Nat.le_of_ble_eq_true rfl⟩ dX1_writeRing_81 ?_
                    refine lv_iconst (v := nI 2) hx hb dX1_writeRing_84 (by decide) ?_
                    refine cM_V (As := [.int (nI i), .int (nI (((i + 1) + ln - r) % ln)), .int (nI 2)]) (rest := []) (wr := []) X (c_X1_sendPart l G cI cZ h0 ht qa qb (ln - 1 + r) ln lz (bld (bld2 (bld2 [] (gF1 ln lz) ln (ln - 1)) (gF2 ln lz) ln r) (gF2 ln lz r) i) tb i (((i + 1) + ln - r) % ln) 2 (by first | assumption | omega) (by rw [bld_len, bld2_len, bld2_len]; show 0 + (ln - 1) * ln + r * ln + i < 144; have := Nat.mul_le_mul (show r ≤ 7 by omega) hn9; have := Nat.mul_le_mul (show ln - 1 ≤ 8 by omega) hn9; omega) (by first | assumption | omega) (by first | assumption | omega) (by first | assumption | omega) (by first | assumption | omega) (Nat.mod_lt _ (by omega))) lk_X1_71 hd hA [0, 1] [] rfl rfl rfl rfl (by decide) rfl rfl hl.1 rfl rfl (Nat.le_of_ble_eq_true rfl) ⟨Nat.le_of_ble_eq_true rfl, Nat.le_of_ble_eq_true rfl⟩ ⟨Nat.le_of_ble_eq_true rfl, Nat.le_of_ble_eq_true rfl⟩ dX1_writeRing_85 (fun v w1 H locs hp hd => ?_)
                    obtain ⟨tb85, rfl, rfl, hT85⟩ := hp
                    have hd : Hd G A s.heap [(h0, .inr (1, [.ref ht, .int (nI (((bld (bld2 (bld2 [] (gF1 ln lz) ln (ln - 1)) (gF2 ln lz) ln r) (gF2 ln lz r) i) ++ [pF ln lz (ln - 1 + r) i (((i + 1) + ln - r) % ln) 2]).length)), .int (nI (ln - 1 + r)), .int (nI ln), .int (nI lz), .ref qa, .ref qb])), (ht, .inl (cI, 864, .inl tb85))] H locs := hd
                    refine st_all (st' := []) rfl ?_
                    rw [show ((bld (bld2 (bld2 [] (gF1 ln lz) ln (ln - 1)) (gF2 ln lz) ln r) (gF2 ln lz r) i) ++ [pF ln lz (ln - 1 + r) i (((i + 1) + ln - r) % ln) 2]) = bld (bld2 (bld2 [] (gF1 ln lz) ln (ln - 1)) (gF2 ln lz) ln r) (gF2 ln lz r) (i + 1) from rfl] at hd hT85
                    have hd : Hd G A s.heap [(h0, .inr (1, [.ref ht, .int (nI ((bld (bld2 (bld2 [] (gF1 ln lz) ln (ln - 1)) (gF2 ln lz) ln r) (gF2 ln lz r) (i + 1)).length)), .int (nI (ln - 1 + r)), .int (nI ln), .int (nI lz), .ref qa, .ref qb])), (ht, .inl (cI, 864, .inl tb85))] H locs := hd
                    refine lv_iinc (v := nI (i + 1)) (lv' := [(2, .int (nI (i + 1))), (0, .ref h0), (1, .int (nI r))]) hx hb dX1_writeRing_88 hl (k := 2) rfl (nI_1 _) (by decide) rfl (fun ls hl => ?_)
                    refine lv_goto (tgt := 65) hx hb dX1_writeRing_91 (by decide) ?_
                    exact ih65  (i + 1) tb85 (by omega) hT85 (by omega) _ _ (hd.sub [0, 1] rfl rfl) _ (lv_sub hl [1, 2, 0] rfl)
              have hd : Hd G A s.heap [(h0, .inr (1, [.ref ht, .int (nI ((bld (bld2 (bld2 [] (gF1 ln lz) ln (ln - 1)) (gF2 ln lz) ln r) (gF2 ln lz r) 0).length)), .int (nI (ln - 1 + r)), .int (nI ln), .int (nI lz), .ref qa, .ref qb])), (ht, .inl (cI, 864, .inl tb))] H locs := hd.cong (congrArg (fun z_ : Int32 => ([(h0, .inr (1, [.ref ht, .int z_, .int (nI (ln - 1 + r)), .int (nI ln), .int (nI lz), .ref qa, .ref qb])), (ht, .inl (cI, 864, .inl tb))] : va_W)) (show (nI ((bld2 (bld2 [] (gF1 ln lz) ln (ln - 1)) (gF2 ln lz) ln r).length) : Int32) = nI ((bld (bld2 (bld2 [] (gF1 ln lz) ln (ln - 1)) (gF2 ln lz) ln r) (gF2 ln lz r) 0).length) from rfl))
              exact LP65 ((ln - 0) + 1) 0 tb (by omega) htb (Nat.lt_succ_self _) _ _ (hd.sub [0, 1] rfl rfl) _ (lv_sub hl [1, 2, 0] rfl)
        have hd : Hd G A s.heap [(h0, .inr (1, [.ref ht, .int (nI ((bld2 (bld2 [] (gF1 ln lz) ln (ln - 1)) (gF2 ln lz) ln 0).length)), .int (nI r), .int (nI ln), .int (nI lz), .ref qa, .ref qb])), (ht, .inl (cI, 864, .inl tb))] H locs := hd.cong (congrArg (fun z_ : Int32 => ([(h0, .inr (1, [.ref ht, .int z_, .int (nI r), .int (nI ln), .int (nI lz), .ref qa, .ref qb])), (ht, .inl (cI, 864, .inl tb))] : va_W)) (show (nI ((bld2 [] (gF1 ln lz) ln r).length) : Int32) = nI ((bld2 (bld2 [] (gF1 ln lz) ln (ln - 1)) (gF2 ln lz) ln 0).length) from by rw [show ln - 1 = r by omega]; rfl))
        have hd : Hd G A s.heap [(h0, .inr (1, [.ref ht, .int (nI ((bld2 (bld2 [] (gF1 ln lz) ln (ln - 1)) (gF2 ln lz) ln 0).length)), .int (nI (ln - 1 + 0)), .int (nI ln), .int (nI lz), .ref qa, .ref qb])), (ht, .inl (cI, 864, .inl tb))] H locs := hd.cong (congrArg (fun z_ : Int32 => ([(h0, .inr (1, [.ref ht, .int (nI ((bld2 (bld2 [] (gF1 ln lz) ln (ln - 1)) (gF2 ln lz) ln 0).length)), .int z_, .int (nI ln), .int (nI lz), .ref qa, .ref qb])), (ht, .inl (cI, 864, .inl tb))] : va_W)) (show (nI r : Int32) = nI (ln - 1 + 0) from by rw [show ln - 1 = r by omega]; try rfl))
        exact LP53 ((ln - 0) + 1) 0 tb (by omega) (by rw [show ln - 1 = r by omega]; exact htb) (Nat.lt_succ_self _) _ _ (hd.sub [0, 1] rfl rfl) _ (lv_sub hl [1, 0] rfl)
      · refine lv_iconst (v := nI 0) hx hb dX1_writeRing_12 (by decide) ?_
        refine lv_istore_n (lv' := [(2, .int (nI 0)), (0, .ref h0), (1, .int (nI r))]) hx hb dX1_writeRing_13 rfl hl (by decide) rfl (fun ls hl => ?_)
        have LP14 : ∀ (fu : Nat) (i : Nat) (tb : Nat → Int32), (i ≤ ln) → (LTc tb (bld (bld2 [] (gF1 ln lz) ln r) (gF1 ln lz r) i)) → (ln - i) < fu → ∀ (H : Heap) (locs : List Loc), Hd G A s.heap [(h0, .inr (1, [.ref ht, .int (nI ((bld (bld2 [] (gF1 ln lz) ln r) (gF1 ln lz r) i).length)), .int (nI r), .int (nI ln), .int (nI lz), .ref qa, .ref qb])), (ht, .inl (cI, 864, .inl tb))] H locs → ∀ (ls : Array Slot), lv_has ls 3 [(0, .ref h0), (1, .int (nI r)), (2, .int (nI i))] → W p l e ({ frames := 2, cells := 0, slots := 0, locals := 50 } : Room) s m args below meth c H locs 0 0 Q (F0 m 14 ls []) := by
          intro fu
          induction fu with
          | zero =>
            intro i tb hi htb hfu
            exact absurd hfu (Nat.not_lt_zero _)
          | succ fu ih14 =>
            intro i tb hi htb hfu H locs hd ls hl
            refine lv_iload_n hx hb dX1_writeRing_14 rfl (lv_at hl 2 rfl) ?_
            refine lv_aload_n hx hb dX1_writeRing_15 rfl (lv_at hl 0 rfl) ?_
            refine x_get (C := RX1) (T := TX1) (N := 7) (ci := 1) 3 inT_X1 rfl (by decide) lf_X1_22 rfl X hd.1 0 rfl rfl dX1_writeRing_16 ?_
            refine n_icmp_ge (tgt := 41) hx hb dX1_writeRing_19 (by decide) (by omega) (by omega) (fun c_19 => ?_) (fun c_19 => ?_)
            · rw [show (bld (bld2 [] (gF1 ln lz) ln r) (gF1 ln lz r) i) = bld2 [] (gF1 ln lz) ln (r + 1) from by rw [show i = ln by omega]; rfl] at hd htb
              have hd : Hd G A s.heap [(h0, .inr (1, [.ref ht, .int (nI ((bld2 [] (gF1 ln lz) ln (r + 1)).length)), .int (nI r), .int (nI ln), .int (nI lz), .ref qa, .ref qb])), (ht, .inl (cI, 864, .inl tb))] H locs := hd
              refine lv_aload_n hx hb dX1_writeRing_41 rfl (lv_at hl 0 rfl) ?_
              refine cM_V (As := []) (rest := []) (wr := [(ht, .inl (cI, 864, .inl tb))]) X (c_X1_endRound l G cI cZ h0 ht qa qb r ln lz ((bld2 [] (gF1 ln lz) ln (r + 1)).length) ) lk_X1_75 hd hA [0] [1] rfl rfl rfl rfl (by decide) rfl rfl hl.1 rfl rfl (Nat.le_of_ble_eq_true rfl) ⟨Nat.le_of_ble_eq_true rfl, Nat.le_of_ble_eq_true rfl⟩ ⟨Nat.le_of_ble_eq_true rfl, Nat.le_of_ble_eq_true rfl⟩ dX1_writeRing_42 (fun v w1 H locs hp hd => ?_)
              obtain ⟨rfl, rfl⟩ := hp
              have hd : Hd G A s.heap [(ht, .inl (cI, 864, .inl tb)), (h0, .inr (1, [.ref ht, .int (nI ((bld2 [] (gF1 ln lz) ln (r + 1)).length)), .int (nI (r + 1)), .int (nI ln), .int (nI lz), .ref qa, .ref qb]))] H locs := hd
              refine st_all (st' := []) rfl ?_
              refine lv_iinc (v := nI (r + 1)) (lv' := [(1, .int (nI (r + 1))), (0, .ref h0), (2, .int (nI i))]) hx hb dX1_writeRing_45 hl (k := 1) rfl (nI_1 _) (by decide) rfl (fun ls hl => ?_)
              refine lv_goto (tgt := 2) hx hb dX1_writeRing_48 (by decide) ?_
              exact ih2  (r + 1) tb (by omega) htb (by omega) _ _ (hd.sub [1, 0] rfl rfl) _ (lv_sub hl [1, 0] rfl)
            · refine lv_aload_n hx hb dX1_writeRing_22 rfl (lv_at hl 0 rfl) ?_
              refine lv_iload_n hx hb dX1_writeRing_23 rfl (lv_at hl 2 rfl) ?_
              refine lv_aload_n hx hb dX1_writeRing_24 rfl (lv_at hl 0 rfl) ?_
              refine lv_iload_n hx hb dX1_writeRing_25 rfl (lv_at hl 2 rfl) ?_
              refine lv_iload_n hx hb dX1_writeRing_26 rfl (lv_at hl 1 rfl) ?_
              refine lv_isub hx hb dX1_writeRing_27 ?_
-- NOTE pc 28: arg .int ((nI i) - (nI r)) for .int (nI i - nI r)
              refine cR_V (As := [.int ((nI i) - (nI r))]) (rest := [.int (nI i), .ref h0]) X (c_X1_aroundTheRing l G cI cZ h0 ht qa qb r ln lz (bld (bld2 [] (gF1 ln lz) ln r) (gF1 ln lz r) i) i r (by first | assumption | omega) (by first | assumption | omega) (by first | assumption | omega)) lk_X1_67 (hd.1.sub (ws' := [(h0, .inr (1, [.ref ht, .int (nI ((bld (bld2 [] (gF1 ln lz) ln r) (gF1 ln lz r) i).length)), .int (nI r), .int (nI ln), .int (nI lz), .ref qa, .ref qb]))]) [0] rfl) rfl rfl hl.1 rfl rfl (Nat.le_of_ble_eq_true rfl) ⟨Nat.le_of_ble_eq_true rfl, Nat.le_of_ble_eq_true rfl⟩ ⟨Nat.le_of_ble_eq_true rfl, Nat.le_of_ble_eq_true rfl⟩ dX1_writeRing_28 ?_
              refine lv_iconst (v := nI 1) hx hb dX1_writeRing_31 (by decide) ?_
              refine cM_V (As := [.int (nI i), .int (nI ((i + ln - r) % ln)), .int (nI 1)]) (rest := []) (wr := []) X (c_X1_sendPart l G cI cZ h0 ht qa qb r ln lz (bld (bld2 [] (gF1 ln lz) ln r) (gF1 ln lz r) i) tb i ((i + ln - r) % ln) 1 (by first | assumption | omega) (by rw [bld_len, bld2_len]; show 0 + r * ln + i < 144; have := Nat.mul_le_mul (show r ≤ 7 by omega) hn9; omega) (by first | assumption | omega) (by first | assumption | omega) (by first | assumption | omega) (by first | assumption | omega) (Nat.mod_lt _ (by omega))) lk_X1_71 hd hA [0, 1] [] rfl rfl rfl rfl (by decide) rfl rfl hl.1 rfl rfl (Nat.le_of_ble_eq_true rfl) ⟨Nat.le_of_ble_eq_true rfl, Nat.le_of_ble_eq_true rfl⟩ ⟨Nat.le_of_ble_eq_true rfl, Nat.le_of_ble_eq_true rfl⟩ dX1_writeRing_32 (fun v w1 H locs hp hd => ?_)
              obtain ⟨tb32, rfl, rfl, hT32⟩ := hp
              have hd : Hd G A s.heap [(h0, .inr (1, [.ref ht, .int (nI (((bld (bld2 [] (gF1 ln lz) ln r) (gF1 ln lz r) i) ++ [pF ln lz r i ((i + ln - r) % ln) 1]).length)), .int (nI r), .int (nI ln), .int (nI lz), .ref qa, .ref qb])), (ht, .inl (cI, 864, .inl tb32))] H locs := hd
              refine st_all (st' := []) rfl ?_
              rw [show ((bld (bld2 [] (gF1 ln lz) ln r) (gF1 ln lz r) i) ++ [pF ln lz r i ((i + ln - r) % ln) 1]) = bld (bld2 [] (gF1 ln lz) ln r) (gF1 ln lz r) (i + 1) from rfl] at hd hT32
              have hd : Hd G A s.heap [(h0, .inr (1, [.ref ht, .int (nI ((bld (bld2 [] (gF1 ln lz) ln r) (gF1 ln lz r) (i + 1)).length)), .int (nI r), .int (nI ln), .int (nI lz), .ref qa, .ref qb])), (ht, .inl (cI, 864, .inl tb32))] H locs := hd
              refine lv_iinc (v := nI (i + 1)) (lv' := [(2, .int (nI (i + 1))), (0, .ref h0), (1, .int (nI r))]) hx hb dX1_writeRing_35 hl (k := 2) rfl (nI_1 _) (by decide) rfl (fun ls hl => ?_)
              refine lv_goto (tgt := 14) hx hb dX1_writeRing_38 (by decide) ?_
              exact ih14  (i + 1) tb32 (by omega) hT32 (by omega) _ _ (hd.sub [0, 1] rfl rfl) _ (lv_sub hl [1, 2, 0] rfl)
        have hd : Hd G A s.heap [(h0, .inr (1, [.ref ht, .int (nI ((bld (bld2 [] (gF1 ln lz) ln r) (gF1 ln lz r) 0).length)), .int (nI r), .int (nI ln), .int (nI lz), .ref qa, .ref qb])), (ht, .inl (cI, 864, .inl tb))] H locs := hd.cong (congrArg (fun z_ : Int32 => ([(h0, .inr (1, [.ref ht, .int z_, .int (nI r), .int (nI ln), .int (nI lz), .ref qa, .ref qb])), (ht, .inl (cI, 864, .inl tb))] : va_W)) (show (nI ((bld2 [] (gF1 ln lz) ln r).length) : Int32) = nI ((bld (bld2 [] (gF1 ln lz) ln r) (gF1 ln lz r) 0).length) from rfl))
        exact LP14 ((ln - 0) + 1) 0 tb (by omega) htb (Nat.lt_succ_self _) _ _ (hd.sub [0, 1] rfl rfl) _ (lv_sub hl [1, 2, 0] rfl)
  have hd : Hd G A s.heap [(h0, .inr (1, [.ref ht, .int (nI ((bld2 [] (gF1 ln lz) ln 0).length)), .int (nI 0), .int (nI ln), .int (nI lz), .ref qa, .ref qb])), (ht, .inl (cI, 864, .inl tb0))] s.heap [] := hd.cong (congrArg (fun z_ : Int32 => ([(h0, .inr (1, [.ref ht, .int z_, .int (nI 0), .int (nI ln), .int (nI lz), .ref qa, .ref qb])), (ht, .inl (cI, 864, .inl tb0))] : va_W)) (show (nI 0 : Int32) = nI ((bld2 [] (gF1 ln lz) ln 0).length) from rfl))
  exact LP2 ((ln - 0) + 1) 0 tb0 (by omega) (LTc_0 _) (Nat.lt_succ_self _) _ _ (hd.sub [0, 1] rfl rfl) _ (lv_sub hl [1, 0] rfl)
