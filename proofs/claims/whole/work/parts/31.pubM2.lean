set_option maxHeartbeats 4000000 in
set_option maxRecDepth 100000 in
theorem c_X6_image0 (l : Launch) (G : va_G) (cI cZ : ClassId) (m0 : Nat) (cs : Nat) (cg : Nat) (ck : Nat) (c0 : Nat) (c1 : Nat) (c2 : Nat) (c3 : Nat) (c4 : Nat) (c5 : Nat) (cl : Nat) (cp : Nat) (cq : Nat) (cr : Nat) (cn : Nat) (cb : Nat) (cu : Nat) (cv : Nat) (ce : Nat) (wl : Nat) (rd : Nat) (lr : Nat) (tm : Int32) (lgs : Int32) (n : Nat) (z : Nat) (op : Int32) (st : Int32) (ea : Int32) (g : Nat → Int32) (f : Nat → Int32) (b0 : Bool) (b1 : Bool) (A_ : Nat → Int32) (B_ : Nat → Int32) : CM l G cI cZ yX6_image cX6_image 3 (some .int) 1 22 0 0 [.ref m0, .int (nI 0)] [(m0, .inr (6, [.ref cs, .ref cg, .ref ck, .ref c0, .ref c1, .ref c2, .ref c3, .ref c4, .ref c5, .int (nI wl), .int (nI rd), .ref cl, .ref cp, .ref cq, .ref cr, .ref cn, .ref cb, .ref cu, .ref cv, .int tm, .int (nI lr), .int lgs, .ref ce])), (cs, .inl (cI, 194, .inl (mkS n z op st ea g f))), (cg, .inl (cI, 388, .inl (imf A_ B_))), (ck, .inl (cZ, 2, .inl (kf b0 b1)))] (fun ov_ wv_ => ov_ = some (.int (nI 1)) ∧ wv_ = [(m0, .inr (6, [.ref cs, .ref cg, .ref ck, .ref c0, .ref c1, .ref c2, .ref c3, .ref c4, .ref c5, .int (nI wl), .int (nI rd), .ref cl, .ref cp, .ref cq, .ref cr, .ref cn, .ref cb, .ref cu, .ref cv, .int tm, .int (nI lr), .int lgs, .ref ce])), (cs, .inl (cI, 194, .inl (mkS n z op st ea g f))), (cg, .inl (cI, 388, .inl (imf (mkS n z op st ea g f) B_))), (ck, .inl (cZ, 2, .inl (kf true b1)))]) := by
  refine CM.of (own := RX6) (by decide) rfl (Nat.le_of_ble_eq_true rfl) ?_
  intro p e R s m args below meth c Q A X hR hret hnm hA fin hd ls hl
  subst hR
  have hx := X.1
  have hb := X.2.1
  have hl : lv_has ls 3 [(0, .ref m0), (1, .int (nI 0))] := hl
  refine lv_iload_n hx hb dX6_image_0 rfl (lv_at hl 1 rfl) ?_
  refine lv_iconst (v := nI 0) hx hb dX6_image_1 (by decide) ?_
  refine lv_iconst (v := nI 1) hx hb dX6_image_2 (by decide) ?_
  refine cR_S (As := [.int (nI 0), .int (nI 0), .int (nI 1)]) (rest := []) X (c_X6_in l G cI cZ (nI 0) (nI 0) (nI 1) ) lk_X6_69 (hd.1.sub (ws' := []) [] rfl) hl.1 rfl rfl (Nat.le_of_ble_eq_true rfl) ⟨Nat.le_of_ble_eq_true rfl, Nat.le_of_ble_eq_true rfl⟩ ⟨Nat.le_of_ble_eq_true rfl, Nat.le_of_ble_eq_true rfl⟩ dX6_image_3 ?_
  refine st_eq (show (b2i (inB (nI 0) (nI 0) (nI 1)) : Int32) = b2i true from congrArg b2i (inB_tt (by omega) (by omega) (by omega))) ?_
  refine b_if_ne (tgt := 12) hx hb dX6_image_6 (by decide) (fun c_6 => ?_) (fun c_6 => ?_)
  · refine lv_iconst (v := nI 0) hx hb dX6_image_12 (by decide) ?_
    refine lv_istore_n (lv' := [(2, .int (nI 0)), (0, .ref m0), (1, .int (nI 0))]) hx hb dX6_image_13 rfl hl (by decide) rfl (fun ls hl => ?_)
    have LP14 : ∀ (fu : Nat) (i : Nat), (i ≤ 194) → (194 - i) < fu → ∀ (H : Heap) (locs : List Loc), Hd G A s.heap [(m0, .inr (6, [.ref cs, .ref cg, .ref ck, .ref c0, .ref c1, .ref c2, .ref c3, .ref c4, .ref c5, .int (nI wl), .int (nI rd), .ref cl, .ref cp, .ref cq, .ref cr, .ref cn, .ref cb, .ref cu, .ref cv, .int tm, .int (nI lr), .int lgs, .ref ce])), (cs, .inl (cI, 194, .inl (mkS n z op st ea g f))), (cg, .inl (cI, 388, .inl (imf (mrg (mkS n z op st ea g f) A_ i) B_))), (ck, .inl (cZ, 2, .inl (kf b0 b1)))] H locs → ∀ (ls : Array Slot), lv_has ls 3 [(0, .ref m0), (1, .int (nI 0)), (2, .int (nI i))] → W p l e ({ frames := 1, cells := 0, slots := 0, locals := 22 } : Room) s m args below meth c H locs 0 0 Q (F0 m 14 ls []) := by
      intro fu
      induction fu with
      | zero =>
        intro i hi hfu
        exact absurd hfu (Nat.not_lt_zero _)
      | succ fu ih14 =>
        intro i hi hfu H locs hd ls hl
        refine lv_iload_n hx hb dX6_image_14 rfl (lv_at hl 2 rfl) ?_
        refine lv_sipush (v := nI 194) hx hb dX6_image_15 (by decide) ?_
        refine n_icmp_ge (tgt := 45) hx hb dX6_image_18 (by decide) (by omega) (by omega) (fun c_18 => ?_) (fun c_18 => ?_)
        · have hd := hd.arr 2 rfl (imf (mkS n z op st ea g f) B_) (fun j hj => by simp only [imf]; by_cases h : j < 194; (rw [if_pos h, if_pos h, mrg_e (by omega)]); (rw [if_neg h, if_neg h]))
          have hd : Hd G A s.heap [(m0, .inr (6, [.ref cs, .ref cg, .ref ck, .ref c0, .ref c1, .ref c2, .ref c3, .ref c4, .ref c5, .int (nI wl), .int (nI rd), .ref cl, .ref cp, .ref cq, .ref cr, .ref cn, .ref cb, .ref cu, .ref cv, .int tm, .int (nI lr), .int lgs, .ref ce])), (cs, .inl (cI, 194, .inl (mkS n z op st ea g f))), (cg, .inl (cI, 388, .inl (imf (mkS n z op st ea g f) B_))), (ck, .inl (cZ, 2, .inl (kf b0 b1)))] H locs := hd
          refine lv_aload_n hx hb dX6_image_45 rfl (lv_at hl 0 rfl) ?_
          refine x_get (C := RX6) (T := TX6) (N := 23) (ci := 6) 2 inT_X6 rfl (by decide) lf_X6_16 rfl X hd.1 0 rfl rfl dX6_image_46 ?_
          refine lv_iload_n hx hb dX6_image_49 rfl (lv_at hl 1 rfl) ?_
          refine lv_iconst (v := nI 1) hx hb dX6_image_50 (by decide) ?_
          refine n_zast X hd 3 rfl (by omega) (by decide) dX6_image_51 (fun H locs hd => ?_)
          have hd : Hd G A s.heap [(m0, .inr (6, [.ref cs, .ref cg, .ref ck, .ref c0, .ref c1, .ref c2, .ref c3, .ref c4, .ref c5, .int (nI wl), .int (nI rd), .ref cl, .ref cp, .ref cq, .ref cr, .ref cn, .ref cb, .ref cu, .ref cv, .int tm, .int (nI lr), .int lgs, .ref ce])), (cs, .inl (cI, 194, .inl (mkS n z op st ea g f))), (cg, .inl (cI, 388, .inl (imf (mkS n z op st ea g f) B_))), (ck, .inl (cZ, 2, .inl (upd (kf b0 b1) 0 (vp_nar .boolean (nI 1)))))] H locs := hd
          have hd := hd.arr 3 rfl (kf true b1) (fun j hj => kf_u0 b0 b1 j)
          have hd : Hd G A s.heap [(m0, .inr (6, [.ref cs, .ref cg, .ref ck, .ref c0, .ref c1, .ref c2, .ref c3, .ref c4, .ref c5, .int (nI wl), .int (nI rd), .ref cl, .ref cp, .ref cq, .ref cr, .ref cn, .ref cb, .ref cu, .ref cv, .int tm, .int (nI lr), .int lgs, .ref ce])), (cs, .inl (cI, 194, .inl (mkS n z op st ea g f))), (cg, .inl (cI, 388, .inl (imf (mkS n z op st ea g f) B_))), (ck, .inl (cZ, 2, .inl (kf true b1)))] H locs := hd
          refine lv_iconst (v := nI 1) hx hb dX6_image_52 (by decide) ?_
          exact (fin _ _ [(m0, .inr (6, [.ref cs, .ref cg, .ref ck, .ref c0, .ref c1, .ref c2, .ref c3, .ref c4, .ref c5, .int (nI wl), .int (nI rd), .ref cl, .ref cp, .ref cq, .ref cr, .ref cn, .ref cb, .ref cu, .ref cv, .int tm, .int (nI lr), .int lgs, .ref ce])), (cs, .inl (cI, 194, .inl (mkS n z op st ea g f))), (cg, .inl (cI, 388, .inl (imf (mkS n z op st ea g f) B_))), (ck, .inl (cZ, 2, .inl (kf true b1)))] _ _ (hd.sub [0, 1, 2, 3] rfl rfl)).2.1 (nI 1) rfl ⟨rfl, rfl⟩ dX6_image_53
        · refine lv_aload_n hx hb dX6_image_21 rfl (lv_at hl 0 rfl) ?_
          refine x_get (C := RX6) (T := TX6) (N := 23) (ci := 6) 1 inT_X6 rfl (by decide) lf_X6_13 rfl X hd.1 0 rfl rfl dX6_image_22 ?_
          refine lv_sipush (v := nI 194) hx hb dX6_image_25 (by decide) ?_
          refine lv_iload_n hx hb dX6_image_28 rfl (lv_at hl 1 rfl) ?_
          refine n_mul hx hb dX6_image_29  ?_
          refine lv_iload_n hx hb dX6_image_30 rfl (lv_at hl 2 rfl) ?_
          refine n_add hx hb dX6_image_31  ?_
          refine lv_aload_n hx hb dX6_image_32 rfl (lv_at hl 0 rfl) ?_
          refine x_get (C := RX6) (T := TX6) (N := 23) (ci := 6) 0 inT_X6 rfl (by decide) lf_X6_7 rfl X hd.1 0 rfl rfl dX6_image_33 ?_
          refine lv_iload_n hx hb dX6_image_36 rfl (lv_at hl 2 rfl) ?_
          refine n_iald X hd.1 1 rfl (by omega) (by decide) dX6_image_37 ?_
          refine n_iast X hd 2 rfl (by omega) (by decide) dX6_image_38 (fun H locs hd => ?_)
          have hd : Hd G A s.heap [(m0, .inr (6, [.ref cs, .ref cg, .ref ck, .ref c0, .ref c1, .ref c2, .ref c3, .ref c4, .ref c5, .int (nI wl), .int (nI rd), .ref cl, .ref cp, .ref cq, .ref cr, .ref cn, .ref cb, .ref cu, .ref cv, .int tm, .int (nI lr), .int lgs, .ref ce])), (cs, .inl (cI, 194, .inl (mkS n z op st ea g f))), (cg, .inl (cI, 388, .inl (upd (imf (mrg (mkS n z op st ea g f) A_ i) B_) ((194 * 0) + i) ((mkS n z op st ea g f) i)))), (ck, .inl (cZ, 2, .inl (kf b0 b1)))] H locs := hd
          have hd := hd.arr 2 rfl (imf (upd (mrg (mkS n z op st ea g f) A_ i) i ((mkS n z op st ea g f) i)) B_) (fun j _ => imf_u0 _ _ _ (by omega) j)
          have hd : Hd G A s.heap [(m0, .inr (6, [.ref cs, .ref cg, .ref ck, .ref c0, .ref c1, .ref c2, .ref c3, .ref c4, .ref c5, .int (nI wl), .int (nI rd), .ref cl, .ref cp, .ref cq, .ref cr, .ref cn, .ref cb, .ref cu, .ref cv, .int tm, .int (nI lr), .int lgs, .ref ce])), (cs, .inl (cI, 194, .inl (mkS n z op st ea g f))), (cg, .inl (cI, 388, .inl (imf (upd (mrg (mkS n z op st ea g f) A_ i) i ((mkS n z op st ea g f) i)) B_))), (ck, .inl (cZ, 2, .inl (kf b0 b1)))] H locs := hd
          refine lv_iinc (v := nI (i + 1)) (lv' := [(2, .int (nI (i + 1))), (0, .ref m0), (1, .int (nI 0))]) hx hb dX6_image_39 hl (k := 2) rfl (nI_1 _) (by decide) rfl (fun ls hl => ?_)
          refine lv_goto (tgt := 14) hx hb dX6_image_42 (by decide) ?_
          have hd := hd.arr 2 rfl (imf (mrg (mkS n z op st ea g f) A_ (i + 1)) B_) (fun j _ => by rw [show upd (mrg (mkS n z op st ea g f) A_ i) i ((mkS n z op st ea g f) i) = mrg (mkS n z op st ea g f) A_ (i + 1) from funext (fun q => mrg_s _ _ i q)])
          have hd : Hd G A s.heap [(m0, .inr (6, [.ref cs, .ref cg, .ref ck, .ref c0, .ref c1, .ref c2, .ref c3, .ref c4, .ref c5, .int (nI wl), .int (nI rd), .ref cl, .ref cp, .ref cq, .ref cr, .ref cn, .ref cb, .ref cu, .ref cv, .int tm, .int (nI lr), .int lgs, .ref ce])), (cs, .inl (cI, 194, .inl (mkS n z op st ea g f))), (cg, .inl (cI, 388, .inl (imf (mrg (mkS n z op st ea g f) A_ (i + 1)) B_))), (ck, .inl (cZ, 2, .inl (kf b0 b1)))] H locs := hd
          exact ih14  (i + 1) (by omega) (by omega) _ _ (hd.sub [0, 1, 2, 3] rfl rfl) _ (lv_sub hl [1, 2, 0] rfl)
    have hd := hd.arr 2 rfl (imf (mrg (mkS n z op st ea g f) A_ 0) B_) (fun j _ => by rw [show A_ = mrg (mkS n z op st ea g f) A_ 0 from funext (fun q => mrg_0 _ _ q)]; rfl)
    have hd : Hd G A s.heap [(m0, .inr (6, [.ref cs, .ref cg, .ref ck, .ref c0, .ref c1, .ref c2, .ref c3, .ref c4, .ref c5, .int (nI wl), .int (nI rd), .ref cl, .ref cp, .ref cq, .ref cr, .ref cn, .ref cb, .ref cu, .ref cv, .int tm, .int (nI lr), .int lgs, .ref ce])), (cs, .inl (cI, 194, .inl (mkS n z op st ea g f))), (cg, .inl (cI, 388, .inl (imf (mrg (mkS n z op st ea g f) A_ 0) B_))), (ck, .inl (cZ, 2, .inl (kf b0 b1)))] s.heap [] := hd
    exact LP14 ((194 - 0) + 1) 0 (Nat.zero_le _) (Nat.lt_succ_self _) _ _ (hd.sub [0, 1, 2, 3] rfl rfl) _ (lv_sub hl [1, 2, 0] rfl)
  · exact absurd ((rfl : true = true).symm.trans c_6) (by decide)

set_option maxHeartbeats 4000000 in
set_option maxRecDepth 100000 in
theorem c_X6_restore0 (l : Launch) (G : va_G) (cI cZ : ClassId) (m0 : Nat) (cs : Nat) (cg : Nat) (ck : Nat) (c0 : Nat) (c1 : Nat) (c2 : Nat) (c3 : Nat) (c4 : Nat) (c5 : Nat) (cl : Nat) (cp : Nat) (cq : Nat) (cr : Nat) (cn : Nat) (cb : Nat) (cu : Nat) (cv : Nat) (ce : Nat) (wl : Nat) (rd : Nat) (lr : Nat) (tm : Int32) (lgs : Int32) (n : Nat) (z : Nat) (op : Int32) (st : Int32) (ea : Int32) (g : Nat → Int32) (f : Nat → Int32) (b1 : Bool) (jn0 : Nat) (jz0 : Nat) (jo0 : Int32) (jt0 : Int32) (je0 : Int32) (jg0 : Nat → Int32) (jf0 : Nat → Int32) (B_ : Nat → Int32) : CM l G cI cZ yX6_restore cX6_restore 3 (some .int) 1 22 0 0 [.ref m0, .int (nI 0)] [(m0, .inr (6, [.ref cs, .ref cg, .ref ck, .ref c0, .ref c1, .ref c2, .ref c3, .ref c4, .ref c5, .int (nI wl), .int (nI rd), .ref cl, .ref cp, .ref cq, .ref cr, .ref cn, .ref cb, .ref cu, .ref cv, .int tm, .int (nI lr), .int lgs, .ref ce])), (cs, .inl (cI, 194, .inl (mkS n z op st ea g f))), (cg, .inl (cI, 388, .inl (imf (mkS jn0 jz0 jo0 jt0 je0 jg0 jf0) B_))), (ck, .inl (cZ, 2, .inl (kf true b1)))] (fun ov_ wv_ => ov_ = some (.int (nI 1)) ∧ wv_ = [(m0, .inr (6, [.ref cs, .ref cg, .ref ck, .ref c0, .ref c1, .ref c2, .ref c3, .ref c4, .ref c5, .int (nI wl), .int (nI rd), .ref cl, .ref cp, .ref cq, .ref cr, .ref cn, .ref cb, .ref cu, .ref cv, .int tm, .int (nI lr), .int lgs, .ref ce])), (cs, .inl (cI, 194, .inl (mkS jn0 jz0 jo0 jt0 je0 jg0 jf0))), (cg, .inl (cI, 388, .inl (imf (mkS jn0 jz0 jo0 jt0 je0 jg0 jf0) B_))), (ck, .inl (cZ, 2, .inl (kf true b1)))]) := by
  refine CM.of (own := RX6) (by decide) rfl (Nat.le_of_ble_eq_true rfl) ?_
  intro p e R s m args below meth c Q A X hR hret hnm hA fin hd ls hl
  subst hR
  have hx := X.1
  have hb := X.2.1
  have hl : lv_has ls 3 [(0, .ref m0), (1, .int (nI 0))] := hl
  refine lv_iload_n hx hb dX6_restore_0 rfl (lv_at hl 1 rfl) ?_
  refine lv_iconst (v := nI 0) hx hb dX6_restore_1 (by decide) ?_
  refine lv_iconst (v := nI 1) hx hb dX6_restore_2 (by decide) ?_
  refine cR_S (As := [.int (nI 0), .int (nI 0), .int (nI 1)]) (rest := []) X (c_X6_in l G cI cZ (nI 0) (nI 0) (nI 1) ) lk_X6_69 (hd.1.sub (ws' := []) [] rfl) hl.1 rfl rfl (Nat.le_of_ble_eq_true rfl) ⟨Nat.le_of_ble_eq_true rfl, Nat.le_of_ble_eq_true rfl⟩ ⟨Nat.le_of_ble_eq_true rfl, Nat.le_of_ble_eq_true rfl⟩ dX6_restore_3 ?_
  refine st_eq (show (b2i (inB (nI 0) (nI 0) (nI 1)) : Int32) = b2i true from congrArg b2i (inB_tt (by omega) (by omega) (by omega))) ?_
  refine b_if_ne (tgt := 12) hx hb dX6_restore_6 (by decide) (fun c_6 => ?_) (fun c_6 => ?_)
  · refine lv_aload_n hx hb dX6_restore_12 rfl (lv_at hl 0 rfl) ?_
    refine x_get (C := RX6) (T := TX6) (N := 23) (ci := 6) 2 inT_X6 rfl (by decide) lf_X6_16 rfl X hd.1 0 rfl rfl dX6_restore_13 ?_
    refine lv_iload_n hx hb dX6_restore_16 rfl (lv_at hl 1 rfl) ?_
    refine n_zald X hd.1 3 rfl (by omega) (by decide) dX6_restore_17 ?_
    refine st_eq (show ((kf true b1) 0 : Int32) = b2i true from rfl) ?_
    refine b_if_ne (tgt := 24) hx hb dX6_restore_18 (by decide) (fun c_18 => ?_) (fun c_18 => ?_)
    · refine lv_iconst (v := nI 0) hx hb dX6_restore_24 (by decide) ?_
      refine lv_istore_n (lv' := [(2, .int (nI 0)), (0, .ref m0), (1, .int (nI 0))]) hx hb dX6_restore_25 rfl hl (by decide) rfl (fun ls hl => ?_)
      have LP26 : ∀ (fu : Nat) (i : Nat), (i ≤ 194) → (194 - i) < fu → ∀ (H : Heap) (locs : List Loc), Hd G A s.heap [(m0, .inr (6, [.ref cs, .ref cg, .ref ck, .ref c0, .ref c1, .ref c2, .ref c3, .ref c4, .ref c5, .int (nI wl), .int (nI rd), .ref cl, .ref cp, .ref cq, .ref cr, .ref cn, .ref cb, .ref cu, .ref cv, .int tm, .int (nI lr), .int lgs, .ref ce])), (cs, .inl (cI, 194, .inl (mrg (mkS jn0 jz0 jo0 jt0 je0 jg0 jf0) (mkS n z op st ea g f) i))), (cg, .inl (cI, 388, .inl (imf (mkS jn0 jz0 jo0 jt0 je0 jg0 jf0) B_))), (ck, .inl (cZ, 2, .inl (kf true b1)))] H locs → ∀ (ls : Array Slot), lv_has ls 3 [(0, .ref m0), (1, .int (nI 0)), (2, .int (nI i))] → W p l e ({ frames := 1, cells := 0, slots := 0, locals := 22 } : Room) s m args below meth c H locs 0 0 Q (F0 m 26 ls []) := by
        intro fu
        induction fu with
        | zero =>
          intro i hi hfu
          exact absurd hfu (Nat.not_lt_zero _)
        | succ fu ih26 =>
          intro i hi hfu H locs hd ls hl
          refine lv_iload_n hx hb dX6_restore_26 rfl (lv_at hl 2 rfl) ?_
          refine lv_sipush (v := nI 194) hx hb dX6_restore_27 (by decide) ?_
          refine n_icmp_ge (tgt := 57) hx hb dX6_restore_30 (by decide) (by omega) (by omega) (fun c_30 => ?_) (fun c_30 => ?_)
          · have hd := hd.arr 1 rfl (mkS jn0 jz0 jo0 jt0 je0 jg0 jf0) (fun j hj => mrg_e (by omega))
            have hd : Hd G A s.heap [(m0, .inr (6, [.ref cs, .ref cg, .ref ck, .ref c0, .ref c1, .ref c2, .ref c3, .ref c4, .ref c5, .int (nI wl), .int (nI rd), .ref cl, .ref cp, .ref cq, .ref cr, .ref cn, .ref cb, .ref cu, .ref cv, .int tm, .int (nI lr), .int lgs, .ref ce])), (cs, .inl (cI, 194, .inl (mkS jn0 jz0 jo0 jt0 je0 jg0 jf0))), (cg, .inl (cI, 388, .inl (imf (mkS jn0 jz0 jo0 jt0 je0 jg0 jf0) B_))), (ck, .inl (cZ, 2, .inl (kf true b1)))] H locs := hd
            refine lv_iconst (v := nI 1) hx hb dX6_restore_57 (by decide) ?_
            exact (fin _ _ [(m0, .inr (6, [.ref cs, .ref cg, .ref ck, .ref c0, .ref c1, .ref c2, .ref c3, .ref c4, .ref c5, .int (nI wl), .int (nI rd), .ref cl, .ref cp, .ref cq, .ref cr, .ref cn, .ref cb, .ref cu, .ref cv, .int tm, .int (nI lr), .int lgs, .ref ce])), (cs, .inl (cI, 194, .inl (mkS jn0 jz0 jo0 jt0 je0 jg0 jf0))), (cg, .inl (cI, 388, .inl (imf (mkS jn0 jz0 jo0 jt0 je0 jg0 jf0) B_))), (ck, .inl (cZ, 2, .inl (kf true b1)))] _ _ (hd.sub [0, 1, 2, 3] rfl rfl)).2.1 (nI 1) rfl ⟨rfl, rfl⟩ dX6_restore_58
          · refine lv_aload_n hx hb dX6_restore_33 rfl (lv_at hl 0 rfl) ?_
            refine x_get (C := RX6) (T := TX6) (N := 23) (ci := 6) 0 inT_X6 rfl (by decide) lf_X6_7 rfl X hd.1 0 rfl rfl dX6_restore_34 ?_
            refine lv_iload_n hx hb dX6_restore_37 rfl (lv_at hl 2 rfl) ?_
            refine lv_aload_n hx hb dX6_restore_38 rfl (lv_at hl 0 rfl) ?_
            refine x_get (C := RX6) (T := TX6) (N := 23) (ci := 6) 1 inT_X6 rfl (by decide) lf_X6_13 rfl X hd.1 0 rfl rfl dX6_restore_39 ?_
            refine lv_sipush (v := nI 194) hx hb dX6_restore_42 (by decide) ?_
            refine lv_iload_n hx hb dX6_restore_45 rfl (lv_at hl 1 rfl) ?_
            refine n_mul hx hb dX6_restore_46  ?_
            refine lv_iload_n hx hb dX6_restore_47 rfl (lv_at hl 2 rfl) ?_
            refine n_add hx hb dX6_restore_48  ?_
            refine n_iald X hd.1 2 rfl (by omega) (by decide) dX6_restore_49 ?_
            refine st_eq (show ((imf (mkS jn0 jz0 jo0 jt0 je0 jg0 jf0) B_) ((194 * 0) + i) : Int32) = (mkS jn0 jz0 jo0 jt0 je0 jg0 jf0) i from imf_0 _ _ (by omega)) ?_
            refine n_iast X hd 1 rfl (by omega) (by decide) dX6_restore_50 (fun H locs hd => ?_)
            have hd : Hd G A s.heap [(m0, .inr (6, [.ref cs, .ref cg, .ref ck, .ref c0, .ref c1, .ref c2, .ref c3, .ref c4, .ref c5, .int (nI wl), .int (nI rd), .ref cl, .ref cp, .ref cq, .ref cr, .ref cn, .ref cb, .ref cu, .ref cv, .int tm, .int (nI lr), .int lgs, .ref ce])), (cs, .inl (cI, 194, .inl (upd (mrg (mkS jn0 jz0 jo0 jt0 je0 jg0 jf0) (mkS n z op st ea g f) i) i ((mkS jn0 jz0 jo0 jt0 je0 jg0 jf0) i)))), (cg, .inl (cI, 388, .inl (imf (mkS jn0 jz0 jo0 jt0 je0 jg0 jf0) B_))), (ck, .inl (cZ, 2, .inl (kf true b1)))] H locs := hd
            refine lv_iinc (v := nI (i + 1)) (lv' := [(2, .int (nI (i + 1))), (0, .ref m0), (1, .int (nI 0))]) hx hb dX6_restore_51 hl (k := 2) rfl (nI_1 _) (by decide) rfl (fun ls hl => ?_)
            refine lv_goto (tgt := 26) hx hb dX6_restore_54 (by decide) ?_
            have hd := hd.arr 1 rfl (mrg (mkS jn0 jz0 jo0 jt0 je0 jg0 jf0) (mkS n z op st ea g f) (i + 1)) (fun j _ => mrg_s _ _ i j)
            have hd : Hd G A s.heap [(m0, .inr (6, [.ref cs, .ref cg, .ref ck, .ref c0, .ref c1, .ref c2, .ref c3, .ref c4, .ref c5, .int (nI wl), .int (nI rd), .ref cl, .ref cp, .ref cq, .ref cr, .ref cn, .ref cb, .ref cu, .ref cv, .int tm, .int (nI lr), .int lgs, .ref ce])), (cs, .inl (cI, 194, .inl (mrg (mkS jn0 jz0 jo0 jt0 je0 jg0 jf0) (mkS n z op st ea g f) (i + 1)))), (cg, .inl (cI, 388, .inl (imf (mkS jn0 jz0 jo0 jt0 je0 jg0 jf0) B_))), (ck, .inl (cZ, 2, .inl (kf true b1)))] H locs := hd
            exact ih26  (i + 1) (by omega) (by omega) _ _ (hd.sub [0, 1, 2, 3] rfl rfl) _ (lv_sub hl [1, 2, 0] rfl)
      have hd := hd.arr 1 rfl (mrg (mkS jn0 jz0 jo0 jt0 je0 jg0 jf0) (mkS n z op st ea g f) 0) (fun j _ => mrg_0 _ _ j)
      have hd : Hd G A s.heap [(m0, .inr (6, [.ref cs, .ref cg, .ref ck, .ref c0, .ref c1, .ref c2, .ref c3, .ref c4, .ref c5, .int (nI wl), .int (nI rd), .ref cl, .ref cp, .ref cq, .ref cr, .ref cn, .ref cb, .ref cu, .ref cv, .int tm, .int (nI lr), .int lgs, .ref ce])), (cs, .inl (cI, 194, .inl (mrg (mkS jn0 jz0 jo0 jt0 je0 jg0 jf0) (mkS n z op st ea g f) 0))), (cg, .inl (cI, 388, .inl (imf (mkS jn0 jz0 jo0 jt0 je0 jg0 jf0) B_))), (ck, .inl (cZ, 2, .inl (kf true b1)))] s.heap [] := hd
      exact LP26 ((194 - 0) + 1) 0 (Nat.zero_le _) (Nat.lt_succ_self _) _ _ (hd.sub [0, 1, 2, 3] rfl rfl) _ (lv_sub hl [1, 2, 0] rfl)
    · exact absurd ((rfl : true = true).symm.trans c_18) (by decide)
  · exact absurd ((rfl : true = true).symm.trans c_6) (by decide)

set_option maxHeartbeats 4000000 in
set_option maxRecDepth 100000 in
theorem c_X6_restoreN0 (l : Launch) (G : va_G) (cI cZ : ClassId) (m0 : Nat) (cs : Nat) (cg : Nat) (ck : Nat) (c0 : Nat) (c1 : Nat) (c2 : Nat) (c3 : Nat) (c4 : Nat) (c5 : Nat) (cl : Nat) (cp : Nat) (cq : Nat) (cr : Nat) (cn : Nat) (cb : Nat) (cu : Nat) (cv : Nat) (ce : Nat) (wl : Nat) (rd : Nat) (lr : Nat) (tm : Int32) (lgs : Int32) (b1 : Bool) : CR l G cI cZ yX6_restore cX6_restore 3 .int 1 22 [.ref m0, .int (nI 0)] [(m0, .inr (6, [.ref cs, .ref cg, .ref ck, .ref c0, .ref c1, .ref c2, .ref c3, .ref c4, .ref c5, .int (nI wl), .int (nI rd), .ref cl, .ref cp, .ref cq, .ref cr, .ref cn, .ref cb, .ref cu, .ref cv, .int tm, .int (nI lr), .int lgs, .ref ce])), (ck, .inl (cZ, 2, .inl (kf false b1)))] (-3) := by
  refine CR.of (own := RX6) (by decide) rfl rfl (Nat.le_of_ble_eq_true rfl) ?_
  intro p e R s m args below meth c H Q X hR fin hP ls hl
  subst hR
  have hx := X.1
  have hb := X.2.1
  have hl : lv_has ls 3 [(0, .ref m0), (1, .int (nI 0))] := hl
  refine lv_iload_n hx hb dX6_restore_0 rfl (lv_at hl 1 rfl) ?_
  refine lv_iconst (v := nI 0) hx hb dX6_restore_1 (by decide) ?_
  refine lv_iconst (v := nI 1) hx hb dX6_restore_2 (by decide) ?_
  refine cR_S (As := [.int (nI 0), .int (nI 0), .int (nI 1)]) (rest := []) X (c_X6_in l G cI cZ (nI 0) (nI 0) (nI 1) ) lk_X6_69 (hP.sub (ws' := []) [] rfl) hl.1 rfl rfl (Nat.le_of_ble_eq_true rfl) ⟨Nat.le_of_ble_eq_true rfl, Nat.le_of_ble_eq_true rfl⟩ ⟨Nat.le_of_ble_eq_true rfl, Nat.le_of_ble_eq_true rfl⟩ dX6_restore_3 ?_
  refine st_eq (show (b2i (inB (nI 0) (nI 0) (nI 1)) : Int32) = b2i true from congrArg b2i (inB_tt (by omega) (by omega) (by omega))) ?_
  refine b_if_ne (tgt := 12) hx hb dX6_restore_6 (by decide) (fun c_6 => ?_) (fun c_6 => ?_)
  · refine lv_aload_n hx hb dX6_restore_12 rfl (lv_at hl 0 rfl) ?_
    refine x_get (C := RX6) (T := TX6) (N := 23) (ci := 6) 2 inT_X6 rfl (by decide) lf_X6_16 rfl X hP 0 rfl rfl dX6_restore_13 ?_
    refine lv_iload_n hx hb dX6_restore_16 rfl (lv_at hl 1 rfl) ?_
    refine n_zald X hP 1 rfl (by omega) (by decide) dX6_restore_17 ?_
    refine st_eq (show ((kf false b1) 0 : Int32) = b2i false from rfl) ?_
    refine b_if_ne (tgt := 24) hx hb dX6_restore_18 (by decide) (fun c_18 => ?_) (fun c_18 => ?_)
    · exact absurd ((rfl : false = false).symm.trans c_18) (by decide)
    · refine lv_bipush (v := (-3)) hx hb dX6_restore_21 (by decide) ?_
      exact fin _ _ dX6_restore_23
  · exact absurd ((rfl : true = true).symm.trans c_6) (by decide)

set_option maxHeartbeats 4000000 in
set_option maxRecDepth 100000 in
theorem c_X6_image1 (l : Launch) (G : va_G) (cI cZ : ClassId) (m0 : Nat) (cs : Nat) (cg : Nat) (ck : Nat) (c0 : Nat) (c1 : Nat) (c2 : Nat) (c3 : Nat) (c4 : Nat) (c5 : Nat) (cl : Nat) (cp : Nat) (cq : Nat) (cr : Nat) (cn : Nat) (cb : Nat) (cu : Nat) (cv : Nat) (ce : Nat) (wl : Nat) (rd : Nat) (lr : Nat) (tm : Int32) (lgs : Int32) (n : Nat) (z : Nat) (op : Int32) (st : Int32) (ea : Int32) (g : Nat → Int32) (f : Nat → Int32) (b0 : Bool) (b1 : Bool) (A_ : Nat → Int32) (B_ : Nat → Int32) : CM l G cI cZ yX6_image cX6_image 3 (some .int) 1 22 0 0 [.ref m0, .int (nI 1)] [(m0, .inr (6, [.ref cs, .ref cg, .ref ck, .ref c0, .ref c1, .ref c2, .ref c3, .ref c4, .ref c5, .int (nI wl), .int (nI rd), .ref cl, .ref cp, .ref cq, .ref cr, .ref cn, .ref cb, .ref cu, .ref cv, .int tm, .int (nI lr), .int lgs, .ref ce])), (cs, .inl (cI, 194, .inl (mkS n z op st ea g f))), (cg, .inl (cI, 388, .inl (imf A_ B_))), (ck, .inl (cZ, 2, .inl (kf b0 b1)))] (fun ov_ wv_ => ov_ = some (.int (nI 1)) ∧ wv_ = [(m0, .inr (6, [.ref cs, .ref cg, .ref ck, .ref c0, .ref c1, .ref c2, .ref c3, .ref c4, .ref c5, .int (nI wl), .int (nI rd), .ref cl, .ref cp, .ref cq, .ref cr, .ref cn, .ref cb, .ref cu, .ref cv, .int tm, .int (nI lr), .int lgs, .ref ce])), (cs, .inl (cI, 194, .inl (mkS n z op st ea g f))), (cg, .inl (cI, 388, .inl (imf A_ (mkS n z op st ea g f)))), (ck, .inl (cZ, 2, .inl (kf b0 true)))]) := by
  refine CM.of (own := RX6) (by decide) rfl (Nat.le_of_ble_eq_true rfl) ?_
  intro p e R s m args below meth c Q A X hR hret hnm hA fin hd ls hl
  subst hR
  have hx := X.1
  have hb := X.2.1
  have hl : lv_has ls 3 [(0, .ref m0), (1, .int (nI 1))] := hl
  refine lv_iload_n hx hb dX6_image_0 rfl (lv_at hl 1 rfl) ?_
  refine lv_iconst (v := nI 0) hx hb dX6_image_1 (by decide) ?_
  refine lv_iconst (v := nI 1) hx hb dX6_image_2 (by decide) ?_
  refine cR_S (As := [.int (nI 1), .int (nI 0), .int (nI 1)]) (rest := []) X (c_X6_in l G cI cZ (nI 1) (nI 0) (nI 1) ) lk_X6_69 (hd.1.sub (ws' := []) [] rfl) hl.1 rfl rfl (Nat.le_of_ble_eq_true rfl) ⟨Nat.le_of_ble_eq_true rfl, Nat.le_of_ble_eq_true rfl⟩ ⟨Nat.le_of_ble_eq_true rfl, Nat.le_of_ble_eq_true rfl⟩ dX6_image_3 ?_
  refine st_eq (show (b2i (inB (nI 1) (nI 0) (nI 1)) : Int32) = b2i true from congrArg b2i (inB_tt (by omega) (by omega) (by omega))) ?_
  refine b_if_ne (tgt := 12) hx hb dX6_image_6 (by decide) (fun c_6 => ?_) (fun c_6 => ?_)
  · refine lv_iconst (v := nI 0) hx hb dX6_image_12 (by decide) ?_
    refine lv_istore_n (lv' := [(2, .int (nI 0)), (0, .ref m0), (1, .int (nI 1))]) hx hb dX6_image_13 rfl hl (by decide) rfl (fun ls hl => ?_)
    have LP14 : ∀ (fu : Nat) (i : Nat), (i ≤ 194) → (194 - i) < fu → ∀ (H : Heap) (locs : List Loc), Hd G A s.heap [(m0, .inr (6, [.ref cs, .ref cg, .ref ck, .ref c0, .ref c1, .ref c2, .ref c3, .ref c4, .ref c5, .int (nI wl), .int (nI rd), .ref cl, .ref cp, .ref cq, .ref cr, .ref cn, .ref cb, .ref cu, .ref cv, .int tm, .int (nI lr), .int lgs, .ref ce])), (cs, .inl (cI, 194, .inl (mkS n z op st ea g f))), (cg, .inl (cI, 388, .inl (imf A_ (mrg (mkS n z op st ea g f) B_ i)))), (ck, .inl (cZ, 2, .inl (kf b0 b1)))] H locs → ∀ (ls : Array Slot), lv_has ls 3 [(0, .ref m0), (1, .int (nI 1)), (2, .int (nI i))] → W p l e ({ frames := 1, cells := 0, slots := 0, locals := 22 } : Room) s m args below meth c H locs 0 0 Q (F0 m 14 ls []) := by
      intro fu
      induction fu with
      | zero =>
        intro i hi hfu
        exact absurd hfu (Nat.not_lt_zero _)
      | succ fu ih14 =>
        intro i hi hfu H locs hd ls hl
        refine lv_iload_n hx hb dX6_image_14 rfl (lv_at hl 2 rfl) ?_
        refine lv_sipush (v := nI 194) hx hb dX6_image_15 (by decide) ?_
        refine n_icmp_ge (tgt := 45) hx hb dX6_image_18 (by decide) (by omega) (by omega) (fun c_18 => ?_) (fun c_18 => ?_)
        · have hd := hd.arr 2 rfl (imf A_ (mkS n z op st ea g f)) (fun j hj => by simp only [imf]; by_cases h : j < 194; (rw [if_pos h, if_pos h]); (rw [if_neg h, if_neg h, mrg_e (by omega)]))
          have hd : Hd G A s.heap [(m0, .inr (6, [.ref cs, .ref cg, .ref ck, .ref c0, .ref c1, .ref c2, .ref c3, .ref c4, .ref c5, .int (nI wl), .int (nI rd), .ref cl, .ref cp, .ref cq, .ref cr, .ref cn, .ref cb, .ref cu, .ref cv, .int tm, .int (nI lr), .int lgs, .ref ce])), (cs, .inl (cI, 194, .inl (mkS n z op st ea g f))), (cg, .inl (cI, 388, .inl (imf A_ (mkS n z op st ea g f)))), (ck, .inl (cZ, 2, .inl (kf b0 b1)))] H locs := hd
          refine lv_aload_n hx hb dX6_image_45 rfl (lv_at hl 0 rfl) ?_
          refine x_get (C := RX6) (T := TX6) (N := 23) (ci := 6) 2 inT_X6 rfl (by decide) lf_X6_16 rfl X hd.1 0 rfl rfl dX6_image_46 ?_
          refine lv_iload_n hx hb dX6_image_49 rfl (lv_at hl 1 rfl) ?_
          refine lv_iconst (v := nI 1) hx hb dX6_image_50 (by decide) ?_
          refine n_zast X hd 3 rfl (by omega) (by decide) dX6_image_51 (fun H locs hd => ?_)
          have hd : Hd G A s.heap [(m0, .inr (6, [.ref cs, .ref cg, .ref ck, .ref c0, .ref c1, .ref c2, .ref c3, .ref c4, .ref c5, .int (nI wl), .int (nI rd), .ref cl, .ref cp, .ref cq, .ref cr, .ref cn, .ref cb, .ref cu, .ref cv, .int tm, .int (nI lr), .int lgs, .ref ce])), (cs, .inl (cI, 194, .inl (mkS n z op st ea g f))), (cg, .inl (cI, 388, .inl (imf A_ (mkS n z op st ea g f)))), (ck, .inl (cZ, 2, .inl (upd (kf b0 b1) 1 (vp_nar .boolean (nI 1)))))] H locs := hd
          have hd := hd.arr 3 rfl (kf b0 true) (fun j hj => kf_u1 b0 b1 hj)
          have hd : Hd G A s.heap [(m0, .inr (6, [.ref cs, .ref cg, .ref ck, .ref c0, .ref c1, .ref c2, .ref c3, .ref c4, .ref c5, .int (nI wl), .int (nI rd), .ref cl, .ref cp, .ref cq, .ref cr, .ref cn, .ref cb, .ref cu, .ref cv, .int tm, .int (nI lr), .int lgs, .ref ce])), (cs, .inl (cI, 194, .inl (mkS n z op st ea g f))), (cg, .inl (cI, 388, .inl (imf A_ (mkS n z op st ea g f)))), (ck, .inl (cZ, 2, .inl (kf b0 true)))] H locs := hd
          refine lv_iconst (v := nI 1) hx hb dX6_image_52 (by decide) ?_
          exact (fin _ _ [(m0, .inr (6, [.ref cs, .ref cg, .ref ck, .ref c0, .ref c1, .ref c2, .ref c3, .ref c4, .ref c5, .int (nI wl), .int (nI rd), .ref cl, .ref cp, .ref cq, .ref cr, .ref cn, .ref cb, .ref cu, .ref cv, .int tm, .int (nI lr), .int lgs, .ref ce])), (cs, .inl (cI, 194, .inl (mkS n z op st ea g f))), (cg, .inl (cI, 388, .inl (imf A_ (mkS n z op st ea g f)))), (ck, .inl (cZ, 2, .inl (kf b0 true)))] _ _ (hd.sub [0, 1, 2, 3] rfl rfl)).2.1 (nI 1) rfl ⟨rfl, rfl⟩ dX6_image_53
        · refine lv_aload_n hx hb dX6_image_21 rfl (lv_at hl 0 rfl) ?_
          refine x_get (C := RX6) (T := TX6) (N := 23) (ci := 6) 1 inT_X6 rfl (by decide) lf_X6_13 rfl X hd.1 0 rfl rfl dX6_image_22 ?_
          refine lv_sipush (v := nI 194) hx hb dX6_image_25 (by decide) ?_
          refine lv_iload_n hx hb dX6_image_28 rfl (lv_at hl 1 rfl) ?_
          refine n_mul hx hb dX6_image_29  ?_
          refine lv_iload_n hx hb dX6_image_30 rfl (lv_at hl 2 rfl) ?_
          refine n_add hx hb dX6_image_31  ?_
          refine lv_aload_n hx hb dX6_image_32 rfl (lv_at hl 0 rfl) ?_
          refine x_get (C := RX6) (T := TX6) (N := 23) (ci := 6) 0 inT_X6 rfl (by decide) lf_X6_7 rfl X hd.1 0 rfl rfl dX6_image_33 ?_
          refine lv_iload_n hx hb dX6_image_36 rfl (lv_at hl 2 rfl) ?_
          refine n_iald X hd.1 1 rfl (by omega) (by decide) dX6_image_37 ?_
          refine n_iast X hd 2 rfl (by omega) (by decide) dX6_image_38 (fun H locs hd => ?_)
          have hd : Hd G A s.heap [(m0, .inr (6, [.ref cs, .ref cg, .ref ck, .ref c0, .ref c1, .ref c2, .ref c3, .ref c4, .ref c5, .int (nI wl), .int (nI rd), .ref cl, .ref cp, .ref cq, .ref cr, .ref cn, .ref cb, .ref cu, .ref cv, .int tm, .int (nI lr), .int lgs, .ref ce])), (cs, .inl (cI, 194, .inl (mkS n z op st ea g f))), (cg, .inl (cI, 388, .inl (upd (imf A_ (mrg (mkS n z op st ea g f) B_ i)) ((194 * 1) + i) ((mkS n z op st ea g f) i)))), (ck, .inl (cZ, 2, .inl (kf b0 b1)))] H locs := hd
          have hd := hd.arr 2 rfl (imf A_ (upd (mrg (mkS n z op st ea g f) B_ i) i ((mkS n z op st ea g f) i))) (fun j _ => imf_u1 _ _ _ (by omega) j)
          have hd : Hd G A s.heap [(m0, .inr (6, [.ref cs, .ref cg, .ref ck, .ref c0, .ref c1, .ref c2, .ref c3, .ref c4, .ref c5, .int (nI wl), .int (nI rd), .ref cl, .ref cp, .ref cq, .ref cr, .ref cn, .ref cb, .ref cu, .ref cv, .int tm, .int (nI lr), .int lgs, .ref ce])), (cs, .inl (cI, 194, .inl (mkS n z op st ea g f))), (cg, .inl (cI, 388, .inl (imf A_ (upd (mrg (mkS n z op st ea g f) B_ i) i ((mkS n z op st ea g f) i))))), (ck, .inl (cZ, 2, .inl (kf b0 b1)))] H locs := hd
          refine lv_iinc (v := nI (i + 1)) (lv' := [(2, .int (nI (i + 1))), (0, .ref m0), (1, .int (nI 1))]) hx hb dX6_image_39 hl (k := 2) rfl (nI_1 _) (by decide) rfl (fun ls hl => ?_)
          refine lv_goto (tgt := 14) hx hb dX6_image_42 (by decide) ?_
          have hd := hd.arr 2 rfl (imf A_ (mrg (mkS n z op st ea g f) B_ (i + 1))) (fun j _ => by rw [show upd (mrg (mkS n z op st ea g f) B_ i) i ((mkS n z op st ea g f) i) = mrg (mkS n z op st ea g f) B_ (i + 1) from funext (fun q => mrg_s _ _ i q)])
          have hd : Hd G A s.heap [(m0, .inr (6, [.ref cs, .ref cg, .ref ck, .ref c0, .ref c1, .ref c2, .ref c3, .ref c4, .ref c5, .int (nI wl), .int (nI rd), .ref cl, .ref cp, .ref cq, .ref cr, .ref cn, .ref cb, .ref cu, .ref cv, .int tm, .int (nI lr), .int lgs, .ref ce])), (cs, .inl (cI, 194, .inl (mkS n z op st ea g f))), (cg, .inl (cI, 388, .inl (imf A_ (mrg (mkS n z op st ea g f) B_ (i + 1))))), (ck, .inl (cZ, 2, .inl (kf b0 b1)))] H locs := hd
          exact ih14  (i + 1) (by omega) (by omega) _ _ (hd.sub [0, 1, 2, 3] rfl rfl) _ (lv_sub hl [1, 2, 0] rfl)
    have hd := hd.arr 2 rfl (imf A_ (mrg (mkS n z op st ea g f) B_ 0)) (fun j _ => by rw [show B_ = mrg (mkS n z op st ea g f) B_ 0 from funext (fun q => mrg_0 _ _ q)]; rfl)
    have hd : Hd G A s.heap [(m0, .inr (6, [.ref cs, .ref cg, .ref ck, .ref c0, .ref c1, .ref c2, .ref c3, .ref c4, .ref c5, .int (nI wl), .int (nI rd), .ref cl, .ref cp, .ref cq, .ref cr, .ref cn, .ref cb, .ref cu, .ref cv, .int tm, .int (nI lr), .int lgs, .ref ce])), (cs, .inl (cI, 194, .inl (mkS n z op st ea g f))), (cg, .inl (cI, 388, .inl (imf A_ (mrg (mkS n z op st ea g f) B_ 0)))), (ck, .inl (cZ, 2, .inl (kf b0 b1)))] s.heap [] := hd
    exact LP14 ((194 - 0) + 1) 0 (Nat.zero_le _) (Nat.lt_succ_self _) _ _ (hd.sub [0, 1, 2, 3] rfl rfl) _ (lv_sub hl [1, 2, 0] rfl)
  · exact absurd ((rfl : true = true).symm.trans c_6) (by decide)

set_option maxHeartbeats 4000000 in
set_option maxRecDepth 100000 in
theorem c_X6_restore1 (l : Launch) (G : va_G) (cI cZ : ClassId) (m0 : Nat) (cs : Nat) (cg : Nat) (ck : Nat) (c0 : Nat) (c1 : Nat) (c2 : Nat) (c3 : Nat) (c4 : Nat) (c5 : Nat) (cl : Nat) (cp : Nat) (cq : Nat) (cr : Nat) (cn : Nat) (cb : Nat) (cu : Nat) (cv : Nat) (ce : Nat) (wl : Nat) (rd : Nat) (lr : Nat) (tm : Int32) (lgs : Int32) (n : Nat) (z : Nat) (op : Int32) (st : Int32) (ea : Int32) (g : Nat → Int32) (f : Nat → Int32) (b0 : Bool) (jn1 : Nat) (jz1 : Nat) (jo1 : Int32) (jt1 : Int32) (je1 : Int32) (jg1 : Nat → Int32) (jf1 : Nat → Int32) (A_ : Nat → Int32) : CM l G cI cZ yX6_restore cX6_restore 3 (some .int) 1 22 0 0 [.ref m0, .int (nI 1)] [(m0, .inr (6, [.ref cs, .ref cg, .ref ck, .ref c0, .ref c1, .ref c2, .ref c3, .ref c4, .ref c5, .int (nI wl), .int (nI rd), .ref cl, .ref cp, .ref cq, .ref cr, .ref cn, .ref cb, .ref cu, .ref cv, .int tm, .int (nI lr), .int lgs, .ref ce])), (cs, .inl (cI, 194, .inl (mkS n z op st ea g f))), (cg, .inl (cI, 388, .inl (imf A_ (mkS jn1 jz1 jo1 jt1 je1 jg1 jf1)))), (ck, .inl (cZ, 2, .inl (kf b0 true)))] (fun ov_ wv_ => ov_ = some (.int (nI 1)) ∧ wv_ = [(m0, .inr (6, [.ref cs, .ref cg, .ref ck, .ref c0, .ref c1, .ref c2, .ref c3, .ref c4, .ref c5, .int (nI wl), .int (nI rd), .ref cl, .ref cp, .ref cq, .ref cr, .ref cn, .ref cb, .ref cu, .ref cv, .int tm, .int (nI lr), .int lgs, .ref ce])), (cs, .inl (cI, 194, .inl (mkS jn1 jz1 jo1 jt1 je1 jg1 jf1))), (cg, .inl (cI, 388, .inl (imf A_ (mkS jn1 jz1 jo1 jt1 je1 jg1 jf1)))), (ck, .inl (cZ, 2, .inl (kf b0 true)))]) := by
  refine CM.of (own := RX6) (by decide) rfl (Nat.le_of_ble_eq_true rfl) ?_
  intro p e R s m args below meth c Q A X hR hret hnm hA fin hd ls hl
  subst hR
  have hx := X.1
  have hb := X.2.1
  have hl : lv_has ls 3 [(0, .ref m0), (1, .int (nI 1))] := hl
  refine lv_iload_n hx hb dX6_restore_0 rfl (lv_at hl 1 rfl) ?_
  refine lv_iconst (v := nI 0) hx hb dX6_restore_1 (by decide) ?_
  refine lv_iconst (v := nI 1) hx hb dX6_restore_2 (by decide) ?_
  refine cR_S (As := [.int (nI 1), .int (nI 0), .int (nI 1)]) (rest := []) X (c_X6_in l G cI cZ (nI 1) (nI 0) (nI 1) ) lk_X6_69 (hd.1.sub (ws' := []) [] rfl) hl.1 rfl rfl (Nat.le_of_ble_eq_true rfl) ⟨Nat.le_of_ble_eq_true rfl, Nat.le_of_ble_eq_true rfl⟩ ⟨Nat.le_of_ble_eq_true rfl, Nat.le_of_ble_eq_true rfl⟩ dX6_restore_3 ?_
  refine st_eq (show (b2i (inB (nI 1) (nI 0) (nI 1)) : Int32) = b2i true from congrArg b2i (inB_tt (by omega) (by omega) (by omega))) ?_
  refine b_if_ne (tgt := 12) hx hb dX6_restore_6 (by decide) (fun c_6 => ?_) (fun c_6 => ?_)
  · refine lv_aload_n hx hb dX6_restore_12 rfl (lv_at hl 0 rfl) ?_
    refine x_get (C := RX6) (T := TX6) (N := 23) (ci := 6) 2 inT_X6 rfl (by decide) lf_X6_16 rfl X hd.1 0 rfl rfl dX6_restore_13 ?_
    refine lv_iload_n hx hb dX6_restore_16 rfl (lv_at hl 1 rfl) ?_
    refine n_zald X hd.1 3 rfl (by omega) (by decide) dX6_restore_17 ?_
    refine st_eq (show ((kf b0 true) 1 : Int32) = b2i true from rfl) ?_
    refine b_if_ne (tgt := 24) hx hb dX6_restore_18 (by decide) (fun c_18 => ?_) (fun c_18 => ?_)
    · refine lv_iconst (v := nI 0) hx hb dX6_restore_24 (by decide) ?_
      refine lv_istore_n (lv' := [(2, .int (nI 0)), (0, .ref m0), (1, .int (nI 1))]) hx hb dX6_restore_25 rfl hl (by decide) rfl (fun ls hl => ?_)
      have LP26 : ∀ (fu : Nat) (i : Nat), (i ≤ 194) → (194 - i) < fu → ∀ (H : Heap) (locs : List Loc), Hd G A s.heap [(m0, .inr (6, [.ref cs, .ref cg, .ref ck, .ref c0, .ref c1, .ref c2, .ref c3, .ref c4, .ref c5, .int (nI wl), .int (nI rd), .ref cl, .ref cp, .ref cq, .ref cr, .ref cn, .ref cb, .ref cu, .ref cv, .int tm, .int (nI lr), .int lgs, .ref ce])), (cs, .inl (cI, 194, .inl (mrg (mkS jn1 jz1 jo1 jt1 je1 jg1 jf1) (mkS n z op st ea g f) i))), (cg, .inl (cI, 388, .inl (imf A_ (mkS jn1 jz1 jo1 jt1 je1 jg1 jf1)))), (ck, .inl (cZ, 2, .inl (kf b0 true)))] H locs → ∀ (ls : Array Slot), lv_has ls 3 [(0, .ref m0), (1, .int (nI 1)), (2, .int (nI i))] → W p l e ({ frames := 1, cells := 0, slots := 0, locals := 22 } : Room) s m args below meth c H locs 0 0 Q (F0 m 26 ls []) := by
        intro fu
        induction fu with
        | zero =>
          intro i hi hfu
          exact absurd hfu (Nat.not_lt_zero _)
        | succ fu ih26 =>
          intro i hi hfu H locs hd ls hl
          refine lv_iload_n hx hb dX6_restore_26 rfl (lv_at hl 2 rfl) ?_
          refine lv_sipush (v := nI 194) hx hb dX6_restore_27 (by decide) ?_
          refine n_icmp_ge (tgt := 57) hx hb dX6_restore_30 (by decide) (by omega) (by omega) (fun c_30 => ?_) (fun c_30 => ?_)
          · have hd := hd.arr 1 rfl (mkS jn1 jz1 jo1 jt1 je1 jg1 jf1) (fun j hj => mrg_e (by omega))
            have hd : Hd G A s.heap [(m0, .inr (6, [.ref cs, .ref cg, .ref ck, .ref c0, .ref c1, .ref c2, .ref c3, .ref c4, .ref c5, .int (nI wl), .int (nI rd), .ref cl, .ref cp, .ref cq, .ref cr, .ref cn, .ref cb, .ref cu, .ref cv, .int tm, .int (nI lr), .int lgs, .ref ce])), (cs, .inl (cI, 194, .inl (mkS jn1 jz1 jo1 jt1 je1 jg1 jf1))), (cg, .inl (cI, 388, .inl (imf A_ (mkS jn1 jz1 jo1 jt1 je1 jg1 jf1)))), (ck, .inl (cZ, 2, .inl (kf b0 true)))] H locs := hd
            refine lv_iconst (v := nI 1) hx hb dX6_restore_57 (by decide) ?_
            exact (fin _ _ [(m0, .inr (6, [.ref cs, .ref cg, .ref ck, .ref c0, .ref c1, .ref c2, .ref c3, .ref c4, .ref c5, .int (nI wl), .int (nI rd), .ref cl, .ref cp, .ref cq, .ref cr, .ref cn, .ref cb, .ref cu, .ref cv, .int tm, .int (nI lr), .int lgs, .ref ce])), (cs, .inl (cI, 194, .inl (mkS jn1 jz1 jo1 jt1 je1 jg1 jf1))), (cg, .inl (cI, 388, .inl (imf A_ (mkS jn1 jz1 jo1 jt1 je1 jg1 jf1)))), (ck, .inl (cZ, 2, .inl (kf b0 true)))] _ _ (hd.sub [0, 1, 2, 3] rfl rfl)).2.1 (nI 1) rfl ⟨rfl, rfl⟩ dX6_restore_58
          · refine lv_aload_n hx hb dX6_restore_33 rfl (lv_at hl 0 rfl) ?_
            refine x_get (C := RX6) (T := TX6) (N := 23) (ci := 6) 0 inT_X6 rfl (by decide) lf_X6_7 rfl X hd.1 0 rfl rfl dX6_restore_34 ?_
            refine lv_iload_n hx hb dX6_restore_37 rfl (lv_at hl 2 rfl) ?_
            refine lv_aload_n hx hb dX6_restore_38 rfl (lv_at hl 0 rfl) ?_
            refine x_get (C := RX6) (T := TX6) (N := 23) (ci := 6) 1 inT_X6 rfl (by decide) lf_X6_13 rfl X hd.1 0 rfl rfl dX6_restore_39 ?_
            refine lv_sipush (v := nI 194) hx hb dX6_restore_42 (by decide) ?_
            refine lv_iload_n hx hb dX6_restore_45 rfl (lv_at hl 1 rfl) ?_
            refine n_mul hx hb dX6_restore_46  ?_
            refine lv_iload_n hx hb dX6_restore_47 rfl (lv_at hl 2 rfl) ?_
            refine n_add hx hb dX6_restore_48  ?_
            refine n_iald X hd.1 2 rfl (by omega) (by decide) dX6_restore_49 ?_
            refine st_eq (show ((imf A_ (mkS jn1 jz1 jo1 jt1 je1 jg1 jf1)) ((194 * 1) + i) : Int32) = (mkS jn1 jz1 jo1 jt1 je1 jg1 jf1) i from imf_1 _ _) ?_
            refine n_iast X hd 1 rfl (by omega) (by decide) dX6_restore_50 (fun H locs hd => ?_)
            have hd : Hd G A s.heap [(m0, .inr (6, [.ref cs, .ref cg, .ref ck, .ref c0, .ref c1, .ref c2, .ref c3, .ref c4, .ref c5, .int (nI wl), .int (nI rd), .ref cl, .ref cp, .ref cq, .ref cr, .ref cn, .ref cb, .ref cu, .ref cv, .int tm, .int (nI lr), .int lgs, .ref ce])), (cs, .inl (cI, 194, .inl (upd (mrg (mkS jn1 jz1 jo1 jt1 je1 jg1 jf1) (mkS n z op st ea g f) i) i ((mkS jn1 jz1 jo1 jt1 je1 jg1 jf1) i)))), (cg, .inl (cI, 388, .inl (imf A_ (mkS jn1 jz1 jo1 jt1 je1 jg1 jf1)))), (ck, .inl (cZ, 2, .inl (kf b0 true)))] H locs := hd
            refine lv_iinc (v := nI (i + 1)) (lv' := [(2, .int (nI (i + 1))), (0, .ref m0), (1, .int (nI 1))]) hx hb dX6_restore_51 hl (k := 2) rfl (nI_1 _) (by decide) rfl (fun ls hl => ?_)
            refine lv_goto (tgt := 26) hx hb dX6_restore_54 (by decide) ?_
            have hd := hd.arr 1 rfl (mrg (mkS jn1 jz1 jo1 jt1 je1 jg1 jf1) (mkS n z op st ea g f) (i + 1)) (fun j _ => mrg_s _ _ i j)
            have hd : Hd G A s.heap [(m0, .inr (6, [.ref cs, .ref cg, .ref ck, .ref c0, .ref c1, .ref c2, .ref c3, .ref c4, .ref c5, .int (nI wl), .int (nI rd), .ref cl, .ref cp, .ref cq, .ref cr, .ref cn, .ref cb, .ref cu, .ref cv, .int tm, .int (nI lr), .int lgs, .ref ce])), (cs, .inl (cI, 194, .inl (mrg (mkS jn1 jz1 jo1 jt1 je1 jg1 jf1) (mkS n z op st ea g f) (i + 1)))), (cg, .inl (cI, 388, .inl (imf A_ (mkS jn1 jz1 jo1 jt1 je1 jg1 jf1)))), (ck, .inl (cZ, 2, .inl (kf b0 true)))] H locs := hd
            exact ih26  (i + 1) (by omega) (by omega) _ _ (hd.sub [0, 1, 2, 3] rfl rfl) _ (lv_sub hl [1, 2, 0] rfl)
      have hd := hd.arr 1 rfl (mrg (mkS jn1 jz1 jo1 jt1 je1 jg1 jf1) (mkS n z op st ea g f) 0) (fun j _ => mrg_0 _ _ j)
      have hd : Hd G A s.heap [(m0, .inr (6, [.ref cs, .ref cg, .ref ck, .ref c0, .ref c1, .ref c2, .ref c3, .ref c4, .ref c5, .int (nI wl), .int (nI rd), .ref cl, .ref cp, .ref cq, .ref cr, .ref cn, .ref cb, .ref cu, .ref cv, .int tm, .int (nI lr), .int lgs, .ref ce])), (cs, .inl (cI, 194, .inl (mrg (mkS jn1 jz1 jo1 jt1 je1 jg1 jf1) (mkS n z op st ea g f) 0))), (cg, .inl (cI, 388, .inl (imf A_ (mkS jn1 jz1 jo1 jt1 je1 jg1 jf1)))), (ck, .inl (cZ, 2, .inl (kf b0 true)))] s.heap [] := hd
      exact LP26 ((194 - 0) + 1) 0 (Nat.zero_le _) (Nat.lt_succ_self _) _ _ (hd.sub [0, 1, 2, 3] rfl rfl) _ (lv_sub hl [1, 2, 0] rfl)
    · exact absurd ((rfl : true = true).symm.trans c_18) (by decide)
  · exact absurd ((rfl : true = true).symm.trans c_6) (by decide)

set_option maxHeartbeats 4000000 in
set_option maxRecDepth 100000 in
theorem c_X6_restoreN1 (l : Launch) (G : va_G) (cI cZ : ClassId) (m0 : Nat) (cs : Nat) (cg : Nat) (ck : Nat) (c0 : Nat) (c1 : Nat) (c2 : Nat) (c3 : Nat) (c4 : Nat) (c5 : Nat) (cl : Nat) (cp : Nat) (cq : Nat) (cr : Nat) (cn : Nat) (cb : Nat) (cu : Nat) (cv : Nat) (ce : Nat) (wl : Nat) (rd : Nat) (lr : Nat) (tm : Int32) (lgs : Int32) (b0 : Bool) : CR l G cI cZ yX6_restore cX6_restore 3 .int 1 22 [.ref m0, .int (nI 1)] [(m0, .inr (6, [.ref cs, .ref cg, .ref ck, .ref c0, .ref c1, .ref c2, .ref c3, .ref c4, .ref c5, .int (nI wl), .int (nI rd), .ref cl, .ref cp, .ref cq, .ref cr, .ref cn, .ref cb, .ref cu, .ref cv, .int tm, .int (nI lr), .int lgs, .ref ce])), (ck, .inl (cZ, 2, .inl (kf b0 false)))] (-3) := by
  refine CR.of (own := RX6) (by decide) rfl rfl (Nat.le_of_ble_eq_true rfl) ?_
  intro p e R s m args below meth c H Q X hR fin hP ls hl
  subst hR
  have hx := X.1
  have hb := X.2.1
  have hl : lv_has ls 3 [(0, .ref m0), (1, .int (nI 1))] := hl
  refine lv_iload_n hx hb dX6_restore_0 rfl (lv_at hl 1 rfl) ?_
  refine lv_iconst (v := nI 0) hx hb dX6_restore_1 (by decide) ?_
  refine lv_iconst (v := nI 1) hx hb dX6_restore_2 (by decide) ?_
  refine cR_S (As := [.int (nI 1), .int (nI 0), .int (nI 1)]) (rest := []) X (c_X6_in l G cI cZ (nI 1) (nI 0) (nI 1) ) lk_X6_69 (hP.sub (ws' := []) [] rfl) hl.1 rfl rfl (Nat.le_of_ble_eq_true rfl) ⟨Nat.le_of_ble_eq_true rfl, Nat.le_of_ble_eq_true rfl⟩ ⟨Nat.le_of_ble_eq_true rfl, Nat.le_of_ble_eq_true rfl⟩ dX6_restore_3 ?_
  refine st_eq (show (b2i (inB (nI 1) (nI 0) (nI 1)) : Int32) = b2i true from congrArg b2i (inB_tt (by omega) (by omega) (by omega))) ?_
  refine b_if_ne (tgt := 12) hx hb dX6_restore_6 (by decide) (fun c_6 => ?_) (fun c_6 => ?_)
  · refine lv_aload_n hx hb dX6_restore_12 rfl (lv_at hl 0 rfl) ?_
    refine x_get (C := RX6) (T := TX6) (N := 23) (ci := 6) 2 inT_X6 rfl (by decide) lf_X6_16 rfl X hP 0 rfl rfl dX6_restore_13 ?_
    refine lv_iload_n hx hb dX6_restore_16 rfl (lv_at hl 1 rfl) ?_
    refine n_zald X hP 1 rfl (by omega) (by decide) dX6_restore_17 ?_
    refine st_eq (show ((kf b0 false) 1 : Int32) = b2i false from rfl) ?_
    refine b_if_ne (tgt := 24) hx hb dX6_restore_18 (by decide) (fun c_18 => ?_) (fun c_18 => ?_)
    · exact absurd ((rfl : false = false).symm.trans c_18) (by decide)
    · refine lv_bipush (v := (-3)) hx hb dX6_restore_21 (by decide) ?_
      exact fin _ _ dX6_restore_23
  · exact absurd ((rfl : true = true).symm.trans c_6) (by decide)

set_option maxHeartbeats 4000000 in
set_option maxRecDepth 100000 in
theorem c_X6_image_no (l : Launch) (G : va_G) (cI cZ : ClassId) (m0 : Nat) (cs : Nat) (cg : Nat) (ck : Nat) (c0 : Nat) (c1 : Nat) (c2 : Nat) (c3 : Nat) (c4 : Nat) (c5 : Nat) (cl : Nat) (cp : Nat) (cq : Nat) (cr : Nat) (cn : Nat) (cb : Nat) (cu : Nat) (cv : Nat) (ce : Nat) (wl : Nat) (rd : Nat) (lr : Nat) (tm : Int32) (lgs : Int32) (p0 : Int32) (hv : inB p0 (nI 0) (nI 1) = false) : CR l G cI cZ yX6_image cX6_image 3 .int 1 22 [.ref m0, .int p0] [(m0, .inr (6, [.ref cs, .ref cg, .ref ck, .ref c0, .ref c1, .ref c2, .ref c3, .ref c4, .ref c5, .int (nI wl), .int (nI rd), .ref cl, .ref cp, .ref cq, .ref cr, .ref cn, .ref cb, .ref cu, .ref cv, .int tm, .int (nI lr), .int lgs, .ref ce]))] (-2) := by
  refine CR.of (own := RX6) (by decide) rfl rfl (Nat.le_of_ble_eq_true rfl) ?_
  intro p e R s m args below meth c H Q X hR fin hP ls hl
  subst hR
  have hx := X.1
  have hb := X.2.1
  have hl : lv_has ls 3 [(0, .ref m0), (1, .int p0)] := hl
  refine lv_iload_n hx hb dX6_image_0 rfl (lv_at hl 1 rfl) ?_
  refine lv_iconst (v := nI 0) hx hb dX6_image_1 (by decide) ?_
  refine lv_iconst (v := nI 1) hx hb dX6_image_2 (by decide) ?_
  refine cR_S (As := [.int p0, .int (nI 0), .int (nI 1)]) (rest := []) X (c_X6_in l G cI cZ p0 (nI 0) (nI 1) ) lk_X6_69 (hP.sub (ws' := []) [] rfl) hl.1 rfl rfl (Nat.le_of_ble_eq_true rfl) ⟨Nat.le_of_ble_eq_true rfl, Nat.le_of_ble_eq_true rfl⟩ ⟨Nat.le_of_ble_eq_true rfl, Nat.le_of_ble_eq_true rfl⟩ dX6_image_3 ?_
  refine b_if_ne (tgt := 12) hx hb dX6_image_6 (by decide) (fun c_6 => ?_) (fun c_6 => ?_)
  · exact absurd (hv.symm.trans c_6) (by decide)
  · refine lv_bipush (v := (-2)) hx hb dX6_image_9 (by decide) ?_
    exact fin _ _ dX6_image_11

set_option maxHeartbeats 4000000 in
set_option maxRecDepth 100000 in
theorem c_X6_restore_no (l : Launch) (G : va_G) (cI cZ : ClassId) (m0 : Nat) (cs : Nat) (cg : Nat) (ck : Nat) (c0 : Nat) (c1 : Nat) (c2 : Nat) (c3 : Nat) (c4 : Nat) (c5 : Nat) (cl : Nat) (cp : Nat) (cq : Nat) (cr : Nat) (cn : Nat) (cb : Nat) (cu : Nat) (cv : Nat) (ce : Nat) (wl : Nat) (rd : Nat) (lr : Nat) (tm : Int32) (lgs : Int32) (p0 : Int32) (hv : inB p0 (nI 0) (nI 1) = false) : CR l G cI cZ yX6_restore cX6_restore 3 .int 1 22 [.ref m0, .int p0] [(m0, .inr (6, [.ref cs, .ref cg, .ref ck, .ref c0, .ref c1, .ref c2, .ref c3, .ref c4, .ref c5, .int (nI wl), .int (nI rd), .ref cl, .ref cp, .ref cq, .ref cr, .ref cn, .ref cb, .ref cu, .ref cv, .int tm, .int (nI lr), .int lgs, .ref ce]))] (-2) := by
  refine CR.of (own := RX6) (by decide) rfl rfl (Nat.le_of_ble_eq_true rfl) ?_
  intro p e R s m args below meth c H Q X hR fin hP ls hl
  subst hR
  have hx := X.1
  have hb := X.2.1
  have hl : lv_has ls 3 [(0, .ref m0), (1, .int p0)] := hl
  refine lv_iload_n hx hb dX6_restore_0 rfl (lv_at hl 1 rfl) ?_
  refine lv_iconst (v := nI 0) hx hb dX6_restore_1 (by decide) ?_
  refine lv_iconst (v := nI 1) hx hb dX6_restore_2 (by decide) ?_
  refine cR_S (As := [.int p0, .int (nI 0), .int (nI 1)]) (rest := []) X (c_X6_in l G cI cZ p0 (nI 0) (nI 1) ) lk_X6_69 (hP.sub (ws' := []) [] rfl) hl.1 rfl rfl (Nat.le_of_ble_eq_true rfl) ⟨Nat.le_of_ble_eq_true rfl, Nat.le_of_ble_eq_true rfl⟩ ⟨Nat.le_of_ble_eq_true rfl, Nat.le_of_ble_eq_true rfl⟩ dX6_restore_3 ?_
  refine b_if_ne (tgt := 12) hx hb dX6_restore_6 (by decide) (fun c_6 => ?_) (fun c_6 => ?_)
  · exact absurd (hv.symm.trans c_6) (by decide)
  · refine lv_bipush (v := (-2)) hx hb dX6_restore_9 (by decide) ?_
    exact fin _ _ dX6_restore_11

set_option maxHeartbeats 4000000 in
set_option maxRecDepth 100000 in
theorem c_X6_init (l : Launch) (G : va_G) (cI cZ : ClassId) (m0 : Nat) : CM l G cI cZ yX6_init cX6_init 1 none 1 23 18 1826 [.ref m0] [(m0, .inr (6, [.null, .null, .null, .null, .null, .null, .null, .null, .null, .int (nI 0), .int (nI 0), .null, .null, .null, .null, .null, .null, .null, .null, .int (nI 0), .int (nI 0), .int (nI 0), .null]))] (fun ov_ wv_ => ∃ cs : Nat, ∃ cg : Nat, ∃ ck : Nat, ∃ c0 : Nat, ∃ c1 : Nat, ∃ c2 : Nat, ∃ c3 : Nat, ∃ c4 : Nat, ∃ c5 : Nat, ∃ cl : Nat, ∃ cp : Nat, ∃ cq : Nat, ∃ cr : Nat, ∃ cn : Nat, ∃ cb : Nat, ∃ cu : Nat, ∃ cv : Nat, ∃ ce : Nat, ov_ = none ∧ wv_ = [(m0, .inr (6, [.ref cs, .ref cg, .ref ck, .ref c0, .ref c1, .ref c2, .ref c3, .ref c4, .ref c5, .int (nI 0), .int (nI 0), .ref cl, .ref cp, .ref cq, .ref cr, .ref cn, .ref cb, .ref cu, .ref cv, .int (nI 0), .int (nI 0), .int (nI 0), .ref ce])), (cs, .inl (cI, 194, .inl (mkS 4 4 (nI 0) (nI 5) (nI 1) (fun _ => nI 1) (fun _ => nI 0)))), (cg, .inl (cI, 388, .inl (fun _ => 0))), (ck, .inl (cZ, 2, .inl (fun _ => 0))), (c0, .inl (cI, 144, .inl (fun _ => 0))), (c1, .inl (cI, 144, .inl (fun _ => 0))), (c2, .inl (cI, 144, .inl (fun _ => 0))), (c3, .inl (cI, 144, .inl (fun _ => 0))), (c4, .inl (cI, 144, .inl (fun _ => 0))), (c5, .inl (cI, 144, .inl (fun _ => 0))), (cl, .inl (cI, 9, .inl (fun _ => 0))), (cp, .inl (cI, 9, .inl (fun _ => 0))), (cq, .inl (cI, 9, .inl (fun _ => 0))), (cr, .inl (cI, 9, .inl (fun _ => 0))), (cn, .inl (cI, 108, .inl (fun _ => 0))), (cb, .inl (cI, 108, .inl (fun _ => 0))), (cu, .inl (cI, 9, .inl (fun _ => 0))), (cv, .inl (cI, 9, .inl (fun _ => 0))), (ce, .inl (cI, 108, .inl (fun _ => 0)))]) := by
  refine CM.of (own := RX6) (by decide) rfl (Nat.le_of_ble_eq_true rfl) ?_
  intro p e R s m args below meth c Q A X hR hret hnm hA fin hd ls hl
  subst hR
  have hx := X.1
  have hb := X.2.1
  have hl : lv_has ls 1 [(0, .ref m0)] := hl
  refine lv_aload_n hx hb dX6_init_0 rfl (lv_at hl 0 rfl) ?_
  refine W.objInit hx hb X.2.2.2.1 (X.2.2.2.2.1 _ lo_X6_1) (X.2.2.2.2.1 _ w_objI) (X.2.2.2.2.1 _ w_objC) rfl (by rw [X.2.2.1]; exact hl.1) rfl dX6_init_1 (by decide) (Nat.le_of_ble_eq_true rfl) ?_
  refine W.eq (g2 := F0 m 4 ls []) rfl ?_
  refine lv_aload_n hx hb dX6_init_4 rfl (lv_at hl 0 rfl) ?_
  refine lv_sipush (v := nI 194) hx hb dX6_init_5 (by decide) ?_
  refine x_newaI X hd hA (N := 194) (by decide) (by decide) (by decide) (by decide) dX6_init_8 w_arrI (fun q_1 H locs hd => ?_)
  have hd : Hd G A s.heap [(m0, .inr (6, [.null, .null, .null, .null, .null, .null, .null, .null, .null, .int (nI 0), .int (nI 0), .null, .null, .null, .null, .null, .null, .null, .null, .int (nI 0), .int (nI 0), .int (nI 0), .null])), (q_1, .inl (cI, 194, .inl (fun _ => 0)))] H locs := hd
  refine W.widen (k := 1) (n := 194) (by decide) (by decide) ?_
  refine x_putF (C := RX6) (T := TX6) (N := 23) (ci := 6) (ty := (.array .int)) 0 inT_X6 tyX6 tyX6_ok nmX6 rfl (by decide) lf_X6_7 rfl rfl (by decide +kernel) rfl hnm X hd 0 rfl rfl rfl (Nat.le_of_ble_eq_true rfl) dX6_init_10 (fun H locs hd => ?_)
  have hd : Hd G A s.heap [(m0, .inr (6, [.ref q_1, .null, .null, .null, .null, .null, .null, .null, .null, .int (nI 0), .int (nI 0), .null, .null, .null, .null, .null, .null, .null, .null, .int (nI 0), .int (nI 0), .int (nI 0), .null])), (q_1, .inl (cI, 194, .inl (fun _ => 0)))] H locs := hd
  refine lv_aload_n hx hb dX6_init_13 rfl (lv_at hl 0 rfl) ?_
  refine lv_sipush (v := nI 388) hx hb dX6_init_14 (by decide) ?_
  refine x_newaI X hd hA (N := 388) (by decide) (by decide) (by decide) (by decide) dX6_init_17 w_arrI (fun q_2 H locs hd => ?_)
  have hd : Hd G A s.heap [(m0, .inr (6, [.ref q_1, .null, .null, .null, .null, .null, .null, .null, .null, .int (nI 0), .int (nI 0), .null, .null, .null, .null, .null, .null, .null, .null, .int (nI 0), .int (nI 0), .int (nI 0), .null])), (q_1, .inl (cI, 194, .inl (fun _ => 0))), (q_2, .inl (cI, 388, .inl (fun _ => 0)))] H locs := hd
  refine W.widen (k := 2) (n := 582) (by decide) (by decide) ?_
  refine x_putF (C := RX6) (T := TX6) (N := 23) (ci := 6) (ty := (.array .int)) 1 inT_X6 tyX6 tyX6_ok nmX6 rfl (by decide) lf_X6_13 rfl rfl (by decide +kernel) rfl hnm X hd 0 rfl rfl rfl (Nat.le_of_ble_eq_true rfl) dX6_init_19 (fun H locs hd => ?_)
  have hd : Hd G A s.heap [(m0, .inr (6, [.ref q_1, .ref q_2, .null, .null, .null, .null, .null, .null, .null, .int (nI 0), .int (nI 0), .null, .null, .null, .null, .null, .null, .null, .null, .int (nI 0), .int (nI 0), .int (nI 0), .null])), (q_1, .inl (cI, 194, .inl (fun _ => 0))), (q_2, .inl (cI, 388, .inl (fun _ => 0)))] H locs := hd
  refine lv_aload_n hx hb dX6_init_22 rfl (lv_at hl 0 rfl) ?_
  refine lv_iconst (v := nI 2) hx hb dX6_init_23 (by decide) ?_
  refine x_newaZ X hd hA (N := 2) (by decide) (by decide) (by decide) (by decide) dX6_init_24 w_arrZ (fun q_3 H locs hd => ?_)
  have hd : Hd G A s.heap [(m0, .inr (6, [.ref q_1, .ref q_2, .null, .null, .null, .null, .null, .null, .null, .int (nI 0), .int (nI 0), .null, .null, .null, .null, .null, .null, .null, .null, .int (nI 0), .int (nI 0), .int (nI 0), .null])), (q_1, .inl (cI, 194, .inl (fun _ => 0))), (q_2, .inl (cI, 388, .inl (fun _ => 0))), (q_3, .inl (cZ, 2, .inl (fun _ => 0)))] H locs := hd
  refine W.widen (k := 3) (n := 584) (by decide) (by decide) ?_
  refine x_putF (C := RX6) (T := TX6) (N := 23) (ci := 6) (ty := (.array .boolean)) 2 inT_X6 tyX6 tyX6_ok nmX6 rfl (by decide) lf_X6_16 rfl rfl (by decide +kernel) rfl hnm X hd 0 rfl rfl rfl (Nat.le_of_ble_eq_true rfl) dX6_init_26 (fun H locs hd => ?_)
  have hd : Hd G A s.heap [(m0, .inr (6, [.ref q_1, .ref q_2, .ref q_3, .null, .null, .null, .null, .null, .null, .int (nI 0), .int (nI 0), .null, .null, .null, .null, .null, .null, .null, .null, .int (nI 0), .int (nI 0), .int (nI 0), .null])), (q_1, .inl (cI, 194, .inl (fun _ => 0))), (q_2, .inl (cI, 388, .inl (fun _ => 0))), (q_3, .inl (cZ, 2, .inl (fun _ => 0)))] H locs := hd
  refine lv_aload_n hx hb dX6_init_29 rfl (lv_at hl 0 rfl) ?_
  refine lv_sipush (v := nI 144) hx hb dX6_init_30 (by decide) ?_
  refine x_newaI X hd hA (N := 144) (by decide) (by decide) (by decide) (by decide) dX6_init_33 w_arrI (fun q_4 H locs hd => ?_)
  have hd : Hd G A s.heap [(m0, .inr (6, [.ref q_1, .ref q_2, .ref q_3, .null, .null, .null, .null, .null, .null, .int (nI 0), .int (nI 0), .null, .null, .null, .null, .null, .null, .null, .null, .int (nI 0), .int (nI 0), .int (nI 0), .null])), (q_1, .inl (cI, 194, .inl (fun _ => 0))), (q_2, .inl (cI, 388, .inl (fun _ => 0))), (q_3, .inl (cZ, 2, .inl (fun _ => 0))), (q_4, .inl (cI, 144, .inl (fun _ => 0)))] H locs := hd
  refine W.widen (k := 4) (n := 728) (by decide) (by decide) ?_
  refine x_putF (C := RX6) (T := TX6) (N := 23) (ci := 6) (ty := (.array .int)) 3 inT_X6 tyX6 tyX6_ok nmX6 rfl (by decide) lf_X6_20 rfl rfl (by decide +kernel) rfl hnm X hd 0 rfl rfl rfl (Nat.le_of_ble_eq_true rfl) dX6_init_35 (fun H locs hd => ?_)
  have hd : Hd G A s.heap [(m0, .inr (6, [.ref q_1, .ref q_2, .ref q_3, .ref q_4, .null, .null, .null, .null, .null, .int (nI 0), .int (nI 0), .null, .null, .null, .null, .null, .null, .null, .null, .int (nI 0), .int (nI 0), .int (nI 0), .null])), (q_1, .inl (cI, 194, .inl (fun _ => 0))), (q_2, .inl (cI, 388, .inl (fun _ => 0))), (q_3, .inl (cZ, 2, .inl (fun _ => 0))), (q_4, .inl (cI, 144, .inl (fun _ => 0)))] H locs := hd
  refine lv_aload_n hx hb dX6_init_38 rfl (lv_at hl 0 rfl) ?_
  refine lv_sipush (v := nI 144) hx hb dX6_init_39 (by decide) ?_
  refine x_newaI X hd hA (N := 144) (by decide) (by decide) (by decide) (by decide) dX6_init_42 w_arrI (fun q_5 H locs hd => ?_)
  have hd : Hd G A s.heap [(m0, .inr (6, [.ref q_1, .ref q_2, .ref q_3, .ref q_4, .null, .null, .null, .null, .null, .int (nI 0), .int (nI 0), .null, .null, .null, .null, .null, .null, .null, .null, .int (nI 0), .int (nI 0), .int (nI 0), .null])), (q_1, .inl (cI, 194, .inl (fun _ => 0))), (q_2, .inl (cI, 388, .inl (fun _ => 0))), (q_3, .inl (cZ, 2, .inl (fun _ => 0))), (q_4, .inl (cI, 144, .inl (fun _ => 0))), (q_5, .inl (cI, 144, .inl (fun _ => 0)))] H locs := hd
  refine W.widen (k := 5) (n := 872) (by decide) (by decide) ?_
  refine x_putF (C := RX6) (T := TX6) (N := 23) (ci := 6) (ty := (.array .int)) 4 inT_X6 tyX6 tyX6_ok nmX6 rfl (by decide) lf_X6_23 rfl rfl (by decide +kernel) rfl hnm X hd 0 rfl rfl rfl (Nat.le_of_ble_eq_true rfl) dX6_init_44 (fun H locs hd => ?_)
  have hd : Hd G A s.heap [(m0, .inr (6, [.ref q_1, .ref q_2, .ref q_3, .ref q_4, .ref q_5, .null, .null, .null, .null, .int (nI 0), .int (nI 0), .null, .null, .null, .null, .null, .null, .null, .null, .int (nI 0), .int (nI 0), .int (nI 0), .null])), (q_1, .inl (cI, 194, .inl (fun _ => 0))), (q_2, .inl (cI, 388, .inl (fun _ => 0))), (q_3, .inl (cZ, 2, .inl (fun _ => 0))), (q_4, .inl (cI, 144, .inl (fun _ => 0))), (q_5, .inl (cI, 144, .inl (fun _ => 0)))] H locs := hd
  refine lv_aload_n hx hb dX6_init_47 rfl (lv_at hl 0 rfl) ?_
  refine lv_sipush (v := nI 144) hx hb dX6_init_48 (by decide) ?_
  refine x_newaI X hd hA (N := 144) (by decide) (by decide) (by decide) (by decide) dX6_init_51 w_arrI (fun q_6 H locs hd => ?_)
  have hd : Hd G A s.heap [(m0, .inr (6, [.ref q_1, .ref q_2, .ref q_3, .ref q_4, .ref q_5, .null, .null, .null, .null, .int (nI 0), .int (nI 0), .null, .null, .null, .null, .null, .null, .null, .null, .int (nI 0), .int (nI 0), .int (nI 0), .null])), (q_1, .inl (cI, 194, .inl (fun _ => 0))), (q_2, .inl (cI, 388, .inl (fun _ => 0))), (q_3, .inl (cZ, 2, .inl (fun _ => 0))), (q_4, .inl (cI, 144, .inl (fun _ => 0))), (q_5, .inl (cI, 144, .inl (fun _ => 0))), (q_6, .inl (cI, 144, .inl (fun _ => 0)))] H locs := hd
  refine W.widen (k := 6) (n := 1016) (by decide) (by decide) ?_
  refine x_putF (C := RX6) (T := TX6) (N := 23) (ci := 6) (ty := (.array .int)) 5 inT_X6 tyX6 tyX6_ok nmX6 rfl (by decide) lf_X6_26 rfl rfl (by decide +kernel) rfl hnm X hd 0 rfl rfl rfl (Nat.le_of_ble_eq_true rfl) dX6_init_53 (fun H locs hd => ?_)
  have hd : Hd G A s.heap [(m0, .inr (6, [.ref q_1, .ref q_2, .ref q_3, .ref q_4, .ref q_5, .ref q_6, .null, .null, .null, .int (nI 0), .int (nI 0), .null, .null, .null, .null, .null, .null, .null, .null, .int (nI 0), .int (nI 0), .int (nI 0), .null])), (q_1, .inl (cI, 194, .inl (fun _ => 0))), (q_2, .inl (cI, 388, .inl (fun _ => 0))), (q_3, .inl (cZ, 2, .inl (fun _ => 0))), (q_4, .inl (cI, 144, .inl (fun _ => 0))), (q_5, .inl (cI, 144, .inl (fun _ => 0))), (q_6, .inl (cI, 144, .inl (fun _ => 0)))] H locs := hd
  refine lv_aload_n hx hb dX6_init_56 rfl (lv_at hl 0 rfl) ?_
  refine lv_sipush (v := nI 144) hx hb dX6_init_57 (by decide) ?_
  refine x_newaI X hd hA (N := 144) (by decide) (by decide) (by decide) (by decide) dX6_init_60 w_arrI (fun q_7 H locs hd => ?_)
  have hd : Hd G A s.heap [(m0, .inr (6, [.ref q_1, .ref q_2, .ref q_3, .ref q_4, .ref q_5, .ref q_6, .null, .null, .null, .int (nI 0), .int (nI 0), .null, .null, .null, .null, .null, .null, .null, .null, .int (nI 0), .int (nI 0), .int (nI 0), .null])), (q_1, .inl (cI, 194, .inl (fun _ => 0))), (q_2, .inl (cI, 388, .inl (fun _ => 0))), (q_3, .inl (cZ, 2, .inl (fun _ => 0))), (q_4, .inl (cI, 144, .inl (fun _ => 0))), (q_5, .inl (cI, 144, .inl (fun _ => 0))), (q_6, .inl (cI, 144, .inl (fun _ => 0))), (q_7, .inl (cI, 144, .inl (fun _ => 0)))] H locs := hd
  refine W.widen (k := 7) (n := 1160) (by decide) (by decide) ?_
  refine x_putF (C := RX6) (T := TX6) (N := 23) (ci := 6) (ty := (.array .int)) 6 inT_X6 tyX6 tyX6_ok nmX6 rfl (by decide) lf_X6_29 rfl rfl (by decide +kernel) rfl hnm X hd 0 rfl rfl rfl (Nat.le_of_ble_eq_true rfl) dX6_init_62 (fun H locs hd => ?_)
  have hd : Hd G A s.heap [(m0, .inr (6, [.ref q_1, .ref q_2, .ref q_3, .ref q_4, .ref q_5, .ref q_6, .ref q_7, .null, .null, .int (nI 0), .int (nI 0), .null, .null, .null, .null, .null, .null, .null, .null, .int (nI 0), .int (nI 0), .int (nI 0), .null])), (q_1, .inl (cI, 194, .inl (fun _ => 0))), (q_2, .inl (cI, 388, .inl (fun _ => 0))), (q_3, .inl (cZ, 2, .inl (fun _ => 0))), (q_4, .inl (cI, 144, .inl (fun _ => 0))), (q_5, .inl (cI, 144, .inl (fun _ => 0))), (q_6, .inl (cI, 144, .inl (fun _ => 0))), (q_7, .inl (cI, 144, .inl (fun _ => 0)))] H locs := hd
  refine lv_aload_n hx hb dX6_init_65 rfl (lv_at hl 0 rfl) ?_
  refine lv_sipush (v := nI 144) hx hb dX6_init_66 (by decide) ?_
  refine x_newaI X hd hA (N := 144) (by decide) (by decide) (by decide) (by decide) dX6_init_69 w_arrI (fun q_8 H locs hd => ?_)
  have hd : Hd G A s.heap [(m0, .inr (6, [.ref q_1, .ref q_2, .ref q_3, .ref q_4, .ref q_5, .ref q_6, .ref q_7, .null, .null, .int (nI 0), .int (nI 0), .null, .null, .null, .null, .null, .null, .null, .null, .int (nI 0), .int (nI 0), .int (nI 0), .null])), (q_1, .inl (cI, 194, .inl (fun _ => 0))), (q_2, .inl (cI, 388, .inl (fun _ => 0))), (q_3, .inl (cZ, 2, .inl (fun _ => 0))), (q_4, .inl (cI, 144, .inl (fun _ => 0))), (q_5, .inl (cI, 144, .inl (fun _ => 0))), (q_6, .inl (cI, 144, .inl (fun _ => 0))), (q_7, .inl (cI, 144, .inl (fun _ => 0))), (q_8, .inl (cI, 144, .inl (fun _ => 0)))] H locs := hd
  refine W.widen (k := 8) (n := 1304) (by decide) (by decide) ?_
  refine x_putF (C := RX6) (T := TX6) (N := 23) (ci := 6) (ty := (.array .int)) 7 inT_X6 tyX6 tyX6_ok nmX6 rfl (by decide) lf_X6_32 rfl rfl (by decide +kernel) rfl hnm X hd 0 rfl rfl rfl (Nat.le_of_ble_eq_true rfl) dX6_init_71 (fun H locs hd => ?_)
  have hd : Hd G A s.heap [(m0, .inr (6, [.ref q_1, .ref q_2, .ref q_3, .ref q_4, .ref q_5, .ref q_6, .ref q_7, .ref q_8, .null, .int (nI 0), .int (nI 0), .null, .null, .null, .null, .null, .null, .null, .null, .int (nI 0), .int (nI 0), .int (nI 0), .null])), (q_1, .inl (cI, 194, .inl (fun _ => 0))), (q_2, .inl (cI, 388, .inl (fun _ => 0))), (q_3, .inl (cZ, 2, .inl (fun _ => 0))), (q_4, .inl (cI, 144, .inl (fun _ => 0))), (q_5, .inl (cI, 144, .inl (fun _ => 0))), (q_6, .inl (cI, 144, .inl (fun _ => 0))), (q_7, .inl (cI, 144, .inl (fun _ => 0))), (q_8, .inl (cI, 144, .inl (fun _ => 0)))] H locs := hd
  refine lv_aload_n hx hb dX6_init_74 rfl (lv_at hl 0 rfl) ?_
  refine lv_sipush (v := nI 144) hx hb dX6_init_75 (by decide) ?_
  refine x_newaI X hd hA (N := 144) (by decide) (by decide) (by decide) (by decide) dX6_init_78 w_arrI (fun q_9 H locs hd => ?_)
  have hd : Hd G A s.heap [(m0, .inr (6, [.ref q_1, .ref q_2, .ref q_3, .ref q_4, .ref q_5, .ref q_6, .ref q_7, .ref q_8, .null, .int (nI 0), .int (nI 0), .null, .null, .null, .null, .null, .null, .null, .null, .int (nI 0), .int (nI 0), .int (nI 0), .null])), (q_1, .inl (cI, 194, .inl (fun _ => 0))), (q_2, .inl (cI, 388, .inl (fun _ => 0))), (q_3, .inl (cZ, 2, .inl (fun _ => 0))), (q_4, .inl (cI, 144, .inl (fun _ => 0))), (q_5, .inl (cI, 144, .inl (fun _ => 0))), (q_6, .inl (cI, 144, .inl (fun _ => 0))), (q_7, .inl (cI, 144, .inl (fun _ => 0))), (q_8, .inl (cI, 144, .inl (fun _ => 0))), (q_9, .inl (cI, 144, .inl (fun _ => 0)))] H locs := hd
  refine W.widen (k := 9) (n := 1448) (by decide) (by decide) ?_
  refine x_putF (C := RX6) (T := TX6) (N := 23) (ci := 6) (ty := (.array .int)) 8 inT_X6 tyX6 tyX6_ok nmX6 rfl (by decide) lf_X6_35 rfl rfl (by decide +kernel) rfl hnm X hd 0 rfl rfl rfl (Nat.le_of_ble_eq_true rfl) dX6_init_80 (fun H locs hd => ?_)
  have hd : Hd G A s.heap [(m0, .inr (6, [.ref q_1, .ref q_2, .ref q_3, .ref q_4, .ref q_5, .ref q_6, .ref q_7, .ref q_8, .ref q_9, .int (nI 0), .int (nI 0), .null, .null, .null, .null, .null, .null, .null, .null, .int (nI 0), .int (nI 0), .int (nI 0), .null])), (q_1, .inl (cI, 194, .inl (fun _ => 0))), (q_2, .inl (cI, 388, .inl (fun _ => 0))), (q_3, .inl (cZ, 2, .inl (fun _ => 0))), (q_4, .inl (cI, 144, .inl (fun _ => 0))), (q_5, .inl (cI, 144, .inl (fun _ => 0))), (q_6, .inl (cI, 144, .inl (fun _ => 0))), (q_7, .inl (cI, 144, .inl (fun _ => 0))), (q_8, .inl (cI, 144, .inl (fun _ => 0))), (q_9, .inl (cI, 144, .inl (fun _ => 0)))] H locs := hd
  refine lv_aload_n hx hb dX6_init_83 rfl (lv_at hl 0 rfl) ?_
  refine lv_bipush (v := nI 9) hx hb dX6_init_84 (by decide) ?_
  refine x_newaI X hd hA (N := 9) (by decide) (by decide) (by decide) (by decide) dX6_init_86 w_arrI (fun q_10 H locs hd => ?_)
  have hd : Hd G A s.heap [(m0, .inr (6, [.ref q_1, .ref q_2, .ref q_3, .ref q_4, .ref q_5, .ref q_6, .ref q_7, .ref q_8, .ref q_9, .int (nI 0), .int (nI 0), .null, .null, .null, .null, .null, .null, .null, .null, .int (nI 0), .int (nI 0), .int (nI 0), .null])), (q_1, .inl (cI, 194, .inl (fun _ => 0))), (q_2, .inl (cI, 388, .inl (fun _ => 0))), (q_3, .inl (cZ, 2, .inl (fun _ => 0))), (q_4, .inl (cI, 144, .inl (fun _ => 0))), (q_5, .inl (cI, 144, .inl (fun _ => 0))), (q_6, .inl (cI, 144, .inl (fun _ => 0))), (q_7, .inl (cI, 144, .inl (fun _ => 0))), (q_8, .inl (cI, 144, .inl (fun _ => 0))), (q_9, .inl (cI, 144, .inl (fun _ => 0))), (q_10, .inl (cI, 9, .inl (fun _ => 0)))] H locs := hd
  refine W.widen (k := 10) (n := 1457) (by decide) (by decide) ?_
  refine x_putF (C := RX6) (T := TX6) (N := 23) (ci := 6) (ty := (.array .int)) 11 inT_X6 tyX6 tyX6_ok nmX6 rfl (by decide) lf_X6_38 rfl rfl (by decide +kernel) rfl hnm X hd 0 rfl rfl rfl (Nat.le_of_ble_eq_true rfl) dX6_init_88 (fun H locs hd => ?_)
  have hd : Hd G A s.heap [(m0, .inr (6, [.ref q_1, .ref q_2, .ref q_3, .ref q_4, .ref q_5, .ref q_6, .ref q_7, .ref q_8, .ref q_9, .int (nI 0), .int (nI 0), .ref q_10, .null, .null, .null, .null, .null, .null, .null, .int (nI 0), .int (nI 0), .int (nI 0), .null])), (q_1, .inl (cI, 194, .inl (fun _ => 0))), (q_2, .inl (cI, 388, .inl (fun _ => 0))), (q_3, .inl (cZ, 2, .inl (fun _ => 0))), (q_4, .inl (cI, 144, .inl (fun _ => 0))), (q_5, .inl (cI, 144, .inl (fun _ => 0))), (q_6, .inl (cI, 144, .inl (fun _ => 0))), (q_7, .inl (cI, 144, .inl (fun _ => 0))), (q_8, .inl (cI, 144, .inl (fun _ => 0))), (q_9, .inl (cI, 144, .inl (fun _ => 0))), (q_10, .inl (cI, 9, .inl (fun _ => 0)))] H locs := hd
  refine lv_aload_n hx hb dX6_init_91 rfl (lv_at hl 0 rfl) ?_
  refine lv_bipush (v := nI 9) hx hb dX6_init_92 (by decide) ?_
  refine x_newaI X hd hA (N := 9) (by decide) (by decide) (by decide) (by decide) dX6_init_94 w_arrI (fun q_11 H locs hd => ?_)
  have hd : Hd G A s.heap [(m0, .inr (6, [.ref q_1, .ref q_2, .ref q_3, .ref q_4, .ref q_5, .ref q_6, .ref q_7, .ref q_8, .ref q_9, .int (nI 0), .int (nI 0), .ref q_10, .null, .null, .null, .null, .null, .null, .null, .int (nI 0), .int (nI 0), .int (nI 0), .null])), (q_1, .inl (cI, 194, .inl (fun _ => 0))), (q_2, .inl (cI, 388, .inl (fun _ => 0))), (q_3, .inl (cZ, 2, .inl (fun _ => 0))), (q_4, .inl (cI, 144, .inl (fun _ => 0))), (q_5, .inl (cI, 144, .inl (fun _ => 0))), (q_6, .inl (cI, 144, .inl (fun _ => 0))), (q_7, .inl (cI, 144, .inl (fun _ => 0))), (q_8, .inl (cI, 144, .inl (fun _ => 0))), (q_9, .inl (cI, 144, .inl (fun _ => 0))), (q_10, .inl (cI, 9, .inl (fun _ => 0))), (q_11, .inl (cI, 9, .inl (fun _ => 0)))] H locs := hd
  refine W.widen (k := 11) (n := 1466) (by decide) (by decide) ?_
  refine x_putF (C := RX6) (T := TX6) (N := 23) (ci := 6) (ty := (.array .int)) 12 inT_X6 tyX6 tyX6_ok nmX6 rfl (by decide) lf_X6_41 rfl rfl (by decide +kernel) rfl hnm X hd 0 rfl rfl rfl (Nat.le_of_ble_eq_true rfl) dX6_init_96 (fun H locs hd => ?_)
  have hd : Hd G A s.heap [(m0, .inr (6, [.ref q_1, .ref q_2, .ref q_3, .ref q_4, .ref q_5, .ref q_6, .ref q_7, .ref q_8, .ref q_9, .int (nI 0), .int (nI 0), .ref q_10, .ref q_11, .null, .null, .null, .null, .null, .null, .int (nI 0), .int (nI 0), .int (nI 0), .null])), (q_1, .inl (cI, 194, .inl (fun _ => 0))), (q_2, .inl (cI, 388, .inl (fun _ => 0))), (q_3, .inl (cZ, 2, .inl (fun _ => 0))), (q_4, .inl (cI, 144, .inl (fun _ => 0))), (q_5, .inl (cI, 144, .inl (fun _ => 0))), (q_6, .inl (cI, 144, .inl (fun _ => 0))), (q_7, .inl (cI, 144, .inl (fun _ => 0))), (q_8, .inl (cI, 144, .inl (fun _ => 0))), (q_9, .inl (cI, 144, .inl (fun _ => 0))), (q_10, .inl (cI, 9, .inl (fun _ => 0))), (q_11, .inl (cI, 9, .inl (fun _ => 0)))] H locs := hd
  refine lv_aload_n hx hb dX6_init_99 rfl (lv_at hl 0 rfl) ?_
  refine lv_bipush (v := nI 9) hx hb dX6_init_100 (by decide) ?_
  refine x_newaI X hd hA (N := 9) (by decide) (by decide) (by decide) (by decide) dX6_init_102 w_arrI (fun q_12 H locs hd => ?_)
  have hd : Hd G A s.heap [(m0, .inr (6, [.ref q_1, .ref q_2, .ref q_3, .ref q_4, .ref q_5, .ref q_6, .ref q_7, .ref q_8, .ref q_9, .int (nI 0), .int (nI 0), .ref q_10, .ref q_11, .null, .null, .null, .null, .null, .null, .int (nI 0), .int (nI 0), .int (nI 0), .null])), (q_1, .inl (cI, 194, .inl (fun _ => 0))), (q_2, .inl (cI, 388, .inl (fun _ => 0))), (q_3, .inl (cZ, 2, .inl (fun _ => 0))), (q_4, .inl (cI, 144, .inl (fun _ => 0))), (q_5, .inl (cI, 144, .inl (fun _ => 0))), (q_6, .inl (cI, 144, .inl (fun _ => 0))), (q_7, .inl (cI, 144, .inl (fun _ => 0))), (q_8, .inl (cI, 144, .inl (fun _ => 0))), (q_9, .inl (cI, 144, .inl (fun _ => 0))), (q_10, .inl (cI, 9, .inl (fun _ => 0))), (q_11, .inl (cI, 9, .inl (fun _ => 0))), (q_12, .inl (cI, 9, .inl (fun _ => 0)))] H locs := hd
  refine W.widen (k := 12) (n := 1475) (by decide) (by decide) ?_
  refine x_putF (C := RX6) (T := TX6) (N := 23) (ci := 6) (ty := (.array .int)) 13 inT_X6 tyX6 tyX6_ok nmX6 rfl (by decide) lf_X6_44 rfl rfl (by decide +kernel) rfl hnm X hd 0 rfl rfl rfl (Nat.le_of_ble_eq_true rfl) dX6_init_104 (fun H locs hd => ?_)
  have hd : Hd G A s.heap [(m0, .inr (6, [.ref q_1, .ref q_2, .ref q_3, .ref q_4, .ref q_5, .ref q_6, .ref q_7, .ref q_8, .ref q_9, .int (nI 0), .int (nI 0), .ref q_10, .ref q_11, .ref q_12, .null, .null, .null, .null, .null, .int (nI 0), .int (nI 0), .int (nI 0), .null])), (q_1, .inl (cI, 194, .inl (fun _ => 0))), (q_2, .inl (cI, 388, .inl (fun _ => 0))), (q_3, .inl (cZ, 2, .inl (fun _ => 0))), (q_4, .inl (cI, 144, .inl (fun _ => 0))), (q_5, .inl (cI, 144, .inl (fun _ => 0))), (q_6, .inl (cI, 144, .inl (fun _ => 0))), (q_7, .inl (cI, 144, .inl (fun _ => 0))), (q_8, .inl (cI, 144, .inl (fun _ => 0))), (q_9, .inl (cI, 144, .inl (fun _ => 0))), (q_10, .inl (cI, 9, .inl (fun _ => 0))), (q_11, .inl (cI, 9, .inl (fun _ => 0))), (q_12, .inl (cI, 9, .inl (fun _ => 0)))] H locs := hd
  refine lv_aload_n hx hb dX6_init_107 rfl (lv_at hl 0 rfl) ?_
  refine lv_bipush (v := nI 9) hx hb dX6_init_108 (by decide) ?_
  refine x_newaI X hd hA (N := 9) (by decide) (by decide) (by decide) (by decide) dX6_init_110 w_arrI (fun q_13 H locs hd => ?_)
  have hd : Hd G A s.heap [(m0, .inr (6, [.ref q_1, .ref q_2, .ref q_3, .ref q_4, .ref q_5, .ref q_6, .ref q_7, .ref q_8, .ref q_9, .int (nI 0), .int (nI 0), .ref q_10, .ref q_11, .ref q_12, .null, .null, .null, .null, .null, .int (nI 0), .int (nI 0), .int (nI 0), .null])), (q_1, .inl (cI, 194, .inl (fun _ => 0))), (q_2, .inl (cI, 388, .inl (fun _ => 0))), (q_3, .inl (cZ, 2, .inl (fun _ => 0))), (q_4, .inl (cI, 144, .inl (fun _ => 0))), (q_5, .inl (cI, 144, .inl (fun _ => 0))), (q_6, .inl (cI, 144, .inl (fun _ => 0))), (q_7, .inl (cI, 144, .inl (fun _ => 0))), (q_8, .inl (cI, 144, .inl (fun _ => 0))), (q_9, .inl (cI, 144, .inl (fun _ => 0))), (q_10, .inl (cI, 9, .inl (fun _ => 0))), (q_11, .inl (cI, 9, .inl (fun _ => 0))), (q_12, .inl (cI, 9, .inl (fun _ => 0))), (q_13, .inl (cI, 9, .inl (fun _ => 0)))] H locs := hd
  refine W.widen (k := 13) (n := 1484) (by decide) (by decide) ?_
  refine x_putF (C := RX6) (T := TX6) (N := 23) (ci := 6) (ty := (.array .int)) 14 inT_X6 tyX6 tyX6_ok nmX6 rfl (by decide) lf_X6_47 rfl rfl (by decide +kernel) rfl hnm X hd 0 rfl rfl rfl (Nat.le_of_ble_eq_true rfl) dX6_init_112 (fun H locs hd => ?_)
  have hd : Hd G A s.heap [(m0, .inr (6, [.ref q_1, .ref q_2, .ref q_3, .ref q_4, .ref q_5, .ref q_6, .ref q_7, .ref q_8, .ref q_9, .int (nI 0), .int (nI 0), .ref q_10, .ref q_11, .ref q_12, .ref q_13, .null, .null, .null, .null, .int (nI 0), .int (nI 0), .int (nI 0), .null])), (q_1, .inl (cI, 194, .inl (fun _ => 0))), (q_2, .inl (cI, 388, .inl (fun _ => 0))), (q_3, .inl (cZ, 2, .inl (fun _ => 0))), (q_4, .inl (cI, 144, .inl (fun _ => 0))), (q_5, .inl (cI, 144, .inl (fun _ => 0))), (q_6, .inl (cI, 144, .inl (fun _ => 0))), (q_7, .inl (cI, 144, .inl (fun _ => 0))), (q_8, .inl (cI, 144, .inl (fun _ => 0))), (q_9, .inl (cI, 144, .inl (fun _ => 0))), (q_10, .inl (cI, 9, .inl (fun _ => 0))), (q_11, .inl (cI, 9, .inl (fun _ => 0))), (q_12, .inl (cI, 9, .inl (fun _ => 0))), (q_13, .inl (cI, 9, .inl (fun _ => 0)))] H locs := hd
  refine lv_aload_n hx hb dX6_init_115 rfl (lv_at hl 0 rfl) ?_
  refine lv_bipush (v := nI 108) hx hb dX6_init_116 (by decide) ?_
  refine x_newaI X hd hA (N := 108) (by decide) (by decide) (by decide) (by decide) dX6_init_118 w_arrI (fun q_14 H locs hd => ?_)
  have hd : Hd G A s.heap [(m0, .inr (6, [.ref q_1, .ref q_2, .ref q_3, .ref q_4, .ref q_5, .ref q_6, .ref q_7, .ref q_8, .ref q_9, .int (nI 0), .int (nI 0), .ref q_10, .ref q_11, .ref q_12, .ref q_13, .null, .null, .null, .null, .int (nI 0), .int (nI 0), .int (nI 0), .null])), (q_1, .inl (cI, 194, .inl (fun _ => 0))), (q_2, .inl (cI, 388, .inl (fun _ => 0))), (q_3, .inl (cZ, 2, .inl (fun _ => 0))), (q_4, .inl (cI, 144, .inl (fun _ => 0))), (q_5, .inl (cI, 144, .inl (fun _ => 0))), (q_6, .inl (cI, 144, .inl (fun _ => 0))), (q_7, .inl (cI, 144, .inl (fun _ => 0))), (q_8, .inl (cI, 144, .inl (fun _ => 0))), (q_9, .inl (cI, 144, .inl (fun _ => 0))), (q_10, .inl (cI, 9, .inl (fun _ => 0))), (q_11, .inl (cI, 9, .inl (fun _ => 0))), (q_12, .inl (cI, 9, .inl (fun _ => 0))), (q_13, .inl (cI, 9, .inl (fun _ => 0))), (q_14, .inl (cI, 108, .inl (fun _ => 0)))] H locs := hd
  refine W.widen (k := 14) (n := 1592) (by decide) (by decide) ?_
  refine x_putF (C := RX6) (T := TX6) (N := 23) (ci := 6) (ty := (.array .int)) 15 inT_X6 tyX6 tyX6_ok nmX6 rfl (by decide) lf_X6_50 rfl rfl (by decide +kernel) rfl hnm X hd 0 rfl rfl rfl (Nat.le_of_ble_eq_true rfl) dX6_init_120 (fun H locs hd => ?_)
  have hd : Hd G A s.heap [(m0, .inr (6, [.ref q_1, .ref q_2, .ref q_3, .ref q_4, .ref q_5, .ref q_6, .ref q_7, .ref q_8, .ref q_9, .int (nI 0), .int (nI 0), .ref q_10, .ref q_11, .ref q_12, .ref q_13, .ref q_14, .null, .null, .null, .int (nI 0), .int (nI 0), .int (nI 0), .null])), (q_1, .inl (cI, 194, .inl (fun _ => 0))), (q_2, .inl (cI, 388, .inl (fun _ => 0))), (q_3, .inl (cZ, 2, .inl (fun _ => 0))), (q_4, .inl (cI, 144, .inl (fun _ => 0))), (q_5, .inl (cI, 144, .inl (fun _ => 0))), (q_6, .inl (cI, 144, .inl (fun _ => 0))), (q_7, .inl (cI, 144, .inl (fun _ => 0))), (q_8, .inl (cI, 144, .inl (fun _ => 0))), (q_9, .inl (cI, 144, .inl (fun _ => 0))), (q_10, .inl (cI, 9, .inl (fun _ => 0))), (q_11, .inl (cI, 9, .inl (fun _ => 0))), (q_12, .inl (cI, 9, .inl (fun _ => 0))), (q_13, .inl (cI, 9, .inl (fun _ => 0))), (q_14, .inl (cI, 108, .inl (fun _ => 0)))] H locs := hd
  refine lv_aload_n hx hb dX6_init_123 rfl (lv_at hl 0 rfl) ?_
  refine lv_bipush (v := nI 108) hx hb dX6_init_124 (by decide) ?_
  refine x_newaI X hd hA (N := 108) (by decide) (by decide) (by decide) (by decide) dX6_init_126 w_arrI (fun q_15 H locs hd => ?_)
  have hd : Hd G A s.heap [(m0, .inr (6, [.ref q_1, .ref q_2, .ref q_3, .ref q_4, .ref q_5, .ref q_6, .ref q_7, .ref q_8, .ref q_9, .int (nI 0), .int (nI 0), .ref q_10, .ref q_11, .ref q_12, .ref q_13, .ref q_14, .null, .null, .null, .int (nI 0), .int (nI 0), .int (nI 0), .null])), (q_1, .inl (cI, 194, .inl (fun _ => 0))), (q_2, .inl (cI, 388, .inl (fun _ => 0))), (q_3, .inl (cZ, 2, .inl (fun _ => 0))), (q_4, .inl (cI, 144, .inl (fun _ => 0))), (q_5, .inl (cI, 144, .inl (fun _ => 0))), (q_6, .inl (cI, 144, .inl (fun _ => 0))), (q_7, .inl (cI, 144, .inl (fun _ => 0))), (q_8, .inl (cI, 144, .inl (fun _ => 0))), (q_9, .inl (cI, 144, .inl (fun _ => 0))), (q_10, .inl (cI, 9, .inl (fun _ => 0))), (q_11, .inl (cI, 9, .inl (fun _ => 0))), (q_12, .inl (cI, 9, .inl (fun _ => 0))), (q_13, .inl (cI, 9, .inl (fun _ => 0))), (q_14, .inl (cI, 108, .inl (fun _ => 0))), (q_15, .inl (cI, 108, .inl (fun _ => 0)))] H locs := hd
  refine W.widen (k := 15) (n := 1700) (by decide) (by decide) ?_
  refine x_putF (C := RX6) (T := TX6) (N := 23) (ci := 6) (ty := (.array .int)) 16 inT_X6 tyX6 tyX6_ok nmX6 rfl (by decide) lf_X6_53 rfl rfl (by decide +kernel) rfl hnm X hd 0 rfl rfl rfl (Nat.le_of_ble_eq_true rfl) dX6_init_128 (fun H locs hd => ?_)
  have hd : Hd G A s.heap [(m0, .inr (6, [.ref q_1, .ref q_2, .ref q_3, .ref q_4, .ref q_5, .ref q_6, .ref q_7, .ref q_8, .ref q_9, .int (nI 0), .int (nI 0), .ref q_10, .ref q_11, .ref q_12, .ref q_13, .ref q_14, .ref q_15, .null, .null, .int (nI 0), .int (nI 0), .int (nI 0), .null])), (q_1, .inl (cI, 194, .inl (fun _ => 0))), (q_2, .inl (cI, 388, .inl (fun _ => 0))), (q_3, .inl (cZ, 2, .inl (fun _ => 0))), (q_4, .inl (cI, 144, .inl (fun _ => 0))), (q_5, .inl (cI, 144, .inl (fun _ => 0))), (q_6, .inl (cI, 144, .inl (fun _ => 0))), (q_7, .inl (cI, 144, .inl (fun _ => 0))), (q_8, .inl (cI, 144, .inl (fun _ => 0))), (q_9, .inl (cI, 144, .inl (fun _ => 0))), (q_10, .inl (cI, 9, .inl (fun _ => 0))), (q_11, .inl (cI, 9, .inl (fun _ => 0))), (q_12, .inl (cI, 9, .inl (fun _ => 0))), (q_13, .inl (cI, 9, .inl (fun _ => 0))), (q_14, .inl (cI, 108, .inl (fun _ => 0))), (q_15, .inl (cI, 108, .inl (fun _ => 0)))] H locs := hd
  refine lv_aload_n hx hb dX6_init_131 rfl (lv_at hl 0 rfl) ?_
  refine lv_bipush (v := nI 9) hx hb dX6_init_132 (by decide) ?_
  refine x_newaI X hd hA (N := 9) (by decide) (by decide) (by decide) (by decide) dX6_init_134 w_arrI (fun q_16 H locs hd => ?_)
  have hd : Hd G A s.heap [(m0, .inr (6, [.ref q_1, .ref q_2, .ref q_3, .ref q_4, .ref q_5, .ref q_6, .ref q_7, .ref q_8, .ref q_9, .int (nI 0), .int (nI 0), .ref q_10, .ref q_11, .ref q_12, .ref q_13, .ref q_14, .ref q_15, .null, .null, .int (nI 0), .int (nI 0), .int (nI 0), .null])), (q_1, .inl (cI, 194, .inl (fun _ => 0))), (q_2, .inl (cI, 388, .inl (fun _ => 0))), (q_3, .inl (cZ, 2, .inl (fun _ => 0))), (q_4, .inl (cI, 144, .inl (fun _ => 0))), (q_5, .inl (cI, 144, .inl (fun _ => 0))), (q_6, .inl (cI, 144, .inl (fun _ => 0))), (q_7, .inl (cI, 144, .inl (fun _ => 0))), (q_8, .inl (cI, 144, .inl (fun _ => 0))), (q_9, .inl (cI, 144, .inl (fun _ => 0))), (q_10, .inl (cI, 9, .inl (fun _ => 0))), (q_11, .inl (cI, 9, .inl (fun _ => 0))), (q_12, .inl (cI, 9, .inl (fun _ => 0))), (q_13, .inl (cI, 9, .inl (fun _ => 0))), (q_14, .inl (cI, 108, .inl (fun _ => 0))), (q_15, .inl (cI, 108, .inl (fun _ => 0))), (q_16, .inl (cI, 9, .inl (fun _ => 0)))] H locs := hd
  refine W.widen (k := 16) (n := 1709) (by decide) (by decide) ?_
  refine x_putF (C := RX6) (T := TX6) (N := 23) (ci := 6) (ty := (.array .int)) 17 inT_X6 tyX6 tyX6_ok nmX6 rfl (by decide) lf_X6_56 rfl rfl (by decide +kernel) rfl hnm X hd 0 rfl rfl rfl (Nat.le_of_ble_eq_true rfl) dX6_init_136 (fun H locs hd => ?_)
  have hd : Hd G A s.heap [(m0, .inr (6, [.ref q_1, .ref q_2, .ref q_3, .ref q_4, .ref q_5, .ref q_6, .ref q_7, .ref q_8, .ref q_9, .int (nI 0), .int (nI 0), .ref q_10, .ref q_11, .ref q_12, .ref q_13, .ref q_14, .ref q_15, .ref q_16, .null, .int (nI 0), .int (nI 0), .int (nI 0), .null])), (q_1, .inl (cI, 194, .inl (fun _ => 0))), (q_2, .inl (cI, 388, .inl (fun _ => 0))), (q_3, .inl (cZ, 2, .inl (fun _ => 0))), (q_4, .inl (cI, 144, .inl (fun _ => 0))), (q_5, .inl (cI, 144, .inl (fun _ => 0))), (q_6, .inl (cI, 144, .inl (fun _ => 0))), (q_7, .inl (cI, 144, .inl (fun _ => 0))), (q_8, .inl (cI, 144, .inl (fun _ => 0))), (q_9, .inl (cI, 144, .inl (fun _ => 0))), (q_10, .inl (cI, 9, .inl (fun _ => 0))), (q_11, .inl (cI, 9, .inl (fun _ => 0))), (q_12, .inl (cI, 9, .inl (fun _ => 0))), (q_13, .inl (cI, 9, .inl (fun _ => 0))), (q_14, .inl (cI, 108, .inl (fun _ => 0))), (q_15, .inl (cI, 108, .inl (fun _ => 0))), (q_16, .inl (cI, 9, .inl (fun _ => 0)))] H locs := hd
  refine lv_aload_n hx hb dX6_init_139 rfl (lv_at hl 0 rfl) ?_
  refine lv_bipush (v := nI 9) hx hb dX6_init_140 (by decide) ?_
  refine x_newaI X hd hA (N := 9) (by decide) (by decide) (by decide) (by decide) dX6_init_142 w_arrI (fun q_17 H locs hd => ?_)
  have hd : Hd G A s.heap [(m0, .inr (6, [.ref q_1, .ref q_2, .ref q_3, .ref q_4, .ref q_5, .ref q_6, .ref q_7, .ref q_8, .ref q_9, .int (nI 0), .int (nI 0), .ref q_10, .ref q_11, .ref q_12, .ref q_13, .ref q_14, .ref q_15, .ref q_16, .null, .int (nI 0), .int (nI 0), .int (nI 0), .null])), (q_1, .inl (cI, 194, .inl (fun _ => 0))), (q_2, .inl (cI, 388, .inl (fun _ => 0))), (q_3, .inl (cZ, 2, .inl (fun _ => 0))), (q_4, .inl (cI, 144, .inl (fun _ => 0))), (q_5, .inl (cI, 144, .inl (fun _ => 0))), (q_6, .inl (cI, 144, .inl (fun _ => 0))), (q_7, .inl (cI, 144, .inl (fun _ => 0))), (q_8, .inl (cI, 144, .inl (fun _ => 0))), (q_9, .inl (cI, 144, .inl (fun _ => 0))), (q_10, .inl (cI, 9, .inl (fun _ => 0))), (q_11, .inl (cI, 9, .inl (fun _ => 0))), (q_12, .inl (cI, 9, .inl (fun _ => 0))), (q_13, .inl (cI, 9, .inl (fun _ => 0))), (q_14, .inl (cI, 108, .inl (fun _ => 0))), (q_15, .inl (cI, 108, .inl (fun _ => 0))), (q_16, .inl (cI, 9, .inl (fun _ => 0))), (q_17, .inl (cI, 9, .inl (fun _ => 0)))] H locs := hd
  refine W.widen (k := 17) (n := 1718) (by decide) (by decide) ?_
  refine x_putF (C := RX6) (T := TX6) (N := 23) (ci := 6) (ty := (.array .int)) 18 inT_X6 tyX6 tyX6_ok nmX6 rfl (by decide) lf_X6_59 rfl rfl (by decide +kernel) rfl hnm X hd 0 rfl rfl rfl (Nat.le_of_ble_eq_true rfl) dX6_init_144 (fun H locs hd => ?_)
  have hd : Hd G A s.heap [(m0, .inr (6, [.ref q_1, .ref q_2, .ref q_3, .ref q_4, .ref q_5, .ref q_6, .ref q_7, .ref q_8, .ref q_9, .int (nI 0), .int (nI 0), .ref q_10, .ref q_11, .ref q_12, .ref q_13, .ref q_14, .ref q_15, .ref q_16, .ref q_17, .int (nI 0), .int (nI 0), .int (nI 0), .null])), (q_1, .inl (cI, 194, .inl (fun _ => 0))), (q_2, .inl (cI, 388, .inl (fun _ => 0))), (q_3, .inl (cZ, 2, .inl (fun _ => 0))), (q_4, .inl (cI, 144, .inl (fun _ => 0))), (q_5, .inl (cI, 144, .inl (fun _ => 0))), (q_6, .inl (cI, 144, .inl (fun _ => 0))), (q_7, .inl (cI, 144, .inl (fun _ => 0))), (q_8, .inl (cI, 144, .inl (fun _ => 0))), (q_9, .inl (cI, 144, .inl (fun _ => 0))), (q_10, .inl (cI, 9, .inl (fun _ => 0))), (q_11, .inl (cI, 9, .inl (fun _ => 0))), (q_12, .inl (cI, 9, .inl (fun _ => 0))), (q_13, .inl (cI, 9, .inl (fun _ => 0))), (q_14, .inl (cI, 108, .inl (fun _ => 0))), (q_15, .inl (cI, 108, .inl (fun _ => 0))), (q_16, .inl (cI, 9, .inl (fun _ => 0))), (q_17, .inl (cI, 9, .inl (fun _ => 0)))] H locs := hd
  refine lv_aload_n hx hb dX6_init_147 rfl (lv_at hl 0 rfl) ?_
  refine lv_bipush (v := nI 108) hx hb dX6_init_148 (by decide) ?_
  refine x_newaI X hd hA (N := 108) (by decide) (by decide) (by decide) (by decide) dX6_init_150 w_arrI (fun q_18 H locs hd => ?_)
  have hd : Hd G A s.heap [(m0, .inr (6, [.ref q_1, .ref q_2, .ref q_3, .ref q_4, .ref q_5, .ref q_6, .ref q_7, .ref q_8, .ref q_9, .int (nI 0), .int (nI 0), .ref q_10, .ref q_11, .ref q_12, .ref q_13, .ref q_14, .ref q_15, .ref q_16, .ref q_17, .int (nI 0), .int (nI 0), .int (nI 0), .null])), (q_1, .inl (cI, 194, .inl (fun _ => 0))), (q_2, .inl (cI, 388, .inl (fun _ => 0))), (q_3, .inl (cZ, 2, .inl (fun _ => 0))), (q_4, .inl (cI, 144, .inl (fun _ => 0))), (q_5, .inl (cI, 144, .inl (fun _ => 0))), (q_6, .inl (cI, 144, .inl (fun _ => 0))), (q_7, .inl (cI, 144, .inl (fun _ => 0))), (q_8, .inl (cI, 144, .inl (fun _ => 0))), (q_9, .inl (cI, 144, .inl (fun _ => 0))), (q_10, .inl (cI, 9, .inl (fun _ => 0))), (q_11, .inl (cI, 9, .inl (fun _ => 0))), (q_12, .inl (cI, 9, .inl (fun _ => 0))), (q_13, .inl (cI, 9, .inl (fun _ => 0))), (q_14, .inl (cI, 108, .inl (fun _ => 0))), (q_15, .inl (cI, 108, .inl (fun _ => 0))), (q_16, .inl (cI, 9, .inl (fun _ => 0))), (q_17, .inl (cI, 9, .inl (fun _ => 0))), (q_18, .inl (cI, 108, .inl (fun _ => 0)))] H locs := hd
  refine W.widen (k := 18) (n := 1826) (by decide) (by decide) ?_
  refine x_putF (C := RX6) (T := TX6) (N := 23) (ci := 6) (ty := (.array .int)) 22 inT_X6 tyX6 tyX6_ok nmX6 rfl (by decide) lf_X6_62 rfl rfl (by decide +kernel) rfl hnm X hd 0 rfl rfl rfl (Nat.le_of_ble_eq_true rfl) dX6_init_152 (fun H locs hd => ?_)
  have hd : Hd G A s.heap [(m0, .inr (6, [.ref q_1, .ref q_2, .ref q_3, .ref q_4, .ref q_5, .ref q_6, .ref q_7, .ref q_8, .ref q_9, .int (nI 0), .int (nI 0), .ref q_10, .ref q_11, .ref q_12, .ref q_13, .ref q_14, .ref q_15, .ref q_16, .ref q_17, .int (nI 0), .int (nI 0), .int (nI 0), .ref q_18])), (q_1, .inl (cI, 194, .inl (fun _ => 0))), (q_2, .inl (cI, 388, .inl (fun _ => 0))), (q_3, .inl (cZ, 2, .inl (fun _ => 0))), (q_4, .inl (cI, 144, .inl (fun _ => 0))), (q_5, .inl (cI, 144, .inl (fun _ => 0))), (q_6, .inl (cI, 144, .inl (fun _ => 0))), (q_7, .inl (cI, 144, .inl (fun _ => 0))), (q_8, .inl (cI, 144, .inl (fun _ => 0))), (q_9, .inl (cI, 144, .inl (fun _ => 0))), (q_10, .inl (cI, 9, .inl (fun _ => 0))), (q_11, .inl (cI, 9, .inl (fun _ => 0))), (q_12, .inl (cI, 9, .inl (fun _ => 0))), (q_13, .inl (cI, 9, .inl (fun _ => 0))), (q_14, .inl (cI, 108, .inl (fun _ => 0))), (q_15, .inl (cI, 108, .inl (fun _ => 0))), (q_16, .inl (cI, 9, .inl (fun _ => 0))), (q_17, .inl (cI, 9, .inl (fun _ => 0))), (q_18, .inl (cI, 108, .inl (fun _ => 0)))] H locs := hd
  refine lv_aload_n hx hb dX6_init_155 rfl (lv_at hl 0 rfl) ?_
  refine x_get (C := RX6) (T := TX6) (N := 23) (ci := 6) 0 inT_X6 rfl (by decide) lf_X6_7 rfl X hd.1 0 rfl rfl dX6_init_156 ?_
  refine lv_iconst (v := nI 3) hx hb dX6_init_159 (by decide) ?_
  refine lv_iconst (v := nI 5) hx hb dX6_init_160 (by decide) ?_
  refine n_iast X hd 1 rfl (by omega) (by decide) dX6_init_161 (fun H locs hd => ?_)
  have hd : Hd G A s.heap [(m0, .inr (6, [.ref q_1, .ref q_2, .ref q_3, .ref q_4, .ref q_5, .ref q_6, .ref q_7, .ref q_8, .ref q_9, .int (nI 0), .int (nI 0), .ref q_10, .ref q_11, .ref q_12, .ref q_13, .ref q_14, .ref q_15, .ref q_16, .ref q_17, .int (nI 0), .int (nI 0), .int (nI 0), .ref q_18])), (q_1, .inl (cI, 194, .inl (upd (fun _ => 0) 3 (nI 5)))), (q_2, .inl (cI, 388, .inl (fun _ => 0))), (q_3, .inl (cZ, 2, .inl (fun _ => 0))), (q_4, .inl (cI, 144, .inl (fun _ => 0))), (q_5, .inl (cI, 144, .inl (fun _ => 0))), (q_6, .inl (cI, 144, .inl (fun _ => 0))), (q_7, .inl (cI, 144, .inl (fun _ => 0))), (q_8, .inl (cI, 144, .inl (fun _ => 0))), (q_9, .inl (cI, 144, .inl (fun _ => 0))), (q_10, .inl (cI, 9, .inl (fun _ => 0))), (q_11, .inl (cI, 9, .inl (fun _ => 0))), (q_12, .inl (cI, 9, .inl (fun _ => 0))), (q_13, .inl (cI, 9, .inl (fun _ => 0))), (q_14, .inl (cI, 108, .inl (fun _ => 0))), (q_15, .inl (cI, 108, .inl (fun _ => 0))), (q_16, .inl (cI, 9, .inl (fun _ => 0))), (q_17, .inl (cI, 9, .inl (fun _ => 0))), (q_18, .inl (cI, 108, .inl (fun _ => 0)))] H locs := hd
  refine lv_aload_n hx hb dX6_init_162 rfl (lv_at hl 0 rfl) ?_
  refine x_get (C := RX6) (T := TX6) (N := 23) (ci := 6) 0 inT_X6 rfl (by decide) lf_X6_7 rfl X hd.1 0 rfl rfl dX6_init_163 ?_
  refine lv_iconst (v := nI 4) hx hb dX6_init_166 (by decide) ?_
  refine lv_iconst (v := nI 1) hx hb dX6_init_167 (by decide) ?_
  refine n_iast X hd 1 rfl (by omega) (by decide) dX6_init_168 (fun H locs hd => ?_)
  have hd : Hd G A s.heap [(m0, .inr (6, [.ref q_1, .ref q_2, .ref q_3, .ref q_4, .ref q_5, .ref q_6, .ref q_7, .ref q_8, .ref q_9, .int (nI 0), .int (nI 0), .ref q_10, .ref q_11, .ref q_12, .ref q_13, .ref q_14, .ref q_15, .ref q_16, .ref q_17, .int (nI 0), .int (nI 0), .int (nI 0), .ref q_18])), (q_1, .inl (cI, 194, .inl (upd (upd (fun _ => 0) 3 (nI 5)) 4 (nI 1)))), (q_2, .inl (cI, 388, .inl (fun _ => 0))), (q_3, .inl (cZ, 2, .inl (fun _ => 0))), (q_4, .inl (cI, 144, .inl (fun _ => 0))), (q_5, .inl (cI, 144, .inl (fun _ => 0))), (q_6, .inl (cI, 144, .inl (fun _ => 0))), (q_7, .inl (cI, 144, .inl (fun _ => 0))), (q_8, .inl (cI, 144, .inl (fun _ => 0))), (q_9, .inl (cI, 144, .inl (fun _ => 0))), (q_10, .inl (cI, 9, .inl (fun _ => 0))), (q_11, .inl (cI, 9, .inl (fun _ => 0))), (q_12, .inl (cI, 9, .inl (fun _ => 0))), (q_13, .inl (cI, 9, .inl (fun _ => 0))), (q_14, .inl (cI, 108, .inl (fun _ => 0))), (q_15, .inl (cI, 108, .inl (fun _ => 0))), (q_16, .inl (cI, 9, .inl (fun _ => 0))), (q_17, .inl (cI, 9, .inl (fun _ => 0))), (q_18, .inl (cI, 108, .inl (fun _ => 0)))] H locs := hd
  have hd := hd.arr 1 rfl (mkS 0 0 (nI 0) (nI 5) (nI 1) (fun _ => nI 0) (fun _ => nI 0)) (fun j hj => init_S hj)
  have hd : Hd G A s.heap [(m0, .inr (6, [.ref q_1, .ref q_2, .ref q_3, .ref q_4, .ref q_5, .ref q_6, .ref q_7, .ref q_8, .ref q_9, .int (nI 0), .int (nI 0), .ref q_10, .ref q_11, .ref q_12, .ref q_13, .ref q_14, .ref q_15, .ref q_16, .ref q_17, .int (nI 0), .int (nI 0), .int (nI 0), .ref q_18])), (q_1, .inl (cI, 194, .inl (mkS 0 0 (nI 0) (nI 5) (nI 1) (fun _ => nI 0) (fun _ => nI 0)))), (q_2, .inl (cI, 388, .inl (fun _ => 0))), (q_3, .inl (cZ, 2, .inl (fun _ => 0))), (q_4, .inl (cI, 144, .inl (fun _ => 0))), (q_5, .inl (cI, 144, .inl (fun _ => 0))), (q_6, .inl (cI, 144, .inl (fun _ => 0))), (q_7, .inl (cI, 144, .inl (fun _ => 0))), (q_8, .inl (cI, 144, .inl (fun _ => 0))), (q_9, .inl (cI, 144, .inl (fun _ => 0))), (q_10, .inl (cI, 9, .inl (fun _ => 0))), (q_11, .inl (cI, 9, .inl (fun _ => 0))), (q_12, .inl (cI, 9, .inl (fun _ => 0))), (q_13, .inl (cI, 9, .inl (fun _ => 0))), (q_14, .inl (cI, 108, .inl (fun _ => 0))), (q_15, .inl (cI, 108, .inl (fun _ => 0))), (q_16, .inl (cI, 9, .inl (fun _ => 0))), (q_17, .inl (cI, 9, .inl (fun _ => 0))), (q_18, .inl (cI, 108, .inl (fun _ => 0)))] H locs := hd
  refine lv_aload_n hx hb dX6_init_169 rfl (lv_at hl 0 rfl) ?_
  refine lv_iconst (v := nI 4) hx hb dX6_init_170 (by decide) ?_
  refine lv_iconst (v := nI 4) hx hb dX6_init_171 (by decide) ?_
  refine cM_V (As := [.int (nI 4), .int (nI 4)]) (rest := []) (wr := [(q_2, .inl (cI, 388, .inl (fun _ => 0))), (q_3, .inl (cZ, 2, .inl (fun _ => 0))), (q_4, .inl (cI, 144, .inl (fun _ => 0))), (q_5, .inl (cI, 144, .inl (fun _ => 0))), (q_6, .inl (cI, 144, .inl (fun _ => 0))), (q_7, .inl (cI, 144, .inl (fun _ => 0))), (q_8, .inl (cI, 144, .inl (fun _ => 0))), (q_9, .inl (cI, 144, .inl (fun _ => 0))), (q_10, .inl (cI, 9, .inl (fun _ => 0))), (q_11, .inl (cI, 9, .inl (fun _ => 0))), (q_12, .inl (cI, 9, .inl (fun _ => 0))), (q_13, .inl (cI, 9, .inl (fun _ => 0))), (q_14, .inl (cI, 108, .inl (fun _ => 0))), (q_15, .inl (cI, 108, .inl (fun _ => 0))), (q_16, .inl (cI, 9, .inl (fun _ => 0))), (q_17, .inl (cI, 9, .inl (fun _ => 0))), (q_18, .inl (cI, 108, .inl (fun _ => 0)))]) X (c_X6_begin l G cI cZ m0 q_1 q_2 q_3 q_4 q_5 q_6 q_7 q_8 q_9 q_10 q_11 q_12 q_13 q_14 q_15 q_16 q_17 q_18 0 0 0 (nI 0) (nI 0) 0 0 (nI 0) (nI 5) (nI 1) (fun _ => nI 0) (fun _ => nI 0) 4 4 ) lk_X6_65 hd hA [0, 1] [2, 3, 4, 5, 6, 7, 8, 9, 10, 11, 12, 13, 14, 15, 16, 17, 18] rfl rfl rfl rfl (by decide) rfl rfl hl.1 rfl rfl (Nat.le_of_ble_eq_true rfl) ⟨Nat.le_of_ble_eq_true rfl, Nat.le_of_ble_eq_true rfl⟩ ⟨Nat.le_of_ble_eq_true rfl, Nat.le_of_ble_eq_true rfl⟩ dX6_init_172 (fun v w1 H locs hp hd => ?_)
  obtain ⟨rfl, rfl⟩ := hp
  have hd : Hd G A s.heap [(q_2, .inl (cI, 388, .inl (fun _ => 0))), (q_3, .inl (cZ, 2, .inl (fun _ => 0))), (q_4, .inl (cI, 144, .inl (fun _ => 0))), (q_5, .inl (cI, 144, .inl (fun _ => 0))), (q_6, .inl (cI, 144, .inl (fun _ => 0))), (q_7, .inl (cI, 144, .inl (fun _ => 0))), (q_8, .inl (cI, 144, .inl (fun _ => 0))), (q_9, .inl (cI, 144, .inl (fun _ => 0))), (q_10, .inl (cI, 9, .inl (fun _ => 0))), (q_11, .inl (cI, 9, .inl (fun _ => 0))), (q_12, .inl (cI, 9, .inl (fun _ => 0))), (q_13, .inl (cI, 9, .inl (fun _ => 0))), (q_14, .inl (cI, 108, .inl (fun _ => 0))), (q_15, .inl (cI, 108, .inl (fun _ => 0))), (q_16, .inl (cI, 9, .inl (fun _ => 0))), (q_17, .inl (cI, 9, .inl (fun _ => 0))), (q_18, .inl (cI, 108, .inl (fun _ => 0))), (m0, .inr (6, [.ref q_1, .ref q_2, .ref q_3, .ref q_4, .ref q_5, .ref q_6, .ref q_7, .ref q_8, .ref q_9, .int (nI 0), .int (nI 0), .ref q_10, .ref q_11, .ref q_12, .ref q_13, .ref q_14, .ref q_15, .ref q_16, .ref q_17, .int (nI 0), .int (nI 0), .int (nI 0), .ref q_18])), (q_1, .inl (cI, 194, .inl (mkS 4 4 (nI 0) (nI 5) (nI 1) (fun _ => nI 1) (fun _ => nI 0))))] H locs := hd
  refine st_all (st' := []) rfl ?_
  refine W.widen (k := 18) (n := 1826) (by decide) (by decide) ?_
  exact (fin _ _ [(m0, .inr (6, [.ref q_1, .ref q_2, .ref q_3, .ref q_4, .ref q_5, .ref q_6, .ref q_7, .ref q_8, .ref q_9, .int (nI 0), .int (nI 0), .ref q_10, .ref q_11, .ref q_12, .ref q_13, .ref q_14, .ref q_15, .ref q_16, .ref q_17, .int (nI 0), .int (nI 0), .int (nI 0), .ref q_18])), (q_1, .inl (cI, 194, .inl (mkS 4 4 (nI 0) (nI 5) (nI 1) (fun _ => nI 1) (fun _ => nI 0)))), (q_2, .inl (cI, 388, .inl (fun _ => 0))), (q_3, .inl (cZ, 2, .inl (fun _ => 0))), (q_4, .inl (cI, 144, .inl (fun _ => 0))), (q_5, .inl (cI, 144, .inl (fun _ => 0))), (q_6, .inl (cI, 144, .inl (fun _ => 0))), (q_7, .inl (cI, 144, .inl (fun _ => 0))), (q_8, .inl (cI, 144, .inl (fun _ => 0))), (q_9, .inl (cI, 144, .inl (fun _ => 0))), (q_10, .inl (cI, 9, .inl (fun _ => 0))), (q_11, .inl (cI, 9, .inl (fun _ => 0))), (q_12, .inl (cI, 9, .inl (fun _ => 0))), (q_13, .inl (cI, 9, .inl (fun _ => 0))), (q_14, .inl (cI, 108, .inl (fun _ => 0))), (q_15, .inl (cI, 108, .inl (fun _ => 0))), (q_16, .inl (cI, 9, .inl (fun _ => 0))), (q_17, .inl (cI, 9, .inl (fun _ => 0))), (q_18, .inl (cI, 108, .inl (fun _ => 0)))] _ _ (hd.sub [17, 18, 0, 1, 2, 3, 4, 5, 6, 7, 8, 9, 10, 11, 12, 13, 14, 15, 16] rfl rfl)).1 rfl ⟨q_1, q_2, q_3, q_4, q_5, q_6, q_7, q_8, q_9, q_10, q_11, q_12, q_13, q_14, q_15, q_16, q_17, q_18, rfl, rfl⟩ dX6_init_175
