set_option maxHeartbeats 4000000 in
set_option maxRecDepth 100000 in
theorem c_X5_rule (l : Launch) (G : va_G) (cI cZ : ClassId) (x0 : Nat) (nw : Nat) (i0 : Nat) (i1 : Nat) (kp : Nat) (le : Nat) (bs : Nat) (us : Nat) (an : Nat) (sr_ : Nat) (ss : Nat) (n : Nat) (z : Nat) (op : Int32) (st : Int32) (ea : Int32) (p0 : Int32) (p1 : Int32) : CM l G cI cZ yX5_rule cX5_rule 4 (some .int) 1 22 0 0 [.ref x0, .int p0, .int p1] [(x0, .inr (5, [.ref nw, .ref i0, .ref i1, .int (nI kp), .ref le, .ref bs, .ref us, .ref an])), (nw, .inr (4, [.ref sr_, .ref ss, .int (nI n), .int (nI z), .int op, .int st, .int ea]))] (fun ov_ wv_ => ov_ = some (.int (A_rule op st ea p0 p1)) ∧ wv_ = [(x0, .inr (5, [.ref nw, .ref i0, .ref i1, .int (nI kp), .ref le, .ref bs, .ref us, .ref an])), (nw, .inr (4, [.ref sr_, .ref ss, .int (nI n), .int (nI z), .int (T_rule 0 op p0 p1), .int (T_rule (nI 1) st p0 p1), .int (T_rule (nI 2) ea p0 p1)]))]) := by
  refine CM.of (own := RX5) (by decide) rfl (Nat.le_of_ble_eq_true rfl) ?_
  intro p e R s m args below meth c Q A X hR hret hnm hA fin hd ls hl
  subst hR
  have hx := X.1
  have hb := X.2.1
  have hl : lv_has ls 4 [(0, .ref x0), (1, .int p0), (2, .int p1)] := hl
  refine lv_iload_n hx hb dX5_rule_0 rfl (lv_at hl 1 rfl) ?_
  refine lv_iconst (v := nI 0) hx hb dX5_rule_1 (by decide) ?_
  refine lv_iconst (v := nI 2) hx hb dX5_rule_2 (by decide) ?_
  refine cR_S (As := [.int p0, .int (nI 0), .int (nI 2)]) (rest := []) X (c_X5_isWithin l G cI cZ p0 (nI 0) (nI 2) ) lk_X5_50 (hd.1.sub (ws' := []) [] rfl) hl.1 rfl rfl (Nat.le_of_ble_eq_true rfl) ⟨Nat.le_of_ble_eq_true rfl, Nat.le_of_ble_eq_true rfl⟩ ⟨Nat.le_of_ble_eq_true rfl, Nat.le_of_ble_eq_true rfl⟩ dX5_rule_3 ?_
  refine b_if_eq (tgt := 27) hx hb dX5_rule_6 (by decide) (fun c_6 => ?_) (fun c_6 => ?_)
  · refine lv_bipush (v := (-2)) hx hb dX5_rule_27 (by decide) ?_
    exact (fin _ _ [(x0, .inr (5, [.ref nw, .ref i0, .ref i1, .int (nI kp), .ref le, .ref bs, .ref us, .ref an])), (nw, .inr (4, [.ref sr_, .ref ss, .int (nI n), .int (nI z), .int op, .int st, .int ea]))] _ _ (hd.sub [0, 1] rfl rfl)).2.1 (-2) rfl ⟨by simp [A_rule, vRu, c_6], by simp [T_rule, vRu, c_6]⟩ dX5_rule_29
  · obtain ⟨u, hu, rfl⟩ := inB_of (by decide) c_6
    rcases (show u = 0 ∨ u = 1 ∨ u = 2 by omega) with rfl | rfl | rfl
    · refine lv_iload_n hx hb dX5_rule_9 rfl (lv_at hl 2 rfl) ?_
      refine lv_iconst (v := nI 0) hx hb dX5_rule_10 (by decide) ?_
      refine lv_iload_n hx hb dX5_rule_11 rfl (lv_at hl 1 rfl) ?_
      refine n_if_ne (tgt := 19) hx hb dX5_rule_12 (by decide) (by omega) (fun c_12 => ?_) (fun c_12 => ?_)
      · exact absurd c_12 (by decide)
      · refine lv_iconst (v := nI 2) hx hb dX5_rule_15 (by decide) ?_
        refine lv_goto (tgt := 21) hx hb dX5_rule_16 (by decide) ?_
        refine cR_S (As := [.int p1, .int (nI 0), .int (nI 2)]) (rest := []) X (c_X5_isWithin l G cI cZ p1 (nI 0) (nI 2) ) lk_X5_50 (hd.1.sub (ws' := []) [] rfl) hl.1 rfl rfl (Nat.le_of_ble_eq_true rfl) ⟨Nat.le_of_ble_eq_true rfl, Nat.le_of_ble_eq_true rfl⟩ ⟨Nat.le_of_ble_eq_true rfl, Nat.le_of_ble_eq_true rfl⟩ dX5_rule_21 ?_
        refine b_if_ne (tgt := 30) hx hb dX5_rule_24 (by decide) (fun c_24 => ?_) (fun c_24 => ?_)
        · refine lv_aload_n hx hb dX5_rule_30 rfl (lv_at hl 0 rfl) ?_
          refine lv_iload_n hx hb dX5_rule_31 rfl (lv_at hl 1 rfl) ?_
          refine cR_V (As := [.int (nI 0)]) (rest := []) X (c_X5_ruleNow l G cI cZ x0 nw i0 i1 kp le bs us an sr_ ss n z op st ea (nI 0) ) lk_X5_82 (hd.1.sub (ws' := [(x0, .inr (5, [.ref nw, .ref i0, .ref i1, .int (nI kp), .ref le, .ref bs, .ref us, .ref an])), (nw, .inr (4, [.ref sr_, .ref ss, .int (nI n), .int (nI z), .int op, .int st, .int ea]))]) [0, 1] rfl) rfl rfl hl.1 rfl rfl (Nat.le_of_ble_eq_true rfl) ⟨Nat.le_of_ble_eq_true rfl, Nat.le_of_ble_eq_true rfl⟩ ⟨Nat.le_of_ble_eq_true rfl, Nat.le_of_ble_eq_true rfl⟩ dX5_rule_32 ?_
          refine lv_istore_n (lv' := [(3, .int (if (nI 0) = 0 then op else if (nI 0) = nI 1 then st else ea)), (0, .ref x0), (1, .int (nI 0)), (2, .int p1)]) hx hb dX5_rule_35 rfl hl (by decide) rfl (fun ls hl => ?_)
          refine lv_iload_n hx hb dX5_rule_36 rfl (lv_at hl 2 rfl) ?_
          refine n_if_ne (tgt := 51) hx hb dX5_rule_37 (by decide) (by omega) (fun c_37 => ?_) (fun c_37 => ?_)
          · exact absurd c_37 (by decide)
          · refine lv_aload_n hx hb dX5_rule_40 rfl (lv_at hl 1 rfl) ?_
            refine x_get (C := RX5) (T := TX5) (N := 8) (ci := 5) 0 inT_X5 rfl (by decide) lf_X5_10 rfl X hd.1 0 rfl rfl dX5_rule_41 ?_
            refine lv_iload_n hx hb dX5_rule_44 rfl (lv_at hl 3 rfl) ?_
            refine x_putN (C := RX4) (T := TX4) (N := 7) (ci := 4) (ty := .int) 4 inT_X4 tyX4 tyX4_ok nmX4 rfl (by decide) lf_X5_86 rfl rfl (by decide +kernel) X hd 1 rfl rfl rfl (Nat.le_of_ble_eq_true rfl) dX5_rule_45 (fun H locs hd => ?_)
            have hd : Hd G A s.heap [(x0, .inr (5, [.ref nw, .ref i0, .ref i1, .int (nI kp), .ref le, .ref bs, .ref us, .ref an])), (nw, .inr (4, [.ref sr_, .ref ss, .int (nI n), .int (nI z), .int p1, .int st, .int ea]))] H locs := hd
            refine lv_goto (tgt := 75) hx hb dX5_rule_48 (by decide) ?_
            refine lv_iload_n hx hb dX5_rule_75 rfl (lv_at hl 0 rfl) ?_
            exact (fin _ _ [(x0, .inr (5, [.ref nw, .ref i0, .ref i1, .int (nI kp), .ref le, .ref bs, .ref us, .ref an])), (nw, .inr (4, [.ref sr_, .ref ss, .int (nI n), .int (nI z), .int p1, .int st, .int ea]))] _ _ (hd.sub [0, 1] rfl rfl)).2.1 (if (nI 0) = 0 then op else if (nI 0) = nI 1 then st else ea) rfl ⟨by congr 2; simp [A_rule, T_rule, vRu, c_24, q00, q10, q20, q01, q02, q12, q21, show inB (nI 0) (nI 0) (nI 2) = true from rfl, show inB (nI 1) (nI 0) (nI 2) = true from rfl, show inB (nI 2) (nI 0) (nI 2) = true from rfl], by simp [A_rule, T_rule, vRu, c_24, q00, q10, q20, q01, q02, q12, q21, show inB (nI 0) (nI 0) (nI 2) = true from rfl, show inB (nI 1) (nI 0) (nI 2) = true from rfl, show inB (nI 2) (nI 0) (nI 2) = true from rfl]⟩ dX5_rule_76
        · refine lv_bipush (v := (-2)) hx hb dX5_rule_27 (by decide) ?_
          exact (fin _ _ [(x0, .inr (5, [.ref nw, .ref i0, .ref i1, .int (nI kp), .ref le, .ref bs, .ref us, .ref an])), (nw, .inr (4, [.ref sr_, .ref ss, .int (nI n), .int (nI z), .int op, .int st, .int ea]))] _ _ (hd.sub [0, 1] rfl rfl)).2.1 (-2) rfl ⟨by congr 2; simp [A_rule, T_rule, vRu, c_24, q00, q10, q20, q01, q02, q12, q21, show inB (nI 0) (nI 0) (nI 2) = true from rfl, show inB (nI 1) (nI 0) (nI 2) = true from rfl, show inB (nI 2) (nI 0) (nI 2) = true from rfl], by simp [A_rule, T_rule, vRu, c_24, q00, q10, q20, q01, q02, q12, q21, show inB (nI 0) (nI 0) (nI 2) = true from rfl, show inB (nI 1) (nI 0) (nI 2) = true from rfl, show inB (nI 2) (nI 0) (nI 2) = true from rfl]⟩ dX5_rule_29
    · refine lv_iload_n hx hb dX5_rule_9 rfl (lv_at hl 2 rfl) ?_
      refine lv_iconst (v := nI 0) hx hb dX5_rule_10 (by decide) ?_
      refine lv_iload_n hx hb dX5_rule_11 rfl (lv_at hl 1 rfl) ?_
      refine n_if_ne (tgt := 19) hx hb dX5_rule_12 (by decide) (by omega) (fun c_12 => ?_) (fun c_12 => ?_)
      · refine lv_bipush (v := nI 99) hx hb dX5_rule_19 (by decide) ?_
        refine cR_S (As := [.int p1, .int (nI 0), .int (nI 99)]) (rest := []) X (c_X5_isWithin l G cI cZ p1 (nI 0) (nI 99) ) lk_X5_50 (hd.1.sub (ws' := []) [] rfl) hl.1 rfl rfl (Nat.le_of_ble_eq_true rfl) ⟨Nat.le_of_ble_eq_true rfl, Nat.le_of_ble_eq_true rfl⟩ ⟨Nat.le_of_ble_eq_true rfl, Nat.le_of_ble_eq_true rfl⟩ dX5_rule_21 ?_
        refine b_if_ne (tgt := 30) hx hb dX5_rule_24 (by decide) (fun c_24 => ?_) (fun c_24 => ?_)
        · refine lv_aload_n hx hb dX5_rule_30 rfl (lv_at hl 0 rfl) ?_
          refine lv_iload_n hx hb dX5_rule_31 rfl (lv_at hl 1 rfl) ?_
          refine cR_V (As := [.int (nI 1)]) (rest := []) X (c_X5_ruleNow l G cI cZ x0 nw i0 i1 kp le bs us an sr_ ss n z op st ea (nI 1) ) lk_X5_82 (hd.1.sub (ws' := [(x0, .inr (5, [.ref nw, .ref i0, .ref i1, .int (nI kp), .ref le, .ref bs, .ref us, .ref an])), (nw, .inr (4, [.ref sr_, .ref ss, .int (nI n), .int (nI z), .int op, .int st, .int ea]))]) [0, 1] rfl) rfl rfl hl.1 rfl rfl (Nat.le_of_ble_eq_true rfl) ⟨Nat.le_of_ble_eq_true rfl, Nat.le_of_ble_eq_true rfl⟩ ⟨Nat.le_of_ble_eq_true rfl, Nat.le_of_ble_eq_true rfl⟩ dX5_rule_32 ?_
          refine lv_istore_n (lv' := [(3, .int (if (nI 1) = 0 then op else if (nI 1) = nI 1 then st else ea)), (0, .ref x0), (1, .int (nI 1)), (2, .int p1)]) hx hb dX5_rule_35 rfl hl (by decide) rfl (fun ls hl => ?_)
          refine lv_iload_n hx hb dX5_rule_36 rfl (lv_at hl 2 rfl) ?_
          refine n_if_ne (tgt := 51) hx hb dX5_rule_37 (by decide) (by omega) (fun c_37 => ?_) (fun c_37 => ?_)
          · refine lv_iload_n hx hb dX5_rule_51 rfl (lv_at hl 2 rfl) ?_
            refine lv_iconst (v := nI 1) hx hb dX5_rule_52 (by decide) ?_
            refine n_icmp_ne (tgt := 67) hx hb dX5_rule_53 (by decide) (by omega) (by omega) (fun c_53 => ?_) (fun c_53 => ?_)
            · exact absurd c_53 (by decide)
            · refine lv_aload_n hx hb dX5_rule_56 rfl (lv_at hl 1 rfl) ?_
              refine x_get (C := RX5) (T := TX5) (N := 8) (ci := 5) 0 inT_X5 rfl (by decide) lf_X5_10 rfl X hd.1 0 rfl rfl dX5_rule_57 ?_
              refine lv_iload_n hx hb dX5_rule_60 rfl (lv_at hl 3 rfl) ?_
              refine x_putN (C := RX4) (T := TX4) (N := 7) (ci := 4) (ty := .int) 5 inT_X4 tyX4 tyX4_ok nmX4 rfl (by decide) lf_X5_89 rfl rfl (by decide +kernel) X hd 1 rfl rfl rfl (Nat.le_of_ble_eq_true rfl) dX5_rule_61 (fun H locs hd => ?_)
              have hd : Hd G A s.heap [(x0, .inr (5, [.ref nw, .ref i0, .ref i1, .int (nI kp), .ref le, .ref bs, .ref us, .ref an])), (nw, .inr (4, [.ref sr_, .ref ss, .int (nI n), .int (nI z), .int op, .int p1, .int ea]))] H locs := hd
              refine lv_goto (tgt := 75) hx hb dX5_rule_64 (by decide) ?_
              refine lv_iload_n hx hb dX5_rule_75 rfl (lv_at hl 0 rfl) ?_
              exact (fin _ _ [(x0, .inr (5, [.ref nw, .ref i0, .ref i1, .int (nI kp), .ref le, .ref bs, .ref us, .ref an])), (nw, .inr (4, [.ref sr_, .ref ss, .int (nI n), .int (nI z), .int op, .int p1, .int ea]))] _ _ (hd.sub [0, 1] rfl rfl)).2.1 (if (nI 1) = 0 then op else if (nI 1) = nI 1 then st else ea) rfl ⟨by congr 2; simp [A_rule, T_rule, vRu, c_24, q00, q10, q20, q01, q02, q12, q21, show inB (nI 0) (nI 0) (nI 2) = true from rfl, show inB (nI 1) (nI 0) (nI 2) = true from rfl, show inB (nI 2) (nI 0) (nI 2) = true from rfl], by simp [A_rule, T_rule, vRu, c_24, q00, q10, q20, q01, q02, q12, q21, show inB (nI 0) (nI 0) (nI 2) = true from rfl, show inB (nI 1) (nI 0) (nI 2) = true from rfl, show inB (nI 2) (nI 0) (nI 2) = true from rfl]⟩ dX5_rule_76
          · exact absurd c_37 (by decide)
        · refine lv_bipush (v := (-2)) hx hb dX5_rule_27 (by decide) ?_
          exact (fin _ _ [(x0, .inr (5, [.ref nw, .ref i0, .ref i1, .int (nI kp), .ref le, .ref bs, .ref us, .ref an])), (nw, .inr (4, [.ref sr_, .ref ss, .int (nI n), .int (nI z), .int op, .int st, .int ea]))] _ _ (hd.sub [0, 1] rfl rfl)).2.1 (-2) rfl ⟨by congr 2; simp [A_rule, T_rule, vRu, c_24, q00, q10, q20, q01, q02, q12, q21, show inB (nI 0) (nI 0) (nI 2) = true from rfl, show inB (nI 1) (nI 0) (nI 2) = true from rfl, show inB (nI 2) (nI 0) (nI 2) = true from rfl], by simp [A_rule, T_rule, vRu, c_24, q00, q10, q20, q01, q02, q12, q21, show inB (nI 0) (nI 0) (nI 2) = true from rfl, show inB (nI 1) (nI 0) (nI 2) = true from rfl, show inB (nI 2) (nI 0) (nI 2) = true from rfl]⟩ dX5_rule_29
      · exact absurd c_12 (by decide)
    · refine lv_iload_n hx hb dX5_rule_9 rfl (lv_at hl 2 rfl) ?_
      refine lv_iconst (v := nI 0) hx hb dX5_rule_10 (by decide) ?_
      refine lv_iload_n hx hb dX5_rule_11 rfl (lv_at hl 1 rfl) ?_
      refine n_if_ne (tgt := 19) hx hb dX5_rule_12 (by decide) (by omega) (fun c_12 => ?_) (fun c_12 => ?_)
      · refine lv_bipush (v := nI 99) hx hb dX5_rule_19 (by decide) ?_
        refine cR_S (As := [.int p1, .int (nI 0), .int (nI 99)]) (rest := []) X (c_X5_isWithin l G cI cZ p1 (nI 0) (nI 99) ) lk_X5_50 (hd.1.sub (ws' := []) [] rfl) hl.1 rfl rfl (Nat.le_of_ble_eq_true rfl) ⟨Nat.le_of_ble_eq_true rfl, Nat.le_of_ble_eq_true rfl⟩ ⟨Nat.le_of_ble_eq_true rfl, Nat.le_of_ble_eq_true rfl⟩ dX5_rule_21 ?_
        refine b_if_ne (tgt := 30) hx hb dX5_rule_24 (by decide) (fun c_24 => ?_) (fun c_24 => ?_)
        · refine lv_aload_n hx hb dX5_rule_30 rfl (lv_at hl 0 rfl) ?_
          refine lv_iload_n hx hb dX5_rule_31 rfl (lv_at hl 1 rfl) ?_
          refine cR_V (As := [.int (nI 2)]) (rest := []) X (c_X5_ruleNow l G cI cZ x0 nw i0 i1 kp le bs us an sr_ ss n z op st ea (nI 2) ) lk_X5_82 (hd.1.sub (ws' := [(x0, .inr (5, [.ref nw, .ref i0, .ref i1, .int (nI kp), .ref le, .ref bs, .ref us, .ref an])), (nw, .inr (4, [.ref sr_, .ref ss, .int (nI n), .int (nI z), .int op, .int st, .int ea]))]) [0, 1] rfl) rfl rfl hl.1 rfl rfl (Nat.le_of_ble_eq_true rfl) ⟨Nat.le_of_ble_eq_true rfl, Nat.le_of_ble_eq_true rfl⟩ ⟨Nat.le_of_ble_eq_true rfl, Nat.le_of_ble_eq_true rfl⟩ dX5_rule_32 ?_
          refine lv_istore_n (lv' := [(3, .int (if (nI 2) = 0 then op else if (nI 2) = nI 1 then st else ea)), (0, .ref x0), (1, .int (nI 2)), (2, .int p1)]) hx hb dX5_rule_35 rfl hl (by decide) rfl (fun ls hl => ?_)
          refine lv_iload_n hx hb dX5_rule_36 rfl (lv_at hl 2 rfl) ?_
          refine n_if_ne (tgt := 51) hx hb dX5_rule_37 (by decide) (by omega) (fun c_37 => ?_) (fun c_37 => ?_)
          · refine lv_iload_n hx hb dX5_rule_51 rfl (lv_at hl 2 rfl) ?_
            refine lv_iconst (v := nI 1) hx hb dX5_rule_52 (by decide) ?_
            refine n_icmp_ne (tgt := 67) hx hb dX5_rule_53 (by decide) (by omega) (by omega) (fun c_53 => ?_) (fun c_53 => ?_)
            · refine lv_aload_n hx hb dX5_rule_67 rfl (lv_at hl 1 rfl) ?_
              refine x_get (C := RX5) (T := TX5) (N := 8) (ci := 5) 0 inT_X5 rfl (by decide) lf_X5_10 rfl X hd.1 0 rfl rfl dX5_rule_68 ?_
              refine lv_iload_n hx hb dX5_rule_71 rfl (lv_at hl 3 rfl) ?_
              refine x_putN (C := RX4) (T := TX4) (N := 7) (ci := 4) (ty := .int) 6 inT_X4 tyX4 tyX4_ok nmX4 rfl (by decide) lf_X5_92 rfl rfl (by decide +kernel) X hd 1 rfl rfl rfl (Nat.le_of_ble_eq_true rfl) dX5_rule_72 (fun H locs hd => ?_)
              have hd : Hd G A s.heap [(x0, .inr (5, [.ref nw, .ref i0, .ref i1, .int (nI kp), .ref le, .ref bs, .ref us, .ref an])), (nw, .inr (4, [.ref sr_, .ref ss, .int (nI n), .int (nI z), .int op, .int st, .int p1]))] H locs := hd
              refine lv_iload_n hx hb dX5_rule_75 rfl (lv_at hl 0 rfl) ?_
              exact (fin _ _ [(x0, .inr (5, [.ref nw, .ref i0, .ref i1, .int (nI kp), .ref le, .ref bs, .ref us, .ref an])), (nw, .inr (4, [.ref sr_, .ref ss, .int (nI n), .int (nI z), .int op, .int st, .int p1]))] _ _ (hd.sub [0, 1] rfl rfl)).2.1 (if (nI 2) = 0 then op else if (nI 2) = nI 1 then st else ea) rfl ⟨by congr 2; simp [A_rule, T_rule, vRu, c_24, q00, q10, q20, q01, q02, q12, q21, show inB (nI 0) (nI 0) (nI 2) = true from rfl, show inB (nI 1) (nI 0) (nI 2) = true from rfl, show inB (nI 2) (nI 0) (nI 2) = true from rfl], by simp [A_rule, T_rule, vRu, c_24, q00, q10, q20, q01, q02, q12, q21, show inB (nI 0) (nI 0) (nI 2) = true from rfl, show inB (nI 1) (nI 0) (nI 2) = true from rfl, show inB (nI 2) (nI 0) (nI 2) = true from rfl]⟩ dX5_rule_76
            · exact absurd c_53 (by decide)
          · exact absurd c_37 (by decide)
        · refine lv_bipush (v := (-2)) hx hb dX5_rule_27 (by decide) ?_
          exact (fin _ _ [(x0, .inr (5, [.ref nw, .ref i0, .ref i1, .int (nI kp), .ref le, .ref bs, .ref us, .ref an])), (nw, .inr (4, [.ref sr_, .ref ss, .int (nI n), .int (nI z), .int op, .int st, .int ea]))] _ _ (hd.sub [0, 1] rfl rfl)).2.1 (-2) rfl ⟨by congr 2; simp [A_rule, T_rule, vRu, c_24, q00, q10, q20, q01, q02, q12, q21, show inB (nI 0) (nI 0) (nI 2) = true from rfl, show inB (nI 1) (nI 0) (nI 2) = true from rfl, show inB (nI 2) (nI 0) (nI 2) = true from rfl], by simp [A_rule, T_rule, vRu, c_24, q00, q10, q20, q01, q02, q12, q21, show inB (nI 0) (nI 0) (nI 2) = true from rfl, show inB (nI 1) (nI 0) (nI 2) = true from rfl, show inB (nI 2) (nI 0) (nI 2) = true from rfl]⟩ dX5_rule_29
      · exact absurd c_12 (by decide)

set_option maxHeartbeats 4000000 in
set_option maxRecDepth 100000 in
theorem c_X5_count (l : Launch) (G : va_G) (cI cZ : ClassId) (x0 : Nat) (nw : Nat) (i0 : Nat) (i1 : Nat) (le : Nat) (bs : Nat) (us : Nat) (an : Nat) (b0 : Bool) (b1 : Bool) (sr_ : Nat) (sra : Nat) (ss : Nat) (n : Nat) (z : Nat) (f : Nat → Int32) (op : Int32) (st : Int32) (ea : Int32) (p0 : Int32) (hn : 2 ≤ n) (hn9 : n ≤ 9) (hz1 : 1 ≤ z) (hz : z ≤ 12) : CR l G cI cZ yX5_count cX5_count 2 .int 4 88 [.ref x0, .int p0] [(x0, .inr (5, [.ref nw, .ref i0, .ref i1, .int (nI (kpn b0 b1)), .ref le, .ref bs, .ref us, .ref an])), (nw, .inr (4, [.ref sr_, .ref ss, .int (nI n), .int (nI z), .int op, .int st, .int ea])), (sr_, .inr (3, [.ref sra])), (sra, .inl (cI, 108, .inl f))] (A_count n z op st ea f b0 b1 p0) := by
  refine CR.of (own := RX5) (by decide) rfl rfl (Nat.le_of_ble_eq_true rfl) ?_
  intro p e R s m args below meth c H Q X hR fin hP ls hl
  subst hR
  have hx := X.1
  have hb := X.2.1
  have hl : lv_has ls 2 [(0, .ref x0), (1, .int p0)] := hl
  refine lv_iload_n hx hb dX5_count_0 rfl (lv_at hl 1 rfl) ?_
  by_cases hB : inB p0 (nI 0) (nI 6) = true
  · obtain ⟨u, hu, rfl⟩ := inB_of (by decide) hB
    rcases (show u = 0 ∨ u = 1 ∨ u = 2 ∨ u = 3 ∨ u = 4 ∨ u = 5 ∨ u = 6 by omega) with rfl | rfl | rfl | rfl | rfl | rfl | rfl
    · refine lv_tableIn (tgt := 44) hx hb dX5_count_1 (by decide) (by decide) rfl (by decide) ?_
      refine lv_aload_n hx hb dX5_count_44 rfl (lv_at hl 0 rfl) ?_
      refine x_get (C := RX5) (T := TX5) (N := 8) (ci := 5) 0 inT_X5 rfl (by decide) lf_X5_10 rfl X hP 0 rfl rfl dX5_count_45 ?_
      refine x_getN (C := RX4) (T := TX4) (N := 7) (ci := 4) 2 inT_X4 rfl (by decide) lf_X5_54 rfl X hP 1 rfl rfl dX5_count_48 ?_
      exact st_eq (show (nI n : Int32) = A_count n z op st ea f b0 b1 (nI 0) from by rfl) (fin _ _ dX5_count_51)
    · refine lv_tableIn (tgt := 52) hx hb dX5_count_1 (by decide) (by decide) rfl (by decide) ?_
      refine lv_aload_n hx hb dX5_count_52 rfl (lv_at hl 0 rfl) ?_
      refine x_get (C := RX5) (T := TX5) (N := 8) (ci := 5) 0 inT_X5 rfl (by decide) lf_X5_10 rfl X hP 0 rfl rfl dX5_count_53 ?_
      refine x_getN (C := RX4) (T := TX4) (N := 7) (ci := 4) 3 inT_X4 rfl (by decide) lf_X5_162 rfl X hP 1 rfl rfl dX5_count_56 ?_
      exact st_eq (show (nI z : Int32) = A_count n z op st ea f b0 b1 (nI 1) from by rfl) (fin _ _ dX5_count_59)
    · refine lv_tableIn (tgt := 60) hx hb dX5_count_1 (by decide) (by decide) rfl (by decide) ?_
      refine lv_aload_n hx hb dX5_count_60 rfl (lv_at hl 0 rfl) ?_
      refine lv_iconst (v := nI 0) hx hb dX5_count_61 (by decide) ?_
      refine cR_V (As := [.int (nI 0)]) (rest := []) X (c_X5_ruleNow l G cI cZ x0 nw i0 i1 (kpn b0 b1) le bs us an sr_ ss n z op st ea (nI 0) ) lk_X5_82 (hP.sub (ws' := [(x0, .inr (5, [.ref nw, .ref i0, .ref i1, .int (nI (kpn b0 b1)), .ref le, .ref bs, .ref us, .ref an])), (nw, .inr (4, [.ref sr_, .ref ss, .int (nI n), .int (nI z), .int op, .int st, .int ea]))]) [0, 1] rfl) rfl rfl hl.1 rfl rfl (Nat.le_of_ble_eq_true rfl) ⟨Nat.le_of_ble_eq_true rfl, Nat.le_of_ble_eq_true rfl⟩ ⟨Nat.le_of_ble_eq_true rfl, Nat.le_of_ble_eq_true rfl⟩ dX5_count_62 ?_
      exact st_eq (show (if (nI 0) = 0 then op else if (nI 0) = nI 1 then st else ea : Int32) = A_count n z op st ea f b0 b1 (nI 2) from by rfl) (fin _ _ dX5_count_65)
    · refine lv_tableIn (tgt := 66) hx hb dX5_count_1 (by decide) (by decide) rfl (by decide) ?_
      refine lv_aload_n hx hb dX5_count_66 rfl (lv_at hl 0 rfl) ?_
      refine lv_iconst (v := nI 1) hx hb dX5_count_67 (by decide) ?_
      refine cR_V (As := [.int (nI 1)]) (rest := []) X (c_X5_ruleNow l G cI cZ x0 nw i0 i1 (kpn b0 b1) le bs us an sr_ ss n z op st ea (nI 1) ) lk_X5_82 (hP.sub (ws' := [(x0, .inr (5, [.ref nw, .ref i0, .ref i1, .int (nI (kpn b0 b1)), .ref le, .ref bs, .ref us, .ref an])), (nw, .inr (4, [.ref sr_, .ref ss, .int (nI n), .int (nI z), .int op, .int st, .int ea]))]) [0, 1] rfl) rfl rfl hl.1 rfl rfl (Nat.le_of_ble_eq_true rfl) ⟨Nat.le_of_ble_eq_true rfl, Nat.le_of_ble_eq_true rfl⟩ ⟨Nat.le_of_ble_eq_true rfl, Nat.le_of_ble_eq_true rfl⟩ dX5_count_68 ?_
      exact st_eq (show (if (nI 1) = 0 then op else if (nI 1) = nI 1 then st else ea : Int32) = A_count n z op st ea f b0 b1 (nI 3) from by rfl) (fin _ _ dX5_count_71)
    · refine lv_tableIn (tgt := 72) hx hb dX5_count_1 (by decide) (by decide) rfl (by decide) ?_
      refine lv_aload_n hx hb dX5_count_72 rfl (lv_at hl 0 rfl) ?_
      refine lv_iconst (v := nI 2) hx hb dX5_count_73 (by decide) ?_
      refine cR_V (As := [.int (nI 2)]) (rest := []) X (c_X5_ruleNow l G cI cZ x0 nw i0 i1 (kpn b0 b1) le bs us an sr_ ss n z op st ea (nI 2) ) lk_X5_82 (hP.sub (ws' := [(x0, .inr (5, [.ref nw, .ref i0, .ref i1, .int (nI (kpn b0 b1)), .ref le, .ref bs, .ref us, .ref an])), (nw, .inr (4, [.ref sr_, .ref ss, .int (nI n), .int (nI z), .int op, .int st, .int ea]))]) [0, 1] rfl) rfl rfl hl.1 rfl rfl (Nat.le_of_ble_eq_true rfl) ⟨Nat.le_of_ble_eq_true rfl, Nat.le_of_ble_eq_true rfl⟩ ⟨Nat.le_of_ble_eq_true rfl, Nat.le_of_ble_eq_true rfl⟩ dX5_count_74 ?_
      exact st_eq (show (if (nI 2) = 0 then op else if (nI 2) = nI 1 then st else ea : Int32) = A_count n z op st ea f b0 b1 (nI 4) from by rfl) (fin _ _ dX5_count_77)
    · refine lv_tableIn (tgt := 78) hx hb dX5_count_1 (by decide) (by decide) rfl (by decide) ?_
      refine lv_aload_n hx hb dX5_count_78 rfl (lv_at hl 0 rfl) ?_
      refine x_get (C := RX5) (T := TX5) (N := 8) (ci := 5) 0 inT_X5 rfl (by decide) lf_X5_10 rfl X hP 0 rfl rfl dX5_count_79 ?_
      refine cR_V (As := []) (rest := []) X (c_X4_allNumbersAdded l G cI cZ nw sr_ ss n z op st ea sra f (by first | assumption | omega) (by first | assumption | omega)) lk_X5_190 (hP.sub (ws' := [(nw, .inr (4, [.ref sr_, .ref ss, .int (nI n), .int (nI z), .int op, .int st, .int ea])), (sr_, .inr (3, [.ref sra])), (sra, .inl (cI, 108, .inl f))]) [1, 2, 3] rfl) rfl rfl hl.1 rfl rfl (Nat.le_of_ble_eq_true rfl) ⟨Nat.le_of_ble_eq_true rfl, Nat.le_of_ble_eq_true rfl⟩ ⟨Nat.le_of_ble_eq_true rfl, Nat.le_of_ble_eq_true rfl⟩ dX5_count_82 ?_
      exact st_eq (show (sa f z n : Int32) = A_count n z op st ea f b0 b1 (nI 5) from by rfl) (fin _ _ dX5_count_85)
    · refine lv_tableIn (tgt := 86) hx hb dX5_count_1 (by decide) (by decide) rfl (by decide) ?_
      refine lv_aload_n hx hb dX5_count_86 rfl (lv_at hl 0 rfl) ?_
      refine x_get (C := RX5) (T := TX5) (N := 8) (ci := 5) 3 inT_X5 rfl (by decide) lf_X5_22 rfl X hP 0 rfl rfl dX5_count_87 ?_
      exact st_eq (show (nI (kpn b0 b1) : Int32) = A_count n z op st ea f b0 b1 (nI 6) from by rfl) (fin _ _ dX5_count_90)
  · refine lv_tableOut (tgt := 91) hx hb dX5_count_1 (inB_out (by decide) (by simpa using hB)) (by decide) ?_
    refine lv_bipush (v := (-2)) hx hb dX5_count_91 (by decide) ?_
    exact st_eq (show ((-2) : Int32) = A_count n z op st ea f b0 b1 p0 from by rw [A_count, if_neg hB]) (fin _ _ dX5_count_93)

set_option maxHeartbeats 4000000 in
set_option maxRecDepth 100000 in
theorem c_X5_imageOf0 (l : Launch) (G : va_G) (cI cZ : ClassId) (x0 : Nat) (nw : Nat) (i0 : Nat) (i1 : Nat) (kp : Nat) (le : Nat) (bs : Nat) (us : Nat) (an : Nat) : CM l G cI cZ yX5_imageOf cX5_imageOf 2 (some (.object "SumsForAll$Setting")) 0 0 0 0 [.ref x0, .int (nI 0)] [(x0, .inr (5, [.ref nw, .ref i0, .ref i1, .int (nI kp), .ref le, .ref bs, .ref us, .ref an]))] (fun ov_ wv_ => ov_ = some (.ref i0) ∧ wv_ = [(x0, .inr (5, [.ref nw, .ref i0, .ref i1, .int (nI kp), .ref le, .ref bs, .ref us, .ref an]))]) := by
  refine CM.of (own := RX5) (by decide) rfl (Nat.le_of_ble_eq_true rfl) ?_
  intro p e R s m args below meth c Q A X hR hret hnm hA fin hd ls hl
  subst hR
  have hx := X.1
  have hb := X.2.1
  have hl : lv_has ls 2 [(0, .ref x0), (1, .int (nI 0))] := hl
  refine lv_iload_n hx hb dX5_imageOf_0 rfl (lv_at hl 1 rfl) ?_
  refine n_if_ne (tgt := 11) hx hb dX5_imageOf_1 (by decide) (by omega) (fun c_1 => ?_) (fun c_1 => ?_)
  · exact absurd c_1 (by decide)
  · refine lv_aload_n hx hb dX5_imageOf_4 rfl (lv_at hl 0 rfl) ?_
    refine x_get (C := RX5) (T := TX5) (N := 8) (ci := 5) 1 inT_X5 rfl (by decide) lf_X5_16 rfl X hd.1 0 rfl rfl dX5_imageOf_5 ?_
    refine lv_goto (tgt := 15) hx hb dX5_imageOf_8 (by decide) ?_
    exact (fin _ _ [(x0, .inr (5, [.ref nw, .ref i0, .ref i1, .int (nI kp), .ref le, .ref bs, .ref us, .ref an]))] _ _ (hd.sub [0] rfl rfl)).2.2 i0 _ rfl ⟨rfl, rfl⟩ dX5_imageOf_15

set_option maxHeartbeats 4000000 in
set_option maxRecDepth 100000 in
theorem c_X5_imageOf1 (l : Launch) (G : va_G) (cI cZ : ClassId) (x0 : Nat) (nw : Nat) (i0 : Nat) (i1 : Nat) (kp : Nat) (le : Nat) (bs : Nat) (us : Nat) (an : Nat) : CM l G cI cZ yX5_imageOf cX5_imageOf 2 (some (.object "SumsForAll$Setting")) 0 0 0 0 [.ref x0, .int (nI 1)] [(x0, .inr (5, [.ref nw, .ref i0, .ref i1, .int (nI kp), .ref le, .ref bs, .ref us, .ref an]))] (fun ov_ wv_ => ov_ = some (.ref i1) ∧ wv_ = [(x0, .inr (5, [.ref nw, .ref i0, .ref i1, .int (nI kp), .ref le, .ref bs, .ref us, .ref an]))]) := by
  refine CM.of (own := RX5) (by decide) rfl (Nat.le_of_ble_eq_true rfl) ?_
  intro p e R s m args below meth c Q A X hR hret hnm hA fin hd ls hl
  subst hR
  have hx := X.1
  have hb := X.2.1
  have hl : lv_has ls 2 [(0, .ref x0), (1, .int (nI 1))] := hl
  refine lv_iload_n hx hb dX5_imageOf_0 rfl (lv_at hl 1 rfl) ?_
  refine n_if_ne (tgt := 11) hx hb dX5_imageOf_1 (by decide) (by omega) (fun c_1 => ?_) (fun c_1 => ?_)
  · refine lv_aload_n hx hb dX5_imageOf_11 rfl (lv_at hl 0 rfl) ?_
    refine x_get (C := RX5) (T := TX5) (N := 8) (ci := 5) 2 inT_X5 rfl (by decide) lf_X5_19 rfl X hd.1 0 rfl rfl dX5_imageOf_12 ?_
    exact (fin _ _ [(x0, .inr (5, [.ref nw, .ref i0, .ref i1, .int (nI kp), .ref le, .ref bs, .ref us, .ref an]))] _ _ (hd.sub [0] rfl rfl)).2.2 i1 _ rfl ⟨rfl, rfl⟩ dX5_imageOf_15
  · exact absurd c_1 (by decide)

set_option maxHeartbeats 4000000 in
set_option maxRecDepth 100000 in
theorem c_X5_image0 (l : Launch) (G : va_G) (cI cZ : ClassId) (x0 : Nat) (nw : Nat) (i0 : Nat) (i1 : Nat) (le : Nat) (bs : Nat) (us : Nat) (an : Nat) (b0 : Bool) (b1 : Bool) (sr_ : Nat) (sra : Nat) (ss : Nat) (n : Nat) (z : Nat) (f : Nat → Int32) (g : Nat → Int32) (op : Int32) (st : Int32) (ea : Int32) (jr0 : Nat) (ja0 : Nat) (js0 : Nat) (jf0 : Nat → Int32) (jg0 : Nat → Int32) (jn0 : Nat) (jz0 : Nat) (jo0 : Int32) (jt0 : Int32) (je0 : Int32) : CM l G cI cZ yX5_image cX5_image 2 (some .int) 3 60 0 0 [.ref x0, .int (nI 0)] [(x0, .inr (5, [.ref nw, .ref i0, .ref i1, .int (nI (kpn b0 b1)), .ref le, .ref bs, .ref us, .ref an])), (nw, .inr (4, [.ref sr_, .ref ss, .int (nI n), .int (nI z), .int op, .int st, .int ea])), (sr_, .inr (3, [.ref sra])), (sra, .inl (cI, 108, .inl f)), (ss, .inl (cI, 81, .inl g)), (i0, .inr (4, [.ref jr0, .ref js0, .int (nI jn0), .int (nI jz0), .int jo0, .int jt0, .int je0])), (jr0, .inr (3, [.ref ja0])), (ja0, .inl (cI, 108, .inl jf0)), (js0, .inl (cI, 81, .inl jg0))] (fun ov_ wv_ => ov_ = some (.int (nI 1)) ∧ wv_ = [(x0, .inr (5, [.ref nw, .ref i0, .ref i1, .int (nI (kpn true b1)), .ref le, .ref bs, .ref us, .ref an])), (nw, .inr (4, [.ref sr_, .ref ss, .int (nI n), .int (nI z), .int op, .int st, .int ea])), (sr_, .inr (3, [.ref sra])), (sra, .inl (cI, 108, .inl f)), (ss, .inl (cI, 81, .inl g)), (i0, .inr (4, [.ref jr0, .ref js0, .int (nI n), .int (nI z), .int op, .int st, .int ea])), (jr0, .inr (3, [.ref ja0])), (ja0, .inl (cI, 108, .inl f)), (js0, .inl (cI, 81, .inl g))]) := by
  refine CM.of (own := RX5) (by decide) rfl (Nat.le_of_ble_eq_true rfl) ?_
  intro p e R s m args below meth c Q A X hR hret hnm hA fin hd ls hl
  subst hR
  have hx := X.1
  have hb := X.2.1
  have hl : lv_has ls 2 [(0, .ref x0), (1, .int (nI 0))] := hl
  refine lv_iload_n hx hb dX5_image_0 rfl (lv_at hl 1 rfl) ?_
  refine lv_iconst (v := nI 0) hx hb dX5_image_1 (by decide) ?_
  refine lv_iconst (v := nI 1) hx hb dX5_image_2 (by decide) ?_
  refine cR_S (As := [.int (nI 0), .int (nI 0), .int (nI 1)]) (rest := []) X (c_X5_isWithin l G cI cZ (nI 0) (nI 0) (nI 1) ) lk_X5_50 (hd.1.sub (ws' := []) [] rfl) hl.1 rfl rfl (Nat.le_of_ble_eq_true rfl) ⟨Nat.le_of_ble_eq_true rfl, Nat.le_of_ble_eq_true rfl⟩ ⟨Nat.le_of_ble_eq_true rfl, Nat.le_of_ble_eq_true rfl⟩ dX5_image_3 ?_
  refine st_eq (show (b2i (inB (nI 0) (nI 0) (nI 1)) : Int32) = b2i true from congrArg b2i (inB_tt (by omega) (by omega) (by omega))) ?_
  refine b_if_ne (tgt := 12) hx hb dX5_image_6 (by decide) (fun c_6 => ?_) (fun c_6 => ?_)
  · refine lv_aload_n hx hb dX5_image_12 rfl (lv_at hl 0 rfl) ?_
    refine lv_iload_n hx hb dX5_image_13 rfl (lv_at hl 1 rfl) ?_
    refine cM_V (As := [.int (nI 0)]) (rest := []) (wr := [(nw, .inr (4, [.ref sr_, .ref ss, .int (nI n), .int (nI z), .int op, .int st, .int ea])), (sr_, .inr (3, [.ref sra])), (sra, .inl (cI, 108, .inl f)), (ss, .inl (cI, 81, .inl g)), (i0, .inr (4, [.ref jr0, .ref js0, .int (nI jn0), .int (nI jz0), .int jo0, .int jt0, .int je0])), (jr0, .inr (3, [.ref ja0])), (ja0, .inl (cI, 108, .inl jf0)), (js0, .inl (cI, 81, .inl jg0))]) X (c_X5_imageOf0 l G cI cZ x0 nw i0 i1 (kpn b0 b1) le bs us an ) lk_X5_182 hd hA [0] [1, 2, 3, 4, 5, 6, 7, 8] rfl rfl rfl rfl (by decide) rfl rfl hl.1 rfl rfl (Nat.le_of_ble_eq_true rfl) ⟨Nat.le_of_ble_eq_true rfl, Nat.le_of_ble_eq_true rfl⟩ ⟨Nat.le_of_ble_eq_true rfl, Nat.le_of_ble_eq_true rfl⟩ dX5_image_14 (fun v w1 H locs hp hd => ?_)
    obtain ⟨rfl, rfl⟩ := hp
    have hd : Hd G A s.heap [(nw, .inr (4, [.ref sr_, .ref ss, .int (nI n), .int (nI z), .int op, .int st, .int ea])), (sr_, .inr (3, [.ref sra])), (sra, .inl (cI, 108, .inl f)), (ss, .inl (cI, 81, .inl g)), (i0, .inr (4, [.ref jr0, .ref js0, .int (nI jn0), .int (nI jz0), .int jo0, .int jt0, .int je0])), (jr0, .inr (3, [.ref ja0])), (ja0, .inl (cI, 108, .inl jf0)), (js0, .inl (cI, 81, .inl jg0)), (x0, .inr (5, [.ref nw, .ref i0, .ref i1, .int (nI (kpn b0 b1)), .ref le, .ref bs, .ref us, .ref an]))] H locs := hd
    refine st_all (st' := [.ref i0]) rfl ?_
    refine lv_aload_n hx hb dX5_image_17 rfl (lv_at hl 0 rfl) ?_
    refine x_get (C := RX5) (T := TX5) (N := 8) (ci := 5) 0 inT_X5 rfl (by decide) lf_X5_10 rfl X hd.1 8 rfl rfl dX5_image_18 ?_
    refine cM_V (As := [.ref nw]) (rest := []) (wr := [(x0, .inr (5, [.ref nw, .ref i0, .ref i1, .int (nI (kpn b0 b1)), .ref le, .ref bs, .ref us, .ref an]))]) X (c_X4_copyFrom l G cI cZ i0 jr0 ja0 js0 jf0 jg0 jn0 jz0 jo0 jt0 je0 nw sr_ sra ss f g n z op st ea ) lk_X5_186 hd hA [4, 5, 6, 7, 0, 1, 2, 3] [8] rfl rfl rfl rfl (by decide) rfl rfl hl.1 rfl rfl (Nat.le_of_ble_eq_true rfl) ⟨Nat.le_of_ble_eq_true rfl, Nat.le_of_ble_eq_true rfl⟩ ⟨Nat.le_of_ble_eq_true rfl, Nat.le_of_ble_eq_true rfl⟩ dX5_image_21 (fun v w1 H locs hp hd => ?_)
    obtain ⟨rfl, rfl⟩ := hp
    have hd : Hd G A s.heap [(x0, .inr (5, [.ref nw, .ref i0, .ref i1, .int (nI (kpn b0 b1)), .ref le, .ref bs, .ref us, .ref an])), (i0, .inr (4, [.ref jr0, .ref js0, .int (nI n), .int (nI z), .int op, .int st, .int ea])), (jr0, .inr (3, [.ref ja0])), (ja0, .inl (cI, 108, .inl f)), (js0, .inl (cI, 81, .inl g)), (nw, .inr (4, [.ref sr_, .ref ss, .int (nI n), .int (nI z), .int op, .int st, .int ea])), (sr_, .inr (3, [.ref sra])), (sra, .inl (cI, 108, .inl f)), (ss, .inl (cI, 81, .inl g))] H locs := hd
    refine st_all (st' := []) rfl ?_
    refine lv_aload_n hx hb dX5_image_24 rfl (lv_at hl 0 rfl) ?_
    refine lv_dup hx hb dX5_image_25 rfl ?_
    refine x_get (C := RX5) (T := TX5) (N := 8) (ci := 5) 3 inT_X5 rfl (by decide) lf_X5_22 rfl X hd.1 0 rfl rfl dX5_image_26 ?_
    refine lv_iconst (v := nI 1) hx hb dX5_image_29 (by decide) ?_
    refine lv_iload_n hx hb dX5_image_30 rfl (lv_at hl 1 rfl) ?_
    refine lv_ishl hx hb dX5_image_31 ?_
    refine lv_ior hx hb dX5_image_32 ?_
    refine st_eq (show ((nI (kpn b0 b1)) ||| ((nI 1) <<< ((nI 0) &&& 31)) : Int32) = nI (kpn true b1) from kp_or0 _ _) ?_
    refine x_put (C := RX5) (T := TX5) (N := 8) (ci := 5) (ty := .int) 3 inT_X5 tyX5 tyX5_ok nmX5 rfl (by decide) lf_X5_22 rfl rfl (by decide +kernel) X hd 0 rfl rfl rfl (Nat.le_of_ble_eq_true rfl) dX5_image_33 (fun H locs hd => ?_)
    have hd : Hd G A s.heap [(x0, .inr (5, [.ref nw, .ref i0, .ref i1, .int (nI (kpn true b1)), .ref le, .ref bs, .ref us, .ref an])), (i0, .inr (4, [.ref jr0, .ref js0, .int (nI n), .int (nI z), .int op, .int st, .int ea])), (jr0, .inr (3, [.ref ja0])), (ja0, .inl (cI, 108, .inl f)), (js0, .inl (cI, 81, .inl g)), (nw, .inr (4, [.ref sr_, .ref ss, .int (nI n), .int (nI z), .int op, .int st, .int ea])), (sr_, .inr (3, [.ref sra])), (sra, .inl (cI, 108, .inl f)), (ss, .inl (cI, 81, .inl g))] H locs := hd
    refine lv_iconst (v := nI 1) hx hb dX5_image_36 (by decide) ?_
    exact (fin _ _ [(x0, .inr (5, [.ref nw, .ref i0, .ref i1, .int (nI (kpn true b1)), .ref le, .ref bs, .ref us, .ref an])), (nw, .inr (4, [.ref sr_, .ref ss, .int (nI n), .int (nI z), .int op, .int st, .int ea])), (sr_, .inr (3, [.ref sra])), (sra, .inl (cI, 108, .inl f)), (ss, .inl (cI, 81, .inl g)), (i0, .inr (4, [.ref jr0, .ref js0, .int (nI n), .int (nI z), .int op, .int st, .int ea])), (jr0, .inr (3, [.ref ja0])), (ja0, .inl (cI, 108, .inl f)), (js0, .inl (cI, 81, .inl g))] _ _ (hd.sub [0, 5, 6, 7, 8, 1, 2, 3, 4] rfl rfl)).2.1 (nI 1) rfl ⟨rfl, rfl⟩ dX5_image_37
  · exact absurd ((rfl : true = true).symm.trans c_6) (by decide)

set_option maxHeartbeats 4000000 in
set_option maxRecDepth 100000 in
theorem c_X5_restore0 (l : Launch) (G : va_G) (cI cZ : ClassId) (x0 : Nat) (nw : Nat) (i0 : Nat) (i1 : Nat) (le : Nat) (bs : Nat) (us : Nat) (an : Nat) (b1 : Bool) (sr_ : Nat) (sra : Nat) (ss : Nat) (n : Nat) (z : Nat) (f : Nat → Int32) (g : Nat → Int32) (op : Int32) (st : Int32) (ea : Int32) (jr0 : Nat) (ja0 : Nat) (js0 : Nat) (jf0 : Nat → Int32) (jg0 : Nat → Int32) (jn0 : Nat) (jz0 : Nat) (jo0 : Int32) (jt0 : Int32) (je0 : Int32) : CM l G cI cZ yX5_restore cX5_restore 2 (some .int) 3 60 0 0 [.ref x0, .int (nI 0)] [(x0, .inr (5, [.ref nw, .ref i0, .ref i1, .int (nI (kpn true b1)), .ref le, .ref bs, .ref us, .ref an])), (nw, .inr (4, [.ref sr_, .ref ss, .int (nI n), .int (nI z), .int op, .int st, .int ea])), (sr_, .inr (3, [.ref sra])), (sra, .inl (cI, 108, .inl f)), (ss, .inl (cI, 81, .inl g)), (i0, .inr (4, [.ref jr0, .ref js0, .int (nI jn0), .int (nI jz0), .int jo0, .int jt0, .int je0])), (jr0, .inr (3, [.ref ja0])), (ja0, .inl (cI, 108, .inl jf0)), (js0, .inl (cI, 81, .inl jg0))] (fun ov_ wv_ => ov_ = some (.int (nI 1)) ∧ wv_ = [(x0, .inr (5, [.ref nw, .ref i0, .ref i1, .int (nI (kpn true b1)), .ref le, .ref bs, .ref us, .ref an])), (nw, .inr (4, [.ref sr_, .ref ss, .int (nI jn0), .int (nI jz0), .int jo0, .int jt0, .int je0])), (sr_, .inr (3, [.ref sra])), (sra, .inl (cI, 108, .inl jf0)), (ss, .inl (cI, 81, .inl jg0)), (i0, .inr (4, [.ref jr0, .ref js0, .int (nI jn0), .int (nI jz0), .int jo0, .int jt0, .int je0])), (jr0, .inr (3, [.ref ja0])), (ja0, .inl (cI, 108, .inl jf0)), (js0, .inl (cI, 81, .inl jg0))]) := by
  refine CM.of (own := RX5) (by decide) rfl (Nat.le_of_ble_eq_true rfl) ?_
  intro p e R s m args below meth c Q A X hR hret hnm hA fin hd ls hl
  subst hR
  have hx := X.1
  have hb := X.2.1
  have hl : lv_has ls 2 [(0, .ref x0), (1, .int (nI 0))] := hl
  refine lv_iload_n hx hb dX5_restore_0 rfl (lv_at hl 1 rfl) ?_
  refine lv_iconst (v := nI 0) hx hb dX5_restore_1 (by decide) ?_
  refine lv_iconst (v := nI 1) hx hb dX5_restore_2 (by decide) ?_
  refine cR_S (As := [.int (nI 0), .int (nI 0), .int (nI 1)]) (rest := []) X (c_X5_isWithin l G cI cZ (nI 0) (nI 0) (nI 1) ) lk_X5_50 (hd.1.sub (ws' := []) [] rfl) hl.1 rfl rfl (Nat.le_of_ble_eq_true rfl) ⟨Nat.le_of_ble_eq_true rfl, Nat.le_of_ble_eq_true rfl⟩ ⟨Nat.le_of_ble_eq_true rfl, Nat.le_of_ble_eq_true rfl⟩ dX5_restore_3 ?_
  refine st_eq (show (b2i (inB (nI 0) (nI 0) (nI 1)) : Int32) = b2i true from congrArg b2i (inB_tt (by omega) (by omega) (by omega))) ?_
  refine b_if_ne (tgt := 12) hx hb dX5_restore_6 (by decide) (fun c_6 => ?_) (fun c_6 => ?_)
  · refine lv_aload_n hx hb dX5_restore_12 rfl (lv_at hl 0 rfl) ?_
    refine x_get (C := RX5) (T := TX5) (N := 8) (ci := 5) 3 inT_X5 rfl (by decide) lf_X5_22 rfl X hd.1 0 rfl rfl dX5_restore_13 ?_
    refine lv_iconst (v := nI 1) hx hb dX5_restore_16 (by decide) ?_
    refine lv_iload_n hx hb dX5_restore_17 rfl (lv_at hl 1 rfl) ?_
    refine lv_ishl hx hb dX5_restore_18 ?_
    refine lv_iand hx hb dX5_restore_19 ?_
    refine lv_if_ne (tgt := 26) hx hb dX5_restore_20 (by decide) (fun c_20 => ?_) (fun c_20 => ?_)
    · refine lv_aload_n hx hb dX5_restore_26 rfl (lv_at hl 0 rfl) ?_
      refine x_get (C := RX5) (T := TX5) (N := 8) (ci := 5) 0 inT_X5 rfl (by decide) lf_X5_10 rfl X hd.1 0 rfl rfl dX5_restore_27 ?_
      refine lv_aload_n hx hb dX5_restore_30 rfl (lv_at hl 0 rfl) ?_
      refine lv_iload_n hx hb dX5_restore_31 rfl (lv_at hl 1 rfl) ?_
      refine cM_V (As := [.int (nI 0)]) (rest := [.ref nw]) (wr := [(nw, .inr (4, [.ref sr_, .ref ss, .int (nI n), .int (nI z), .int op, .int st, .int ea])), (sr_, .inr (3, [.ref sra])), (sra, .inl (cI, 108, .inl f)), (ss, .inl (cI, 81, .inl g)), (i0, .inr (4, [.ref jr0, .ref js0, .int (nI jn0), .int (nI jz0), .int jo0, .int jt0, .int je0])), (jr0, .inr (3, [.ref ja0])), (ja0, .inl (cI, 108, .inl jf0)), (js0, .inl (cI, 81, .inl jg0))]) X (c_X5_imageOf0 l G cI cZ x0 nw i0 i1 (kpn true b1) le bs us an ) lk_X5_182 hd hA [0] [1, 2, 3, 4, 5, 6, 7, 8] rfl rfl rfl rfl (by decide) rfl rfl hl.1 rfl rfl (Nat.le_of_ble_eq_true rfl) ⟨Nat.le_of_ble_eq_true rfl, Nat.le_of_ble_eq_true rfl⟩ ⟨Nat.le_of_ble_eq_true rfl, Nat.le_of_ble_eq_true rfl⟩ dX5_restore_32 (fun v w1 H locs hp hd => ?_)
      obtain ⟨rfl, rfl⟩ := hp
      have hd : Hd G A s.heap [(nw, .inr (4, [.ref sr_, .ref ss, .int (nI n), .int (nI z), .int op, .int st, .int ea])), (sr_, .inr (3, [.ref sra])), (sra, .inl (cI, 108, .inl f)), (ss, .inl (cI, 81, .inl g)), (i0, .inr (4, [.ref jr0, .ref js0, .int (nI jn0), .int (nI jz0), .int jo0, .int jt0, .int je0])), (jr0, .inr (3, [.ref ja0])), (ja0, .inl (cI, 108, .inl jf0)), (js0, .inl (cI, 81, .inl jg0)), (x0, .inr (5, [.ref nw, .ref i0, .ref i1, .int (nI (kpn true b1)), .ref le, .ref bs, .ref us, .ref an]))] H locs := hd
      refine st_all (st' := [.ref i0, .ref nw]) rfl ?_
      refine cM_V (As := [.ref i0]) (rest := []) (wr := [(x0, .inr (5, [.ref nw, .ref i0, .ref i1, .int (nI (kpn true b1)), .ref le, .ref bs, .ref us, .ref an]))]) X (c_X4_copyFrom l G cI cZ nw sr_ sra ss f g n z op st ea i0 jr0 ja0 js0 jf0 jg0 jn0 jz0 jo0 jt0 je0 ) lk_X5_186 hd hA [0, 1, 2, 3, 4, 5, 6, 7] [8] rfl rfl rfl rfl (by decide) rfl rfl hl.1 rfl rfl (Nat.le_of_ble_eq_true rfl) ⟨Nat.le_of_ble_eq_true rfl, Nat.le_of_ble_eq_true rfl⟩ ⟨Nat.le_of_ble_eq_true rfl, Nat.le_of_ble_eq_true rfl⟩ dX5_restore_35 (fun v w1 H locs hp hd => ?_)
      obtain ⟨rfl, rfl⟩ := hp
      have hd : Hd G A s.heap [(x0, .inr (5, [.ref nw, .ref i0, .ref i1, .int (nI (kpn true b1)), .ref le, .ref bs, .ref us, .ref an])), (nw, .inr (4, [.ref sr_, .ref ss, .int (nI jn0), .int (nI jz0), .int jo0, .int jt0, .int je0])), (sr_, .inr (3, [.ref sra])), (sra, .inl (cI, 108, .inl jf0)), (ss, .inl (cI, 81, .inl jg0)), (i0, .inr (4, [.ref jr0, .ref js0, .int (nI jn0), .int (nI jz0), .int jo0, .int jt0, .int je0])), (jr0, .inr (3, [.ref ja0])), (ja0, .inl (cI, 108, .inl jf0)), (js0, .inl (cI, 81, .inl jg0))] H locs := hd
      refine st_all (st' := []) rfl ?_
      refine lv_iconst (v := nI 1) hx hb dX5_restore_38 (by decide) ?_
      exact (fin _ _ [(x0, .inr (5, [.ref nw, .ref i0, .ref i1, .int (nI (kpn true b1)), .ref le, .ref bs, .ref us, .ref an])), (nw, .inr (4, [.ref sr_, .ref ss, .int (nI jn0), .int (nI jz0), .int jo0, .int jt0, .int je0])), (sr_, .inr (3, [.ref sra])), (sra, .inl (cI, 108, .inl jf0)), (ss, .inl (cI, 81, .inl jg0)), (i0, .inr (4, [.ref jr0, .ref js0, .int (nI jn0), .int (nI jz0), .int jo0, .int jt0, .int je0])), (jr0, .inr (3, [.ref ja0])), (ja0, .inl (cI, 108, .inl jf0)), (js0, .inl (cI, 81, .inl jg0))] _ _ (hd.sub [0, 1, 2, 3, 4, 5, 6, 7, 8] rfl rfl)).2.1 (nI 1) rfl ⟨rfl, rfl⟩ dX5_restore_39
    · exact absurd c_20 (kp_at0 _)
  · exact absurd ((rfl : true = true).symm.trans c_6) (by decide)

set_option maxHeartbeats 4000000 in
set_option maxRecDepth 100000 in
theorem c_X5_restoreN0 (l : Launch) (G : va_G) (cI cZ : ClassId) (x0 : Nat) (nw : Nat) (i0 : Nat) (i1 : Nat) (le : Nat) (bs : Nat) (us : Nat) (an : Nat) (b1 : Bool) : CR l G cI cZ yX5_restore cX5_restore 2 .int 3 60 [.ref x0, .int (nI 0)] [(x0, .inr (5, [.ref nw, .ref i0, .ref i1, .int (nI (kpn false b1)), .ref le, .ref bs, .ref us, .ref an]))] (-3) := by
  refine CR.of (own := RX5) (by decide) rfl rfl (Nat.le_of_ble_eq_true rfl) ?_
  intro p e R s m args below meth c H Q X hR fin hP ls hl
  subst hR
  have hx := X.1
  have hb := X.2.1
  have hl : lv_has ls 2 [(0, .ref x0), (1, .int (nI 0))] := hl
  refine lv_iload_n hx hb dX5_restore_0 rfl (lv_at hl 1 rfl) ?_
  refine lv_iconst (v := nI 0) hx hb dX5_restore_1 (by decide) ?_
  refine lv_iconst (v := nI 1) hx hb dX5_restore_2 (by decide) ?_
  refine cR_S (As := [.int (nI 0), .int (nI 0), .int (nI 1)]) (rest := []) X (c_X5_isWithin l G cI cZ (nI 0) (nI 0) (nI 1) ) lk_X5_50 (hP.sub (ws' := []) [] rfl) hl.1 rfl rfl (Nat.le_of_ble_eq_true rfl) ⟨Nat.le_of_ble_eq_true rfl, Nat.le_of_ble_eq_true rfl⟩ ⟨Nat.le_of_ble_eq_true rfl, Nat.le_of_ble_eq_true rfl⟩ dX5_restore_3 ?_
  refine st_eq (show (b2i (inB (nI 0) (nI 0) (nI 1)) : Int32) = b2i true from congrArg b2i (inB_tt (by omega) (by omega) (by omega))) ?_
  refine b_if_ne (tgt := 12) hx hb dX5_restore_6 (by decide) (fun c_6 => ?_) (fun c_6 => ?_)
  · refine lv_aload_n hx hb dX5_restore_12 rfl (lv_at hl 0 rfl) ?_
    refine x_get (C := RX5) (T := TX5) (N := 8) (ci := 5) 3 inT_X5 rfl (by decide) lf_X5_22 rfl X hP 0 rfl rfl dX5_restore_13 ?_
    refine lv_iconst (v := nI 1) hx hb dX5_restore_16 (by decide) ?_
    refine lv_iload_n hx hb dX5_restore_17 rfl (lv_at hl 1 rfl) ?_
    refine lv_ishl hx hb dX5_restore_18 ?_
    refine lv_iand hx hb dX5_restore_19 ?_
    refine lv_if_ne (tgt := 26) hx hb dX5_restore_20 (by decide) (fun c_20 => ?_) (fun c_20 => ?_)
    · exact absurd (kp_an0 _) c_20
    · refine lv_bipush (v := (-3)) hx hb dX5_restore_23 (by decide) ?_
      exact fin _ _ dX5_restore_25
  · exact absurd ((rfl : true = true).symm.trans c_6) (by decide)

set_option maxHeartbeats 4000000 in
set_option maxRecDepth 100000 in
theorem c_X5_image1 (l : Launch) (G : va_G) (cI cZ : ClassId) (x0 : Nat) (nw : Nat) (i0 : Nat) (i1 : Nat) (le : Nat) (bs : Nat) (us : Nat) (an : Nat) (b0 : Bool) (b1 : Bool) (sr_ : Nat) (sra : Nat) (ss : Nat) (n : Nat) (z : Nat) (f : Nat → Int32) (g : Nat → Int32) (op : Int32) (st : Int32) (ea : Int32) (jr1 : Nat) (ja1 : Nat) (js1 : Nat) (jf1 : Nat → Int32) (jg1 : Nat → Int32) (jn1 : Nat) (jz1 : Nat) (jo1 : Int32) (jt1 : Int32) (je1 : Int32) : CM l G cI cZ yX5_image cX5_image 2 (some .int) 3 60 0 0 [.ref x0, .int (nI 1)] [(x0, .inr (5, [.ref nw, .ref i0, .ref i1, .int (nI (kpn b0 b1)), .ref le, .ref bs, .ref us, .ref an])), (nw, .inr (4, [.ref sr_, .ref ss, .int (nI n), .int (nI z), .int op, .int st, .int ea])), (sr_, .inr (3, [.ref sra])), (sra, .inl (cI, 108, .inl f)), (ss, .inl (cI, 81, .inl g)), (i1, .inr (4, [.ref jr1, .ref js1, .int (nI jn1), .int (nI jz1), .int jo1, .int jt1, .int je1])), (jr1, .inr (3, [.ref ja1])), (ja1, .inl (cI, 108, .inl jf1)), (js1, .inl (cI, 81, .inl jg1))] (fun ov_ wv_ => ov_ = some (.int (nI 1)) ∧ wv_ = [(x0, .inr (5, [.ref nw, .ref i0, .ref i1, .int (nI (kpn b0 true)), .ref le, .ref bs, .ref us, .ref an])), (nw, .inr (4, [.ref sr_, .ref ss, .int (nI n), .int (nI z), .int op, .int st, .int ea])), (sr_, .inr (3, [.ref sra])), (sra, .inl (cI, 108, .inl f)), (ss, .inl (cI, 81, .inl g)), (i1, .inr (4, [.ref jr1, .ref js1, .int (nI n), .int (nI z), .int op, .int st, .int ea])), (jr1, .inr (3, [.ref ja1])), (ja1, .inl (cI, 108, .inl f)), (js1, .inl (cI, 81, .inl g))]) := by
  refine CM.of (own := RX5) (by decide) rfl (Nat.le_of_ble_eq_true rfl) ?_
  intro p e R s m args below meth c Q A X hR hret hnm hA fin hd ls hl
  subst hR
  have hx := X.1
  have hb := X.2.1
  have hl : lv_has ls 2 [(0, .ref x0), (1, .int (nI 1))] := hl
  refine lv_iload_n hx hb dX5_image_0 rfl (lv_at hl 1 rfl) ?_
  refine lv_iconst (v := nI 0) hx hb dX5_image_1 (by decide) ?_
  refine lv_iconst (v := nI 1) hx hb dX5_image_2 (by decide) ?_
  refine cR_S (As := [.int (nI 1), .int (nI 0), .int (nI 1)]) (rest := []) X (c_X5_isWithin l G cI cZ (nI 1) (nI 0) (nI 1) ) lk_X5_50 (hd.1.sub (ws' := []) [] rfl) hl.1 rfl rfl (Nat.le_of_ble_eq_true rfl) ⟨Nat.le_of_ble_eq_true rfl, Nat.le_of_ble_eq_true rfl⟩ ⟨Nat.le_of_ble_eq_true rfl, Nat.le_of_ble_eq_true rfl⟩ dX5_image_3 ?_
  refine st_eq (show (b2i (inB (nI 1) (nI 0) (nI 1)) : Int32) = b2i true from congrArg b2i (inB_tt (by omega) (by omega) (by omega))) ?_
  refine b_if_ne (tgt := 12) hx hb dX5_image_6 (by decide) (fun c_6 => ?_) (fun c_6 => ?_)
  · refine lv_aload_n hx hb dX5_image_12 rfl (lv_at hl 0 rfl) ?_
    refine lv_iload_n hx hb dX5_image_13 rfl (lv_at hl 1 rfl) ?_
    refine cM_V (As := [.int (nI 1)]) (rest := []) (wr := [(nw, .inr (4, [.ref sr_, .ref ss, .int (nI n), .int (nI z), .int op, .int st, .int ea])), (sr_, .inr (3, [.ref sra])), (sra, .inl (cI, 108, .inl f)), (ss, .inl (cI, 81, .inl g)), (i1, .inr (4, [.ref jr1, .ref js1, .int (nI jn1), .int (nI jz1), .int jo1, .int jt1, .int je1])), (jr1, .inr (3, [.ref ja1])), (ja1, .inl (cI, 108, .inl jf1)), (js1, .inl (cI, 81, .inl jg1))]) X (c_X5_imageOf1 l G cI cZ x0 nw i0 i1 (kpn b0 b1) le bs us an ) lk_X5_182 hd hA [0] [1, 2, 3, 4, 5, 6, 7, 8] rfl rfl rfl rfl (by decide) rfl rfl hl.1 rfl rfl (Nat.le_of_ble_eq_true rfl) ⟨Nat.le_of_ble_eq_true rfl, Nat.le_of_ble_eq_true rfl⟩ ⟨Nat.le_of_ble_eq_true rfl, Nat.le_of_ble_eq_true rfl⟩ dX5_image_14 (fun v w1 H locs hp hd => ?_)
    obtain ⟨rfl, rfl⟩ := hp
    have hd : Hd G A s.heap [(nw, .inr (4, [.ref sr_, .ref ss, .int (nI n), .int (nI z), .int op, .int st, .int ea])), (sr_, .inr (3, [.ref sra])), (sra, .inl (cI, 108, .inl f)), (ss, .inl (cI, 81, .inl g)), (i1, .inr (4, [.ref jr1, .ref js1, .int (nI jn1), .int (nI jz1), .int jo1, .int jt1, .int je1])), (jr1, .inr (3, [.ref ja1])), (ja1, .inl (cI, 108, .inl jf1)), (js1, .inl (cI, 81, .inl jg1)), (x0, .inr (5, [.ref nw, .ref i0, .ref i1, .int (nI (kpn b0 b1)), .ref le, .ref bs, .ref us, .ref an]))] H locs := hd
    refine st_all (st' := [.ref i1]) rfl ?_
    refine lv_aload_n hx hb dX5_image_17 rfl (lv_at hl 0 rfl) ?_
    refine x_get (C := RX5) (T := TX5) (N := 8) (ci := 5) 0 inT_X5 rfl (by decide) lf_X5_10 rfl X hd.1 8 rfl rfl dX5_image_18 ?_
    refine cM_V (As := [.ref nw]) (rest := []) (wr := [(x0, .inr (5, [.ref nw, .ref i0, .ref i1, .int (nI (kpn b0 b1)), .ref le, .ref bs, .ref us, .ref an]))]) X (c_X4_copyFrom l G cI cZ i1 jr1 ja1 js1 jf1 jg1 jn1 jz1 jo1 jt1 je1 nw sr_ sra ss f g n z op st ea ) lk_X5_186 hd hA [4, 5, 6, 7, 0, 1, 2, 3] [8] rfl rfl rfl rfl (by decide) rfl rfl hl.1 rfl rfl (Nat.le_of_ble_eq_true rfl) ⟨Nat.le_of_ble_eq_true rfl, Nat.le_of_ble_eq_true rfl⟩ ⟨Nat.le_of_ble_eq_true rfl, Nat.le_of_ble_eq_true rfl⟩ dX5_image_21 (fun v w1 H locs hp hd => ?_)
    obtain ⟨rfl, rfl⟩ := hp
    have hd : Hd G A s.heap [(x0, .inr (5, [.ref nw, .ref i0, .ref i1, .int (nI (kpn b0 b1)), .ref le, .ref bs, .ref us, .ref an])), (i1, .inr (4, [.ref jr1, .ref js1, .int (nI n), .int (nI z), .int op, .int st, .int ea])), (jr1, .inr (3, [.ref ja1])), (ja1, .inl (cI, 108, .inl f)), (js1, .inl (cI, 81, .inl g)), (nw, .inr (4, [.ref sr_, .ref ss, .int (nI n), .int (nI z), .int op, .int st, .int ea])), (sr_, .inr (3, [.ref sra])), (sra, .inl (cI, 108, .inl f)), (ss, .inl (cI, 81, .inl g))] H locs := hd
    refine st_all (st' := []) rfl ?_
    refine lv_aload_n hx hb dX5_image_24 rfl (lv_at hl 0 rfl) ?_
    refine lv_dup hx hb dX5_image_25 rfl ?_
    refine x_get (C := RX5) (T := TX5) (N := 8) (ci := 5) 3 inT_X5 rfl (by decide) lf_X5_22 rfl X hd.1 0 rfl rfl dX5_image_26 ?_
    refine lv_iconst (v := nI 1) hx hb dX5_image_29 (by decide) ?_
    refine lv_iload_n hx hb dX5_image_30 rfl (lv_at hl 1 rfl) ?_
    refine lv_ishl hx hb dX5_image_31 ?_
    refine lv_ior hx hb dX5_image_32 ?_
    refine st_eq (show ((nI (kpn b0 b1)) ||| ((nI 1) <<< ((nI 1) &&& 31)) : Int32) = nI (kpn b0 true) from kp_or1 _ _) ?_
    refine x_put (C := RX5) (T := TX5) (N := 8) (ci := 5) (ty := .int) 3 inT_X5 tyX5 tyX5_ok nmX5 rfl (by decide) lf_X5_22 rfl rfl (by decide +kernel) X hd 0 rfl rfl rfl (Nat.le_of_ble_eq_true rfl) dX5_image_33 (fun H locs hd => ?_)
    have hd : Hd G A s.heap [(x0, .inr (5, [.ref nw, .ref i0, .ref i1, .int (nI (kpn b0 true)), .ref le, .ref bs, .ref us, .ref an])), (i1, .inr (4, [.ref jr1, .ref js1, .int (nI n), .int (nI z), .int op, .int st, .int ea])), (jr1, .inr (3, [.ref ja1])), (ja1, .inl (cI, 108, .inl f)), (js1, .inl (cI, 81, .inl g)), (nw, .inr (4, [.ref sr_, .ref ss, .int (nI n), .int (nI z), .int op, .int st, .int ea])), (sr_, .inr (3, [.ref sra])), (sra, .inl (cI, 108, .inl f)), (ss, .inl (cI, 81, .inl g))] H locs := hd
    refine lv_iconst (v := nI 1) hx hb dX5_image_36 (by decide) ?_
    exact (fin _ _ [(x0, .inr (5, [.ref nw, .ref i0, .ref i1, .int (nI (kpn b0 true)), .ref le, .ref bs, .ref us, .ref an])), (nw, .inr (4, [.ref sr_, .ref ss, .int (nI n), .int (nI z), .int op, .int st, .int ea])), (sr_, .inr (3, [.ref sra])), (sra, .inl (cI, 108, .inl f)), (ss, .inl (cI, 81, .inl g)), (i1, .inr (4, [.ref jr1, .ref js1, .int (nI n), .int (nI z), .int op, .int st, .int ea])), (jr1, .inr (3, [.ref ja1])), (ja1, .inl (cI, 108, .inl f)), (js1, .inl (cI, 81, .inl g))] _ _ (hd.sub [0, 5, 6, 7, 8, 1, 2, 3, 4] rfl rfl)).2.1 (nI 1) rfl ⟨rfl, rfl⟩ dX5_image_37
  · exact absurd ((rfl : true = true).symm.trans c_6) (by decide)

set_option maxHeartbeats 4000000 in
set_option maxRecDepth 100000 in
theorem c_X5_restore1 (l : Launch) (G : va_G) (cI cZ : ClassId) (x0 : Nat) (nw : Nat) (i0 : Nat) (i1 : Nat) (le : Nat) (bs : Nat) (us : Nat) (an : Nat) (b0 : Bool) (sr_ : Nat) (sra : Nat) (ss : Nat) (n : Nat) (z : Nat) (f : Nat → Int32) (g : Nat → Int32) (op : Int32) (st : Int32) (ea : Int32) (jr1 : Nat) (ja1 : Nat) (js1 : Nat) (jf1 : Nat → Int32) (jg1 : Nat → Int32) (jn1 : Nat) (jz1 : Nat) (jo1 : Int32) (jt1 : Int32) (je1 : Int32) : CM l G cI cZ yX5_restore cX5_restore 2 (some .int) 3 60 0 0 [.ref x0, .int (nI 1)] [(x0, .inr (5, [.ref nw, .ref i0, .ref i1, .int (nI (kpn b0 true)), .ref le, .ref bs, .ref us, .ref an])), (nw, .inr (4, [.ref sr_, .ref ss, .int (nI n), .int (nI z), .int op, .int st, .int ea])), (sr_, .inr (3, [.ref sra])), (sra, .inl (cI, 108, .inl f)), (ss, .inl (cI, 81, .inl g)), (i1, .inr (4, [.ref jr1, .ref js1, .int (nI jn1), .int (nI jz1), .int jo1, .int jt1, .int je1])), (jr1, .inr (3, [.ref ja1])), (ja1, .inl (cI, 108, .inl jf1)), (js1, .inl (cI, 81, .inl jg1))] (fun ov_ wv_ => ov_ = some (.int (nI 1)) ∧ wv_ = [(x0, .inr (5, [.ref nw, .ref i0, .ref i1, .int (nI (kpn b0 true)), .ref le, .ref bs, .ref us, .ref an])), (nw, .inr (4, [.ref sr_, .ref ss, .int (nI jn1), .int (nI jz1), .int jo1, .int jt1, .int je1])), (sr_, .inr (3, [.ref sra])), (sra, .inl (cI, 108, .inl jf1)), (ss, .inl (cI, 81, .inl jg1)), (i1, .inr (4, [.ref jr1, .ref js1, .int (nI jn1), .int (nI jz1), .int jo1, .int jt1, .int je1])), (jr1, .inr (3, [.ref ja1])), (ja1, .inl (cI, 108, .inl jf1)), (js1, .inl (cI, 81, .inl jg1))]) := by
  refine CM.of (own := RX5) (by decide) rfl (Nat.le_of_ble_eq_true rfl) ?_
  intro p e R s m args below meth c Q A X hR hret hnm hA fin hd ls hl
  subst hR
  have hx := X.1
  have hb := X.2.1
  have hl : lv_has ls 2 [(0, .ref x0), (1, .int (nI 1))] := hl
  refine lv_iload_n hx hb dX5_restore_0 rfl (lv_at hl 1 rfl) ?_
  refine lv_iconst (v := nI 0) hx hb dX5_restore_1 (by decide) ?_
  refine lv_iconst (v := nI 1) hx hb dX5_restore_2 (by decide) ?_
  refine cR_S (As := [.int (nI 1), .int (nI 0), .int (nI 1)]) (rest := []) X (c_X5_isWithin l G cI cZ (nI 1) (nI 0) (nI 1) ) lk_X5_50 (hd.1.sub (ws' := []) [] rfl) hl.1 rfl rfl (Nat.le_of_ble_eq_true rfl) ⟨Nat.le_of_ble_eq_true rfl, Nat.le_of_ble_eq_true rfl⟩ ⟨Nat.le_of_ble_eq_true rfl, Nat.le_of_ble_eq_true rfl⟩ dX5_restore_3 ?_
  refine st_eq (show (b2i (inB (nI 1) (nI 0) (nI 1)) : Int32) = b2i true from congrArg b2i (inB_tt (by omega) (by omega) (by omega))) ?_
  refine b_if_ne (tgt := 12) hx hb dX5_restore_6 (by decide) (fun c_6 => ?_) (fun c_6 => ?_)
  · refine lv_aload_n hx hb dX5_restore_12 rfl (lv_at hl 0 rfl) ?_
    refine x_get (C := RX5) (T := TX5) (N := 8) (ci := 5) 3 inT_X5 rfl (by decide) lf_X5_22 rfl X hd.1 0 rfl rfl dX5_restore_13 ?_
    refine lv_iconst (v := nI 1) hx hb dX5_restore_16 (by decide) ?_
    refine lv_iload_n hx hb dX5_restore_17 rfl (lv_at hl 1 rfl) ?_
    refine lv_ishl hx hb dX5_restore_18 ?_
    refine lv_iand hx hb dX5_restore_19 ?_
    refine lv_if_ne (tgt := 26) hx hb dX5_restore_20 (by decide) (fun c_20 => ?_) (fun c_20 => ?_)
    · refine lv_aload_n hx hb dX5_restore_26 rfl (lv_at hl 0 rfl) ?_
      refine x_get (C := RX5) (T := TX5) (N := 8) (ci := 5) 0 inT_X5 rfl (by decide) lf_X5_10 rfl X hd.1 0 rfl rfl dX5_restore_27 ?_
      refine lv_aload_n hx hb dX5_restore_30 rfl (lv_at hl 0 rfl) ?_
      refine lv_iload_n hx hb dX5_restore_31 rfl (lv_at hl 1 rfl) ?_
      refine cM_V (As := [.int (nI 1)]) (rest := [.ref nw]) (wr := [(nw, .inr (4, [.ref sr_, .ref ss, .int (nI n), .int (nI z), .int op, .int st, .int ea])), (sr_, .inr (3, [.ref sra])), (sra, .inl (cI, 108, .inl f)), (ss, .inl (cI, 81, .inl g)), (i1, .inr (4, [.ref jr1, .ref js1, .int (nI jn1), .int (nI jz1), .int jo1, .int jt1, .int je1])), (jr1, .inr (3, [.ref ja1])), (ja1, .inl (cI, 108, .inl jf1)), (js1, .inl (cI, 81, .inl jg1))]) X (c_X5_imageOf1 l G cI cZ x0 nw i0 i1 (kpn b0 true) le bs us an ) lk_X5_182 hd hA [0] [1, 2, 3, 4, 5, 6, 7, 8] rfl rfl rfl rfl (by decide) rfl rfl hl.1 rfl rfl (Nat.le_of_ble_eq_true rfl) ⟨Nat.le_of_ble_eq_true rfl, Nat.le_of_ble_eq_true rfl⟩ ⟨Nat.le_of_ble_eq_true rfl, Nat.le_of_ble_eq_true rfl⟩ dX5_restore_32 (fun v w1 H locs hp hd => ?_)
      obtain ⟨rfl, rfl⟩ := hp
      have hd : Hd G A s.heap [(nw, .inr (4, [.ref sr_, .ref ss, .int (nI n), .int (nI z), .int op, .int st, .int ea])), (sr_, .inr (3, [.ref sra])), (sra, .inl (cI, 108, .inl f)), (ss, .inl (cI, 81, .inl g)), (i1, .inr (4, [.ref jr1, .ref js1, .int (nI jn1), .int (nI jz1), .int jo1, .int jt1, .int je1])), (jr1, .inr (3, [.ref ja1])), (ja1, .inl (cI, 108, .inl jf1)), (js1, .inl (cI, 81, .inl jg1)), (x0, .inr (5, [.ref nw, .ref i0, .ref i1, .int (nI (kpn b0 true)), .ref le, .ref bs, .ref us, .ref an]))] H locs := hd
      refine st_all (st' := [.ref i1, .ref nw]) rfl ?_
      refine cM_V (As := [.ref i1]) (rest := []) (wr := [(x0, .inr (5, [.ref nw, .ref i0, .ref i1, .int (nI (kpn b0 true)), .ref le, .ref bs, .ref us, .ref an]))]) X (c_X4_copyFrom l G cI cZ nw sr_ sra ss f g n z op st ea i1 jr1 ja1 js1 jf1 jg1 jn1 jz1 jo1 jt1 je1 ) lk_X5_186 hd hA [0, 1, 2, 3, 4, 5, 6, 7] [8] rfl rfl rfl rfl (by decide) rfl rfl hl.1 rfl rfl (Nat.le_of_ble_eq_true rfl) ⟨Nat.le_of_ble_eq_true rfl, Nat.le_of_ble_eq_true rfl⟩ ⟨Nat.le_of_ble_eq_true rfl, Nat.le_of_ble_eq_true rfl⟩ dX5_restore_35 (fun v w1 H locs hp hd => ?_)
      obtain ⟨rfl, rfl⟩ := hp
      have hd : Hd G A s.heap [(x0, .inr (5, [.ref nw, .ref i0, .ref i1, .int (nI (kpn b0 true)), .ref le, .ref bs, .ref us, .ref an])), (nw, .inr (4, [.ref sr_, .ref ss, .int (nI jn1), .int (nI jz1), .int jo1, .int jt1, .int je1])), (sr_, .inr (3, [.ref sra])), (sra, .inl (cI, 108, .inl jf1)), (ss, .inl (cI, 81, .inl jg1)), (i1, .inr (4, [.ref jr1, .ref js1, .int (nI jn1), .int (nI jz1), .int jo1, .int jt1, .int je1])), (jr1, .inr (3, [.ref ja1])), (ja1, .inl (cI, 108, .inl jf1)), (js1, .inl (cI, 81, .inl jg1))] H locs := hd
      refine st_all (st' := []) rfl ?_
      refine lv_iconst (v := nI 1) hx hb dX5_restore_38 (by decide) ?_
      exact (fin _ _ [(x0, .inr (5, [.ref nw, .ref i0, .ref i1, .int (nI (kpn b0 true)), .ref le, .ref bs, .ref us, .ref an])), (nw, .inr (4, [.ref sr_, .ref ss, .int (nI jn1), .int (nI jz1), .int jo1, .int jt1, .int je1])), (sr_, .inr (3, [.ref sra])), (sra, .inl (cI, 108, .inl jf1)), (ss, .inl (cI, 81, .inl jg1)), (i1, .inr (4, [.ref jr1, .ref js1, .int (nI jn1), .int (nI jz1), .int jo1, .int jt1, .int je1])), (jr1, .inr (3, [.ref ja1])), (ja1, .inl (cI, 108, .inl jf1)), (js1, .inl (cI, 81, .inl jg1))] _ _ (hd.sub [0, 1, 2, 3, 4, 5, 6, 7, 8] rfl rfl)).2.1 (nI 1) rfl ⟨rfl, rfl⟩ dX5_restore_39
    · exact absurd c_20 (kp_at1 _)
  · exact absurd ((rfl : true = true).symm.trans c_6) (by decide)

set_option maxHeartbeats 4000000 in
set_option maxRecDepth 100000 in
theorem c_X5_restoreN1 (l : Launch) (G : va_G) (cI cZ : ClassId) (x0 : Nat) (nw : Nat) (i0 : Nat) (i1 : Nat) (le : Nat) (bs : Nat) (us : Nat) (an : Nat) (b0 : Bool) : CR l G cI cZ yX5_restore cX5_restore 2 .int 3 60 [.ref x0, .int (nI 1)] [(x0, .inr (5, [.ref nw, .ref i0, .ref i1, .int (nI (kpn b0 false)), .ref le, .ref bs, .ref us, .ref an]))] (-3) := by
  refine CR.of (own := RX5) (by decide) rfl rfl (Nat.le_of_ble_eq_true rfl) ?_
  intro p e R s m args below meth c H Q X hR fin hP ls hl
  subst hR
  have hx := X.1
  have hb := X.2.1
  have hl : lv_has ls 2 [(0, .ref x0), (1, .int (nI 1))] := hl
  refine lv_iload_n hx hb dX5_restore_0 rfl (lv_at hl 1 rfl) ?_
  refine lv_iconst (v := nI 0) hx hb dX5_restore_1 (by decide) ?_
  refine lv_iconst (v := nI 1) hx hb dX5_restore_2 (by decide) ?_
  refine cR_S (As := [.int (nI 1), .int (nI 0), .int (nI 1)]) (rest := []) X (c_X5_isWithin l G cI cZ (nI 1) (nI 0) (nI 1) ) lk_X5_50 (hP.sub (ws' := []) [] rfl) hl.1 rfl rfl (Nat.le_of_ble_eq_true rfl) ⟨Nat.le_of_ble_eq_true rfl, Nat.le_of_ble_eq_true rfl⟩ ⟨Nat.le_of_ble_eq_true rfl, Nat.le_of_ble_eq_true rfl⟩ dX5_restore_3 ?_
  refine st_eq (show (b2i (inB (nI 1) (nI 0) (nI 1)) : Int32) = b2i true from congrArg b2i (inB_tt (by omega) (by omega) (by omega))) ?_
  refine b_if_ne (tgt := 12) hx hb dX5_restore_6 (by decide) (fun c_6 => ?_) (fun c_6 => ?_)
  · refine lv_aload_n hx hb dX5_restore_12 rfl (lv_at hl 0 rfl) ?_
    refine x_get (C := RX5) (T := TX5) (N := 8) (ci := 5) 3 inT_X5 rfl (by decide) lf_X5_22 rfl X hP 0 rfl rfl dX5_restore_13 ?_
    refine lv_iconst (v := nI 1) hx hb dX5_restore_16 (by decide) ?_
    refine lv_iload_n hx hb dX5_restore_17 rfl (lv_at hl 1 rfl) ?_
    refine lv_ishl hx hb dX5_restore_18 ?_
    refine lv_iand hx hb dX5_restore_19 ?_
    refine lv_if_ne (tgt := 26) hx hb dX5_restore_20 (by decide) (fun c_20 => ?_) (fun c_20 => ?_)
    · exact absurd (kp_an1 _) c_20
    · refine lv_bipush (v := (-3)) hx hb dX5_restore_23 (by decide) ?_
      exact fin _ _ dX5_restore_25
  · exact absurd ((rfl : true = true).symm.trans c_6) (by decide)

set_option maxHeartbeats 4000000 in
set_option maxRecDepth 100000 in
theorem c_X5_image_no (l : Launch) (G : va_G) (cI cZ : ClassId) (x0 : Nat) (nw : Nat) (i0 : Nat) (i1 : Nat) (kp : Nat) (le : Nat) (bs : Nat) (us : Nat) (an : Nat) (p0 : Int32) (hv : inB p0 (nI 0) (nI 1) = false) : CR l G cI cZ yX5_image cX5_image 2 .int 3 60 [.ref x0, .int p0] [(x0, .inr (5, [.ref nw, .ref i0, .ref i1, .int (nI kp), .ref le, .ref bs, .ref us, .ref an]))] (-2) := by
  refine CR.of (own := RX5) (by decide) rfl rfl (Nat.le_of_ble_eq_true rfl) ?_
  intro p e R s m args below meth c H Q X hR fin hP ls hl
  subst hR
  have hx := X.1
  have hb := X.2.1
  have hl : lv_has ls 2 [(0, .ref x0), (1, .int p0)] := hl
  refine lv_iload_n hx hb dX5_image_0 rfl (lv_at hl 1 rfl) ?_
  refine lv_iconst (v := nI 0) hx hb dX5_image_1 (by decide) ?_
  refine lv_iconst (v := nI 1) hx hb dX5_image_2 (by decide) ?_
  refine cR_S (As := [.int p0, .int (nI 0), .int (nI 1)]) (rest := []) X (c_X5_isWithin l G cI cZ p0 (nI 0) (nI 1) ) lk_X5_50 (hP.sub (ws' := []) [] rfl) hl.1 rfl rfl (Nat.le_of_ble_eq_true rfl) ⟨Nat.le_of_ble_eq_true rfl, Nat.le_of_ble_eq_true rfl⟩ ⟨Nat.le_of_ble_eq_true rfl, Nat.le_of_ble_eq_true rfl⟩ dX5_image_3 ?_
  refine b_if_ne (tgt := 12) hx hb dX5_image_6 (by decide) (fun c_6 => ?_) (fun c_6 => ?_)
  · exact absurd (hv.symm.trans c_6) (by decide)
  · refine lv_bipush (v := (-2)) hx hb dX5_image_9 (by decide) ?_
    exact fin _ _ dX5_image_11

set_option maxHeartbeats 4000000 in
set_option maxRecDepth 100000 in
theorem c_X5_restore_no (l : Launch) (G : va_G) (cI cZ : ClassId) (x0 : Nat) (nw : Nat) (i0 : Nat) (i1 : Nat) (kp : Nat) (le : Nat) (bs : Nat) (us : Nat) (an : Nat) (p0 : Int32) (hv : inB p0 (nI 0) (nI 1) = false) : CR l G cI cZ yX5_restore cX5_restore 2 .int 3 60 [.ref x0, .int p0] [(x0, .inr (5, [.ref nw, .ref i0, .ref i1, .int (nI kp), .ref le, .ref bs, .ref us, .ref an]))] (-2) := by
  refine CR.of (own := RX5) (by decide) rfl rfl (Nat.le_of_ble_eq_true rfl) ?_
  intro p e R s m args below meth c H Q X hR fin hP ls hl
  subst hR
  have hx := X.1
  have hb := X.2.1
  have hl : lv_has ls 2 [(0, .ref x0), (1, .int p0)] := hl
  refine lv_iload_n hx hb dX5_restore_0 rfl (lv_at hl 1 rfl) ?_
  refine lv_iconst (v := nI 0) hx hb dX5_restore_1 (by decide) ?_
  refine lv_iconst (v := nI 1) hx hb dX5_restore_2 (by decide) ?_
  refine cR_S (As := [.int p0, .int (nI 0), .int (nI 1)]) (rest := []) X (c_X5_isWithin l G cI cZ p0 (nI 0) (nI 1) ) lk_X5_50 (hP.sub (ws' := []) [] rfl) hl.1 rfl rfl (Nat.le_of_ble_eq_true rfl) ⟨Nat.le_of_ble_eq_true rfl, Nat.le_of_ble_eq_true rfl⟩ ⟨Nat.le_of_ble_eq_true rfl, Nat.le_of_ble_eq_true rfl⟩ dX5_restore_3 ?_
  refine b_if_ne (tgt := 12) hx hb dX5_restore_6 (by decide) (fun c_6 => ?_) (fun c_6 => ?_)
  · exact absurd (hv.symm.trans c_6) (by decide)
  · refine lv_bipush (v := (-2)) hx hb dX5_restore_9 (by decide) ?_
    exact fin _ _ dX5_restore_11

set_option maxHeartbeats 4000000 in
set_option maxRecDepth 100000 in
theorem c_X5_init (l : Launch) (G : va_G) (cI cZ : ClassId) (x0 : Nat) : CM l G cI cZ yX5_init cX5_init 1 none 3 52 29 1942 [.ref x0] [(x0, .inr (5, [.null, .null, .null, .int (nI 0), .null, .null, .null, .null]))] (fun ov_ wv_ => ∃ nw : Nat, ∃ sr_ : Nat, ∃ sra : Nat, ∃ ss : Nat, ∃ i0 : Nat, ∃ jr0 : Nat, ∃ ja0 : Nat, ∃ js0 : Nat, ∃ i1 : Nat, ∃ jr1 : Nat, ∃ ja1 : Nat, ∃ js1 : Nat, ∃ le : Nat, ∃ ht : Nat, ∃ qa : Nat, ∃ qb : Nat, ∃ bs : Nat, ∃ br : Nat, ∃ bq : Nat, ∃ us : Nat, ∃ ur : Nat, ∃ ur1 : Nat, ∃ ub : Nat, ∃ ub1 : Nat, ∃ an : Nat, ∃ vr : Nat, ∃ vr1 : Nat, ∃ vb : Nat, ∃ vb1 : Nat, ov_ = none ∧ wv_ = [(x0, .inr (5, [.ref nw, .ref i0, .ref i1, .int (nI 0), .ref le, .ref bs, .ref us, .ref an])), (nw, .inr (4, [.ref sr_, .ref ss, .int (nI 4), .int (nI 4), .int (nI 0), .int (nI 5), .int (nI 1)])), (sr_, .inr (3, [.ref sra])), (sra, .inl (cI, 108, .inl (fun _ => 0))), (ss, .inl (cI, 81, .inl (fun _ => nI 1))), (i0, .inr (4, [.ref jr0, .ref js0, .int (nI 4), .int (nI 4), .int (nI 0), .int (nI 5), .int (nI 1)])), (jr0, .inr (3, [.ref ja0])), (ja0, .inl (cI, 108, .inl (fun _ => 0))), (js0, .inl (cI, 81, .inl (fun _ => nI 1))), (i1, .inr (4, [.ref jr1, .ref js1, .int (nI 4), .int (nI 4), .int (nI 0), .int (nI 5), .int (nI 1)])), (jr1, .inr (3, [.ref ja1])), (ja1, .inl (cI, 108, .inl (fun _ => 0))), (js1, .inl (cI, 81, .inl (fun _ => nI 1))), (le, .inr (1, [.ref ht, .int (nI 0), .int (nI 0), .int (nI 0), .int (nI 0), .ref qa, .ref qb])), (ht, .inl (cI, 864, .inl (fun _ => 0))), (qa, .inl (cI, 9, .inl (fun _ => 0))), (qb, .inl (cI, 9, .inl (fun _ => 0))), (bs, .inr (0, [.ref br, .ref bq, .int (nI 0), .int (nI 0)])), (br, .inl (cI, 9, .inl (fun _ => 0))), (bq, .inl (cI, 9, .inl (fun _ => 0))), (us, .inr (2, [.ref ur, .ref ub])), (ur, .inr (3, [.ref ur1])), (ur1, .inl (cI, 108, .inl (fun _ => 0))), (ub, .inr (3, [.ref ub1])), (ub1, .inl (cI, 108, .inl (fun _ => 0))), (an, .inr (2, [.ref vr, .ref vb])), (vr, .inr (3, [.ref vr1])), (vr1, .inl (cI, 108, .inl (fun _ => 0))), (vb, .inr (3, [.ref vb1])), (vb1, .inl (cI, 108, .inl (fun _ => 0)))]) := by
  refine CM.of (own := RX5) (by decide) rfl (Nat.le_of_ble_eq_true rfl) ?_
  intro p e R s m args below meth c Q A X hR hret hnm hA fin hd ls hl
  subst hR
  have hx := X.1
  have hb := X.2.1
  have hl : lv_has ls 1 [(0, .ref x0)] := hl
  refine lv_aload_n hx hb dX5_init_0 rfl (lv_at hl 0 rfl) ?_
  refine W.objInit hx hb X.2.2.2.1 (X.2.2.2.2.1 _ lo_X5_1) (X.2.2.2.2.1 _ w_objI) (X.2.2.2.2.1 _ w_objC) rfl (by rw [X.2.2.1]; exact hl.1) rfl dX5_init_1 (by decide) (Nat.le_of_ble_eq_true rfl) ?_
  refine W.eq (g2 := F0 m 4 ls []) rfl ?_
  refine lv_aload_n hx hb dX5_init_4 rfl (lv_at hl 0 rfl) ?_
  refine x_new (C := RX4) (T := TX4) (N := 7) (ci := 4) (fs := [.null, .null, .int (nI 0), .int (nI 0), .int (nI 0), .int (nI 0), .int (nI 0)]) inT_X4 tyX4 tyX4_ok lc_X5_7 w_inst_X4 w_ini_X4 rfl (fun j hj => by match j, hj with | 0, _ => rfl | 1, _ => rfl | 2, _ => rfl | 3, _ => rfl | 4, _ => rfl | 5, _ => rfl | 6, _ => rfl | n + 7, h => exact absurd h (by omega)) X hd hA (by decide) (by decide) dX5_init_5 (fun q_1 H hd => ?_)
  have hd : Hd G A s.heap [(x0, .inr (5, [.null, .null, .null, .int (nI 0), .null, .null, .null, .null])), (q_1, .inr (4, [.null, .null, .int (nI 0), .int (nI 0), .int (nI 0), .int (nI 0), .int (nI 0)]))] H [] := hd
  refine W.widen (k := 1) (n := 7) (by decide) (by decide) ?_
  refine lv_dup hx hb dX5_init_8 rfl ?_
  refine cM_I (As := []) (rest := [.ref q_1, .ref x0]) (wr := [(x0, .inr (5, [.null, .null, .null, .int (nI 0), .null, .null, .null, .null]))]) X (c_X4_init l G cI cZ q_1 ) lk_X5_9 hd hA [1] [0] rfl rfl rfl rfl (by decide) hl.1 rfl rfl (Nat.le_of_ble_eq_true rfl) ⟨Nat.le_of_ble_eq_true rfl, Nat.le_of_ble_eq_true rfl⟩ ⟨Nat.le_of_ble_eq_true rfl, Nat.le_of_ble_eq_true rfl⟩ dX5_init_9 (fun v w1 H locs hp hd => ?_)
  obtain ⟨t_sr_, t_sra, t_ss, rfl, rfl⟩ := hp
  have hd : Hd G A s.heap [(x0, .inr (5, [.null, .null, .null, .int (nI 0), .null, .null, .null, .null])), (q_1, .inr (4, [.ref t_sr_, .ref t_ss, .int (nI 4), .int (nI 4), .int (nI 0), .int (nI 5), .int (nI 1)])), (t_sr_, .inr (3, [.ref t_sra])), (t_sra, .inl (cI, 108, .inl (fun _ => 0))), (t_ss, .inl (cI, 81, .inl (fun _ => nI 1)))] H locs := hd
  refine st_all (st' := [.ref q_1, .ref x0]) rfl ?_
  refine W.widen (k := 4) (n := 197) (by decide) (by decide) ?_
  refine x_putF (C := RX5) (T := TX5) (N := 8) (ci := 5) (ty := (.object "SumsForAll$Setting")) 0 inT_X5 tyX5 tyX5_ok nmX5 rfl (by decide) lf_X5_10 rfl rfl (by decide +kernel) rfl hnm X hd 0 rfl rfl rfl (Nat.le_of_ble_eq_true rfl) dX5_init_12 (fun H locs hd => ?_)
  have hd : Hd G A s.heap [(x0, .inr (5, [.ref q_1, .null, .null, .int (nI 0), .null, .null, .null, .null])), (q_1, .inr (4, [.ref t_sr_, .ref t_ss, .int (nI 4), .int (nI 4), .int (nI 0), .int (nI 5), .int (nI 1)])), (t_sr_, .inr (3, [.ref t_sra])), (t_sra, .inl (cI, 108, .inl (fun _ => 0))), (t_ss, .inl (cI, 81, .inl (fun _ => nI 1)))] H locs := hd
  refine lv_aload_n hx hb dX5_init_15 rfl (lv_at hl 0 rfl) ?_
  refine x_new (C := RX4) (T := TX4) (N := 7) (ci := 4) (fs := [.null, .null, .int (nI 0), .int (nI 0), .int (nI 0), .int (nI 0), .int (nI 0)]) inT_X4 tyX4 tyX4_ok lc_X5_7 w_inst_X4 w_ini_X4 rfl (fun j hj => by match j, hj with | 0, _ => rfl | 1, _ => rfl | 2, _ => rfl | 3, _ => rfl | 4, _ => rfl | 5, _ => rfl | 6, _ => rfl | n + 7, h => exact absurd h (by omega)) X hd hA (by decide) (by decide) dX5_init_16 (fun q_2 H hd => ?_)
  have hd : Hd G A s.heap [(x0, .inr (5, [.ref q_1, .null, .null, .int (nI 0), .null, .null, .null, .null])), (q_1, .inr (4, [.ref t_sr_, .ref t_ss, .int (nI 4), .int (nI 4), .int (nI 0), .int (nI 5), .int (nI 1)])), (t_sr_, .inr (3, [.ref t_sra])), (t_sra, .inl (cI, 108, .inl (fun _ => 0))), (t_ss, .inl (cI, 81, .inl (fun _ => nI 1))), (q_2, .inr (4, [.null, .null, .int (nI 0), .int (nI 0), .int (nI 0), .int (nI 0), .int (nI 0)]))] H locs := hd
  refine W.widen (k := 5) (n := 204) (by decide) (by decide) ?_
  refine lv_dup hx hb dX5_init_19 rfl ?_
  refine cM_I (As := []) (rest := [.ref q_2, .ref x0]) (wr := [(x0, .inr (5, [.ref q_1, .null, .null, .int (nI 0), .null, .null, .null, .null])), (q_1, .inr (4, [.ref t_sr_, .ref t_ss, .int (nI 4), .int (nI 4), .int (nI 0), .int (nI 5), .int (nI 1)])), (t_sr_, .inr (3, [.ref t_sra])), (t_sra, .inl (cI, 108, .inl (fun _ => 0))), (t_ss, .inl (cI, 81, .inl (fun _ => nI 1)))]) X (c_X4_init l G cI cZ q_2 ) lk_X5_9 hd hA [5] [0, 1, 2, 3, 4] rfl rfl rfl rfl (by decide) hl.1 rfl rfl (Nat.le_of_ble_eq_true rfl) ⟨Nat.le_of_ble_eq_true rfl, Nat.le_of_ble_eq_true rfl⟩ ⟨Nat.le_of_ble_eq_true rfl, Nat.le_of_ble_eq_true rfl⟩ dX5_init_20 (fun v w1 H locs hp hd => ?_)
  obtain ⟨t_jr0, t_ja0, t_js0, rfl, rfl⟩ := hp
  have hd : Hd G A s.heap [(x0, .inr (5, [.ref q_1, .null, .null, .int (nI 0), .null, .null, .null, .null])), (q_1, .inr (4, [.ref t_sr_, .ref t_ss, .int (nI 4), .int (nI 4), .int (nI 0), .int (nI 5), .int (nI 1)])), (t_sr_, .inr (3, [.ref t_sra])), (t_sra, .inl (cI, 108, .inl (fun _ => 0))), (t_ss, .inl (cI, 81, .inl (fun _ => nI 1))), (q_2, .inr (4, [.ref t_jr0, .ref t_js0, .int (nI 4), .int (nI 4), .int (nI 0), .int (nI 5), .int (nI 1)])), (t_jr0, .inr (3, [.ref t_ja0])), (t_ja0, .inl (cI, 108, .inl (fun _ => 0))), (t_js0, .inl (cI, 81, .inl (fun _ => nI 1)))] H locs := hd
  refine st_all (st' := [.ref q_2, .ref x0]) rfl ?_
  refine W.widen (k := 8) (n := 394) (by decide) (by decide) ?_
  refine x_putF (C := RX5) (T := TX5) (N := 8) (ci := 5) (ty := (.object "SumsForAll$Setting")) 1 inT_X5 tyX5 tyX5_ok nmX5 rfl (by decide) lf_X5_16 rfl rfl (by decide +kernel) rfl hnm X hd 0 rfl rfl rfl (Nat.le_of_ble_eq_true rfl) dX5_init_23 (fun H locs hd => ?_)
  have hd : Hd G A s.heap [(x0, .inr (5, [.ref q_1, .ref q_2, .null, .int (nI 0), .null, .null, .null, .null])), (q_1, .inr (4, [.ref t_sr_, .ref t_ss, .int (nI 4), .int (nI 4), .int (nI 0), .int (nI 5), .int (nI 1)])), (t_sr_, .inr (3, [.ref t_sra])), (t_sra, .inl (cI, 108, .inl (fun _ => 0))), (t_ss, .inl (cI, 81, .inl (fun _ => nI 1))), (q_2, .inr (4, [.ref t_jr0, .ref t_js0, .int (nI 4), .int (nI 4), .int (nI 0), .int (nI 5), .int (nI 1)])), (t_jr0, .inr (3, [.ref t_ja0])), (t_ja0, .inl (cI, 108, .inl (fun _ => 0))), (t_js0, .inl (cI, 81, .inl (fun _ => nI 1)))] H locs := hd
  refine lv_aload_n hx hb dX5_init_26 rfl (lv_at hl 0 rfl) ?_
  refine x_new (C := RX4) (T := TX4) (N := 7) (ci := 4) (fs := [.null, .null, .int (nI 0), .int (nI 0), .int (nI 0), .int (nI 0), .int (nI 0)]) inT_X4 tyX4 tyX4_ok lc_X5_7 w_inst_X4 w_ini_X4 rfl (fun j hj => by match j, hj with | 0, _ => rfl | 1, _ => rfl | 2, _ => rfl | 3, _ => rfl | 4, _ => rfl | 5, _ => rfl | 6, _ => rfl | n + 7, h => exact absurd h (by omega)) X hd hA (by decide) (by decide) dX5_init_27 (fun q_3 H hd => ?_)
  have hd : Hd G A s.heap [(x0, .inr (5, [.ref q_1, .ref q_2, .null, .int (nI 0), .null, .null, .null, .null])), (q_1, .inr (4, [.ref t_sr_, .ref t_ss, .int (nI 4), .int (nI 4), .int (nI 0), .int (nI 5), .int (nI 1)])), (t_sr_, .inr (3, [.ref t_sra])), (t_sra, .inl (cI, 108, .inl (fun _ => 0))), (t_ss, .inl (cI, 81, .inl (fun _ => nI 1))), (q_2, .inr (4, [.ref t_jr0, .ref t_js0, .int (nI 4), .int (nI 4), .int (nI 0), .int (nI 5), .int (nI 1)])), (t_jr0, .inr (3, [.ref t_ja0])), (t_ja0, .inl (cI, 108, .inl (fun _ => 0))), (t_js0, .inl (cI, 81, .inl (fun _ => nI 1))), (q_3, .inr (4, [.null, .null, .int (nI 0), .int (nI 0), .int (nI 0), .int (nI 0), .int (nI 0)]))] H locs := hd
  refine W.widen (k := 9) (n := 401) (by decide) (by decide) ?_
  refine lv_dup hx hb dX5_init_30 rfl ?_
  refine cM_I (As := []) (rest := [.ref q_3, .ref x0]) (wr := [(x0, .inr (5, [.ref q_1, .ref q_2, .null, .int (nI 0), .null, .null, .null, .null])), (q_1, .inr (4, [.ref t_sr_, .ref t_ss, .int (nI 4), .int (nI 4), .int (nI 0), .int (nI 5), .int (nI 1)])), (t_sr_, .inr (3, [.ref t_sra])), (t_sra, .inl (cI, 108, .inl (fun _ => 0))), (t_ss, .inl (cI, 81, .inl (fun _ => nI 1))), (q_2, .inr (4, [.ref t_jr0, .ref t_js0, .int (nI 4), .int (nI 4), .int (nI 0), .int (nI 5), .int (nI 1)])), (t_jr0, .inr (3, [.ref t_ja0])), (t_ja0, .inl (cI, 108, .inl (fun _ => 0))), (t_js0, .inl (cI, 81, .inl (fun _ => nI 1)))]) X (c_X4_init l G cI cZ q_3 ) lk_X5_9 hd hA [9] [0, 1, 2, 3, 4, 5, 6, 7, 8] rfl rfl rfl rfl (by decide) hl.1 rfl rfl (Nat.le_of_ble_eq_true rfl) ⟨Nat.le_of_ble_eq_true rfl, Nat.le_of_ble_eq_true rfl⟩ ⟨Nat.le_of_ble_eq_true rfl, Nat.le_of_ble_eq_true rfl⟩ dX5_init_31 (fun v w1 H locs hp hd => ?_)
  obtain ⟨t_jr1, t_ja1, t_js1, rfl, rfl⟩ := hp
  have hd : Hd G A s.heap [(x0, .inr (5, [.ref q_1, .ref q_2, .null, .int (nI 0), .null, .null, .null, .null])), (q_1, .inr (4, [.ref t_sr_, .ref t_ss, .int (nI 4), .int (nI 4), .int (nI 0), .int (nI 5), .int (nI 1)])), (t_sr_, .inr (3, [.ref t_sra])), (t_sra, .inl (cI, 108, .inl (fun _ => 0))), (t_ss, .inl (cI, 81, .inl (fun _ => nI 1))), (q_2, .inr (4, [.ref t_jr0, .ref t_js0, .int (nI 4), .int (nI 4), .int (nI 0), .int (nI 5), .int (nI 1)])), (t_jr0, .inr (3, [.ref t_ja0])), (t_ja0, .inl (cI, 108, .inl (fun _ => 0))), (t_js0, .inl (cI, 81, .inl (fun _ => nI 1))), (q_3, .inr (4, [.ref t_jr1, .ref t_js1, .int (nI 4), .int (nI 4), .int (nI 0), .int (nI 5), .int (nI 1)])), (t_jr1, .inr (3, [.ref t_ja1])), (t_ja1, .inl (cI, 108, .inl (fun _ => 0))), (t_js1, .inl (cI, 81, .inl (fun _ => nI 1)))] H locs := hd
  refine st_all (st' := [.ref q_3, .ref x0]) rfl ?_
  refine W.widen (k := 12) (n := 591) (by decide) (by decide) ?_
  refine x_putF (C := RX5) (T := TX5) (N := 8) (ci := 5) (ty := (.object "SumsForAll$Setting")) 2 inT_X5 tyX5 tyX5_ok nmX5 rfl (by decide) lf_X5_19 rfl rfl (by decide +kernel) rfl hnm X hd 0 rfl rfl rfl (Nat.le_of_ble_eq_true rfl) dX5_init_34 (fun H locs hd => ?_)
  have hd : Hd G A s.heap [(x0, .inr (5, [.ref q_1, .ref q_2, .ref q_3, .int (nI 0), .null, .null, .null, .null])), (q_1, .inr (4, [.ref t_sr_, .ref t_ss, .int (nI 4), .int (nI 4), .int (nI 0), .int (nI 5), .int (nI 1)])), (t_sr_, .inr (3, [.ref t_sra])), (t_sra, .inl (cI, 108, .inl (fun _ => 0))), (t_ss, .inl (cI, 81, .inl (fun _ => nI 1))), (q_2, .inr (4, [.ref t_jr0, .ref t_js0, .int (nI 4), .int (nI 4), .int (nI 0), .int (nI 5), .int (nI 1)])), (t_jr0, .inr (3, [.ref t_ja0])), (t_ja0, .inl (cI, 108, .inl (fun _ => 0))), (t_js0, .inl (cI, 81, .inl (fun _ => nI 1))), (q_3, .inr (4, [.ref t_jr1, .ref t_js1, .int (nI 4), .int (nI 4), .int (nI 0), .int (nI 5), .int (nI 1)])), (t_jr1, .inr (3, [.ref t_ja1])), (t_ja1, .inl (cI, 108, .inl (fun _ => 0))), (t_js1, .inl (cI, 81, .inl (fun _ => nI 1)))] H locs := hd
  refine lv_aload_n hx hb dX5_init_37 rfl (lv_at hl 0 rfl) ?_
  refine lv_iconst (v := nI 0) hx hb dX5_init_38 (by decide) ?_
  refine x_put (C := RX5) (T := TX5) (N := 8) (ci := 5) (ty := .int) 3 inT_X5 tyX5 tyX5_ok nmX5 rfl (by decide) lf_X5_22 rfl rfl (by decide +kernel) X hd 0 rfl rfl rfl (Nat.le_of_ble_eq_true rfl) dX5_init_39 (fun H locs hd => ?_)
  have hd : Hd G A s.heap [(x0, .inr (5, [.ref q_1, .ref q_2, .ref q_3, .int (nI 0), .null, .null, .null, .null])), (q_1, .inr (4, [.ref t_sr_, .ref t_ss, .int (nI 4), .int (nI 4), .int (nI 0), .int (nI 5), .int (nI 1)])), (t_sr_, .inr (3, [.ref t_sra])), (t_sra, .inl (cI, 108, .inl (fun _ => 0))), (t_ss, .inl (cI, 81, .inl (fun _ => nI 1))), (q_2, .inr (4, [.ref t_jr0, .ref t_js0, .int (nI 4), .int (nI 4), .int (nI 0), .int (nI 5), .int (nI 1)])), (t_jr0, .inr (3, [.ref t_ja0])), (t_ja0, .inl (cI, 108, .inl (fun _ => 0))), (t_js0, .inl (cI, 81, .inl (fun _ => nI 1))), (q_3, .inr (4, [.ref t_jr1, .ref t_js1, .int (nI 4), .int (nI 4), .int (nI 0), .int (nI 5), .int (nI 1)])), (t_jr1, .inr (3, [.ref t_ja1])), (t_ja1, .inl (cI, 108, .inl (fun _ => 0))), (t_js1, .inl (cI, 81, .inl (fun _ => nI 1)))] H locs := hd
  refine lv_aload_n hx hb dX5_init_42 rfl (lv_at hl 0 rfl) ?_
  refine x_new (C := RX1) (T := TX1) (N := 7) (ci := 1) (fs := [.null, .int (nI 0), .int (nI 0), .int (nI 0), .int (nI 0), .null, .null]) inT_X1 tyX1 tyX1_ok lc_X5_26 w_inst_X1 w_ini_X1 rfl (fun j hj => by match j, hj with | 0, _ => rfl | 1, _ => rfl | 2, _ => rfl | 3, _ => rfl | 4, _ => rfl | 5, _ => rfl | 6, _ => rfl | n + 7, h => exact absurd h (by omega)) X hd hA (by decide) (by decide) dX5_init_43 (fun q_4 H hd => ?_)
  have hd : Hd G A s.heap [(x0, .inr (5, [.ref q_1, .ref q_2, .ref q_3, .int (nI 0), .null, .null, .null, .null])), (q_1, .inr (4, [.ref t_sr_, .ref t_ss, .int (nI 4), .int (nI 4), .int (nI 0), .int (nI 5), .int (nI 1)])), (t_sr_, .inr (3, [.ref t_sra])), (t_sra, .inl (cI, 108, .inl (fun _ => 0))), (t_ss, .inl (cI, 81, .inl (fun _ => nI 1))), (q_2, .inr (4, [.ref t_jr0, .ref t_js0, .int (nI 4), .int (nI 4), .int (nI 0), .int (nI 5), .int (nI 1)])), (t_jr0, .inr (3, [.ref t_ja0])), (t_ja0, .inl (cI, 108, .inl (fun _ => 0))), (t_js0, .inl (cI, 81, .inl (fun _ => nI 1))), (q_3, .inr (4, [.ref t_jr1, .ref t_js1, .int (nI 4), .int (nI 4), .int (nI 0), .int (nI 5), .int (nI 1)])), (t_jr1, .inr (3, [.ref t_ja1])), (t_ja1, .inl (cI, 108, .inl (fun _ => 0))), (t_js1, .inl (cI, 81, .inl (fun _ => nI 1))), (q_4, .inr (1, [.null, .int (nI 0), .int (nI 0), .int (nI 0), .int (nI 0), .null, .null]))] H locs := hd
  refine W.widen (k := 13) (n := 598) (by decide) (by decide) ?_
  refine lv_dup hx hb dX5_init_46 rfl ?_
  refine cM_IN (As := []) (rest := [.ref q_4, .ref x0]) (wr := [(x0, .inr (5, [.ref q_1, .ref q_2, .ref q_3, .int (nI 0), .null, .null, .null, .null])), (q_1, .inr (4, [.ref t_sr_, .ref t_ss, .int (nI 4), .int (nI 4), .int (nI 0), .int (nI 5), .int (nI 1)])), (t_sr_, .inr (3, [.ref t_sra])), (t_sra, .inl (cI, 108, .inl (fun _ => 0))), (t_ss, .inl (cI, 81, .inl (fun _ => nI 1))), (q_2, .inr (4, [.ref t_jr0, .ref t_js0, .int (nI 4), .int (nI 4), .int (nI 0), .int (nI 5), .int (nI 1)])), (t_jr0, .inr (3, [.ref t_ja0])), (t_ja0, .inl (cI, 108, .inl (fun _ => 0))), (t_js0, .inl (cI, 81, .inl (fun _ => nI 1))), (q_3, .inr (4, [.ref t_jr1, .ref t_js1, .int (nI 4), .int (nI 4), .int (nI 0), .int (nI 5), .int (nI 1)])), (t_jr1, .inr (3, [.ref t_ja1])), (t_ja1, .inl (cI, 108, .inl (fun _ => 0))), (t_js1, .inl (cI, 81, .inl (fun _ => nI 1)))]) X (c_X1_init l G cI cZ q_4 ) lk_X5_28 hd hA [13] [0, 1, 2, 3, 4, 5, 6, 7, 8, 9, 10, 11, 12] rfl rfl rfl rfl (by decide) hl.1 rfl rfl (Nat.le_of_ble_eq_true rfl) ⟨Nat.le_of_ble_eq_true rfl, Nat.le_of_ble_eq_true rfl⟩ ⟨Nat.le_of_ble_eq_true rfl, Nat.le_of_ble_eq_true rfl⟩ dX5_init_47 (fun v w1 H locs hp hd => ?_)
  obtain ⟨t_ht, t_qa, t_qb, rfl, rfl⟩ := hp
  have hd : Hd G A s.heap [(x0, .inr (5, [.ref q_1, .ref q_2, .ref q_3, .int (nI 0), .null, .null, .null, .null])), (q_1, .inr (4, [.ref t_sr_, .ref t_ss, .int (nI 4), .int (nI 4), .int (nI 0), .int (nI 5), .int (nI 1)])), (t_sr_, .inr (3, [.ref t_sra])), (t_sra, .inl (cI, 108, .inl (fun _ => 0))), (t_ss, .inl (cI, 81, .inl (fun _ => nI 1))), (q_2, .inr (4, [.ref t_jr0, .ref t_js0, .int (nI 4), .int (nI 4), .int (nI 0), .int (nI 5), .int (nI 1)])), (t_jr0, .inr (3, [.ref t_ja0])), (t_ja0, .inl (cI, 108, .inl (fun _ => 0))), (t_js0, .inl (cI, 81, .inl (fun _ => nI 1))), (q_3, .inr (4, [.ref t_jr1, .ref t_js1, .int (nI 4), .int (nI 4), .int (nI 0), .int (nI 5), .int (nI 1)])), (t_jr1, .inr (3, [.ref t_ja1])), (t_ja1, .inl (cI, 108, .inl (fun _ => 0))), (t_js1, .inl (cI, 81, .inl (fun _ => nI 1))), (q_4, .inr (1, [.ref t_ht, .int (nI 0), .int (nI 0), .int (nI 0), .int (nI 0), .ref t_qa, .ref t_qb])), (t_ht, .inl (cI, 864, .inl (fun _ => 0))), (t_qa, .inl (cI, 9, .inl (fun _ => 0))), (t_qb, .inl (cI, 9, .inl (fun _ => 0)))] H locs := hd
  refine st_all (st' := [.ref q_4, .ref x0]) rfl ?_
  refine W.widen (k := 16) (n := 1480) (by decide) (by decide) ?_
  refine x_putF (C := RX5) (T := TX5) (N := 8) (ci := 5) (ty := (.object "SumsForAll$Letters")) 4 inT_X5 tyX5 tyX5_ok nmX5 rfl (by decide) lf_X5_29 rfl rfl (by decide +kernel) rfl hnm X hd 0 rfl rfl rfl (Nat.le_of_ble_eq_true rfl) dX5_init_50 (fun H locs hd => ?_)
  have hd : Hd G A s.heap [(x0, .inr (5, [.ref q_1, .ref q_2, .ref q_3, .int (nI 0), .ref q_4, .null, .null, .null])), (q_1, .inr (4, [.ref t_sr_, .ref t_ss, .int (nI 4), .int (nI 4), .int (nI 0), .int (nI 5), .int (nI 1)])), (t_sr_, .inr (3, [.ref t_sra])), (t_sra, .inl (cI, 108, .inl (fun _ => 0))), (t_ss, .inl (cI, 81, .inl (fun _ => nI 1))), (q_2, .inr (4, [.ref t_jr0, .ref t_js0, .int (nI 4), .int (nI 4), .int (nI 0), .int (nI 5), .int (nI 1)])), (t_jr0, .inr (3, [.ref t_ja0])), (t_ja0, .inl (cI, 108, .inl (fun _ => 0))), (t_js0, .inl (cI, 81, .inl (fun _ => nI 1))), (q_3, .inr (4, [.ref t_jr1, .ref t_js1, .int (nI 4), .int (nI 4), .int (nI 0), .int (nI 5), .int (nI 1)])), (t_jr1, .inr (3, [.ref t_ja1])), (t_ja1, .inl (cI, 108, .inl (fun _ => 0))), (t_js1, .inl (cI, 81, .inl (fun _ => nI 1))), (q_4, .inr (1, [.ref t_ht, .int (nI 0), .int (nI 0), .int (nI 0), .int (nI 0), .ref t_qa, .ref t_qb])), (t_ht, .inl (cI, 864, .inl (fun _ => 0))), (t_qa, .inl (cI, 9, .inl (fun _ => 0))), (t_qb, .inl (cI, 9, .inl (fun _ => 0)))] H locs := hd
  refine lv_aload_n hx hb dX5_init_53 rfl (lv_at hl 0 rfl) ?_
  refine x_new (C := RX0) (T := TX0) (N := 4) (ci := 0) (fs := [.null, .null, .int (nI 0), .int (nI 0)]) inT_X0 tyX0 tyX0_ok lc_X5_33 w_inst_X0 w_ini_X0 rfl (fun j hj => by match j, hj with | 0, _ => rfl | 1, _ => rfl | 2, _ => rfl | 3, _ => rfl | n + 4, h => exact absurd h (by omega)) X hd hA (by decide) (by decide) dX5_init_54 (fun q_5 H hd => ?_)
  have hd : Hd G A s.heap [(x0, .inr (5, [.ref q_1, .ref q_2, .ref q_3, .int (nI 0), .ref q_4, .null, .null, .null])), (q_1, .inr (4, [.ref t_sr_, .ref t_ss, .int (nI 4), .int (nI 4), .int (nI 0), .int (nI 5), .int (nI 1)])), (t_sr_, .inr (3, [.ref t_sra])), (t_sra, .inl (cI, 108, .inl (fun _ => 0))), (t_ss, .inl (cI, 81, .inl (fun _ => nI 1))), (q_2, .inr (4, [.ref t_jr0, .ref t_js0, .int (nI 4), .int (nI 4), .int (nI 0), .int (nI 5), .int (nI 1)])), (t_jr0, .inr (3, [.ref t_ja0])), (t_ja0, .inl (cI, 108, .inl (fun _ => 0))), (t_js0, .inl (cI, 81, .inl (fun _ => nI 1))), (q_3, .inr (4, [.ref t_jr1, .ref t_js1, .int (nI 4), .int (nI 4), .int (nI 0), .int (nI 5), .int (nI 1)])), (t_jr1, .inr (3, [.ref t_ja1])), (t_ja1, .inl (cI, 108, .inl (fun _ => 0))), (t_js1, .inl (cI, 81, .inl (fun _ => nI 1))), (q_4, .inr (1, [.ref t_ht, .int (nI 0), .int (nI 0), .int (nI 0), .int (nI 0), .ref t_qa, .ref t_qb])), (t_ht, .inl (cI, 864, .inl (fun _ => 0))), (t_qa, .inl (cI, 9, .inl (fun _ => 0))), (t_qb, .inl (cI, 9, .inl (fun _ => 0))), (q_5, .inr (0, [.null, .null, .int (nI 0), .int (nI 0)]))] H locs := hd
  refine W.widen (k := 17) (n := 1484) (by decide) (by decide) ?_
  refine lv_dup hx hb dX5_init_57 rfl ?_
  refine cM_IN (As := []) (rest := [.ref q_5, .ref x0]) (wr := [(x0, .inr (5, [.ref q_1, .ref q_2, .ref q_3, .int (nI 0), .ref q_4, .null, .null, .null])), (q_1, .inr (4, [.ref t_sr_, .ref t_ss, .int (nI 4), .int (nI 4), .int (nI 0), .int (nI 5), .int (nI 1)])), (t_sr_, .inr (3, [.ref t_sra])), (t_sra, .inl (cI, 108, .inl (fun _ => 0))), (t_ss, .inl (cI, 81, .inl (fun _ => nI 1))), (q_2, .inr (4, [.ref t_jr0, .ref t_js0, .int (nI 4), .int (nI 4), .int (nI 0), .int (nI 5), .int (nI 1)])), (t_jr0, .inr (3, [.ref t_ja0])), (t_ja0, .inl (cI, 108, .inl (fun _ => 0))), (t_js0, .inl (cI, 81, .inl (fun _ => nI 1))), (q_3, .inr (4, [.ref t_jr1, .ref t_js1, .int (nI 4), .int (nI 4), .int (nI 0), .int (nI 5), .int (nI 1)])), (t_jr1, .inr (3, [.ref t_ja1])), (t_ja1, .inl (cI, 108, .inl (fun _ => 0))), (t_js1, .inl (cI, 81, .inl (fun _ => nI 1))), (q_4, .inr (1, [.ref t_ht, .int (nI 0), .int (nI 0), .int (nI 0), .int (nI 0), .ref t_qa, .ref t_qb])), (t_ht, .inl (cI, 864, .inl (fun _ => 0))), (t_qa, .inl (cI, 9, .inl (fun _ => 0))), (t_qb, .inl (cI, 9, .inl (fun _ => 0)))]) X (c_X0_init l G cI cZ q_5 ) lk_X5_35 hd hA [17] [0, 1, 2, 3, 4, 5, 6, 7, 8, 9, 10, 11, 12, 13, 14, 15, 16] rfl rfl rfl rfl (by decide) hl.1 rfl rfl (Nat.le_of_ble_eq_true rfl) ⟨Nat.le_of_ble_eq_true rfl, Nat.le_of_ble_eq_true rfl⟩ ⟨Nat.le_of_ble_eq_true rfl, Nat.le_of_ble_eq_true rfl⟩ dX5_init_58 (fun v w1 H locs hp hd => ?_)
  obtain ⟨t_br, t_bq, rfl, rfl⟩ := hp
  have hd : Hd G A s.heap [(x0, .inr (5, [.ref q_1, .ref q_2, .ref q_3, .int (nI 0), .ref q_4, .null, .null, .null])), (q_1, .inr (4, [.ref t_sr_, .ref t_ss, .int (nI 4), .int (nI 4), .int (nI 0), .int (nI 5), .int (nI 1)])), (t_sr_, .inr (3, [.ref t_sra])), (t_sra, .inl (cI, 108, .inl (fun _ => 0))), (t_ss, .inl (cI, 81, .inl (fun _ => nI 1))), (q_2, .inr (4, [.ref t_jr0, .ref t_js0, .int (nI 4), .int (nI 4), .int (nI 0), .int (nI 5), .int (nI 1)])), (t_jr0, .inr (3, [.ref t_ja0])), (t_ja0, .inl (cI, 108, .inl (fun _ => 0))), (t_js0, .inl (cI, 81, .inl (fun _ => nI 1))), (q_3, .inr (4, [.ref t_jr1, .ref t_js1, .int (nI 4), .int (nI 4), .int (nI 0), .int (nI 5), .int (nI 1)])), (t_jr1, .inr (3, [.ref t_ja1])), (t_ja1, .inl (cI, 108, .inl (fun _ => 0))), (t_js1, .inl (cI, 81, .inl (fun _ => nI 1))), (q_4, .inr (1, [.ref t_ht, .int (nI 0), .int (nI 0), .int (nI 0), .int (nI 0), .ref t_qa, .ref t_qb])), (t_ht, .inl (cI, 864, .inl (fun _ => 0))), (t_qa, .inl (cI, 9, .inl (fun _ => 0))), (t_qb, .inl (cI, 9, .inl (fun _ => 0))), (q_5, .inr (0, [.ref t_br, .ref t_bq, .int (nI 0), .int (nI 0)])), (t_br, .inl (cI, 9, .inl (fun _ => 0))), (t_bq, .inl (cI, 9, .inl (fun _ => 0)))] H locs := hd
  refine st_all (st' := [.ref q_5, .ref x0]) rfl ?_
  refine W.widen (k := 19) (n := 1502) (by decide) (by decide) ?_
  refine x_putF (C := RX5) (T := TX5) (N := 8) (ci := 5) (ty := (.object "SumsForAll$Busy")) 5 inT_X5 tyX5 tyX5_ok nmX5 rfl (by decide) lf_X5_36 rfl rfl (by decide +kernel) rfl hnm X hd 0 rfl rfl rfl (Nat.le_of_ble_eq_true rfl) dX5_init_61 (fun H locs hd => ?_)
  have hd : Hd G A s.heap [(x0, .inr (5, [.ref q_1, .ref q_2, .ref q_3, .int (nI 0), .ref q_4, .ref q_5, .null, .null])), (q_1, .inr (4, [.ref t_sr_, .ref t_ss, .int (nI 4), .int (nI 4), .int (nI 0), .int (nI 5), .int (nI 1)])), (t_sr_, .inr (3, [.ref t_sra])), (t_sra, .inl (cI, 108, .inl (fun _ => 0))), (t_ss, .inl (cI, 81, .inl (fun _ => nI 1))), (q_2, .inr (4, [.ref t_jr0, .ref t_js0, .int (nI 4), .int (nI 4), .int (nI 0), .int (nI 5), .int (nI 1)])), (t_jr0, .inr (3, [.ref t_ja0])), (t_ja0, .inl (cI, 108, .inl (fun _ => 0))), (t_js0, .inl (cI, 81, .inl (fun _ => nI 1))), (q_3, .inr (4, [.ref t_jr1, .ref t_js1, .int (nI 4), .int (nI 4), .int (nI 0), .int (nI 5), .int (nI 1)])), (t_jr1, .inr (3, [.ref t_ja1])), (t_ja1, .inl (cI, 108, .inl (fun _ => 0))), (t_js1, .inl (cI, 81, .inl (fun _ => nI 1))), (q_4, .inr (1, [.ref t_ht, .int (nI 0), .int (nI 0), .int (nI 0), .int (nI 0), .ref t_qa, .ref t_qb])), (t_ht, .inl (cI, 864, .inl (fun _ => 0))), (t_qa, .inl (cI, 9, .inl (fun _ => 0))), (t_qb, .inl (cI, 9, .inl (fun _ => 0))), (q_5, .inr (0, [.ref t_br, .ref t_bq, .int (nI 0), .int (nI 0)])), (t_br, .inl (cI, 9, .inl (fun _ => 0))), (t_bq, .inl (cI, 9, .inl (fun _ => 0)))] H locs := hd
  refine lv_aload_n hx hb dX5_init_64 rfl (lv_at hl 0 rfl) ?_
  refine x_new (C := RX2) (T := TX2) (N := 2) (ci := 2) (fs := [.null, .null]) inT_X2 tyX2 tyX2_ok lc_X5_40 w_inst_X2 w_ini_X2 rfl (fun j hj => by match j, hj with | 0, _ => rfl | 1, _ => rfl | n + 2, h => exact absurd h (by omega)) X hd hA (by decide) (by decide) dX5_init_65 (fun q_6 H hd => ?_)
  have hd : Hd G A s.heap [(x0, .inr (5, [.ref q_1, .ref q_2, .ref q_3, .int (nI 0), .ref q_4, .ref q_5, .null, .null])), (q_1, .inr (4, [.ref t_sr_, .ref t_ss, .int (nI 4), .int (nI 4), .int (nI 0), .int (nI 5), .int (nI 1)])), (t_sr_, .inr (3, [.ref t_sra])), (t_sra, .inl (cI, 108, .inl (fun _ => 0))), (t_ss, .inl (cI, 81, .inl (fun _ => nI 1))), (q_2, .inr (4, [.ref t_jr0, .ref t_js0, .int (nI 4), .int (nI 4), .int (nI 0), .int (nI 5), .int (nI 1)])), (t_jr0, .inr (3, [.ref t_ja0])), (t_ja0, .inl (cI, 108, .inl (fun _ => 0))), (t_js0, .inl (cI, 81, .inl (fun _ => nI 1))), (q_3, .inr (4, [.ref t_jr1, .ref t_js1, .int (nI 4), .int (nI 4), .int (nI 0), .int (nI 5), .int (nI 1)])), (t_jr1, .inr (3, [.ref t_ja1])), (t_ja1, .inl (cI, 108, .inl (fun _ => 0))), (t_js1, .inl (cI, 81, .inl (fun _ => nI 1))), (q_4, .inr (1, [.ref t_ht, .int (nI 0), .int (nI 0), .int (nI 0), .int (nI 0), .ref t_qa, .ref t_qb])), (t_ht, .inl (cI, 864, .inl (fun _ => 0))), (t_qa, .inl (cI, 9, .inl (fun _ => 0))), (t_qb, .inl (cI, 9, .inl (fun _ => 0))), (q_5, .inr (0, [.ref t_br, .ref t_bq, .int (nI 0), .int (nI 0)])), (t_br, .inl (cI, 9, .inl (fun _ => 0))), (t_bq, .inl (cI, 9, .inl (fun _ => 0))), (q_6, .inr (2, [.null, .null]))] H locs := hd
  refine W.widen (k := 20) (n := 1504) (by decide) (by decide) ?_
  refine lv_dup hx hb dX5_init_68 rfl ?_
  refine cM_IN (As := []) (rest := [.ref q_6, .ref x0]) (wr := [(x0, .inr (5, [.ref q_1, .ref q_2, .ref q_3, .int (nI 0), .ref q_4, .ref q_5, .null, .null])), (q_1, .inr (4, [.ref t_sr_, .ref t_ss, .int (nI 4), .int (nI 4), .int (nI 0), .int (nI 5), .int (nI 1)])), (t_sr_, .inr (3, [.ref t_sra])), (t_sra, .inl (cI, 108, .inl (fun _ => 0))), (t_ss, .inl (cI, 81, .inl (fun _ => nI 1))), (q_2, .inr (4, [.ref t_jr0, .ref t_js0, .int (nI 4), .int (nI 4), .int (nI 0), .int (nI 5), .int (nI 1)])), (t_jr0, .inr (3, [.ref t_ja0])), (t_ja0, .inl (cI, 108, .inl (fun _ => 0))), (t_js0, .inl (cI, 81, .inl (fun _ => nI 1))), (q_3, .inr (4, [.ref t_jr1, .ref t_js1, .int (nI 4), .int (nI 4), .int (nI 0), .int (nI 5), .int (nI 1)])), (t_jr1, .inr (3, [.ref t_ja1])), (t_ja1, .inl (cI, 108, .inl (fun _ => 0))), (t_js1, .inl (cI, 81, .inl (fun _ => nI 1))), (q_4, .inr (1, [.ref t_ht, .int (nI 0), .int (nI 0), .int (nI 0), .int (nI 0), .ref t_qa, .ref t_qb])), (t_ht, .inl (cI, 864, .inl (fun _ => 0))), (t_qa, .inl (cI, 9, .inl (fun _ => 0))), (t_qb, .inl (cI, 9, .inl (fun _ => 0))), (q_5, .inr (0, [.ref t_br, .ref t_bq, .int (nI 0), .int (nI 0)])), (t_br, .inl (cI, 9, .inl (fun _ => 0))), (t_bq, .inl (cI, 9, .inl (fun _ => 0)))]) X (c_X2_init l G cI cZ q_6 ) lk_X5_42 hd hA [20] [0, 1, 2, 3, 4, 5, 6, 7, 8, 9, 10, 11, 12, 13, 14, 15, 16, 17, 18, 19] rfl rfl rfl rfl (by decide) hl.1 rfl rfl (Nat.le_of_ble_eq_true rfl) ⟨Nat.le_of_ble_eq_true rfl, Nat.le_of_ble_eq_true rfl⟩ ⟨Nat.le_of_ble_eq_true rfl, Nat.le_of_ble_eq_true rfl⟩ dX5_init_69 (fun v w1 H locs hp hd => ?_)
  obtain ⟨t_ur, t_ur1, t_ub, t_ub1, rfl, rfl⟩ := hp
  have hd : Hd G A s.heap [(x0, .inr (5, [.ref q_1, .ref q_2, .ref q_3, .int (nI 0), .ref q_4, .ref q_5, .null, .null])), (q_1, .inr (4, [.ref t_sr_, .ref t_ss, .int (nI 4), .int (nI 4), .int (nI 0), .int (nI 5), .int (nI 1)])), (t_sr_, .inr (3, [.ref t_sra])), (t_sra, .inl (cI, 108, .inl (fun _ => 0))), (t_ss, .inl (cI, 81, .inl (fun _ => nI 1))), (q_2, .inr (4, [.ref t_jr0, .ref t_js0, .int (nI 4), .int (nI 4), .int (nI 0), .int (nI 5), .int (nI 1)])), (t_jr0, .inr (3, [.ref t_ja0])), (t_ja0, .inl (cI, 108, .inl (fun _ => 0))), (t_js0, .inl (cI, 81, .inl (fun _ => nI 1))), (q_3, .inr (4, [.ref t_jr1, .ref t_js1, .int (nI 4), .int (nI 4), .int (nI 0), .int (nI 5), .int (nI 1)])), (t_jr1, .inr (3, [.ref t_ja1])), (t_ja1, .inl (cI, 108, .inl (fun _ => 0))), (t_js1, .inl (cI, 81, .inl (fun _ => nI 1))), (q_4, .inr (1, [.ref t_ht, .int (nI 0), .int (nI 0), .int (nI 0), .int (nI 0), .ref t_qa, .ref t_qb])), (t_ht, .inl (cI, 864, .inl (fun _ => 0))), (t_qa, .inl (cI, 9, .inl (fun _ => 0))), (t_qb, .inl (cI, 9, .inl (fun _ => 0))), (q_5, .inr (0, [.ref t_br, .ref t_bq, .int (nI 0), .int (nI 0)])), (t_br, .inl (cI, 9, .inl (fun _ => 0))), (t_bq, .inl (cI, 9, .inl (fun _ => 0))), (q_6, .inr (2, [.ref t_ur, .ref t_ub])), (t_ur, .inr (3, [.ref t_ur1])), (t_ur1, .inl (cI, 108, .inl (fun _ => 0))), (t_ub, .inr (3, [.ref t_ub1])), (t_ub1, .inl (cI, 108, .inl (fun _ => 0)))] H locs := hd
  refine st_all (st' := [.ref q_6, .ref x0]) rfl ?_
  refine W.widen (k := 24) (n := 1722) (by decide) (by decide) ?_
  refine x_putF (C := RX5) (T := TX5) (N := 8) (ci := 5) (ty := (.object "SumsForAll$Play")) 6 inT_X5 tyX5 tyX5_ok nmX5 rfl (by decide) lf_X5_43 rfl rfl (by decide +kernel) rfl hnm X hd 0 rfl rfl rfl (Nat.le_of_ble_eq_true rfl) dX5_init_72 (fun H locs hd => ?_)
  have hd : Hd G A s.heap [(x0, .inr (5, [.ref q_1, .ref q_2, .ref q_3, .int (nI 0), .ref q_4, .ref q_5, .ref q_6, .null])), (q_1, .inr (4, [.ref t_sr_, .ref t_ss, .int (nI 4), .int (nI 4), .int (nI 0), .int (nI 5), .int (nI 1)])), (t_sr_, .inr (3, [.ref t_sra])), (t_sra, .inl (cI, 108, .inl (fun _ => 0))), (t_ss, .inl (cI, 81, .inl (fun _ => nI 1))), (q_2, .inr (4, [.ref t_jr0, .ref t_js0, .int (nI 4), .int (nI 4), .int (nI 0), .int (nI 5), .int (nI 1)])), (t_jr0, .inr (3, [.ref t_ja0])), (t_ja0, .inl (cI, 108, .inl (fun _ => 0))), (t_js0, .inl (cI, 81, .inl (fun _ => nI 1))), (q_3, .inr (4, [.ref t_jr1, .ref t_js1, .int (nI 4), .int (nI 4), .int (nI 0), .int (nI 5), .int (nI 1)])), (t_jr1, .inr (3, [.ref t_ja1])), (t_ja1, .inl (cI, 108, .inl (fun _ => 0))), (t_js1, .inl (cI, 81, .inl (fun _ => nI 1))), (q_4, .inr (1, [.ref t_ht, .int (nI 0), .int (nI 0), .int (nI 0), .int (nI 0), .ref t_qa, .ref t_qb])), (t_ht, .inl (cI, 864, .inl (fun _ => 0))), (t_qa, .inl (cI, 9, .inl (fun _ => 0))), (t_qb, .inl (cI, 9, .inl (fun _ => 0))), (q_5, .inr (0, [.ref t_br, .ref t_bq, .int (nI 0), .int (nI 0)])), (t_br, .inl (cI, 9, .inl (fun _ => 0))), (t_bq, .inl (cI, 9, .inl (fun _ => 0))), (q_6, .inr (2, [.ref t_ur, .ref t_ub])), (t_ur, .inr (3, [.ref t_ur1])), (t_ur1, .inl (cI, 108, .inl (fun _ => 0))), (t_ub, .inr (3, [.ref t_ub1])), (t_ub1, .inl (cI, 108, .inl (fun _ => 0)))] H locs := hd
  refine lv_aload_n hx hb dX5_init_75 rfl (lv_at hl 0 rfl) ?_
  refine x_new (C := RX2) (T := TX2) (N := 2) (ci := 2) (fs := [.null, .null]) inT_X2 tyX2 tyX2_ok lc_X5_40 w_inst_X2 w_ini_X2 rfl (fun j hj => by match j, hj with | 0, _ => rfl | 1, _ => rfl | n + 2, h => exact absurd h (by omega)) X hd hA (by decide) (by decide) dX5_init_76 (fun q_7 H hd => ?_)
  have hd : Hd G A s.heap [(x0, .inr (5, [.ref q_1, .ref q_2, .ref q_3, .int (nI 0), .ref q_4, .ref q_5, .ref q_6, .null])), (q_1, .inr (4, [.ref t_sr_, .ref t_ss, .int (nI 4), .int (nI 4), .int (nI 0), .int (nI 5), .int (nI 1)])), (t_sr_, .inr (3, [.ref t_sra])), (t_sra, .inl (cI, 108, .inl (fun _ => 0))), (t_ss, .inl (cI, 81, .inl (fun _ => nI 1))), (q_2, .inr (4, [.ref t_jr0, .ref t_js0, .int (nI 4), .int (nI 4), .int (nI 0), .int (nI 5), .int (nI 1)])), (t_jr0, .inr (3, [.ref t_ja0])), (t_ja0, .inl (cI, 108, .inl (fun _ => 0))), (t_js0, .inl (cI, 81, .inl (fun _ => nI 1))), (q_3, .inr (4, [.ref t_jr1, .ref t_js1, .int (nI 4), .int (nI 4), .int (nI 0), .int (nI 5), .int (nI 1)])), (t_jr1, .inr (3, [.ref t_ja1])), (t_ja1, .inl (cI, 108, .inl (fun _ => 0))), (t_js1, .inl (cI, 81, .inl (fun _ => nI 1))), (q_4, .inr (1, [.ref t_ht, .int (nI 0), .int (nI 0), .int (nI 0), .int (nI 0), .ref t_qa, .ref t_qb])), (t_ht, .inl (cI, 864, .inl (fun _ => 0))), (t_qa, .inl (cI, 9, .inl (fun _ => 0))), (t_qb, .inl (cI, 9, .inl (fun _ => 0))), (q_5, .inr (0, [.ref t_br, .ref t_bq, .int (nI 0), .int (nI 0)])), (t_br, .inl (cI, 9, .inl (fun _ => 0))), (t_bq, .inl (cI, 9, .inl (fun _ => 0))), (q_6, .inr (2, [.ref t_ur, .ref t_ub])), (t_ur, .inr (3, [.ref t_ur1])), (t_ur1, .inl (cI, 108, .inl (fun _ => 0))), (t_ub, .inr (3, [.ref t_ub1])), (t_ub1, .inl (cI, 108, .inl (fun _ => 0))), (q_7, .inr (2, [.null, .null]))] H locs := hd
  refine W.widen (k := 25) (n := 1724) (by decide) (by decide) ?_
  refine lv_dup hx hb dX5_init_79 rfl ?_
  refine cM_IN (As := []) (rest := [.ref q_7, .ref x0]) (wr := [(x0, .inr (5, [.ref q_1, .ref q_2, .ref q_3, .int (nI 0), .ref q_4, .ref q_5, .ref q_6, .null])), (q_1, .inr (4, [.ref t_sr_, .ref t_ss, .int (nI 4), .int (nI 4), .int (nI 0), .int (nI 5), .int (nI 1)])), (t_sr_, .inr (3, [.ref t_sra])), (t_sra, .inl (cI, 108, .inl (fun _ => 0))), (t_ss, .inl (cI, 81, .inl (fun _ => nI 1))), (q_2, .inr (4, [.ref t_jr0, .ref t_js0, .int (nI 4), .int (nI 4), .int (nI 0), .int (nI 5), .int (nI 1)])), (t_jr0, .inr (3, [.ref t_ja0])), (t_ja0, .inl (cI, 108, .inl (fun _ => 0))), (t_js0, .inl (cI, 81, .inl (fun _ => nI 1))), (q_3, .inr (4, [.ref t_jr1, .ref t_js1, .int (nI 4), .int (nI 4), .int (nI 0), .int (nI 5), .int (nI 1)])), (t_jr1, .inr (3, [.ref t_ja1])), (t_ja1, .inl (cI, 108, .inl (fun _ => 0))), (t_js1, .inl (cI, 81, .inl (fun _ => nI 1))), (q_4, .inr (1, [.ref t_ht, .int (nI 0), .int (nI 0), .int (nI 0), .int (nI 0), .ref t_qa, .ref t_qb])), (t_ht, .inl (cI, 864, .inl (fun _ => 0))), (t_qa, .inl (cI, 9, .inl (fun _ => 0))), (t_qb, .inl (cI, 9, .inl (fun _ => 0))), (q_5, .inr (0, [.ref t_br, .ref t_bq, .int (nI 0), .int (nI 0)])), (t_br, .inl (cI, 9, .inl (fun _ => 0))), (t_bq, .inl (cI, 9, .inl (fun _ => 0))), (q_6, .inr (2, [.ref t_ur, .ref t_ub])), (t_ur, .inr (3, [.ref t_ur1])), (t_ur1, .inl (cI, 108, .inl (fun _ => 0))), (t_ub, .inr (3, [.ref t_ub1])), (t_ub1, .inl (cI, 108, .inl (fun _ => 0)))]) X (c_X2_init l G cI cZ q_7 ) lk_X5_42 hd hA [25] [0, 1, 2, 3, 4, 5, 6, 7, 8, 9, 10, 11, 12, 13, 14, 15, 16, 17, 18, 19, 20, 21, 22, 23, 24] rfl rfl rfl rfl (by decide) hl.1 rfl rfl (Nat.le_of_ble_eq_true rfl) ⟨Nat.le_of_ble_eq_true rfl, Nat.le_of_ble_eq_true rfl⟩ ⟨Nat.le_of_ble_eq_true rfl, Nat.le_of_ble_eq_true rfl⟩ dX5_init_80 (fun v w1 H locs hp hd => ?_)
  obtain ⟨t_vr, t_vr1, t_vb, t_vb1, rfl, rfl⟩ := hp
  have hd : Hd G A s.heap [(x0, .inr (5, [.ref q_1, .ref q_2, .ref q_3, .int (nI 0), .ref q_4, .ref q_5, .ref q_6, .null])), (q_1, .inr (4, [.ref t_sr_, .ref t_ss, .int (nI 4), .int (nI 4), .int (nI 0), .int (nI 5), .int (nI 1)])), (t_sr_, .inr (3, [.ref t_sra])), (t_sra, .inl (cI, 108, .inl (fun _ => 0))), (t_ss, .inl (cI, 81, .inl (fun _ => nI 1))), (q_2, .inr (4, [.ref t_jr0, .ref t_js0, .int (nI 4), .int (nI 4), .int (nI 0), .int (nI 5), .int (nI 1)])), (t_jr0, .inr (3, [.ref t_ja0])), (t_ja0, .inl (cI, 108, .inl (fun _ => 0))), (t_js0, .inl (cI, 81, .inl (fun _ => nI 1))), (q_3, .inr (4, [.ref t_jr1, .ref t_js1, .int (nI 4), .int (nI 4), .int (nI 0), .int (nI 5), .int (nI 1)])), (t_jr1, .inr (3, [.ref t_ja1])), (t_ja1, .inl (cI, 108, .inl (fun _ => 0))), (t_js1, .inl (cI, 81, .inl (fun _ => nI 1))), (q_4, .inr (1, [.ref t_ht, .int (nI 0), .int (nI 0), .int (nI 0), .int (nI 0), .ref t_qa, .ref t_qb])), (t_ht, .inl (cI, 864, .inl (fun _ => 0))), (t_qa, .inl (cI, 9, .inl (fun _ => 0))), (t_qb, .inl (cI, 9, .inl (fun _ => 0))), (q_5, .inr (0, [.ref t_br, .ref t_bq, .int (nI 0), .int (nI 0)])), (t_br, .inl (cI, 9, .inl (fun _ => 0))), (t_bq, .inl (cI, 9, .inl (fun _ => 0))), (q_6, .inr (2, [.ref t_ur, .ref t_ub])), (t_ur, .inr (3, [.ref t_ur1])), (t_ur1, .inl (cI, 108, .inl (fun _ => 0))), (t_ub, .inr (3, [.ref t_ub1])), (t_ub1, .inl (cI, 108, .inl (fun _ => 0))), (q_7, .inr (2, [.ref t_vr, .ref t_vb])), (t_vr, .inr (3, [.ref t_vr1])), (t_vr1, .inl (cI, 108, .inl (fun _ => 0))), (t_vb, .inr (3, [.ref t_vb1])), (t_vb1, .inl (cI, 108, .inl (fun _ => 0)))] H locs := hd
  refine st_all (st' := [.ref q_7, .ref x0]) rfl ?_
  refine W.widen (k := 29) (n := 1942) (by decide) (by decide) ?_
  refine x_putF (C := RX5) (T := TX5) (N := 8) (ci := 5) (ty := (.object "SumsForAll$Play")) 7 inT_X5 tyX5 tyX5_ok nmX5 rfl (by decide) lf_X5_47 rfl rfl (by decide +kernel) rfl hnm X hd 0 rfl rfl rfl (Nat.le_of_ble_eq_true rfl) dX5_init_83 (fun H locs hd => ?_)
  have hd : Hd G A s.heap [(x0, .inr (5, [.ref q_1, .ref q_2, .ref q_3, .int (nI 0), .ref q_4, .ref q_5, .ref q_6, .ref q_7])), (q_1, .inr (4, [.ref t_sr_, .ref t_ss, .int (nI 4), .int (nI 4), .int (nI 0), .int (nI 5), .int (nI 1)])), (t_sr_, .inr (3, [.ref t_sra])), (t_sra, .inl (cI, 108, .inl (fun _ => 0))), (t_ss, .inl (cI, 81, .inl (fun _ => nI 1))), (q_2, .inr (4, [.ref t_jr0, .ref t_js0, .int (nI 4), .int (nI 4), .int (nI 0), .int (nI 5), .int (nI 1)])), (t_jr0, .inr (3, [.ref t_ja0])), (t_ja0, .inl (cI, 108, .inl (fun _ => 0))), (t_js0, .inl (cI, 81, .inl (fun _ => nI 1))), (q_3, .inr (4, [.ref t_jr1, .ref t_js1, .int (nI 4), .int (nI 4), .int (nI 0), .int (nI 5), .int (nI 1)])), (t_jr1, .inr (3, [.ref t_ja1])), (t_ja1, .inl (cI, 108, .inl (fun _ => 0))), (t_js1, .inl (cI, 81, .inl (fun _ => nI 1))), (q_4, .inr (1, [.ref t_ht, .int (nI 0), .int (nI 0), .int (nI 0), .int (nI 0), .ref t_qa, .ref t_qb])), (t_ht, .inl (cI, 864, .inl (fun _ => 0))), (t_qa, .inl (cI, 9, .inl (fun _ => 0))), (t_qb, .inl (cI, 9, .inl (fun _ => 0))), (q_5, .inr (0, [.ref t_br, .ref t_bq, .int (nI 0), .int (nI 0)])), (t_br, .inl (cI, 9, .inl (fun _ => 0))), (t_bq, .inl (cI, 9, .inl (fun _ => 0))), (q_6, .inr (2, [.ref t_ur, .ref t_ub])), (t_ur, .inr (3, [.ref t_ur1])), (t_ur1, .inl (cI, 108, .inl (fun _ => 0))), (t_ub, .inr (3, [.ref t_ub1])), (t_ub1, .inl (cI, 108, .inl (fun _ => 0))), (q_7, .inr (2, [.ref t_vr, .ref t_vb])), (t_vr, .inr (3, [.ref t_vr1])), (t_vr1, .inl (cI, 108, .inl (fun _ => 0))), (t_vb, .inr (3, [.ref t_vb1])), (t_vb1, .inl (cI, 108, .inl (fun _ => 0)))] H locs := hd
  refine W.widen (k := 29) (n := 1942) (by decide) (by decide) ?_
  exact (fin _ _ [(x0, .inr (5, [.ref q_1, .ref q_2, .ref q_3, .int (nI 0), .ref q_4, .ref q_5, .ref q_6, .ref q_7])), (q_1, .inr (4, [.ref t_sr_, .ref t_ss, .int (nI 4), .int (nI 4), .int (nI 0), .int (nI 5), .int (nI 1)])), (t_sr_, .inr (3, [.ref t_sra])), (t_sra, .inl (cI, 108, .inl (fun _ => 0))), (t_ss, .inl (cI, 81, .inl (fun _ => nI 1))), (q_2, .inr (4, [.ref t_jr0, .ref t_js0, .int (nI 4), .int (nI 4), .int (nI 0), .int (nI 5), .int (nI 1)])), (t_jr0, .inr (3, [.ref t_ja0])), (t_ja0, .inl (cI, 108, .inl (fun _ => 0))), (t_js0, .inl (cI, 81, .inl (fun _ => nI 1))), (q_3, .inr (4, [.ref t_jr1, .ref t_js1, .int (nI 4), .int (nI 4), .int (nI 0), .int (nI 5), .int (nI 1)])), (t_jr1, .inr (3, [.ref t_ja1])), (t_ja1, .inl (cI, 108, .inl (fun _ => 0))), (t_js1, .inl (cI, 81, .inl (fun _ => nI 1))), (q_4, .inr (1, [.ref t_ht, .int (nI 0), .int (nI 0), .int (nI 0), .int (nI 0), .ref t_qa, .ref t_qb])), (t_ht, .inl (cI, 864, .inl (fun _ => 0))), (t_qa, .inl (cI, 9, .inl (fun _ => 0))), (t_qb, .inl (cI, 9, .inl (fun _ => 0))), (q_5, .inr (0, [.ref t_br, .ref t_bq, .int (nI 0), .int (nI 0)])), (t_br, .inl (cI, 9, .inl (fun _ => 0))), (t_bq, .inl (cI, 9, .inl (fun _ => 0))), (q_6, .inr (2, [.ref t_ur, .ref t_ub])), (t_ur, .inr (3, [.ref t_ur1])), (t_ur1, .inl (cI, 108, .inl (fun _ => 0))), (t_ub, .inr (3, [.ref t_ub1])), (t_ub1, .inl (cI, 108, .inl (fun _ => 0))), (q_7, .inr (2, [.ref t_vr, .ref t_vb])), (t_vr, .inr (3, [.ref t_vr1])), (t_vr1, .inl (cI, 108, .inl (fun _ => 0))), (t_vb, .inr (3, [.ref t_vb1])), (t_vb1, .inl (cI, 108, .inl (fun _ => 0)))] _ _ (hd.sub [0, 1, 2, 3, 4, 5, 6, 7, 8, 9, 10, 11, 12, 13, 14, 15, 16, 17, 18, 19, 20, 21, 22, 23, 24, 25, 26, 27, 28, 29] rfl rfl)).1 rfl ⟨q_1, t_sr_, t_sra, t_ss, q_2, t_jr0, t_ja0, t_js0, q_3, t_jr1, t_ja1, t_js1, q_4, t_ht, t_qa, t_qb, q_5, t_br, t_bq, q_6, t_ur, t_ur1, t_ub, t_ub1, q_7, t_vr, t_vr1, t_vb, t_vb1, rfl, rfl⟩ dX5_init_86
