set_option maxHeartbeats 4000000 in
set_option maxRecDepth 100000 in
theorem c_X1_writeHalves (l : Launch) (G : va_G) (cI cZ : ClassId) (h0 : Nat) (ht : Nat) (qa : Nat) (qb : Nat) (ln : Nat) (lz : Nat) (tb0 : Nat → Int32) (sa0 : Nat → Int32) (sb0 : Nat → Int32) (hn : 2 ≤ ln) (hn9 : ln ≤ 9) (hz : lz ≤ 99) : CM l G cI cZ yX1_writeHalves cX1_writeHalves 3 none 2 52 0 0 [.ref h0] [(h0, .inr (1, [.ref ht, .int (nI 0), .int (nI 0), .int (nI ln), .int (nI lz), .ref qa, .ref qb])), (ht, .inl (cI, 864, .inl tb0)), (qa, .inl (cI, 9, .inl sa0)), (qb, .inl (cI, 9, .inl sb0))] (fun ov_ wv_ => ∃ tb2 : Nat → Int32, ∃ sa2 : Nat → Int32, ∃ sb2 : Nat → Int32, ov_ = none ∧ wv_ = [(h0, .inr (1, [.ref ht, .int (nI ((LHalf ln lz).length)), .int (nI (rd0 ln + lg2 (gp2 ln) + lg2 (gp2 ln) + rd0 ln)), .int (nI ln), .int (nI lz), .ref qa, .ref qb])), (ht, .inl (cI, 864, .inl tb2)), (qa, .inl (cI, 9, .inl sa2)), (qb, .inl (cI, 9, .inl sb2))] ∧ (LTc tb2 (LHalf ln lz))) := by
  have hP := gp2_or ln
  have hPl := gp2_le hn
  have hK3 := lg2_le (gp2 ln)
  have hP8 : gp2 ln ≤ 8 := by omega
  refine CM.of (own := RX1) (by decide) rfl (Nat.le_of_ble_eq_true rfl) ?_
  intro p e R s m args below meth c Q A X hR hret hnm hA fin hd ls hl
  subst hR
  have hx := X.1
  have hb := X.2.1
  have hl : lv_has ls 3 [(0, .ref h0)] := hl
  refine lv_aload_n hx hb dX1_writeHalves_0 rfl (lv_at hl 0 rfl) ?_
-- NOTE pc 1: cell (h0, .inr (1, [.ref ht, .int (nI 0), .int (nI 0), .int (nI ln), .int (nI lz), .ref qa, .ref qb])) for (h0, .inr (1, [.ref ht, .int (nI (([] : List (List Nat)).length)), .int (nI 0), .int (nI ln), .int (nI lz), .ref qa, .ref qb]))
  refine cR_V (As := []) (rest := []) X (c_X1_greatestPowerOfTwo l G cI cZ h0 ht qa qb 0 ln lz ([] : List (List Nat)) (by first | assumption | omega) (by first | assumption | omega)) lk_X1_81 (hd.1.sub (ws' := [(h0, .inr (1, [.ref ht, .int (nI 0), .int (nI 0), .int (nI ln), .int (nI lz), .ref qa, .ref qb]))]) [0] rfl) rfl rfl hl.1 rfl rfl (Nat.le_of_ble_eq_true rfl) ⟨Nat.le_of_ble_eq_true rfl, Nat.le_of_ble_eq_true rfl⟩ ⟨Nat.le_of_ble_eq_true rfl, Nat.le_of_ble_eq_true rfl⟩ dX1_writeHalves_1 ?_
  refine lv_istore_n (lv' := [(1, .int (nI (gp2 ln))), (0, .ref h0)]) hx hb dX1_writeHalves_4 rfl hl (by decide) rfl (fun ls hl => ?_)
  have J42 : ∀ (tb : Nat → Int32), (LTc tb (hA0 ln lz)) → ∀ (H : Heap) (locs : List Loc), Hd G A s.heap [(h0, .inr (1, [.ref ht, .int (nI ((hA0 ln lz).length)), .int (nI (rd0 ln)), .int (nI ln), .int (nI lz), .ref qa, .ref qb])), (ht, .inl (cI, 864, .inl tb)), (qa, .inl (cI, 9, .inl sa0)), (qb, .inl (cI, 9, .inl sb0))] H locs → ∀ (ls : Array Slot), lv_has ls 3 [(0, .ref h0), (1, .int (nI (gp2 ln)))] → W p l e ({ frames := 2, cells := 0, slots := 0, locals := 52 } : Room) s m args below meth c H locs 0 0 Q (F0 m 42 ls []) := by
    intro tb htb H locs hd ls hl
    refine lv_aload_n hx hb dX1_writeHalves_42 rfl (lv_at hl 0 rfl) ?_
    refine x_get (C := RX1) (T := TX1) (N := 7) (ci := 1) 5 inT_X1 rfl (by decide) lf_X1_28 rfl X hd.1 0 rfl rfl dX1_writeHalves_43 ?_
    refine lv_iconst (v := nI 0) hx hb dX1_writeHalves_46 (by decide) ?_
    refine cM_S (As := [.ref qa, .int (nI 0)]) (rest := []) (wr := [(h0, .inr (1, [.ref ht, .int (nI ((hA0 ln lz).length)), .int (nI (rd0 ln)), .int (nI ln), .int (nI lz), .ref qa, .ref qb])), (ht, .inl (cI, 864, .inl tb)), (qb, .inl (cI, 9, .inl sb0))]) X (c_J7_fill_53178 l G cI cZ qa 9 sa0 (nI 0) (by decide)) lk_X1_88 hd hA [2] [0, 1, 3] rfl rfl rfl rfl (by decide) hl.1 rfl rfl (Nat.le_of_ble_eq_true rfl) ⟨Nat.le_of_ble_eq_true rfl, Nat.le_of_ble_eq_true rfl⟩ ⟨Nat.le_of_ble_eq_true rfl, Nat.le_of_ble_eq_true rfl⟩ dX1_writeHalves_47 (fun v w1 H locs hp hd => ?_)
    obtain ⟨rfl, rfl⟩ := hp
    have hd : Hd G A s.heap [(h0, .inr (1, [.ref ht, .int (nI ((hA0 ln lz).length)), .int (nI (rd0 ln)), .int (nI ln), .int (nI lz), .ref qa, .ref qb])), (ht, .inl (cI, 864, .inl tb)), (qb, .inl (cI, 9, .inl sb0)), (qa, .inl (cI, 9, .inl (fun _ => (nI 0))))] H locs := hd
    refine st_all (st' := []) rfl ?_
    have hd := hd.arr 3 rfl (nF (fun _ => 0)) (fun _ _ => rfl)
    have hd : Hd G A s.heap [(h0, .inr (1, [.ref ht, .int (nI ((hA0 ln lz).length)), .int (nI (rd0 ln)), .int (nI ln), .int (nI lz), .ref qa, .ref qb])), (ht, .inl (cI, 864, .inl tb)), (qb, .inl (cI, 9, .inl sb0)), (qa, .inl (cI, 9, .inl (nF (fun _ => 0))))] H locs := hd
    refine lv_aload_n hx hb dX1_writeHalves_50 rfl (lv_at hl 0 rfl) ?_
    refine x_get (C := RX1) (T := TX1) (N := 7) (ci := 1) 6 inT_X1 rfl (by decide) lf_X1_31 rfl X hd.1 0 rfl rfl dX1_writeHalves_51 ?_
    refine lv_aload_n hx hb dX1_writeHalves_54 rfl (lv_at hl 0 rfl) ?_
    refine x_get (C := RX1) (T := TX1) (N := 7) (ci := 1) 4 inT_X1 rfl (by decide) lf_X1_25 rfl X hd.1 0 rfl rfl dX1_writeHalves_55 ?_
    refine cM_S (As := [.ref qb, .int (nI lz)]) (rest := []) (wr := [(h0, .inr (1, [.ref ht, .int (nI ((hA0 ln lz).length)), .int (nI (rd0 ln)), .int (nI ln), .int (nI lz), .ref qa, .ref qb])), (ht, .inl (cI, 864, .inl tb)), (qa, .inl (cI, 9, .inl (nF (fun _ => 0))))]) X (c_J7_fill_53178 l G cI cZ qb 9 sb0 (nI lz) (by decide)) lk_X1_88 hd hA [2] [0, 1, 3] rfl rfl rfl rfl (by decide) hl.1 rfl rfl (Nat.le_of_ble_eq_true rfl) ⟨Nat.le_of_ble_eq_true rfl, Nat.le_of_ble_eq_true rfl⟩ ⟨Nat.le_of_ble_eq_true rfl, Nat.le_of_ble_eq_true rfl⟩ dX1_writeHalves_58 (fun v w1 H locs hp hd => ?_)
    obtain ⟨rfl, rfl⟩ := hp
    have hd : Hd G A s.heap [(h0, .inr (1, [.ref ht, .int (nI ((hA0 ln lz).length)), .int (nI (rd0 ln)), .int (nI ln), .int (nI lz), .ref qa, .ref qb])), (ht, .inl (cI, 864, .inl tb)), (qa, .inl (cI, 9, .inl (nF (fun _ => 0)))), (qb, .inl (cI, 9, .inl (fun _ => (nI lz))))] H locs := hd
    refine st_all (st' := []) rfl ?_
    have hd := hd.arr 3 rfl (nF (fun _ => lz)) (fun _ _ => rfl)
    have hd : Hd G A s.heap [(h0, .inr (1, [.ref ht, .int (nI ((hA0 ln lz).length)), .int (nI (rd0 ln)), .int (nI ln), .int (nI lz), .ref qa, .ref qb])), (ht, .inl (cI, 864, .inl tb)), (qa, .inl (cI, 9, .inl (nF (fun _ => 0)))), (qb, .inl (cI, 9, .inl (nF (fun _ => lz))))] H locs := hd
    refine lv_iload_n hx hb dX1_writeHalves_61 rfl (lv_at hl 1 rfl) ?_
    refine lv_iconst (v := nI 2) hx hb dX1_writeHalves_62 (by decide) ?_
    refine n_div hx hb dX1_writeHalves_63 (by omega) (by omega) (by omega) ?_
    refine lv_istore_n (lv' := [(2, .int (nI ((gp2 ln) / 2))), (0, .ref h0), (1, .int (nI (gp2 ln)))]) hx hb dX1_writeHalves_64 rfl hl (by decide) rfl (fun ls hl => ?_)
    have LP65 : ∀ (fu : Nat) (i : Nat) (tb : Nat → Int32) (sf : Nat → Nat) (sl_ : Nat → Nat), (i ≤ lg2 (gp2 ln)) → (LTc tb (hA1 ln lz i)) → (∀ m, m < gp2 ln → sf m = (hlo (gp2 ln) lz i).1 m) → (∀ m, m < gp2 ln → sl_ m = (hlo (gp2 ln) lz i).2 m) → (lg2 (gp2 ln) - i) < fu → ∀ (H : Heap) (locs : List Loc), Hd G A s.heap [(h0, .inr (1, [.ref ht, .int (nI ((hA1 ln lz i).length)), .int (nI (rd0 ln + i)), .int (nI ln), .int (nI lz), .ref qa, .ref qb])), (ht, .inl (cI, 864, .inl tb)), (qa, .inl (cI, 9, .inl (nF sf))), (qb, .inl (cI, 9, .inl (nF sl_)))] H locs → ∀ (ls : Array Slot), lv_has ls 3 [(0, .ref h0), (1, .int (nI (gp2 ln))), (2, .int (nI (gp2 ln / 2 ^ (i + 1))))] → W p l e ({ frames := 2, cells := 0, slots := 0, locals := 52 } : Room) s m args below meth c H locs 0 0 Q (F0 m 65 ls []) := by
      intro fu
      induction fu with
      | zero =>
        intro i tb sf sl_ hi htb hsf hsl hfu
        exact absurd hfu (Nat.not_lt_zero _)
      | succ fu ih65 =>
        intro i tb sf sl_ hi htb hsf hsl hfu H locs hd ls hl
        refine lv_iload_n hx hb dX1_writeHalves_65 rfl (lv_at hl 2 rfl) ?_
        refine lv_iconst (v := nI 1) hx hb dX1_writeHalves_66 (by decide) ?_
        refine n_icmp_lt (tgt := 83) hx hb dX1_writeHalves_67 (by decide) (Nat.lt_of_le_of_lt (Nat.div_le_self _ _) (by omega)) (by omega) (fun c_67 => ?_) (fun c_67 => ?_)
        · refine lv_iconst (v := nI 1) hx hb dX1_writeHalves_83 (by decide) ?_
          refine lv_istore_n (lv' := [(2, .int (nI 1)), (0, .ref h0), (1, .int (nI (gp2 ln)))]) hx hb dX1_writeHalves_84 rfl hl (by decide) rfl (fun ls hl => ?_)
          have LP85 : ∀ (fu : Nat) (i : Nat) (tb : Nat → Int32) (sf : Nat → Nat) (sl_ : Nat → Nat), (i ≤ lg2 (gp2 ln)) → (LTc tb (hA2 ln lz i)) → (∀ m, m < gp2 ln → sf m = (hup (gp2 ln) lz i).1 m) → (∀ m, m < gp2 ln → sl_ m = (hup (gp2 ln) lz i).2 m) → (lg2 (gp2 ln) - i) < fu → ∀ (H : Heap) (locs : List Loc), Hd G A s.heap [(h0, .inr (1, [.ref ht, .int (nI ((hA2 ln lz i).length)), .int (nI (rd0 ln + lg2 (gp2 ln) + i)), .int (nI ln), .int (nI lz), .ref qa, .ref qb])), (ht, .inl (cI, 864, .inl tb)), (qa, .inl (cI, 9, .inl (nF sf))), (qb, .inl (cI, 9, .inl (nF sl_)))] H locs → ∀ (ls : Array Slot), lv_has ls 3 [(0, .ref h0), (1, .int (nI (gp2 ln))), (2, .int (nI (2 ^ i)))] → W p l e ({ frames := 2, cells := 0, slots := 0, locals := 52 } : Room) s m args below meth c H locs 0 0 Q (F0 m 85 ls []) := by
            intro fu
            induction fu with
            | zero =>
              intro i tb sf sl_ hi htb hsf hsl hfu
              exact absurd hfu (Nat.not_lt_zero _)
            | succ fu ih85 =>
              intro i tb sf sl_ hi htb hsf hsl hfu H locs hd ls hl
              refine lv_iload_n hx hb dX1_writeHalves_85 rfl (lv_at hl 2 rfl) ?_
              refine lv_iload_n hx hb dX1_writeHalves_86 rfl (lv_at hl 1 rfl) ?_
              refine n_icmp_ge (tgt := 103) hx hb dX1_writeHalves_87 (by decide) (Nat.pow_lt_pow_right (by decide) (by omega)) (by omega) (fun c_87 => ?_) (fun c_87 => ?_)
              · rw [show (hA2 ln lz i) = hA2 ln lz (lg2 (gp2 ln)) from by rw [up_ex hP hi c_87]] at hd htb
                have hd : Hd G A s.heap [(h0, .inr (1, [.ref ht, .int (nI ((hA2 ln lz (lg2 (gp2 ln))).length)), .int (nI (rd0 ln + lg2 (gp2 ln) + i)), .int (nI ln), .int (nI lz), .ref qa, .ref qb])), (ht, .inl (cI, 864, .inl tb)), (qa, .inl (cI, 9, .inl (nF sf))), (qb, .inl (cI, 9, .inl (nF sl_)))] H locs := hd
                have hd : Hd G A s.heap [(h0, .inr (1, [.ref ht, .int (nI ((hA2 ln lz (lg2 (gp2 ln))).length)), .int (nI (rd0 ln + lg2 (gp2 ln) + lg2 (gp2 ln))), .int (nI ln), .int (nI lz), .ref qa, .ref qb])), (ht, .inl (cI, 864, .inl tb)), (qa, .inl (cI, 9, .inl (nF sf))), (qb, .inl (cI, 9, .inl (nF sl_)))] H locs := hd.cong (congrArg (fun z_ : Int32 => ([(h0, .inr (1, [.ref ht, .int (nI ((hA2 ln lz (lg2 (gp2 ln))).length)), .int z_, .int (nI ln), .int (nI lz), .ref qa, .ref qb])), (ht, .inl (cI, 864, .inl tb)), (qa, .inl (cI, 9, .inl (nF sf))), (qb, .inl (cI, 9, .inl (nF sl_)))] : va_W)) (show (nI (rd0 ln + lg2 (gp2 ln) + i) : Int32) = nI (rd0 ln + lg2 (gp2 ln) + lg2 (gp2 ln)) from by rw [up_ex hP hi c_87]))
                refine lv_aload_n hx hb dX1_writeHalves_103 rfl (lv_at hl 0 rfl) ?_
                refine x_get (C := RX1) (T := TX1) (N := 7) (ci := 1) 3 inT_X1 rfl (by decide) lf_X1_22 rfl X hd.1 0 rfl rfl dX1_writeHalves_104 ?_
                refine lv_iload_n hx hb dX1_writeHalves_107 rfl (lv_at hl 1 rfl) ?_
                refine n_icmp_le (tgt := 142) hx hb dX1_writeHalves_108 (by decide) (by omega) (by omega) (fun c_108 => ?_) (fun c_108 => ?_)
                · exact (fin _ _ [(h0, .inr (1, [.ref ht, .int (nI ((hA2 ln lz (lg2 (gp2 ln))).length)), .int (nI (rd0 ln + lg2 (gp2 ln) + lg2 (gp2 ln))), .int (nI ln), .int (nI lz), .ref qa, .ref qb])), (ht, .inl (cI, 864, .inl tb)), (qa, .inl (cI, 9, .inl (nF sf))), (qb, .inl (cI, 9, .inl (nF sl_)))] _ _ (hd.sub [0, 1, 2, 3] rfl rfl)).1 rfl ⟨tb, (nF sf), (nF sl_), rfl, by have e0 : rd0 ln = 0 := if_neg (by omega); rw [LHalf, show ln - gp2 ln = 0 by omega, e0]; rfl, (by rw [LHalf, show ln - gp2 ln = 0 by omega]; exact htb)⟩ dX1_writeHalves_142
                · refine lv_iconst (v := nI 0) hx hb dX1_writeHalves_111 (by decide) ?_
                  refine lv_istore_n (lv' := [(2, .int (nI 0)), (0, .ref h0), (1, .int (nI (gp2 ln)))]) hx hb dX1_writeHalves_112 rfl hl (by decide) rfl (fun ls hl => ?_)
                  have LP113 : ∀ (fu : Nat) (i : Nat) (tb : Nat → Int32), (i ≤ ln - gp2 ln) → (LTc tb (bld (hA2 ln lz (lg2 (gp2 ln))) (xF2 (rd0 ln + lg2 (gp2 ln) + lg2 (gp2 ln)) (gp2 ln) lz) i)) → (ln - i) < fu → ∀ (H : Heap) (locs : List Loc), Hd G A s.heap [(h0, .inr (1, [.ref ht, .int (nI ((bld (hA2 ln lz (lg2 (gp2 ln))) (xF2 (rd0 ln + lg2 (gp2 ln) + lg2 (gp2 ln)) (gp2 ln) lz) i).length)), .int (nI (rd0 ln + lg2 (gp2 ln) + lg2 (gp2 ln))), .int (nI ln), .int (nI lz), .ref qa, .ref qb])), (ht, .inl (cI, 864, .inl tb)), (qa, .inl (cI, 9, .inl (nF sf))), (qb, .inl (cI, 9, .inl (nF sl_)))] H locs → ∀ (ls : Array Slot), lv_has ls 3 [(0, .ref h0), (1, .int (nI (gp2 ln))), (2, .int (nI i))] → W p l e ({ frames := 2, cells := 0, slots := 0, locals := 52 } : Room) s m args below meth c H locs 0 0 Q (F0 m 113 ls []) := by
                    intro fu
                    induction fu with
                    | zero =>
                      intro i tb hi htb hfu
                      exact absurd hfu (Nat.not_lt_zero _)
                    | succ fu ih113 =>
                      intro i tb hi htb hfu H locs hd ls hl
                      refine lv_iload_n hx hb dX1_writeHalves_113 rfl (lv_at hl 2 rfl) ?_
                      refine lv_aload_n hx hb dX1_writeHalves_114 rfl (lv_at hl 0 rfl) ?_
                      refine x_get (C := RX1) (T := TX1) (N := 7) (ci := 1) 3 inT_X1 rfl (by decide) lf_X1_22 rfl X hd.1 0 rfl rfl dX1_writeHalves_115 ?_
                      refine lv_iload_n hx hb dX1_writeHalves_118 rfl (lv_at hl 1 rfl) ?_
                      refine n_sub hx hb dX1_writeHalves_119 (by omega) ?_
                      refine n_icmp_ge (tgt := 138) hx hb dX1_writeHalves_120 (by decide) (by omega) (by omega) (fun c_120 => ?_) (fun c_120 => ?_)
                      · refine lv_aload_n hx hb dX1_writeHalves_138 rfl (lv_at hl 0 rfl) ?_
                        refine cM_V (As := []) (rest := []) (wr := [(ht, .inl (cI, 864, .inl tb)), (qa, .inl (cI, 9, .inl (nF sf))), (qb, .inl (cI, 9, .inl (nF sl_)))]) X (c_X1_endRound l G cI cZ h0 ht qa qb (rd0 ln + lg2 (gp2 ln) + lg2 (gp2 ln)) ln lz ((bld (hA2 ln lz (lg2 (gp2 ln))) (xF2 (rd0 ln + lg2 (gp2 ln) + lg2 (gp2 ln)) (gp2 ln) lz) i).length) ) lk_X1_75 hd hA [0] [1, 2, 3] rfl rfl rfl rfl (by decide) rfl rfl hl.1 rfl rfl (Nat.le_of_ble_eq_true rfl) ⟨Nat.le_of_ble_eq_true rfl, Nat.le_of_ble_eq_true rfl⟩ ⟨Nat.le_of_ble_eq_true rfl, Nat.le_of_ble_eq_true rfl⟩ dX1_writeHalves_139 (fun v w1 H locs hp hd => ?_)
                        obtain ⟨rfl, rfl⟩ := hp
                        have hd : Hd G A s.heap [(ht, .inl (cI, 864, .inl tb)), (qa, .inl (cI, 9, .inl (nF sf))), (qb, .inl (cI, 9, .inl (nF sl_))), (h0, .inr (1, [.ref ht, .int (nI ((bld (hA2 ln lz (lg2 (gp2 ln))) (xF2 (rd0 ln + lg2 (gp2 ln) + lg2 (gp2 ln)) (gp2 ln) lz) i).length)), .int (nI ((rd0 ln + lg2 (gp2 ln) + lg2 (gp2 ln)) + 1)), .int (nI ln), .int (nI lz), .ref qa, .ref qb]))] H locs := hd
                        refine st_all (st' := []) rfl ?_
                        exact (fin _ _ [(h0, .inr (1, [.ref ht, .int (nI ((bld (hA2 ln lz (lg2 (gp2 ln))) (xF2 (rd0 ln + lg2 (gp2 ln) + lg2 (gp2 ln)) (gp2 ln) lz) i).length)), .int (nI ((rd0 ln + lg2 (gp2 ln) + lg2 (gp2 ln)) + 1)), .int (nI ln), .int (nI lz), .ref qa, .ref qb])), (ht, .inl (cI, 864, .inl tb)), (qa, .inl (cI, 9, .inl (nF sf))), (qb, .inl (cI, 9, .inl (nF sl_)))] _ _ (hd.sub [3, 0, 1, 2] rfl rfl)).1 rfl ⟨tb, (nF sf), (nF sl_), rfl, by have e0 : rd0 ln = 1 := if_pos c_108; rw [LHalf, show ln - gp2 ln = i by omega, e0], (by rw [LHalf, show ln - gp2 ln = i by omega]; exact htb)⟩ dX1_writeHalves_142
                      · refine lv_aload_n hx hb dX1_writeHalves_123 rfl (lv_at hl 0 rfl) ?_
                        refine lv_iload_n hx hb dX1_writeHalves_124 rfl (lv_at hl 2 rfl) ?_
                        refine lv_iload_n hx hb dX1_writeHalves_125 rfl (lv_at hl 2 rfl) ?_
                        refine lv_iload_n hx hb dX1_writeHalves_126 rfl (lv_at hl 1 rfl) ?_
                        refine n_add hx hb dX1_writeHalves_127  ?_
                        refine lv_iconst (v := nI 2) hx hb dX1_writeHalves_128 (by decide) ?_
                        refine cM_V (As := [.int (nI i), .int (nI (i + (gp2 ln))), .int (nI 2)]) (rest := []) (wr := [(qa, .inl (cI, 9, .inl (nF sf))), (qb, .inl (cI, 9, .inl (nF sl_)))]) X (c_X1_sendWhole l G cI cZ h0 ht qa qb (rd0 ln + lg2 (gp2 ln) + lg2 (gp2 ln)) ln lz (bld (hA2 ln lz (lg2 (gp2 ln))) (xF2 (rd0 ln + lg2 (gp2 ln) + lg2 (gp2 ln)) (gp2 ln) lz) i) tb i (i + (gp2 ln)) 2 (by first | assumption | omega) (by rw [bld_len, hA2_len]; have := Nat.mul_le_mul (show lg2 (gp2 ln) + lg2 (gp2 ln) ≤ 6 by omega) hP8; omega)) lk_X1_85 hd hA [0, 1] [2, 3] rfl rfl rfl rfl (by decide) rfl rfl hl.1 rfl rfl (Nat.le_of_ble_eq_true rfl) ⟨Nat.le_of_ble_eq_true rfl, Nat.le_of_ble_eq_true rfl⟩ ⟨Nat.le_of_ble_eq_true rfl, Nat.le_of_ble_eq_true rfl⟩ dX1_writeHalves_129 (fun v w1 H locs hp hd => ?_)
                        obtain ⟨tb129, rfl, rfl, hT⟩ := hp
                        have hd : Hd G A s.heap [(qa, .inl (cI, 9, .inl (nF sf))), (qb, .inl (cI, 9, .inl (nF sl_))), (h0, .inr (1, [.ref ht, .int (nI (((bld (hA2 ln lz (lg2 (gp2 ln))) (xF2 (rd0 ln + lg2 (gp2 ln) + lg2 (gp2 ln)) (gp2 ln) lz) i) ++ [[(rd0 ln + lg2 (gp2 ln) + lg2 (gp2 ln)), i, (i + (gp2 ln)), 0, lz, 2]]).length)), .int (nI (rd0 ln + lg2 (gp2 ln) + lg2 (gp2 ln))), .int (nI ln), .int (nI lz), .ref qa, .ref qb])), (ht, .inl (cI, 864, .inl tb129))] H locs := hd
                        refine st_all (st' := []) rfl ?_
                        rw [show ((bld (hA2 ln lz (lg2 (gp2 ln))) (xF2 (rd0 ln + lg2 (gp2 ln) + lg2 (gp2 ln)) (gp2 ln) lz) i) ++ [[(rd0 ln + lg2 (gp2 ln) + lg2 (gp2 ln)), i, (i + (gp2 ln)), 0, lz, 2]]) = bld (hA2 ln lz (lg2 (gp2 ln))) (xF2 (rd0 ln + lg2 (gp2 ln) + lg2 (gp2 ln)) (gp2 ln) lz) (i + 1) from rfl] at hd hT
                        have hd : Hd G A s.heap [(qa, .inl (cI, 9, .inl (nF sf))), (qb, .inl (cI, 9, .inl (nF sl_))), (h0, .inr (1, [.ref ht, .int (nI ((bld (hA2 ln lz (lg2 (gp2 ln))) (xF2 (rd0 ln + lg2 (gp2 ln) + lg2 (gp2 ln)) (gp2 ln) lz) (i + 1)).length)), .int (nI (rd0 ln + lg2 (gp2 ln) + lg2 (gp2 ln))), .int (nI ln), .int (nI lz), .ref qa, .ref qb])), (ht, .inl (cI, 864, .inl tb129))] H locs := hd
                        refine lv_iinc (v := nI (i + 1)) (lv' := [(2, .int (nI (i + 1))), (0, .ref h0), (1, .int (nI (gp2 ln)))]) hx hb dX1_writeHalves_132 hl (k := 2) rfl (nI_1 _) (by decide) rfl (fun ls hl => ?_)
                        refine lv_goto (tgt := 113) hx hb dX1_writeHalves_135 (by decide) ?_
                        exact ih113  (i + 1) tb129 (by omega) hT (by omega) _ _ (hd.sub [2, 3, 0, 1] rfl rfl) _ (lv_sub hl [1, 2, 0] rfl)
                  have hd : Hd G A s.heap [(h0, .inr (1, [.ref ht, .int (nI ((bld (hA2 ln lz (lg2 (gp2 ln))) (xF2 (rd0 ln + lg2 (gp2 ln) + lg2 (gp2 ln)) (gp2 ln) lz) 0).length)), .int (nI (rd0 ln + lg2 (gp2 ln) + lg2 (gp2 ln))), .int (nI ln), .int (nI lz), .ref qa, .ref qb])), (ht, .inl (cI, 864, .inl tb)), (qa, .inl (cI, 9, .inl (nF sf))), (qb, .inl (cI, 9, .inl (nF sl_)))] H locs := hd.cong (congrArg (fun z_ : Int32 => ([(h0, .inr (1, [.ref ht, .int z_, .int (nI (rd0 ln + lg2 (gp2 ln) + lg2 (gp2 ln))), .int (nI ln), .int (nI lz), .ref qa, .ref qb])), (ht, .inl (cI, 864, .inl tb)), (qa, .inl (cI, 9, .inl (nF sf))), (qb, .inl (cI, 9, .inl (nF sl_)))] : va_W)) (show (nI ((hA2 ln lz (lg2 (gp2 ln))).length) : Int32) = nI ((bld (hA2 ln lz (lg2 (gp2 ln))) (xF2 (rd0 ln + lg2 (gp2 ln) + lg2 (gp2 ln)) (gp2 ln) lz) 0).length) from rfl))
                  exact LP113 ((ln - 0) + 1) 0 tb (Nat.zero_le _) htb (Nat.lt_succ_self _) _ _ (hd.sub [0, 1, 2, 3] rfl rfl) _ (lv_sub hl [1, 2, 0] rfl)
              · refine lv_aload_n hx hb dX1_writeHalves_90 rfl (lv_at hl 0 rfl) ?_
                refine lv_iload_n hx hb dX1_writeHalves_91 rfl (lv_at hl 1 rfl) ?_
                refine lv_iload_n hx hb dX1_writeHalves_92 rfl (lv_at hl 2 rfl) ?_
                refine cM_V (As := [.int (nI (gp2 ln)), .int (nI (2 ^ i))]) (rest := []) (wr := []) X (c_X1_writeDoubling l G cI cZ h0 ht qa qb (rd0 ln + lg2 (gp2 ln) + i) ln lz (hA2 ln lz i) tb sf sl_ ((hup (gp2 ln) lz i).1) ((hup (gp2 ln) lz i).2) (gp2 ln) (2 ^ i) (by first | assumption | omega) (by rw [hA2_len]; have := Nat.mul_le_mul (show lg2 (gp2 ln) + i ≤ 6 by omega) hP8; omega) (by first | assumption | omega) (up_in hP hi c_87).2 (by first | assumption | omega) (by first | assumption | omega) (by first | assumption | omega)) lk_X1_98 hd hA [0, 1, 2, 3] [] rfl rfl rfl rfl (by decide) rfl rfl hl.1 rfl rfl (Nat.le_of_ble_eq_true rfl) ⟨Nat.le_of_ble_eq_true rfl, Nat.le_of_ble_eq_true rfl⟩ ⟨Nat.le_of_ble_eq_true rfl, Nat.le_of_ble_eq_true rfl⟩ dX1_writeHalves_93 (fun v w1 H locs hp hd => ?_)
                obtain ⟨tb93, sf93, sl93, rfl, rfl, hT, hS1, hS2⟩ := hp
                have hd : Hd G A s.heap [(h0, .inr (1, [.ref ht, .int (nI ((bld (hA2 ln lz i) (dF (rd0 ln + lg2 (gp2 ln) + i) ((hup (gp2 ln) lz i).1) ((hup (gp2 ln) lz i).2) (2 ^ i)) (gp2 ln)).length)), .int (nI ((rd0 ln + lg2 (gp2 ln) + i) + 1)), .int (nI ln), .int (nI lz), .ref qa, .ref qb])), (ht, .inl (cI, 864, .inl tb93)), (qa, .inl (cI, 9, .inl (nF sf93))), (qb, .inl (cI, 9, .inl (nF sl93)))] H locs := hd
                refine st_all (st' := []) rfl ?_
                refine lv_iload_n hx hb dX1_writeHalves_96 rfl (lv_at hl 2 rfl) ?_
                refine lv_iconst (v := nI 2) hx hb dX1_writeHalves_97 (by decide) ?_
                refine n_mul hx hb dX1_writeHalves_98  ?_
                refine lv_istore_n (lv' := [(2, .int (nI ((2 ^ i) * 2))), (0, .ref h0), (1, .int (nI (gp2 ln)))]) hx hb dX1_writeHalves_99 rfl hl (by decide) rfl (fun ls hl => ?_)
                refine lv_goto (tgt := 85) hx hb dX1_writeHalves_100 (by decide) ?_
                have hl : lv_has ls 3 [(2, .int (nI (2 ^ (i + 1)))), (0, .ref h0), (1, .int (nI (gp2 ln)))] := lv_rep hl (congrArg (fun z_ : Int32 => ([(2, .int z_), (0, .ref h0), (1, .int (nI (gp2 ln)))] : List (Nat × Value))) (show (nI ((2 ^ i) * 2) : Int32) = nI (2 ^ (i + 1)) from rfl))
                have hd : Hd G A s.heap [(h0, .inr (1, [.ref ht, .int (nI ((hA2 ln lz (i + 1)).length)), .int (nI ((rd0 ln + lg2 (gp2 ln) + i) + 1)), .int (nI ln), .int (nI lz), .ref qa, .ref qb])), (ht, .inl (cI, 864, .inl tb93)), (qa, .inl (cI, 9, .inl (nF sf93))), (qb, .inl (cI, 9, .inl (nF sl93)))] H locs := hd.cong (congrArg (fun z_ : Int32 => ([(h0, .inr (1, [.ref ht, .int z_, .int (nI ((rd0 ln + lg2 (gp2 ln) + i) + 1)), .int (nI ln), .int (nI lz), .ref qa, .ref qb])), (ht, .inl (cI, 864, .inl tb93)), (qa, .inl (cI, 9, .inl (nF sf93))), (qb, .inl (cI, 9, .inl (nF sl93)))] : va_W)) (show (nI ((bld (hA2 ln lz i) (dF (rd0 ln + lg2 (gp2 ln) + i) ((hup (gp2 ln) lz i).1) ((hup (gp2 ln) lz i).2) (2 ^ i)) (gp2 ln)).length) : Int32) = nI ((hA2 ln lz (i + 1)).length) from rfl))
                have hd : Hd G A s.heap [(h0, .inr (1, [.ref ht, .int (nI ((hA2 ln lz (i + 1)).length)), .int (nI (rd0 ln + lg2 (gp2 ln) + (i + 1))), .int (nI ln), .int (nI lz), .ref qa, .ref qb])), (ht, .inl (cI, 864, .inl tb93)), (qa, .inl (cI, 9, .inl (nF sf93))), (qb, .inl (cI, 9, .inl (nF sl93)))] H locs := hd.cong (congrArg (fun z_ : Int32 => ([(h0, .inr (1, [.ref ht, .int (nI ((hA2 ln lz (i + 1)).length)), .int z_, .int (nI ln), .int (nI lz), .ref qa, .ref qb])), (ht, .inl (cI, 864, .inl tb93)), (qa, .inl (cI, 9, .inl (nF sf93))), (qb, .inl (cI, 9, .inl (nF sl93)))] : va_W)) (show (nI ((rd0 ln + lg2 (gp2 ln) + i) + 1) : Int32) = nI (rd0 ln + lg2 (gp2 ln) + (i + 1)) from by first | rfl | (congr 1; omega)))
                exact ih85  (i + 1) tb93 sf93 sl93 (up_in hP hi c_87).1 hT hS1 hS2 (by have := (up_in hP hi c_87).1; omega) _ _ (hd.sub [0, 1, 2, 3] rfl rfl) _ (lv_sub hl [1, 2, 0] rfl)
          have hl : lv_has ls 3 [(2, .int (nI (2 ^ 0))), (0, .ref h0), (1, .int (nI (gp2 ln)))] := lv_rep hl (congrArg (fun z_ : Int32 => ([(2, .int z_), (0, .ref h0), (1, .int (nI (gp2 ln)))] : List (Nat × Value))) (show (nI 1 : Int32) = nI (2 ^ 0) from rfl))
          have hd : Hd G A s.heap [(h0, .inr (1, [.ref ht, .int (nI ((hA2 ln lz 0).length)), .int (nI (rd0 ln + i)), .int (nI ln), .int (nI lz), .ref qa, .ref qb])), (ht, .inl (cI, 864, .inl tb)), (qa, .inl (cI, 9, .inl (nF sf))), (qb, .inl (cI, 9, .inl (nF sl_)))] H locs := hd.cong (congrArg (fun z_ : Int32 => ([(h0, .inr (1, [.ref ht, .int z_, .int (nI (rd0 ln + i)), .int (nI ln), .int (nI lz), .ref qa, .ref qb])), (ht, .inl (cI, 864, .inl tb)), (qa, .inl (cI, 9, .inl (nF sf))), (qb, .inl (cI, 9, .inl (nF sl_)))] : va_W)) (show (nI ((hA1 ln lz i).length) : Int32) = nI ((hA2 ln lz 0).length) from by rw [hA2, ← hd_ex hP hi c_67]))
          have hd : Hd G A s.heap [(h0, .inr (1, [.ref ht, .int (nI ((hA2 ln lz 0).length)), .int (nI (rd0 ln + lg2 (gp2 ln) + 0)), .int (nI ln), .int (nI lz), .ref qa, .ref qb])), (ht, .inl (cI, 864, .inl tb)), (qa, .inl (cI, 9, .inl (nF sf))), (qb, .inl (cI, 9, .inl (nF sl_)))] H locs := hd.cong (congrArg (fun z_ : Int32 => ([(h0, .inr (1, [.ref ht, .int (nI ((hA2 ln lz 0).length)), .int z_, .int (nI ln), .int (nI lz), .ref qa, .ref qb])), (ht, .inl (cI, 864, .inl tb)), (qa, .inl (cI, 9, .inl (nF sf))), (qb, .inl (cI, 9, .inl (nF sl_)))] : va_W)) (show (nI (rd0 ln + i) : Int32) = nI (rd0 ln + lg2 (gp2 ln) + 0) from by rw [← hd_ex hP hi c_67]; rfl))
          exact LP85 ((lg2 (gp2 ln) - 0) + 1) 0 tb sf sl_ (Nat.zero_le _) (by rw [hA2, ← hd_ex hP hi c_67]; exact htb) (by intro m hm; rw [hup, ← hd_ex hP hi c_67]; exact hsf m hm) (by intro m hm; rw [hup, ← hd_ex hP hi c_67]; exact hsl m hm) (Nat.lt_succ_self _) _ _ (hd.sub [0, 1, 2, 3] rfl rfl) _ (lv_sub hl [1, 2, 0] rfl)
        · refine lv_aload_n hx hb dX1_writeHalves_70 rfl (lv_at hl 0 rfl) ?_
          refine lv_iload_n hx hb dX1_writeHalves_71 rfl (lv_at hl 1 rfl) ?_
          refine lv_iload_n hx hb dX1_writeHalves_72 rfl (lv_at hl 2 rfl) ?_
          refine cM_V (As := [.int (nI (gp2 ln)), .int (nI (gp2 ln / 2 ^ (i + 1)))]) (rest := []) (wr := []) X (c_X1_writeHalving l G cI cZ h0 ht qa qb (rd0 ln + i) ln lz (hA1 ln lz i) tb sf sl_ ((hlo (gp2 ln) lz i).1) ((hlo (gp2 ln) lz i).2) (gp2 ln) (gp2 ln / 2 ^ (i + 1)) (by first | assumption | omega) (by rw [hA1_len]; have := Nat.mul_le_mul (show i ≤ 3 by omega) hP8; omega) (by first | assumption | omega) (hd_in hP hi c_67).2 (fun m => Nat.le_trans (hlo_le _ _ _ m) hz) (by first | assumption | omega) (by first | assumption | omega)) lk_X1_94 hd hA [0, 1, 2, 3] [] rfl rfl rfl rfl (by decide) rfl rfl hl.1 rfl rfl (Nat.le_of_ble_eq_true rfl) ⟨Nat.le_of_ble_eq_true rfl, Nat.le_of_ble_eq_true rfl⟩ ⟨Nat.le_of_ble_eq_true rfl, Nat.le_of_ble_eq_true rfl⟩ dX1_writeHalves_73 (fun v w1 H locs hp hd => ?_)
          obtain ⟨tb73, sf73, sl73, rfl, rfl, hT, hS1, hS2⟩ := hp
          have hd : Hd G A s.heap [(h0, .inr (1, [.ref ht, .int (nI ((bld (hA1 ln lz i) (hF (rd0 ln + i) ((hlo (gp2 ln) lz i).1) ((hlo (gp2 ln) lz i).2) (gp2 ln / 2 ^ (i + 1))) (gp2 ln)).length)), .int (nI ((rd0 ln + i) + 1)), .int (nI ln), .int (nI lz), .ref qa, .ref qb])), (ht, .inl (cI, 864, .inl tb73)), (qa, .inl (cI, 9, .inl (nF sf73))), (qb, .inl (cI, 9, .inl (nF sl73)))] H locs := hd
          refine st_all (st' := []) rfl ?_
          refine lv_iload_n hx hb dX1_writeHalves_76 rfl (lv_at hl 2 rfl) ?_
          refine lv_iconst (v := nI 2) hx hb dX1_writeHalves_77 (by decide) ?_
          refine n_div hx hb dX1_writeHalves_78 (Nat.lt_of_le_of_lt (Nat.div_le_self _ _) (by omega)) (by omega) (by omega) ?_
          refine lv_istore_n (lv' := [(2, .int (nI ((gp2 ln / 2 ^ (i + 1)) / 2))), (0, .ref h0), (1, .int (nI (gp2 ln)))]) hx hb dX1_writeHalves_79 rfl hl (by decide) rfl (fun ls hl => ?_)
          refine lv_goto (tgt := 65) hx hb dX1_writeHalves_80 (by decide) ?_
          have hl : lv_has ls 3 [(2, .int (nI (gp2 ln / 2 ^ ((i + 1) + 1)))), (0, .ref h0), (1, .int (nI (gp2 ln)))] := lv_rep hl (congrArg (fun z_ : Int32 => ([(2, .int z_), (0, .ref h0), (1, .int (nI (gp2 ln)))] : List (Nat × Value))) (show (nI ((gp2 ln / 2 ^ (i + 1)) / 2) : Int32) = nI (gp2 ln / 2 ^ ((i + 1) + 1)) from by rw [Nat.div_div_eq_div_mul, ← Nat.pow_succ]))
          have hd : Hd G A s.heap [(h0, .inr (1, [.ref ht, .int (nI ((hA1 ln lz (i + 1)).length)), .int (nI ((rd0 ln + i) + 1)), .int (nI ln), .int (nI lz), .ref qa, .ref qb])), (ht, .inl (cI, 864, .inl tb73)), (qa, .inl (cI, 9, .inl (nF sf73))), (qb, .inl (cI, 9, .inl (nF sl73)))] H locs := hd.cong (congrArg (fun z_ : Int32 => ([(h0, .inr (1, [.ref ht, .int z_, .int (nI ((rd0 ln + i) + 1)), .int (nI ln), .int (nI lz), .ref qa, .ref qb])), (ht, .inl (cI, 864, .inl tb73)), (qa, .inl (cI, 9, .inl (nF sf73))), (qb, .inl (cI, 9, .inl (nF sl73)))] : va_W)) (show (nI ((bld (hA1 ln lz i) (hF (rd0 ln + i) ((hlo (gp2 ln) lz i).1) ((hlo (gp2 ln) lz i).2) (gp2 ln / 2 ^ (i + 1))) (gp2 ln)).length) : Int32) = nI ((hA1 ln lz (i + 1)).length) from rfl))
          have hd : Hd G A s.heap [(h0, .inr (1, [.ref ht, .int (nI ((hA1 ln lz (i + 1)).length)), .int (nI (rd0 ln + (i + 1))), .int (nI ln), .int (nI lz), .ref qa, .ref qb])), (ht, .inl (cI, 864, .inl tb73)), (qa, .inl (cI, 9, .inl (nF sf73))), (qb, .inl (cI, 9, .inl (nF sl73)))] H locs := hd.cong (congrArg (fun z_ : Int32 => ([(h0, .inr (1, [.ref ht, .int (nI ((hA1 ln lz (i + 1)).length)), .int z_, .int (nI ln), .int (nI lz), .ref qa, .ref qb])), (ht, .inl (cI, 864, .inl tb73)), (qa, .inl (cI, 9, .inl (nF sf73))), (qb, .inl (cI, 9, .inl (nF sl73)))] : va_W)) (show (nI ((rd0 ln + i) + 1) : Int32) = nI (rd0 ln + (i + 1)) from by first | rfl | (congr 1; omega)))
          exact ih65  (i + 1) tb73 sf73 sl73 (hd_in hP hi c_67).1 hT hS1 hS2 (by have := (hd_in hP hi c_67).1; omega) _ _ (hd.sub [0, 1, 2, 3] rfl rfl) _ (lv_sub hl [1, 2, 0] rfl)
    have hl : lv_has ls 3 [(2, .int (nI (gp2 ln / 2 ^ (0 + 1)))), (0, .ref h0), (1, .int (nI (gp2 ln)))] := lv_rep hl (congrArg (fun z_ : Int32 => ([(2, .int z_), (0, .ref h0), (1, .int (nI (gp2 ln)))] : List (Nat × Value))) (show (nI ((gp2 ln) / 2) : Int32) = nI (gp2 ln / 2 ^ (0 + 1)) from rfl))
    have hd : Hd G A s.heap [(h0, .inr (1, [.ref ht, .int (nI ((hA1 ln lz 0).length)), .int (nI (rd0 ln)), .int (nI ln), .int (nI lz), .ref qa, .ref qb])), (ht, .inl (cI, 864, .inl tb)), (qa, .inl (cI, 9, .inl (nF (fun _ => 0)))), (qb, .inl (cI, 9, .inl (nF (fun _ => lz))))] H locs := hd.cong (congrArg (fun z_ : Int32 => ([(h0, .inr (1, [.ref ht, .int z_, .int (nI (rd0 ln)), .int (nI ln), .int (nI lz), .ref qa, .ref qb])), (ht, .inl (cI, 864, .inl tb)), (qa, .inl (cI, 9, .inl (nF (fun _ => 0)))), (qb, .inl (cI, 9, .inl (nF (fun _ => lz))))] : va_W)) (show (nI ((hA0 ln lz).length) : Int32) = nI ((hA1 ln lz 0).length) from rfl))
    have hd : Hd G A s.heap [(h0, .inr (1, [.ref ht, .int (nI ((hA1 ln lz 0).length)), .int (nI (rd0 ln + 0)), .int (nI ln), .int (nI lz), .ref qa, .ref qb])), (ht, .inl (cI, 864, .inl tb)), (qa, .inl (cI, 9, .inl (nF (fun _ => 0)))), (qb, .inl (cI, 9, .inl (nF (fun _ => lz))))] H locs := hd.cong (congrArg (fun z_ : Int32 => ([(h0, .inr (1, [.ref ht, .int (nI ((hA1 ln lz 0).length)), .int z_, .int (nI ln), .int (nI lz), .ref qa, .ref qb])), (ht, .inl (cI, 864, .inl tb)), (qa, .inl (cI, 9, .inl (nF (fun _ => 0)))), (qb, .inl (cI, 9, .inl (nF (fun _ => lz))))] : va_W)) (show (nI (rd0 ln) : Int32) = nI (rd0 ln + 0) from rfl))
    exact LP65 ((lg2 (gp2 ln) - 0) + 1) 0 tb (fun _ => 0) (fun _ => lz) (Nat.zero_le _) htb (fun _ _ => rfl) (fun _ _ => rfl) (Nat.lt_succ_self _) _ _ (hd.sub [0, 1, 2, 3] rfl rfl) _ (lv_sub hl [1, 2, 0] rfl)
  refine lv_aload_n hx hb dX1_writeHalves_5 rfl (lv_at hl 1 rfl) ?_
  refine x_get (C := RX1) (T := TX1) (N := 7) (ci := 1) 3 inT_X1 rfl (by decide) lf_X1_22 rfl X hd.1 0 rfl rfl dX1_writeHalves_6 ?_
  refine lv_iload_n hx hb dX1_writeHalves_9 rfl (lv_at hl 0 rfl) ?_
  refine n_icmp_le (tgt := 42) hx hb dX1_writeHalves_10 (by decide) (by omega) (by omega) (fun c_10 => ?_) (fun c_10 => ?_)
  · have hd : Hd G A s.heap [(h0, .inr (1, [.ref ht, .int (nI ((hA0 ln lz).length)), .int (nI 0), .int (nI ln), .int (nI lz), .ref qa, .ref qb])), (ht, .inl (cI, 864, .inl tb0)), (qa, .inl (cI, 9, .inl sa0)), (qb, .inl (cI, 9, .inl sb0))] s.heap [] := hd.cong (congrArg (fun z_ : Int32 => ([(h0, .inr (1, [.ref ht, .int z_, .int (nI 0), .int (nI ln), .int (nI lz), .ref qa, .ref qb])), (ht, .inl (cI, 864, .inl tb0)), (qa, .inl (cI, 9, .inl sa0)), (qb, .inl (cI, 9, .inl sb0))] : va_W)) (show (nI 0 : Int32) = nI ((hA0 ln lz).length) from by rw [hA0, show ln - gp2 ln = 0 by omega]; rfl))
    have hd : Hd G A s.heap [(h0, .inr (1, [.ref ht, .int (nI ((hA0 ln lz).length)), .int (nI (rd0 ln)), .int (nI ln), .int (nI lz), .ref qa, .ref qb])), (ht, .inl (cI, 864, .inl tb0)), (qa, .inl (cI, 9, .inl sa0)), (qb, .inl (cI, 9, .inl sb0))] s.heap [] := hd.cong (congrArg (fun z_ : Int32 => ([(h0, .inr (1, [.ref ht, .int (nI ((hA0 ln lz).length)), .int z_, .int (nI ln), .int (nI lz), .ref qa, .ref qb])), (ht, .inl (cI, 864, .inl tb0)), (qa, .inl (cI, 9, .inl sa0)), (qb, .inl (cI, 9, .inl sb0))] : va_W)) (show (nI 0 : Int32) = nI (rd0 ln) from by rw [rd0, if_neg (by omega)]))
    exact J42  tb0 (by rw [hA0, show ln - gp2 ln = 0 by omega]; exact LTc_0 _)  _ _ (hd.sub [0, 1, 2, 3] rfl rfl) _ (lv_sub hl [1, 0] rfl)
  · refine lv_iload_n hx hb dX1_writeHalves_13 rfl (lv_at hl 0 rfl) ?_
    refine lv_istore_n (lv' := [(2, .int (nI (gp2 ln))), (1, .int (nI (gp2 ln))), (0, .ref h0)]) hx hb dX1_writeHalves_14 rfl hl (by decide) rfl (fun ls hl => ?_)
    have LP15 : ∀ (fu : Nat) (i : Nat) (tb : Nat → Int32), (i ≤ ln - gp2 ln) → (LTc tb (bld [] (xF1 (gp2 ln) lz) i)) → (ln - i) < fu → ∀ (H : Heap) (locs : List Loc), Hd G A s.heap [(h0, .inr (1, [.ref ht, .int (nI ((bld [] (xF1 (gp2 ln) lz) i).length)), .int (nI 0), .int (nI ln), .int (nI lz), .ref qa, .ref qb])), (ht, .inl (cI, 864, .inl tb)), (qa, .inl (cI, 9, .inl sa0)), (qb, .inl (cI, 9, .inl sb0))] H locs → ∀ (ls : Array Slot), lv_has ls 3 [(0, .ref h0), (1, .int (nI (gp2 ln))), (2, .int (nI (gp2 ln + i)))] → W p l e ({ frames := 2, cells := 0, slots := 0, locals := 52 } : Room) s m args below meth c H locs 0 0 Q (F0 m 15 ls []) := by
      intro fu
      induction fu with
      | zero =>
        intro i tb hi htb hfu
        exact absurd hfu (Nat.not_lt_zero _)
      | succ fu ih15 =>
        intro i tb hi htb hfu H locs hd ls hl
        refine lv_iload_n hx hb dX1_writeHalves_15 rfl (lv_at hl 2 rfl) ?_
        refine lv_aload_n hx hb dX1_writeHalves_16 rfl (lv_at hl 0 rfl) ?_
        refine x_get (C := RX1) (T := TX1) (N := 7) (ci := 1) 3 inT_X1 rfl (by decide) lf_X1_22 rfl X hd.1 0 rfl rfl dX1_writeHalves_17 ?_
        refine n_icmp_ge (tgt := 38) hx hb dX1_writeHalves_20 (by decide) (by omega) (by omega) (fun c_20 => ?_) (fun c_20 => ?_)
        · refine lv_aload_n hx hb dX1_writeHalves_38 rfl (lv_at hl 0 rfl) ?_
          refine cM_V (As := []) (rest := []) (wr := [(ht, .inl (cI, 864, .inl tb)), (qa, .inl (cI, 9, .inl sa0)), (qb, .inl (cI, 9, .inl sb0))]) X (c_X1_endRound l G cI cZ h0 ht qa qb 0 ln lz ((bld [] (xF1 (gp2 ln) lz) i).length) ) lk_X1_75 hd hA [0] [1, 2, 3] rfl rfl rfl rfl (by decide) rfl rfl hl.1 rfl rfl (Nat.le_of_ble_eq_true rfl) ⟨Nat.le_of_ble_eq_true rfl, Nat.le_of_ble_eq_true rfl⟩ ⟨Nat.le_of_ble_eq_true rfl, Nat.le_of_ble_eq_true rfl⟩ dX1_writeHalves_39 (fun v w1 H locs hp hd => ?_)
          obtain ⟨rfl, rfl⟩ := hp
          have hd : Hd G A s.heap [(ht, .inl (cI, 864, .inl tb)), (qa, .inl (cI, 9, .inl sa0)), (qb, .inl (cI, 9, .inl sb0)), (h0, .inr (1, [.ref ht, .int (nI ((bld [] (xF1 (gp2 ln) lz) i).length)), .int (nI (0 + 1)), .int (nI ln), .int (nI lz), .ref qa, .ref qb]))] H locs := hd
          refine st_all (st' := []) rfl ?_
          have hd : Hd G A s.heap [(ht, .inl (cI, 864, .inl tb)), (qa, .inl (cI, 9, .inl sa0)), (qb, .inl (cI, 9, .inl sb0)), (h0, .inr (1, [.ref ht, .int (nI ((hA0 ln lz).length)), .int (nI (0 + 1)), .int (nI ln), .int (nI lz), .ref qa, .ref qb]))] H locs := hd.cong (congrArg (fun z_ : Int32 => ([(ht, .inl (cI, 864, .inl tb)), (qa, .inl (cI, 9, .inl sa0)), (qb, .inl (cI, 9, .inl sb0)), (h0, .inr (1, [.ref ht, .int z_, .int (nI (0 + 1)), .int (nI ln), .int (nI lz), .ref qa, .ref qb]))] : va_W)) (show (nI ((bld [] (xF1 (gp2 ln) lz) i).length) : Int32) = nI ((hA0 ln lz).length) from by rw [hA0, show ln - gp2 ln = i by omega]))
          have hd : Hd G A s.heap [(ht, .inl (cI, 864, .inl tb)), (qa, .inl (cI, 9, .inl sa0)), (qb, .inl (cI, 9, .inl sb0)), (h0, .inr (1, [.ref ht, .int (nI ((hA0 ln lz).length)), .int (nI (rd0 ln)), .int (nI ln), .int (nI lz), .ref qa, .ref qb]))] H locs := hd.cong (congrArg (fun z_ : Int32 => ([(ht, .inl (cI, 864, .inl tb)), (qa, .inl (cI, 9, .inl sa0)), (qb, .inl (cI, 9, .inl sb0)), (h0, .inr (1, [.ref ht, .int (nI ((hA0 ln lz).length)), .int z_, .int (nI ln), .int (nI lz), .ref qa, .ref qb]))] : va_W)) (show (nI (0 + 1) : Int32) = nI (rd0 ln) from by rw [rd0, if_pos c_10]))
          exact J42  tb (by rw [hA0, show ln - gp2 ln = i by omega]; exact htb)  _ _ (hd.sub [3, 0, 1, 2] rfl rfl) _ (lv_sub hl [0, 1] rfl)
        · refine lv_aload_n hx hb dX1_writeHalves_23 rfl (lv_at hl 0 rfl) ?_
          refine lv_iload_n hx hb dX1_writeHalves_24 rfl (lv_at hl 2 rfl) ?_
          refine lv_iload_n hx hb dX1_writeHalves_25 rfl (lv_at hl 2 rfl) ?_
          refine lv_iload_n hx hb dX1_writeHalves_26 rfl (lv_at hl 1 rfl) ?_
          refine n_sub hx hb dX1_writeHalves_27 (by omega) ?_
          refine st_eq (show (nI ((gp2 ln + i) - (gp2 ln)) : Int32) = nI i from by rw [Nat.add_sub_cancel_left]) ?_
          refine lv_iconst (v := nI 0) hx hb dX1_writeHalves_28 (by decide) ?_
          refine cM_V (As := [.int (nI (gp2 ln + i)), .int (nI i), .int (nI 0)]) (rest := []) (wr := [(qa, .inl (cI, 9, .inl sa0)), (qb, .inl (cI, 9, .inl sb0))]) X (c_X1_sendWhole l G cI cZ h0 ht qa qb 0 ln lz (bld [] (xF1 (gp2 ln) lz) i) tb (gp2 ln + i) i 0 (by first | assumption | omega) (by rw [bld_len]; show 0 + i < 144; omega)) lk_X1_85 hd hA [0, 1] [2, 3] rfl rfl rfl rfl (by decide) rfl rfl hl.1 rfl rfl (Nat.le_of_ble_eq_true rfl) ⟨Nat.le_of_ble_eq_true rfl, Nat.le_of_ble_eq_true rfl⟩ ⟨Nat.le_of_ble_eq_true rfl, Nat.le_of_ble_eq_true rfl⟩ dX1_writeHalves_29 (fun v w1 H locs hp hd => ?_)
          obtain ⟨tb29, rfl, rfl, hT⟩ := hp
          have hd : Hd G A s.heap [(qa, .inl (cI, 9, .inl sa0)), (qb, .inl (cI, 9, .inl sb0)), (h0, .inr (1, [.ref ht, .int (nI (((bld [] (xF1 (gp2 ln) lz) i) ++ [[0, (gp2 ln + i), i, 0, lz, 0]]).length)), .int (nI 0), .int (nI ln), .int (nI lz), .ref qa, .ref qb])), (ht, .inl (cI, 864, .inl tb29))] H locs := hd
          refine st_all (st' := []) rfl ?_
          rw [show ((bld [] (xF1 (gp2 ln) lz) i) ++ [[0, (gp2 ln + i), i, 0, lz, 0]]) = bld [] (xF1 (gp2 ln) lz) (i + 1) from rfl] at hd hT
          have hd : Hd G A s.heap [(qa, .inl (cI, 9, .inl sa0)), (qb, .inl (cI, 9, .inl sb0)), (h0, .inr (1, [.ref ht, .int (nI ((bld [] (xF1 (gp2 ln) lz) (i + 1)).length)), .int (nI 0), .int (nI ln), .int (nI lz), .ref qa, .ref qb])), (ht, .inl (cI, 864, .inl tb29))] H locs := hd
          refine lv_iinc (v := nI (gp2 ln + i + 1)) (lv' := [(2, .int (nI (gp2 ln + i + 1))), (0, .ref h0), (1, .int (nI (gp2 ln)))]) hx hb dX1_writeHalves_32 hl (k := 2) rfl (nI_1 _) (by decide) rfl (fun ls hl => ?_)
          refine lv_goto (tgt := 15) hx hb dX1_writeHalves_35 (by decide) ?_
          have hl : lv_has ls 3 [(2, .int (nI (gp2 ln + (i + 1)))), (0, .ref h0), (1, .int (nI (gp2 ln)))] := lv_rep hl (congrArg (fun z_ : Int32 => ([(2, .int z_), (0, .ref h0), (1, .int (nI (gp2 ln)))] : List (Nat × Value))) (show (nI (gp2 ln + i + 1) : Int32) = nI (gp2 ln + (i + 1)) from rfl))
          exact ih15  (i + 1) tb29 (by omega) hT (by omega) _ _ (hd.sub [2, 3, 0, 1] rfl rfl) _ (lv_sub hl [1, 2, 0] rfl)
    have hl : lv_has ls 3 [(2, .int (nI (gp2 ln + 0))), (1, .int (nI (gp2 ln))), (0, .ref h0)] := lv_rep hl (congrArg (fun z_ : Int32 => ([(2, .int z_), (1, .int (nI (gp2 ln))), (0, .ref h0)] : List (Nat × Value))) (show (nI (gp2 ln) : Int32) = nI (gp2 ln + 0) from rfl))
    have hd : Hd G A s.heap [(h0, .inr (1, [.ref ht, .int (nI ((bld [] (xF1 (gp2 ln) lz) 0).length)), .int (nI 0), .int (nI ln), .int (nI lz), .ref qa, .ref qb])), (ht, .inl (cI, 864, .inl tb0)), (qa, .inl (cI, 9, .inl sa0)), (qb, .inl (cI, 9, .inl sb0))] s.heap [] := hd.cong (congrArg (fun z_ : Int32 => ([(h0, .inr (1, [.ref ht, .int z_, .int (nI 0), .int (nI ln), .int (nI lz), .ref qa, .ref qb])), (ht, .inl (cI, 864, .inl tb0)), (qa, .inl (cI, 9, .inl sa0)), (qb, .inl (cI, 9, .inl sb0))] : va_W)) (show (nI 0 : Int32) = nI ((bld [] (xF1 (gp2 ln) lz) 0).length) from rfl))
    exact LP15 ((ln - 0) + 1) 0 tb0 (Nat.zero_le _) (LTc_0 _) (Nat.lt_succ_self _) _ _ (hd.sub [0, 1, 2, 3] rfl rfl) _ (lv_sub hl [2, 1, 0] rfl)

set_option maxHeartbeats 4000000 in
set_option maxRecDepth 100000 in
theorem c_X1_write (l : Launch) (G : va_G) (cI cZ : ClassId) (h0 : Nat) (ht : Nat) (qa : Nat) (qb : Nat) (w0 : Nat) (r0 : Nat) (m0 : Nat) (s0 : Nat) (tb0 : Nat → Int32) (sa0 : Nat → Int32) (sb0 : Nat → Int32) (w : Nat) (n2 : Nat) (z2 : Nat) (hw : w ≤ 3) (hn : 2 ≤ n2) (hn9 : n2 ≤ 9) (hz : z2 ≤ 99) : CM l G cI cZ yX1_write cX1_write 4 none 3 74 0 0 [.ref h0, .int (nI w), .int (nI n2), .int (nI z2)] [(h0, .inr (1, [.ref ht, .int (nI w0), .int (nI r0), .int (nI m0), .int (nI s0), .ref qa, .ref qb])), (ht, .inl (cI, 864, .inl tb0)), (qa, .inl (cI, 9, .inl sa0)), (qb, .inl (cI, 9, .inl sb0))] (fun ov_ wv_ => ∃ tb2 : Nat → Int32, ∃ sa2 : Nat → Int32, ∃ sb2 : Nat → Int32, ov_ = none ∧ wv_ = [(h0, .inr (1, [.ref ht, .int (nI ((lLs w n2 z2).length)), .int (nI (lRd w n2)), .int (nI n2), .int (nI z2), .ref qa, .ref qb])), (ht, .inl (cI, 864, .inl tb2)), (qa, .inl (cI, 9, .inl sa2)), (qb, .inl (cI, 9, .inl sb2))] ∧ (LTc tb2 (lLs w n2 z2))) := by
  refine CM.of (own := RX1) (by decide) rfl (Nat.le_of_ble_eq_true rfl) ?_
  intro p e R s m args below meth c Q A X hR hret hnm hA fin hd ls hl
  subst hR
  have hx := X.1
  have hb := X.2.1
  have hl : lv_has ls 4 [(0, .ref h0), (1, .int (nI w)), (2, .int (nI n2)), (3, .int (nI z2))] := hl
  refine lv_aload_n hx hb dX1_write_0 rfl (lv_at hl 0 rfl) ?_
  refine lv_iconst (v := nI 0) hx hb dX1_write_1 (by decide) ?_
  refine x_put (C := RX1) (T := TX1) (N := 7) (ci := 1) (ty := .int) 1 inT_X1 tyX1 tyX1_ok nmX1 rfl (by decide) lf_X1_15 rfl rfl (by decide +kernel) X hd 0 rfl rfl rfl (Nat.le_of_ble_eq_true rfl) dX1_write_2 (fun H locs hd => ?_)
  have hd : Hd G A s.heap [(h0, .inr (1, [.ref ht, .int (nI 0), .int (nI r0), .int (nI m0), .int (nI s0), .ref qa, .ref qb])), (ht, .inl (cI, 864, .inl tb0)), (qa, .inl (cI, 9, .inl sa0)), (qb, .inl (cI, 9, .inl sb0))] H locs := hd
  refine lv_aload_n hx hb dX1_write_5 rfl (lv_at hl 0 rfl) ?_
  refine lv_iconst (v := nI 0) hx hb dX1_write_6 (by decide) ?_
  refine x_put (C := RX1) (T := TX1) (N := 7) (ci := 1) (ty := .int) 2 inT_X1 tyX1 tyX1_ok nmX1 rfl (by decide) lf_X1_19 rfl rfl (by decide +kernel) X hd 0 rfl rfl rfl (Nat.le_of_ble_eq_true rfl) dX1_write_7 (fun H locs hd => ?_)
  have hd : Hd G A s.heap [(h0, .inr (1, [.ref ht, .int (nI 0), .int (nI 0), .int (nI m0), .int (nI s0), .ref qa, .ref qb])), (ht, .inl (cI, 864, .inl tb0)), (qa, .inl (cI, 9, .inl sa0)), (qb, .inl (cI, 9, .inl sb0))] H locs := hd
  refine lv_aload_n hx hb dX1_write_10 rfl (lv_at hl 0 rfl) ?_
  refine lv_iload_n hx hb dX1_write_11 rfl (lv_at hl 2 rfl) ?_
  refine lv_bipush (v := nI 9) hx hb dX1_write_12 (by decide) ?_
  refine va_mmin hx hb (by rw [X.2.2.1]; exact hl.1.symm) X.2.2.2.1 (X.2.2.2.2.1 _ lo_X1_34) (X.2.2.2.2.1 _ w_minS) (X.2.2.2.2.1 _ w_mathI) (X.2.2.2.2.1 _ w_minC) (by decide) (Nat.le_of_ble_eq_true rfl) (Nat.zero_le _) (Nat.zero_le _) dX1_write_14 ?_
  refine st_eq (show (if (nI 9) < (nI n2) then (nI 9) else (nI n2) : Int32) = nI n2 from by rw [if_neg (nI_nlt (by omega) (by decide))]) ?_
  refine x_put (C := RX1) (T := TX1) (N := 7) (ci := 1) (ty := .int) 3 inT_X1 tyX1 tyX1_ok nmX1 rfl (by decide) lf_X1_22 rfl rfl (by decide +kernel) X hd 0 rfl rfl rfl (Nat.le_of_ble_eq_true rfl) dX1_write_17 (fun H locs hd => ?_)
  have hd : Hd G A s.heap [(h0, .inr (1, [.ref ht, .int (nI 0), .int (nI 0), .int (nI n2), .int (nI s0), .ref qa, .ref qb])), (ht, .inl (cI, 864, .inl tb0)), (qa, .inl (cI, 9, .inl sa0)), (qb, .inl (cI, 9, .inl sb0))] H locs := hd
  refine lv_aload_n hx hb dX1_write_20 rfl (lv_at hl 0 rfl) ?_
  refine lv_iload_n hx hb dX1_write_21 rfl (lv_at hl 3 rfl) ?_
  refine x_put (C := RX1) (T := TX1) (N := 7) (ci := 1) (ty := .int) 4 inT_X1 tyX1 tyX1_ok nmX1 rfl (by decide) lf_X1_25 rfl rfl (by decide +kernel) X hd 0 rfl rfl rfl (Nat.le_of_ble_eq_true rfl) dX1_write_22 (fun H locs hd => ?_)
  have hd : Hd G A s.heap [(h0, .inr (1, [.ref ht, .int (nI 0), .int (nI 0), .int (nI n2), .int (nI z2), .ref qa, .ref qb])), (ht, .inl (cI, 864, .inl tb0)), (qa, .inl (cI, 9, .inl sa0)), (qb, .inl (cI, 9, .inl sb0))] H locs := hd
  refine lv_iload_n hx hb dX1_write_25 rfl (lv_at hl 1 rfl) ?_
  refine n_if_ne (tgt := 36) hx hb dX1_write_26 (by decide) (by omega) (fun c_26 => ?_) (fun c_26 => ?_)
  · refine lv_iload_n hx hb dX1_write_36 rfl (lv_at hl 1 rfl) ?_
    refine lv_iconst (v := nI 1) hx hb dX1_write_37 (by decide) ?_
    refine n_icmp_ne (tgt := 48) hx hb dX1_write_38 (by decide) (by omega) (by omega) (fun c_38 => ?_) (fun c_38 => ?_)
    · refine lv_iload_n hx hb dX1_write_48 rfl (lv_at hl 1 rfl) ?_
      refine lv_iconst (v := nI 2) hx hb dX1_write_49 (by decide) ?_
      refine n_icmp_ne (tgt := 60) hx hb dX1_write_50 (by decide) (by omega) (by omega) (fun c_50 => ?_) (fun c_50 => ?_)
      · refine lv_aload_n hx hb dX1_write_60 rfl (lv_at hl 0 rfl) ?_
        refine cM_V (As := []) (rest := []) (wr := [(qa, .inl (cI, 9, .inl sa0)), (qb, .inl (cI, 9, .inl sb0))]) X (c_X1_writeEach l G cI cZ h0 ht qa qb n2 z2 tb0 (by first | assumption | omega) (by first | assumption | omega) (by first | assumption | omega)) lk_X1_49 hd hA [0, 1] [2, 3] rfl rfl rfl rfl (by decide) rfl rfl hl.1 rfl rfl (Nat.le_of_ble_eq_true rfl) ⟨Nat.le_of_ble_eq_true rfl, Nat.le_of_ble_eq_true rfl⟩ ⟨Nat.le_of_ble_eq_true rfl, Nat.le_of_ble_eq_true rfl⟩ dX1_write_61 (fun v w1 H locs hp hd => ?_)
        obtain ⟨tbx, rfl, rfl, hT⟩ := hp
        have hd : Hd G A s.heap [(qa, .inl (cI, 9, .inl sa0)), (qb, .inl (cI, 9, .inl sb0)), (h0, .inr (1, [.ref ht, .int (nI ((LEach n2 z2).length)), .int (nI 2), .int (nI n2), .int (nI z2), .ref qa, .ref qb])), (ht, .inl (cI, 864, .inl tbx))] H locs := hd
        refine st_all (st' := []) rfl ?_
        exact (fin _ _ [(h0, .inr (1, [.ref ht, .int (nI ((LEach n2 z2).length)), .int (nI 2), .int (nI n2), .int (nI z2), .ref qa, .ref qb])), (ht, .inl (cI, 864, .inl tbx)), (qa, .inl (cI, 9, .inl sa0)), (qb, .inl (cI, 9, .inl sb0))] _ _ (hd.sub [2, 3, 0, 1] rfl rfl)).1 rfl ⟨tbx, sa0, sb0, rfl, by rw [lLs, if_neg c_26, if_neg c_38, if_neg c_50, lRd, if_neg c_26, if_neg c_38, if_neg c_50], (by rw [lLs, if_neg c_26, if_neg c_38, if_neg c_50]; exact hT)⟩ dX1_write_64
      · refine lv_aload_n hx hb dX1_write_53 rfl (lv_at hl 0 rfl) ?_
        refine cM_V (As := []) (rest := []) (wr := [(qa, .inl (cI, 9, .inl sa0)), (qb, .inl (cI, 9, .inl sb0))]) X (c_X1_writeTree l G cI cZ h0 ht qa qb n2 z2 tb0 (by first | assumption | omega) (by first | assumption | omega) (by first | assumption | omega)) lk_X1_46 hd hA [0, 1] [2, 3] rfl rfl rfl rfl (by decide) rfl rfl hl.1 rfl rfl (Nat.le_of_ble_eq_true rfl) ⟨Nat.le_of_ble_eq_true rfl, Nat.le_of_ble_eq_true rfl⟩ ⟨Nat.le_of_ble_eq_true rfl, Nat.le_of_ble_eq_true rfl⟩ dX1_write_54 (fun v w1 H locs hp hd => ?_)
        obtain ⟨tbx, rfl, rfl, hT⟩ := hp
        have hd : Hd G A s.heap [(qa, .inl (cI, 9, .inl sa0)), (qb, .inl (cI, 9, .inl sb0)), (h0, .inr (1, [.ref ht, .int (nI ((LTree n2 z2).length)), .int (nI (dpl n2 + dpl n2)), .int (nI n2), .int (nI z2), .ref qa, .ref qb])), (ht, .inl (cI, 864, .inl tbx))] H locs := hd
        refine st_all (st' := []) rfl ?_
        refine lv_goto (tgt := 64) hx hb dX1_write_57 (by decide) ?_
        exact (fin _ _ [(h0, .inr (1, [.ref ht, .int (nI ((LTree n2 z2).length)), .int (nI (dpl n2 + dpl n2)), .int (nI n2), .int (nI z2), .ref qa, .ref qb])), (ht, .inl (cI, 864, .inl tbx)), (qa, .inl (cI, 9, .inl sa0)), (qb, .inl (cI, 9, .inl sb0))] _ _ (hd.sub [2, 3, 0, 1] rfl rfl)).1 rfl ⟨tbx, sa0, sb0, rfl, by rw [lLs, if_neg c_26, if_neg c_38, if_pos c_50, lRd, if_neg c_26, if_neg c_38, if_pos c_50], (by rw [lLs, if_neg c_26, if_neg c_38, if_pos c_50]; exact hT)⟩ dX1_write_64
    · refine lv_aload_n hx hb dX1_write_41 rfl (lv_at hl 0 rfl) ?_
      refine cM_V (As := []) (rest := []) (wr := []) X (c_X1_writeHalves l G cI cZ h0 ht qa qb n2 z2 tb0 sa0 sb0 (by first | assumption | omega) (by first | assumption | omega) (by first | assumption | omega)) lk_X1_43 hd hA [0, 1, 2, 3] [] rfl rfl rfl rfl (by decide) rfl rfl hl.1 rfl rfl (Nat.le_of_ble_eq_true rfl) ⟨Nat.le_of_ble_eq_true rfl, Nat.le_of_ble_eq_true rfl⟩ ⟨Nat.le_of_ble_eq_true rfl, Nat.le_of_ble_eq_true rfl⟩ dX1_write_42 (fun v w1 H locs hp hd => ?_)
      obtain ⟨tbx, sax, sbx, rfl, rfl, hT⟩ := hp
      have hd : Hd G A s.heap [(h0, .inr (1, [.ref ht, .int (nI ((LHalf n2 z2).length)), .int (nI (rd0 n2 + lg2 (gp2 n2) + lg2 (gp2 n2) + rd0 n2)), .int (nI n2), .int (nI z2), .ref qa, .ref qb])), (ht, .inl (cI, 864, .inl tbx)), (qa, .inl (cI, 9, .inl sax)), (qb, .inl (cI, 9, .inl sbx))] H locs := hd
      refine st_all (st' := []) rfl ?_
      refine lv_goto (tgt := 64) hx hb dX1_write_45 (by decide) ?_
      exact (fin _ _ [(h0, .inr (1, [.ref ht, .int (nI ((LHalf n2 z2).length)), .int (nI (rd0 n2 + lg2 (gp2 n2) + lg2 (gp2 n2) + rd0 n2)), .int (nI n2), .int (nI z2), .ref qa, .ref qb])), (ht, .inl (cI, 864, .inl tbx)), (qa, .inl (cI, 9, .inl sax)), (qb, .inl (cI, 9, .inl sbx))] _ _ (hd.sub [0, 1, 2, 3] rfl rfl)).1 rfl ⟨tbx, sax, sbx, rfl, by rw [lLs, if_neg c_26, if_pos c_38, lRd, if_neg c_26, if_pos c_38], (by rw [lLs, if_neg c_26, if_pos c_38]; exact hT)⟩ dX1_write_64
  · refine lv_aload_n hx hb dX1_write_29 rfl (lv_at hl 0 rfl) ?_
    refine cM_V (As := []) (rest := []) (wr := [(qa, .inl (cI, 9, .inl sa0)), (qb, .inl (cI, 9, .inl sb0))]) X (c_X1_writeRing l G cI cZ h0 ht qa qb n2 z2 tb0 (by first | assumption | omega) (by first | assumption | omega) (by first | assumption | omega)) lk_X1_40 hd hA [0, 1] [2, 3] rfl rfl rfl rfl (by decide) rfl rfl hl.1 rfl rfl (Nat.le_of_ble_eq_true rfl) ⟨Nat.le_of_ble_eq_true rfl, Nat.le_of_ble_eq_true rfl⟩ ⟨Nat.le_of_ble_eq_true rfl, Nat.le_of_ble_eq_true rfl⟩ dX1_write_30 (fun v w1 H locs hp hd => ?_)
    obtain ⟨tbx, rfl, rfl, hT⟩ := hp
    have hd : Hd G A s.heap [(qa, .inl (cI, 9, .inl sa0)), (qb, .inl (cI, 9, .inl sb0)), (h0, .inr (1, [.ref ht, .int (nI ((LRing n2 z2).length)), .int (nI (n2 - 1 + (n2 - 1))), .int (nI n2), .int (nI z2), .ref qa, .ref qb])), (ht, .inl (cI, 864, .inl tbx))] H locs := hd
    refine st_all (st' := []) rfl ?_
    refine lv_goto (tgt := 64) hx hb dX1_write_33 (by decide) ?_
    exact (fin _ _ [(h0, .inr (1, [.ref ht, .int (nI ((LRing n2 z2).length)), .int (nI (n2 - 1 + (n2 - 1))), .int (nI n2), .int (nI z2), .ref qa, .ref qb])), (ht, .inl (cI, 864, .inl tbx)), (qa, .inl (cI, 9, .inl sa0)), (qb, .inl (cI, 9, .inl sb0))] _ _ (hd.sub [2, 3, 0, 1] rfl rfl)).1 rfl ⟨tbx, sa0, sb0, rfl, by rw [lLs, if_pos c_26, lRd, if_pos c_26], (by rw [lLs, if_pos c_26]; exact hT)⟩ dX1_write_64
