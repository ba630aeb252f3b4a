set_option maxHeartbeats 4000000 in
set_option maxRecDepth 100000 in
theorem c_X1_writeTree (l : Launch) (G : va_G) (cI cZ : ClassId) (h0 : Nat) (ht : Nat) (qa : Nat) (qb : Nat) (ln : Nat) (lz : Nat) (tb0 : Nat → Int32) (hn : 2 ≤ ln) (hn9 : ln ≤ 9) (hz : lz ≤ 99) : CM l G cI cZ yX1_writeTree cX1_writeTree 4 none 2 49 0 0 [.ref h0] [(h0, .inr (1, [.ref ht, .int (nI 0), .int (nI 0), .int (nI ln), .int (nI lz), .ref qa, .ref qb])), (ht, .inl (cI, 864, .inl tb0))] (fun ov_ wv_ => ∃ tb2 : Nat → Int32, ov_ = none ∧ wv_ = [(h0, .inr (1, [.ref ht, .int (nI ((LTree ln lz).length)), .int (nI (dpl ln + dpl ln)), .int (nI ln), .int (nI lz), .ref qa, .ref qb])), (ht, .inl (cI, 864, .inl tb2))] ∧ (LTc tb2 (LTree ln lz))) := by
  have hD := dpl_le ln
  refine CM.of (own := RX1) (by decide) rfl (Nat.le_of_ble_eq_true rfl) ?_
  intro p e R s m args below meth c Q A X hR hret hnm hA fin hd ls hl
  subst hR
  have hx := X.1
  have hb := X.2.1
  have hl : lv_has ls 4 [(0, .ref h0)] := hl
  refine lv_aload_n hx hb dX1_writeTree_0 rfl (lv_at hl 0 rfl) ?_
-- NOTE pc 1: cell (h0, .inr (1, [.ref ht, .int (nI 0), .int (nI 0), .int (nI ln), .int (nI lz), .ref qa, .ref qb])) for (h0, .inr (1, [.ref ht, .int (nI (([] : List (List Nat)).length)), .int (nI 0), .int (nI ln), .int (nI lz), .ref qa, .ref qb]))
  refine cR_V (As := []) (rest := []) X (c_X1_deepestLevel l G cI cZ h0 ht qa qb 0 ln lz ([] : List (List Nat)) (by first | assumption | omega)) lk_X1_101 (hd.1.sub (ws' := [(h0, .inr (1, [.ref ht, .int (nI 0), .int (nI 0), .int (nI ln), .int (nI lz), .ref qa, .ref qb]))]) [0] rfl) rfl rfl hl.1 rfl rfl (Nat.le_of_ble_eq_true rfl) ⟨Nat.le_of_ble_eq_true rfl, Nat.le_of_ble_eq_true rfl⟩ ⟨Nat.le_of_ble_eq_true rfl, Nat.le_of_ble_eq_true rfl⟩ dX1_writeTree_1 ?_
  refine lv_istore_n (lv' := [(1, .int (nI (dpl ln))), (0, .ref h0)]) hx hb dX1_writeTree_4 rfl hl (by decide) rfl (fun ls hl => ?_)
  refine lv_iload_n hx hb dX1_writeTree_5 rfl (lv_at hl 0 rfl) ?_
  refine lv_istore_n (lv' := [(2, .int (nI (dpl ln))), (1, .int (nI (dpl ln))), (0, .ref h0)]) hx hb dX1_writeTree_6 rfl hl (by decide) rfl (fun ls hl => ?_)
  have LP7 : ∀ (fu : Nat) (i : Nat) (tb : Nat → Int32), (i ≤ dpl ln) → (LTc tb (tU ln lz i)) → (dpl ln - i) < fu → ∀ (H : Heap) (locs : List Loc), Hd G A s.heap [(h0, .inr (1, [.ref ht, .int (nI ((tU ln lz i).length)), .int (nI i), .int (nI ln), .int (nI lz), .ref qa, .ref qb])), (ht, .inl (cI, 864, .inl tb))] H locs → ∀ (ls : Array Slot), lv_has ls 4 [(0, .ref h0), (1, .int (nI (dpl ln))), (2, .int (nI (dpl ln - i)))] → W p l e ({ frames := 2, cells := 0, slots := 0, locals := 49 } : Room) s m args below meth c H locs 0 0 Q (F0 m 7 ls []) := by
    intro fu
    induction fu with
    | zero =>
      intro i tb hi htb hfu
      exact absurd hfu (Nat.not_lt_zero _)
    | succ fu ih7 =>
      intro i tb hi htb hfu H locs hd ls hl
      refine lv_iload_n hx hb dX1_writeTree_7 rfl (lv_at hl 2 rfl) ?_
      refine lv_iconst (v := nI 1) hx hb dX1_writeTree_8 (by decide) ?_
      refine n_icmp_lt (tgt := 61) hx hb dX1_writeTree_9 (by decide) (by omega) (by omega) (fun c_9 => ?_) (fun c_9 => ?_)
      · refine lv_iconst (v := nI 1) hx hb dX1_writeTree_61 (by decide) ?_
        refine lv_istore_n (lv' := [(2, .int (nI 1)), (0, .ref h0), (1, .int (nI (dpl ln)))]) hx hb dX1_writeTree_62 rfl hl (by decide) rfl (fun ls hl => ?_)
        have LP63 : ∀ (fu : Nat) (i : Nat) (tb : Nat → Int32), (i ≤ dpl ln) → (LTc tb (tD ln lz i)) → (dpl ln - i) < fu → ∀ (H : Heap) (locs : List Loc), Hd G A s.heap [(h0, .inr (1, [.ref ht, .int (nI ((tD ln lz i).length)), .int (nI (dpl ln + i)), .int (nI ln), .int (nI lz), .ref qa, .ref qb])), (ht, .inl (cI, 864, .inl tb))] H locs → ∀ (ls : Array Slot), lv_has ls 4 [(0, .ref h0), (1, .int (nI (dpl ln))), (2, .int (nI (i + 1)))] → W p l e ({ frames := 2, cells := 0, slots := 0, locals := 49 } : Room) s m args below meth c H locs 0 0 Q (F0 m 63 ls []) := by
          intro fu
          induction fu with
          | zero =>
            intro i tb hi htb hfu
            exact absurd hfu (Nat.not_lt_zero _)
          | succ fu ih63 =>
            intro i tb hi htb hfu H locs hd ls hl
            refine lv_iload_n hx hb dX1_writeTree_63 rfl (lv_at hl 2 rfl) ?_
            refine lv_iload_n hx hb dX1_writeTree_64 rfl (lv_at hl 1 rfl) ?_
            refine n_icmp_gt (tgt := 117) hx hb dX1_writeTree_65 (by decide) (by omega) (by omega) (fun c_65 => ?_) (fun c_65 => ?_)
            · exact (fin _ _ [(h0, .inr (1, [.ref ht, .int (nI ((tD ln lz i).length)), .int (nI (dpl ln + i)), .int (nI ln), .int (nI lz), .ref qa, .ref qb])), (ht, .inl (cI, 864, .inl tb))] _ _ (hd.sub [0, 1] rfl rfl)).1 rfl ⟨tb, rfl, by rw [LTree, show i = dpl ln by omega], (by rw [LTree]; rw [show i = dpl ln by omega] at htb; exact htb)⟩ dX1_writeTree_117
            · have hp := p2ge (show 1 ≤ i + 1 by omega)
              have hp2 : 2 ^ (i + 1 + 1) = 2 * 2 ^ (i + 1) := by rw [Nat.pow_succ, Nat.mul_comm]
              have hp3 : 2 ^ (i + 1) ≤ 8 := Nat.pow_le_pow_right (n := 2) (j := 3) (by decide) (by omega)
              have htc : tcn ln (i + 1) = min ln (2 ^ (i + 1 + 1) - 1) - (2 ^ (i + 1) - 1) := rfl
              refine lv_iload_n hx hb dX1_writeTree_68 rfl (lv_at hl 2 rfl) ?_
              refine cR_S (As := [.int (nI (i + 1))]) (rest := []) X (c_X1_firstOnLevel l G cI cZ (i + 1) (by first | assumption | omega)) lk_X1_104 (hd.1.sub (ws' := []) [] rfl) hl.1 rfl rfl (Nat.le_of_ble_eq_true rfl) ⟨Nat.le_of_ble_eq_true rfl, Nat.le_of_ble_eq_true rfl⟩ ⟨Nat.le_of_ble_eq_true rfl, Nat.le_of_ble_eq_true rfl⟩ dX1_writeTree_69 ?_
              refine lv_istore_n (lv' := [(3, .int (nI (2 ^ (i + 1) - 1))), (0, .ref h0), (1, .int (nI (dpl ln))), (2, .int (nI (i + 1)))]) hx hb dX1_writeTree_72 rfl hl (by decide) rfl (fun ls hl => ?_)
              have LP73 : ∀ (fu : Nat) (j : Nat) (tb : Nat → Int32), (j ≤ tcn ln (i + 1)) → (LTc tb (bld (tD ln lz i) (tF2 lz (dpl ln + i) (i + 1)) j)) → (tcn ln (i + 1) - j) < fu → ∀ (H : Heap) (locs : List Loc), Hd G A s.heap [(h0, .inr (1, [.ref ht, .int (nI ((bld (tD ln lz i) (tF2 lz (dpl ln + i) (i + 1)) j).length)), .int (nI (dpl ln + i)), .int (nI ln), .int (nI lz), .ref qa, .ref qb])), (ht, .inl (cI, 864, .inl tb))] H locs → ∀ (ls : Array Slot), lv_has ls 4 [(0, .ref h0), (1, .int (nI (dpl ln))), (2, .int (nI (i + 1))), (3, .int (nI (2 ^ (i + 1) - 1 + j)))] → W p l e ({ frames := 2, cells := 0, slots := 0, locals := 49 } : Room) s m args below meth c H locs 0 0 Q (F0 m 73 ls []) := by
                intro fu
                induction fu with
                | zero =>
                  intro j tb hj htb hfu
                  exact absurd hfu (Nat.not_lt_zero _)
                | succ fu ih73 =>
                  intro j tb hj htb hfu H locs hd ls hl
                  refine lv_iload_n hx hb dX1_writeTree_73 rfl (lv_at hl 3 rfl) ?_
                  refine lv_aload_n hx hb dX1_writeTree_74 rfl (lv_at hl 0 rfl) ?_
                  refine x_get (C := RX1) (T := TX1) (N := 7) (ci := 1) 3 inT_X1 rfl (by decide) lf_X1_22 rfl X hd.1 0 rfl rfl dX1_writeTree_75 ?_
                  refine n_icmp_ge (tgt := 107) hx hb dX1_writeTree_78 (by decide) (by omega) (by omega) (fun c_78 => ?_) (fun c_78 => ?_)
                  · rw [show (bld (tD ln lz i) (tF2 lz (dpl ln + i) (i + 1)) j) = tD ln lz (i + 1) from by rw [show j = tcn ln (i + 1) by omega]; rfl] at hd htb
                    have hd : Hd G A s.heap [(h0, .inr (1, [.ref ht, .int (nI ((tD ln lz (i + 1)).length)), .int (nI (dpl ln + i)), .int (nI ln), .int (nI lz), .ref qa, .ref qb])), (ht, .inl (cI, 864, .inl tb))] H locs := hd
                    refine lv_aload_n hx hb dX1_writeTree_107 rfl (lv_at hl 0 rfl) ?_
                    refine cM_V (As := []) (rest := []) (wr := [(ht, .inl (cI, 864, .inl tb))]) X (c_X1_endRound l G cI cZ h0 ht qa qb (dpl ln + i) ln lz ((tD ln lz (i + 1)).length) ) lk_X1_75 hd hA [0] [1] rfl rfl rfl rfl (by decide) rfl rfl hl.1 rfl rfl (Nat.le_of_ble_eq_true rfl) ⟨Nat.le_of_ble_eq_true rfl, Nat.le_of_ble_eq_true rfl⟩ ⟨Nat.le_of_ble_eq_true rfl, Nat.le_of_ble_eq_true rfl⟩ dX1_writeTree_108 (fun v w1 H locs hp hd => ?_)
                    obtain ⟨rfl, rfl⟩ := hp
                    have hd : Hd G A s.heap [(ht, .inl (cI, 864, .inl tb)), (h0, .inr (1, [.ref ht, .int (nI ((tD ln lz (i + 1)).length)), .int (nI ((dpl ln + i) + 1)), .int (nI ln), .int (nI lz), .ref qa, .ref qb]))] H locs := hd
                    refine st_all (st' := []) rfl ?_
                    refine lv_iinc (v := nI (i + 1 + 1)) (lv' := [(2, .int (nI (i + 1 + 1))), (0, .ref h0), (1, .int (nI (dpl ln))), (3, .int (nI (2 ^ (i + 1) - 1 + j)))]) hx hb dX1_writeTree_111 hl (k := 2) rfl (nI_1 _) (by decide) rfl (fun ls hl => ?_)
                    refine lv_goto (tgt := 63) hx hb dX1_writeTree_114 (by decide) ?_
                    have hl : lv_has ls 4 [(2, .int (nI ((i + 1) + 1))), (0, .ref h0), (1, .int (nI (dpl ln))), (3, .int (nI (2 ^ (i + 1) - 1 + j)))] := lv_rep hl (congrArg (fun z_ : Int32 => ([(2, .int z_), (0, .ref h0), (1, .int (nI (dpl ln))), (3, .int (nI (2 ^ (i + 1) - 1 + j)))] : List (Nat × Value))) (show (nI (i + 1 + 1) : Int32) = nI ((i + 1) + 1) from rfl))
                    have hd : Hd G A s.heap [(ht, .inl (cI, 864, .inl tb)), (h0, .inr (1, [.ref ht, .int (nI ((tD ln lz (i + 1)).length)), .int (nI (dpl ln + (i + 1))), .int (nI ln), .int (nI lz), .ref qa, .ref qb]))] H locs := hd.cong (congrArg (fun z_ : Int32 => ([(ht, .inl (cI, 864, .inl tb)), (h0, .inr (1, [.ref ht, .int (nI ((tD ln lz (i + 1)).length)), .int z_, .int (nI ln), .int (nI lz), .ref qa, .ref qb]))] : va_W)) (show (nI ((dpl ln + i) + 1) : Int32) = nI (dpl ln + (i + 1)) from by first | rfl | (congr 1; omega)))
                    exact ih63  (i + 1) tb (by omega) htb (by omega) _ _ (hd.sub [1, 0] rfl rfl) _ (lv_sub hl [1, 2, 0] rfl)
                  · refine lv_iload_n hx hb dX1_writeTree_81 rfl (lv_at hl 3 rfl) ?_
                    refine lv_iload_n hx hb dX1_writeTree_82 rfl (lv_at hl 2 rfl) ?_
                    refine lv_iconst (v := nI 1) hx hb dX1_writeTree_83 (by decide) ?_
                    refine n_add hx hb dX1_writeTree_84  ?_
                    refine cR_S (As := [.int (nI ((i + 1) + 1))]) (rest := [.int (nI (2 ^ (i + 1) - 1 + j))]) X (c_X1_firstOnLevel l G cI cZ ((i + 1) + 1) (by first | assumption | omega)) lk_X1_104 (hd.1.sub (ws' := []) [] rfl) hl.1 rfl rfl (Nat.le_of_ble_eq_true rfl) ⟨Nat.le_of_ble_eq_true rfl, Nat.le_of_ble_eq_true rfl⟩ ⟨Nat.le_of_ble_eq_true rfl, Nat.le_of_ble_eq_true rfl⟩ dX1_writeTree_85 ?_
                    refine n_icmp_ge (tgt := 107) hx hb dX1_writeTree_88 (by decide) (by omega) (by omega) (fun c_88 => ?_) (fun c_88 => ?_)
                    · rw [show (bld (tD ln lz i) (tF2 lz (dpl ln + i) (i + 1)) j) = tD ln lz (i + 1) from by rw [show j = tcn ln (i + 1) by omega]; rfl] at hd htb
                      have hd : Hd G A s.heap [(h0, .inr (1, [.ref ht, .int (nI ((tD ln lz (i + 1)).length)), .int (nI (dpl ln + i)), .int (nI ln), .int (nI lz), .ref qa, .ref qb])), (ht, .inl (cI, 864, .inl tb))] H locs := hd
                      refine lv_aload_n hx hb dX1_writeTree_107 rfl (lv_at hl 0 rfl) ?_
                      refine cM_V (As := []) (rest := []) (wr := [(ht, .inl (cI, 864, .inl tb))]) X (c_X1_endRound l G cI cZ h0 ht qa qb (dpl ln + i) ln lz ((tD ln lz (i + 1)).length) ) lk_X1_75 hd hA [0] [1] rfl rfl rfl rfl (by decide) rfl rfl hl.1 rfl rfl (Nat.le_of_ble_eq_true rfl) ⟨Nat.le_of_ble_eq_true rfl, Nat.le_of_ble_eq_true rfl⟩ ⟨Nat.le_of_ble_eq_true rfl, Nat.le_of_ble_eq_true rfl⟩ dX1_writeTree_108 (fun v w1 H locs hp hd => ?_)
                      obtain ⟨rfl, rfl⟩ := hp
                      have hd : Hd G A s.heap [(ht, .inl (cI, 864, .inl tb)), (h0, .inr (1, [.ref ht, .int (nI ((tD ln lz (i + 1)).length)), .int (nI ((dpl ln + i) + 1)), .int (nI ln), .int (nI lz), .ref qa, .ref qb]))] H locs := hd
                      refine st_all (st' := []) rfl ?_
                      refine lv_iinc (v := nI (i + 1 + 1)) (lv' := [(2, .int (nI (i + 1 + 1))), (0, .ref h0), (1, .int (nI (dpl ln))), (3, .int (nI (2 ^ (i + 1) - 1 + j)))]) hx hb dX1_writeTree_111 hl (k := 2) rfl (nI_1 _) (by decide) rfl (fun ls hl => ?_)
                      refine lv_goto (tgt := 63) hx hb dX1_writeTree_114 (by decide) ?_
                      have hl : lv_has ls 4 [(2, .int (nI ((i + 1) + 1))), (0, .ref h0), (1, .int (nI (dpl ln))), (3, .int (nI (2 ^ (i + 1) - 1 + j)))] := lv_rep hl (congrArg (fun z_ : Int32 => ([(2, .int z_), (0, .ref h0), (1, .int (nI (dpl ln))), (3, .int (nI (2 ^ (i + 1) - 1 + j)))] : List (Nat × Value))) (show (nI (i + 1 + 1) : Int32) = nI ((i + 1) + 1) from rfl))
                      have hd : Hd G A s.heap [(ht, .inl (cI, 864, .inl tb)), (h0, .inr (1, [.ref ht, .int (nI ((tD ln lz (i + 1)).length)), .int (nI (dpl ln + (i + 1))), .int (nI ln), .int (nI lz), .ref qa, .ref qb]))] H locs := hd.cong (congrArg (fun z_ : Int32 => ([(ht, .inl (cI, 864, .inl tb)), (h0, .inr (1, [.ref ht, .int (nI ((tD ln lz (i + 1)).length)), .int z_, .int (nI ln), .int (nI lz), .ref qa, .ref qb]))] : va_W)) (show (nI ((dpl ln + i) + 1) : Int32) = nI (dpl ln + (i + 1)) from by first | rfl | (congr 1; omega)))
                      exact ih63  (i + 1) tb (by omega) htb (by omega) _ _ (hd.sub [1, 0] rfl rfl) _ (lv_sub hl [1, 2, 0] rfl)
                    · refine lv_aload_n hx hb dX1_writeTree_91 rfl (lv_at hl 0 rfl) ?_
                      refine lv_iload_n hx hb dX1_writeTree_92 rfl (lv_at hl 3 rfl) ?_
                      refine cR_S (As := [.int (nI (2 ^ (i + 1) - 1 + j))]) (rest := [.ref h0]) X (c_X1_upper l G cI cZ (2 ^ (i + 1) - 1 + j) (by first | assumption | omega) (by first | assumption | omega)) lk_X1_107 (hd.1.sub (ws' := []) [] rfl) hl.1 rfl rfl (Nat.le_of_ble_eq_true rfl) ⟨Nat.le_of_ble_eq_true rfl, Nat.le_of_ble_eq_true rfl⟩ ⟨Nat.le_of_ble_eq_true rfl, Nat.le_of_ble_eq_true rfl⟩ dX1_writeTree_93 ?_
                      refine lv_iload_n hx hb dX1_writeTree_96 rfl (lv_at hl 3 rfl) ?_
                      refine lv_iconst (v := nI 2) hx hb dX1_writeTree_97 (by decide) ?_
                      refine cM_V (As := [.int (nI (((2 ^ (i + 1) - 1 + j) - 1) / 2)), .int (nI (2 ^ (i + 1) - 1 + j)), .int (nI 2)]) (rest := []) (wr := []) X (c_X1_sendWhole l G cI cZ h0 ht qa qb (dpl ln + i) ln lz (bld (tD ln lz i) (tF2 lz (dpl ln + i) (i + 1)) j) tb (((2 ^ (i + 1) - 1 + j) - 1) / 2) (2 ^ (i + 1) - 1 + j) 2 (by first | assumption | omega) (by rw [bld_len]; have := tD_len (z := lz) hn9 i; omega)) lk_X1_85 hd hA [0, 1] [] rfl rfl rfl rfl (by decide) rfl rfl hl.1 rfl rfl (Nat.le_of_ble_eq_true rfl) ⟨Nat.le_of_ble_eq_true rfl, Nat.le_of_ble_eq_true rfl⟩ ⟨Nat.le_of_ble_eq_true rfl, Nat.le_of_ble_eq_true rfl⟩ dX1_writeTree_98 (fun v w1 H locs hp hd => ?_)
                      obtain ⟨tb98, rfl, rfl, hT98⟩ := hp
                      have hd : Hd G A s.heap [(h0, .inr (1, [.ref ht, .int (nI (((bld (tD ln lz i) (tF2 lz (dpl ln + i) (i + 1)) j) ++ [[(dpl ln + i), (((2 ^ (i + 1) - 1 + j) - 1) / 2), (2 ^ (i + 1) - 1 + j), 0, lz, 2]]).length)), .int (nI (dpl ln + i)), .int (nI ln), .int (nI lz), .ref qa, .ref qb])), (ht, .inl (cI, 864, .inl tb98))] H locs := hd
                      refine st_all (st' := []) rfl ?_
                      rw [show ((bld (tD ln lz i) (tF2 lz (dpl ln + i) (i + 1)) j) ++ [[(dpl ln + i), (((2 ^ (i + 1) - 1 + j) - 1) / 2), (2 ^ (i + 1) - 1 + j), 0, lz, 2]]) = bld (tD ln lz i) (tF2 lz (dpl ln + i) (i + 1)) (j + 1) from rfl] at hd hT98
                      have hd : Hd G A s.heap [(h0, .inr (1, [.ref ht, .int (nI ((bld (tD ln lz i) (tF2 lz (dpl ln + i) (i + 1)) (j + 1)).length)), .int (nI (dpl ln + i)), .int (nI ln), .int (nI lz), .ref qa, .ref qb])), (ht, .inl (cI, 864, .inl tb98))] H locs := hd
                      refine lv_iinc (v := nI ((2 ^ (i + 1) - 1 + j) + 1)) (lv' := [(3, .int (nI ((2 ^ (i + 1) - 1 + j) + 1))), (0, .ref h0), (1, .int (nI (dpl ln))), (2, .int (nI (i + 1)))]) hx hb dX1_writeTree_101 hl (k := 3) rfl (nI_1 _) (by decide) rfl (fun ls hl => ?_)
                      refine lv_goto (tgt := 73) hx hb dX1_writeTree_104 (by decide) ?_
                      have hl : lv_has ls 4 [(3, .int (nI (2 ^ (i + 1) - 1 + (j + 1)))), (0, .ref h0), (1, .int (nI (dpl ln))), (2, .int (nI (i + 1)))] := lv_rep hl (congrArg (fun z_ : Int32 => ([(3, .int z_), (0, .ref h0), (1, .int (nI (dpl ln))), (2, .int (nI (i + 1)))] : List (Nat × Value))) (show (nI ((2 ^ (i + 1) - 1 + j) + 1) : Int32) = nI (2 ^ (i + 1) - 1 + (j + 1)) from by first | rfl | (congr 1; omega)))
                      exact ih73  (j + 1) tb98 (by omega) hT98 (by omega) _ _ (hd.sub [0, 1] rfl rfl) _ (lv_sub hl [1, 2, 3, 0] rfl)
              have hl : lv_has ls 4 [(3, .int (nI (2 ^ (i + 1) - 1 + 0))), (0, .ref h0), (1, .int (nI (dpl ln))), (2, .int (nI (i + 1)))] := lv_rep hl (congrArg (fun z_ : Int32 => ([(3, .int z_), (0, .ref h0), (1, .int (nI (dpl ln))), (2, .int (nI (i + 1)))] : List (Nat × Value))) (show (nI (2 ^ (i + 1) - 1) : Int32) = nI (2 ^ (i + 1) - 1 + 0) from rfl))
              have hd : Hd G A s.heap [(h0, .inr (1, [.ref ht, .int (nI ((bld (tD ln lz i) (tF2 lz (dpl ln + i) (i + 1)) 0).length)), .int (nI (dpl ln + i)), .int (nI ln), .int (nI lz), .ref qa, .ref qb])), (ht, .inl (cI, 864, .inl tb))] H locs := hd.cong (congrArg (fun z_ : Int32 => ([(h0, .inr (1, [.ref ht, .int z_, .int (nI (dpl ln + i)), .int (nI ln), .int (nI lz), .ref qa, .ref qb])), (ht, .inl (cI, 864, .inl tb))] : va_W)) (show (nI ((tD ln lz i).length) : Int32) = nI ((bld (tD ln lz i) (tF2 lz (dpl ln + i) (i + 1)) 0).length) from rfl))
              exact LP73 ((tcn ln (i + 1) - 0) + 1) 0 tb (Nat.zero_le _) htb (Nat.lt_succ_self _) _ _ (hd.sub [0, 1] rfl rfl) _ (lv_sub hl [1, 2, 3, 0] rfl)
        have hl : lv_has ls 4 [(2, .int (nI (0 + 1))), (0, .ref h0), (1, .int (nI (dpl ln)))] := lv_rep hl (congrArg (fun z_ : Int32 => ([(2, .int z_), (0, .ref h0), (1, .int (nI (dpl ln)))] : List (Nat × Value))) (show (nI 1 : Int32) = nI (0 + 1) from rfl))
        have hd : Hd G A s.heap [(h0, .inr (1, [.ref ht, .int (nI ((tD ln lz 0).length)), .int (nI i), .int (nI ln), .int (nI lz), .ref qa, .ref qb])), (ht, .inl (cI, 864, .inl tb))] H locs := hd.cong (congrArg (fun z_ : Int32 => ([(h0, .inr (1, [.ref ht, .int z_, .int (nI i), .int (nI ln), .int (nI lz), .ref qa, .ref qb])), (ht, .inl (cI, 864, .inl tb))] : va_W)) (show (nI ((tU ln lz i).length) : Int32) = nI ((tD ln lz 0).length) from by rw [tD, show dpl ln = i by omega]))
        have hd : Hd G A s.heap [(h0, .inr (1, [.ref ht, .int (nI ((tD ln lz 0).length)), .int (nI (dpl ln + 0)), .int (nI ln), .int (nI lz), .ref qa, .ref qb])), (ht, .inl (cI, 864, .inl tb))] H locs := hd.cong (congrArg (fun z_ : Int32 => ([(h0, .inr (1, [.ref ht, .int (nI ((tD ln lz 0).length)), .int z_, .int (nI ln), .int (nI lz), .ref qa, .ref qb])), (ht, .inl (cI, 864, .inl tb))] : va_W)) (show (nI i : Int32) = nI (dpl ln + 0) from by rw [show dpl ln = i by omega]; rfl))
        exact LP63 ((dpl ln - 0) + 1) 0 tb (by omega) (by rw [tD, show dpl ln = i by omega]; exact htb) (Nat.lt_succ_self _) _ _ (hd.sub [0, 1] rfl rfl) _ (lv_sub hl [1, 2, 0] rfl)
      · have hp := p2ge c_9
        have hp2 : 2 ^ (dpl ln - i + 1) = 2 * 2 ^ (dpl ln - i) := by rw [Nat.pow_succ, Nat.mul_comm]
        have hp3 : 2 ^ (dpl ln - i) ≤ 8 := Nat.pow_le_pow_right (n := 2) (j := 3) (by decide) (by omega)
        have htc : tcn ln (dpl ln - i) = min ln (2 ^ (dpl ln - i + 1) - 1) - (2 ^ (dpl ln - i) - 1) := rfl
        refine lv_iload_n hx hb dX1_writeTree_12 rfl (lv_at hl 2 rfl) ?_
        refine cR_S (As := [.int (nI (dpl ln - i))]) (rest := []) X (c_X1_firstOnLevel l G cI cZ (dpl ln - i) (by first | assumption | omega)) lk_X1_104 (hd.1.sub (ws' := []) [] rfl) hl.1 rfl rfl (Nat.le_of_ble_eq_true rfl) ⟨Nat.le_of_ble_eq_true rfl, Nat.le_of_ble_eq_true rfl⟩ ⟨Nat.le_of_ble_eq_true rfl, Nat.le_of_ble_eq_true rfl⟩ dX1_writeTree_13 ?_
        refine lv_istore_n (lv' := [(3, .int (nI (2 ^ (dpl ln - i) - 1))), (0, .ref h0), (1, .int (nI (dpl ln))), (2, .int (nI (dpl ln - i)))]) hx hb dX1_writeTree_16 rfl hl (by decide) rfl (fun ls hl => ?_)
        have LP17 : ∀ (fu : Nat) (j : Nat) (tb : Nat → Int32), (j ≤ tcn ln (dpl ln - i)) → (LTc tb (bld (tU ln lz i) (tF1 lz i (dpl ln - i)) j)) → (tcn ln (dpl ln - i) - j) < fu → ∀ (H : Heap) (locs : List Loc), Hd G A s.heap [(h0, .inr (1, [.ref ht, .int (nI ((bld (tU ln lz i) (tF1 lz i (dpl ln - i)) j).length)), .int (nI i), .int (nI ln), .int (nI lz), .ref qa, .ref qb])), (ht, .inl (cI, 864, .inl tb))] H locs → ∀ (ls : Array Slot), lv_has ls 4 [(0, .ref h0), (1, .int (nI (dpl ln))), (2, .int (nI (dpl ln - i))), (3, .int (nI (2 ^ (dpl ln - i) - 1 + j)))] → W p l e ({ frames := 2, cells := 0, slots := 0, locals := 49 } : Room) s m args below meth c H locs 0 0 Q (F0 m 17 ls []) := by
          intro fu
          induction fu with
          | zero =>
            intro j tb hj htb hfu
            exact absurd hfu (Nat.not_lt_zero _)
          | succ fu ih17 =>
            intro j tb hj htb hfu H locs hd ls hl
            refine lv_iload_n hx hb dX1_writeTree_17 rfl (lv_at hl 3 rfl) ?_
            refine lv_aload_n hx hb dX1_writeTree_18 rfl (lv_at hl 0 rfl) ?_
            refine x_get (C := RX1) (T := TX1) (N := 7) (ci := 1) 3 inT_X1 rfl (by decide) lf_X1_22 rfl X hd.1 0 rfl rfl dX1_writeTree_19 ?_
            refine n_icmp_ge (tgt := 51) hx hb dX1_writeTree_22 (by decide) (by omega) (by omega) (fun c_22 => ?_) (fun c_22 => ?_)
            · rw [show (bld (tU ln lz i) (tF1 lz i (dpl ln - i)) j) = tU ln lz (i + 1) from by rw [show j = tcn ln (dpl ln - i) by omega]; rfl] at hd htb
              have hd : Hd G A s.heap [(h0, .inr (1, [.ref ht, .int (nI ((tU ln lz (i + 1)).length)), .int (nI i), .int (nI ln), .int (nI lz), .ref qa, .ref qb])), (ht, .inl (cI, 864, .inl tb))] H locs := hd
              refine lv_aload_n hx hb dX1_writeTree_51 rfl (lv_at hl 0 rfl) ?_
              refine cM_V (As := []) (rest := []) (wr := [(ht, .inl (cI, 864, .inl tb))]) X (c_X1_endRound l G cI cZ h0 ht qa qb i ln lz ((tU ln lz (i + 1)).length) ) lk_X1_75 hd hA [0] [1] rfl rfl rfl rfl (by decide) rfl rfl hl.1 rfl rfl (Nat.le_of_ble_eq_true rfl) ⟨Nat.le_of_ble_eq_true rfl, Nat.le_of_ble_eq_true rfl⟩ ⟨Nat.le_of_ble_eq_true rfl, Nat.le_of_ble_eq_true rfl⟩ dX1_writeTree_52 (fun v w1 H locs hp hd => ?_)
              obtain ⟨rfl, rfl⟩ := hp
              have hd : Hd G A s.heap [(ht, .inl (cI, 864, .inl tb)), (h0, .inr (1, [.ref ht, .int (nI ((tU ln lz (i + 1)).length)), .int (nI (i + 1)), .int (nI ln), .int (nI lz), .ref qa, .ref qb]))] H locs := hd
              refine st_all (st' := []) rfl ?_
              refine lv_iinc (v := (nI (dpl ln - i)) + (-1)) (lv' := [(2, .int ((nI (dpl ln - i)) + (-1))), (0, .ref h0), (1, .int (nI (dpl ln))), (3, .int (nI (2 ^ (dpl ln - i) - 1 + j)))]) hx hb dX1_writeTree_55 hl (k := 2) rfl (rfl) (by decide) rfl (fun ls hl => ?_)
              refine lv_goto (tgt := 7) hx hb dX1_writeTree_58 (by decide) ?_
              have hl : lv_has ls 4 [(2, .int (nI (dpl ln - (i + 1)))), (0, .ref h0), (1, .int (nI (dpl ln))), (3, .int (nI (2 ^ (dpl ln - i) - 1 + j)))] := lv_rep hl (congrArg (fun z_ : Int32 => ([(2, .int z_), (0, .ref h0), (1, .int (nI (dpl ln))), (3, .int (nI (2 ^ (dpl ln - i) - 1 + j)))] : List (Nat × Value))) (show ((nI (dpl ln - i)) + (-1) : Int32) = nI (dpl ln - (i + 1)) from by rw [sb_m1 (by omega)]; rfl))
              exact ih7  (i + 1) tb (by omega) htb (by omega) _ _ (hd.sub [1, 0] rfl rfl) _ (lv_sub hl [1, 2, 0] rfl)
            · refine lv_iload_n hx hb dX1_writeTree_25 rfl (lv_at hl 3 rfl) ?_
              refine lv_iload_n hx hb dX1_writeTree_26 rfl (lv_at hl 2 rfl) ?_
              refine lv_iconst (v := nI 1) hx hb dX1_writeTree_27 (by decide) ?_
              refine n_add hx hb dX1_writeTree_28  ?_
              refine cR_S (As := [.int (nI ((dpl ln - i) + 1))]) (rest := [.int (nI (2 ^ (dpl ln - i) - 1 + j))]) X (c_X1_firstOnLevel l G cI cZ ((dpl ln - i) + 1) (by first | assumption | omega)) lk_X1_104 (hd.1.sub (ws' := []) [] rfl) hl.1 rfl rfl (Nat.le_of_ble_eq_true rfl) ⟨Nat.le_of_ble_eq_true rfl, Nat.le_of_ble_eq_true rfl⟩ ⟨Nat.le_of_ble_eq_true rfl, Nat.le_of_ble_eq_true rfl⟩ dX1_writeTree_29 ?_
              refine n_icmp_ge (tgt := 51) hx hb dX1_writeTree_32 (by decide) (by omega) (by omega) (fun c_32 => ?_) (fun c_32 => ?_)
              · rw [show (bld (tU ln lz i) (tF1 lz i (dpl ln - i)) j) = tU ln lz (i + 1) from by rw [show j = tcn ln (dpl ln - i) by omega]; rfl] at hd htb
                have hd : Hd G A s.heap [(h0, .inr (1, [.ref ht, .int (nI ((tU ln lz (i + 1)).length)), .int (nI i), .int (nI ln), .int (nI lz), .ref qa, .ref qb])), (ht, .inl (cI, 864, .inl tb))] H locs := hd
                refine lv_aload_n hx hb dX1_writeTree_51 rfl (lv_at hl 0 rfl) ?_
                refine cM_V (As := []) (rest := []) (wr := [(ht, .inl (cI, 864, .inl tb))]) X (c_X1_endRound l G cI cZ h0 ht qa qb i ln lz ((tU ln lz (i + 1)).length) ) lk_X1_75 hd hA [0] [1] rfl rfl rfl rfl (by decide) rfl rfl hl.1 rfl rfl (Nat.le_of_ble_eq_true rfl) ⟨Nat.le_of_ble_eq_true rfl, Nat.le_of_ble_eq_true rfl⟩ ⟨Nat.le_of_ble_eq_true rfl, Nat.le_of_ble_eq_true rfl⟩ dX1_writeTree_52 (fun v w1 H locs hp hd => ?_)
                obtain ⟨rfl, rfl⟩ := hp
                have hd : Hd G A s.heap [(ht, .inl (cI, 864, .inl tb)), (h0, .inr (1, [.ref ht, .int (nI ((tU ln lz (i + 1)).length)), .int (nI (i + 1)), .int (nI ln), .int (nI lz), .ref qa, .ref qb]))] H locs := hd
                refine st_all (st' := []) rfl ?_
                refine lv_iinc (v := (nI (dpl ln - i)) + (-1)) (lv' := [(2, .int ((nI (dpl ln - i)) + (-1))), (0, .ref h0), (1, .int (nI (dpl ln))), (3, .int (nI (2 ^ (dpl ln - i) - 1 + j)))]) hx hb dX1_writeTree_55 hl (k := 2) rfl (rfl) (by decide) rfl (fun ls hl => ?_)
                refine lv_goto (tgt := 7) hx hb dX1_writeTree_58 (by decide) ?_
                have hl : lv_has ls 4 [(2, .int (nI (dpl ln - (i + 1)))), (0, .ref h0), (1, .int (nI (dpl ln))), (3, .int (nI (2 ^ (dpl ln - i) - 1 + j)))] := lv_rep hl (congrArg (fun z_ : Int32 => ([(2, .int z_), (0, .ref h0), (1, .int (nI (dpl ln))), (3, .int (nI (2 ^ (dpl ln - i) - 1 + j)))] : List (Nat × Value))) (show ((nI (dpl ln - i)) + (-1) : Int32) = nI (dpl ln - (i + 1)) from by rw [sb_m1 (by omega)]; rfl))
                exact ih7  (i + 1) tb (by omega) htb (by omega) _ _ (hd.sub [1, 0] rfl rfl) _ (lv_sub hl [1, 2, 0] rfl)
              · refine lv_aload_n hx hb dX1_writeTree_35 rfl (lv_at hl 0 rfl) ?_
                refine lv_iload_n hx hb dX1_writeTree_36 rfl (lv_at hl 3 rfl) ?_
                refine lv_iload_n hx hb dX1_writeTree_37 rfl (lv_at hl 3 rfl) ?_
                refine cR_S (As := [.int (nI (2 ^ (dpl ln - i) - 1 + j))]) (rest := [.int (nI (2 ^ (dpl ln - i) - 1 + j)), .ref h0]) X (c_X1_upper l G cI cZ (2 ^ (dpl ln - i) - 1 + j) (by first | assumption | omega) (by first | assumption | omega)) lk_X1_107 (hd.1.sub (ws' := []) [] rfl) hl.1 rfl rfl (Nat.le_of_ble_eq_true rfl) ⟨Nat.le_of_ble_eq_true rfl, Nat.le_of_ble_eq_true rfl⟩ ⟨Nat.le_of_ble_eq_true rfl, Nat.le_of_ble_eq_true rfl⟩ dX1_writeTree_38 ?_
                refine lv_iconst (v := nI 0) hx hb dX1_writeTree_41 (by decide) ?_
                refine cM_V (As := [.int (nI (2 ^ (dpl ln - i) - 1 + j)), .int (nI (((2 ^ (dpl ln - i) - 1 + j) - 1) / 2)), .int (nI 0)]) (rest := []) (wr := []) X (c_X1_sendWhole l G cI cZ h0 ht qa qb i ln lz (bld (tU ln lz i) (tF1 lz i (dpl ln - i)) j) tb (2 ^ (dpl ln - i) - 1 + j) (((2 ^ (dpl ln - i) - 1 + j) - 1) / 2) 0 (by first | assumption | omega) (by rw [bld_len]; have := tU_len (z := lz) hn9 i; omega)) lk_X1_85 hd hA [0, 1] [] rfl rfl rfl rfl (by decide) rfl rfl hl.1 rfl rfl (Nat.le_of_ble_eq_true rfl) ⟨Nat.le_of_ble_eq_true rfl, Nat.le_of_ble_eq_true rfl⟩ ⟨Nat.le_of_ble_eq_true rfl, Nat.le_of_ble_eq_true rfl⟩ dX1_writeTree_42 (fun v w1 H locs hp hd => ?_)
                obtain ⟨tb42, rfl, rfl, hT42⟩ := hp
                have hd : Hd G A s.heap [(h0, .inr (1, [.ref ht, .int (nI (((bld (tU ln lz i) (tF1 lz i (dpl ln - i)) j) ++ [[i, (2 ^ (dpl ln - i) - 1 + j), (((2 ^ (dpl ln - i) - 1 + j) - 1) / 2), 0, lz, 0]]).length)), .int (nI i), .int (nI ln), .int (nI lz), .ref qa, .ref qb])), (ht, .inl (cI, 864, .inl tb42))] H locs := hd
                refine st_all (st' := []) rfl ?_
                rw [show ((bld (tU ln lz i) (tF1 lz i (dpl ln - i)) j) ++ [[i, (2 ^ (dpl ln - i) - 1 + j), (((2 ^ (dpl ln - i) - 1 + j) - 1) / 2), 0, lz, 0]]) = bld (tU ln lz i) (tF1 lz i (dpl ln - i)) (j + 1) from rfl] at hd hT42
                have hd : Hd G A s.heap [(h0, .inr (1, [.ref ht, .int (nI ((bld (tU ln lz i) (tF1 lz i (dpl ln - i)) (j + 1)).length)), .int (nI i), .int (nI ln), .int (nI lz), .ref qa, .ref qb])), (ht, .inl (cI, 864, .inl tb42))] H locs := hd
                refine lv_iinc (v := nI ((2 ^ (dpl ln - i) - 1 + j) + 1)) (lv' := [(3, .int (nI ((2 ^ (dpl ln - i) - 1 + j) + 1))), (0, .ref h0), (1, .int (nI (dpl ln))), (2, .int (nI (dpl ln - i)))]) hx hb dX1_writeTree_45 hl (k := 3) rfl (nI_1 _) (by decide) rfl (fun ls hl => ?_)
                refine lv_goto (tgt := 17) hx hb dX1_writeTree_48 (by decide) ?_
                have hl : lv_has ls 4 [(3, .int (nI (2 ^ (dpl ln - i) - 1 + (j + 1)))), (0, .ref h0), (1, .int (nI (dpl ln))), (2, .int (nI (dpl ln - i)))] := lv_rep hl (congrArg (fun z_ : Int32 => ([(3, .int z_), (0, .ref h0), (1, .int (nI (dpl ln))), (2, .int (nI (dpl ln - i)))] : List (Nat × Value))) (show (nI ((2 ^ (dpl ln - i) - 1 + j) + 1) : Int32) = nI (2 ^ (dpl ln - i) - 1 + (j + 1)) from by first | rfl | (congr 1; omega)))
                exact ih17  (j + 1) tb42 (by omega) hT42 (by omega) _ _ (hd.sub [0, 1] rfl rfl) _ (lv_sub hl [1, 2, 3, 0] rfl)
        have hl : lv_has ls 4 [(3, .int (nI (2 ^ (dpl ln - i) - 1 + 0))), (0, .ref h0), (1, .int (nI (dpl ln))), (2, .int (nI (dpl ln - i)))] := lv_rep hl (congrArg (fun z_ : Int32 => ([(3, .int z_), (0, .ref h0), (1, .int (nI (dpl ln))), (2, .int (nI (dpl ln - i)))] : List (Nat × Value))) (show (nI (2 ^ (dpl ln - i) - 1) : Int32) = nI (2 ^ (dpl ln - i) - 1 + 0) from rfl))
        have hd : Hd G A s.heap [(h0, .inr (1, [.ref ht, .int (nI ((bld (tU ln lz i) (tF1 lz i (dpl ln - i)) 0).length)), .int (nI i), .int (nI ln), .int (nI lz), .ref qa, .ref qb])), (ht, .inl (cI, 864, .inl tb))] H locs := hd.cong (congrArg (fun z_ : Int32 => ([(h0, .inr (1, [.ref ht, .int z_, .int (nI i), .int (nI ln), .int (nI lz), .ref qa, .ref qb])), (ht, .inl (cI, 864, .inl tb))] : va_W)) (show (nI ((tU ln lz i).length) : Int32) = nI ((bld (tU ln lz i) (tF1 lz i (dpl ln - i)) 0).length) from rfl))
        exact LP17 ((tcn ln (dpl ln - i) - 0) + 1) 0 tb (Nat.zero_le _) htb (Nat.lt_succ_self _) _ _ (hd.sub [0, 1] rfl rfl) _ (lv_sub hl [1, 2, 3, 0] rfl)
  have hl : lv_has ls 4 [(2, .int (nI (dpl ln - 0))), (1, .int (nI (dpl ln))), (0, .ref h0)] := lv_rep hl (congrArg (fun z_ : Int32 => ([(2, .int z_), (1, .int (nI (dpl ln))), (0, .ref h0)] : List (Nat × Value))) (show (nI (dpl ln) : Int32) = nI (dpl ln - 0) from rfl))
  have hd : Hd G A s.heap [(h0, .inr (1, [.ref ht, .int (nI ((tU ln lz 0).length)), .int (nI 0), .int (nI ln), .int (nI lz), .ref qa, .ref qb])), (ht, .inl (cI, 864, .inl tb0))] s.heap [] := hd.cong (congrArg (fun z_ : Int32 => ([(h0, .inr (1, [.ref ht, .int z_, .int (nI 0), .int (nI ln), .int (nI lz), .ref qa, .ref qb])), (ht, .inl (cI, 864, .inl tb0))] : va_W)) (show (nI 0 : Int32) = nI ((tU ln lz 0).length) from rfl))
  exact LP7 ((dpl ln - 0) + 1) 0 tb0 (by omega) (LTc_0 _) (Nat.lt_succ_self _) _ _ (hd.sub [0, 1] rfl rfl) _ (lv_sub hl [2, 1, 0] rfl)

set_option maxHeartbeats 4000000 in
set_option maxRecDepth 100000 in
theorem c_X1_writeHalving (l : Launch) (G : va_G) (cI cZ : ClassId) (h0 : Nat) (ht : Nat) (qa : Nat) (qb : Nat) (rd : Nat) (ln : Nat) (lz : Nat) (L : List (List Nat)) (tb : Nat → Int32) (sf : Nat → Nat) (sl_ : Nat → Nat) (lo : Nat → Nat) (sp : Nat → Nat) (P : Nat) (d : Nat) (htb : LTc tb L) (hLen : L.length + P ≤ 144) (hP8 : P ≤ 8) (hdd : dd d) (hspb : ∀ m, sp m ≤ 99) (hsf : ∀ m, m < P → sf m = lo m) (hsl : ∀ m, m < P → sl_ m = sp m) : CM l G cI cZ yX1_writeHalving cX1_writeHalving 7 none 1 26 0 0 [.ref h0, .int (nI P), .int (nI d)] [(h0, .inr (1, [.ref ht, .int (nI L.length), .int (nI rd), .int (nI ln), .int (nI lz), .ref qa, .ref qb])), (ht, .inl (cI, 864, .inl tb)), (qa, .inl (cI, 9, .inl (nF sf))), (qb, .inl (cI, 9, .inl (nF sl_)))] (fun ov_ wv_ => ∃ tb2 : Nat → Int32, ∃ sf2 : Nat → Nat, ∃ sl2 : Nat → Nat, ov_ = none ∧ wv_ = [(h0, .inr (1, [.ref ht, .int (nI ((bld L (hF rd lo sp d) P).length)), .int (nI (rd + 1)), .int (nI ln), .int (nI lz), .ref qa, .ref qb])), (ht, .inl (cI, 864, .inl tb2)), (qa, .inl (cI, 9, .inl (nF sf2))), (qb, .inl (cI, 9, .inl (nF sl2)))] ∧ (LTc tb2 (bld L (hF rd lo sp d) P)) ∧ (∀ m, m < P → sf2 m = nlo lo sp d m) ∧ (∀ m, m < P → sl2 m = nsp sp d m)) := by
  refine CM.of (own := RX1) (by decide) rfl (Nat.le_of_ble_eq_true rfl) ?_
  intro p e R s m args below meth c Q A X hR hret hnm hA fin hd ls hl
  subst hR
  have hx := X.1
  have hb := X.2.1
  have hl : lv_has ls 7 [(0, .ref h0), (1, .int (nI P)), (2, .int (nI d))] := hl
  refine lv_iconst (v := nI 0) hx hb dX1_writeHalving_0 (by decide) ?_
  refine lv_istore_n (lv' := [(3, .int (nI 0)), (0, .ref h0), (1, .int (nI P)), (2, .int (nI d))]) hx hb dX1_writeHalving_1 rfl hl (by decide) rfl (fun ls hl => ?_)
  have LP2 : ∀ (fu : Nat) (i : Nat) (tb : Nat → Int32) (sf : Nat → Nat) (sl_ : Nat → Nat), (i ≤ P) → (LTc tb (bld L (hF rd lo sp d) i)) → (∀ m, m < P → sf m = stp (nlo lo sp d) lo i m) → (∀ m, m < P → sl_ m = stp (nsp sp d) sp i m) → (P - i) < fu → ∀ (H : Heap) (locs : List Loc), Hd G A s.heap [(h0, .inr (1, [.ref ht, .int (nI ((bld L (hF rd lo sp d) i).length)), .int (nI rd), .int (nI ln), .int (nI lz), .ref qa, .ref qb])), (ht, .inl (cI, 864, .inl tb)), (qa, .inl (cI, 9, .inl (nF sf))), (qb, .inl (cI, 9, .inl (nF sl_)))] H locs → ∀ (ls : Array Slot), lv_has ls 7 [(0, .ref h0), (1, .int (nI P)), (2, .int (nI d)), (3, .int (nI i))] → W p l e ({ frames := 1, cells := 0, slots := 0, locals := 26 } : Room) s m args below meth c H locs 0 0 Q (F0 m 2 ls []) := by
    intro fu
    induction fu with
    | zero =>
      intro i tb sf sl_ hi htb h2 h3 hfu
      exact absurd hfu (Nat.not_lt_zero _)
    | succ fu ih2 =>
      intro i tb sf sl_ hi htb h2 h3 hfu H locs hd ls hl
      refine lv_iload_n hx hb dX1_writeHalving_2 rfl (lv_at hl 3 rfl) ?_
      refine lv_iload_n hx hb dX1_writeHalving_3 rfl (lv_at hl 1 rfl) ?_
      refine n_icmp_ge (tgt := 113) hx hb dX1_writeHalving_4 (by decide) (by omega) (by omega) (fun c_4 => ?_) (fun c_4 => ?_)
      · rw [show (bld L (hF rd lo sp d) i) = bld L (hF rd lo sp d) P from by rw [show i = P by omega]] at hd htb
        have hd : Hd G A s.heap [(h0, .inr (1, [.ref ht, .int (nI ((bld L (hF rd lo sp d) P).length)), .int (nI rd), .int (nI ln), .int (nI lz), .ref qa, .ref qb])), (ht, .inl (cI, 864, .inl tb)), (qa, .inl (cI, 9, .inl (nF sf))), (qb, .inl (cI, 9, .inl (nF sl_)))] H locs := hd
        refine lv_aload_n hx hb dX1_writeHalving_113 rfl (lv_at hl 0 rfl) ?_
        refine cM_V (As := []) (rest := []) (wr := [(ht, .inl (cI, 864, .inl tb)), (qa, .inl (cI, 9, .inl (nF sf))), (qb, .inl (cI, 9, .inl (nF sl_)))]) X (c_X1_endRound l G cI cZ h0 ht qa qb rd ln lz ((bld L (hF rd lo sp d) P).length) ) lk_X1_75 hd hA [0] [1, 2, 3] rfl rfl rfl rfl (by decide) rfl rfl hl.1 rfl rfl (Nat.le_of_ble_eq_true rfl) ⟨Nat.le_of_ble_eq_true rfl, Nat.le_of_ble_eq_true rfl⟩ ⟨Nat.le_of_ble_eq_true rfl, Nat.le_of_ble_eq_true rfl⟩ dX1_writeHalving_114 (fun v w1 H locs hp hd => ?_)
        obtain ⟨rfl, rfl⟩ := hp
        have hd : Hd G A s.heap [(ht, .inl (cI, 864, .inl tb)), (qa, .inl (cI, 9, .inl (nF sf))), (qb, .inl (cI, 9, .inl (nF sl_))), (h0, .inr (1, [.ref ht, .int (nI ((bld L (hF rd lo sp d) P).length)), .int (nI (rd + 1)), .int (nI ln), .int (nI lz), .ref qa, .ref qb]))] H locs := hd
        refine st_all (st' := []) rfl ?_
        exact (fin _ _ [(h0, .inr (1, [.ref ht, .int (nI ((bld L (hF rd lo sp d) P).length)), .int (nI (rd + 1)), .int (nI ln), .int (nI lz), .ref qa, .ref qb])), (ht, .inl (cI, 864, .inl tb)), (qa, .inl (cI, 9, .inl (nF sf))), (qb, .inl (cI, 9, .inl (nF sl_)))] _ _ (hd.sub [3, 0, 1, 2] rfl rfl)).1 rfl ⟨tb, sf, sl_, rfl, rfl, htb, stp_e h2 (by omega), stp_e h3 (by omega)⟩ dX1_writeHalving_117
      · refine lv_iload_n hx hb dX1_writeHalving_7 rfl (lv_at hl 3 rfl) ?_
        refine lv_bipush (v := nI 9) hx hb dX1_writeHalving_8 (by decide) ?_
        refine n_icmp_ge (tgt := 113) hx hb dX1_writeHalving_10 (by decide) (by omega) (by omega) (fun c_10 => ?_) (fun c_10 => ?_)
        · exfalso; omega
        · refine lv_aload_n hx hb dX1_writeHalving_13 rfl (lv_at hl 0 rfl) ?_
          refine x_get (C := RX1) (T := TX1) (N := 7) (ci := 1) 5 inT_X1 rfl (by decide) lf_X1_28 rfl X hd.1 0 rfl rfl dX1_writeHalving_14 ?_
          refine lv_iload_n hx hb dX1_writeHalving_17 rfl (lv_at hl 3 rfl) ?_
          refine n_iald X hd.1 2 rfl (by omega) (by decide) dX1_writeHalving_18 ?_
          refine st_eq (show (nF sf) i = nI (sf i) from rfl) ?_
          refine st_eq (show (nI (sf i) : Int32) = nI (lo i) from by rw [h2 i (by omega), stp_at]) ?_
          refine lv_istore (lv' := [(4, .int (nI (lo i))), (0, .ref h0), (1, .int (nI P)), (2, .int (nI d)), (3, .int (nI i))]) hx hb dX1_writeHalving_19 hl (by decide) rfl (fun ls hl => ?_)
          refine lv_aload_n hx hb dX1_writeHalving_21 rfl (lv_at hl 1 rfl) ?_
          refine x_get (C := RX1) (T := TX1) (N := 7) (ci := 1) 6 inT_X1 rfl (by decide) lf_X1_31 rfl X hd.1 0 rfl rfl dX1_writeHalving_22 ?_
          refine lv_iload_n hx hb dX1_writeHalving_25 rfl (lv_at hl 4 rfl) ?_
          refine n_iald X hd.1 3 rfl (by omega) (by decide) dX1_writeHalving_26 ?_
          refine st_eq (show (nF sl_) i = nI (sl_ i) from rfl) ?_
          refine st_eq (show (nI (sl_ i) : Int32) = nI (sp i) from by rw [h3 i (by omega), stp_at]) ?_
          refine lv_iconst (v := nI 2) hx hb dX1_writeHalving_27 (by decide) ?_
          refine n_div hx hb dX1_writeHalving_28 (by have := hspb i; omega) (by omega) (by omega) ?_
          refine lv_istore (lv' := [(5, .int (nI ((sp i) / 2))), (4, .int (nI (lo i))), (0, .ref h0), (1, .int (nI P)), (2, .int (nI d)), (3, .int (nI i))]) hx hb dX1_writeHalving_29 hl (by decide) rfl (fun ls hl => ?_)
          refine lv_aload_n hx hb dX1_writeHalving_31 rfl (lv_at hl 2 rfl) ?_
          refine x_get (C := RX1) (T := TX1) (N := 7) (ci := 1) 6 inT_X1 rfl (by decide) lf_X1_31 rfl X hd.1 0 rfl rfl dX1_writeHalving_32 ?_
          refine lv_iload_n hx hb dX1_writeHalving_35 rfl (lv_at hl 5 rfl) ?_
          refine n_iald X hd.1 3 rfl (by omega) (by decide) dX1_writeHalving_36 ?_
          refine st_eq (show (nF sl_) i = nI (sl_ i) from rfl) ?_
          refine st_eq (show (nI (sl_ i) : Int32) = nI (sp i) from by rw [h3 i (by omega), stp_at]) ?_
          refine lv_iload hx hb dX1_writeHalving_37 (lv_at hl 0 rfl) ?_
          refine n_sub hx hb dX1_writeHalving_39 (Nat.div_le_self _ _) ?_
          refine lv_istore (lv' := [(6, .int (nI ((sp i) - ((sp i) / 2)))), (5, .int (nI ((sp i) / 2))), (4, .int (nI (lo i))), (0, .ref h0), (1, .int (nI P)), (2, .int (nI d)), (3, .int (nI i))]) hx hb dX1_writeHalving_40 hl (by decide) rfl (fun ls hl => ?_)
          refine lv_iload_n hx hb dX1_writeHalving_42 rfl (lv_at hl 6 rfl) ?_
          refine lv_iload_n hx hb dX1_writeHalving_43 rfl (lv_at hl 5 rfl) ?_
          refine n_and hx hb dX1_writeHalving_44  ?_
          refine n_if_ne (tgt := 75) hx hb dX1_writeHalving_45 (by decide) (Nat.lt_of_le_of_lt Nat.and_le_left (by omega)) (fun c_45 => ?_) (fun c_45 => ?_)
          · refine lv_aload_n hx hb dX1_writeHalving_75 rfl (lv_at hl 3 rfl) ?_
            refine lv_iload_n hx hb dX1_writeHalving_76 rfl (lv_at hl 6 rfl) ?_
            refine lv_iload_n hx hb dX1_writeHalving_77 rfl (lv_at hl 6 rfl) ?_
            refine lv_iload_n hx hb dX1_writeHalving_78 rfl (lv_at hl 5 rfl) ?_
            refine n_sub hx hb dX1_writeHalving_79 ((xa2 (by omega) hdd c_45).1) ?_
            refine st_eq (show (nI (i - d) : Int32) = nI (i ^^^ d) from congrArg nI (xa2 (by omega) hdd c_45).2.1) ?_
            refine lv_iload hx hb dX1_writeHalving_80 (lv_at hl 2 rfl) ?_
            refine lv_iload hx hb dX1_writeHalving_82 (lv_at hl 1 rfl) ?_
            refine lv_iconst (v := nI 0) hx hb dX1_writeHalving_84 (by decide) ?_
            refine cM_V (As := [.int (nI i), .int (nI (i ^^^ d)), .int (nI (lo i)), .int (nI ((sp i) / 2)), .int (nI 0)]) (rest := []) (wr := [(qa, .inl (cI, 9, .inl (nF sf))), (qb, .inl (cI, 9, .inl (nF sl_)))]) X (c_X1_send l G cI cZ h0 ht qa qb rd ln lz (bld L (hF rd lo sp d) i) tb i (i ^^^ d) (lo i) ((sp i) / 2) 0 (by first | assumption | omega) (by rw [bld_len]; omega)) lk_X1_63 hd hA [0, 1] [2, 3] rfl rfl rfl rfl (by decide) rfl rfl hl.1 rfl rfl (Nat.le_of_ble_eq_true rfl) ⟨Nat.le_of_ble_eq_true rfl, Nat.le_of_ble_eq_true rfl⟩ ⟨Nat.le_of_ble_eq_true rfl, Nat.le_of_ble_eq_true rfl⟩ dX1_writeHalving_85 (fun v w1 H locs hp hd => ?_)
            obtain ⟨tb85, rfl, rfl, hT⟩ := hp
            have hd : Hd G A s.heap [(qa, .inl (cI, 9, .inl (nF sf))), (qb, .inl (cI, 9, .inl (nF sl_))), (h0, .inr (1, [.ref ht, .int (nI (((bld L (hF rd lo sp d) i) ++ [[rd, i, (i ^^^ d), (lo i), ((sp i) / 2), 0]]).length)), .int (nI rd), .int (nI ln), .int (nI lz), .ref qa, .ref qb])), (ht, .inl (cI, 864, .inl tb85))] H locs := hd
            refine st_all (st' := []) rfl ?_
            rw [show ((bld L (hF rd lo sp d) i) ++ [[rd, i, (i ^^^ d), (lo i), ((sp i) / 2), 0]]) = bld L (hF rd lo sp d) (i + 1) from by rw [bld, hF, if_neg c_45]] at hd hT
            have hd : Hd G A s.heap [(qa, .inl (cI, 9, .inl (nF sf))), (qb, .inl (cI, 9, .inl (nF sl_))), (h0, .inr (1, [.ref ht, .int (nI ((bld L (hF rd lo sp d) (i + 1)).length)), .int (nI rd), .int (nI ln), .int (nI lz), .ref qa, .ref qb])), (ht, .inl (cI, 864, .inl tb85))] H locs := hd
            refine lv_aload_n hx hb dX1_writeHalving_88 rfl (lv_at hl 3 rfl) ?_
            refine x_get (C := RX1) (T := TX1) (N := 7) (ci := 1) 5 inT_X1 rfl (by decide) lf_X1_28 rfl X hd.1 2 rfl rfl dX1_writeHalving_89 ?_
            refine lv_iload_n hx hb dX1_writeHalving_92 rfl (lv_at hl 6 rfl) ?_
            refine lv_iload hx hb dX1_writeHalving_93 (lv_at hl 2 rfl) ?_
            refine lv_iload hx hb dX1_writeHalving_95 (lv_at hl 1 rfl) ?_
            refine n_add hx hb dX1_writeHalving_97  ?_
            refine n_iast X hd 0 rfl (by omega) (by decide) dX1_writeHalving_98 (fun H locs hd => ?_)
            rw [upd_nF] at hd
            have hd : Hd G A s.heap [(qa, .inl (cI, 9, .inl (nF (updN sf i ((lo i) + ((sp i) / 2)))))), (qb, .inl (cI, 9, .inl (nF sl_))), (h0, .inr (1, [.ref ht, .int (nI ((bld L (hF rd lo sp d) (i + 1)).length)), .int (nI rd), .int (nI ln), .int (nI lz), .ref qa, .ref qb])), (ht, .inl (cI, 864, .inl tb85))] H locs := hd
            refine lv_aload_n hx hb dX1_writeHalving_99 rfl (lv_at hl 3 rfl) ?_
            refine x_get (C := RX1) (T := TX1) (N := 7) (ci := 1) 6 inT_X1 rfl (by decide) lf_X1_31 rfl X hd.1 2 rfl rfl dX1_writeHalving_100 ?_
            refine lv_iload_n hx hb dX1_writeHalving_103 rfl (lv_at hl 6 rfl) ?_
            refine lv_iload hx hb dX1_writeHalving_104 (lv_at hl 0 rfl) ?_
            refine n_iast X hd 1 rfl (by omega) (by decide) dX1_writeHalving_106 (fun H locs hd => ?_)
            rw [upd_nF] at hd
            have hd : Hd G A s.heap [(qa, .inl (cI, 9, .inl (nF (updN sf i ((lo i) + ((sp i) / 2)))))), (qb, .inl (cI, 9, .inl (nF (updN sl_ i ((sp i) - ((sp i) / 2)))))), (h0, .inr (1, [.ref ht, .int (nI ((bld L (hF rd lo sp d) (i + 1)).length)), .int (nI rd), .int (nI ln), .int (nI lz), .ref qa, .ref qb])), (ht, .inl (cI, 864, .inl tb85))] H locs := hd
            refine lv_iinc (v := nI (i + 1)) (lv' := [(3, .int (nI (i + 1))), (6, .int (nI ((sp i) - ((sp i) / 2)))), (5, .int (nI ((sp i) / 2))), (4, .int (nI (lo i))), (0, .ref h0), (1, .int (nI P)), (2, .int (nI d))]) hx hb dX1_writeHalving_107 hl (k := 6) rfl (nI_1 _) (by decide) rfl (fun ls hl => ?_)
            refine lv_goto (tgt := 2) hx hb dX1_writeHalving_110 (by decide) ?_
            exact ih2  (i + 1) tb85 (updN sf i ((lo i) + ((sp i) / 2))) (updN sl_ i ((sp i) - ((sp i) / 2))) (by omega) hT (stp_upd h2 (by simp [nlo, c_45])) (stp_upd h3 (by simp [nsp, c_45])) (by omega) _ _ (hd.sub [2, 3, 0, 1] rfl rfl) _ (lv_sub hl [4, 5, 6, 0] rfl)
          · refine lv_aload_n hx hb dX1_writeHalving_48 rfl (lv_at hl 3 rfl) ?_
            refine lv_iload_n hx hb dX1_writeHalving_49 rfl (lv_at hl 6 rfl) ?_
            refine lv_iload_n hx hb dX1_writeHalving_50 rfl (lv_at hl 6 rfl) ?_
            refine lv_iload_n hx hb dX1_writeHalving_51 rfl (lv_at hl 5 rfl) ?_
            refine n_add hx hb dX1_writeHalving_52  ?_
            refine st_eq (show (nI (i + d) : Int32) = nI (i ^^^ d) from congrArg nI (xa1 (by omega) hdd c_45)) ?_
            refine lv_iload hx hb dX1_writeHalving_53 (lv_at hl 2 rfl) ?_
            refine lv_iload hx hb dX1_writeHalving_55 (lv_at hl 1 rfl) ?_
            refine n_add hx hb dX1_writeHalving_57  ?_
            refine lv_iload hx hb dX1_writeHalving_58 (lv_at hl 0 rfl) ?_
            refine lv_iconst (v := nI 1) hx hb dX1_writeHalving_60 (by decide) ?_
            refine cM_V (As := [.int (nI i), .int (nI (i ^^^ d)), .int (nI ((lo i) + ((sp i) / 2))), .int (nI ((sp i) - ((sp i) / 2))), .int (nI 1)]) (rest := []) (wr := [(qa, .inl (cI, 9, .inl (nF sf))), (qb, .inl (cI, 9, .inl (nF sl_)))]) X (c_X1_send l G cI cZ h0 ht qa qb rd ln lz (bld L (hF rd lo sp d) i) tb i (i ^^^ d) ((lo i) + ((sp i) / 2)) ((sp i) - ((sp i) / 2)) 1 (by first | assumption | omega) (by rw [bld_len]; omega)) lk_X1_63 hd hA [0, 1] [2, 3] rfl rfl rfl rfl (by decide) rfl rfl hl.1 rfl rfl (Nat.le_of_ble_eq_true rfl) ⟨Nat.le_of_ble_eq_true rfl, Nat.le_of_ble_eq_true rfl⟩ ⟨Nat.le_of_ble_eq_true rfl, Nat.le_of_ble_eq_true rfl⟩ dX1_writeHalving_61 (fun v w1 H locs hp hd => ?_)
            obtain ⟨tb61, rfl, rfl, hT⟩ := hp
            have hd : Hd G A s.heap [(qa, .inl (cI, 9, .inl (nF sf))), (qb, .inl (cI, 9, .inl (nF sl_))), (h0, .inr (1, [.ref ht, .int (nI (((bld L (hF rd lo sp d) i) ++ [[rd, i, (i ^^^ d), ((lo i) + ((sp i) / 2)), ((sp i) - ((sp i) / 2)), 1]]).length)), .int (nI rd), .int (nI ln), .int (nI lz), .ref qa, .ref qb])), (ht, .inl (cI, 864, .inl tb61))] H locs := hd
            refine st_all (st' := []) rfl ?_
            rw [show ((bld L (hF rd lo sp d) i) ++ [[rd, i, (i ^^^ d), ((lo i) + ((sp i) / 2)), ((sp i) - ((sp i) / 2)), 1]]) = bld L (hF rd lo sp d) (i + 1) from by rw [bld, hF, if_pos c_45]] at hd hT
            have hd : Hd G A s.heap [(qa, .inl (cI, 9, .inl (nF sf))), (qb, .inl (cI, 9, .inl (nF sl_))), (h0, .inr (1, [.ref ht, .int (nI ((bld L (hF rd lo sp d) (i + 1)).length)), .int (nI rd), .int (nI ln), .int (nI lz), .ref qa, .ref qb])), (ht, .inl (cI, 864, .inl tb61))] H locs := hd
            refine lv_aload_n hx hb dX1_writeHalving_64 rfl (lv_at hl 3 rfl) ?_
            refine x_get (C := RX1) (T := TX1) (N := 7) (ci := 1) 6 inT_X1 rfl (by decide) lf_X1_31 rfl X hd.1 2 rfl rfl dX1_writeHalving_65 ?_
            refine lv_iload_n hx hb dX1_writeHalving_68 rfl (lv_at hl 6 rfl) ?_
            refine lv_iload hx hb dX1_writeHalving_69 (lv_at hl 1 rfl) ?_
            refine n_iast X hd 1 rfl (by omega) (by decide) dX1_writeHalving_71 (fun H locs hd => ?_)
            rw [upd_nF] at hd
            have hd : Hd G A s.heap [(qa, .inl (cI, 9, .inl (nF sf))), (qb, .inl (cI, 9, .inl (nF (updN sl_ i ((sp i) / 2))))), (h0, .inr (1, [.ref ht, .int (nI ((bld L (hF rd lo sp d) (i + 1)).length)), .int (nI rd), .int (nI ln), .int (nI lz), .ref qa, .ref qb])), (ht, .inl (cI, 864, .inl tb61))] H locs := hd
            refine lv_goto (tgt := 107) hx hb dX1_writeHalving_72 (by decide) ?_
            refine lv_iinc (v := nI (i + 1)) (lv' := [(3, .int (nI (i + 1))), (6, .int (nI ((sp i) - ((sp i) / 2)))), (5, .int (nI ((sp i) / 2))), (4, .int (nI (lo i))), (0, .ref h0), (1, .int (nI P)), (2, .int (nI d))]) hx hb dX1_writeHalving_107 hl (k := 6) rfl (nI_1 _) (by decide) rfl (fun ls hl => ?_)
            refine lv_goto (tgt := 2) hx hb dX1_writeHalving_110 (by decide) ?_
            exact ih2  (i + 1) tb61 sf (updN sl_ i ((sp i) / 2)) (by omega) hT (stp_same h2 (by simp [nlo, c_45])) (stp_upd h3 (by simp [nsp, c_45])) (by omega) _ _ (hd.sub [2, 3, 0, 1] rfl rfl) _ (lv_sub hl [4, 5, 6, 0] rfl)
  have hd : Hd G A s.heap [(h0, .inr (1, [.ref ht, .int (nI ((bld L (hF rd lo sp d) 0).length)), .int (nI rd), .int (nI ln), .int (nI lz), .ref qa, .ref qb])), (ht, .inl (cI, 864, .inl tb)), (qa, .inl (cI, 9, .inl (nF sf))), (qb, .inl (cI, 9, .inl (nF sl_)))] s.heap [] := hd.cong (congrArg (fun z_ : Int32 => ([(h0, .inr (1, [.ref ht, .int z_, .int (nI rd), .int (nI ln), .int (nI lz), .ref qa, .ref qb])), (ht, .inl (cI, 864, .inl tb)), (qa, .inl (cI, 9, .inl (nF sf))), (qb, .inl (cI, 9, .inl (nF sl_)))] : va_W)) (show (nI L.length : Int32) = nI ((bld L (hF rd lo sp d) 0).length) from rfl))
  exact LP2 ((P - 0) + 1) 0 tb sf sl_ (Nat.zero_le _) htb (fun m hm => (hsf m hm).trans (stp_0 _ _ m)) (fun m hm => (hsl m hm).trans (stp_0 _ _ m)) (Nat.lt_succ_self _) _ _ (hd.sub [0, 1, 2, 3] rfl rfl) _ (lv_sub hl [1, 2, 3, 0] rfl)

set_option maxHeartbeats 4000000 in
set_option maxRecDepth 100000 in
theorem c_X1_writeDoubling (l : Launch) (G : va_G) (cI cZ : ClassId) (h0 : Nat) (ht : Nat) (qa : Nat) (qb : Nat) (rd : Nat) (ln : Nat) (lz : Nat) (L : List (List Nat)) (tb : Nat → Int32) (sf : Nat → Nat) (sl_ : Nat → Nat) (lo : Nat → Nat) (sp : Nat → Nat) (P : Nat) (d : Nat) (htb : LTc tb L) (hLen : L.length + P ≤ 144) (hP : P = 2 ∨ P = 4 ∨ P = 8) (hdd : dd d) (hdP : d < P) (hsf : ∀ m, m < P → sf m = lo m) (hsl : ∀ m, m < P → sl_ m = sp m) : CM l G cI cZ yX1_writeDoubling cX1_writeDoubling 4 none 1 26 0 0 [.ref h0, .int (nI P), .int (nI d)] [(h0, .inr (1, [.ref ht, .int (nI L.length), .int (nI rd), .int (nI ln), .int (nI lz), .ref qa, .ref qb])), (ht, .inl (cI, 864, .inl tb)), (qa, .inl (cI, 9, .inl (nF sf))), (qb, .inl (cI, 9, .inl (nF sl_)))] (fun ov_ wv_ => ∃ tb2 : Nat → Int32, ∃ sf2 : Nat → Nat, ∃ sl2 : Nat → Nat, ov_ = none ∧ wv_ = [(h0, .inr (1, [.ref ht, .int (nI ((bld L (dF rd lo sp d) P).length)), .int (nI (rd + 1)), .int (nI ln), .int (nI lz), .ref qa, .ref qb])), (ht, .inl (cI, 864, .inl tb2)), (qa, .inl (cI, 9, .inl (nF sf2))), (qb, .inl (cI, 9, .inl (nF sl2)))] ∧ (LTc tb2 (bld L (dF rd lo sp d) P)) ∧ (∀ m, m < P → sf2 m = dlo lo d m) ∧ (∀ m, m < P → sl2 m = dsp sp d m)) := by
  have hd4 := dd_le hdd
  refine CM.of (own := RX1) (by decide) rfl (Nat.le_of_ble_eq_true rfl) ?_
  intro p e R s m args below meth c Q A X hR hret hnm hA fin hd ls hl
  subst hR
  have hx := X.1
  have hb := X.2.1
  have hl : lv_has ls 4 [(0, .ref h0), (1, .int (nI P)), (2, .int (nI d))] := hl
  refine lv_iconst (v := nI 0) hx hb dX1_writeDoubling_0 (by decide) ?_
  refine lv_istore_n (lv' := [(3, .int (nI 0)), (0, .ref h0), (1, .int (nI P)), (2, .int (nI d))]) hx hb dX1_writeDoubling_1 rfl hl (by decide) rfl (fun ls hl => ?_)
  have LP2 : ∀ (fu : Nat) (i : Nat) (tb : Nat → Int32), (i ≤ P) → (LTc tb (bld L (dF rd lo sp d) i)) → (P - i) < fu → ∀ (H : Heap) (locs : List Loc), Hd G A s.heap [(h0, .inr (1, [.ref ht, .int (nI ((bld L (dF rd lo sp d) i).length)), .int (nI rd), .int (nI ln), .int (nI lz), .ref qa, .ref qb])), (ht, .inl (cI, 864, .inl tb)), (qa, .inl (cI, 9, .inl (nF sf))), (qb, .inl (cI, 9, .inl (nF sl_)))] H locs → ∀ (ls : Array Slot), lv_has ls 4 [(0, .ref h0), (1, .int (nI P)), (2, .int (nI d)), (3, .int (nI i))] → W p l e ({ frames := 1, cells := 0, slots := 0, locals := 26 } : Room) s m args below meth c H locs 0 0 Q (F0 m 2 ls []) := by
    intro fu
    induction fu with
    | zero =>
      intro i tb hi htb hfu
      exact absurd hfu (Nat.not_lt_zero _)
    | succ fu ih2 =>
      intro i tb hi htb hfu H locs hd ls hl
      refine lv_iload_n hx hb dX1_writeDoubling_2 rfl (lv_at hl 3 rfl) ?_
      refine lv_iload_n hx hb dX1_writeDoubling_3 rfl (lv_at hl 1 rfl) ?_
      refine n_icmp_ge (tgt := 40) hx hb dX1_writeDoubling_4 (by decide) (by omega) (by omega) (fun c_4 => ?_) (fun c_4 => ?_)
      · rw [show (bld L (dF rd lo sp d) i) = bld L (dF rd lo sp d) P from by rw [show i = P by omega]] at hd htb
        have hd : Hd G A s.heap [(h0, .inr (1, [.ref ht, .int (nI ((bld L (dF rd lo sp d) P).length)), .int (nI rd), .int (nI ln), .int (nI lz), .ref qa, .ref qb])), (ht, .inl (cI, 864, .inl tb)), (qa, .inl (cI, 9, .inl (nF sf))), (qb, .inl (cI, 9, .inl (nF sl_)))] H locs := hd
        refine lv_iconst (v := nI 0) hx hb dX1_writeDoubling_40 (by decide) ?_
        refine lv_istore_n (lv' := [(3, .int (nI 0)), (0, .ref h0), (1, .int (nI P)), (2, .int (nI d))]) hx hb dX1_writeDoubling_41 rfl hl (by decide) rfl (fun ls hl => ?_)
        have LP42 : ∀ (fu : Nat) (i : Nat) (sf : Nat → Nat) (sl_ : Nat → Nat), (i ≤ 8) → (∀ m, m < P → sf m = dmid (dlo lo d) lo d i m) → (∀ m, m < P → sl_ m = dmid (dsp sp d) sp d i m) → (8 - i) < fu → ∀ (H : Heap) (locs : List Loc), Hd G A s.heap [(h0, .inr (1, [.ref ht, .int (nI ((bld L (dF rd lo sp d) P).length)), .int (nI rd), .int (nI ln), .int (nI lz), .ref qa, .ref qb])), (ht, .inl (cI, 864, .inl tb)), (qa, .inl (cI, 9, .inl (nF sf))), (qb, .inl (cI, 9, .inl (nF sl_)))] H locs → ∀ (ls : Array Slot), lv_has ls 4 [(0, .ref h0), (1, .int (nI P)), (2, .int (nI d)), (3, .int (nI i))] → W p l e ({ frames := 1, cells := 0, slots := 0, locals := 26 } : Room) s m args below meth c H locs 0 0 Q (F0 m 42 ls []) := by
          intro fu
          induction fu with
          | zero =>
            intro i sf sl_ hi h2 h3 hfu
            exact absurd hfu (Nat.not_lt_zero _)
          | succ fu ih42 =>
            intro i sf sl_ hi h2 h3 hfu H locs hd ls hl
            refine lv_iload_n hx hb dX1_writeDoubling_42 rfl (lv_at hl 3 rfl) ?_
            refine lv_iload_n hx hb dX1_writeDoubling_43 rfl (lv_at hl 2 rfl) ?_
            refine n_add hx hb dX1_writeDoubling_44  ?_
            refine lv_iload_n hx hb dX1_writeDoubling_45 rfl (lv_at hl 1 rfl) ?_
            refine n_icmp_ge (tgt := 114) hx hb dX1_writeDoubling_46 (by decide) (by omega) (by omega) (fun c_46 => ?_) (fun c_46 => ?_)
            · refine lv_aload_n hx hb dX1_writeDoubling_114 rfl (lv_at hl 0 rfl) ?_
              refine cM_V (As := []) (rest := []) (wr := [(ht, .inl (cI, 864, .inl tb)), (qa, .inl (cI, 9, .inl (nF sf))), (qb, .inl (cI, 9, .inl (nF sl_)))]) X (c_X1_endRound l G cI cZ h0 ht qa qb rd ln lz ((bld L (dF rd lo sp d) P).length) ) lk_X1_75 hd hA [0] [1, 2, 3] rfl rfl rfl rfl (by decide) rfl rfl hl.1 rfl rfl (Nat.le_of_ble_eq_true rfl) ⟨Nat.le_of_ble_eq_true rfl, Nat.le_of_ble_eq_true rfl⟩ ⟨Nat.le_of_ble_eq_true rfl, Nat.le_of_ble_eq_true rfl⟩ dX1_writeDoubling_115 (fun v w1 H locs hp hd => ?_)
              obtain ⟨rfl, rfl⟩ := hp
              have hd : Hd G A s.heap [(ht, .inl (cI, 864, .inl tb)), (qa, .inl (cI, 9, .inl (nF sf))), (qb, .inl (cI, 9, .inl (nF sl_))), (h0, .inr (1, [.ref ht, .int (nI ((bld L (dF rd lo sp d) P).length)), .int (nI (rd + 1)), .int (nI ln), .int (nI lz), .ref qa, .ref qb]))] H locs := hd
              refine st_all (st' := []) rfl ?_
              exact (fin _ _ [(h0, .inr (1, [.ref ht, .int (nI ((bld L (dF rd lo sp d) P).length)), .int (nI (rd + 1)), .int (nI ln), .int (nI lz), .ref qa, .ref qb])), (ht, .inl (cI, 864, .inl tb)), (qa, .inl (cI, 9, .inl (nF sf))), (qb, .inl (cI, 9, .inl (nF sl_)))] _ _ (hd.sub [3, 0, 1, 2] rfl rfl)).1 rfl ⟨tb, sf, sl_, rfl, rfl, htb, dmid_e hP hdP (by omega) (by omega) hdd h2, dmid_e hP hdP (by omega) (by omega) hdd h3⟩ dX1_writeDoubling_118
            · refine lv_iload_n hx hb dX1_writeDoubling_49 rfl (lv_at hl 3 rfl) ?_
              refine lv_iload_n hx hb dX1_writeDoubling_50 rfl (lv_at hl 2 rfl) ?_
              refine n_add hx hb dX1_writeDoubling_51  ?_
              refine lv_bipush (v := nI 9) hx hb dX1_writeDoubling_52 (by decide) ?_
              refine n_icmp_ge (tgt := 114) hx hb dX1_writeDoubling_54 (by decide) (by omega) (by omega) (fun c_54 => ?_) (fun c_54 => ?_)
              · exfalso; omega
              · refine lv_iload_n hx hb dX1_writeDoubling_57 rfl (lv_at hl 3 rfl) ?_
                refine lv_iload_n hx hb dX1_writeDoubling_58 rfl (lv_at hl 2 rfl) ?_
                refine n_and hx hb dX1_writeDoubling_59  ?_
                refine n_if_ne (tgt := 108) hx hb dX1_writeDoubling_60 (by decide) (Nat.lt_of_le_of_lt Nat.and_le_left (by omega)) (fun c_60 => ?_) (fun c_60 => ?_)
                · refine lv_iinc (v := nI (i + 1)) (lv' := [(3, .int (nI (i + 1))), (0, .ref h0), (1, .int (nI P)), (2, .int (nI d))]) hx hb dX1_writeDoubling_108 hl (k := 3) rfl (nI_1 _) (by decide) rfl (fun ls hl => ?_)
                  refine lv_goto (tgt := 42) hx hb dX1_writeDoubling_111 (by decide) ?_
                  exact ih42  (i + 1) sf sl_ (by omega) (dmid_skip (by omega) (by omega) hdd c_60 h2) (dmid_skip (by omega) (by omega) hdd c_60 h3) (by omega) _ _ (hd.sub [0, 1, 2, 3] rfl rfl) _ (lv_sub hl [1, 2, 3, 0] rfl)
                · refine lv_aload_n hx hb dX1_writeDoubling_63 rfl (lv_at hl 0 rfl) ?_
                  refine x_get (C := RX1) (T := TX1) (N := 7) (ci := 1) 6 inT_X1 rfl (by decide) lf_X1_31 rfl X hd.1 0 rfl rfl dX1_writeDoubling_64 ?_
                  refine lv_iload_n hx hb dX1_writeDoubling_67 rfl (lv_at hl 3 rfl) ?_
                  refine lv_dup2_11 hx hb dX1_writeDoubling_68 rfl rfl ?_
                  refine n_iald X hd.1 3 rfl (by omega) (by decide) dX1_writeDoubling_69 ?_
                  refine st_eq (show (nF sl_) i = nI (sl_ i) from rfl) ?_
                  refine lv_aload_n hx hb dX1_writeDoubling_70 rfl (lv_at hl 0 rfl) ?_
                  refine x_get (C := RX1) (T := TX1) (N := 7) (ci := 1) 6 inT_X1 rfl (by decide) lf_X1_31 rfl X hd.1 0 rfl rfl dX1_writeDoubling_71 ?_
                  refine lv_iload_n hx hb dX1_writeDoubling_74 rfl (lv_at hl 3 rfl) ?_
                  refine lv_iload_n hx hb dX1_writeDoubling_75 rfl (lv_at hl 2 rfl) ?_
                  refine n_add hx hb dX1_writeDoubling_76  ?_
                  refine n_iald X hd.1 3 rfl (by omega) (by decide) dX1_writeDoubling_77 ?_
                  refine st_eq (show (nF sl_) (i + d) = nI (sl_ (i + d)) from rfl) ?_
                  refine n_add hx hb dX1_writeDoubling_78  ?_
                  refine n_iast X hd 3 rfl (by omega) (by decide) dX1_writeDoubling_79 (fun H locs hd => ?_)
                  rw [upd_nF] at hd
                  have hd : Hd G A s.heap [(h0, .inr (1, [.ref ht, .int (nI ((bld L (dF rd lo sp d) P).length)), .int (nI rd), .int (nI ln), .int (nI lz), .ref qa, .ref qb])), (ht, .inl (cI, 864, .inl tb)), (qa, .inl (cI, 9, .inl (nF sf))), (qb, .inl (cI, 9, .inl (nF (updN sl_ i ((sl_ i) + (sl_ (i + d)))))))] H locs := hd
                  refine lv_aload_n hx hb dX1_writeDoubling_80 rfl (lv_at hl 0 rfl) ?_
                  refine x_get (C := RX1) (T := TX1) (N := 7) (ci := 1) 5 inT_X1 rfl (by decide) lf_X1_28 rfl X hd.1 0 rfl rfl dX1_writeDoubling_81 ?_
                  refine lv_iload_n hx hb dX1_writeDoubling_84 rfl (lv_at hl 3 rfl) ?_
                  refine lv_iload_n hx hb dX1_writeDoubling_85 rfl (lv_at hl 2 rfl) ?_
                  refine n_add hx hb dX1_writeDoubling_86  ?_
                  refine lv_aload_n hx hb dX1_writeDoubling_87 rfl (lv_at hl 0 rfl) ?_
                  refine x_get (C := RX1) (T := TX1) (N := 7) (ci := 1) 5 inT_X1 rfl (by decide) lf_X1_28 rfl X hd.1 0 rfl rfl dX1_writeDoubling_88 ?_
                  refine lv_iload_n hx hb dX1_writeDoubling_91 rfl (lv_at hl 3 rfl) ?_
                  refine n_iald X hd.1 2 rfl (by omega) (by decide) dX1_writeDoubling_92 ?_
                  refine st_eq (show (nF sf) i = nI (sf i) from rfl) ?_
                  refine n_iast X hd 2 rfl (by omega) (by decide) dX1_writeDoubling_93 (fun H locs hd => ?_)
                  rw [upd_nF] at hd
                  have hd : Hd G A s.heap [(h0, .inr (1, [.ref ht, .int (nI ((bld L (dF rd lo sp d) P).length)), .int (nI rd), .int (nI ln), .int (nI lz), .ref qa, .ref qb])), (ht, .inl (cI, 864, .inl tb)), (qa, .inl (cI, 9, .inl (nF (updN sf (i + d) (sf i))))), (qb, .inl (cI, 9, .inl (nF (updN sl_ i ((sl_ i) + (sl_ (i + d)))))))] H locs := hd
                  refine lv_aload_n hx hb dX1_writeDoubling_94 rfl (lv_at hl 0 rfl) ?_
                  refine x_get (C := RX1) (T := TX1) (N := 7) (ci := 1) 6 inT_X1 rfl (by decide) lf_X1_31 rfl X hd.1 0 rfl rfl dX1_writeDoubling_95 ?_
                  refine lv_iload_n hx hb dX1_writeDoubling_98 rfl (lv_at hl 3 rfl) ?_
                  refine lv_iload_n hx hb dX1_writeDoubling_99 rfl (lv_at hl 2 rfl) ?_
                  refine n_add hx hb dX1_writeDoubling_100  ?_
                  refine lv_aload_n hx hb dX1_writeDoubling_101 rfl (lv_at hl 0 rfl) ?_
                  refine x_get (C := RX1) (T := TX1) (N := 7) (ci := 1) 6 inT_X1 rfl (by decide) lf_X1_31 rfl X hd.1 0 rfl rfl dX1_writeDoubling_102 ?_
                  refine lv_iload_n hx hb dX1_writeDoubling_105 rfl (lv_at hl 3 rfl) ?_
                  refine n_iald X hd.1 3 rfl (by omega) (by decide) dX1_writeDoubling_106 ?_
                  refine st_eq (show (nF (updN sl_ i ((sl_ i) + (sl_ (i + d))))) i = nI ((updN sl_ i ((sl_ i) + (sl_ (i + d)))) i) from rfl) ?_
                  refine n_iast X hd 3 rfl (by omega) (by decide) dX1_writeDoubling_107 (fun H locs hd => ?_)
                  rw [upd_nF] at hd
                  have hd : Hd G A s.heap [(h0, .inr (1, [.ref ht, .int (nI ((bld L (dF rd lo sp d) P).length)), .int (nI rd), .int (nI ln), .int (nI lz), .ref qa, .ref qb])), (ht, .inl (cI, 864, .inl tb)), (qa, .inl (cI, 9, .inl (nF (updN sf (i + d) (sf i))))), (qb, .inl (cI, 9, .inl (nF (updN (updN sl_ i ((sl_ i) + (sl_ (i + d)))) (i + d) ((updN sl_ i ((sl_ i) + (sl_ (i + d)))) i)))))] H locs := hd
                  refine lv_iinc (v := nI (i + 1)) (lv' := [(3, .int (nI (i + 1))), (0, .ref h0), (1, .int (nI P)), (2, .int (nI d))]) hx hb dX1_writeDoubling_108 hl (k := 3) rfl (nI_1 _) (by decide) rfl (fun ls hl => ?_)
                  refine lv_goto (tgt := 42) hx hb dX1_writeDoubling_111 (by decide) ?_
                  exact ih42  (i + 1) (updN sf (i + d) (sf i)) (updN (updN sl_ i ((sl_ i) + (sl_ (i + d)))) (i + d) ((updN sl_ i ((sl_ i) + (sl_ (i + d)))) i)) (by omega) (dmid_lo (by omega) (by omega) hdd c_60 h2) (dmid_len (by omega) (by omega) hdd c_60 h3) (by omega) _ _ (hd.sub [0, 1, 2, 3] rfl rfl) _ (lv_sub hl [1, 2, 3, 0] rfl)
        exact LP42 ((8 - 0) + 1) 0 sf sl_ (Nat.zero_le _) (fun m hm => (hsf m hm).trans (dmid_0 _ _ _ m)) (fun m hm => (hsl m hm).trans (dmid_0 _ _ _ m)) (Nat.lt_succ_self _) _ _ (hd.sub [0, 1, 2, 3] rfl rfl) _ (lv_sub hl [1, 2, 3, 0] rfl)
      · refine lv_iload_n hx hb dX1_writeDoubling_7 rfl (lv_at hl 3 rfl) ?_
        refine lv_bipush (v := nI 9) hx hb dX1_writeDoubling_8 (by decide) ?_
        refine n_icmp_ge (tgt := 40) hx hb dX1_writeDoubling_10 (by decide) (by omega) (by omega) (fun c_10 => ?_) (fun c_10 => ?_)
        · exfalso; omega
        · refine lv_aload_n hx hb dX1_writeDoubling_13 rfl (lv_at hl 0 rfl) ?_
          refine lv_iload_n hx hb dX1_writeDoubling_14 rfl (lv_at hl 3 rfl) ?_
          refine lv_iload_n hx hb dX1_writeDoubling_15 rfl (lv_at hl 3 rfl) ?_
          refine lv_iload_n hx hb dX1_writeDoubling_16 rfl (lv_at hl 2 rfl) ?_
          refine n_xor hx hb dX1_writeDoubling_17  ?_
          refine lv_aload_n hx hb dX1_writeDoubling_18 rfl (lv_at hl 0 rfl) ?_
          refine x_get (C := RX1) (T := TX1) (N := 7) (ci := 1) 5 inT_X1 rfl (by decide) lf_X1_28 rfl X hd.1 0 rfl rfl dX1_writeDoubling_19 ?_
          refine lv_iload_n hx hb dX1_writeDoubling_22 rfl (lv_at hl 3 rfl) ?_
          refine n_iald X hd.1 2 rfl (by omega) (by decide) dX1_writeDoubling_23 ?_
          refine st_eq (show (nF sf) i = nI (sf i) from rfl) ?_
          refine st_eq (show (nI (sf i) : Int32) = nI (lo i) from by rw [hsf i (by omega)]) ?_
          refine lv_aload_n hx hb dX1_writeDoubling_24 rfl (lv_at hl 0 rfl) ?_
          refine x_get (C := RX1) (T := TX1) (N := 7) (ci := 1) 6 inT_X1 rfl (by decide) lf_X1_31 rfl X hd.1 0 rfl rfl dX1_writeDoubling_25 ?_
          refine lv_iload_n hx hb dX1_writeDoubling_28 rfl (lv_at hl 3 rfl) ?_
          refine n_iald X hd.1 3 rfl (by omega) (by decide) dX1_writeDoubling_29 ?_
          refine st_eq (show (nF sl_) i = nI (sl_ i) from rfl) ?_
          refine st_eq (show (nI (sl_ i) : Int32) = nI (sp i) from by rw [hsl i (by omega)]) ?_
          refine lv_iconst (v := nI 2) hx hb dX1_writeDoubling_30 (by decide) ?_
          refine cM_V (As := [.int (nI i), .int (nI (i ^^^ d)), .int (nI (lo i)), .int (nI (sp i)), .int (nI 2)]) (rest := []) (wr := [(qa, .inl (cI, 9, .inl (nF sf))), (qb, .inl (cI, 9, .inl (nF sl_)))]) X (c_X1_send l G cI cZ h0 ht qa qb rd ln lz (bld L (dF rd lo sp d) i) tb i (i ^^^ d) (lo i) (sp i) 2 (by first | assumption | omega) (by rw [bld_len]; omega)) lk_X1_63 hd hA [0, 1] [2, 3] rfl rfl rfl rfl (by decide) rfl rfl hl.1 rfl rfl (Nat.le_of_ble_eq_true rfl) ⟨Nat.le_of_ble_eq_true rfl, Nat.le_of_ble_eq_true rfl⟩ ⟨Nat.le_of_ble_eq_true rfl, Nat.le_of_ble_eq_true rfl⟩ dX1_writeDoubling_31 (fun v w1 H locs hp hd => ?_)
          obtain ⟨tb31, rfl, rfl, hT⟩ := hp
          have hd : Hd G A s.heap [(qa, .inl (cI, 9, .inl (nF sf))), (qb, .inl (cI, 9, .inl (nF sl_))), (h0, .inr (1, [.ref ht, .int (nI (((bld L (dF rd lo sp d) i) ++ [[rd, i, (i ^^^ d), (lo i), (sp i), 2]]).length)), .int (nI rd), .int (nI ln), .int (nI lz), .ref qa, .ref qb])), (ht, .inl (cI, 864, .inl tb31))] H locs := hd
          refine st_all (st' := []) rfl ?_
          rw [show ((bld L (dF rd lo sp d) i) ++ [[rd, i, (i ^^^ d), (lo i), (sp i), 2]]) = bld L (dF rd lo sp d) (i + 1) from rfl] at hd hT
          have hd : Hd G A s.heap [(qa, .inl (cI, 9, .inl (nF sf))), (qb, .inl (cI, 9, .inl (nF sl_))), (h0, .inr (1, [.ref ht, .int (nI ((bld L (dF rd lo sp d) (i + 1)).length)), .int (nI rd), .int (nI ln), .int (nI lz), .ref qa, .ref qb])), (ht, .inl (cI, 864, .inl tb31))] H locs := hd
          refine lv_iinc (v := nI (i + 1)) (lv' := [(3, .int (nI (i + 1))), (0, .ref h0), (1, .int (nI P)), (2, .int (nI d))]) hx hb dX1_writeDoubling_34 hl (k := 3) rfl (nI_1 _) (by decide) rfl (fun ls hl => ?_)
          refine lv_goto (tgt := 2) hx hb dX1_writeDoubling_37 (by decide) ?_
          exact ih2  (i + 1) tb31 (by omega) hT (by omega) _ _ (hd.sub [2, 3, 0, 1] rfl rfl) _ (lv_sub hl [1, 2, 3, 0] rfl)
  have hd : Hd G A s.heap [(h0, .inr (1, [.ref ht, .int (nI ((bld L (dF rd lo sp d) 0).length)), .int (nI rd), .int (nI ln), .int (nI lz), .ref qa, .ref qb])), (ht, .inl (cI, 864, .inl tb)), (qa, .inl (cI, 9, .inl (nF sf))), (qb, .inl (cI, 9, .inl (nF sl_)))] s.heap [] := hd.cong (congrArg (fun z_ : Int32 => ([(h0, .inr (1, [.ref ht, .int z_, .int (nI rd), .int (nI ln), .int (nI lz), .ref qa, .ref qb])), (ht, .inl (cI, 864, .inl tb)), (qa, .inl (cI, 9, .inl (nF sf))), (qb, .inl (cI, 9, .inl (nF sl_)))] : va_W)) (show (nI L.length : Int32) = nI ((bld L (dF rd lo sp d) 0).length) from rfl))
  exact LP2 ((P - 0) + 1) 0 tb (Nat.zero_le _) htb (Nat.lt_succ_self _) _ _ (hd.sub [0, 1, 2, 3] rfl rfl) _ (lv_sub hl [1, 2, 3, 0] rfl)
