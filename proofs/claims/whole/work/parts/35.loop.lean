set_option maxHeartbeats 8000000 in
set_option maxRecDepth 100000 in
/-- the law goes round, from any place of the script -/
theorem law_loop {p : Program} {l : Launch} {e : Env} {s : State} {m : MethodId} {below : List Frame} {meth : Method} {c : Code} {G : va_G} {cI cZ : ClassId} {A : Nat → Prop} {b : Nat} {x0 nw sr_ sra ss i0 jr0 ja0 js0 i1 jr1 ja1 js1 le ht qa qb bs br bq us ur ur1 ub ub1 an vr vr1 vb vb1 m0 cs cg ck c0 c1 c2 c3 c4 c5 cl cp cq cr cn cb cu cv ce : Nat} {L : Nat} {xs : Nat → Int32} (X : Fx p s m #[Value.ref b] meth c G cI cZ RL code 4) (hXs : va_X b L xs s s.heap) (hbl : b < s.heap.size) (hA : ∀ q, s.heap.size ≤ q → A q) (hA2 : ∀ q, A q → s.heap.size ≤ q) (hbA : ¬ A b) (hL : L ≤ 2560) (hr : meth.sig.returnType = ret) (hlocks : meth.locks = false) : ∀ (fu i : Nat), i ≤ L + 5 → L + 5 - i < fu → LawAt p l e s m below meth c G cI cZ A b x0 nw sr_ sra ss i0 jr0 ja0 js0 i1 jr1 ja1 js1 le ht qa qb bs br bq us ur ur1 ub ub1 an vr vr1 vb vb1 m0 cs cg ck c0 c1 c2 c3 c4 c5 cl cp cq cr cn cb cu cv ce 18 i := by
  intro fu
  induction fu with
  | zero =>
    intro i _ h
    exact absurd h (Nat.not_lt_zero _)
  | succ fu ih =>
    intro i hi5 hfu n z op st ea f g jn0 jz0 jo0 jt0 je0 jf0 jg0 jn1 jz1 jo1 jt1 je1 jf1 jg1 b0 b1 ew er em es tb0 sa0 sb0 ty lq y1 y2 u1 u2 v1 v2 wl rd lr tm lgs T xl xp xq xr nwc bgc bua baa enc A_ B_ hS h0 h1 H locs hd ls hl
    have hx := X.1
    have hb := X.2.1
    refine lv_iload_n hx hb dL_law_18 rfl (lv_at hl 3 rfl) ?_
    refine lv_aload_n hx hb dL_law_19 rfl (lv_at hl 0 rfl) ?_
    refine va_slen hx hb hXs hbl hbA hd.2.2 dL_law_20 ?_
    refine st_eq (show (Int32.ofNat L : Int32) = nI L from rfl) ?_
    refine lv_iconst (v := nI 5) hx hb dL_law_21 (by decide) ?_
    refine lv_isub hx hb dL_law_22 ?_
    refine lv_icmp_gt (tgt := 770) hx hb dL_law_23 (by decide) (fun c_23 => ?_) (fun c_23 => ?_)
    · refine lv_iconst (v := 1) hx hb dL_law_770 (by decide) ?_
      refine va_forget (fun q hq => hA2 _ (hd.2.2.2.2 q hq)) ?_
      exact lw_ret hx hb hr hlocks dL_law_771
    · have hi : i + 5 ≤ L := law_lt (by omega) (by omega) c_23
      have hN := ih (i + 5) (by omega) (by omega)
      refine lv_aload_n hx hb dL_law_26 rfl (lv_at hl 0 rfl) ?_
      refine lv_iload_n hx hb dL_law_27 rfl (lv_at hl 3 rfl) ?_
      refine n_sld X hXs hbl hbA hd.2.2 (by omega) (by omega) dL_law_28 ?_
      refine lv_bipush (v := nI 31) hx hb dL_law_29 (by decide) ?_
      refine lv_iand hx hb dL_law_31 ?_
      obtain ⟨j, hj, ej⟩ := pk_andE (xs i) (m := nI 31) 5 (by decide)
      refine st_eq ej ?_
      rcases (show j = 0 ∨ j = 1 ∨ j = 2 ∨ j = 3 ∨ j = 4 ∨ j = 5 ∨ j = 6 ∨ j = 7 ∨ j = 8 ∨ j = 9 ∨ j = 10 ∨ j = 11 ∨ j = 12 ∨ j = 13 ∨ j = 14 ∨ j = 15 ∨ j = 16 ∨ j = 17 ∨ 18 ≤ j by omega) with rfl | rfl | rfl | rfl | rfl | rfl | rfl | rfl | rfl | rfl | rfl | rfl | rfl | rfl | rfl | rfl | rfl | rfl | hj18
      · refine lv_tableIn (tgt := 120) hx hb dL_law_32 (by decide) (by decide) rfl (by decide) ?_
        exact law_c0 X hXs hbl hA hbA hL hi hN _ _ _ _ _ _ _ _ _ _ _ _ _ _ _ _ _ _ _ _ _ _ _ _ _ _ _ _ _ _ _ _ _ _ _ _ _ _ _ _ _ _ _ _ _ _ _ _ _ _ _ _ _ _ _ hS h0 h1 H locs hd ls hl
      · refine lv_tableIn (tgt := 153) hx hb dL_law_32 (by decide) (by decide) rfl (by decide) ?_
        exact law_c1 X hXs hbl hA hbA hL hi hN _ _ _ _ _ _ _ _ _ _ _ _ _ _ _ _ _ _ _ _ _ _ _ _ _ _ _ _ _ _ _ _ _ _ _ _ _ _ _ _ _ _ _ _ _ _ _ _ _ _ _ _ _ _ _ hS h0 h1 H locs hd ls hl
      · refine lv_tableIn (tgt := 196) hx hb dL_law_32 (by decide) (by decide) rfl (by decide) ?_
        exact law_c2 X hXs hbl hA hbA hL hi hN _ _ _ _ _ _ _ _ _ _ _ _ _ _ _ _ _ _ _ _ _ _ _ _ _ _ _ _ _ _ _ _ _ _ _ _ _ _ _ _ _ _ _ _ _ _ _ _ _ _ _ _ _ _ _ hS h0 h1 H locs hd ls hl
      · refine lv_tableIn (tgt := 229) hx hb dL_law_32 (by decide) (by decide) rfl (by decide) ?_
        exact law_c3 X hXs hbl hA hbA hL hi hN _ _ _ _ _ _ _ _ _ _ _ _ _ _ _ _ _ _ _ _ _ _ _ _ _ _ _ _ _ _ _ _ _ _ _ _ _ _ _ _ _ _ _ _ _ _ _ _ _ _ _ _ _ _ _ hS h0 h1 H locs hd ls hl
      · refine lv_tableIn (tgt := 272) hx hb dL_law_32 (by decide) (by decide) rfl (by decide) ?_
        exact law_c4 X hXs hbl hA hbA hL hi hN _ _ _ _ _ _ _ _ _ _ _ _ _ _ _ _ _ _ _ _ _ _ _ _ _ _ _ _ _ _ _ _ _ _ _ _ _ _ _ _ _ _ _ _ _ _ _ _ _ _ _ _ _ _ _ hS h0 h1 H locs hd ls hl
      · refine lv_tableIn (tgt := 305) hx hb dL_law_32 (by decide) (by decide) rfl (by decide) ?_
        exact law_c5 X hXs hbl hA hbA hL hi hN _ _ _ _ _ _ _ _ _ _ _ _ _ _ _ _ _ _ _ _ _ _ _ _ _ _ _ _ _ _ _ _ _ _ _ _ _ _ _ _ _ _ _ _ _ _ _ _ _ _ _ _ _ _ _ hS h0 h1 H locs hd ls hl
      · refine lv_tableIn (tgt := 338) hx hb dL_law_32 (by decide) (by decide) rfl (by decide) ?_
        exact law_c6 X hXs hbl hA hbA hL hi hN _ _ _ _ _ _ _ _ _ _ _ _ _ _ _ _ _ _ _ _ _ _ _ _ _ _ _ _ _ _ _ _ _ _ _ _ _ _ _ _ _ _ _ _ _ _ _ _ _ _ _ _ _ _ _ hS h0 h1 H locs hd ls hl
      · refine lv_tableIn (tgt := 381) hx hb dL_law_32 (by decide) (by decide) rfl (by decide) ?_
        exact law_c7 X hXs hbl hA hbA hL hi hN _ _ _ _ _ _ _ _ _ _ _ _ _ _ _ _ _ _ _ _ _ _ _ _ _ _ _ _ _ _ _ _ _ _ _ _ _ _ _ _ _ _ _ _ _ _ _ _ _ _ _ _ _ _ _ hS h0 h1 H locs hd ls hl
      · refine lv_tableIn (tgt := 434) hx hb dL_law_32 (by decide) (by decide) rfl (by decide) ?_
        exact law_c8 X hXs hbl hA hbA hL hi hN _ _ _ _ _ _ _ _ _ _ _ _ _ _ _ _ _ _ _ _ _ _ _ _ _ _ _ _ _ _ _ _ _ _ _ _ _ _ _ _ _ _ _ _ _ _ _ _ _ _ _ _ _ _ _ hS h0 h1 H locs hd ls hl
      · refine lv_tableIn (tgt := 467) hx hb dL_law_32 (by decide) (by decide) rfl (by decide) ?_
        exact law_c9 X hXs hbl hA hbA hL hi hN _ _ _ _ _ _ _ _ _ _ _ _ _ _ _ _ _ _ _ _ _ _ _ _ _ _ _ _ _ _ _ _ _ _ _ _ _ _ _ _ _ _ _ _ _ _ _ _ _ _ _ _ _ _ _ hS h0 h1 H locs hd ls hl
      · refine lv_tableIn (tgt := 500) hx hb dL_law_32 (by decide) (by decide) rfl (by decide) ?_
        exact law_c10 X hXs hbl hA hbA hL hi hN _ _ _ _ _ _ _ _ _ _ _ _ _ _ _ _ _ _ _ _ _ _ _ _ _ _ _ _ _ _ _ _ _ _ _ _ _ _ _ _ _ _ _ _ _ _ _ _ _ _ _ _ _ _ _ hS h0 h1 H locs hd ls hl
      · refine lv_tableIn (tgt := 533) hx hb dL_law_32 (by decide) (by decide) rfl (by decide) ?_
        exact law_c11 X hXs hbl hA hbA hL hi hN _ _ _ _ _ _ _ _ _ _ _ _ _ _ _ _ _ _ _ _ _ _ _ _ _ _ _ _ _ _ _ _ _ _ _ _ _ _ _ _ _ _ _ _ _ _ _ _ _ _ _ _ _ _ _ hS h0 h1 H locs hd ls hl
      · refine lv_tableIn (tgt := 566) hx hb dL_law_32 (by decide) (by decide) rfl (by decide) ?_
        exact law_c12 X hXs hbl hA hbA hL hi hN _ _ _ _ _ _ _ _ _ _ _ _ _ _ _ _ _ _ _ _ _ _ _ _ _ _ _ _ _ _ _ _ _ _ _ _ _ _ _ _ _ _ _ _ _ _ _ _ _ _ _ _ _ _ _ hS h0 h1 H locs hd ls hl
      · refine lv_tableIn (tgt := 609) hx hb dL_law_32 (by decide) (by decide) rfl (by decide) ?_
        exact law_c13 X hXs hbl hA hbA hL hi hN _ _ _ _ _ _ _ _ _ _ _ _ _ _ _ _ _ _ _ _ _ _ _ _ _ _ _ _ _ _ _ _ _ _ _ _ _ _ _ _ _ _ _ _ _ _ _ _ _ _ _ _ _ _ _ hS h0 h1 H locs hd ls hl
      · refine lv_tableIn (tgt := 642) hx hb dL_law_32 (by decide) (by decide) rfl (by decide) ?_
        exact law_c14 X hXs hbl hA hbA hL hi hN _ _ _ _ _ _ _ _ _ _ _ _ _ _ _ _ _ _ _ _ _ _ _ _ _ _ _ _ _ _ _ _ _ _ _ _ _ _ _ _ _ _ _ _ _ _ _ _ _ _ _ _ _ _ _ hS h0 h1 H locs hd ls hl
      · refine lv_tableIn (tgt := 695) hx hb dL_law_32 (by decide) (by decide) rfl (by decide) ?_
        exact law_c15 X hXs hbl hA hbA hL hi hN _ _ _ _ _ _ _ _ _ _ _ _ _ _ _ _ _ _ _ _ _ _ _ _ _ _ _ _ _ _ _ _ _ _ _ _ _ _ _ _ _ _ _ _ _ _ _ _ _ _ _ _ _ _ _ hS h0 h1 H locs hd ls hl
      · refine lv_tableIn (tgt := 718) hx hb dL_law_32 (by decide) (by decide) rfl (by decide) ?_
        exact law_c16 X hXs hbl hA hbA hL hi hN _ _ _ _ _ _ _ _ _ _ _ _ _ _ _ _ _ _ _ _ _ _ _ _ _ _ _ _ _ _ _ _ _ _ _ _ _ _ _ _ _ _ _ _ _ _ _ _ _ _ _ _ _ _ _ hS h0 h1 H locs hd ls hl
      · refine lv_tableIn (tgt := 741) hx hb dL_law_32 (by decide) (by decide) rfl (by decide) ?_
        exact law_c17 X hXs hbl hA hbA hL hi hN _ _ _ _ _ _ _ _ _ _ _ _ _ _ _ _ _ _ _ _ _ _ _ _ _ _ _ _ _ _ _ _ _ _ _ _ _ _ _ _ _ _ _ _ _ _ _ _ _ _ _ _ _ _ _ hS h0 h1 H locs hd ls hl
      · refine lv_tableOut (tgt := 764) hx hb dL_law_32 (Or.inr (by rw [nI_toInt (by omega)]; omega)) (by decide) ?_
        refine lv_iinc (v := nI (i + 5)) (lv' := [(3, .int (nI (i + 5))), (0, .ref b), (1, .ref x0), (2, .ref m0)]) hx hb dL_law_764 hl (k := 3) rfl (by exact nI_add _ 5) (by decide) rfl (fun ls hl => ?_)
        refine lv_goto (tgt := 18) hx hb dL_law_767 (by decide) ?_
        exact hN _ _ _ _ _ _ _ _ _ _ _ _ _ _ _ _ _ _ _ _ _ _ _ _ _ _ _ _ _ _ _ _ _ _ _ _ _ _ _ _ _ _ _ _ _ _ _ _ _ _ _ _ _ _ _ hS h0 h1 H locs hd ls (lv_sub hl [1, 2, 3, 0] rfl)
