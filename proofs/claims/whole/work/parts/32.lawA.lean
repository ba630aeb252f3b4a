/-! THE CLAIM OUT OF ONE WALK OF THE LAW'S BODY. Your part is whole_start (and what it stands on); all else here is the same for every law, but numbers. -/
def R_law : String := "SumsForAllLaw"
def lw_P (b : Addr) (xs : List Int32) (args : Array Value) (s : State) : Prop := args = #[.ref b] ∧ s.IntsAt b xs ∧ xs.length ≤ 2560 ∧ (Jvm.Cond.and given_1 narrow_1).before args s = true
def lw_Q (_ : Array Value) (s : State) (o : Outcome) (t : State) : Prop := o = .returned (some (.int 1)) ∧ Framed s o t [] 49 3799
def lw_Z (below : List Frame) (a : Array Value) (s : State) : State → Prop := fun t => ∃ o, t.status = .running ∧ Ended t below o ∧ lw_Q a s o t
/-- the law's own end, with 1 on the stack, nothing written that was there before, its room as the claim has it -/
theorem lw_ret {p : Program} {l : Launch} {e : Env} {s : State} {m : MethodId} {below : List Frame} {meth : Method} {c : Code} {b : Nat} (hx : p.tables.exec = Jvm.exec) (hb : c.code = code) (hr : meth.sig.returnType = ret) (hlocks : meth.locks = false) {pc : Nat} {H : Heap} {ls : Array Slot} (hdg : decode code pc = .ok (.ireturn, 1)) : W p l e room_1 s m #[Value.ref b] below meth c H [] 49 3799 (lw_Z below #[Value.ref b] s) (F0 m pc ls [.int 1]) := by
  intro T hT X
  obtain ⟨fs, hret, hrun, hended, hW, hframe⟩ := X.leave (v := some (.int 1)) (hlocks := hlocks) (fun h => by rw [hr] at h; cases h)
  have hmeth' : T.vm.method? m = some meth := X.method'
  refine ⟨T.setFrames fs, ?_, .returned (some (.int 1)), hrun, hended, rfl, ⟨_, rfl⟩, hW, hframe⟩
  jvm_step X.here [X.here.top, hx, hb, hdg, hmeth', hr, ret, narrow_b1]
  (try refine ⟨rfl, ?_⟩); (try refine ⟨rfl, ?_⟩)
  first | (intro acts; rw [hret _ acts rfl rfl rfl]) | rw [hret _ _ rfl rfl rfl]
  exact Steps.refl _
/-- what holds at the law's entry: the machine, the code, the tables' words (any of lw_tbl by 'hts w (by decide +kernel)'), the script of L ints xs at the cell b, what the Statement gives of the start (any of its parts by flat_of_before) -/
def lw_At (p : Program) (s : State) (m : MethodId) (meth : Method) (c : Code) (b L : Nat) (xs : Nat → Int32) : Prop :=
  p.tables.exec = Jvm.exec ∧ c.code = code ∧ meth.sig.returnType = ret ∧ c.maxLocals = 4 ∧ s.vm.findClass R_law = some m.cls ∧ (∀ w ∈ lw_tbl, w.before #[Value.ref b] s = true) ∧ va_X b L xs s s.heap ∧ b < s.heap.size ∧ meth.locks = false ∧ (Jvm.Cond.and given_1 narrow_1).before #[Value.ref b] s = true

def SInv (n z : Nat) (f : Nat → Int32) : Prop := 2 ≤ n ∧ n ≤ 9 ∧ 1 ≤ z ∧ z ≤ 12 ∧ zo n z f
/-- the law stands at a place of its body with i ints read: class and reference hold one state -/
def LawAt (p : Program) (l : Launch) (e : Env) (s : State) (m : MethodId) (below : List Frame) (meth : Method) (c : Code) (G : va_G) (cI cZ : ClassId) (A : Nat → Prop) (b : Nat) (x0 nw sr_ sra ss i0 jr0 ja0 js0 i1 jr1 ja1 js1 le ht qa qb bs br bq us ur ur1 ub ub1 an vr vr1 vb vb1 m0 cs cg ck c0 c1 c2 c3 c4 c5 cl cp cq cr cn cb cu cv ce : Nat) (pc i : Nat) : Prop := ∀ (n : Nat) (z : Nat) (op : Int32) (st : Int32) (ea : Int32) (f : Nat → Int32) (g : Nat → Int32) (jn0 : Nat) (jz0 : Nat) (jo0 : Int32) (jt0 : Int32) (je0 : Int32) (jf0 : Nat → Int32) (jg0 : Nat → Int32) (jn1 : Nat) (jz1 : Nat) (jo1 : Int32) (jt1 : Int32) (je1 : Int32) (jf1 : Nat → Int32) (jg1 : Nat → Int32) (b0 : Bool) (b1 : Bool) (ew : Nat) (er : Nat) (em : Nat) (es : Nat) (tb0 : Nat → Int32) (sa0 : Nat → Int32) (sb0 : Nat → Int32) (ty : Int32) (lq : Nat) (y1 : Nat → Int32) (y2 : Nat → Int32) (u1 : Nat → Int32) (u2 : Nat → Int32) (v1 : Nat → Int32) (v2 : Nat → Int32) (wl : Nat) (rd : Nat) (lr : Nat) (tm : Int32) (lgs : Int32) (T : Nat → Nat → Int32) (xl : Nat → Int32) (xp : Nat → Int32) (xq : Nat → Int32) (xr : Nat → Int32) (nwc : Nat → Int32) (bgc : Nat → Int32) (bua : Nat → Int32) (baa : Nat → Int32) (enc : Nat → Int32) (A_ : Nat → Int32) (B_ : Nat → Int32), (SInv n z f) → (b0 = true → SInv jn0 jz0 jf0 ∧ A_ = mkS jn0 jz0 jo0 jt0 je0 jg0 jf0) → (b1 = true → SInv jn1 jz1 jf1 ∧ B_ = mkS jn1 jz1 jo1 jt1 je1 jg1 jf1) → ∀ (H : Heap) (locs : List Loc), Hd G A s.heap [(x0, .inr (5, [.ref nw, .ref i0, .ref i1, .int (nI (kpn b0 b1)), .ref le, .ref bs, .ref us, .ref an])), (nw, .inr (4, [.ref sr_, .ref ss, .int (nI n), .int (nI z), .int op, .int st, .int ea])), (sr_, .inr (3, [.ref sra])), (sra, .inl (cI, 108, .inl f)), (ss, .inl (cI, 81, .inl g)), (i0, .inr (4, [.ref jr0, .ref js0, .int (nI jn0), .int (nI jz0), .int jo0, .int jt0, .int je0])), (jr0, .inr (3, [.ref ja0])), (ja0, .inl (cI, 108, .inl jf0)), (js0, .inl (cI, 81, .inl jg0)), (i1, .inr (4, [.ref jr1, .ref js1, .int (nI jn1), .int (nI jz1), .int jo1, .int jt1, .int je1])), (jr1, .inr (3, [.ref ja1])), (ja1, .inl (cI, 108, .inl jf1)), (js1, .inl (cI, 81, .inl jg1)), (le, .inr (1, [.ref ht, .int (nI ew), .int (nI er), .int (nI em), .int (nI es), .ref qa, .ref qb])), (ht, .inl (cI, 864, .inl tb0)), (qa, .inl (cI, 9, .inl sa0)), (qb, .inl (cI, 9, .inl sb0)), (bs, .inr (0, [.ref br, .ref bq, .int ty, .int (nI lq)])), (br, .inl (cI, 9, .inl y1)), (bq, .inl (cI, 9, .inl y2)), (us, .inr (2, [.ref ur, .ref ub])), (ur, .inr (3, [.ref ur1])), (ur1, .inl (cI, 108, .inl u1)), (ub, .inr (3, [.ref ub1])), (ub1, .inl (cI, 108, .inl u2)), (an, .inr (2, [.ref vr, .ref vb])), (vr, .inr (3, [.ref vr1])), (vr1, .inl (cI, 108, .inl v1)), (vb, .inr (3, [.ref vb1])), (vb1, .inl (cI, 108, .inl v2)), (m0, .inr (6, [.ref cs, .ref cg, .ref ck, .ref c0, .ref c1, .ref c2, .ref c3, .ref c4, .ref c5, .int (nI wl), .int (nI rd), .ref cl, .ref cp, .ref cq, .ref cr, .ref cn, .ref cb, .ref cu, .ref cv, .int tm, .int (nI lr), .int lgs, .ref ce])), (cs, .inl (cI, 194, .inl (mkS n z op st ea g f))), (cg, .inl (cI, 388, .inl (imf A_ B_))), (ck, .inl (cZ, 2, .inl (kf b0 b1))), (c0, .inl (cI, 144, .inl (T 0))), (c1, .inl (cI, 144, .inl (T 1))), (c2, .inl (cI, 144, .inl (T 2))), (c3, .inl (cI, 144, .inl (T 3))), (c4, .inl (cI, 144, .inl (T 4))), (c5, .inl (cI, 144, .inl (T 5))), (cl, .inl (cI, 9, .inl xl)), (cp, .inl (cI, 9, .inl xp)), (cq, .inl (cI, 9, .inl xq)), (cr, .inl (cI, 9, .inl xr)), (cn, .inl (cI, 108, .inl nwc)), (cb, .inl (cI, 108, .inl bgc)), (cu, .inl (cI, 9, .inl bua)), (cv, .inl (cI, 9, .inl baa)), (ce, .inl (cI, 108, .inl enc))] H locs → ∀ (ls : Array Slot), lv_has ls 4 [(0, .ref b), (1, .ref x0), (2, .ref m0), (3, .int (nI i))] → W p l e room_1 s m #[Value.ref b] below meth c H locs 49 3799 (lw_Z below #[Value.ref b] s) (F0 m pc ls [])
theorem n_sld {p : Program} {l : Launch} {e : Env} {R : Room} {s : State} {m : MethodId} {args : Array Value} {below : List Frame} {meth : Method} {c : Code} {H H0 : Heap} {locs : List Loc} {cells slots : Nat} {Q : State → Prop} {G : va_G} {cI cZ : ClassId} {own : String} {cc : ByteArray} {mL pc : Nat} {rest : List Value} {ls : Array Slot} {A : Nat → Prop} {b L k : Nat} {xs : Nat → Int32} (X : Fx p s m args meth c G cI cZ own cc mL) (hXs : va_X b L xs s H0) (hbl : b < H0.size) (hbA : ¬ A b) (hS : va_S A H0 H locs) (hk : k < L) (hL : L < 2 ^ 31) (hdg : decode cc pc = .ok (.iaload, 1)) (kk : W p l e R s m args below meth c H locs cells slots Q (F0 m (pc + 1) ls (.int (xs k) :: rest))) : W p l e R s m args below meth c H locs cells slots Q (F0 m pc ls (.int (nI k) :: .ref b :: rest)) :=
  va_sld X.1 X.2.1 hXs hbl hbA hS (vp_in_nI hk hL) hdg (by rw [nI_clamp (Nat.lt_trans hk hL)]; exact kk)
theorem law_lt {i L : Nat} (hi : i < 2 ^ 30) (hL : L < 2 ^ 30) (h : ¬ nI L - nI 5 < nI i) : i + 5 ≤ L := by
  have h1 : nI i ≤ nI L - nI 5 := Int32.not_lt.mp h
  have h2 := Int32.le_iff_toInt_le.mp h1
  rw [pk_sub_toInt hL (by decide), nI_toInt (by omega)] at h2
  omega
theorem sinv_mach {n z : Nat} {f : Nat → Int32} {p0 p1 : Int32} (h : SInv n z f) : SInv (if vMa p0 p1 then tn p0 else n) (if vMa p0 p1 then tn p1 else z) (if vMa p0 p1 then (fun _ => nI 0) else f) := by
  cases hv : vMa p0 p1
  · simpa [hv] using h
  · have hv' := hv
    simp only [vMa, Bool.and_eq_true] at hv'
    obtain ⟨a, ha1, ha2, rfl⟩ := inB_of2 (by decide) (by decide) hv'.1
    obtain ⟨c, hc1, hc2, rfl⟩ := inB_of2 (by decide) (by decide) hv'.2
    simp only [if_true, tn_N (show a < 2 ^ 31 by omega), tn_N (show c < 2 ^ 31 by omega)]
    exact ⟨ha1, ha2, hc1, hc2, fun _ _ _ _ _ => rfl⟩
theorem sinv_put {n z : Nat} {f : Nat → Int32} {p0 p1 p2 : Int32} (h : SInv n z f) : SInv n z (T_put n z f p0 p1 p2) := by
  obtain ⟨h1, h2, h3, h4, h5⟩ := h
  refine ⟨h1, h2, h3, h4, ?_⟩
  unfold T_put
  cases hv : vPu n z p0 p1 p2
  · simpa using h5
  · simp only [vPu, Bool.and_eq_true] at hv
    obtain ⟨a, ha, rfl⟩ := inB_of (by omega) hv.1
    obtain ⟨c, hc, rfl⟩ := inB_of (by omega) hv.2.1
    simp only [if_true, tn_N (show a < 2 ^ 31 by omega), tn_N (show c < 2 ^ 31 by omega)]
    intro m hm p hp ho
    simp only [upd]
    rw [if_neg (by omega)]
    exact h5 m hm p hp ho
theorem zz_not : ∀ c : Bool, c = false → ¬ c = true := by decide
