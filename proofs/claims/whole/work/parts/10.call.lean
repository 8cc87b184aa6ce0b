section
variable {xlim xps xvn xkc ev wa wm rf dp ea er lr lu lc ylim yend yans yrest ybeg yres yused ycalls yver ykept : Int32} {xop xnum len st vers evl xms own clr amt arg eg el pos hgt stk sst sev sw swm srf yop ybs cps old bef ywm wcp ecp mcp rcp yms ysf ycl yam yar ygv yel yat ytp : Nat → Int32}
theorem ce_ui (f : Nat → Int32) (k : Nat) : upd f k (f k) = f := by
  funext j; unfold upd
  by_cases h : j = k
  · rw [if_pos h, h]
  · rw [if_neg h]
def ce_en (b : Int32) (e : Nat) : Nat := if b ≤ 0 then e else if nI e ≤ b then e else b.toNatClampNeg
theorem ce_en_le {b : Int32} {e : Nat} (he : e ≤ 1000) : ce_en b e ≤ e := by
  unfold ce_en
  by_cases h : b ≤ 0
  · rw [if_pos h]; exact Nat.le_refl _
  · rw [if_neg h]
    by_cases h2 : nI e ≤ b
    · rw [if_pos h2]; exact Nat.le_refl _
    · rw [if_neg h2]
      rcases pk_ix b (n := e) (by omega) with q | q | ⟨j, hj, rfl⟩
      · exact absurd (Int32.le_of_lt q) h
      · exact absurd q h2
      · rw [ce_cl (by omega)]; omega
theorem ce_en_3 {b : Int32} {e : Nat} (he : e ≤ 1000) (h : ¬ b ≤ 0) (h2 : ¬ nI e ≤ b) : b = nI (ce_en b e) := by
  unfold ce_en
  rw [if_neg h, if_neg h2]
  rcases pk_ix b (n := e) (by omega) with q | q | ⟨j, hj, rfl⟩
  · exact absurd (Int32.le_of_lt q) h
  · exact absurd q h2
  · rw [ce_cl (by omega)]
theorem ce_en_1 {b : Int32} {e : Nat} (h : b ≤ 0) : ce_en b e = e := by unfold ce_en; rw [if_pos h]
theorem ce_en_2 {b : Int32} {e : Nat} (h : ¬ b ≤ 0) (h2 : nI e ≤ b) : ce_en b e = e := by unfold ce_en; rw [if_neg h, if_pos h2]
/-! the component's call -/
theorem xc_64 {post : SX → Prop} {t h0 : Nat} (ht : t < 5) (hh : hgt t = nI h0) (h6 : h0 ≤ 4) (hp : post (xlim, xps, xvn, xkc, ev, wa, wm, rf, nI (t + 1), ea, er, lr, lu, lc, xop, xnum, len, st, vers, evl, xms, own, clr, amt, arg, eg, el, pos, upd hgt t (nI (h0 + 2)), upd (upd stk (6 * t + h0) 0) (6 * t + (h0 + 1)) 0, sst, sev, sw, swm, srf)) : wX_callOther_64 post (xlim) (xps) (xvn) (xkc) (ev) (wa) (wm) (rf) (nI (t + 1)) (ea) (er) (lr) (lu) (lc) (xop) (xnum) (len) (st) (vers) (evl) (xms) (own) (clr) (amt) (arg) (eg) (el) (pos) (hgt) (stk) (sst) (sev) (sw) (swm) (srf) := by
  unfold wX_callOther_64
  refine xw_push ht hh (by omega) (xw_push (h := h0 + 1) ht pk_us (by omega) ?_)
  rw [ce_uu]
  exact hp
theorem xc_no {post : SX → Prop} {t h0 : Nat} {b : Int32} (ht : t < 5) (hh : hgt t = nI h0) (h6 : h0 < 4) (hn : stk (6 * t + h0) < 0 ∨ nI 6 ≤ stk (6 * t + h0)) (hp : post (xlim, xps, xvn, xkc, ev, wa, wm, rf, nI (t + 1), ea, er, lr, lu, lc, xop, xnum, len, st, vers, evl, xms, own, clr, amt, arg, eg, el, pos, upd hgt t (nI (h0 + 2)), upd (upd stk (6 * t + h0) 0) (6 * t + (h0 + 1)) 0, sst, sev, sw, swm, srf)) : wpX_callOther post (xlim, xps, xvn, xkc, ev, wa, wm, rf, nI (t + 1), ea, er, lr, lu, lc, xop, xnum, len, st, vers, evl, xms, own, clr, amt, arg, eg, el, pos, hgt, stk, sst, sev, sw, swm, srf) b (nI (6 * t + h0)) := by
  unfold wpX_callOther
  refine nm_r (nI_pred t) ⟨ce_in ht, nm_e ⟨ce_in (by omega), nm_r (congrArg stk (ce_cl (by omega))) ?_⟩⟩
  rw [nI_1 (6 * t + h0), ce_a2 (6 * t + h0)]
  exact ⟨ce_in (by omega), nm_e ⟨ce_in (by omega), nm_e (xw_accF hn (br_t rfl (xc_64 ht hh (by omega) hp)))⟩⟩
theorem xc_acc {post : SX → Prop} {t h0 a a' : Nat} {b am ar : Int32} (ht : t < 5) (h6 : h0 < 4) (hown : own t = nI a) (ha : a < 6) (hs : stk (6 * t + h0) = nI a') (ha' : a' < 6) (ham : stk (6 * t + h0 + 1) = am) (har : stk (6 * t + h0 + 2) = ar)
    (h1 : ce_DN st (t + 1) (nI a) a' am → wX_callOther_64 post (xlim) (xps) (xvn) (xkc) (ev) (wa) (wm) (rf) (nI (t + 1)) (ea) (er) (lr) (lu) (lc) (xop) (xnum) (len) (st) (vers) (evl) (xms) (own) (clr) (amt) (arg) (eg) (el) (pos) (hgt) (stk) (sst) (sev) (sw) (swm) (srf))
    (h0' : ¬ ce_DN st (t + 1) (nI a) a' am → (b ≤ 0 → wX_callOther_97 post (nI a) (nI a') am ar (el t) (xlim) (xps) (xvn) (xkc) (ev) (wa) (wm) (rf) (nI (t + 1)) (ea) (er) (lr) (lu) (lc) (xop) (xnum) (len) (st) (vers) (evl) (xms) (own) (clr) (amt) (arg) (eg) (el) (pos) (hgt) (stk) (sst) (sev) (sw) (swm) (srf)) ∧ (¬ b ≤ 0 → (el t ≤ b → wX_callOther_97 post (nI a) (nI a') am ar (el t) (xlim) (xps) (xvn) (xkc) (ev) (wa) (wm) (rf) (nI (t + 1)) (ea) (er) (lr) (lu) (lc) (xop) (xnum) (len) (st) (vers) (evl) (xms) (own) (clr) (amt) (arg) (eg) (el) (pos) (hgt) (stk) (sst) (sev) (sw) (swm) (srf)) ∧ (¬ el t ≤ b → wX_callOther_99 post (nI a) (nI a') am ar b (xlim) (xps) (xvn) (xkc) (ev) (wa) (wm) (rf) (nI (t + 1)) (ea) (er) (lr) (lu) (lc) (xop) (xnum) (len) (st) (vers) (evl) (xms) (own) (clr) (amt) (arg) (eg) (el) (pos) (hgt) (stk) (sst) (sev) (sw) (swm) (srf)))) : wpX_callOther post (xlim, xps, xvn, xkc, ev, wa, wm, rf, nI (t + 1), ea, er, lr, lu, lc, xop, xnum, len, st, vers, evl, xms, own, clr, amt, arg, eg, el, pos, hgt, stk, sst, sev, sw, swm, srf) b (nI (6 * t + h0)) := by
  unfold wpX_callOther
  refine nm_r (nI_pred t) ⟨ce_in ht, nm_r ((congrArg own (ce_cl (by omega))).trans hown) ⟨ce_in (by omega), nm_r ((congrArg stk (ce_cl (by omega))).trans hs) ?_⟩⟩
  rw [nI_1 (6 * t + h0), ce_a2 (6 * t + h0)]
  refine ⟨ce_in (by omega), nm_r ((congrArg stk (ce_cl (by omega))).trans ham) ⟨ce_in (by omega), nm_r ((congrArg stk (ce_cl (by omega))).trans har) (xw_accT ha' (br_f (by decide) (xw_den (by omega) (Or.inr ⟨a, ha, rfl⟩) ha' (fun q => br_f (by decide) (h1 q)) (fun q => br_t rfl ?_))))⟩⟩
  rw [ce_cl (t := t) (by omega)]
  exact ⟨ce_in ht, nm_e (h0' q)⟩
theorem xc_den {post : SX → Prop} {t h0 a a' : Nat} {b am : Int32} (ht : t < 5) (hh : hgt t = nI h0) (h6 : h0 < 4) (hown : own t = nI a) (ha : a < 6) (hs : stk (6 * t + h0) = nI a') (ha' : a' < 6) (ham : stk (6 * t + h0 + 1) = am) (hD : ce_DN st (t + 1) (nI a) a' am) (hp : post (xlim, xps, xvn, xkc, ev, wa, wm, rf, nI (t + 1), ea, er, lr, lu, lc, xop, xnum, len, st, vers, evl, xms, own, clr, amt, arg, eg, el, pos, upd hgt t (nI (h0 + 2)), upd (upd stk (6 * t + h0) 0) (6 * t + (h0 + 1)) 0, sst, sev, sw, swm, srf)) : wpX_callOther post (xlim, xps, xvn, xkc, ev, wa, wm, rf, nI (t + 1), ea, er, lr, lu, lc, xop, xnum, len, st, vers, evl, xms, own, clr, amt, arg, eg, el, pos, hgt, stk, sst, sev, sw, swm, srf) b (nI (6 * t + h0)) :=
  xc_acc ht h6 hown ha hs ha' ham rfl (fun _ => xc_64 ht hh (by omega) hp) (fun n => absurd hD n)
theorem xc_opn {post : SX → Prop} {t h0 a a' e : Nat} {b am ar : Int32} (ht : t < 5) (h6 : h0 < 4) (hown : own t = nI a) (ha : a < 6) (hs : stk (6 * t + h0) = nI a') (ha' : a' < 6) (ham : stk (6 * t + h0 + 1) = am) (har : stk (6 * t + h0 + 2) = ar) (hel : el t = nI e) (he : e ≤ 1000) (hD : ¬ ce_DN st (t + 1) (nI a) a' am)
    (hp : post (xlim, xps, xvn, xkc, ev, wa, wm, rf, nI (t + 1 + 1), ea, er, lr, lu, lc + 1, xop, xnum, len, ce_mv st (nI a) a' am, vers, evl, xms, upd own (t + 1) (nI a'), upd clr (t + 1) (nI a), upd amt (t + 1) am, upd arg (t + 1) ar, upd eg (t + 1) (nI (ce_en b e)), upd el (t + 1) (nI (ce_en b e)), upd pos (t + 1) 0, upd hgt (t + 1) 0, stk, ce_cp sst (30 * (t + 1)) 30 st, upd sev (t + 1) ev, upd sw (t + 1) wa, upd swm (t + 1) wm, upd srf (t + 1) rf)) : wpX_callOther post (xlim, xps, xvn, xkc, ev, wa, wm, rf, nI (t + 1), ea, er, lr, lu, lc, xop, xnum, len, st, vers, evl, xms, own, clr, amt, arg, eg, el, pos, hgt, stk, sst, sev, sw, swm, srf) b (nI (6 * t + h0)) := by
  have h5 : t + 1 < 5 := by
    have : t + 1 ≠ 5 := fun q => hD (Or.inr (Or.inl q))
    omega
  have op : ∀ P : SX → Prop, P (xlim, xps, xvn, xkc, ev, wa, wm, rf, nI (t + 1 + 1), ea, er, lr, lu, lc + 1, xop, xnum, len, ce_mv st (nI a) a' am, vers, evl, xms, upd own (t + 1) (nI a'), upd clr (t + 1) (nI a), upd amt (t + 1) am, upd arg (t + 1) ar, upd eg (t + 1) (nI (ce_en b e)), upd el (t + 1) (nI (ce_en b e)), upd pos (t + 1) 0, upd hgt (t + 1) 0, stk, ce_cp sst (30 * (t + 1)) 30 st, upd sev (t + 1) ev, upd sw (t + 1) wa, upd swm (t + 1) wm, upd srf (t + 1) rf) → wpX_open P (xlim, xps, xvn, xkc, ev, wa, wm, rf, nI (t + 1), ea, er, lr, lu, lc, xop, xnum, len, st, vers, evl, xms, own, clr, amt, arg, eg, el, pos, hgt, stk, sst, sev, sw, swm, srf) (nI a) (nI a') am ar (nI (ce_en b e)) := fun P h => xw_open h5 (Or.inr ⟨a, ha, rfl⟩) ha' h
  refine xc_acc ht h6 hown ha hs ha' ham har (fun q => absurd q hD) (fun _ => ?_)
  rw [hel]
  refine br_c (fun q => ?_) (fun q => br_c (fun q2 => ?_) (fun q2 => ?_))
  · unfold wX_callOther_97 wX_callOther_99
    rw [ce_en_1 q] at op hp
    exact op _ hp
  · unfold wX_callOther_97 wX_callOther_99
    rw [ce_en_2 q q2] at op hp
    exact op _ hp
  · unfold wX_callOther_99
    rw [← ce_en_3 he q q2] at op hp
    exact op _ hp
/-! the reference's call -/
theorem yc_no {post : SY → Prop} {t h0 : Nat} {b : Int32} (ht : t < 5) (hh : ytp t = nI (h0 + 3)) (h6 : h0 < 4) (hn : stk (6 * t + h0) < 0 ∨ nI 6 ≤ stk (6 * t + h0)) (hp : post (ylim, ev, wa, rf, nI (t + 1), yend, yans, yrest, ybeg, yres, yused, ycalls, yver, ykept, yop, ybs, len, st, cps, old, bef, ywm, wcp, ecp, mcp, rcp, evl, yms, ysf, ycl, yam, yar, ygv, yel, yat, upd ytp t (nI (h0 + 2)), upd (upd stk (6 * t + h0) 0) (6 * t + (h0 + 1)) 0)) : wpY_other post (ylim, ev, wa, rf, nI (t + 1), yend, yans, yrest, ybeg, yres, yused, ycalls, yver, ykept, yop, ybs, len, st, cps, old, bef, ywm, wcp, ecp, mcp, rcp, evl, yms, ysf, ycl, yam, yar, ygv, yel, yat, ytp, stk) (nI 18) b := by
  unfold wpY_other
  refine nm_r (nI_pred t) (br_f (by decide) (br_f (by decide) (yw_pop (h := h0 + 2) ht hh (by omega) (yw_pop (h := h0 + 1) ht pk_us (by omega) (yw_pop (h := h0) ht pk_us (by omega) ?_)))))
  rw [ce_uu, ce_uu]
  refine br_f (by decide) (yw_accF hn (br_t rfl (yw_push ht pk_us (by omega) (yw_push (h := h0 + 1) ht pk_us (by omega) ?_))))
  rw [ce_uu, ce_uu]
  exact hp
theorem yc_pre {post : SY → Prop} {t h0 a' e : Nat} {b am ar : Int32} (ht : t < 5) (hh : ytp t = nI (h0 + 3)) (h6 : h0 < 4) (hs : stk (6 * t + h0) = nI a') (ha' : a' < 6) (ham : stk (6 * t + h0 + 1) = am) (har : stk (6 * t + h0 + 2) = ar) (hel : yel t = nI e) (he : e ≤ 1000) (hp : wY_other_191 post (nI t) ar am (nI a') (nI (ce_en b e)) (ylim) (ev) (wa) (rf) (nI (t + 1)) (yend) (yans) (yrest) (ybeg) (yres) (yused) (ycalls) (yver) (ykept) (yop) (ybs) (len) (st) (cps) (old) (bef) (ywm) (wcp) (ecp) (mcp) (rcp) (evl) (yms) (ysf) (ycl) (yam) (yar) (ygv) (yel) (yat) (upd ytp t (nI h0)) (stk)) : wpY_other post (ylim, ev, wa, rf, nI (t + 1), yend, yans, yrest, ybeg, yres, yused, ycalls, yver, ykept, yop, ybs, len, st, cps, old, bef, ywm, wcp, ecp, mcp, rcp, evl, yms, ysf, ycl, yam, yar, ygv, yel, yat, ytp, stk) (nI 18) b := by
  unfold wpY_other
  refine nm_r (nI_pred t) (br_f (by decide) (br_f (by decide) (yw_pop (h := h0 + 2) ht hh (by omega) (yw_pop (h := h0 + 1) ht pk_us (by omega) (yw_pop (h := h0) ht pk_us (by omega) ?_)))))
  rw [ce_uu, ce_uu, hs, show stk (6 * t + (h0 + 1)) = am from ham, show stk (6 * t + (h0 + 2)) = ar from har, ce_cl (t := t) (by omega)]
  refine br_f (by decide) (yw_accT ha' (br_f (by decide) ?_))
  rw [hel]
  refine br_c (fun q => ?_) (fun q => ⟨ce_in ht, br_c (fun q2 => ?_) (fun q2 => ?_)⟩)
  · unfold wY_other_185
    rw [ce_cl (t := t) (by omega), hel]
    rw [ce_en_1 q] at hp
    exact ⟨ce_in ht, hp⟩
  · unfold wY_other_185
    rw [ce_cl (t := t) (by omega), hel]
    rw [ce_en_2 q q2] at hp
    exact ⟨ce_in ht, hp⟩
  · rw [← ce_en_3 he q q2] at hp
    exact hp
theorem yc_den {post : SY → Prop} {t h0 a a' n : Nat} {am ar : Int32} (ht : t < 5) (hown : ysf t = nI a) (ha : a < 6) (ha' : a' < 6) (h6 : h0 ≤ 4) (hh : ytp t = nI h0) (hB : ce_BL st) (hD : ce_DN st (t + 1) (nI a) a' am) (hp : post (ylim, ev, wa, rf, nI (t + 1), 4, 0, nI n, ybeg, yres, yused, ycalls, yver, ykept, yop, ybs, len, st, cps, old, bef, ywm, wcp, ecp, mcp, rcp, evl, yms, ysf, ycl, yam, yar, ygv, yel, yat, upd ytp t (nI (h0 + 2)), upd (upd stk (6 * t + h0) 0) (6 * t + (h0 + 1)) 0)) : wY_other_191 post (nI t) ar am (nI a') (nI n) (ylim) (ev) (wa) (rf) (nI (t + 1)) (yend) (yans) (yrest) (ybeg) (yres) (yused) (ycalls) (yver) (ykept) (yop) (ybs) (len) (st) (cps) (old) (bef) (ywm) (wcp) (ecp) (mcp) (rcp) (evl) (yms) (ysf) (ycl) (yam) (yar) (ygv) (yel) (yat) (ytp) (stk) := by
  unfold wY_other_191
  rw [ce_cl (t := t) (by omega), hown]
  refine ⟨ce_in ht, yb_den (by omega) (Or.inr ⟨a, ha, rfl⟩) ha' hB hD (br_t rfl (yw_give ht hh h6 ?_))⟩
  rw [Int32.sub_zero, ce_ui]
  exact hp
theorem yc_emp {post : SY → Prop} {t h0 a a' n : Nat} {am ar : Int32} (ht : t < 5) (hown : ysf t = nI a) (ha : a < 6) (ha' : a' < 6) (h6 : h0 ≤ 4) (hh : ytp t = nI h0) (hB : ce_BL st) (hD : ¬ ce_DN st (t + 1) (nI a) a' am) (hL : len a' = nI 0) (hw : ∀ j, j < 24 → vp_nar .boolean (ywm j) = ywm j) (hp : post (ylim, ev, wa, rf, nI (t + 1), 0, 0, nI n, ybeg + 1, yres, yused, ycalls, yver, ykept, yop, ybs, len, ce_mv st (nI a) a' am, cps, old, bef, ywm, wcp, ecp, mcp, rcp, evl, yms, ysf, ycl, yam, yar, ygv, yel, yat, upd ytp t (nI (h0 + 2)), upd (upd stk (6 * t + h0) 0) (6 * t + (h0 + 1)) 1)) : wY_other_191 post (nI t) ar am (nI a') (nI n) (ylim) (ev) (wa) (rf) (nI (t + 1)) (yend) (yans) (yrest) (ybeg) (yres) (yused) (ycalls) (yver) (ykept) (yop) (ybs) (len) (st) (cps) (old) (bef) (ywm) (wcp) (ecp) (mcp) (rcp) (evl) (yms) (ysf) (ycl) (yam) (yar) (ygv) (yel) (yat) (ytp) (stk) := by
  unfold wY_other_191
  rw [ce_cl (t := t) (by omega), hown]
  refine ⟨ce_in ht, yb_ok (by omega) (Or.inr ⟨a, ha, rfl⟩) ha' hB hD hL (by omega) hw (fun _ => br_t rfl (yw_give ht hh h6 ?_)) (fun q => absurd q (by omega))⟩
  rw [Int32.sub_zero, ce_ui]
  exact hp
theorem yc_run {post : SY → Prop} {t a a' n L : Nat} {am ar : Int32} (ht : t < 5) (hown : ysf t = nI a) (ha : a < 6) (ha' : a' < 6) (hB : ce_BL st) (hD : ¬ ce_DN st (t + 1) (nI a) a' am) (hL : len a' = nI L) (h0L : 0 < L) (hl : L ≤ 24) (hw : ∀ j, j < 24 → vp_nar .boolean (ywm j) = ywm j) (hp : post (ylim, ev, wa, rf, nI (t + 1 + 1), 0, 0, nI n, ybeg + 1, yres, yused, ycalls, yver, ykept, yop, ybs, len, ce_mv st (nI a) a' am, ce_cp cps (30 * (t + 1)) 30 st, old, bef, ywm, ce_cp wcp (24 * (t + 1)) 24 ywm, upd ecp (t + 1) ev, upd mcp (t + 1) wa, upd rcp (t + 1) rf, evl, yms, upd ysf (t + 1) (nI a'), upd ycl (t + 1) (nI a), upd yam (t + 1) am, upd yar (t + 1) ar, upd ygv (t + 1) (nI n), upd yel (t + 1) (nI n), upd yat (t + 1) 0, upd ytp (t + 1) 0, stk)) : wY_other_191 post (nI t) ar am (nI a') (nI n) (ylim) (ev) (wa) (rf) (nI (t + 1)) (yend) (yans) (yrest) (ybeg) (yres) (yused) (ycalls) (yver) (ykept) (yop) (ybs) (len) (st) (cps) (old) (bef) (ywm) (wcp) (ecp) (mcp) (rcp) (evl) (yms) (ysf) (ycl) (yam) (yar) (ygv) (yel) (yat) (ytp) (stk) := by
  unfold wY_other_191
  rw [ce_cl (t := t) (by omega), hown]
  exact ⟨ce_in ht, yb_ok (by omega) (Or.inr ⟨a, ha, rfl⟩) ha' hB hD hL hl hw (fun q => absurd q (by omega)) (fun _ => br_f (by decide) hp)⟩
end
