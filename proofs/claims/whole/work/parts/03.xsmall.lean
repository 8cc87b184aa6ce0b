section
variable {xlim xps xvn xkc ev wa wm rf dp ea er lr lu lc ylim yend yans yrest ybeg yres yused ycalls yver ykept : Int32} {xop xnum len st vers evl xms own clr amt arg eg el pos hgt stk sst sev sw swm srf yop ybs cps old bef ywm wcp ecp mcp rcp yms ysf ycl yam yar ygv yel yat ytp : Nat → Int32}
theorem ce_uu (f : Nat → Int32) (k : Nat) (x y : Int32) : upd (upd f k x) k y = upd f k y := by
  funext j; unfold upd
  by_cases h : j = k
  · rw [if_pos h, if_pos h]
  · rw [if_neg h, if_neg h, if_neg h]
theorem ce_m1 {c : Nat} (h : c < 6) : (-1 : Int32) ≠ nI c := by
  intro e
  have := congrArg Int32.toInt e
  rw [nI_toInt (by omega), show (-1 : Int32).toInt = -1 from by decide] at this
  omega
theorem ce_neg1 {c : Nat} (h : c < 6) : ¬ nI c = (-1 : Int32) := fun e => ce_m1 h e.symm
/-- where the caller is from outside, or an account -/
def ce_CL (cl : Int32) : Prop := cl = -1 ∨ ∃ c, c < 6 ∧ cl = nI c
def ce_tk (st : Nat → Int32) (cl am : Int32) : Nat → Int32 := if cl = -1 then st else upd st (5 * cl.toNatClampNeg + 4) (st (5 * cl.toNatClampNeg + 4) - am)
def ce_mv (st : Nat → Int32) (cl : Int32) (a : Nat) (am : Int32) : Nat → Int32 := upd (ce_tk st cl am) (5 * a + 4) (ce_tk st cl am (5 * a + 4) + am)
/-- denied -/
def ce_DN (st : Nat → Int32) (d : Nat) (cl : Int32) (a : Nat) (am : Int32) : Prop := am < 0 ∨ d = 5 ∨ (∃ c, c < 6 ∧ cl = nI c ∧ st (5 * c + 4) < am) ∨ 1000000000 - st (5 * a + 4) < am
theorem xw_push {post : SX → Prop} {t h : Nat} {z : Int32} (ht : t < 5) (hh : hgt t = nI h) (h6 : h < 6) (hp : post (xlim, xps, xvn, xkc, ev, wa, wm, rf, nI (t + 1), ea, er, lr, lu, lc, xop, xnum, len, st, vers, evl, xms, own, clr, amt, arg, eg, el, pos, upd hgt t (nI (h + 1)), upd stk (6 * t + h) z, sst, sev, sw, swm, srf)) : wpX_push post (xlim, xps, xvn, xkc, ev, wa, wm, rf, nI (t + 1), ea, er, lr, lu, lc, xop, xnum, len, st, vers, evl, xms, own, clr, amt, arg, eg, el, pos, hgt, stk, sst, sev, sw, swm, srf) z := by
  unfold wpX_push
  refine nm_r (nI_pred t) ⟨ce_in ht, nm_r ((congrArg hgt (ce_cl (by omega))).trans hh) ?_⟩
  rw [ce_mR6, nI_add, ce_cl (t := 6 * t + h) (by omega), ce_cl (t := t) (by omega), nI_1 h]
  exact ⟨ce_in (by omega), nm_e ⟨ce_in ht, nm_e hp⟩⟩
theorem xw_accT {post : Int32 → Prop} {a : Nat} (ha : a < 6) (hp : post 1) : wpX_isAccount post (nI a) := by
  unfold wpX_isAccount
  exact br_f (nI_pos (by omega)) (br_f (nI_ge (b := 6) ha (by decide)) hp)
theorem xw_accF {post : Int32 → Prop} {x : Int32} (hx : x < 0 ∨ nI 6 ≤ x) (hp : post 0) : wpX_isAccount post x := by
  unfold wpX_isAccount
  by_cases h : x < 0
  · exact br_t h hp
  · exact br_f h (br_t (hx.resolve_left h) hp)
theorem xw_den {post : Int32 → Prop} {d a : Nat} {cl am : Int32} (hd : d ≤ 5) (hc : ce_CL cl) (ha : a < 6) (h1 : ce_DN st d cl a am → post 1) (h0 : ¬ ce_DN st d cl a am → post 0) : wpX_isDenied post (xlim, xps, xvn, xkc, ev, wa, wm, rf, nI d, ea, er, lr, lu, lc, xop, xnum, len, st, vers, evl, xms, own, clr, amt, arg, eg, el, pos, hgt, stk, sst, sev, sw, swm, srf) cl (nI a) am := by
  unfold wpX_isDenied
  refine br_c (fun h => h1 (Or.inl h)) (fun n1 => ?_)
  refine pk_lt d 5 (fun h5 => ?_) (fun h5 => h1 (Or.inr (Or.inl (by omega))))
  have fin : (¬ ∃ c, c < 6 ∧ cl = nI c ∧ st (5 * c + 4) < am) → wX_isDenied_35 post (nI a) am (xlim) (xps) (xvn) (xkc) (ev) (wa) (wm) (rf) (nI d) (ea) (er) (lr) (lu) (lc) (xop) (xnum) (len) (st) (vers) (evl) (xms) (own) (clr) (amt) (arg) (eg) (el) (pos) (hgt) (stk) (sst) (sev) (sw) (swm) (srf) := by
    intro n3
    unfold wX_isDenied_35
    rw [ce_mR5, ce_a4, ce_cl (by omega)]
    refine ⟨ce_in (by omega), br_c (fun h => h0 ?_) (fun h => h1 (Or.inr (Or.inr (Or.inr (Int32.not_le.mp h)))))⟩
    intro q
    rcases q with q | q | q | q
    · exact n1 q
    · omega
    · exact n3 q
    · exact Int32.not_le.mpr q h
  rcases hc with rfl | ⟨c, hc, rfl⟩
  · refine br_t rfl (fin ?_)
    intro ⟨c, hc, e, _⟩
    exact ce_m1 hc e
  · refine br_f (ce_neg1 hc) ?_
    rw [ce_mR5 c, ce_a4, ce_cl (by omega)]
    refine ⟨ce_in (by omega), br_c (fun h => fin ?_) (fun h => h1 (Or.inr (Or.inr (Or.inl ⟨c, hc, rfl, Int32.not_le.mp h⟩))))⟩
    intro ⟨c', hc', e, h'⟩
    have e2 := (nI_eq (by omega) (by omega)).mp e
    subst e2
    exact Int32.not_le.mpr h' h
theorem xw_o105 {post : SX → Prop} {t a : Nat} {cl am ar en : Int32} (ht : t < 5) (ha : a < 6) (hp : post (xlim, xps, xvn, xkc, ev, wa, wm, rf, nI (t + 1), ea, er, lr, lu, lc + 1, xop, xnum, len, upd st (5 * a + 4) (st (5 * a + 4) + am), vers, evl, xms, upd own t (nI a), upd clr t cl, upd amt t am, upd arg t ar, upd eg t en, upd el t en, upd pos t 0, upd hgt t 0, stk, sst, sev, sw, swm, srf)) : wX_open_105 post cl (nI a) am ar en (nI t) (xlim) (xps) (xvn) (xkc) (ev) (wa) (wm) (rf) (dp) (ea) (er) (lr) (lu) (lc) (xop) (xnum) (len) (st) (vers) (evl) (xms) (own) (clr) (amt) (arg) (eg) (el) (pos) (hgt) (stk) (sst) (sev) (sw) (swm) (srf) := by
  unfold wX_open_105
  rw [ce_mR5, ce_a4, ce_cl (t := 5 * a + 4) (by omega), ce_cl (t := t) (by omega), nI_1 t]
  exact ⟨ce_in (by omega), ce_in (by omega), nm_e ⟨ce_in ht, nm_e ⟨ce_in ht, nm_e ⟨ce_in ht, nm_e ⟨ce_in ht, nm_e ⟨ce_in ht, nm_e ⟨ce_in ht, nm_e ⟨ce_in ht, nm_e ⟨ce_in ht, nm_e (nm_e (nm_e hp))⟩⟩⟩⟩⟩⟩⟩⟩⟩
theorem xw_open {post : SX → Prop} {t a : Nat} {cl am ar en : Int32} (ht : t < 5) (hc : ce_CL cl) (ha : a < 6) (hp : post (xlim, xps, xvn, xkc, ev, wa, wm, rf, nI (t + 1), ea, er, lr, lu, lc + 1, xop, xnum, len, ce_mv st cl a am, vers, evl, xms, upd own t (nI a), upd clr t cl, upd amt t am, upd arg t ar, upd eg t en, upd el t en, upd pos t 0, upd hgt t 0, stk, ce_cp sst (30 * t) 30 st, upd sev t ev, upd sw t wa, upd swm t wm, upd srf t rf)) : wpX_open post (xlim, xps, xvn, xkc, ev, wa, wm, rf, nI t, ea, er, lr, lu, lc, xop, xnum, len, st, vers, evl, xms, own, clr, amt, arg, eg, el, pos, hgt, stk, sst, sev, sw, swm, srf) cl (nI a) am ar en := by
  unfold wpX_open
  refine loop_0 (fun n i s => wX_open_9 post cl (nI a) am ar en (nI t) (xlim) (xps) (xvn) (xkc) (ev) (wa) (wm) (rf) (nI t) (ea) (er) (lr) (lu) (lc) n (nI i) (xop) (xnum) (len) (st) (vers) (evl) (xms) (own) (clr) (amt) (arg) (eg) (el) (pos) (hgt) (stk) (s) (sev) (sw) (swm) (srf)) (fun i s => s = ce_cp sst (30 * t) i st) 30 sst (ce_cp0 _ _ _).symm ?_ ?_
  · intro n s e
    subst e
    refine br_t (by decide) ?_
    rw [ce_cl (t := t) (by omega)]
    refine ⟨ce_in ht, nm_e ⟨ce_in ht, nm_e ⟨ce_in ht, nm_e ⟨ce_in ht, nm_e ?_⟩⟩⟩⟩
    rcases hc with rfl | ⟨c, hc, rfl⟩
    · exact br_t rfl (xw_o105 ht ha hp)
    · refine br_f (ce_neg1 hc) ?_
      rw [ce_mR5 c, ce_a4, ce_cl (by omega)]
      refine ⟨ce_in (by omega), ce_in (by omega), nm_e (xw_o105 ht ha ?_)⟩
      have e1 : ce_tk st (nI c) am = upd st (5 * c + 4) (st (5 * c + 4) - am) := by
        unfold ce_tk
        rw [if_neg (ce_neg1 hc), ce_cl (by omega)]
      unfold ce_mv at hp
      rw [e1] at hp
      exact hp
  · intro n i s hi e H
    subst e
    refine br_f (nI_ge (b := 30) hi (by decide)) ?_
    rw [ce_mR30, nI_add, ce_cl (t := i) (by omega), ce_cl (t := 30 * t + i) (by omega), nI_1 i]
    exact ⟨ce_in (by omega), ce_in (by omega), nm_r (ce_cps _ _ _ _) (nm_e (H _ rfl))⟩
theorem xw_undo {post : SX → Prop} {t : Nat} (ht : t < 5) (hp : post (xlim, xps, xvn, xkc, sev t, sw t, swm t, srf t, dp, ea, er, lr, lu, lc, xop, xnum, len, ce_cp st 0 30 (fun j => sst (30 * t + j)), vers, evl, xms, own, clr, amt, arg, eg, el, pos, hgt, stk, sst, sev, sw, swm, srf)) : wpX_undo post (xlim, xps, xvn, xkc, ev, wa, wm, rf, dp, ea, er, lr, lu, lc, xop, xnum, len, st, vers, evl, xms, own, clr, amt, arg, eg, el, pos, hgt, stk, sst, sev, sw, swm, srf) (nI t) := by
  unfold wpX_undo
  refine loop_0 (fun n i s => wX_undo_2 post (nI t) (xlim) (xps) (xvn) (xkc) (ev) (wa) (wm) (rf) (dp) (ea) (er) (lr) (lu) (lc) n (nI i) (xop) (xnum) (len) (s) (vers) (evl) (xms) (own) (clr) (amt) (arg) (eg) (el) (pos) (hgt) (stk) (sst) (sev) (sw) (swm) (srf)) (fun i s => s = ce_cp st 0 i (fun j => sst (30 * t + j))) 30 st (ce_cp0 _ _ _).symm ?_ ?_
  · intro n s e
    subst e
    refine br_t (by decide) ?_
    rw [ce_cl (t := t) (by omega)]
    exact ⟨ce_in ht, nm_e ⟨ce_in ht, nm_e ⟨ce_in ht, nm_e ⟨ce_in ht, nm_e hp⟩⟩⟩⟩
  · intro n i s hi e H
    subst e
    refine br_f (nI_ge (b := 30) hi (by decide)) ?_
    rw [ce_mR30, nI_add, ce_cl (t := i) (by omega), ce_cl (t := 30 * t + i) (by omega), nI_1 i]
    exact ⟨ce_in (by omega), ce_in (by omega), nm_r (ce_cps0 st i (fun j => sst (30 * t + j))) (nm_e (H _ rfl))⟩
/-! the end of a call -/
theorem xe_0 {post : SX → Prop} {how res : Int32} (hp : post (xlim, xps, xvn, xkc, ev, wa, wm, rf, 0, how, res, lr, lu, lc, xop, xnum, len, st, vers, evl, xms, own, clr, amt, arg, eg, el, pos, hgt, stk, sst, sev, sw, swm, srf)) : wX_endCall_33 post how res 0 (xlim) (xps) (xvn) (xkc) (ev) (wa) (wm) (rf) (dp) (ea) (er) (lr) (lu) (lc) (xop) (xnum) (len) (st) (vers) (evl) (xms) (own) (clr) (amt) (arg) (eg) (el) (pos) (hgt) (stk) (sst) (sev) (sw) (swm) (srf) := by
  unfold wX_endCall_33
  exact br_t (by decide) hp
theorem xe_1 {post : SX → Prop} {t h : Nat} {how res : Int32} (ht : t + 1 < 5) (hh : hgt t = nI h) (h4 : h ≤ 4) (hp : post (xlim, xps, xvn, xkc, ev, wa, wm, rf, nI (t + 1), how, res, lr, lu, lc, xop, xnum, len, st, vers, evl, xms, own, clr, amt, arg, eg, upd el t (el t - (eg (t + 1) - el (t + 1))), pos, upd hgt t (nI (h + 2)), upd (upd stk (6 * t + h) res) (6 * t + (h + 1)) (if how = 0 then 1 else 0), sst, sev, sw, swm, srf)) : wX_endCall_33 post how res (nI (t + 1)) (xlim) (xps) (xvn) (xkc) (ev) (wa) (wm) (rf) (dp) (ea) (er) (lr) (lu) (lc) (xop) (xnum) (len) (st) (vers) (evl) (xms) (own) (clr) (amt) (arg) (eg) (el) (pos) (hgt) (stk) (sst) (sev) (sw) (swm) (srf) := by
  unfold wX_endCall_33
  refine br_f (nI_nle (by omega) (by omega)) ?_
  rw [nI_pred, ce_cl (t := t) (by omega), ce_cl (t := t + 1) (by omega)]
  refine ⟨ce_in (by omega), ce_in ht, ce_in ht, ce_in (by omega), nm_e ?_⟩
  refine xw_push (by omega) hh (by omega) ?_
  by_cases e : how = 0
  · rw [if_pos e] at hp
    refine br_t e ?_
    unfold wX_endCall_91
    refine xw_push (h := h + 1) (by omega) pk_us (by omega) ?_
    rw [ce_uu]
    exact hp
  · rw [if_neg e] at hp
    refine br_f e ?_
    unfold wX_endCall_91
    refine xw_push (h := h + 1) (by omega) pk_us (by omega) ?_
    rw [ce_uu]
    exact hp
theorem xe_ok {post : SX → Prop} {t : Nat} {res : Int32} (hp : wX_endCall_33 post 0 res (nI t) (xlim) (xps) (xvn) (xkc) (ev) (wa) (wm) (rf) (nI (t + 1)) (ea) (er) (lr) (lu) (lc) (xop) (xnum) (len) (st) (vers) (evl) (xms) (own) (clr) (amt) (arg) (eg) (el) (pos) (hgt) (stk) (sst) (sev) (sw) (swm) (srf)) : wpX_endCall post (xlim, xps, xvn, xkc, ev, wa, wm, rf, nI (t + 1), ea, er, lr, lu, lc, xop, xnum, len, st, vers, evl, xms, own, clr, amt, arg, eg, el, pos, hgt, stk, sst, sev, sw, swm, srf) 0 res := by
  unfold wpX_endCall
  refine nm_r (nI_pred t) (br_f (by decide) (br_f (by decide) ?_))
  unfold wX_endCall_24
  exact br_t rfl hp
theorem xe_rev {post : SX → Prop} {t : Nat} {res : Int32} (ht : t < 5) (hp : wX_endCall_33 post 1 res (nI t) (xlim) (xps) (xvn) (xkc) (sev t) (sw t) (swm t) (srf t) (nI (t + 1)) (ea) (er) (lr) (lu) (lc) (xop) (xnum) (len) (ce_cp st 0 30 (fun j => sst (30 * t + j))) (vers) (evl) (xms) (own) (clr) (amt) (arg) (eg) (el) (pos) (hgt) (stk) (sst) (sev) (sw) (swm) (srf)) : wpX_endCall post (xlim, xps, xvn, xkc, ev, wa, wm, rf, nI (t + 1), ea, er, lr, lu, lc, xop, xnum, len, st, vers, evl, xms, own, clr, amt, arg, eg, el, pos, hgt, stk, sst, sev, sw, swm, srf) 1 res := by
  unfold wpX_endCall
  refine nm_r (nI_pred t) (br_f (by decide) (br_f (by decide) ?_))
  unfold wX_endCall_24
  exact br_f (by decide) (xw_undo ht hp)
theorem xe_bad {post : SX → Prop} {t : Nat} {how res : Int32} (ht : t < 5) (h23 : how = 2 ∨ how = 3) (hp : wX_endCall_33 post how res (nI t) (xlim) (xps) (xvn) (xkc) (sev t) (sw t) (swm t) (srf t) (nI (t + 1)) (ea) (er) (lr) (lu) (lc) (xop) (xnum) (len) (ce_cp st 0 30 (fun j => sst (30 * t + j))) (vers) (evl) (xms) (own) (clr) (amt) (arg) (eg) (upd el t 0) (pos) (hgt) (stk) (sst) (sev) (sw) (swm) (srf)) : wpX_endCall post (xlim, xps, xvn, xkc, ev, wa, wm, rf, nI (t + 1), ea, er, lr, lu, lc, xop, xnum, len, st, vers, evl, xms, own, clr, amt, arg, eg, el, pos, hgt, stk, sst, sev, sw, swm, srf) how res := by
  have hn : ¬ how = 0 := by rcases h23 with rfl | rfl <;> decide
  have go : wX_endCall_17 post how res (nI t) (xlim) (xps) (xvn) (xkc) (ev) (wa) (wm) (rf) (nI (t + 1)) (ea) (er) (lr) (lu) (lc) (xop) (xnum) (len) (st) (vers) (evl) (xms) (own) (clr) (amt) (arg) (eg) (el) (pos) (hgt) (stk) (sst) (sev) (sw) (swm) (srf) := by
    unfold wX_endCall_17
    rw [ce_cl (t := t) (by omega)]
    refine ⟨ce_in ht, nm_e ?_⟩
    unfold wX_endCall_24
    exact br_f hn (xw_undo ht hp)
  unfold wpX_endCall
  refine nm_r (nI_pred t) ?_
  rcases h23 with rfl | rfl
  · exact br_t rfl go
  · exact br_f (by decide) (br_t rfl go)
end
