section
variable {xlim xps xvn xkc ev wa wm rf dp ea er lr lu lc ylim yend yans yrest ybeg yres yused ycalls yver ykept : Int32} {xop xnum len st vers evl xms own clr amt arg eg el pos hgt stk sst sev sw swm srf yop ybs cps old bef ywm wcp ecp mcp rcp yms ysf ycl yam yar ygv yel yat ytp : Nat → Int32}
def ce_has (st : Nat → Int32) (x : Int32) : Int32 := if x < 0 then 0 else if nI 6 ≤ x then 0 else st (5 * x.toNatClampNeg + 4)
def ce_rf (rf x v : Int32) : Int32 := if x = 0 ∧ ¬ v = 0 then rf + 4 else rf
def ce_cmb (k : Nat) (x y : Int32) : Int32 := if k = 8 then x + y else if k = 9 then x - y else if k = 10 then x * y else if k = 11 then (if y ≤ x then 0 else 1) else (if x = y then 1 else 0)
def ce_m4 (f : Nat → Int32) (W : Nat) (x y z s : Int32) : Nat → Int32 := upd (upd (upd (upd f (4 * W) x) (4 * W + 1) y) (4 * W + 2) z) (4 * W + 3) s
def ce_e3 (f : Nat → Int32) (E : Nat) (x y z : Int32) : Nat → Int32 := upd (upd (upd f (3 * E) x) (3 * E + 1) y) (3 * E + 2) z
theorem xx_0 {post : SX → Prop} {t h0 : Nat} {b : Int32} (ht : t < 5) (hh : hgt t = nI h0) (h6 : h0 < 6) (hp : post (xlim, xps, xvn, xkc, ev, wa, wm, rf, nI (t + 1), ea, er, lr, lu, lc, xop, xnum, len, st, vers, evl, xms, own, clr, amt, arg, eg, el, pos, upd hgt t (nI (h0 + 1)), upd stk (6 * t + h0) (b), sst, sev, sw, swm, srf)) : wpX_execute post (xlim, xps, xvn, xkc, ev, wa, wm, rf, nI (t + 1), ea, er, lr, lu, lc, xop, xnum, len, st, vers, evl, xms, own, clr, amt, arg, eg, el, pos, hgt, stk, sst, sev, sw, swm, srf) (nI 0) b (nI (6 * t + h0)) := by
  unfold wpX_execute
  refine br_t (by decide) ?_
  unfold wX_execute_208
  unfold wpX_lookUp
  refine nm_r (nI_pred t) ?_
  refine br_t (by decide) ?_
  exact xw_push ht hh h6 hp
theorem xx_1 {post : SX → Prop} {t h0 : Nat} {b : Int32} (ht : t < 5) (hh : hgt t = nI h0) (h6 : h0 < 6) (hp : post (xlim, xps, xvn, xkc, ev, wa, wm, rf, nI (t + 1), ea, er, lr, lu, lc, xop, xnum, len, st, vers, evl, xms, own, clr, amt, arg, eg, el, pos, upd hgt t (nI (h0 + 1)), upd stk (6 * t + h0) (arg t), sst, sev, sw, swm, srf)) : wpX_execute post (xlim, xps, xvn, xkc, ev, wa, wm, rf, nI (t + 1), ea, er, lr, lu, lc, xop, xnum, len, st, vers, evl, xms, own, clr, amt, arg, eg, el, pos, hgt, stk, sst, sev, sw, swm, srf) (nI 1) b (nI (6 * t + h0)) := by
  unfold wpX_execute
  refine br_t (by decide) ?_
  unfold wX_execute_208
  unfold wpX_lookUp
  refine nm_r (nI_pred t) ?_
  refine br_f (by decide) (br_f (by decide) (br_t rfl ?_))
  refine ⟨ce_in ht, ?_⟩
  rw [ce_cl (by omega)]
  exact xw_push ht hh h6 hp
theorem xx_2 {post : SX → Prop} {t h0 : Nat} {b : Int32} (ht : t < 5) (hh : hgt t = nI h0) (h6 : h0 < 6) (hp : post (xlim, xps, xvn, xkc, ev, wa, wm, rf, nI (t + 1), ea, er, lr, lu, lc, xop, xnum, len, st, vers, evl, xms, own, clr, amt, arg, eg, el, pos, upd hgt t (nI (h0 + 1)), upd stk (6 * t + h0) (clr t), sst, sev, sw, swm, srf)) : wpX_execute post (xlim, xps, xvn, xkc, ev, wa, wm, rf, nI (t + 1), ea, er, lr, lu, lc, xop, xnum, len, st, vers, evl, xms, own, clr, amt, arg, eg, el, pos, hgt, stk, sst, sev, sw, swm, srf) (nI 2) b (nI (6 * t + h0)) := by
  unfold wpX_execute
  refine br_t (by decide) ?_
  unfold wX_execute_208
  unfold wpX_lookUp
  refine nm_r (nI_pred t) ?_
  refine br_f (by decide) (br_f (by decide) (br_f (by decide) (br_t rfl ?_)))
  refine ⟨ce_in ht, ?_⟩
  rw [ce_cl (by omega)]
  exact xw_push ht hh h6 hp
theorem xx_3 {post : SX → Prop} {t h0 : Nat} {b : Int32} (ht : t < 5) (hh : hgt t = nI h0) (h6 : h0 < 6) (hp : post (xlim, xps, xvn, xkc, ev, wa, wm, rf, nI (t + 1), ea, er, lr, lu, lc, xop, xnum, len, st, vers, evl, xms, own, clr, amt, arg, eg, el, pos, upd hgt t (nI (h0 + 1)), upd stk (6 * t + h0) (own t), sst, sev, sw, swm, srf)) : wpX_execute post (xlim, xps, xvn, xkc, ev, wa, wm, rf, nI (t + 1), ea, er, lr, lu, lc, xop, xnum, len, st, vers, evl, xms, own, clr, amt, arg, eg, el, pos, hgt, stk, sst, sev, sw, swm, srf) (nI 3) b (nI (6 * t + h0)) := by
  unfold wpX_execute
  refine br_t (by decide) ?_
  unfold wX_execute_208
  unfold wpX_lookUp
  refine nm_r (nI_pred t) ?_
  refine br_f (by decide) (br_f (by decide) (br_f (by decide) (br_f (by decide) (br_t rfl ?_))))
  refine ⟨ce_in ht, ?_⟩
  rw [ce_cl (by omega)]
  exact xw_push ht hh h6 hp
theorem xx_4 {post : SX → Prop} {t h0 : Nat} {b : Int32} (ht : t < 5) (hh : hgt t = nI h0) (h6 : h0 < 6) (hp : post (xlim, xps, xvn, xkc, ev, wa, wm, rf, nI (t + 1), ea, er, lr, lu, lc, xop, xnum, len, st, vers, evl, xms, own, clr, amt, arg, eg, el, pos, upd hgt t (nI (h0 + 1)), upd stk (6 * t + h0) (amt t), sst, sev, sw, swm, srf)) : wpX_execute post (xlim, xps, xvn, xkc, ev, wa, wm, rf, nI (t + 1), ea, er, lr, lu, lc, xop, xnum, len, st, vers, evl, xms, own, clr, amt, arg, eg, el, pos, hgt, stk, sst, sev, sw, swm, srf) (nI 4) b (nI (6 * t + h0)) := by
  unfold wpX_execute
  refine br_t (by decide) ?_
  unfold wX_execute_208
  unfold wpX_lookUp
  refine nm_r (nI_pred t) ?_
  refine br_f (by decide) (br_f (by decide) (br_f (by decide) (br_f (by decide) (br_f (by decide) (br_t rfl ?_)))))
  refine ⟨ce_in ht, ?_⟩
  rw [ce_cl (by omega)]
  exact xw_push ht hh h6 hp
theorem xx_22 {post : SX → Prop} {t h0 : Nat} {b : Int32} (ht : t < 5) (hh : hgt t = nI h0) (h6 : h0 < 6) (hp : post (xlim, xps, xvn, xkc, ev, wa, wm, rf, nI (t + 1), ea, er, lr, lu, lc, xop, xnum, len, st, vers, evl, xms, own, clr, amt, arg, eg, el, pos, upd hgt t (nI (h0 + 1)), upd stk (6 * t + h0) (el t), sst, sev, sw, swm, srf)) : wpX_execute post (xlim, xps, xvn, xkc, ev, wa, wm, rf, nI (t + 1), ea, er, lr, lu, lc, xop, xnum, len, st, vers, evl, xms, own, clr, amt, arg, eg, el, pos, hgt, stk, sst, sev, sw, swm, srf) (nI 22) b (nI (6 * t + h0)) := by
  unfold wpX_execute
  refine br_f (by decide) (br_f (by decide) (br_f (by decide) (br_f (by decide) (br_f (by decide) (br_f (by decide) (br_f (by decide) (br_f (by decide) (br_f (by decide) (br_f (by decide) (br_f (by decide) (br_f (by decide) (br_f (by decide) (br_f (by decide) (br_f (by decide) (br_f (by decide) (br_f (by decide) (br_t rfl ?_)))))))))))))))))
  unfold wX_execute_208
  unfold wpX_lookUp
  refine nm_r (nI_pred t) ?_
  refine br_f (by decide) (br_f (by decide) (br_f (by decide) (br_f (by decide) (br_f (by decide) (br_f (by decide) (br_f (by decide) (br_f (by decide) (br_f (by decide) (br_f (by decide) (br_f (by decide) (br_f (by decide) (br_f (by decide) (br_f (by decide) (br_f (by decide) (br_f (by decide) (br_f (by decide) (br_f (by decide) (br_f (by decide) (br_f (by decide) (br_f (by decide) (br_f (by decide) (br_f (by decide) (br_t rfl ?_)))))))))))))))))))))))
  refine ⟨ce_in ht, ?_⟩
  rw [ce_cl (by omega)]
  exact xw_push ht hh h6 hp
theorem xx_5 {post : SX → Prop} {t h0 : Nat} {b : Int32} (ht : t < 5) (hh : hgt t = nI h0) (h6 : h0 < 6) (hp : post (xlim, xps, xvn, xkc, ev, wa, wm, rf, nI (t + 1), ea, er, lr, lu, lc, xop, xnum, len, st, vers, evl, xms, own, clr, amt, arg, eg, el, pos, upd hgt t (nI (h0 + 1)), upd stk (6 * t + h0) (ce_has st (stk (6 * t + h0))), sst, sev, sw, swm, srf)) : wpX_execute post (xlim, xps, xvn, xkc, ev, wa, wm, rf, nI (t + 1), ea, er, lr, lu, lc, xop, xnum, len, st, vers, evl, xms, own, clr, amt, arg, eg, el, pos, hgt, stk, sst, sev, sw, swm, srf) (nI 5) b (nI (6 * t + h0)) := by
  unfold wpX_execute
  refine br_t (by decide) ?_
  unfold wX_execute_208
  unfold wpX_lookUp
  refine nm_r (nI_pred t) ?_
  refine br_f (by decide) (br_f (by decide) (br_f (by decide) (br_f (by decide) (br_f (by decide) (br_f (by decide) (br_t rfl ?_))))))
  rw [ce_cl (by omega)]
  unfold ce_has at hp
  refine ⟨ce_in (by omega), nm_e (br_c (fun q => ?_) (fun n => br_c (fun q => ?_) (fun n2 => ?_)))⟩
  · rw [if_pos q] at hp; exact xw_push ht hh h6 hp
  · rw [if_neg n, if_pos (show nI 6 ≤ _ from q)] at hp; exact xw_push ht hh h6 hp
  · rw [if_neg n, if_neg (show ¬ nI 6 ≤ _ from n2)] at hp
    rcases pk_ix (stk (6 * t + h0)) (n := 6) (by decide) with q | q | ⟨j, hj, e⟩
    · exact absurd q n
    · exact absurd q n2
    · rw [e, ce_cl (by omega)] at hp
      rw [e, ce_mR5, ce_a4, ce_cl (by omega)]
      exact ⟨ce_in (by omega), xw_push ht hh h6 hp⟩
theorem xx_6 {post : SX → Prop} {t h0 : Nat} {b : Int32} (ht : t < 5) (hh : hgt t = nI h0) (h6 : h0 < 6) {a c : Nat} (ha : a < 6) (hown : own t = nI a) (hc : b &&& 3 = nI c) (hc4 : c < 4) (hp : post (xlim, xps, xvn, xkc, ev, wa, wm ||| ((1 : Int32) <<< (nI (5 * a + c) &&& 31)), rf, nI (t + 1), ea, er, lr, lu, lc, xop, xnum, len, st, vers, evl, xms, own, clr, amt, arg, eg, el, pos, upd hgt t (nI (h0 + 1)), upd stk (6 * t + h0) (st (5 * a + c)), sst, sev, sw, swm, srf)) : wpX_execute post (xlim, xps, xvn, xkc, ev, wa, wm, rf, nI (t + 1), ea, er, lr, lu, lc, xop, xnum, len, st, vers, evl, xms, own, clr, amt, arg, eg, el, pos, hgt, stk, sst, sev, sw, swm, srf) (nI 6) b (nI (6 * t + h0)) := by
  unfold wpX_execute
  refine br_t (by decide) ?_
  unfold wX_execute_208
  unfold wpX_lookUp
  refine nm_r (nI_pred t) ?_
  refine br_f (by decide) (br_f (by decide) (br_f (by decide) (br_f (by decide) (br_f (by decide) (br_f (by decide) (br_f (by decide) (br_t rfl ?_)))))))
  rw [ce_cl (t := t) (by omega), hown, hc, ce_mR5, nI_add (5 * a) c]
  refine ⟨ce_in ht, nm_e (nm_e ?_)⟩
  rw [ce_cl (t := 5 * a + c) (by omega)]
  exact ⟨ce_in (by omega), xw_push ht hh h6 hp⟩
theorem xx_7 {post : SX → Prop} {t h0 : Nat} {b : Int32} (ht : t < 5) (hh : hgt t = nI h0) (h6 : h0 < 6) {a c : Nat} (ha : a < 6) (hown : own t = nI a) (hc : b &&& 3 = nI c) (hc4 : c < 4) (hp : post (xlim, xps, xvn, xkc, ev, wa, wm ||| ((1 : Int32) <<< (nI (5 * a + c) &&& 31)), ce_rf rf (stk (6 * t + h0)) (st (5 * a + c)), nI (t + 1), ea, er, lr, lu, lc, xop, xnum, len, upd st (5 * a + c) (stk (6 * t + h0)), vers, evl, xms, own, clr, amt, arg, eg, el, pos, hgt, stk, sst, sev, sw, swm, srf)) : wpX_execute post (xlim, xps, xvn, xkc, ev, wa, wm, rf, nI (t + 1), ea, er, lr, lu, lc, xop, xnum, len, st, vers, evl, xms, own, clr, amt, arg, eg, el, pos, hgt, stk, sst, sev, sw, swm, srf) (nI 7) b (nI (6 * t + h0)) := by
  unfold wpX_execute
  refine br_f (by decide) (br_f (by decide) (br_t rfl ?_))
  rw [ce_cl (t := 6 * t + h0) (by omega)]
  refine ⟨ce_in (by omega), ?_⟩
  unfold wpX_store
  dsimp only
  rw [nI_pred t, ce_cl (t := t) (by omega), hown, hc, ce_mR5, nI_add (5 * a) c]
  refine ⟨ce_in ht, nm_e ?_⟩
  rw [ce_cl (t := 5 * a + c) (by omega)]
  unfold ce_rf at hp
  unfold wX_store_41
  rw [ce_cl (t := 5 * a + c) (by omega)]
  refine br_c (fun q => ⟨ce_in (by omega), br_c (fun q2 => ?_) (fun n2 => nm_e ?_)⟩) (fun n => ?_)
  · rw [if_neg (fun z => z.2 q2)] at hp
    exact nm_e ⟨ce_in (by omega), nm_e hp⟩
  · rw [if_pos ⟨q, n2⟩] at hp
    exact nm_e ⟨ce_in (by omega), nm_e hp⟩
  · rw [if_neg (fun z => n z.1)] at hp
    exact nm_e ⟨ce_in (by omega), nm_e hp⟩
theorem xx_8 {post : SX → Prop} {t h0 : Nat} {b : Int32} (ht : t < 5) (hh : hgt t = nI h0) (h6 : h0 < 5) (hp : post (xlim, xps, xvn, xkc, ev, wa, wm, rf, nI (t + 1), ea, er, lr, lu, lc, xop, xnum, len, st, vers, evl, xms, own, clr, amt, arg, eg, el, pos, upd hgt t (nI (h0 + 1)), upd stk (6 * t + h0) (ce_cmb 8 (stk (6 * t + h0)) (stk (6 * t + h0 + 1))), sst, sev, sw, swm, srf)) : wpX_execute post (xlim, xps, xvn, xkc, ev, wa, wm, rf, nI (t + 1), ea, er, lr, lu, lc, xop, xnum, len, st, vers, evl, xms, own, clr, amt, arg, eg, el, pos, hgt, stk, sst, sev, sw, swm, srf) (nI 8) b (nI (6 * t + h0)) := by
  unfold wpX_execute
  refine br_f (by decide) (br_f (by decide) (br_f (by decide) (br_t rfl ?_)))
  unfold wX_execute_179
  rw [nI_1 (6 * t + h0), ce_cl (t := 6 * t + h0) (by omega), ce_cl (t := 6 * t + h0 + 1) (by omega)]
  refine ⟨ce_in (by omega), ce_in (by omega), ?_⟩
  unfold wpX_combine
  refine br_f (by decide) (br_f (by decide) (br_t rfl (xw_push ht hh (by omega) hp)))
theorem xx_9 {post : SX → Prop} {t h0 : Nat} {b : Int32} (ht : t < 5) (hh : hgt t = nI h0) (h6 : h0 < 5) (hp : post (xlim, xps, xvn, xkc, ev, wa, wm, rf, nI (t + 1), ea, er, lr, lu, lc, xop, xnum, len, st, vers, evl, xms, own, clr, amt, arg, eg, el, pos, upd hgt t (nI (h0 + 1)), upd stk (6 * t + h0) (ce_cmb 9 (stk (6 * t + h0)) (stk (6 * t + h0 + 1))), sst, sev, sw, swm, srf)) : wpX_execute post (xlim, xps, xvn, xkc, ev, wa, wm, rf, nI (t + 1), ea, er, lr, lu, lc, xop, xnum, len, st, vers, evl, xms, own, clr, amt, arg, eg, el, pos, hgt, stk, sst, sev, sw, swm, srf) (nI 9) b (nI (6 * t + h0)) := by
  unfold wpX_execute
  refine br_f (by decide) (br_f (by decide) (br_f (by decide) (br_f (by decide) (br_t rfl ?_))))
  unfold wX_execute_179
  rw [nI_1 (6 * t + h0), ce_cl (t := 6 * t + h0) (by omega), ce_cl (t := 6 * t + h0 + 1) (by omega)]
  refine ⟨ce_in (by omega), ce_in (by omega), ?_⟩
  unfold wpX_combine
  refine br_f (by decide) (br_f (by decide) (br_f (by decide) (br_t rfl (xw_push ht hh (by omega) hp))))
theorem xx_10 {post : SX → Prop} {t h0 : Nat} {b : Int32} (ht : t < 5) (hh : hgt t = nI h0) (h6 : h0 < 5) (hp : post (xlim, xps, xvn, xkc, ev, wa, wm, rf, nI (t + 1), ea, er, lr, lu, lc, xop, xnum, len, st, vers, evl, xms, own, clr, amt, arg, eg, el, pos, upd hgt t (nI (h0 + 1)), upd stk (6 * t + h0) (ce_cmb 10 (stk (6 * t + h0)) (stk (6 * t + h0 + 1))), sst, sev, sw, swm, srf)) : wpX_execute post (xlim, xps, xvn, xkc, ev, wa, wm, rf, nI (t + 1), ea, er, lr, lu, lc, xop, xnum, len, st, vers, evl, xms, own, clr, amt, arg, eg, el, pos, hgt, stk, sst, sev, sw, swm, srf) (nI 10) b (nI (6 * t + h0)) := by
  unfold wpX_execute
  refine br_f (by decide) (br_f (by decide) (br_f (by decide) (br_f (by decide) (br_f (by decide) (br_t rfl ?_)))))
  unfold wX_execute_179
  rw [nI_1 (6 * t + h0), ce_cl (t := 6 * t + h0) (by omega), ce_cl (t := 6 * t + h0 + 1) (by omega)]
  refine ⟨ce_in (by omega), ce_in (by omega), ?_⟩
  unfold wpX_combine
  refine br_f (by decide) (br_f (by decide) (br_f (by decide) (br_f (by decide) (br_t rfl (xw_push ht hh (by omega) hp)))))
theorem xx_11 {post : SX → Prop} {t h0 : Nat} {b : Int32} (ht : t < 5) (hh : hgt t = nI h0) (h6 : h0 < 5) (hp : post (xlim, xps, xvn, xkc, ev, wa, wm, rf, nI (t + 1), ea, er, lr, lu, lc, xop, xnum, len, st, vers, evl, xms, own, clr, amt, arg, eg, el, pos, upd hgt t (nI (h0 + 1)), upd stk (6 * t + h0) (ce_cmb 11 (stk (6 * t + h0)) (stk (6 * t + h0 + 1))), sst, sev, sw, swm, srf)) : wpX_execute post (xlim, xps, xvn, xkc, ev, wa, wm, rf, nI (t + 1), ea, er, lr, lu, lc, xop, xnum, len, st, vers, evl, xms, own, clr, amt, arg, eg, el, pos, hgt, stk, sst, sev, sw, swm, srf) (nI 11) b (nI (6 * t + h0)) := by
  unfold wpX_execute
  refine br_f (by decide) (br_f (by decide) (br_f (by decide) (br_f (by decide) (br_f (by decide) (br_f (by decide) (br_t rfl ?_))))))
  unfold wX_execute_179
  rw [nI_1 (6 * t + h0), ce_cl (t := 6 * t + h0) (by omega), ce_cl (t := 6 * t + h0 + 1) (by omega)]
  refine ⟨ce_in (by omega), ce_in (by omega), ?_⟩
  unfold wpX_combine
  refine br_f (by decide) (br_f (by decide) (br_f (by decide) (br_f (by decide) (br_f (by decide) (br_t rfl (br_c (fun q => xw_push ht hh (by omega) ?_) (fun q => xw_push ht hh (by omega) ?_)))))))
  · rw [show ce_cmb 11 (stk (6 * t + h0)) (stk (6 * t + h0 + 1)) = 0 from if_pos q] at hp; exact hp
  · rw [show ce_cmb 11 (stk (6 * t + h0)) (stk (6 * t + h0 + 1)) = 1 from if_neg q] at hp; exact hp
theorem xx_12 {post : SX → Prop} {t h0 : Nat} {b : Int32} (ht : t < 5) (hh : hgt t = nI h0) (h6 : h0 < 5) (hp : post (xlim, xps, xvn, xkc, ev, wa, wm, rf, nI (t + 1), ea, er, lr, lu, lc, xop, xnum, len, st, vers, evl, xms, own, clr, amt, arg, eg, el, pos, upd hgt t (nI (h0 + 1)), upd stk (6 * t + h0) (ce_cmb 12 (stk (6 * t + h0)) (stk (6 * t + h0 + 1))), sst, sev, sw, swm, srf)) : wpX_execute post (xlim, xps, xvn, xkc, ev, wa, wm, rf, nI (t + 1), ea, er, lr, lu, lc, xop, xnum, len, st, vers, evl, xms, own, clr, amt, arg, eg, el, pos, hgt, stk, sst, sev, sw, swm, srf) (nI 12) b (nI (6 * t + h0)) := by
  unfold wpX_execute
  refine br_f (by decide) (br_f (by decide) (br_f (by decide) (br_f (by decide) (br_f (by decide) (br_f (by decide) (br_f (by decide) (br_t rfl ?_)))))))
  unfold wX_execute_179
  rw [nI_1 (6 * t + h0), ce_cl (t := 6 * t + h0) (by omega), ce_cl (t := 6 * t + h0 + 1) (by omega)]
  refine ⟨ce_in (by omega), ce_in (by omega), ?_⟩
  unfold wpX_combine
  refine br_f (by decide) (br_t (by decide) (br_c (fun q => xw_push ht hh (by omega) ?_) (fun q => xw_push ht hh (by omega) ?_)))
  · rw [show ce_cmb 12 (stk (6 * t + h0)) (stk (6 * t + h0 + 1)) = 1 from if_pos q] at hp; exact hp
  · rw [show ce_cmb 12 (stk (6 * t + h0)) (stk (6 * t + h0 + 1)) = 0 from if_neg q] at hp; exact hp
theorem xx_13 {post : SX → Prop} {t h0 : Nat} {b : Int32} (ht : t < 5) (hh : hgt t = nI h0) (h6 : h0 < 5) (hp : post (xlim, xps, xvn, xkc, ev, wa, wm, rf, nI (t + 1), ea, er, lr, lu, lc, xop, xnum, len, st, vers, evl, xms, own, clr, amt, arg, eg, el, pos, upd hgt t (nI (h0 + 2)), upd (upd stk (6 * t + h0) (stk (6 * t + h0))) (6 * t + (h0 + 1)) (stk (6 * t + h0)), sst, sev, sw, swm, srf)) : wpX_execute post (xlim, xps, xvn, xkc, ev, wa, wm, rf, nI (t + 1), ea, er, lr, lu, lc, xop, xnum, len, st, vers, evl, xms, own, clr, amt, arg, eg, el, pos, hgt, stk, sst, sev, sw, swm, srf) (nI 13) b (nI (6 * t + h0)) := by
  unfold wpX_execute
  refine br_f (by decide) (br_f (by decide) (br_f (by decide) (br_f (by decide) (br_f (by decide) (br_f (by decide) (br_f (by decide) (br_f (by decide) (br_t rfl ?_))))))))
  rw [ce_cl (t := 6 * t + h0) (by omega)]
  refine ⟨ce_in (by omega), nm_e (xw_push ht hh (by omega) ?_)⟩
  refine xw_push (h := h0 + 1) ht pk_us (by omega) ?_
  rw [ce_uu]
  exact hp
theorem xx_15 {post : SX → Prop} {t h0 : Nat} {b : Int32} (ht : t < 5) (hh : hgt t = nI h0) (h6 : h0 < 5) (hp : post (xlim, xps, xvn, xkc, ev, wa, wm, rf, nI (t + 1), ea, er, lr, lu, lc, xop, xnum, len, st, vers, evl, xms, own, clr, amt, arg, eg, el, pos, upd hgt t (nI (h0 + 2)), upd (upd stk (6 * t + h0) (stk (6 * t + h0 + 1))) (6 * t + (h0 + 1)) (stk (6 * t + h0)), sst, sev, sw, swm, srf)) : wpX_execute post (xlim, xps, xvn, xkc, ev, wa, wm, rf, nI (t + 1), ea, er, lr, lu, lc, xop, xnum, len, st, vers, evl, xms, own, clr, amt, arg, eg, el, pos, hgt, stk, sst, sev, sw, swm, srf) (nI 15) b (nI (6 * t + h0)) := by
  unfold wpX_execute
  refine br_f (by decide) (br_f (by decide) (br_f (by decide) (br_f (by decide) (br_f (by decide) (br_f (by decide) (br_f (by decide) (br_f (by decide) (br_f (by decide) (br_f (by decide) (br_t rfl ?_))))))))))
  rw [nI_1 (6 * t + h0), ce_cl (t := 6 * t + h0) (by omega), ce_cl (t := 6 * t + h0 + 1) (by omega)]
  refine ⟨ce_in (by omega), nm_e ⟨ce_in (by omega), nm_e (xw_push ht hh (by omega) ?_)⟩⟩
  refine xw_push (h := h0 + 1) ht pk_us (by omega) ?_
  rw [ce_uu]
  exact hp
theorem xx_14 {post : SX → Prop} {t h0 : Nat} {b : Int32} (hp : post (xlim, xps, xvn, xkc, ev, wa, wm, rf, nI (t + 1), ea, er, lr, lu, lc, xop, xnum, len, st, vers, evl, xms, own, clr, amt, arg, eg, el, pos, hgt, stk, sst, sev, sw, swm, srf)) : wpX_execute post (xlim, xps, xvn, xkc, ev, wa, wm, rf, nI (t + 1), ea, er, lr, lu, lc, xop, xnum, len, st, vers, evl, xms, own, clr, amt, arg, eg, el, pos, hgt, stk, sst, sev, sw, swm, srf) (nI 14) b (nI (6 * t + h0)) := by
  unfold wpX_execute
  refine br_f (by decide) (br_f (by decide) (br_f (by decide) (br_f (by decide) (br_f (by decide) (br_f (by decide) (br_f (by decide) (br_f (by decide) (br_f (by decide) (br_t rfl ?_)))))))))
  exact hp
theorem xx_16 {post : SX → Prop} {t h0 : Nat} {b : Int32} (hp : post (xlim, xps, xvn, xkc, ev, wa, wm, rf, nI (t + 1), ea, er, lr, lu, lc, xop, xnum, len, st, vers, evl, xms, own, clr, amt, arg, eg, el, pos, hgt, stk, sst, sev, sw, swm, srf)) : wpX_execute post (xlim, xps, xvn, xkc, ev, wa, wm, rf, nI (t + 1), ea, er, lr, lu, lc, xop, xnum, len, st, vers, evl, xms, own, clr, amt, arg, eg, el, pos, hgt, stk, sst, sev, sw, swm, srf) (nI 16) b (nI (6 * t + h0)) := by
  unfold wpX_execute
  refine br_f (by decide) (br_f (by decide) (br_f (by decide) (br_f (by decide) (br_f (by decide) (br_f (by decide) (br_f (by decide) (br_f (by decide) (br_f (by decide) (br_f (by decide) (br_f (by decide) (br_t rfl ?_)))))))))))
  exact hp
theorem xx_17 {post : SX → Prop} {t h0 : Nat} {b : Int32} (hp : post (xlim, xps, xvn, xkc, ev, wa, wm, rf, nI (t + 1), ea, er, lr, lu, lc, xop, xnum, len, st, vers, evl, xms, own, clr, amt, arg, eg, el, pos, hgt, stk, sst, sev, sw, swm, srf)) : wpX_execute post (xlim, xps, xvn, xkc, ev, wa, wm, rf, nI (t + 1), ea, er, lr, lu, lc, xop, xnum, len, st, vers, evl, xms, own, clr, amt, arg, eg, el, pos, hgt, stk, sst, sev, sw, swm, srf) (nI 17) b (nI (6 * t + h0)) := by
  unfold wpX_execute
  refine br_f (by decide) (br_f (by decide) (br_f (by decide) (br_f (by decide) (br_f (by decide) (br_f (by decide) (br_f (by decide) (br_f (by decide) (br_f (by decide) (br_f (by decide) (br_f (by decide) (br_f (by decide) (br_t rfl ?_))))))))))))
  exact hp
theorem xx_21n {post : SX → Prop} {t h0 E : Nat} {b : Int32} (ht : t < 5) (h6 : h0 < 6) (hE : E = 20) (hp : post (xlim, xps, xvn, xkc, nI E, wa, wm, rf, nI (t + 1), ea, er, lr, lu, lc, xop, xnum, len, st, vers, evl, xms, own, clr, amt, arg, eg, el, pos, hgt, stk, sst, sev, sw, swm, srf)) : wpX_execute post (xlim, xps, xvn, xkc, nI E, wa, wm, rf, nI (t + 1), ea, er, lr, lu, lc, xop, xnum, len, st, vers, evl, xms, own, clr, amt, arg, eg, el, pos, hgt, stk, sst, sev, sw, swm, srf) (nI 21) b (nI (6 * t + h0)) := by
  subst hE
  unfold wpX_execute
  refine br_f (by decide) (br_f (by decide) (br_f (by decide) (br_f (by decide) (br_f (by decide) (br_f (by decide) (br_f (by decide) (br_f (by decide) (br_f (by decide) (br_f (by decide) (br_f (by decide) (br_f (by decide) (br_f (by decide) (br_f (by decide) (br_f (by decide) (br_f (by decide) (br_t rfl ?_))))))))))))))))
  refine ⟨ce_in (by omega), ?_⟩
  unfold wpX_addEvent
  exact br_f (by decide) hp
theorem xx_21y {post : SX → Prop} {t h0 E : Nat} {b : Int32} (ht : t < 5) (h6 : h0 < 6) (hE : E < 20) (hp : post (xlim, xps, xvn, xkc, nI (E + 1), wa, wm, rf, nI (t + 1), ea, er, lr, lu, lc, xop, xnum, len, st, vers, ce_e3 evl E (own t) b (stk (6 * t + h0)), xms, own, clr, amt, arg, eg, el, pos, hgt, stk, sst, sev, sw, swm, srf)) : wpX_execute post (xlim, xps, xvn, xkc, nI E, wa, wm, rf, nI (t + 1), ea, er, lr, lu, lc, xop, xnum, len, st, vers, evl, xms, own, clr, amt, arg, eg, el, pos, hgt, stk, sst, sev, sw, swm, srf) (nI 21) b (nI (6 * t + h0)) := by
  unfold wpX_execute
  refine br_f (by decide) (br_f (by decide) (br_f (by decide) (br_f (by decide) (br_f (by decide) (br_f (by decide) (br_f (by decide) (br_f (by decide) (br_f (by decide) (br_f (by decide) (br_f (by decide) (br_f (by decide) (br_f (by decide) (br_f (by decide) (br_f (by decide) (br_f (by decide) (br_t rfl ?_))))))))))))))))
  rw [ce_cl (t := 6 * t + h0) (by omega)]
  refine ⟨ce_in (by omega), ?_⟩
  unfold wpX_addEvent
  dsimp only
  rw [nI_pred t, ce_cl (t := t) (by omega), ce_mR3]
  refine br_t (nI_lt (b := 20) hE (by decide)) (nm_e ?_)
  rw [nI_1 (3 * E), ce_a2 (3 * E), nI_1 E, ce_cl (t := 3 * E) (by omega), ce_cl (t := 3 * E + 1) (by omega), ce_cl (t := 3 * E + 2) (by omega)]
  exact ⟨ce_in ht, ce_in (by omega), nm_e ⟨ce_in (by omega), nm_e ⟨ce_in (by omega), nm_e (nm_e hp)⟩⟩⟩
theorem xx_23n {post : SX → Prop} {t h0 W : Nat} {b : Int32} (ht : t < 5) (h6 : h0 < 4) (hW : W ≤ 6) (hn : W = 6 ∨ stk (6 * t + h0) < 0 ∨ nI 6 ≤ stk (6 * t + h0)) (hp : post (xlim, xps, xvn, xkc, ev, nI W, wm, rf, nI (t + 1), ea, er, lr, lu, lc, xop, xnum, len, st, vers, evl, xms, own, clr, amt, arg, eg, el, pos, hgt, stk, sst, sev, sw, swm, srf)) : wpX_execute post (xlim, xps, xvn, xkc, ev, nI W, wm, rf, nI (t + 1), ea, er, lr, lu, lc, xop, xnum, len, st, vers, evl, xms, own, clr, amt, arg, eg, el, pos, hgt, stk, sst, sev, sw, swm, srf) (nI 23) b (nI (6 * t + h0)) := by
  unfold wpX_execute
  refine br_f (by decide) (br_f (by decide) (br_f (by decide) (br_f (by decide) (br_f (by decide) (br_f (by decide) (br_f (by decide) (br_f (by decide) (br_f (by decide) (br_f (by decide) (br_f (by decide) (br_f (by decide) (br_f (by decide) (br_f (by decide) (br_f (by decide) (br_f (by decide) (br_f (by decide) (br_f (by decide) (br_t rfl ?_))))))))))))))))))
  unfold wpX_send
  dsimp only
  rw [ce_cl (t := 6 * t + h0) (by omega)]
  refine ⟨ce_in (by omega), nm_e (br_c (fun _ => hp) (fun n => br_c (fun _ => hp) (fun n2 => br_f ?_ hp)))⟩
  rcases hn with q | q | q
  · subst q; exact absurd (by decide) n
  · exact absurd q n2
  · exact Int32.not_lt.mpr q
theorem xx_23y {post : SX → Prop} {t h0 W a : Nat} {b : Int32} (ht : t < 5) (h6 : h0 < 4) (hW : W < 6) (ha : a < 6) (hs : stk (6 * t + h0) = nI a) (hp : post (xlim, xps, xvn, xkc, ev, nI (W + 1), wm, rf, nI (t + 1), ea, er, lr, lu, lc, xop, xnum, len, st, vers, evl, ce_m4 xms W (nI a) (stk (6 * t + h0 + 1)) (stk (6 * t + h0 + 2)) (own t), own, clr, amt, arg, eg, el, pos, hgt, stk, sst, sev, sw, swm, srf)) : wpX_execute post (xlim, xps, xvn, xkc, ev, nI W, wm, rf, nI (t + 1), ea, er, lr, lu, lc, xop, xnum, len, st, vers, evl, xms, own, clr, amt, arg, eg, el, pos, hgt, stk, sst, sev, sw, swm, srf) (nI 23) b (nI (6 * t + h0)) := by
  unfold wpX_execute
  refine br_f (by decide) (br_f (by decide) (br_f (by decide) (br_f (by decide) (br_f (by decide) (br_f (by decide) (br_f (by decide) (br_f (by decide) (br_f (by decide) (br_f (by decide) (br_f (by decide) (br_f (by decide) (br_f (by decide) (br_f (by decide) (br_f (by decide) (br_f (by decide) (br_f (by decide) (br_f (by decide) (br_t rfl ?_))))))))))))))))))
  unfold wpX_send
  dsimp only
  rw [nI_pred t, ce_cl (t := t) (by omega), ce_mR4, nI_1 (6 * t + h0), ce_a2 (6 * t + h0), ce_cl (t := 6 * t + h0) (by omega), ce_cl (t := 6 * t + h0 + 1) (by omega), ce_cl (t := 6 * t + h0 + 2) (by omega), hs]
  refine ⟨ce_in (by omega), nm_e (br_f (nI_ge (b := 6) hW (by decide)) (br_f (nI_pos (by omega)) (br_t (nI_lt (b := 6) ha (by decide)) (nm_e ?_))))⟩
  rw [nI_1 (4 * W), ce_a2 (4 * W), ce_a3 (4 * W), nI_1 W, ce_cl (t := 4 * W) (by omega), ce_cl (t := 4 * W + 1) (by omega), ce_cl (t := 4 * W + 2) (by omega), ce_cl (t := 4 * W + 3) (by omega)]
  exact ⟨ce_in (by omega), nm_e ⟨ce_in (by omega), ce_in (by omega), nm_e ⟨ce_in (by omega), ce_in (by omega), nm_e ⟨ce_in ht, ce_in (by omega), nm_e (nm_e hp)⟩⟩⟩⟩
end
