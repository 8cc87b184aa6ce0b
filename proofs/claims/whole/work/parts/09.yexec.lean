section
variable {xlim xps xvn xkc ev wa wm rf dp ea er lr lu lc ylim yend yans yrest ybeg yres yused ycalls yver ykept : Int32} {xop xnum len st vers evl xms own clr amt arg eg el pos hgt stk sst sev sw swm srf yop ybs cps old bef ywm wcp ecp mcp rcp yms ysf ycl yam yar ygv yel yat ytp : Nat → Int32}
theorem yy_0 {post : SY → Prop} {t h0 a c : Nat} {b : Int32} (ht : t < 5) (ha : a < 6) (hown : ysf t = nI a) (hc : b &&& 3 = nI c) (hc4 : c < 4) (hh : ytp t = nI h0) (h6 : h0 < 6) (hp : post (ylim, ev, wa, rf, nI (t + 1), yend, yans, yrest, ybeg, yres, yused, ycalls, yver, ykept, yop, ybs, len, st, cps, old, bef, ywm, wcp, ecp, mcp, rcp, evl, yms, ysf, ycl, yam, yar, ygv, yel, yat, upd ytp t (nI (h0 + 1)), upd stk (6 * t + h0) (b))) : wpY_simple post (ylim, ev, wa, rf, nI (t + 1), yend, yans, yrest, ybeg, yres, yused, ycalls, yver, ykept, yop, ybs, len, st, cps, old, bef, ywm, wcp, ecp, mcp, rcp, evl, yms, ysf, ycl, yam, yar, ygv, yel, yat, ytp, stk) (nI 0) b (nI (4 * a + c)) := by
  unfold wpY_simple
  refine nm_r (nI_pred t) ⟨ce_in ht, nm_r (show 5 * ysf (nI t).toNatClampNeg + (b &&& 3) = nI (5 * a + c) from by rw [ce_cl (by omega), hown, hc, ce_mL5, nI_add]) ?_⟩
  refine br_f (by decide) (br_f (by decide) (br_t rfl ?_))
  exact yw_push ht hh h6 hp
theorem yy_1 {post : SY → Prop} {t h0 a c : Nat} {b : Int32} (ht : t < 5) (ha : a < 6) (hown : ysf t = nI a) (hc : b &&& 3 = nI c) (hc4 : c < 4) (hh : ytp t = nI h0) (h6 : h0 < 6) (hp : post (ylim, ev, wa, rf, nI (t + 1), yend, yans, yrest, ybeg, yres, yused, ycalls, yver, ykept, yop, ybs, len, st, cps, old, bef, ywm, wcp, ecp, mcp, rcp, evl, yms, ysf, ycl, yam, yar, ygv, yel, yat, upd ytp t (nI (h0 + 1)), upd stk (6 * t + h0) (yar t))) : wpY_simple post (ylim, ev, wa, rf, nI (t + 1), yend, yans, yrest, ybeg, yres, yused, ycalls, yver, ykept, yop, ybs, len, st, cps, old, bef, ywm, wcp, ecp, mcp, rcp, evl, yms, ysf, ycl, yam, yar, ygv, yel, yat, ytp, stk) (nI 1) b (nI (4 * a + c)) := by
  unfold wpY_simple
  refine nm_r (nI_pred t) ⟨ce_in ht, nm_r (show 5 * ysf (nI t).toNatClampNeg + (b &&& 3) = nI (5 * a + c) from by rw [ce_cl (by omega), hown, hc, ce_mL5, nI_add]) ?_⟩
  refine br_f (by decide) (br_f (by decide) (br_f (by decide) (br_t rfl ?_)))
  rw [ce_cl (t := t) (by omega)]
  exact ⟨ce_in ht, yw_push ht hh h6 hp⟩
theorem yy_2 {post : SY → Prop} {t h0 a c : Nat} {b : Int32} (ht : t < 5) (ha : a < 6) (hown : ysf t = nI a) (hc : b &&& 3 = nI c) (hc4 : c < 4) (hh : ytp t = nI h0) (h6 : h0 < 6) (hp : post (ylim, ev, wa, rf, nI (t + 1), yend, yans, yrest, ybeg, yres, yused, ycalls, yver, ykept, yop, ybs, len, st, cps, old, bef, ywm, wcp, ecp, mcp, rcp, evl, yms, ysf, ycl, yam, yar, ygv, yel, yat, upd ytp t (nI (h0 + 1)), upd stk (6 * t + h0) (ycl t))) : wpY_simple post (ylim, ev, wa, rf, nI (t + 1), yend, yans, yrest, ybeg, yres, yused, ycalls, yver, ykept, yop, ybs, len, st, cps, old, bef, ywm, wcp, ecp, mcp, rcp, evl, yms, ysf, ycl, yam, yar, ygv, yel, yat, ytp, stk) (nI 2) b (nI (4 * a + c)) := by
  unfold wpY_simple
  refine nm_r (nI_pred t) ⟨ce_in ht, nm_r (show 5 * ysf (nI t).toNatClampNeg + (b &&& 3) = nI (5 * a + c) from by rw [ce_cl (by omega), hown, hc, ce_mL5, nI_add]) ?_⟩
  refine br_f (by decide) (br_f (by decide) (br_f (by decide) (br_f (by decide) (br_t rfl ?_))))
  rw [ce_cl (t := t) (by omega)]
  exact ⟨ce_in ht, yw_push ht hh h6 hp⟩
theorem yy_3 {post : SY → Prop} {t h0 a c : Nat} {b : Int32} (ht : t < 5) (ha : a < 6) (hown : ysf t = nI a) (hc : b &&& 3 = nI c) (hc4 : c < 4) (hh : ytp t = nI h0) (h6 : h0 < 6) (hp : post (ylim, ev, wa, rf, nI (t + 1), yend, yans, yrest, ybeg, yres, yused, ycalls, yver, ykept, yop, ybs, len, st, cps, old, bef, ywm, wcp, ecp, mcp, rcp, evl, yms, ysf, ycl, yam, yar, ygv, yel, yat, upd ytp t (nI (h0 + 1)), upd stk (6 * t + h0) (ysf t))) : wpY_simple post (ylim, ev, wa, rf, nI (t + 1), yend, yans, yrest, ybeg, yres, yused, ycalls, yver, ykept, yop, ybs, len, st, cps, old, bef, ywm, wcp, ecp, mcp, rcp, evl, yms, ysf, ycl, yam, yar, ygv, yel, yat, ytp, stk) (nI 3) b (nI (4 * a + c)) := by
  unfold wpY_simple
  refine nm_r (nI_pred t) ⟨ce_in ht, nm_r (show 5 * ysf (nI t).toNatClampNeg + (b &&& 3) = nI (5 * a + c) from by rw [ce_cl (by omega), hown, hc, ce_mL5, nI_add]) ?_⟩
  refine br_f (by decide) (br_f (by decide) (br_f (by decide) (br_f (by decide) (br_f (by decide) (br_t rfl ?_)))))
  rw [ce_cl (t := t) (by omega)]
  exact ⟨ce_in ht, yw_push ht hh h6 hp⟩
theorem yy_4 {post : SY → Prop} {t h0 a c : Nat} {b : Int32} (ht : t < 5) (ha : a < 6) (hown : ysf t = nI a) (hc : b &&& 3 = nI c) (hc4 : c < 4) (hh : ytp t = nI h0) (h6 : h0 < 6) (hp : post (ylim, ev, wa, rf, nI (t + 1), yend, yans, yrest, ybeg, yres, yused, ycalls, yver, ykept, yop, ybs, len, st, cps, old, bef, ywm, wcp, ecp, mcp, rcp, evl, yms, ysf, ycl, yam, yar, ygv, yel, yat, upd ytp t (nI (h0 + 1)), upd stk (6 * t + h0) (yam t))) : wpY_simple post (ylim, ev, wa, rf, nI (t + 1), yend, yans, yrest, ybeg, yres, yused, ycalls, yver, ykept, yop, ybs, len, st, cps, old, bef, ywm, wcp, ecp, mcp, rcp, evl, yms, ysf, ycl, yam, yar, ygv, yel, yat, ytp, stk) (nI 4) b (nI (4 * a + c)) := by
  unfold wpY_simple
  refine nm_r (nI_pred t) ⟨ce_in ht, nm_r (show 5 * ysf (nI t).toNatClampNeg + (b &&& 3) = nI (5 * a + c) from by rw [ce_cl (by omega), hown, hc, ce_mL5, nI_add]) ?_⟩
  refine br_f (by decide) (br_f (by decide) (br_f (by decide) (br_f (by decide) (br_f (by decide) (br_f (by decide) (br_t rfl ?_))))))
  rw [ce_cl (t := t) (by omega)]
  exact ⟨ce_in ht, yw_push ht hh h6 hp⟩
theorem yy_5 {post : SY → Prop} {t h0 a c : Nat} {b : Int32} (ht : t < 5) (ha : a < 6) (hown : ysf t = nI a) (hc : b &&& 3 = nI c) (hc4 : c < 4) (hh : ytp t = nI (h0 + 1)) (h6 : h0 < 6) (hp : post (ylim, ev, wa, rf, nI (t + 1), yend, yans, yrest, ybeg, yres, yused, ycalls, yver, ykept, yop, ybs, len, st, cps, old, bef, ywm, wcp, ecp, mcp, rcp, evl, yms, ysf, ycl, yam, yar, ygv, yel, yat, upd ytp t (nI (h0 + 1)), upd stk (6 * t + h0) (ce_has st (stk (6 * t + h0))))) : wpY_simple post (ylim, ev, wa, rf, nI (t + 1), yend, yans, yrest, ybeg, yres, yused, ycalls, yver, ykept, yop, ybs, len, st, cps, old, bef, ywm, wcp, ecp, mcp, rcp, evl, yms, ysf, ycl, yam, yar, ygv, yel, yat, ytp, stk) (nI 5) b (nI (4 * a + c)) := by
  unfold wpY_simple
  refine nm_r (nI_pred t) ⟨ce_in ht, nm_r (show 5 * ysf (nI t).toNatClampNeg + (b &&& 3) = nI (5 * a + c) from by rw [ce_cl (by omega), hown, hc, ce_mL5, nI_add]) ?_⟩
  refine br_f (by decide) (br_f (by decide) (br_f (by decide) (br_f (by decide) (br_f (by decide) (br_f (by decide) (br_f (by decide) (br_t rfl ?_)))))))
  refine yw_pop ht hh h6 ?_
  unfold ce_has at hp
  rcases pk_ix (stk (6 * t + h0)) (n := 6) (by decide) with q | q | ⟨j, hj, e⟩
  · rw [if_pos q] at hp
    refine yw_accF (Or.inl q) (br_t rfl ?_)
    unfold wY_simple_162
    refine yw_push ht pk_us h6 ?_
    rw [ce_uu]; exact hp
  · have n : ¬ stk (6 * t + h0) < 0 := fun z => Int32.not_lt.mpr (Int32.le_trans (by decide) q) z
    rw [if_neg n, if_pos q] at hp
    refine yw_accF (Or.inr q) (br_t rfl ?_)
    unfold wY_simple_162
    refine yw_push ht pk_us h6 ?_
    rw [ce_uu]; exact hp
  · rw [e, if_neg (nI_pos (by omega)), if_neg (nI_ge hj (by decide)), ce_cl (by omega)] at hp
    rw [e]
    refine yw_accT hj (br_f (by decide) ?_)
    rw [ce_mL5, ce_a4, ce_cl (by omega)]
    unfold wY_simple_162
    refine ⟨ce_in (by omega), yw_push ht pk_us h6 ?_⟩
    rw [ce_uu]; exact hp
theorem yy_6 {post : SY → Prop} {t h0 a c : Nat} {b : Int32} (ht : t < 5) (ha : a < 6) (hown : ysf t = nI a) (hc : b &&& 3 = nI c) (hc4 : c < 4) (hh : ytp t = nI h0) (h6 : h0 < 6) (hp : post (ylim, ev, wa, rf, nI (t + 1), yend, yans, yrest, ybeg, yres, yused, ycalls, yver, ykept, yop, ybs, len, st, cps, old, bef, upd ywm (4 * a + c) 1, wcp, ecp, mcp, rcp, evl, yms, ysf, ycl, yam, yar, ygv, yel, yat, upd ytp t (nI (h0 + 1)), upd stk (6 * t + h0) (st (5 * a + c)))) : wpY_simple post (ylim, ev, wa, rf, nI (t + 1), yend, yans, yrest, ybeg, yres, yused, ycalls, yver, ykept, yop, ybs, len, st, cps, old, bef, ywm, wcp, ecp, mcp, rcp, evl, yms, ysf, ycl, yam, yar, ygv, yel, yat, ytp, stk) (nI 6) b (nI (4 * a + c)) := by
  unfold wpY_simple
  refine nm_r (nI_pred t) ⟨ce_in ht, nm_r (show 5 * ysf (nI t).toNatClampNeg + (b &&& 3) = nI (5 * a + c) from by rw [ce_cl (by omega), hown, hc, ce_mL5, nI_add]) ?_⟩
  refine br_f (by decide) (br_f (by decide) (br_f (by decide) (br_f (by decide) (br_f (by decide) (br_f (by decide) (br_f (by decide) (br_f (by decide) (br_t rfl ?_))))))))
  rw [ce_cl (t := 4 * a + c) (by omega), ce_cl (t := 5 * a + c) (by omega)]
  exact ⟨ce_in (by omega), nm_e ⟨ce_in (by omega), yw_push ht hh h6 hp⟩⟩
theorem yy_7 {post : SY → Prop} {t h0 a c : Nat} {b : Int32} (ht : t < 5) (ha : a < 6) (hown : ysf t = nI a) (hc : b &&& 3 = nI c) (hc4 : c < 4) (hh : ytp t = nI (h0 + 1)) (h6 : h0 < 6) (hp : post (ylim, ev, wa, ce_rf rf (stk (6 * t + h0)) (st (5 * a + c)), nI (t + 1), yend, yans, yrest, ybeg, yres, yused, ycalls, yver, ykept, yop, ybs, len, upd st (5 * a + c) (stk (6 * t + h0)), cps, old, bef, upd ywm (4 * a + c) 1, wcp, ecp, mcp, rcp, evl, yms, ysf, ycl, yam, yar, ygv, yel, yat, upd ytp t (nI h0), stk)) : wpY_simple post (ylim, ev, wa, rf, nI (t + 1), yend, yans, yrest, ybeg, yres, yused, ycalls, yver, ykept, yop, ybs, len, st, cps, old, bef, ywm, wcp, ecp, mcp, rcp, evl, yms, ysf, ycl, yam, yar, ygv, yel, yat, ytp, stk) (nI 7) b (nI (4 * a + c)) := by
  unfold wpY_simple
  refine nm_r (nI_pred t) ⟨ce_in ht, nm_r (show 5 * ysf (nI t).toNatClampNeg + (b &&& 3) = nI (5 * a + c) from by rw [ce_cl (by omega), hown, hc, ce_mL5, nI_add]) ?_⟩
  refine br_f (by decide) (br_t (by decide) ?_)
  rw [ce_cl (t := 4 * a + c) (by omega), ce_cl (t := 5 * a + c) (by omega)]
  refine ⟨ce_in (by omega), nm_e (yw_pop ht hh h6 ?_)⟩
  unfold ce_rf at hp
  refine br_c (fun q => ⟨ce_in (by omega), br_c (fun q2 => ?_) (fun n2 => nm_e ?_)⟩) (fun n => ?_)
  · rw [if_neg (fun z => z.2 q2)] at hp
    exact ⟨ce_in (by omega), nm_e hp⟩
  · rw [if_pos ⟨q, n2⟩] at hp
    exact ⟨ce_in (by omega), nm_e hp⟩
  · rw [if_neg (fun z => n z.1)] at hp
    exact ⟨ce_in (by omega), nm_e hp⟩
theorem yy_16 {post : SY → Prop} {t h0 : Nat} (ht : t < 5) (hp : post (ylim, ev, wa, rf, nI (t + 1), yend, yans, yrest, ybeg, yres, yused, ycalls, yver, ykept, yop, ybs, len, st, cps, old, bef, ywm, wcp, ecp, mcp, rcp, evl, yms, ysf, ycl, yam, yar, ygv, yel, yat, ytp, stk)) : wpY_onStack post (ylim, ev, wa, rf, nI (t + 1), yend, yans, yrest, ybeg, yres, yused, ycalls, yver, ykept, yop, ybs, len, st, cps, old, bef, ywm, wcp, ecp, mcp, rcp, evl, yms, ysf, ycl, yam, yar, ygv, yel, yat, ytp, stk) (nI 16) := by
  unfold wpY_onStack
  exact br_t rfl hp
theorem yy_14 {post : SY → Prop} {t h0 : Nat} (ht : t < 5) (hh : ytp t = nI (h0 + 1)) (h6 : h0 < 6) (hp : post (ylim, ev, wa, rf, nI (t + 1), yend, yans, yrest, ybeg, yres, yused, ycalls, yver, ykept, yop, ybs, len, st, cps, old, bef, ywm, wcp, ecp, mcp, rcp, evl, yms, ysf, ycl, yam, yar, ygv, yel, yat, upd ytp t (nI h0), stk)) : wpY_onStack post (ylim, ev, wa, rf, nI (t + 1), yend, yans, yrest, ybeg, yres, yused, ycalls, yver, ykept, yop, ybs, len, st, cps, old, bef, ywm, wcp, ecp, mcp, rcp, evl, yms, ysf, ycl, yam, yar, ygv, yel, yat, ytp, stk) (nI 14) := by
  unfold wpY_onStack
  refine br_f (by decide) (yw_pop ht hh h6 (br_f (by decide) ?_))
  unfold wY_onStack_28
  exact br_f (by decide) (br_t rfl hp)
theorem yy_17 {post : SY → Prop} {t h0 : Nat} (ht : t < 5) (hh : ytp t = nI (h0 + 1)) (h6 : h0 < 6) (hp : post (ylim, ev, wa, rf, nI (t + 1), yend, yans, yrest, ybeg, yres, yused, ycalls, yver, ykept, yop, ybs, len, st, cps, old, bef, ywm, wcp, ecp, mcp, rcp, evl, yms, ysf, ycl, yam, yar, ygv, yel, yat, upd ytp t (nI h0), stk)) : wpY_onStack post (ylim, ev, wa, rf, nI (t + 1), yend, yans, yrest, ybeg, yres, yused, ycalls, yver, ykept, yop, ybs, len, st, cps, old, bef, ywm, wcp, ecp, mcp, rcp, evl, yms, ysf, ycl, yam, yar, ygv, yel, yat, ytp, stk) (nI 17) := by
  unfold wpY_onStack
  refine br_f (by decide) (yw_pop ht hh h6 (br_f (by decide) ?_))
  unfold wY_onStack_28
  exact br_f (by decide) (br_f (by decide) (br_t rfl hp))
theorem yy_13 {post : SY → Prop} {t h0 : Nat} (ht : t < 5) (hh : ytp t = nI (h0 + 1)) (h6 : h0 < 5) (hp : post (ylim, ev, wa, rf, nI (t + 1), yend, yans, yrest, ybeg, yres, yused, ycalls, yver, ykept, yop, ybs, len, st, cps, old, bef, ywm, wcp, ecp, mcp, rcp, evl, yms, ysf, ycl, yam, yar, ygv, yel, yat, upd ytp t (nI (h0 + 2)), upd (upd stk (6 * t + h0) (stk (6 * t + h0))) (6 * t + (h0 + 1)) (stk (6 * t + h0)))) : wpY_onStack post (ylim, ev, wa, rf, nI (t + 1), yend, yans, yrest, ybeg, yres, yused, ycalls, yver, ykept, yop, ybs, len, st, cps, old, bef, ywm, wcp, ecp, mcp, rcp, evl, yms, ysf, ycl, yam, yar, ygv, yel, yat, ytp, stk) (nI 13) := by
  unfold wpY_onStack
  refine br_f (by decide) (yw_pop ht hh (by omega) (br_t rfl (yw_push ht pk_us (by omega) (yw_push (h := h0 + 1) ht pk_us (by omega) ?_))))
  unfold wY_onStack_28
  rw [ce_uu, ce_uu]
  exact br_t rfl hp
theorem yy_15 {post : SY → Prop} {t h0 : Nat} (ht : t < 5) (hh : ytp t = nI (h0 + 2)) (h6 : h0 < 5) (hp : post (ylim, ev, wa, rf, nI (t + 1), yend, yans, yrest, ybeg, yres, yused, ycalls, yver, ykept, yop, ybs, len, st, cps, old, bef, ywm, wcp, ecp, mcp, rcp, evl, yms, ysf, ycl, yam, yar, ygv, yel, yat, upd ytp t (nI (h0 + 2)), upd (upd stk (6 * t + h0) (stk (6 * t + h0 + 1))) (6 * t + (h0 + 1)) (stk (6 * t + h0)))) : wpY_onStack post (ylim, ev, wa, rf, nI (t + 1), yend, yans, yrest, ybeg, yres, yused, ycalls, yver, ykept, yop, ybs, len, st, cps, old, bef, ywm, wcp, ecp, mcp, rcp, evl, yms, ysf, ycl, yam, yar, ygv, yel, yat, ytp, stk) (nI 15) := by
  unfold wpY_onStack
  refine br_f (by decide) (yw_pop (h := h0 + 1) ht hh (by omega) (br_f (by decide) ?_))
  unfold wY_onStack_28
  refine br_f (by decide) (br_f (by decide) (br_f (by decide) (yw_pop ht pk_us (by omega) (br_t rfl (yw_push ht pk_us (by omega) (yw_push (h := h0 + 1) ht pk_us (by omega) ?_))))))
  rw [ce_uu, ce_uu, ce_uu]
  exact hp
theorem yy_8 {post : SY → Prop} {t h0 : Nat} (ht : t < 5) (hh : ytp t = nI (h0 + 2)) (h6 : h0 < 5) (hp : post (ylim, ev, wa, rf, nI (t + 1), yend, yans, yrest, ybeg, yres, yused, ycalls, yver, ykept, yop, ybs, len, st, cps, old, bef, ywm, wcp, ecp, mcp, rcp, evl, yms, ysf, ycl, yam, yar, ygv, yel, yat, upd ytp t (nI (h0 + 1)), upd stk (6 * t + h0) (ce_cmb 8 (stk (6 * t + h0)) (stk (6 * t + h0 + 1))))) : wpY_onStack post (ylim, ev, wa, rf, nI (t + 1), yend, yans, yrest, ybeg, yres, yused, ycalls, yver, ykept, yop, ybs, len, st, cps, old, bef, ywm, wcp, ecp, mcp, rcp, evl, yms, ysf, ycl, yam, yar, ygv, yel, yat, ytp, stk) (nI 8) := by
  unfold wpY_onStack
  refine br_f (by decide) (yw_pop (h := h0 + 1) ht hh (by omega) (br_f (by decide) ?_))
  unfold wY_onStack_28 wY_onStack_137
  refine br_f (by decide) (br_f (by decide) (br_f (by decide) (yw_pop ht pk_us (by omega) (br_f (by decide) ?_))))
  refine br_t rfl (yw_push ht pk_us (by omega) ?_)
  rw [ce_uu, ce_uu]
  exact hp
theorem yy_9 {post : SY → Prop} {t h0 : Nat} (ht : t < 5) (hh : ytp t = nI (h0 + 2)) (h6 : h0 < 5) (hp : post (ylim, ev, wa, rf, nI (t + 1), yend, yans, yrest, ybeg, yres, yused, ycalls, yver, ykept, yop, ybs, len, st, cps, old, bef, ywm, wcp, ecp, mcp, rcp, evl, yms, ysf, ycl, yam, yar, ygv, yel, yat, upd ytp t (nI (h0 + 1)), upd stk (6 * t + h0) (ce_cmb 9 (stk (6 * t + h0)) (stk (6 * t + h0 + 1))))) : wpY_onStack post (ylim, ev, wa, rf, nI (t + 1), yend, yans, yrest, ybeg, yres, yused, ycalls, yver, ykept, yop, ybs, len, st, cps, old, bef, ywm, wcp, ecp, mcp, rcp, evl, yms, ysf, ycl, yam, yar, ygv, yel, yat, ytp, stk) (nI 9) := by
  unfold wpY_onStack
  refine br_f (by decide) (yw_pop (h := h0 + 1) ht hh (by omega) (br_f (by decide) ?_))
  unfold wY_onStack_28 wY_onStack_137
  refine br_f (by decide) (br_f (by decide) (br_f (by decide) (yw_pop ht pk_us (by omega) (br_f (by decide) ?_))))
  refine br_f (by decide) (br_t rfl (yw_push ht pk_us (by omega) ?_))
  rw [ce_uu, ce_uu]
  exact hp
theorem yy_10 {post : SY → Prop} {t h0 : Nat} (ht : t < 5) (hh : ytp t = nI (h0 + 2)) (h6 : h0 < 5) (hp : post (ylim, ev, wa, rf, nI (t + 1), yend, yans, yrest, ybeg, yres, yused, ycalls, yver, ykept, yop, ybs, len, st, cps, old, bef, ywm, wcp, ecp, mcp, rcp, evl, yms, ysf, ycl, yam, yar, ygv, yel, yat, upd ytp t (nI (h0 + 1)), upd stk (6 * t + h0) (ce_cmb 10 (stk (6 * t + h0)) (stk (6 * t + h0 + 1))))) : wpY_onStack post (ylim, ev, wa, rf, nI (t + 1), yend, yans, yrest, ybeg, yres, yused, ycalls, yver, ykept, yop, ybs, len, st, cps, old, bef, ywm, wcp, ecp, mcp, rcp, evl, yms, ysf, ycl, yam, yar, ygv, yel, yat, ytp, stk) (nI 10) := by
  unfold wpY_onStack
  refine br_f (by decide) (yw_pop (h := h0 + 1) ht hh (by omega) (br_f (by decide) ?_))
  unfold wY_onStack_28 wY_onStack_137
  refine br_f (by decide) (br_f (by decide) (br_f (by decide) (yw_pop ht pk_us (by omega) (br_f (by decide) ?_))))
  refine br_f (by decide) (br_f (by decide) (br_t rfl (yw_push ht pk_us (by omega) ?_)))
  rw [ce_uu, ce_uu]
  exact hp
theorem yy_11 {post : SY → Prop} {t h0 : Nat} (ht : t < 5) (hh : ytp t = nI (h0 + 2)) (h6 : h0 < 5) (hp : post (ylim, ev, wa, rf, nI (t + 1), yend, yans, yrest, ybeg, yres, yused, ycalls, yver, ykept, yop, ybs, len, st, cps, old, bef, ywm, wcp, ecp, mcp, rcp, evl, yms, ysf, ycl, yam, yar, ygv, yel, yat, upd ytp t (nI (h0 + 1)), upd stk (6 * t + h0) (ce_cmb 11 (stk (6 * t + h0)) (stk (6 * t + h0 + 1))))) : wpY_onStack post (ylim, ev, wa, rf, nI (t + 1), yend, yans, yrest, ybeg, yres, yused, ycalls, yver, ykept, yop, ybs, len, st, cps, old, bef, ywm, wcp, ecp, mcp, rcp, evl, yms, ysf, ycl, yam, yar, ygv, yel, yat, ytp, stk) (nI 11) := by
  unfold wpY_onStack
  refine br_f (by decide) (yw_pop (h := h0 + 1) ht hh (by omega) (br_f (by decide) ?_))
  unfold wY_onStack_28 wY_onStack_137
  refine br_f (by decide) (br_f (by decide) (br_f (by decide) (yw_pop ht pk_us (by omega) (br_f (by decide) ?_))))
  refine br_f (by decide) (br_f (by decide) (br_f (by decide) (br_t rfl (br_c (fun q => yw_push ht pk_us (by omega) ?_) (fun q => yw_push ht pk_us (by omega) ?_)))))
  · rw [show ce_cmb 11 (stk (6 * t + h0)) (stk (6 * t + h0 + 1)) = 0 from if_pos q] at hp
    rw [ce_uu, ce_uu]; exact hp
  · rw [show ce_cmb 11 (stk (6 * t + h0)) (stk (6 * t + h0 + 1)) = 1 from if_neg q] at hp
    rw [ce_uu, ce_uu]; exact hp
theorem yy_12 {post : SY → Prop} {t h0 : Nat} (ht : t < 5) (hh : ytp t = nI (h0 + 2)) (h6 : h0 < 5) (hp : post (ylim, ev, wa, rf, nI (t + 1), yend, yans, yrest, ybeg, yres, yused, ycalls, yver, ykept, yop, ybs, len, st, cps, old, bef, ywm, wcp, ecp, mcp, rcp, evl, yms, ysf, ycl, yam, yar, ygv, yel, yat, upd ytp t (nI (h0 + 1)), upd stk (6 * t + h0) (ce_cmb 12 (stk (6 * t + h0)) (stk (6 * t + h0 + 1))))) : wpY_onStack post (ylim, ev, wa, rf, nI (t + 1), yend, yans, yrest, ybeg, yres, yused, ycalls, yver, ykept, yop, ybs, len, st, cps, old, bef, ywm, wcp, ecp, mcp, rcp, evl, yms, ysf, ycl, yam, yar, ygv, yel, yat, ytp, stk) (nI 12) := by
  unfold wpY_onStack
  refine br_f (by decide) (yw_pop (h := h0 + 1) ht hh (by omega) (br_f (by decide) ?_))
  unfold wY_onStack_28 wY_onStack_137
  refine br_f (by decide) (br_f (by decide) (br_f (by decide) (yw_pop ht pk_us (by omega) (br_f (by decide) ?_))))
  refine br_f (by decide) (br_f (by decide) (br_f (by decide) (br_f (by decide) (br_c (fun q => yw_push ht pk_us (by omega) ?_) (fun q => yw_push ht pk_us (by omega) ?_)))))
  · rw [show ce_cmb 12 (stk (6 * t + h0)) (stk (6 * t + h0 + 1)) = 1 from if_pos q] at hp
    rw [ce_uu, ce_uu]; exact hp
  · rw [show ce_cmb 12 (stk (6 * t + h0)) (stk (6 * t + h0 + 1)) = 0 from if_neg q] at hp
    rw [ce_uu, ce_uu]; exact hp
theorem yy_22 {post : SY → Prop} {t h0 : Nat} {b : Int32} (ht : t < 5) (hh : ytp t = nI h0) (h6 : h0 < 6) (hp : post (ylim, ev, wa, rf, nI (t + 1), yend, yans, yrest, ybeg, yres, yused, ycalls, yver, ykept, yop, ybs, len, st, cps, old, bef, ywm, wcp, ecp, mcp, rcp, evl, yms, ysf, ycl, yam, yar, ygv, yel, yat, upd ytp t (nI (h0 + 1)), upd stk (6 * t + h0) (yel t))) : wpY_other post (ylim, ev, wa, rf, nI (t + 1), yend, yans, yrest, ybeg, yres, yused, ycalls, yver, ykept, yop, ybs, len, st, cps, old, bef, ywm, wcp, ecp, mcp, rcp, evl, yms, ysf, ycl, yam, yar, ygv, yel, yat, ytp, stk) (nI 22) b := by
  unfold wpY_other
  refine nm_r (nI_pred t) (br_t rfl ?_)
  rw [ce_cl (t := t) (by omega)]
  exact ⟨ce_in ht, yw_push ht hh h6 hp⟩
theorem yy_21n {post : SY → Prop} {t h0 E : Nat} {b : Int32} (ht : t < 5) (hh : ytp t = nI (h0 + 1)) (h6 : h0 < 6) (hE : E = 20) (hp : post (ylim, nI E, wa, rf, nI (t + 1), yend, yans, yrest, ybeg, yres, yused, ycalls, yver, ykept, yop, ybs, len, st, cps, old, bef, ywm, wcp, ecp, mcp, rcp, evl, yms, ysf, ycl, yam, yar, ygv, yel, yat, upd ytp t (nI h0), stk)) : wpY_other post (ylim, nI E, wa, rf, nI (t + 1), yend, yans, yrest, ybeg, yres, yused, ycalls, yver, ykept, yop, ybs, len, st, cps, old, bef, ywm, wcp, ecp, mcp, rcp, evl, yms, ysf, ycl, yam, yar, ygv, yel, yat, ytp, stk) (nI 21) b := by
  subst hE
  unfold wpY_other
  exact nm_r (nI_pred t) (br_f (by decide) (br_t rfl (yw_pop ht hh h6 (br_t (by decide) hp))))
theorem yy_21y {post : SY → Prop} {t h0 E : Nat} {b : Int32} (ht : t < 5) (hh : ytp t = nI (h0 + 1)) (h6 : h0 < 6) (hE : E < 20) (hp : post (ylim, nI (E + 1), wa, rf, nI (t + 1), yend, yans, yrest, ybeg, yres, yused, ycalls, yver, ykept, yop, ybs, len, st, cps, old, bef, ywm, wcp, ecp, mcp, rcp, ce_e3 evl E (ysf t) b (stk (6 * t + h0)), yms, ysf, ycl, yam, yar, ygv, yel, yat, upd ytp t (nI h0), stk)) : wpY_other post (ylim, nI E, wa, rf, nI (t + 1), yend, yans, yrest, ybeg, yres, yused, ycalls, yver, ykept, yop, ybs, len, st, cps, old, bef, ywm, wcp, ecp, mcp, rcp, evl, yms, ysf, ycl, yam, yar, ygv, yel, yat, ytp, stk) (nI 21) b := by
  unfold wpY_other
  refine nm_r (nI_pred t) (br_f (by decide) (br_t rfl (yw_pop ht hh h6 (br_f (nI_ge (b := 20) hE (by decide)) ?_))))
  rw [ce_mL3, nI_1 (3 * E), ce_a2 (3 * E), nI_1 E, ce_cl (t := t) (by omega), ce_cl (t := 3 * E) (by omega), ce_cl (t := 3 * E + 1) (by omega), ce_cl (t := 3 * E + 2) (by omega)]
  exact ⟨ce_in ht, ce_in (by omega), nm_e ⟨ce_in (by omega), nm_e (nm_e ⟨ce_in (by omega), nm_e hp⟩)⟩⟩
theorem yy_23n {post : SY → Prop} {t h0 W : Nat} {b : Int32} (ht : t < 5) (hh : ytp t = nI (h0 + 3)) (h6 : h0 < 4) (hW : W ≤ 6) (hn : W = 6 ∨ stk (6 * t + h0) < 0 ∨ nI 6 ≤ stk (6 * t + h0)) (hp : post (ylim, ev, nI W, rf, nI (t + 1), yend, yans, yrest, ybeg, yres, yused, ycalls, yver, ykept, yop, ybs, len, st, cps, old, bef, ywm, wcp, ecp, mcp, rcp, evl, yms, ysf, ycl, yam, yar, ygv, yel, yat, upd ytp t (nI h0), stk)) : wpY_other post (ylim, ev, nI W, rf, nI (t + 1), yend, yans, yrest, ybeg, yres, yused, ycalls, yver, ykept, yop, ybs, len, st, cps, old, bef, ywm, wcp, ecp, mcp, rcp, evl, yms, ysf, ycl, yam, yar, ygv, yel, yat, ytp, stk) (nI 23) b := by
  unfold wpY_other
  refine nm_r (nI_pred t) (br_f (by decide) (br_f (by decide) (yw_pop (h := h0 + 2) ht hh (by omega) (yw_pop (h := h0 + 1) ht pk_us (by omega) (yw_pop (h := h0) ht pk_us (by omega) ?_)))))
  rw [ce_uu, ce_uu]
  refine br_t rfl ⟨ce_in ht, ?_⟩
  unfold wpY_send
  refine pk_eq W 6 (fun _ => hp) (fun n => ?_)
  exact yw_accF (hn.resolve_left n) (br_t rfl hp)
theorem yy_23y {post : SY → Prop} {t h0 W a : Nat} {b : Int32} (ht : t < 5) (hh : ytp t = nI (h0 + 3)) (h6 : h0 < 4) (hW : W < 6) (ha : a < 6) (hs : stk (6 * t + h0) = nI a) (hp : post (ylim, ev, nI (W + 1), rf, nI (t + 1), yend, yans, yrest, ybeg, yres, yused, ycalls, yver, ykept, yop, ybs, len, st, cps, old, bef, ywm, wcp, ecp, mcp, rcp, evl, ce_m4 yms W (nI a) (stk (6 * t + h0 + 1)) (stk (6 * t + h0 + 2)) (ysf t), ysf, ycl, yam, yar, ygv, yel, yat, upd ytp t (nI h0), stk)) : wpY_other post (ylim, ev, nI W, rf, nI (t + 1), yend, yans, yrest, ybeg, yres, yused, ycalls, yver, ykept, yop, ybs, len, st, cps, old, bef, ywm, wcp, ecp, mcp, rcp, evl, yms, ysf, ycl, yam, yar, ygv, yel, yat, ytp, stk) (nI 23) b := by
  unfold wpY_other
  refine nm_r (nI_pred t) (br_f (by decide) (br_f (by decide) (yw_pop (h := h0 + 2) ht hh (by omega) (yw_pop (h := h0 + 1) ht pk_us (by omega) (yw_pop (h := h0) ht pk_us (by omega) ?_)))))
  rw [ce_uu, ce_uu]
  rw [ce_cl (t := t) (by omega)]
  refine br_t rfl ⟨ce_in ht, ?_⟩
  rw [hs]
  unfold wpY_send
  refine pk_eq W 6 (fun q => absurd q (by omega)) (fun n => yw_accT ha (br_f (by decide) ?_))
  rw [ce_mL4, nI_1 (4 * W), ce_a2 (4 * W), ce_a3 (4 * W), nI_1 W, ce_cl (t := 4 * W) (by omega), ce_cl (t := 4 * W + 1) (by omega), ce_cl (t := 4 * W + 2) (by omega), ce_cl (t := 4 * W + 3) (by omega)]
  exact ⟨ce_in (by omega), nm_e ⟨ce_in (by omega), nm_e ⟨ce_in (by omega), nm_e (nm_e ⟨ce_in (by omega), nm_e hp⟩)⟩⟩⟩
end
