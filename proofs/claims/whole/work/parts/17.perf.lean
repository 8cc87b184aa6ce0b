section
variable {xlim xps xvn xkc ev wa wm rf dp ea er lr lu lc ylim yend yans yrest ybeg yres yused ycalls yver ykept : Int32} {xop xnum len st vers evl xms own clr amt arg eg el pos hgt stk sst sev sw swm srf yop ybs cps old bef ywm wcp ecp mcp rcp yms ysf ycl yam yar ygv yel yat ytp : Nat → Int32}
variable {r0 : Int32} {st0 : Nat → Int32}
theorem yp_den {post : SY → Prop} {a : Nat} {cl am ar en : Int32} (hc : ce_CL cl) (ha : a < 6) (hB : ce_BL st) (hD : ce_DN st 0 cl a am) (hp : post (ylim, ev, wa, rf, 0, 4, 0, en, ybeg, yres, yused, ycalls, yver, ykept, yop, ybs, len, st, cps, old, bef, ywm, wcp, ecp, mcp, rcp, evl, yms, ysf, ycl, yam, yar, ygv, yel, yat, ytp, stk)) : wpY_perform post (ylim, ev, wa, rf, dp, yend, yans, yrest, ybeg, yres, yused, ycalls, yver, ykept, yop, ybs, len, st, cps, old, bef, ywm, wcp, ecp, mcp, rcp, evl, yms, ysf, ycl, yam, yar, ygv, yel, yat, ytp, stk) (nI a) am ar cl en := by
  unfold wpY_perform
  exact yb_den (d := 0) (by omega) hc ha hB hD ⟨1, br_t rfl hp⟩
theorem ce_perf {a n W : Nat} {cl am ar : Int32} (hc : ce_CL cl) (ha : a < 6) (hn : n ≤ 1000) (hCO : ce_CO ev wm xop xnum yop ybs len st ywm xms yms W) (hD : ¬ ce_DN st 0 cl a am) : ∃ e' W' u' v', ce_F xlim xps xvn xkc lr lu ylim yres yused ycalls yver ykept xop xnum len vers yop ybs old bef rf st e' W' u' v' ∧ e' + W' ≤ n + W ∧ (∀ post : Int32 → SX → Prop, post (nI e') u' → wpX_runCall post (xlim, xps, xvn, xkc, ev, nI W, wm, rf, 0, ea, er, lr, lu, lc, xop, xnum, len, st, vers, evl, xms, own, clr, amt, arg, eg, el, pos, hgt, stk, sst, sev, sw, swm, srf) cl (nI a) am ar (nI n)) ∧ (∀ post : SY → Prop, post v' → wpY_perform post (ylim, ev, nI W, rf, dp, yend, yans, yrest, lc, yres, yused, ycalls, yver, ykept, yop, ybs, len, st, cps, old, bef, ywm, wcp, ecp, mcp, rcp, evl, yms, ysf, ycl, yam, yar, ygv, yel, yat, ytp, stk) (nI a) am ar cl (nI n)) := by
  obtain ⟨L, hl, hL, _⟩ := hCO.2.2.1 a (by omega)
  have hw : ∀ j, j < 24 → vp_nar .boolean (ywm j) = ywm j := fun j hj => ce_WRn hCO.2.2.2.2.1 hj
  have hCO' := ce_COmv hCO hc ha hD
  by_cases hz : L = 0
  · subst hz
    have hF : ce_F xlim xps xvn xkc lr lu ylim yres yused ycalls yver ykept xop xnum len vers yop ybs old bef rf st n W (xlim, xps, xvn, xkc, ev, nI W, wm, rf, 0, 0, 0, lr, lu, lc + 1, xop, xnum, len, ce_mv st cl a am, vers, evl, xms, upd own 0 (nI a), upd clr 0 cl, upd amt 0 am, upd arg 0 ar, upd eg 0 (nI n), upd el 0 (nI n), upd pos 0 0, upd hgt 0 0, stk, ce_cp sst (30 * 0) 30 st, upd sev 0 ev, upd sw 0 (nI W), upd swm 0 wm, upd srf 0 rf) (ylim, ev, nI W, rf, 0, 0, 0, nI n, lc + 1, yres, yused, ycalls, yver, ykept, yop, ybs, len, ce_mv st cl a am, cps, old, bef, ywm, wcp, ecp, mcp, rcp, evl, yms, ysf, ycl, yam, yar, ygv, yel, yat, ytp, stk) := ⟨_, _, _, _, _, _, _, _, _, _, _, _, _, _, _, _, _, _, _, _, _, _, _, rfl, _, _, _, _, _, _, _, _, _, _, _, _, _, _, _, rfl, pk_us, hCO', Or.inl rfl, fun z => absurd rfl z⟩
    refine ⟨n, W, _, _, hF, Nat.le_refl _, ?_, ?_⟩
    · intro post hp
      unfold wpX_runCall
      refine xw_open (t := 0) (by omega) hc ha ⟨2, ?_⟩
      exact ce_XJ1 (t := 0) (by omega) (fun P hp => xs_emp (t := 0) (by omega) ha pk_us hL (fun P hp => xe_ok (t := 0) (xe_0 hp)) hp) post 1 0 (by omega) (ce_xlF hF hp)
    · intro post hp
      unfold wpY_perform
      exact yb_ok (t := 0) (by omega) hc ha hCO.2.2.2.1 hD hL hl hw (fun _ => ⟨1, br_t rfl hp⟩) (fun z => absurd z (by omega))
  · have hR : ce_R xlim xps xvn xkc lr lu ylim yres yused ycalls yver ykept xop xnum len vers yop ybs old bef rf st 0 (0 + n) W (xlim, xps, xvn, xkc, ev, nI W, wm, rf, nI (0 + 1), ea, er, lr, lu, lc + 1, xop, xnum, len, ce_mv st cl a am, vers, evl, xms, upd own 0 (nI a), upd clr 0 cl, upd amt 0 am, upd arg 0 ar, upd eg 0 (nI n), upd el 0 (nI n), upd pos 0 0, upd hgt 0 0, stk, ce_cp sst (30 * 0) 30 st, upd sev 0 ev, upd sw 0 (nI W), upd swm 0 wm, upd srf 0 rf) (ylim, ev, nI W, rf, nI (0 + 1), 0, 0, nI n, lc + 1, yres, yused, ycalls, yver, ykept, yop, ybs, len, ce_mv st cl a am, ce_cp cps (30 * 0) 30 st, old, bef, ywm, ce_cp wcp (24 * 0) 24 ywm, upd ecp 0 ev, upd mcp 0 (nI W), upd rcp 0 rf, evl, yms, upd ysf 0 (nI a), upd ycl 0 cl, upd yam 0 am, upd yar 0 ar, upd ygv 0 (nI n), upd yel 0 (nI n), upd yat 0 0, upd ytp 0 0, stk) :=
      ⟨_, _, _, _, _, _, _, _, _, _, _, _, _, _, _, _, _, _, _, _, _, _, _, rfl, _, _, _, _, _, _, _, _, _, _, _, _, _, _, _, _, _, _, rfl, 0, n, n, W, 0, rfl, by omega, by omega, by omega, by omega, ce_new ha hL hl (by omega) hn hCO (fun _ => ⟨rfl, fun _ _ => rfl⟩), rfl, hCO'⟩
    obtain ⟨e', W', u', v', hF, hw', hx, hy⟩ := ce_run (2 * n + 1) hR (by omega)
    refine ⟨e', W', u', v', hF, by omega, ?_, ?_⟩
    · intro post hp
      unfold wpX_runCall
      exact xw_open (t := 0) (by omega) hc ha ⟨2 * (2 * n + 1) + 1, hx post (2 * (2 * n + 1) + 1) 0 (by omega) (by omega) hp⟩
    · intro post hp
      unfold wpY_perform
      exact yb_ok (t := 0) (by omega) hc ha hCO.2.2.2.1 hD hL hl hw (fun z => absurd z hz) (fun _ => ⟨2 * n + 2, hy post (2 * n + 2) (by omega) hp⟩)
/-! messages -/
theorem xw_drop {post : SX → Prop} {W : Nat} (hp : post (xlim, xps, xvn, xkc, ev, nI W, wm, rf, dp, ea, er, lr, lu, lc, xop, xnum, len, st, vers, evl, ce_cp xms 0 20 (fun j => xms (j + 4)), own, clr, amt, arg, eg, el, pos, hgt, stk, sst, sev, sw, swm, srf)) : wpX_dropFrontMessage post (xlim, xps, xvn, xkc, ev, nI (W + 1), wm, rf, dp, ea, er, lr, lu, lc, xop, xnum, len, st, vers, evl, xms, own, clr, amt, arg, eg, el, pos, hgt, stk, sst, sev, sw, swm, srf) := by
  unfold wpX_dropFrontMessage
  refine nm_r (nI_pred W) ?_
  refine pk_loop (fun n i s => wX_dropFrontMessage_12 post (xlim) (xps) (xvn) (xkc) (ev) (nI W) (wm) (rf) (dp) (ea) (er) (lr) (lu) (lc) n (nI i) (xop) (xnum) (len) (st) (vers) (evl) (s) (own) (clr) (amt) (arg) (eg) (el) (pos) (hgt) (stk) (sst) (sev) (sw) (swm) (srf)) (fun i s => 4 ≤ i ∧ s = ce_cp xms 0 (i - 4) (fun j => xms (j + 4))) 24 4 xms (by omega) ⟨by omega, (ce_cp0 _ _ _).symm⟩ ?_ ?_
  · intro n s e
    obtain ⟨_, rfl⟩ := e
    exact br_t (by decide) hp
  · intro n i s hi e H
    obtain ⟨h4, rfl⟩ := e
    obtain ⟨i, rfl⟩ : ∃ i', i = i' + 4 := ⟨i - 4, by omega⟩
    refine br_f (nI_ge (b := 24) hi (by decide)) ?_
    rw [ce_s4, ce_cl (t := i) (by omega), ce_cl (t := i + 4) (by omega), nI_1, show i + 4 - 4 = i by omega, ce_cpo (by omega)]
    refine ⟨ce_in (by omega), ce_in (by omega), nm_r (ce_cps0 xms i (fun j => xms (j + 4))) (nm_e (H _ ⟨by omega, ?_⟩))⟩
    rw [show i + 4 + 1 - 4 = i + 1 by omega]
theorem yw_msg {post : SY → Prop} {W : Nat} (hW : W < 6) (hp : wpY_perform post (ylim, ev, nI W, rf, dp, yend, yans, yrest, ybeg, yres, yused, ycalls, yver, ykept, yop, ybs, len, st, cps, old, bef, ywm, wcp, ecp, mcp, rcp, evl, ce_cp yms 0 (4 * W) (fun j => yms (j + 4)), ysf, ycl, yam, yar, ygv, yel, yat, ytp, stk) (yms 0) (yms 1) (yms 2) (yms 3) yrest) : wpY_message post (ylim, ev, nI (W + 1), rf, dp, yend, yans, yrest, ybeg, yres, yused, ycalls, yver, ykept, yop, ybs, len, st, cps, old, bef, ywm, wcp, ecp, mcp, rcp, evl, yms, ysf, ycl, yam, yar, ygv, yel, yat, ytp, stk) := by
  unfold wpY_message
  refine nm_e (nm_e (nm_e (nm_e (nm_r (nI_pred W) ?_))))
  refine loop_0 (fun n i s => wY_message_42 post (yms 0) (yms 1) (yms 2) (yms 3) (ylim) (ev) (nI W) (rf) (dp) (yend) (yans) (yrest) (ybeg) (yres) (yused) (ycalls) (yver) (ykept) n (nI i) (yop) (ybs) (len) (st) (cps) (old) (bef) (ywm) (wcp) (ecp) (mcp) (rcp) (evl) (s) (ysf) (ycl) (yam) (yar) (ygv) (yel) (yat) (ytp) (stk)) (fun i s => s = ce_cp yms 0 i (fun j => yms (j + 4))) (4 * W) yms (ce_cp0 _ _ _).symm ?_ ?_
  · intro n s e
    subst e
    refine br_t ?_ hp
    rw [ce_mL4]; exact nI_le (by omega) (by omega)
  · intro n i s hi e H
    subst e
    refine br_f ?_ ?_
    · rw [ce_mL4]; exact nI_ge hi (by omega)
    · rw [ce_a4, ce_cl (t := i) (by omega), ce_cl (t := i + 4) (by omega), nI_1, ce_cpo (by omega)]
      exact ⟨ce_in (by omega), ce_in (by omega), nm_r (ce_cps0 yms i (fun j => yms (j + 4))) (nm_e (H _ rfl))⟩
theorem ce_MSdrop {W : Nat} (hW : W < 6) (h : ce_MS xms yms (W + 1)) : ce_MS (ce_cp xms 0 20 (fun j => xms (j + 4))) (ce_cp yms 0 (4 * W) (fun j => yms (j + 4))) W := by
  intro i hi
  have H := h (i + 1) (by omega)
  rw [show 4 * (i + 1) = 4 * i + 4 by omega] at H
  refine ⟨?_, ?_, ?_, ?_⟩
  · rw [ce_cpi0 (by omega), ce_cpi0 (by omega)]; exact H.1
  · rw [ce_cpi0 (by omega), ce_cpi0 (by omega), show 4 * i + 1 + 4 = 4 * i + 4 + 1 by omega]; exact H.2.1
  · rw [ce_cpi0 (by omega), ce_cpi0 (by omega), show 4 * i + 2 + 4 = 4 * i + 4 + 2 by omega]; exact H.2.2.1
  · rw [ce_cpi0 (by omega), ce_cpi0 (by omega), show 4 * i + 3 + 4 = 4 * i + 4 + 3 by omega]; exact H.2.2.2
end
