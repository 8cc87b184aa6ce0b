/-- between two calls -/
def i_Rel (_ : Nat) (u : SX) (v : SY) : Prop := ∃ (l p K E : Nat) (xvn wa wm rf ea er lr lu lc : Int32) (xop xnum len st vers evl xms own clr amt arg eg el pos hgt stk sst sev sw swm srf : Nat → Int32), u = (nI l, nI p, xvn, nI K, nI E, wa, wm, rf, 0, ea, er, lr, lu, lc, xop, xnum, len, st, vers, evl, xms, own, clr, amt, arg, eg, el, pos, hgt, stk, sst, sev, sw, swm, srf) ∧ ∃ (ywa yrf ydp yend yans yrest ybeg : Int32) (yop ybs cps old bef ywm wcp ecp mcp rcp yms ysf ycl yam yar ygv yel yat ytp : Nat → Int32), v = (nI l, nI E, ywa, yrf, ydp, yend, yans, yrest, ybeg, lr, lu, lc, xvn, nI K, yop, ybs, len, st, cps, old, bef, ywm, wcp, ecp, mcp, rcp, evl, yms, ysf, ycl, yam, yar, ygv, yel, yat, ytp, stk) ∧ l ≤ 400 ∧ E ≤ 20 ∧ ce_PG xop xnum yop ybs len ∧ ce_BL st ∧ ce_VR p K vers st old
theorem i_up {k : Nat} {u : SX} {v : SY} (h : i_Rel k u v) : i_Rel (k + 5) u v := h
section
variable {xlim xps xvn xkc ev wa wm rf dp ea er lr lu lc ylim yend yans yrest ybeg yres yused ycalls yver ykept : Int32} {xop xnum len st vers evl xms own clr amt arg eg el pos hgt stk sst sev sw swm srf yop ybs cps old bef ywm wcp ecp mcp rcp yms ysf ycl yam yar ygv yel yat ytp : Nat → Int32}
def ce_us (sp rf : Int32) : Int32 := if sp / 4 ≤ rf then sp - sp / 4 else sp - rf
theorem ce_us0 {x : Nat} (hx : x ≤ 1000) : ce_us (nI x) 0 = nI x := by
  unfold ce_us
  rw [show (4 : Int32) = nI 4 from rfl, pk_div (by omega) (by decide) (by decide)]
  by_cases h : nI (x / 4) ≤ 0
  · rw [if_pos h]
    have h2 : x / 4 = 0 := by
      have := (nI_leI (a := x / 4) (b := 0) (by omega) (by omega)).mp h
      omega
    rw [h2, nI_0, Int32.sub_zero]
  · rw [if_neg h, Int32.sub_zero]
theorem xw_113 {post : Int32 → SX → Prop} {x4 x5 x6 : Int32} (hp : post x6 (xlim, xps, xvn, xkc, ev, wa, wm, rf, dp, ea, er, lr, ce_us (x4 - x5) rf, lc, xop, xnum, len, st, vers, evl, xms, own, clr, amt, arg, eg, el, pos, hgt, stk, sst, sev, sw, swm, srf)) : wX_call_113 post x4 x5 x6 xlim xps xvn xkc ev wa wm rf dp ea er lr lu lc xop xnum len st vers evl xms own clr amt arg eg el pos hgt stk sst sev sw swm srf := by
  unfold wX_call_113 wpX_lessRefund
  unfold ce_us at hp
  refine ⟨by decide, nm_e (br_c (fun z => ?_) (fun z => ?_))⟩
  · rw [if_pos z] at hp; exact hp
  · rw [if_neg z] at hp; exact hp
theorem yw_162 {post : Int32 → SY → Prop} {x4 : Int32} (hp : post 0 (ylim, ev, wa, rf, dp, yend, yans, yrest, ybeg, yres, ce_us (x4 - yrest) rf, ybeg, yver, ykept, yop, ybs, len, st, cps, old, bef, ywm, wcp, ecp, mcp, rcp, evl, yms, ysf, ycl, yam, yar, ygv, yel, yat, ytp, stk)) : wY_call_162 post x4 0 (ylim) (ev) (wa) (rf) (dp) (yend) (yans) (yrest) (ybeg) (yres) (yused) (ycalls) (yver) (ykept) (yop) (ybs) (len) (st) (cps) (old) (bef) (ywm) (wcp) (ecp) (mcp) (rcp) (evl) (yms) (ysf) (ycl) (yam) (yar) (ygv) (yel) (yat) (ytp) (stk) := by
  unfold wY_call_162
  unfold ce_us at hp
  refine nm_e (br_t rfl ⟨by decide, br_c (fun z => ⟨by decide, nm_e ?_⟩) (fun z => nm_e ?_)⟩)
  · rw [if_pos z] at hp; exact hp
  · rw [if_neg z] at hp; exact hp
theorem yw_162n {post : Int32 → SY → Prop} {x4 x6 : Int32} (h6 : ¬ x6 = 0) (hp : post x6 (ylim, ev, wa, rf, dp, yend, yans, yrest, ybeg, yres, x4 - yrest, ybeg, yver, ykept, yop, ybs, len, st, cps, old, bef, ywm, wcp, ecp, mcp, rcp, evl, yms, ysf, ycl, yam, yar, ygv, yel, yat, ytp, stk)) : wY_call_162 post x4 x6 (ylim) (ev) (wa) (rf) (dp) (yend) (yans) (yrest) (ybeg) (yres) (yused) (ycalls) (yver) (ykept) (yop) (ybs) (len) (st) (cps) (old) (bef) (ywm) (wcp) (ecp) (mcp) (rcp) (evl) (yms) (ysf) (ycl) (yam) (yar) (ygv) (yel) (yat) (ytp) (stk) := by
  unfold wY_call_162
  exact nm_e (br_f h6 hp)
def ce_Yk (post : Int32 → SY → Prop) (x4 x5 : Int32) (v : SY) : Prop := match v with
  | (ylim, ev, wa, rf, dp, yend, yans, yrest, ybeg, yres, yused, ycalls, yver, ykept, yop, ybs, len, st, cps, old, bef, ywm, wcp, ecp, mcp, rcp, evl, yms, ysf, ycl, yam, yar, ygv, yel, yat, ytp, stk) => (yend = 0 → ∃ n132 : Nat, wY_call_132 post x4 x5 yend n132 (ylim) (ev) (wa) (rf) (dp) (yend) (yans) (yrest) (ybeg) (yans) (yused) (ycalls) (yver) (ykept) (yop) (ybs) (len) (st) (cps) (old) (bef) (ywm) (wcp) (ecp) (mcp) (rcp) (evl) (yms) (ysf) (ycl) (yam) (yar) (ygv) (yel) (yat) (ytp) (stk)) ∧ (¬ yend = 0 → wY_call_150 post x4 x5 yend (ylim) (ev) (wa) (rf) (dp) (yend) (yans) (yrest) (ybeg) (yans) (yused) (ycalls) (yver) (ykept) (yop) (ybs) (len) (st) (cps) (old) (bef) (ywm) (wcp) (ecp) (mcp) (rcp) (evl) (yms) (ysf) (ycl) (yam) (yar) (ygv) (yel) (yat) (ytp) (stk))
theorem yw_call {post : Int32 → SY → Prop} {l n a : Nat} {am ar : Int32} (ha : a < 6) (hn : n ≤ l) (hl : l ≤ 400) (hp : wpY_perform (ce_Yk post (nI n) ev) (nI l, 0, 0, 0, dp, yend, yans, yrest, 0, yres, yused, ycalls, yver, ykept, yop, ybs, len, st, cps, old, ce_cp bef 0 30 st, ce_cp ywm 0 24 (fun _ => 0), wcp, ecp, mcp, rcp, evl, yms, ysf, ycl, yam, yar, ygv, yel, yat, ytp, stk) (nI a) am ar (-1) (nI n)) : wpY_call post (nI l, ev, wa, rf, dp, yend, yans, yrest, ybeg, yres, yused, ycalls, yver, ykept, yop, ybs, len, st, cps, old, bef, ywm, wcp, ecp, mcp, rcp, evl, yms, ysf, ycl, yam, yar, ygv, yel, yat, ytp, stk) (nI a) am ar (nI n) := by
  unfold wpY_call
  refine yw_accT ha (br_f (by decide) (br_f (nI_pos (by omega)) (br_t (nI_le hn (by omega)) ?_)))
  refine loop_0 (fun n' i s => wY_call_32 post (nI a) am ar (nI n) ev (nI l) (ev) (wa) (rf) (dp) (yend) (yans) (yrest) (ybeg) (yres) (yused) (ycalls) (yver) (ykept) n' (nI i) (yop) (ybs) (len) (st) (cps) (old) (bef) (s) (wcp) (ecp) (mcp) (rcp) (evl) (yms) (ysf) (ycl) (yam) (yar) (ygv) (yel) (yat) (ytp) (stk)) (fun i s => s = ce_cp ywm 0 i (fun _ => 0)) 24 ywm (ce_cp0 _ _ _).symm ?_ ?_
  · intro n' s e
    subst e
    refine br_t (by decide) ?_
    refine loop_0 (fun n' i s => wY_call_56 post (nI a) am ar (nI n) ev (nI l) (ev) (wa) (rf) (dp) (yend) (yans) (yrest) (ybeg) (yres) (yused) (ycalls) (yver) (ykept) n' (nI i) (yop) (ybs) (len) (st) (cps) (old) (s) (ce_cp ywm 0 24 (fun _ => 0)) (wcp) (ecp) (mcp) (rcp) (evl) (yms) (ysf) (ycl) (yam) (yar) (ygv) (yel) (yat) (ytp) (stk)) (fun i s => s = ce_cp bef 0 i st) 30 bef (ce_cp0 _ _ _).symm ?_ ?_
    · intro n' s e
      subst e
      exact br_t (by decide) hp
    · intro n' i s hi e H
      subst e
      refine br_f (nI_ge (b := 30) hi (by decide)) ?_
      rw [ce_cl (t := i) (by omega), nI_1 i]
      exact ⟨ce_in (by omega), ce_in (by omega), nm_r (ce_cps0 _ _ _) (nm_e (H _ rfl))⟩
  · intro n' i s hi e H
    subst e
    refine br_f (nI_ge (b := 24) hi (by decide)) ?_
    rw [ce_cl (t := i) (by omega), nI_1 i]
    exact ⟨ce_in (by omega), nm_r (ce_cps0 ywm i (fun _ => 0)) (nm_e (H _ rfl))⟩
end
section
theorem i_vc_call {k : Nat} {u : SX} {v : SY} (I : i_Rel k u v) (hk : k + 5 ≤ 2561) (v1 : Int32) (v2 : Int32) (v3 : Int32) (v4 : Int32) : wpX_call (fun r u' => wpY_call (fun r' v' => r' = r ∧ i_Rel (k + 5) u' v') v v1 v2 v3 v4) u v1 v2 v3 v4 := by
  have I2 : i_Rel (k + 5) u v := I
  obtain ⟨l, p, K, E, xvn, wa, wm, rf, ea, er, lr, lu, lc, xop, xnum, len, st, vers, evl, xms, own, clr, amt, arg, eg, el, pos, hgt, stk, sst, sev, sw, swm, srf, rfl, ywa, yrf, ydp, yend, yans, yrest, ybeg, yop, ybs, cps, old, bef, ywm, wcp, ecp, mcp, rcp, yms, ysf, ycl, yam, yar, ygv, yel, yat, ytp, rfl, hl, hE, hPG, hBL, hVR⟩ := I
  unfold wpX_call
  rcases pk_ix v1 (n := 6) (by decide) with z | z | ⟨a, ha, rfl⟩
  · refine xw_accF (Or.inl z) (br_t rfl ?_)
    unfold wpY_call
    exact yw_accF (Or.inl z) (br_t rfl ⟨rfl, I2⟩)
  · refine xw_accF (Or.inr z) (br_t rfl ?_)
    unfold wpY_call
    exact yw_accF (Or.inr z) (br_t rfl ⟨rfl, I2⟩)
  refine xw_accT ha (br_f (by decide) ?_)
  by_cases h4 : v4 < 0
  · refine br_t h4 ?_
    unfold wpY_call
    exact yw_accT ha (br_f (by decide) (br_t h4 ⟨rfl, I2⟩))
  refine br_f h4 ?_
  by_cases h5 : v4 ≤ nI l
  case neg =>
    refine br_f h5 ?_
    unfold wpY_call
    exact yw_accT ha (br_f (by decide) (br_f h4 (br_f h5 ⟨rfl, I2⟩)))
  obtain ⟨n, hn, rfl⟩ := nI_of2 (n := l) (nI_toInt (by omega)) h4 h5
  refine br_t h5 (xw_den (d := 0) (by omega) (Or.inl rfl) ha (fun hD => br_f (by decide) ?_) (fun hD => br_t rfl ?_))
  · refine yw_call ha hn hl (yp_den (Or.inl rfl) ha hBL hD (br_f (by decide) ?_))
    unfold wY_call_150
    refine br_t rfl (yw_162n (by decide) ⟨rfl, ?_⟩)
    rw [Int32.sub_self]
    exact ⟨l, p, K, E, _, _, _, _, _, _, _, _, _, _, _, _, _, _, _, _, _, _, _, _, _, _, _, _, _, _, _, _, _, _, rfl, _, _, _, _, _, _, _, _, _, _, _, _, _, _, _, _, _, _, _, _, _, _, _, _, _, _, rfl, hl, hE, hPG, hBL, hVR⟩
  · have hCO : ce_CO 0 0 xop xnum yop ybs len st (ce_cp ywm 0 24 (fun _ => 0)) xms yms 0 := ⟨⟨0, by omega, rfl⟩, by omega, hPG, hBL, ce_WRc ce_WR0 (fun j hj => ce_cpi0 hj), fun i hi => absurd hi (by omega)⟩
    have hbef : ∀ j, j < 30 → ce_cp bef 0 30 st j = st j := fun j hj => ce_cpi0 hj
    obtain ⟨e', W', u', v', hF, hw, px, py⟩ := ce_perf (lc := 0) (ar := v3) (n := n) (rf := 0) (Or.inl rfl) ha (by omega) hCO hD
    obtain ⟨ev1, wm1, rf1, ea1, er1, lc1, st1, evl1, xms1, own1, clr1, amt1, arg1, eg1, el1, pos1, hgt1, stk1, sst1, sev1, sw1, swm1, srf1, rfl, cps1, ywm1, wcp1, ecp1, mcp1, rcp1, yms1, ysf1, ycl1, yam1, yar1, ygv1, yel1, yat1, ytp1, rfl, hel1, hCO2, hea, hund⟩ := hF
    by_cases h0 : ea1 = 0
    · subst h0
      obtain ⟨e2, u2, v2', hG, hx, hy⟩ := ce_msg (xlim := nI l) (xps := nI p) (xvn := xvn) (xkc := nI K) (lr := er1) (lu := 0) (vers := vers) (ylim := nI l) (yres := er1) (yused := lu) (ycalls := lc) (yver := xvn) (ykept := nI K) (old := old) (bef := ce_cp bef 0 30 st) (e' + W' + 1) (e := e') (W := W') ⟨ev1, wm1, rf1, 0, er1, lc1, st1, evl1, xms1, own1, clr1, amt1, arg1, eg1, el1, pos1, hgt1, stk1, sst1, sev1, sw1, swm1, srf1, rfl, 0, er1, cps1, ywm1, wcp1, ecp1, mcp1, rcp1, yms1, ysf1, ycl1, yam1, yar1, ygv1, yel1, yat1, ytp1, rfl, hCO2, by omega⟩ (by omega)
      obtain ⟨ev2, wm2, rf2, ea2, er2, lc2, st2, evl2, xms2, own2, clr2, amt2, arg2, eg2, el2, pos2, hgt2, stk2, sst2, sev2, sw2, swm2, srf2, rfl, yend2, yans2, cps2, ywm2, wcp2, ecp2, mcp2, rcp2, yms2, ysf2, ycl2, yam2, yar2, ygv2, yel2, yat2, ytp2, rfl, hCO3, he2⟩ := hG
      obtain ⟨N, hN⟩ : ∃ N, e' + W' + 1 < N := ⟨_, Nat.lt_succ_self _⟩
      refine px _ (br_t rfl ?_)
      unfold wpX_runMessages
      refine ⟨N, hx _ N 0 (by omega) hN ?_⟩
      refine xw_addv hVR.1 hVR.2.1 (xw_113 ?_)
      refine yw_call ha hn hl (py _ (br_t rfl ⟨N, hy _ _ _ _ N hN (yw_newv hVR.2.1 ?_)⟩))
      unfold ce_Y150 wY_call_150
      refine br_f (by decide) (yw_162 ⟨rfl, ?_⟩)
      obtain ⟨⟨E2, hE2, rfl⟩, _, hPG2, hBL2, _, _⟩ := hCO3
      exact ⟨l, (p + 1) % 7, ce_k1 K, E2, _, _, _, _, _, _, _, _, _, _, _, _, _, _, _, _, _, _, _, _, _, _, _, _, _, _, _, _, _, _, rfl, _, _, _, _, _, _, _, _, _, _, _, _, _, _, _, _, _, _, _, _, _, _, _, _, _, _, rfl, hl, hE2, hPG2, hBL2, ce_VRadd hVR hBL hbef⟩
    · refine px _ (br_f h0 (xw_113 ?_))
      refine yw_call ha hn hl (py _ (br_f h0 ?_))
      unfold wY_call_150
      refine br_f (fun z => by rcases hea with q | q | q | q <;> (rw [q] at z; revert z; decide)) (yw_162n h0 ⟨rfl, ?_⟩)
      obtain ⟨hr0, hst0⟩ := hund h0
      subst hr0
      obtain ⟨⟨E2, hE2, rfl⟩, _, hPG2, hBL2, _, _⟩ := hCO2
      rw [pk_sub (by omega), ce_us0 (by omega)]
      exact ⟨l, p, K, E2, _, _, _, _, _, _, _, _, _, _, _, _, _, _, _, _, _, _, _, _, _, _, _, _, _, _, _, _, _, _, rfl, _, _, _, _, _, _, _, _, _, _, _, _, _, _, _, _, _, _, _, _, _, _, _, _, _, _, rfl, hl, hE2, hPG2, hBL2, hVR.1, hVR.2.1, fun j hj => (hVR.2.2.1 j hj).trans (hst0 j hj).symm, hVR.2.2.2⟩
end
