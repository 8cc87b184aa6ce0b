section
theorem pk_loopD {σ : Type} (W : Nat → Nat → σ → Prop) (I : Nat → σ → Prop) (hx : ∀ n s, I 0 s → W (n + 1) 0 s)
    (hs : ∀ n i s, I (i + 1) s → (∀ s', I i s' → W n i s') → W (n + 1) (i + 1) s) : ∀ (e : Nat) (s : σ), I e s → W (e + 1) e s := by
  intro e
  induction e with
  | zero => exact fun s h => hx 0 s h
  | succ e ih => exact fun s h => hs (e + 1) e s h (fun s' h' => ih s' h')
variable {xlim xps xvn xkc ev wa wm rf dp ea er lr lu lc ylim yend yans yrest ybeg yres yused ycalls yver ykept : Int32} {xop xnum len st vers evl xms own clr amt arg eg el pos hgt stk sst sev sw swm srf yop ybs cps old bef ywm wcp ecp mcp rcp yms ysf ycl yam yar ygv yel yat ytp : Nat → Int32}
variable {r0 : Int32} {st0 : Nat → Int32}
/-- between the messages: e energy is left, W wait -/
def ce_G (xlim xps xvn xkc lr lu ylim yres yused ycalls yver ykept : Int32) (xop xnum len vers yop ybs old bef : Nat → Int32) (e W : Nat) (u : SX) (v : SY) : Prop := ∃ (ev wm rf ea er lc : Int32) (st evl xms own clr amt arg eg el pos hgt stk sst sev sw swm srf : Nat → Int32), u = (xlim, xps, xvn, xkc, ev, nI W, wm, rf, 0, ea, er, lr, lu, lc, xop, xnum, len, st, vers, evl, xms, own, clr, amt, arg, eg, el, pos, hgt, stk, sst, sev, sw, swm, srf) ∧ ∃ (yend yans : Int32) (cps ywm wcp ecp mcp rcp yms ysf ycl yam yar ygv yel yat ytp : Nat → Int32), v = (ylim, ev, nI W, rf, 0, yend, yans, nI e, lc, yres, yused, ycalls, yver, ykept, yop, ybs, len, st, cps, old, bef, ywm, wcp, ecp, mcp, rcp, evl, yms, ysf, ycl, yam, yar, ygv, yel, yat, ytp, stk) ∧ ce_CO ev wm xop xnum yop ybs len st ywm xms yms W ∧ e + W ≤ 1000
def ce_ML (post : Int32 → SX → Prop) (n : Nat) (e k : Int32) (u : SX) : Prop := match u with
  | (xlim, xps, xvn, xkc, ev, wa, wm, rf, dp, ea, er, lr, lu, lc, xop, xnum, len, st, vers, evl, xms, own, clr, amt, arg, eg, el, pos, hgt, stk, sst, sev, sw, swm, srf) => wX_runMessages_4 post n e k xlim xps xvn xkc ev wa wm rf dp ea er lr lu lc xop xnum len st vers evl xms own clr amt arg eg el pos hgt stk sst sev sw swm srf
def ce_YM (post : Int32 → SY → Prop) (x4 x5 x6 : Int32) (n : Nat) (v : SY) : Prop := match v with
  | (ylim, ev, wa, rf, dp, yend, yans, yrest, ybeg, yres, yused, ycalls, yver, ykept, yop, ybs, len, st, cps, old, bef, ywm, wcp, ecp, mcp, rcp, evl, yms, ysf, ycl, yam, yar, ygv, yel, yat, ytp, stk) => wY_call_132 post x4 x5 x6 n (ylim) (ev) (wa) (rf) (dp) (yend) (yans) (yrest) (ybeg) (yres) (yused) (ycalls) (yver) (ykept) (yop) (ybs) (len) (st) (cps) (old) (bef) (ywm) (wcp) (ecp) (mcp) (rcp) (evl) (yms) (ysf) (ycl) (yam) (yar) (ygv) (yel) (yat) (ytp) (stk)
def ce_Y150 (post : Int32 → SY → Prop) (x4 x5 x6 : Int32) (v : SY) : Prop := match v with
  | (ylim, ev, wa, rf, dp, yend, yans, yrest, ybeg, yres, yused, ycalls, yver, ykept, yop, ybs, len, st, cps, old, bef, ywm, wcp, ecp, mcp, rcp, evl, yms, ysf, ycl, yam, yar, ygv, yel, yat, ytp, stk) => wY_call_150 post x4 x5 x6 (ylim) (ev) (wa) (rf) (dp) (yend) (yans) (yrest) (ybeg) (yres) (yused) (ycalls) (yver) (ykept) (yop) (ybs) (len) (st) (cps) (old) (bef) (ywm) (wcp) (ecp) (mcp) (rcp) (evl) (yms) (ysf) (ycl) (yam) (yar) (ygv) (yel) (yat) (ytp) (stk)
theorem ce_msg : ∀ (B : Nat) {e W : Nat} {u : SX} {v : SY}, ce_G xlim xps xvn xkc lr lu ylim yres yused ycalls yver ykept xop xnum len vers yop ybs old bef e W u v → e + W < B → ∃ e' u' v', ce_G xlim xps xvn xkc lr lu ylim yres yused ycalls yver ykept xop xnum len vers yop ybs old bef e' 0 u' v' ∧ (∀ (post : Int32 → SX → Prop) (n k : Nat), k + B ≤ 1000000 → B < n → post (nI e') u' → ce_ML post n (nI e) (nI k) u) ∧ (∀ (post : Int32 → SY → Prop) (x4 x5 x6 : Int32) (n : Nat), B < n → wpY_newVersion (ce_Y150 post x4 x5 x6) v' → ce_YM post x4 x5 x6 n v) := by
  intro B
  induction B with
  | zero => intro e W u v _ h; omega
  | succ B ih =>
    intro e W u v H hB
    obtain ⟨ev, wm, rf, ea, er, lc, st, evl, xms, own, clr, amt, arg, eg, el, pos, hgt, stk, sst, sev, sw, swm, srf, rfl, yend, yans, cps, ywm, wcp, ecp, mcp, rcp, yms, ysf, ycl, yam, yar, ygv, yel, yat, ytp, rfl, hCO, he⟩ := H
    cases W with
    | zero =>
      refine ⟨e, (xlim, xps, xvn, xkc, ev, nI 0, wm, rf, 0, ea, er, lr, lu, lc, xop, xnum, len, st, vers, evl, xms, own, clr, amt, arg, eg, el, pos, hgt, stk, sst, sev, sw, swm, srf), (ylim, ev, nI 0, rf, 0, yend, yans, nI e, lc, yres, yused, ycalls, yver, ykept, yop, ybs, len, st, cps, old, bef, ywm, wcp, ecp, mcp, rcp, evl, yms, ysf, ycl, yam, yar, ygv, yel, yat, ytp, stk), ⟨_, _, _, _, _, _, _, _, _, _, _, _, _, _, _, _, _, _, _, _, _, _, _, rfl, _, _, _, _, _, _, _, _, _, _, _, _, _, _, _, _, _, rfl, hCO, he⟩, ?_, ?_⟩
      · intro post n k hk hn hp
        obtain ⟨n', rfl⟩ : ∃ n', n = n' + 1 := ⟨n - 1, by omega⟩
        exact br_c (fun _ => hp) (fun _ => br_t (by decide) hp)
      · intro post x4 x5 x6 n hn hp
        obtain ⟨n', rfl⟩ : ∃ n', n = n' + 1 := ⟨n - 1, by omega⟩
        exact br_t (by decide) hp
    | succ W =>
      have hW6 : W + 1 ≤ 6 := hCO.2.1
      obtain ⟨⟨a, ha, ax, ay⟩, mx, ny, ⟨s, hs, sx, sy⟩⟩ := hCO.2.2.2.2.2 0 (by omega)
      have hCO1 : ce_CO ev wm xop xnum yop ybs len st ywm (ce_cp xms 0 20 (fun j => xms (j + 4))) (ce_cp yms 0 (4 * W) (fun j => yms (j + 4))) W := ⟨hCO.1, by omega, hCO.2.2.1, hCO.2.2.2.1, hCO.2.2.2.2.1, ce_MSdrop (by omega) hCO.2.2.2.2.2⟩
      have hcl : ce_CL (nI s) := Or.inr ⟨s, hs, rfl⟩
      by_cases hD : ce_DN st 0 (nI s) a (xms (4 * 0 + 1))
      · obtain ⟨e', u', v', hG, hx, hy⟩ := ih (e := e) (W := W) (u := (xlim, xps, xvn, xkc, ev, nI W, wm, rf, 0, ea, er, lr, lu, lc, xop, xnum, len, st, vers, evl, ce_cp xms 0 20 (fun j => xms (j + 4)), own, clr, amt, arg, eg, el, pos, hgt, stk, sst, sev, sw, swm, srf)) (v := (ylim, ev, nI W, rf, 0, 4, 0, nI e, lc, yres, yused, ycalls, yver, ykept, yop, ybs, len, st, cps, old, bef, ywm, wcp, ecp, mcp, rcp, evl, ce_cp yms 0 (4 * W) (fun j => yms (j + 4)), ysf, ycl, yam, yar, ygv, yel, yat, ytp, stk)) ⟨_, _, _, _, _, _, _, _, _, _, _, _, _, _, _, _, _, _, _, _, _, _, _, rfl, _, _, _, _, _, _, _, _, _, _, _, _, _, _, _, _, _, rfl, hCO1, by omega⟩ (by omega)
        refine ⟨e', u', v', hG, ?_, ?_⟩
        · intro post n k hk hn hp
          obtain ⟨n', rfl⟩ : ∃ n', n = n' + 1 := ⟨n - 1, by omega⟩
          exact br_f (nI_ge (b := 1000000) (by omega) (by decide)) (br_f (nI_nle (by omega) (by omega)) (nm_r ax (nm_e (nm_e (nm_r sx (xw_drop (xw_den (d := 0) (by omega) hcl ha (fun _ => br_f (by decide) (nm_r (nI_1 k) (hx post n' (k + 1) (by omega) (by omega) hp))) (fun z => absurd hD z))))))))
        · intro post x4 x5 x6 n hn hp
          obtain ⟨n', rfl⟩ : ∃ n', n = n' + 1 := ⟨n - 1, by omega⟩
          refine br_f (nI_nle (by omega) (by omega)) (yw_msg (by omega) ?_)
          rw [show yms 0 = nI a from ay, show yms 1 = xms (4 * 0 + 1) from mx.symm, show yms 3 = nI s from sy]
          exact yp_den hcl ha hCO.2.2.2.1 hD (hy post x4 x5 x6 n' (by omega) hp)
      · obtain ⟨e1, W1, u1, v1, hF, hw, px, py⟩ := ce_perf (lc := lc) (ar := xms (4 * 0 + 2)) (n := e) (rf := rf) hcl ha (by omega) hCO1 hD
        obtain ⟨ev1, wm1, rf1, ea1, er1, lc1, st1, evl1, xms1, own1, clr1, amt1, arg1, eg1, el1, pos1, hgt1, stk1, sst1, sev1, sw1, swm1, srf1, rfl, cps1, ywm1, wcp1, ecp1, mcp1, rcp1, yms1, ysf1, ycl1, yam1, yar1, ygv1, yel1, yat1, ytp1, rfl, hel1, hCO2, hr1⟩ := hF
        obtain ⟨e', u', v', hG, hx, hy⟩ := ih (e := e1) (W := W1) ⟨_, _, _, _, _, _, _, _, _, _, _, _, _, _, _, _, _, _, _, _, _, _, _, rfl, _, _, _, _, _, _, _, _, _, _, _, _, _, _, _, _, _, rfl, hCO2, by omega⟩ (by omega)
        refine ⟨e', u', v', hG, ?_, ?_⟩
        · intro post n k hk hn hp
          obtain ⟨n', rfl⟩ : ∃ n', n = n' + 1 := ⟨n - 1, by omega⟩
          exact br_f (nI_ge (b := 1000000) (by omega) (by decide)) (br_f (nI_nle (by omega) (by omega)) (nm_r ax (nm_e (nm_e (nm_r sx (xw_drop (xw_den (d := 0) (by omega) hcl ha (fun z => absurd z hD) (fun _ => br_t rfl (px _ (nm_r (nI_1 k) (hx post n' (k + 1) (by omega) (by omega) hp)))))))))))
        · intro post x4 x5 x6 n hn hp
          obtain ⟨n', rfl⟩ : ∃ n', n = n' + 1 := ⟨n - 1, by omega⟩
          refine br_f (nI_nle (by omega) (by omega)) (yw_msg (by omega) ?_)
          rw [show yms 0 = nI a from ay, show yms 1 = xms (4 * 0 + 1) from mx.symm, show yms 2 = xms (4 * 0 + 2) from ny.symm, show yms 3 = nI s from sy]
          exact py _ (hy post x4 x5 x6 n' (by omega) hp)
/-! versions -/
def ce_VR (p K : Nat) (vers st old : Nat → Int32) : Prop := p < 7 ∧ K ≤ 6 ∧ (∀ j, j < 30 → vers (30 * p + j) = st j) ∧ (∀ n, n < K → ∀ j, j < 30 → vers (30 * ((p + 6 - n) % 7) + j) = old (30 * n + j)) ∧ (∀ n, n < K → ce_BL (fun j => old (30 * n + j)))
def ce_k1 (K : Nat) : Nat := if 6 ≤ K then K else K + 1
def ce_ov (old bef : Nat → Int32) : Nat → Int32 := ce_cp (fun j => if 29 < j ∧ j < 180 then old (j - 30) else old j) 0 30 bef
theorem ce_ov0 {j : Nat} (h : j < 30) : ce_ov old bef j = bef j := ce_cpi0 h
theorem ce_ov1 {j : Nat} (h1 : 30 ≤ j) (h2 : j < 180) : ce_ov old bef j = old (j - 30) := by
  unfold ce_ov
  rw [ce_cpo (by omega)]
  exact if_pos (by omega)
theorem ce_VRadd {p K : Nat} {st' : Nat → Int32} (h : ce_VR p K vers st old) (hB : ce_BL st) (hb : ∀ j, j < 30 → bef j = st j) : ce_VR ((p + 1) % 7) (ce_k1 K) (ce_cp vers (30 * ((p + 1) % 7)) 30 st') st' (ce_ov old bef) := by
  obtain ⟨h1, h2, h3, h4, h5⟩ := h
  have hk : ce_k1 K ≤ 6 ∧ ce_k1 K ≤ K + 1 := by
    unfold ce_k1
    by_cases z : 6 ≤ K
    · rw [if_pos z]; omega
    · rw [if_neg z]; omega
  refine ⟨by omega, hk.1, fun j hj => ce_cpi' hj, ?_, ?_⟩
  · intro n hn j hj
    rw [ce_cpo (by omega)]
    cases n with
    | zero =>
      rw [show ((p + 1) % 7 + 6 - 0) % 7 = p by omega, show 30 * 0 + j = j by omega, ce_ov0 hj, h3 j hj, hb j hj]
    | succ n =>
      rw [show ((p + 1) % 7 + 6 - (n + 1)) % 7 = (p + 6 - n) % 7 by omega, ce_ov1 (by omega) (by omega), show 30 * (n + 1) + j - 30 = 30 * n + j by omega]
      exact h4 n (by omega) j hj
  · intro n hn
    cases n with
    | zero => exact ce_BLc hB (fun j hj => by rw [show 30 * 0 + j = j by omega, ce_ov0 hj, hb j hj])
    | succ n => exact ce_BLc (h5 n (by omega)) (fun j hj => by rw [ce_ov1 (by omega) (by omega), show 30 * (n + 1) + j - 30 = 30 * n + j by omega])
theorem xw_addv {post : SX → Prop} {p K : Nat} (hp7 : p < 7) (hK : K ≤ 6) (hp : post (xlim, nI ((p + 1) % 7), xvn + 1, nI (ce_k1 K), ev, wa, wm, rf, dp, ea, er, lr, lu, lc, xop, xnum, len, st, ce_cp vers (30 * ((p + 1) % 7)) 30 st, evl, xms, own, clr, amt, arg, eg, el, pos, hgt, stk, sst, sev, sw, swm, srf)) : wpX_addVersion post (xlim, nI p, xvn, nI K, ev, wa, wm, rf, dp, ea, er, lr, lu, lc, xop, xnum, len, st, vers, evl, xms, own, clr, amt, arg, eg, el, pos, hgt, stk, sst, sev, sw, swm, srf) := by
  unfold wpX_addVersion
  refine ⟨by decide, nm_r (show (nI p + 1) - (nI p + 1) / 7 * 7 = nI ((p + 1) % 7) from by rw [nI_1]; exact pk_rem (by omega) (by decide) (by decide)) ?_⟩
  refine loop_0 (fun n i s => wX_addVersion_15 post (xlim) (nI ((p + 1) % 7)) (xvn) (nI K) (ev) (wa) (wm) (rf) (dp) (ea) (er) (lr) (lu) (lc) n (nI i) (xop) (xnum) (len) (st) (s) (evl) (xms) (own) (clr) (amt) (arg) (eg) (el) (pos) (hgt) (stk) (sst) (sev) (sw) (swm) (srf)) (fun i s => s = ce_cp vers (30 * ((p + 1) % 7)) i st) 30 vers (ce_cp0 _ _ _).symm ?_ ?_
  · intro n s e
    subst e
    unfold ce_k1 at hp
    refine br_t (by decide) (nm_e (pk_le 6 K (fun z => ?_) (fun z => ?_)))
    · rw [if_pos z] at hp; exact hp
    · rw [if_neg (by omega)] at hp; exact nm_r (nI_1 K) hp
  · intro n i s hi e H
    subst e
    refine br_f (nI_ge (b := 30) hi (by decide)) ?_
    rw [ce_mR30, nI_add, ce_cl (t := i) (by omega), ce_cl (t := 30 * ((p + 1) % 7) + i) (by omega), nI_1 i]
    exact ⟨ce_in (by omega), ce_in (by omega), nm_r (ce_cps _ _ _ _) (nm_e (H _ rfl))⟩
theorem yw_newv {post : SY → Prop} {K : Nat} (hK : K ≤ 6) (hp : post (ylim, ev, wa, rf, dp, yend, yans, yrest, ybeg, yres, yused, ycalls, yver + 1, nI (ce_k1 K), yop, ybs, len, st, cps, ce_ov old bef, bef, ywm, wcp, ecp, mcp, rcp, evl, yms, ysf, ycl, yam, yar, ygv, yel, yat, ytp, stk)) : wpY_newVersion post (ylim, ev, wa, rf, dp, yend, yans, yrest, ybeg, yres, yused, ycalls, yver, nI K, yop, ybs, len, st, cps, old, bef, ywm, wcp, ecp, mcp, rcp, evl, yms, ysf, ycl, yam, yar, ygv, yel, yat, ytp, stk) := by
  unfold wpY_newVersion
  refine ⟨151, pk_loopD (fun n i s => wY_newVersion_4 post (ylim) (ev) (wa) (rf) (dp) (yend) (yans) (yrest) (ybeg) (yres) (yused) (ycalls) (yver) (nI K) n (nI (i + 29)) (yop) (ybs) (len) (st) (cps) (s) (bef) (ywm) (wcp) (ecp) (mcp) (rcp) (evl) (yms) (ysf) (ycl) (yam) (yar) (ygv) (yel) (yat) (ytp) (stk)) (fun i s => i ≤ 150 ∧ s = fun j => if i + 29 < j ∧ j < 180 then old (j - 30) else old j) ?_ ?_ 150 old ⟨by omega, ?_⟩⟩
  · intro n s e
    obtain ⟨_, rfl⟩ := e
    refine br_t (by decide) ?_
    refine loop_0 (fun n i s => wY_newVersion_33 post (ylim) (ev) (wa) (rf) (dp) (yend) (yans) (yrest) (ybeg) (yres) (yused) (ycalls) (yver) (nI K) n (nI i) (yop) (ybs) (len) (st) (cps) (s) (bef) (ywm) (wcp) (ecp) (mcp) (rcp) (evl) (yms) (ysf) (ycl) (yam) (yar) (ygv) (yel) (yat) (ytp) (stk)) (fun i s => s = ce_cp (fun j => if 29 < j ∧ j < 180 then old (j - 30) else old j) 0 i bef) 30 _ ?_ ?_ ?_
    · exact (ce_cp0 _ _ _).symm
    · intro n s e
      subst e
      unfold ce_k1 at hp
      refine br_t (by decide) (nm_e (pk_le 6 K (fun z => ?_) (fun z => ?_)))
      · rw [if_pos z] at hp; exact hp
      · rw [if_neg (by omega)] at hp; exact nm_r (nI_1 K) hp
    · intro n i s hi e H
      subst e
      refine br_f (nI_ge (b := 30) hi (by decide)) ?_
      rw [ce_cl (t := i) (by omega), nI_1 i]
      exact ⟨ce_in (by omega), ce_in (by omega), nm_r (ce_cps0 _ _ _) (nm_e (H _ rfl))⟩
  · intro n i s e H
    obtain ⟨hi, rfl⟩ := e
    have e1 : i + 1 + 29 = i + 30 := by omega
    rw [e1]
    refine br_f (nI_nlt (b := 30) (by omega) (by omega)) ?_
    rw [ce_s30, ce_cl (t := i) (by omega), ce_cl (t := i + 30) (by omega), show nI (i + 30) + (-1) = nI (i + 29) from pk_m1 (i + 29)]
    refine ⟨ce_in (by omega), ce_in (by omega), nm_e (nm_e (H _ ⟨by omega, ?_⟩))⟩
    funext j
    unfold upd
    by_cases z : j = i + 30
    · subst z
      rw [if_pos rfl]
      dsimp only
      rw [if_neg (by omega), if_pos (by omega)]; exact congrArg old (by omega)
    · rw [if_neg z]
      dsimp only
      by_cases z2 : i + 30 < j ∧ j < 180
      · rw [if_pos z2, if_pos (by omega)]
      · rw [if_neg z2, if_neg (by omega)]
  · funext j
    rw [if_neg (by omega)]
end
