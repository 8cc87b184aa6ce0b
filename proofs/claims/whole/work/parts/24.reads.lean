theorem i_vc_result {k : Nat} {u : SX} {v : SY} (I : i_Rel k u v) (hk : k + 5 ≤ 2561) : wpX_result (fun r => wpY_result (fun r' => r' = r ∧ i_Rel (k + 5) u v) v) u := by
  have I2 : i_Rel (k + 5) u v := I
  obtain ⟨l, p, K, E, xvn, wa, wm, rf, ea, er, lr, lu, lc, xop, xnum, len, st, vers, evl, xms, own, clr, amt, arg, eg, el, pos, hgt, stk, sst, sev, sw, swm, srf, rfl, ywa, yrf, ydp, yend, yans, yrest, ybeg, yop, ybs, cps, old, bef, ywm, wcp, ecp, mcp, rcp, yms, ysf, ycl, yam, yar, ygv, yel, yat, ytp, rfl, hl, hE, hPG, hBL, hVR⟩ := I
  exact ⟨rfl, I2⟩
theorem i_vc_used {k : Nat} {u : SX} {v : SY} (I : i_Rel k u v) (hk : k + 5 ≤ 2561) : wpX_used (fun r => wpY_used (fun r' => r' = r ∧ i_Rel (k + 5) u v) v) u := by
  have I2 : i_Rel (k + 5) u v := I
  obtain ⟨l, p, K, E, xvn, wa, wm, rf, ea, er, lr, lu, lc, xop, xnum, len, st, vers, evl, xms, own, clr, amt, arg, eg, el, pos, hgt, stk, sst, sev, sw, swm, srf, rfl, ywa, yrf, ydp, yend, yans, yrest, ybeg, yop, ybs, cps, old, bef, ywm, wcp, ecp, mcp, rcp, yms, ysf, ycl, yam, yar, ygv, yel, yat, ytp, rfl, hl, hE, hPG, hBL, hVR⟩ := I
  exact ⟨rfl, I2⟩
theorem i_vc_calls {k : Nat} {u : SX} {v : SY} (I : i_Rel k u v) (hk : k + 5 ≤ 2561) : wpX_calls (fun r => wpY_calls (fun r' => r' = r ∧ i_Rel (k + 5) u v) v) u := by
  have I2 : i_Rel (k + 5) u v := I
  obtain ⟨l, p, K, E, xvn, wa, wm, rf, ea, er, lr, lu, lc, xop, xnum, len, st, vers, evl, xms, own, clr, amt, arg, eg, el, pos, hgt, stk, sst, sev, sw, swm, srf, rfl, ywa, yrf, ydp, yend, yans, yrest, ybeg, yop, ybs, cps, old, bef, ywm, wcp, ecp, mcp, rcp, yms, ysf, ycl, yam, yar, ygv, yel, yat, ytp, rfl, hl, hE, hPG, hBL, hVR⟩ := I
  exact ⟨rfl, I2⟩
theorem i_vc_events {k : Nat} {u : SX} {v : SY} (I : i_Rel k u v) (hk : k + 5 ≤ 2561) : wpX_events (fun r => wpY_events (fun r' => r' = r ∧ i_Rel (k + 5) u v) v) u := by
  have I2 : i_Rel (k + 5) u v := I
  obtain ⟨l, p, K, E, xvn, wa, wm, rf, ea, er, lr, lu, lc, xop, xnum, len, st, vers, evl, xms, own, clr, amt, arg, eg, el, pos, hgt, stk, sst, sev, sw, swm, srf, rfl, ywa, yrf, ydp, yend, yans, yrest, ybeg, yop, ybs, cps, old, bef, ywm, wcp, ecp, mcp, rcp, yms, ysf, ycl, yam, yar, ygv, yel, yat, ytp, rfl, hl, hE, hPG, hBL, hVR⟩ := I
  exact ⟨rfl, I2⟩
theorem i_vc_version {k : Nat} {u : SX} {v : SY} (I : i_Rel k u v) (hk : k + 5 ≤ 2561) : wpX_version (fun r => wpY_version (fun r' => r' = r ∧ i_Rel (k + 5) u v) v) u := by
  have I2 : i_Rel (k + 5) u v := I
  obtain ⟨l, p, K, E, xvn, wa, wm, rf, ea, er, lr, lu, lc, xop, xnum, len, st, vers, evl, xms, own, clr, amt, arg, eg, el, pos, hgt, stk, sst, sev, sw, swm, srf, rfl, ywa, yrf, ydp, yend, yans, yrest, ybeg, yop, ybs, cps, old, bef, ywm, wcp, ecp, mcp, rcp, yms, ysf, ycl, yam, yar, ygv, yel, yat, ytp, rfl, hl, hE, hPG, hBL, hVR⟩ := I
  exact ⟨rfl, I2⟩
theorem i_vc_kept {k : Nat} {u : SX} {v : SY} (I : i_Rel k u v) (hk : k + 5 ≤ 2561) : wpX_kept (fun r => wpY_kept (fun r' => r' = r ∧ i_Rel (k + 5) u v) v) u := by
  have I2 : i_Rel (k + 5) u v := I
  obtain ⟨l, p, K, E, xvn, wa, wm, rf, ea, er, lr, lu, lc, xop, xnum, len, st, vers, evl, xms, own, clr, amt, arg, eg, el, pos, hgt, stk, sst, sev, sw, swm, srf, rfl, ywa, yrf, ydp, yend, yans, yrest, ybeg, yop, ybs, cps, old, bef, ywm, wcp, ecp, mcp, rcp, yms, ysf, ycl, yam, yar, ygv, yel, yat, ytp, rfl, hl, hE, hPG, hBL, hVR⟩ := I
  exact ⟨rfl, I2⟩
