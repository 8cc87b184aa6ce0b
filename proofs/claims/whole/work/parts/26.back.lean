theorem i_vc_back {k : Nat} {u : SX} {v : SY} (I : i_Rel k u v) (hk : k + 5 ≤ 2561) (v1 : Int32) : wpX_back (fun r u' => wpY_back (fun r' v' => r' = r ∧ i_Rel (k + 5) u' v') v v1) u v1 := by
  have I2 : i_Rel (k + 5) u v := I
  obtain ⟨l, p, K, E, xvn, wa, wm, rf, ea, er, lr, lu, lc, xop, xnum, len, st, vers, evl, xms, own, clr, amt, arg, eg, el, pos, hgt, stk, sst, sev, sw, swm, srf, rfl, ywa, yrf, ydp, yend, yans, yrest, ybeg, yop, ybs, cps, old, bef, ywm, wcp, ecp, mcp, rcp, yms, ysf, ycl, yam, yar, ygv, yel, yat, ytp, rfl, hl, hE, hPG, hBL, hVR⟩ := I
  have hK6 := hVR.2.1
  by_cases h1 : v1 < 1
  · unfold wpX_back wpY_back
    exact br_t h1 (br_t h1 ⟨rfl, I2⟩)
  by_cases h2 : v1 ≤ nI K
  · obtain ⟨n, hn, rfl⟩ := nI_of2 (n := K) (nI_toInt (by omega)) (fun z => h1 (Int32.lt_trans z (by decide))) h2
    have hn1 : 1 ≤ n := by
      have := mt (nI_ltI (a := n) (b := 1) (by omega) (by omega)).mpr h1
      omega
    refine xw_bck hVR.1 hn1 hn hK6 (yw_bck hn1 hn hK6 ?_)
    have e : ce_cp st 0 30 (fun j => old (30 * (n - 1) + j)) = ce_cp st 0 30 (fun j => vers (30 * ((p + 7 - n) % 7) + j)) := ce_cpc (fun j hj => by
      rw [ce_VRpv hVR hn hj]
      unfold ce_pv
      rw [if_neg (by omega)])
    rw [e]
    have V2 := ce_VRbck hVR hn1 hn
    refine ⟨rfl, l, (p + 7 - n) % 7, K - n, E, _, _, _, _, _, _, _, _, _, _, _, _, _, _, _, _, _, _, _, _, _, _, _, _, _, _, _, _, _, _, rfl, _, _, _, _, _, _, _, _, _, _, _, _, _, _, _, _, _, _, _, _, _, _, _, _, _, _, rfl, hl, hE, hPG, ?_, V2⟩
    rw [← e]
    exact ce_BLc (hVR.2.2.2.2 (n - 1) (by omega)) (fun j hj => ce_cpi0 hj)
  · unfold wpX_back wpY_back
    exact br_f h1 (br_f h2 (br_f h1 (br_f h2 ⟨rfl, I2⟩)))
