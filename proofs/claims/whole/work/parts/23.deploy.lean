theorem i_vc_deploy {k : Nat} {u : SX} {v : SY} (I : i_Rel k u v) (hk : k + 5 ≤ 2561) (v1 : Int32) : wpX_deploy (fun r u' => wpY_deploy (fun r' v' => r' = r ∧ i_Rel (k + 5) u' v') v v1) u v1 := by
  obtain ⟨l, p, K, E, xvn, wa, wm, rf, ea, er, lr, lu, lc, xop, xnum, len, st, vers, evl, xms, own, clr, amt, arg, eg, el, pos, hgt, stk, sst, sev, sw, swm, srf, rfl, ywa, yrf, ydp, yend, yans, yrest, ybeg, yop, ybs, cps, old, bef, ywm, wcp, ecp, mcp, rcp, yms, ysf, ycl, yam, yar, ygv, yel, yat, ytp, rfl, hl, hE, hPG, hBL, hVR⟩ := I
  obtain ⟨L, hL4, hL, hp6⟩ := hPG 6 (by omega)
  have fin : ∀ x : Int32, (v1 < 0 ∨ nI 6 ≤ v1) → wpX_deploy (fun r u' => wpY_deploy (fun r' v' => r' = r ∧ i_Rel (k + 5) u' v') (nI l, nI E, ywa, yrf, ydp, yend, yans, yrest, ybeg, lr, lu, lc, xvn, nI K, yop, ybs, len, st, cps, old, bef, ywm, wcp, ecp, mcp, rcp, evl, yms, ysf, ycl, yam, yar, ygv, yel, yat, ytp, stk) v1) (nI l, nI p, xvn, nI K, nI E, wa, wm, rf, 0, ea, er, lr, lu, lc, xop, xnum, len, st, vers, evl, xms, own, clr, amt, arg, eg, el, pos, hgt, stk, sst, sev, sw, swm, srf) v1 := by
    intro _ z
    unfold wpX_deploy
    refine nm_e (nm_e (xw_accF z (br_t rfl ?_)))
    unfold wpY_deploy
    exact nm_e (nm_e (yw_accF z (br_t rfl ⟨rfl, l, p, K, E, _, _, _, _, _, _, _, _, _, _, _, _, _, _, _, _, _, _, _, _, _, _, _, _, _, _, _, _, _, _, rfl, _, _, _, _, _, _, _, _, _, _, _, _, _, _, _, _, _, _, _, _, _, _, _, _, _, _, rfl, hl, hE, ce_PG0 hPG, hBL, hVR⟩)))
  rcases pk_ix v1 (n := 6) (by decide) with z | z | ⟨a, ha, rfl⟩
  · exact fin 0 (Or.inl z)
  · exact fin 0 (Or.inr z)
  · by_cases h0 : L = 0
    · subst h0
      unfold wpX_deploy
      refine nm_r hL (nm_e (xw_accT ha (br_f (by decide) (br_t rfl ?_))))
      unfold wpY_deploy
      exact nm_r hL (nm_e (yw_accT ha (br_f (by decide) (br_t rfl ⟨rfl, l, p, K, E, _, _, _, _, _, _, _, _, _, _, _, _, _, _, _, _, _, _, _, _, _, _, _, _, _, _, _, _, _, _, rfl, _, _, _, _, _, _, _, _, _, _, _, _, _, _, _, _, _, _, _, _, _, _, _, _, _, _, rfl, hl, hE, ce_PG0 hPG, hBL, hVR⟩))))
    · refine xw_dep ha hL (by omega) hL4 (yw_dep ha hL (by omega) hL4 (fun i hi => ?_) ⟨rfl, l, p, K, E, _, _, _, _, _, _, _, _, _, _, _, _, _, _, _, _, _, _, _, _, _, _, _, _, _, _, _, _, _, _, rfl, _, _, _, _, _, _, _, _, _, _, _, _, _, _, _, _, _, _, _, _, _, _, _, _, _, _, rfl, hl, hE, ce_PGdep hPG ha hL hL4, hBL, hVR⟩)
      obtain ⟨⟨q, hq, _, hy⟩, _⟩ := hp6 i hi
      exact ⟨q, hq, hy⟩
