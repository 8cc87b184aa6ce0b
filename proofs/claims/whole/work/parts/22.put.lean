theorem i_vc_put {k : Nat} {u : SX} {v : SY} (I : i_Rel k u v) (hk : k + 5 ≤ 2561) (v1 : Int32) (v2 : Int32) : wpX_put (fun r u' => wpY_put (fun r' v' => r' = r ∧ i_Rel (k + 5) u' v') v v1 v2) u v1 v2 := by
  have I2 : i_Rel (k + 5) u v := I
  obtain ⟨l, p, K, E, xvn, wa, wm, rf, ea, er, lr, lu, lc, xop, xnum, len, st, vers, evl, xms, own, clr, amt, arg, eg, el, pos, hgt, stk, sst, sev, sw, swm, srf, rfl, ywa, yrf, ydp, yend, yans, yrest, ybeg, yop, ybs, cps, old, bef, ywm, wcp, ecp, mcp, rcp, yms, ysf, ycl, yam, yar, ygv, yel, yat, ytp, rfl, hl, hE, hPG, hBL, hVR⟩ := I
  obtain ⟨L, hL4, hL, _⟩ := hPG 6 (by omega)
  unfold wpX_put
  refine nm_r hL ?_
  rcases pk_ix v1 (n := 24) (by decide) with z | z | ⟨j, hj, rfl⟩
  · refine br_t z ?_
    unfold wpY_put
    exact br_t z ⟨rfl, I2⟩
  · have z0 : ¬ v1 < 0 := fun w => absurd (Int32.lt_of_le_of_lt z w) (by decide)
    have z23 : 23 < v1 := Int32.lt_of_lt_of_le (by decide) z
    refine br_f z0 (br_t z23 ?_)
    unfold wpY_put
    exact br_f z0 (br_t z23 ⟨rfl, I2⟩)
  · have z0 : ¬ nI j < 0 := nI_pos (by omega)
    have z23 : ¬ 23 < nI j := nI_nlt (a := 23) (by omega) (by decide)
    refine br_f z0 (br_f z23 (pk_lt L 24 (fun q => ?_) (fun q => ?_)))
    · rw [ce_144, ce_cl (by omega), nI_1]
      refine ⟨ce_in (by omega), nm_e ⟨ce_in (by omega), nm_e (nm_e ?_)⟩⟩
      unfold wpY_put
      refine br_f z0 (br_f z23 ?_)
      rw [hL, ce_144, ce_cl (by omega), nI_1, pk_vb, ce_by j hj]
      exact pk_eq L 24 (fun q2 => absurd q2 (by omega)) (fun _ => ⟨ce_in (by omega), nm_e (nm_e ⟨ce_in (by omega), nm_e ⟨pk_us, l, p, K, E, _, _, _, _, _, _, _, _, _, _, _, _, _, _, _, _, _, _, _, _, _, _, _, _, _, _, _, _, _, _, rfl, _, _, _, _, _, _, _, _, _, _, _, _, _, _, _, _, _, _, _, _, _, _, _, _, _, _, rfl, hl, hE, ce_PGput hPG hL q hj, hBL, hVR⟩⟩)⟩)
    · unfold wpY_put
      refine br_f z0 (br_f z23 ?_)
      rw [hL]
      exact pk_eq L 24 (fun _ => ⟨rfl, I2⟩) (fun n => absurd (show L = 24 by omega) n)
