theorem ce_cases {C : SX → SY → Prop} {k : Nat} {u : SX} {v : SY} (I : i_Rel k u v) (H : ∀ (l p K E : Nat) (xvn wa wm rf ea er lr lu lc : Int32) (xop xnum len st vers evl xms own clr amt arg eg el pos hgt stk sst sev sw swm srf : Nat → Int32) (ywa yrf ydp yend yans yrest ybeg : Int32) (yop ybs cps old bef ywm wcp ecp mcp rcp yms ysf ycl yam yar ygv yel yat ytp : Nat → Int32), l ≤ 400 → E ≤ 20 → ce_PG xop xnum yop ybs len → ce_BL st → ce_VR p K vers st old → i_Rel k (nI l, nI p, xvn, nI K, nI E, wa, wm, rf, 0, ea, er, lr, lu, lc, xop, xnum, len, st, vers, evl, xms, own, clr, amt, arg, eg, el, pos, hgt, stk, sst, sev, sw, swm, srf) (nI l, nI E, ywa, yrf, ydp, yend, yans, yrest, ybeg, lr, lu, lc, xvn, nI K, yop, ybs, len, st, cps, old, bef, ywm, wcp, ecp, mcp, rcp, evl, yms, ysf, ycl, yam, yar, ygv, yel, yat, ytp, stk) → C (nI l, nI p, xvn, nI K, nI E, wa, wm, rf, 0, ea, er, lr, lu, lc, xop, xnum, len, st, vers, evl, xms, own, clr, amt, arg, eg, el, pos, hgt, stk, sst, sev, sw, swm, srf) (nI l, nI E, ywa, yrf, ydp, yend, yans, yrest, ybeg, lr, lu, lc, xvn, nI K, yop, ybs, len, st, cps, old, bef, ywm, wcp, ecp, mcp, rcp, evl, yms, ysf, ycl, yam, yar, ygv, yel, yat, ytp, stk)) : C u v := by
  have I2 := I
  obtain ⟨l, p, K, E, xvn, wa, wm, rf, ea, er, lr, lu, lc, xop, xnum, len, st, vers, evl, xms, own, clr, amt, arg, eg, el, pos, hgt, stk, sst, sev, sw, swm, srf, rfl, ywa, yrf, ydp, yend, yans, yrest, ybeg, yop, ybs, cps, old, bef, ywm, wcp, ecp, mcp, rcp, yms, ysf, ycl, yam, yar, ygv, yel, yat, ytp, rfl, hl, hE, hPG, hBL, hVR⟩ := I
  exact H _ _ _ _ _ _ _ _ _ _ _ _ _ _ _ _ _ _ _ _ _ _ _ _ _ _ _ _ _ _ _ _ _ _ _ _ _ _ _ _ _ _ _ _ _ _ _ _ _ _ _ _ _ _ _ _ _ _ _ _ hl hE hPG hBL hVR I2
theorem ce_init (l : Nat) (hl : l ≤ 400) : i_Rel 1 (nI l, 0, 0, 0, 0, 0, 0, 0, 0, 0, 0, 0, 0, 0, (fun _ => 0), (fun _ => 0), (fun _ => 0), (fun _ => 0), (fun _ => 0), (fun _ => 0), (fun _ => 0), (fun _ => 0), (fun _ => 0), (fun _ => 0), (fun _ => 0), (fun _ => 0), (fun _ => 0), (fun _ => 0), (fun _ => 0), (fun _ => 0), (fun _ => 0), (fun _ => 0), (fun _ => 0), (fun _ => 0), (fun _ => 0)) (nI l, 0, 0, 0, 0, 0, 0, 0, 0, 0, 0, 0, 0, 0, (fun _ => 0), (fun _ => 0), (fun _ => 0), (fun _ => 0), (fun _ => 0), (fun _ => 0), (fun _ => 0), (fun _ => 0), (fun _ => 0), (fun _ => 0), (fun _ => 0), (fun _ => 0), (fun _ => 0), (fun _ => 0), (fun _ => 0), (fun _ => 0), (fun _ => 0), (fun _ => 0), (fun _ => 0), (fun _ => 0), (fun _ => 0), (fun _ => 0), (fun _ => 0)) :=
  ⟨l, 0, 0, 0, _, _, _, _, _, _, _, _, _, _, _, _, _, _, _, _, _, _, _, _, _, _, _, _, _, _, _, _, _, _, rfl, _, _, _, _, _, _, _, _, _, _, _, _, _, _, _, _, _, _, _, _, _, _, _, _, _, _, rfl, hl, by omega, fun _ _ => ⟨0, by omega, rfl, fun i hi => absurd hi (by omega)⟩, fun _ _ => ⟨0, by omega, rfl⟩, by omega, by omega, fun _ _ => rfl, fun n hn => absurd hn (by omega), fun n hn => absurd hn (by omega)⟩
theorem i_vc0 (k0 : Int32) : wpX_init (fun u => wpY_init (fun v => i_Rel 1 u v) k0) k0 := by
  unfold wpX_init wpY_init
  by_cases h : 20 ≤ k0
  · by_cases h2 : k0 ≤ 400
    · obtain ⟨l, hl, rfl⟩ := nI_of2 (M := 400) (n := 400) (by decide) (fun z => absurd (Int32.lt_of_le_of_lt h z) (by decide)) h2
      exact br_t h (br_t h2 (br_t h (br_t h2 (ce_init l hl))))
    · exact br_t h (br_f h2 (br_t h (br_f h2 (ce_init 400 (by omega)))))
  · exact br_f h (br_f h (ce_init 20 (by omega)))
theorem i_vc_put {k : Nat} {u : SX} {v : SY} (I : i_Rel k u v) (hk : k + 5 ≤ 2561) (v1 : Int32) (v2 : Int32) : wpX_put (fun r u' => wpY_put (fun r' v' => r' = r ∧ i_Rel (k + 5) u' v') v v1 v2) u v1 v2 := by
  refine ce_cases (C := fun u v => wpX_put (fun r u' => wpY_put (fun r' v' => r' = r ∧ i_Rel (k + 5) u' v') v v1 v2) u v1 v2) (show i_Rel (k + 5) u v from I) ?_
  intro l p K E xvn wa wm rf ea er lr lu lc xop xnum len st vers evl xms own clr amt arg eg el pos hgt stk sst sev sw swm srf ywa yrf ydp yend yans yrest ybeg yop ybs cps old bef ywm wcp ecp mcp rcp yms ysf ycl yam yar ygv yel yat ytp hl hE hPG hBL hVR I2
  obtain ⟨L, hL4, hL, _⟩ := hPG 6 (by omega)
  unfold wpX_put
  refine nm_r hL ?_
  rcases pk_ix v1 (n := 24) (by decide) with z | z | ⟨j, hj, rfl⟩
  · refine br_t z ?_
    unfold wpY_put
    exact br_t z ⟨rfl, I2⟩
  · have z0 : ¬ v1 < 0 := fun w => absurd (Int32.lt_of_le_of_lt z w) (by decide)
    have z23 : 23 < v1 := Int32.lt_of_lt_of_le (by decide) z
    refine br_f z0 (br_t z23 ?_)
    unfold wpY_put
    exact br_f z0 (br_t z23 ⟨rfl, I2⟩)
  · have z0 : ¬ nI j < 0 := nI_pos (by omega)
    have z23 : ¬ 23 < nI j := nI_nlt (a := 23) (by omega) (by decide)
    refine br_f z0 (br_f z23 (pk_lt L 24 (fun q => ?_) (fun q => ?_)))
    · rw [ce_144, ce_cl (by omega), nI_1]
      refine ⟨ce_in (by omega), nm_e ⟨ce_in (by omega), nm_e (nm_e ?_)⟩⟩
      unfold wpY_put
      refine br_f z0 (br_f z23 ?_)
      rw [hL, ce_144, ce_cl (by omega), nI_1, pk_vb, ce_by j hj]
      exact pk_eq L 24 (fun q2 => absurd q2 (by omega)) (fun _ => ⟨ce_in (by omega), nm_e (nm_e ⟨ce_in (by omega), nm_e ⟨pk_us, l, p, K, E, _, _, _, _, _, _, _, _, _, _, _, _, _, _, _, _, _, _, _, _, _, _, _, _, _, _, _, _, _, _, rfl, _, _, _, _, _, _, _, _, _, _, _, _, _, _, _, _, _, _, _, _, _, _, _, _, _, _, rfl, hl, hE, ce_PGput hPG hL q hj, hBL, hVR⟩⟩)⟩)
    · unfold wpY_put
      refine br_f z0 (br_f z23 ?_)
      rw [hL]
      exact pk_eq L 24 (fun _ => ⟨rfl, I2⟩) (fun n => absurd (show L = 24 by omega) n)
theorem i_vc_deploy {k : Nat} {u : SX} {v : SY} (I : i_Rel k u v) (hk : k + 5 ≤ 2561) (v1 : Int32) : wpX_deploy (fun r u' => wpY_deploy (fun r' v' => r' = r ∧ i_Rel (k + 5) u' v') v v1) u v1 := by
  refine ce_cases (C := fun u v => wpX_deploy (fun r u' => wpY_deploy (fun r' v' => r' = r ∧ i_Rel (k + 5) u' v') v v1) u v1) (show i_Rel (k + 5) u v from I) ?_
  intro l p K E xvn wa wm rf ea er lr lu lc xop xnum len st vers evl xms own clr amt arg eg el pos hgt stk sst sev sw swm srf ywa yrf ydp yend yans yrest ybeg yop ybs cps old bef ywm wcp ecp mcp rcp yms ysf ycl yam yar ygv yel yat ytp hl hE hPG hBL hVR I2
  obtain ⟨L, hL4, hL, hp6⟩ := hPG 6 (by omega)
  have fin : ∀ x : Int32, (v1 < 0 ∨ nI 6 ≤ v1) → wpX_deploy (fun r u' => wpY_deploy (fun r' v' => r' = r ∧ i_Rel (k + 5) u' v') (nI l, nI E, ywa, yrf, ydp, yend, yans, yrest, ybeg, lr, lu, lc, xvn, nI K, yop, ybs, len, st, cps, old, bef, ywm, wcp, ecp, mcp, rcp, evl, yms, ysf, ycl, yam, yar, ygv, yel, yat, ytp, stk) v1) (nI l, nI p, xvn, nI K, nI E, wa, wm, rf, 0, ea, er, lr, lu, lc, xop, xnum, len, st, vers, evl, xms, own, clr, amt, arg, eg, el, pos, hgt, stk, sst, sev, sw, swm, srf) v1 := by
    intro _ z
    unfold wpX_deploy
    refine nm_e (nm_e (xw_accF z (br_t rfl ?_)))
    unfold wpY_deploy
    exact nm_e (nm_e (yw_accF z (br_t rfl ⟨rfl, l, p, K, E, _, _, _, _, _, _, _, _, _, _, _, _, _, _, _, _, _, _, _, _, _, _, _, _, _, _, _, _, _, _, rfl, _, _, _, _, _, _, _, _, _, _, _, _, _, _, _, _, _, _, _, _, _, _, _, _, _, _, rfl, hl, hE, ce_PG0 hPG, hBL, hVR⟩)))
  rcases pk_ix v1 (n := 6) (by decide) with z | z | ⟨a, ha, rfl⟩
  · exact fin 0 (Or.inl z)
  · exact fin 0 (Or.inr z)
  · by_cases h0 : L = 0
    · subst h0
      unfold wpX_deploy
      refine nm_r hL (nm_e (xw_accT ha (br_f (by decide) (br_t rfl ?_))))
      unfold wpY_deploy
      exact nm_r hL (nm_e (yw_accT ha (br_f (by decide) (br_t rfl ⟨rfl, l, p, K, E, _, _, _, _, _, _, _, _, _, _, _, _, _, _, _, _, _, _, _, _, _, _, _, _, _, _, _, _, _, _, rfl, _, _, _, _, _, _, _, _, _, _, _, _, _, _, _, _, _, _, _, _, _, _, _, _, _, _, rfl, hl, hE, ce_PG0 hPG, hBL, hVR⟩))))
    · refine xw_dep ha hL (by omega) hL4 (yw_dep ha hL (by omega) hL4 (fun i hi => ?_) ⟨rfl, l, p, K, E, _, _, _, _, _, _, _, _, _, _, _, _, _, _, _, _, _, _, _, _, _, _, _, _, _, _, _, _, _, _, rfl, _, _, _, _, _, _, _, _, _, _, _, _, _, _, _, _, _, _, _, _, _, _, _, _, _, _, rfl, hl, hE, ce_PGdep hPG ha hL hL4, hBL, hVR⟩)
      obtain ⟨⟨q, hq, _, hy⟩, _⟩ := hp6 i hi
      exact ⟨q, hq, hy⟩
