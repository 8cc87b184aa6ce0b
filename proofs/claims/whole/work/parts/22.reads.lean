theorem i_vc_result {k : Nat} {u : SX} {v : SY} (I : i_Rel k u v) (hk : k + 5 ≤ 2561) : wpX_result (fun r => wpY_result (fun r' => r' = r ∧ i_Rel (k + 5) u v) v) u := by
  refine ce_cases (C := fun u v => wpX_result (fun r => wpY_result (fun r' => r' = r ∧ i_Rel (k + 5) u v) v) u) (show i_Rel (k + 5) u v from I) ?_
  intro l p K E xvn wa wm rf ea er lr lu lc xop xnum len st vers evl xms own clr amt arg eg el pos hgt stk sst sev sw swm srf ywa yrf ydp yend yans yrest ybeg yop ybs cps old bef ywm wcp ecp mcp rcp yms ysf ycl yam yar ygv yel yat ytp hl hE hPG hBL hVR I2
  exact ⟨rfl, I2⟩
theorem i_vc_used {k : Nat} {u : SX} {v : SY} (I : i_Rel k u v) (hk : k + 5 ≤ 2561) : wpX_used (fun r => wpY_used (fun r' => r' = r ∧ i_Rel (k + 5) u v) v) u := by
  refine ce_cases (C := fun u v => wpX_used (fun r => wpY_used (fun r' => r' = r ∧ i_Rel (k + 5) u v) v) u) (show i_Rel (k + 5) u v from I) ?_
  intro l p K E xvn wa wm rf ea er lr lu lc xop xnum len st vers evl xms own clr amt arg eg el pos hgt stk sst sev sw swm srf ywa yrf ydp yend yans yrest ybeg yop ybs cps old bef ywm wcp ecp mcp rcp yms ysf ycl yam yar ygv yel yat ytp hl hE hPG hBL hVR I2
  exact ⟨rfl, I2⟩
theorem i_vc_calls {k : Nat} {u : SX} {v : SY} (I : i_Rel k u v) (hk : k + 5 ≤ 2561) : wpX_calls (fun r => wpY_calls (fun r' => r' = r ∧ i_Rel (k + 5) u v) v) u := by
  refine ce_cases (C := fun u v => wpX_calls (fun r => wpY_calls (fun r' => r' = r ∧ i_Rel (k + 5) u v) v) u) (show i_Rel (k + 5) u v from I) ?_
  intro l p K E xvn wa wm rf ea er lr lu lc xop xnum len st vers evl xms own clr amt arg eg el pos hgt stk sst sev sw swm srf ywa yrf ydp yend yans yrest ybeg yop ybs cps old bef ywm wcp ecp mcp rcp yms ysf ycl yam yar ygv yel yat ytp hl hE hPG hBL hVR I2
  exact ⟨rfl, I2⟩
theorem i_vc_events {k : Nat} {u : SX} {v : SY} (I : i_Rel k u v) (hk : k + 5 ≤ 2561) : wpX_events (fun r => wpY_events (fun r' => r' = r ∧ i_Rel (k + 5) u v) v) u := by
  refine ce_cases (C := fun u v => wpX_events (fun r => wpY_events (fun r' => r' = r ∧ i_Rel (k + 5) u v) v) u) (show i_Rel (k + 5) u v from I) ?_
  intro l p K E xvn wa wm rf ea er lr lu lc xop xnum len st vers evl xms own clr amt arg eg el pos hgt stk sst sev sw swm srf ywa yrf ydp yend yans yrest ybeg yop ybs cps old bef ywm wcp ecp mcp rcp yms ysf ycl yam yar ygv yel yat ytp hl hE hPG hBL hVR I2
  exact ⟨rfl, I2⟩
theorem i_vc_version {k : Nat} {u : SX} {v : SY} (I : i_Rel k u v) (hk : k + 5 ≤ 2561) : wpX_version (fun r => wpY_version (fun r' => r' = r ∧ i_Rel (k + 5) u v) v) u := by
  refine ce_cases (C := fun u v => wpX_version (fun r => wpY_version (fun r' => r' = r ∧ i_Rel (k + 5) u v) v) u) (show i_Rel (k + 5) u v from I) ?_
  intro l p K E xvn wa wm rf ea er lr lu lc xop xnum len st vers evl xms own clr amt arg eg el pos hgt stk sst sev sw swm srf ywa yrf ydp yend yans yrest ybeg yop ybs cps old bef ywm wcp ecp mcp rcp yms ysf ycl yam yar ygv yel yat ytp hl hE hPG hBL hVR I2
  exact ⟨rfl, I2⟩
theorem i_vc_kept {k : Nat} {u : SX} {v : SY} (I : i_Rel k u v) (hk : k + 5 ≤ 2561) : wpX_kept (fun r => wpY_kept (fun r' => r' = r ∧ i_Rel (k + 5) u v) v) u := by
  refine ce_cases (C := fun u v => wpX_kept (fun r => wpY_kept (fun r' => r' = r ∧ i_Rel (k + 5) u v) v) u) (show i_Rel (k + 5) u v from I) ?_
  intro l p K E xvn wa wm rf ea er lr lu lc xop xnum len st vers evl xms own clr amt arg eg el pos hgt stk sst sev sw swm srf ywa yrf ydp yend yans yrest ybeg yop ybs cps old bef ywm wcp ecp mcp rcp yms ysf ycl yam yar ygv yel yat ytp hl hE hPG hBL hVR I2
  exact ⟨rfl, I2⟩
theorem i_vc_event {k : Nat} {u : SX} {v : SY} (I : i_Rel k u v) (hk : k + 5 ≤ 2561) (v1 : Int32) (v2 : Int32) : wpX_event (fun r => wpY_event (fun r' => r' = r ∧ i_Rel (k + 5) u v) v v1 v2) u v1 v2 := by
  refine ce_cases (C := fun u v => wpX_event (fun r => wpY_event (fun r' => r' = r ∧ i_Rel (k + 5) u v) v v1 v2) u v1 v2) (show i_Rel (k + 5) u v from I) ?_
  intro l p K E xvn wa wm rf ea er lr lu lc xop xnum len st vers evl xms own clr amt arg eg el pos hgt stk sst sev sw swm srf ywa yrf ydp yend yans yrest ybeg yop ybs cps old bef ywm wcp ecp mcp rcp yms ysf ycl yam yar ygv yel yat ytp hl hE hPG hBL hVR I2
  unfold wpX_event wpY_event
  dsimp only
  by_cases h1 : v1 < 0
  · exact br_t h1 (br_t h1 ⟨rfl, I2⟩)
  by_cases h2 : nI E ≤ v1
  · exact br_f h1 (br_t h2 (br_f h1 (br_t h2 ⟨rfl, I2⟩)))
  rcases pk_ix v2 (n := 3) (by decide) with z | z | ⟨j, hj, rfl⟩
  · exact br_f h1 (br_f h2 (br_t z (br_f h1 (br_f h2 (br_t z ⟨rfl, I2⟩)))))
  · have z0 : ¬ v2 < 0 := fun w => absurd (Int32.lt_of_le_of_lt z w) (by decide)
    have z3 : ¬ v2 < 3 := fun w => absurd (Int32.lt_of_le_of_lt z w) (by decide)
    have z2 : ¬ v2 ≤ 2 := fun w => absurd (Int32.le_trans z w) (by decide)
    exact br_f h1 (br_f h2 (br_f z0 (br_f z3 (br_f h1 (br_f h2 (br_f z0 (br_f z2 ⟨rfl, I2⟩)))))))
  · rcases pk_ix v1 (n := E) (by omega) with q | q | ⟨i, hi, rfl⟩
    · exact absurd q h1
    · exact absurd q h2
    · have z0 : ¬ nI j < 0 := nI_pos (by omega)
      have z3 : nI j < 3 := nI_lt (b := 3) hj (by decide)
      have z2 : nI j ≤ 2 := nI_le (b := 2) (by omega) (by decide)
      rw [ce_mR3, ce_mL3, nI_add, ce_cl (by omega)]
      exact br_f h1 (br_f h2 (br_f z0 (br_t z3 ⟨ce_in (by omega), br_f h1 (br_f h2 (br_f z0 (br_t z2 ⟨ce_in (by omega), rfl, I2⟩)))⟩)))
theorem i_vc_balance {k : Nat} {u : SX} {v : SY} (I : i_Rel k u v) (hk : k + 5 ≤ 2561) (v1 : Int32) : wpX_balance (fun r => wpY_balance (fun r' => r' = r ∧ i_Rel (k + 5) u v) v v1) u v1 := by
  refine ce_cases (C := fun u v => wpX_balance (fun r => wpY_balance (fun r' => r' = r ∧ i_Rel (k + 5) u v) v v1) u v1) (show i_Rel (k + 5) u v from I) ?_
  intro l p K E xvn wa wm rf ea er lr lu lc xop xnum len st vers evl xms own clr amt arg eg el pos hgt stk sst sev sw swm srf ywa yrf ydp yend yans yrest ybeg yop ybs cps old bef ywm wcp ecp mcp rcp yms ysf ycl yam yar ygv yel yat ytp hl hE hPG hBL hVR I2
  unfold wpX_balance wpY_balance
  dsimp only
  rcases pk_ix v1 (n := 6) (by decide) with z | z | ⟨a, ha, rfl⟩
  · exact xw_accF (Or.inl z) (br_t rfl (yw_pastF (Or.inr (Or.inr (Or.inl (Or.inl z)))) ⟨rfl, I2⟩))
  · exact xw_accF (Or.inr z) (br_t rfl (yw_pastF (Or.inr (Or.inr (Or.inl (Or.inr z)))) ⟨rfl, I2⟩))
  · refine xw_accT ha (br_f (by decide) ?_)
    rw [ce_mR5, ce_a4, ce_cl (by omega)]
    exact ⟨ce_in (by omega), yw_past (n := 0) (c := 4) hVR.2.1 (by omega) ha (by omega) ⟨rfl, I2⟩⟩
theorem i_vc_cell {k : Nat} {u : SX} {v : SY} (I : i_Rel k u v) (hk : k + 5 ≤ 2561) (v1 : Int32) (v2 : Int32) : wpX_cell (fun r => wpY_cell (fun r' => r' = r ∧ i_Rel (k + 5) u v) v v1 v2) u v1 v2 := by
  refine ce_cases (C := fun u v => wpX_cell (fun r => wpY_cell (fun r' => r' = r ∧ i_Rel (k + 5) u v) v v1 v2) u v1 v2) (show i_Rel (k + 5) u v from I) ?_
  intro l p K E xvn wa wm rf ea er lr lu lc xop xnum len st vers evl xms own clr amt arg eg el pos hgt stk sst sev sw swm srf ywa yrf ydp yend yans yrest ybeg yop ybs cps old bef ywm wcp ecp mcp rcp yms ysf ycl yam yar ygv yel yat ytp hl hE hPG hBL hVR I2
  unfold wpX_cell wpY_cell
  dsimp only
  rcases pk_ix v1 (n := 6) (by decide) with z | z | ⟨a, ha, rfl⟩
  · exact xw_accF (Or.inl z) (br_t rfl (br_c (fun _ => ⟨rfl, I2⟩) (fun _ => yw_pastF (Or.inr (Or.inr (Or.inl (Or.inl z)))) ⟨rfl, I2⟩)))
  · exact xw_accF (Or.inr z) (br_t rfl (br_c (fun _ => ⟨rfl, I2⟩) (fun _ => yw_pastF (Or.inr (Or.inr (Or.inl (Or.inr z)))) ⟨rfl, I2⟩)))
  · refine xw_accT ha (br_f (by decide) ?_)
    rcases pk_ix v2 (n := 4) (by decide) with z | z | ⟨j, hj, rfl⟩
    · refine br_t z (br_f (fun e => ?_) (yw_pastF (Or.inr (Or.inr (Or.inr (Or.inl z)))) ⟨rfl, I2⟩))
      rw [e] at z; revert z; decide
    · have z0 : ¬ v2 < 0 := fun w => absurd (Int32.lt_of_le_of_lt z w) (by decide)
      have z4 : ¬ v2 < 4 := fun w => absurd (Int32.lt_of_le_of_lt z w) (by decide)
      refine br_f z0 (br_f z4 (br_c (fun _ => ⟨rfl, I2⟩) (fun n4 => ?_)))
      rcases pk_ix v2 (n := 5) (by decide) with q | q | ⟨j, hj, rfl⟩
      · exact absurd q z0
      · exact yw_pastF (Or.inr (Or.inr (Or.inr (Or.inr q)))) ⟨rfl, I2⟩
      · have : j = 4 := by
          have := (nI_leI (a := 4) (b := j) (by omega) (by omega)).mp z
          omega
        subst this
        exact absurd rfl n4
    · rw [ce_mR5, nI_add, ce_cl (by omega)]
      refine br_f (nI_pos (by omega)) (br_t (nI_lt (b := 4) hj (by decide)) ⟨ce_in (by omega), pk_eq j 4 (fun q => absurd q (by omega)) (fun _ => ?_)⟩)
      exact yw_past (n := 0) hVR.2.1 (by omega) ha (by omega) ⟨rfl, I2⟩
theorem i_vc_back {k : Nat} {u : SX} {v : SY} (I : i_Rel k u v) (hk : k + 5 ≤ 2561) (v1 : Int32) : wpX_back (fun r u' => wpY_back (fun r' v' => r' = r ∧ i_Rel (k + 5) u' v') v v1) u v1 := by
  refine ce_cases (C := fun u v => wpX_back (fun r u' => wpY_back (fun r' v' => r' = r ∧ i_Rel (k + 5) u' v') v v1) u v1) (show i_Rel (k + 5) u v from I) ?_
  intro l p K E xvn wa wm rf ea er lr lu lc xop xnum len st vers evl xms own clr amt arg eg el pos hgt stk sst sev sw swm srf ywa yrf ydp yend yans yrest ybeg yop ybs cps old bef ywm wcp ecp mcp rcp yms ysf ycl yam yar ygv yel yat ytp hl hE hPG hBL hVR I2
  have hK6 := hVR.2.1
  by_cases h1 : v1 < 1
  · unfold wpX_back wpY_back
    exact br_t h1 (br_t h1 ⟨rfl, I2⟩)
  by_cases h2 : v1 ≤ nI K
  · obtain ⟨n, hn, rfl⟩ := nI_of2 (n := K) (nI_toInt (by omega)) (fun z => h1 (Int32.lt_trans z (by decide))) h2
    have hn1 : 1 ≤ n := by
      have := mt (nI_ltI (a := n) (b := 1) (by omega) (by omega)).mpr h1
      omega
    refine xw_bck hVR.1 hn1 hn hK6 (yw_bck hn1 hn hK6 ?_)
    have e : ce_cp st 0 30 (fun j => old (30 * (n - 1) + j)) = ce_cp st 0 30 (fun j => vers (30 * ((p + 7 - n) % 7) + j)) := ce_cpc (fun j hj => by
      rw [ce_VRpv hVR hn hj]
      unfold ce_pv
      rw [if_neg (by omega)])
    rw [e]
    have V2 := ce_VRbck hVR hn1 hn
    refine ⟨rfl, l, (p + 7 - n) % 7, K - n, E, _, _, _, _, _, _, _, _, _, _, _, _, _, _, _, _, _, _, _, _, _, _, _, _, _, _, _, _, _, _, rfl, _, _, _, _, _, _, _, _, _, _, _, _, _, _, _, _, _, _, _, _, _, _, _, _, _, _, rfl, hl, hE, hPG, ?_, V2⟩
    rw [← e]
    exact ce_BLc (hVR.2.2.2.2 (n - 1) (by omega)) (fun j hj => ce_cpi0 hj)
  · unfold wpX_back wpY_back
    exact br_f h1 (br_f h2 (br_f h1 (br_f h2 ⟨rfl, I2⟩)))
