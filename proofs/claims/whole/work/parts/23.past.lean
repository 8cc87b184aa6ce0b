theorem i_vc_past {k : Nat} {u : SX} {v : SY} (I : i_Rel k u v) (hk : k + 5 ≤ 2561) (v1 : Int32) (v2 : Int32) (v3 : Int32) : wpX_past (fun r => wpY_past (fun r' => r' = r ∧ i_Rel (k + 5) u v) v v1 v2 v3) u v1 v2 v3 := by
  refine ce_cases (C := fun u v => wpX_past (fun r => wpY_past (fun r' => r' = r ∧ i_Rel (k + 5) u v) v v1 v2 v3) u v1 v2 v3) (show i_Rel (k + 5) u v from I) ?_
  intro l p K E xvn wa wm rf ea er lr lu lc xop xnum len st vers evl xms own clr amt arg eg el pos hgt stk sst sev sw swm srf ywa yrf ydp yend yans yrest ybeg yop ybs cps old bef ywm wcp ecp mcp rcp yms ysf ycl yam yar ygv yel yat ytp hl hE hPG hBL hVR I2
  have hK6 := hVR.2.1
  unfold wpX_past
  by_cases h1 : v1 < 0
  · exact br_t h1 (yw_pastF (Or.inl h1) ⟨rfl, I2⟩)
  by_cases h2 : nI K < v1
  · exact br_f h1 (br_t h2 (yw_pastF (Or.inr (Or.inl h2)) ⟨rfl, I2⟩))
  refine br_f h1 (br_f h2 ?_)
  obtain ⟨n, hn, rfl⟩ := nI_of2 (n := K) (nI_toInt (by omega)) h1 (Int32.not_lt.mp h2)
  rcases pk_ix v2 (n := 6) (by decide) with z | z | ⟨a, ha, rfl⟩
  · exact xw_accF (Or.inl z) (br_t rfl (yw_pastF (Or.inr (Or.inr (Or.inl (Or.inl z)))) ⟨rfl, I2⟩))
  · exact xw_accF (Or.inr z) (br_t rfl (yw_pastF (Or.inr (Or.inr (Or.inl (Or.inr z)))) ⟨rfl, I2⟩))
  refine xw_accT ha (br_f (by decide) ?_)
  rcases pk_ix v3 (n := 5) (by decide) with z | z | ⟨j, hj, rfl⟩
  · exact br_t z (yw_pastF (Or.inr (Or.inr (Or.inr (Or.inl z)))) ⟨rfl, I2⟩)
  · have z0 : ¬ v3 < 0 := fun w => absurd (Int32.lt_of_le_of_lt z w) (by decide)
    have z5 : ¬ v3 < 5 := fun w => absurd (Int32.lt_of_le_of_lt z w) (by decide)
    exact br_f z0 (br_f z5 (yw_pastF (Or.inr (Or.inr (Or.inr (Or.inr z)))) ⟨rfl, I2⟩))
  · refine br_f (nI_pos (by omega)) (br_t (nI_lt (b := 5) hj (by decide)) (xw_slot hVR.1 (by omega) ?_))
    rw [ce_mR30, ce_mR5, nI_add, nI_add, ce_cl (by omega), show 30 * ((p + 7 - n) % 7) + 5 * a + j = 30 * ((p + 7 - n) % 7) + (5 * a + j) by omega, ce_VRpv hVR hn (by omega)]
    exact ⟨ce_in (by omega), yw_past hK6 hn ha hj ⟨rfl, I2⟩⟩
theorem i_vc_digest {k : Nat} {u : SX} {v : SY} (I : i_Rel k u v) (hk : k + 5 ≤ 2561) (v1 : Int32) : wpX_digest (fun r => wpY_digest (fun r' => r' = r ∧ i_Rel (k + 5) u v) v v1) u v1 := by
  refine ce_cases (C := fun u v => wpX_digest (fun r => wpY_digest (fun r' => r' = r ∧ i_Rel (k + 5) u v) v v1) u v1) (show i_Rel (k + 5) u v from I) ?_
  intro l p K E xvn wa wm rf ea er lr lu lc xop xnum len st vers evl xms own clr amt arg eg el pos hgt stk sst sev sw swm srf ywa yrf ydp yend yans yrest ybeg yop ybs cps old bef ywm wcp ecp mcp rcp yms ysf ycl yam yar ygv yel yat ytp hl hE hPG hBL hVR I2
  have hK6 := hVR.2.1
  unfold wpX_digest wpY_digest
  dsimp only
  by_cases h1 : v1 < 0
  · exact br_t h1 (br_t h1 ⟨rfl, I2⟩)
  by_cases h2 : v1 ≤ nI K
  · obtain ⟨n, hn, rfl⟩ := nI_of2 (n := K) (nI_toInt (by omega)) h1 h2
    exact br_f h1 (br_t h2 (xw_slot hVR.1 (by omega) (nm_r (ce_mR30 _) (xw_dig (f := ce_pv st old n) (by omega) (fun j hj => ce_VRpv hVR hn hj) (br_f h1 (br_t h2 (yw_dig hK6 hn ⟨rfl, I2⟩)))))))
  · exact br_f h1 (br_f h2 (br_f h1 (br_f h2 ⟨rfl, I2⟩)))
