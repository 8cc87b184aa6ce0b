section
variable {xlim xps xvn xkc ev wa wm rf dp ea er lr lu lc ylim yend yans yrest ybeg yres yused ycalls yver ykept : Int32} {xop xnum len st vers evl xms own clr amt arg eg el pos hgt stk sst sev sw swm srf yop ybs cps old bef ywm wcp ecp mcp rcp yms ysf ycl yam yar ygv yel yat ytp : Nat → Int32}
def ce_cost (k : Nat) (b : Bool) : Nat := if k = 5 then 3 else if k = 6 then (if b = true then 2 else 5) else if k = 7 then (if b = true then 3 else 8) else if k = 18 then 8 else if k = 21 then 4 else if k = 23 then 5 else 1
def ce_tkn (k : Nat) : Nat := if 8 ≤ k ∧ k ≤ 12 ∨ k = 15 then 2 else if k = 18 ∨ k = 23 then 3 else if k = 5 ∨ k = 7 ∨ k = 13 ∨ k = 14 ∨ k = 17 ∨ k = 19 ∨ k = 20 ∨ k = 21 then 1 else 0
def ce_add (k : Nat) : Nat := if k = 13 ∨ k = 15 ∨ k = 18 then 2 else if k = 7 ∨ k = 14 ∨ k = 16 ∨ k = 17 ∨ k = 19 ∨ k = 20 ∨ k = 21 ∨ k = 23 then 0 else 1
theorem ce_k24 {k : Nat} (hk : k < 24) : k = 0 ∨ k = 1 ∨ k = 2 ∨ k = 3 ∨ k = 4 ∨ k = 5 ∨ k = 6 ∨ k = 7 ∨ k = 8 ∨ k = 9 ∨ k = 10 ∨ k = 11 ∨ k = 12 ∨ k = 13 ∨ k = 14 ∨ k = 15 ∨ k = 16 ∨ k = 17 ∨ k = 18 ∨ k = 19 ∨ k = 20 ∨ k = 21 ∨ k = 22 ∨ k = 23 := by omega
theorem ce_cost_le (k : Nat) (b : Bool) : 1 ≤ ce_cost k b ∧ ce_cost k b ≤ 8 := by
  unfold ce_cost
  cases b <;> (repeat' split) <;> omega
theorem ce_tkn_le (k : Nat) : ce_tkn k ≤ 3 := by
  unfold ce_tkn
  (repeat' split) <;> omega
theorem ce_add_le (k : Nat) : ce_add k ≤ 2 := by
  unfold ce_add
  (repeat' split) <;> omega
theorem xw_c17t {post : Int32 → Prop} {k : Nat} (hk : k < 24) (hp : post (nI (ce_cost k true))) : wX_costOf_17 post (nI k) 1 xlim xps xvn xkc ev wa wm rf dp ea er lr lu lc xop xnum len st vers evl xms own clr amt arg eg el pos hgt stk sst sev sw swm srf := by
  rcases ce_k24 hk with rfl | rfl | rfl | rfl | rfl | rfl | rfl | rfl | rfl | rfl | rfl | rfl | rfl | rfl | rfl | rfl | rfl | rfl | rfl | rfl | rfl | rfl | rfl | rfl
  all_goals (unfold wX_costOf_17; repeat first | refine br_t (by decide) ?_ | refine br_f (by decide) ?_ | exact hp)
theorem xw_c17f {post : Int32 → Prop} {k : Nat} (hk : k < 24) (hp : post (nI (ce_cost k false))) : wX_costOf_17 post (nI k) 0 xlim xps xvn xkc ev wa wm rf dp ea er lr lu lc xop xnum len st vers evl xms own clr amt arg eg el pos hgt stk sst sev sw swm srf := by
  rcases ce_k24 hk with rfl | rfl | rfl | rfl | rfl | rfl | rfl | rfl | rfl | rfl | rfl | rfl | rfl | rfl | rfl | rfl | rfl | rfl | rfl | rfl | rfl | rfl | rfl | rfl
  all_goals (unfold wX_costOf_17; repeat first | refine br_t (by decide) ?_ | refine br_f (by decide) ?_ | exact hp)
theorem xw_tkn {post : Int32 → Prop} {k : Nat} (hk : k < 24) (hp : post (nI (ce_tkn k))) : wpX_takenBy post (nI k) := by
  rcases ce_k24 hk with rfl | rfl | rfl | rfl | rfl | rfl | rfl | rfl | rfl | rfl | rfl | rfl | rfl | rfl | rfl | rfl | rfl | rfl | rfl | rfl | rfl | rfl | rfl | rfl
  all_goals (unfold wpX_takenBy; repeat first | refine br_t (by decide) ?_ | refine br_f (by decide) ?_ | exact hp)
theorem xw_add {post : Int32 → Prop} {k : Nat} (hk : k < 24) (hp : post (nI (ce_add k))) : wpX_addedBy post (nI k) := by
  rcases ce_k24 hk with rfl | rfl | rfl | rfl | rfl | rfl | rfl | rfl | rfl | rfl | rfl | rfl | rfl | rfl | rfl | rfl | rfl | rfl | rfl | rfl | rfl | rfl | rfl | rfl
  all_goals (unfold wpX_addedBy; repeat first | refine br_t (by decide) ?_ | refine br_f (by decide) ?_ | exact hp)
theorem xw_cost {post : Int32 → Prop} {k pl : Nat} (hk : k < 24) (hl : pl < 30) (hp : post (nI (ce_cost k (bt wm pl)))) : wpX_costOf post (xlim, xps, xvn, xkc, ev, wa, wm, rf, dp, ea, er, lr, lu, lc, xop, xnum, len, st, vers, evl, xms, own, clr, amt, arg, eg, el, pos, hgt, stk, sst, sev, sw, swm, srf) (nI k) (nI pl) := by
  unfold wpX_costOf
  dsimp only
  rw [ce_bit wm hl]
  by_cases hb : bt wm pl = true
  · rw [if_pos hb]
    rw [hb] at hp
    exact br_t rfl (xw_c17t hk hp)
  · rw [if_neg hb]
    rw [show bt wm pl = false from by cases h : bt wm pl <;> simp_all] at hp
    exact br_f (by decide) (xw_c17f hk hp)
theorem yw_tkn {post : Int32 → Prop} {k : Nat} (hk : k < 24) (hp : post (nI (ce_tkn k))) : wpY_takes post (nI k) := by
  rcases ce_k24 hk with rfl | rfl | rfl | rfl | rfl | rfl | rfl | rfl | rfl | rfl | rfl | rfl | rfl | rfl | rfl | rfl | rfl | rfl | rfl | rfl | rfl | rfl | rfl | rfl
  all_goals (unfold wpY_takes; unfold wY_takes_12; repeat first | refine br_t (by decide) ?_ | refine br_f (by decide) ?_ | exact hp)
theorem yw_add {post : Int32 → Prop} {k : Nat} (hk : k < 24) (hp : post (nI (ce_add k))) : wpY_adds post (nI k) := by
  rcases ce_k24 hk with rfl | rfl | rfl | rfl | rfl | rfl | rfl | rfl | rfl | rfl | rfl | rfl | rfl | rfl | rfl | rfl | rfl | rfl | rfl | rfl | rfl | rfl | rfl | rfl
  all_goals (unfold wpY_adds; unfold wY_adds_56; repeat first | refine br_t (by decide) ?_ | refine br_f (by decide) ?_ | exact hp)
theorem yw_cost {post : Int32 → Prop} {k a c : Nat} (hk : k < 24) (ha : a < 6) (hc : c < 4) (hW : ce_WR wm ywm) (hp : post (nI (ce_cost k (bt wm (5 * a + c))))) : wpY_costs post (ylim, ev, wa, rf, dp, yend, yans, yrest, ybeg, yres, yused, ycalls, yver, ykept, yop, ybs, len, st, cps, old, bef, ywm, wcp, ecp, mcp, rcp, evl, yms, ysf, ycl, yam, yar, ygv, yel, yat, ytp, stk) (nI k) (nI (4 * a + c)) := by
  have hv := hW a c ha hc
  by_cases h67 : k = 6 ∨ k = 7
  · by_cases hb : bt wm (5 * a + c) = true
    · rw [if_pos hb] at hv
      rw [hb] at hp
      unfold wpY_costs
      dsimp only
      rw [ce_cl (by omega), hv]
      have hi : vp_in (nI (4 * a + c)) 24 := ce_in (by omega)
      rcases h67 with rfl | rfl
      all_goals (repeat first | refine br_t (by decide) ?_ | refine br_f (by decide) ?_ | refine ⟨hi, ?_⟩ | exact hp)
    · rw [if_neg hb] at hv
      rw [show bt wm (5 * a + c) = false from by cases h : bt wm (5 * a + c) <;> simp_all] at hp
      unfold wpY_costs
      dsimp only
      rw [ce_cl (by omega), hv]
      have hi : vp_in (nI (4 * a + c)) 24 := ce_in (by omega)
      rcases h67 with rfl | rfl
      all_goals (repeat first | refine br_t (by decide) ?_ | refine br_f (by decide) ?_ | refine ⟨hi, ?_⟩ | exact hp)
  · rw [show ce_cost k (bt wm (5 * a + c)) = ce_cost k true from by unfold ce_cost; rw [if_neg (c := k = 6) (by omega), if_neg (c := k = 7) (by omega), if_neg (c := k = 6) (by omega), if_neg (c := k = 7) (by omega)]] at hp
    rcases ce_k24 hk with rfl | rfl | rfl | rfl | rfl | rfl | rfl | rfl | rfl | rfl | rfl | rfl | rfl | rfl | rfl | rfl | rfl | rfl | rfl | rfl | rfl | rfl | rfl | rfl
    all_goals first | exact absurd (Or.inl rfl) h67 | exact absurd (Or.inr rfl) h67 | (unfold wpY_costs; repeat first | refine br_t (by decide) ?_ | refine br_f (by decide) ?_ | exact hp)
end
