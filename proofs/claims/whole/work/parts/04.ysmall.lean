section
variable {xlim xps xvn xkc ev wa wm rf dp ea er lr lu lc ylim yend yans yrest ybeg yres yused ycalls yver ykept : Int32} {xop xnum len st vers evl xms own clr amt arg eg el pos hgt stk sst sev sw swm srf yop ybs cps old bef ywm wcp ecp mcp rcp yms ysf ycl yam yar ygv yel yat ytp : Nat → Int32}
theorem yw_push {post : SY → Prop} {t h : Nat} {z : Int32} (ht : t < 5) (hh : ytp t = nI h) (h6 : h < 6) (hp : post (ylim, ev, wa, rf, nI (t + 1), yend, yans, yrest, ybeg, yres, yused, ycalls, yver, ykept, yop, ybs, len, st, cps, old, bef, ywm, wcp, ecp, mcp, rcp, evl, yms, ysf, ycl, yam, yar, ygv, yel, yat, upd ytp t (nI (h + 1)), upd stk (6 * t + h) z)) : wpY_push post (ylim, ev, wa, rf, nI (t + 1), yend, yans, yrest, ybeg, yres, yused, ycalls, yver, ykept, yop, ybs, len, st, cps, old, bef, ywm, wcp, ecp, mcp, rcp, evl, yms, ysf, ycl, yam, yar, ygv, yel, yat, ytp, stk) z := by
  unfold wpY_push
  dsimp only
  rw [nI_pred t, ce_cl (t := t) (by omega), hh, ce_mL6, nI_add, ce_cl (t := 6 * t + h) (by omega), nI_1 h]
  exact ⟨ce_in ht, ce_in ht, nm_e ⟨ce_in (by omega), nm_e hp⟩⟩
theorem yw_pop {post : Int32 → SY → Prop} {t h : Nat} (ht : t < 5) (hh : ytp t = nI (h + 1)) (h6 : h < 6) (hp : post (stk (6 * t + h)) (ylim, ev, wa, rf, nI (t + 1), yend, yans, yrest, ybeg, yres, yused, ycalls, yver, ykept, yop, ybs, len, st, cps, old, bef, ywm, wcp, ecp, mcp, rcp, evl, yms, ysf, ycl, yam, yar, ygv, yel, yat, upd ytp t (nI h), stk)) : wpY_pop post (ylim, ev, wa, rf, nI (t + 1), yend, yans, yrest, ybeg, yres, yused, ycalls, yver, ykept, yop, ybs, len, st, cps, old, bef, ywm, wcp, ecp, mcp, rcp, evl, yms, ysf, ycl, yam, yar, ygv, yel, yat, ytp, stk) := by
  unfold wpY_pop
  dsimp only
  rw [nI_pred t, ce_cl (t := t) (by omega), hh, nI_pred h, ce_mL6, nI_add, ce_cl (t := 6 * t + h) (by omega)]
  exact ⟨ce_in ht, ce_in ht, nm_e ⟨ce_in (by omega), hp⟩⟩
theorem yw_accT {post : Int32 → Prop} {a : Nat} (ha : a < 6) (hp : post 1) : wpY_isAccount post (nI a) := by
  unfold wpY_isAccount
  exact br_f (nI_pos (by omega)) (br_f (nI_ge (b := 6) ha (by decide)) hp)
theorem yw_accF {post : Int32 → Prop} {x : Int32} (hx : x < 0 ∨ nI 6 ≤ x) (hp : post 0) : wpY_isAccount post x := by
  unfold wpY_isAccount
  by_cases h : x < 0
  · exact br_t h hp
  · exact br_f h (br_t (hx.resolve_left h) hp)
theorem yw_give {post : SY → Prop} {t h : Nat} {x : Int32} (ht : t < 5) (hh : ytp t = nI h) (h4 : h ≤ 4) (hp : post (ylim, ev, wa, rf, nI (t + 1), yend, yans, yrest, ybeg, yres, yused, ycalls, yver, ykept, yop, ybs, len, st, cps, old, bef, ywm, wcp, ecp, mcp, rcp, evl, yms, ysf, ycl, yam, yar, ygv, upd yel t (yel t - x), yat, upd ytp t (nI (h + 2)), upd (upd stk (6 * t + h) yans) (6 * t + (h + 1)) (if yend = 0 then 1 else 0))) : wpY_giveBack post (ylim, ev, wa, rf, nI (t + 1), yend, yans, yrest, ybeg, yres, yused, ycalls, yver, ykept, yop, ybs, len, st, cps, old, bef, ywm, wcp, ecp, mcp, rcp, evl, yms, ysf, ycl, yam, yar, ygv, yel, yat, ytp, stk) x := by
  unfold wpY_giveBack
  dsimp only
  rw [nI_pred t, ce_cl (t := t) (by omega)]
  refine ⟨ce_in ht, ce_in ht, nm_e (yw_push ht hh (by omega) ?_)⟩
  by_cases e : yend = 0
  · rw [if_pos e] at hp
    refine br_t e ?_
    unfold wY_giveBack_36
    refine yw_push (h := h + 1) ht pk_us (by omega) ?_
    rw [ce_uu]
    exact hp
  · rw [if_neg e] at hp
    refine br_f e ?_
    unfold wY_giveBack_36
    refine yw_push (h := h + 1) ht pk_us (by omega) ?_
    rw [ce_uu]
    exact hp
theorem ye_0 {post : SY → Prop} (hp : post (ylim, ev, wa, rf, 0, yend, yans, yrest, ybeg, yres, yused, ycalls, yver, ykept, yop, ybs, len, st, cps, old, bef, ywm, wcp, ecp, mcp, rcp, evl, yms, ysf, ycl, yam, yar, ygv, yel, yat, ytp, stk)) : wY_end_158 post (ylim) (ev) (wa) (rf) (0) (yend) (yans) (yrest) (ybeg) (yres) (yused) (ycalls) (yver) (ykept) (yop) (ybs) (len) (st) (cps) (old) (bef) (ywm) (wcp) (ecp) (mcp) (rcp) (evl) (yms) (ysf) (ycl) (yam) (yar) (ygv) (yel) (yat) (ytp) (stk) := by
  unfold wY_end_158
  exact br_t (by decide) hp
theorem ye_1 {post : SY → Prop} {t h : Nat} (ht : t + 1 < 5) (hh : ytp t = nI h) (h4 : h ≤ 4) (hp : post (ylim, ev, wa, rf, nI (t + 1), yend, yans, yrest, ybeg, yres, yused, ycalls, yver, ykept, yop, ybs, len, st, cps, old, bef, ywm, wcp, ecp, mcp, rcp, evl, yms, ysf, ycl, yam, yar, ygv, upd yel t (yel t - (ygv (t + 1) - yrest)), yat, upd ytp t (nI (h + 2)), upd (upd stk (6 * t + h) yans) (6 * t + (h + 1)) (if yend = 0 then 1 else 0))) : wY_end_158 post (ylim) (ev) (wa) (rf) (nI (t + 1)) (yend) (yans) (yrest) (ybeg) (yres) (yused) (ycalls) (yver) (ykept) (yop) (ybs) (len) (st) (cps) (old) (bef) (ywm) (wcp) (ecp) (mcp) (rcp) (evl) (yms) (ysf) (ycl) (yam) (yar) (ygv) (yel) (yat) (ytp) (stk) := by
  unfold wY_end_158
  refine br_f (nI_nle (by omega) (by omega)) ?_
  rw [ce_cl (t := t + 1) (by omega)]
  exact ⟨ce_in ht, yw_give (by omega) hh h4 hp⟩
theorem ye_rs {post : SY → Prop} {t : Nat} (ht : t < 5) (hw : ∀ j, j < 24 → vp_nar .boolean (wcp (24 * t + j)) = wcp (24 * t + j)) (hp : wY_end_158 post (ylim) (ecp t) (mcp t) (rcp t) (nI t) (yend) (yans) (yrest) (ybeg) (yres) (yused) (ycalls) (yver) (ykept) (yop) (ybs) (len) (ce_cp st 0 30 (fun j => cps (30 * t + j))) (cps) (old) (bef) (ce_cp ywm 0 24 (fun j => wcp (24 * t + j))) (wcp) (ecp) (mcp) (rcp) (evl) (yms) (ysf) (ycl) (yam) (yar) (ygv) (yel) (yat) (ytp) (stk)) : ∃ n, wY_end_53 post (ylim) (ev) (wa) (rf) (nI t) (yend) (yans) (yrest) (ybeg) (yres) (yused) (ycalls) (yver) (ykept) n 0 (yop) (ybs) (len) (st) (cps) (old) (bef) (ywm) (wcp) (ecp) (mcp) (rcp) (evl) (yms) (ysf) (ycl) (yam) (yar) (ygv) (yel) (yat) (ytp) (stk) := by
  refine loop_0 (fun n i s => wY_end_53 post (ylim) (ev) (wa) (rf) (nI t) (yend) (yans) (yrest) (ybeg) (yres) (yused) (ycalls) (yver) (ykept) n (nI i) (yop) (ybs) (len) (s) (cps) (old) (bef) (ywm) (wcp) (ecp) (mcp) (rcp) (evl) (yms) (ysf) (ycl) (yam) (yar) (ygv) (yel) (yat) (ytp) (stk)) (fun i s => s = ce_cp st 0 i (fun j => cps (30 * t + j))) 30 st (ce_cp0 _ _ _).symm ?_ ?_
  · intro n s e
    subst e
    refine br_t (by decide) ?_
    refine loop_0 (fun n i s => wY_end_87 post (ylim) (ev) (wa) (rf) (nI t) (yend) (yans) (yrest) (ybeg) (yres) (yused) (ycalls) (yver) (ykept) n (nI i) (yop) (ybs) (len) (ce_cp st 0 30 (fun j => cps (30 * t + j))) (cps) (old) (bef) (s) (wcp) (ecp) (mcp) (rcp) (evl) (yms) (ysf) (ycl) (yam) (yar) (ygv) (yel) (yat) (ytp) (stk)) (fun i s => s = ce_cp ywm 0 i (fun j => wcp (24 * t + j))) 24 ywm (ce_cp0 _ _ _).symm ?_ ?_
    · intro n s e
      subst e
      refine br_t (by decide) ?_
      rw [ce_cl (t := t) (by omega)]
      exact ⟨ce_in ht, nm_e ⟨ce_in ht, nm_e ⟨ce_in ht, nm_e hp⟩⟩⟩
    · intro n i s hi e H
      subst e
      refine br_f (nI_ge (b := 24) hi (by decide)) ?_
      rw [ce_mL24, nI_add, ce_cl (t := i) (by omega), ce_cl (t := 24 * t + i) (by omega), nI_1 i, hw i hi]
      exact ⟨ce_in (by omega), ce_in (by omega), nm_r (ce_cps0 ywm i (fun j => wcp (24 * t + j))) (nm_e (H _ rfl))⟩
  · intro n i s hi e H
    subst e
    refine br_f (nI_ge (b := 30) hi (by decide)) ?_
    rw [ce_mL30, nI_add, ce_cl (t := i) (by omega), ce_cl (t := 30 * t + i) (by omega), nI_1 i]
    exact ⟨ce_in (by omega), ce_in (by omega), nm_r (ce_cps0 st i (fun j => cps (30 * t + j))) (nm_e (H _ rfl))⟩
theorem ye_ok {post : SY → Prop} {t : Nat} {v : Int32} (ht : t < 5) (hp : wY_end_158 post (ylim) (ev) (wa) (rf) (nI t) (0) (v) (yel t) (ybeg) (yres) (yused) (ycalls) (yver) (ykept) (yop) (ybs) (len) (st) (cps) (old) (bef) (ywm) (wcp) (ecp) (mcp) (rcp) (evl) (yms) (ysf) (ycl) (yam) (yar) (ygv) (yel) (yat) (ytp) (stk)) : wpY_end post (ylim, ev, wa, rf, nI (t + 1), yend, yans, yrest, ybeg, yres, yused, ycalls, yver, ykept, yop, ybs, len, st, cps, old, bef, ywm, wcp, ecp, mcp, rcp, evl, yms, ysf, ycl, yam, yar, ygv, yel, yat, ytp, stk) 0 v := by
  unfold wpY_end
  refine nm_r (nI_pred t) (br_f (by decide) (br_f (by decide) ?_))
  rw [ce_cl (t := t) (by omega)]
  refine ⟨ce_in ht, ?_⟩
  unfold wY_end_44
  exact br_t rfl hp
theorem ye_rev {post : SY → Prop} {t : Nat} {v : Int32} (ht : t < 5) (hw : ∀ j, j < 24 → vp_nar .boolean (wcp (24 * t + j)) = wcp (24 * t + j)) (hp : wY_end_158 post (ylim) (ecp t) (mcp t) (rcp t) (nI t) (1) (v) (yel t) (ybeg) (yres) (yused) (ycalls) (yver) (ykept) (yop) (ybs) (len) (ce_cp st 0 30 (fun j => cps (30 * t + j))) (cps) (old) (bef) (ce_cp ywm 0 24 (fun j => wcp (24 * t + j))) (wcp) (ecp) (mcp) (rcp) (evl) (yms) (ysf) (ycl) (yam) (yar) (ygv) (yel) (yat) (ytp) (stk)) : wpY_end post (ylim, ev, wa, rf, nI (t + 1), yend, yans, yrest, ybeg, yres, yused, ycalls, yver, ykept, yop, ybs, len, st, cps, old, bef, ywm, wcp, ecp, mcp, rcp, evl, yms, ysf, ycl, yam, yar, ygv, yel, yat, ytp, stk) 1 v := by
  unfold wpY_end
  refine nm_r (nI_pred t) (br_f (by decide) (br_f (by decide) ?_))
  rw [ce_cl (t := t) (by omega)]
  refine ⟨ce_in ht, ?_⟩
  unfold wY_end_44
  exact br_f (by decide) (ye_rs ht hw hp)
theorem ye_bad {post : SY → Prop} {t : Nat} {how v : Int32} (ht : t < 5) (h23 : how = 2 ∨ how = 3) (hw : ∀ j, j < 24 → vp_nar .boolean (wcp (24 * t + j)) = wcp (24 * t + j)) (hp : wY_end_158 post (ylim) (ecp t) (mcp t) (rcp t) (nI t) (how) (v) (0) (ybeg) (yres) (yused) (ycalls) (yver) (ykept) (yop) (ybs) (len) (ce_cp st 0 30 (fun j => cps (30 * t + j))) (cps) (old) (bef) (ce_cp ywm 0 24 (fun j => wcp (24 * t + j))) (wcp) (ecp) (mcp) (rcp) (evl) (yms) (ysf) (ycl) (yam) (yar) (ygv) (yel) (yat) (ytp) (stk)) : wpY_end post (ylim, ev, wa, rf, nI (t + 1), yend, yans, yrest, ybeg, yres, yused, ycalls, yver, ykept, yop, ybs, len, st, cps, old, bef, ywm, wcp, ecp, mcp, rcp, evl, yms, ysf, ycl, yam, yar, ygv, yel, yat, ytp, stk) how v := by
  have hn : ¬ how = 0 := by rcases h23 with rfl | rfl <;> decide
  have go : wY_end_31 post how (ylim) (ev) (wa) (rf) (nI t) (how) (v) (yrest) (ybeg) (yres) (yused) (ycalls) (yver) (ykept) (yop) (ybs) (len) (st) (cps) (old) (bef) (ywm) (wcp) (ecp) (mcp) (rcp) (evl) (yms) (ysf) (ycl) (yam) (yar) (ygv) (yel) (yat) (ytp) (stk) := by
    unfold wY_end_31 wY_end_44
    exact br_f hn (ye_rs ht hw hp)
  unfold wpY_end
  refine nm_r (nI_pred t) ?_
  rcases h23 with rfl | rfl
  · exact br_t rfl go
  · exact br_f (by decide) (br_t rfl go)
theorem yw_save {post : SY → Prop} {t : Nat} (ht : t < 5) (hw : ∀ j, j < 24 → vp_nar .boolean (ywm j) = ywm j) (hp : post (ylim, ev, wa, rf, nI t, yend, yans, yrest, ybeg, yres, yused, ycalls, yver, ykept, yop, ybs, len, st, ce_cp cps (30 * t) 30 st, old, bef, ywm, ce_cp wcp (24 * t) 24 ywm, upd ecp t ev, upd mcp t wa, upd rcp t rf, evl, yms, ysf, ycl, yam, yar, ygv, yel, yat, ytp, stk)) : wpY_save post (ylim, ev, wa, rf, nI t, yend, yans, yrest, ybeg, yres, yused, ycalls, yver, ykept, yop, ybs, len, st, cps, old, bef, ywm, wcp, ecp, mcp, rcp, evl, yms, ysf, ycl, yam, yar, ygv, yel, yat, ytp, stk) := by
  unfold wpY_save
  refine loop_0 (fun n i s => wY_save_2 post (ylim) (ev) (wa) (rf) (nI t) (yend) (yans) (yrest) (ybeg) (yres) (yused) (ycalls) (yver) (ykept) n (nI i) (yop) (ybs) (len) (st) (s) (old) (bef) (ywm) (wcp) (ecp) (mcp) (rcp) (evl) (yms) (ysf) (ycl) (yam) (yar) (ygv) (yel) (yat) (ytp) (stk)) (fun i s => s = ce_cp cps (30 * t) i st) 30 cps (ce_cp0 _ _ _).symm ?_ ?_
  · intro n s e
    subst e
    refine br_t (by decide) ?_
    refine loop_0 (fun n i s => wY_save_36 post (ylim) (ev) (wa) (rf) (nI t) (yend) (yans) (yrest) (ybeg) (yres) (yused) (ycalls) (yver) (ykept) n (nI i) (yop) (ybs) (len) (st) (ce_cp cps (30 * t) 30 st) (old) (bef) (ywm) (s) (ecp) (mcp) (rcp) (evl) (yms) (ysf) (ycl) (yam) (yar) (ygv) (yel) (yat) (ytp) (stk)) (fun i s => s = ce_cp wcp (24 * t) i ywm) 24 wcp (ce_cp0 _ _ _).symm ?_ ?_
    · intro n s e
      subst e
      refine br_t (by decide) ?_
      rw [ce_cl (t := t) (by omega)]
      exact ⟨ce_in ht, nm_e ⟨ce_in ht, nm_e ⟨ce_in ht, nm_e hp⟩⟩⟩
    · intro n i s hi e H
      subst e
      refine br_f (nI_ge (b := 24) hi (by decide)) ?_
      rw [ce_mL24, nI_add, ce_cl (t := i) (by omega), ce_cl (t := 24 * t + i) (by omega), nI_1 i, hw i hi]
      exact ⟨ce_in (by omega), ce_in (by omega), nm_r (ce_cps _ _ _ _) (nm_e (H _ rfl))⟩
  · intro n i s hi e H
    subst e
    refine br_f (nI_ge (b := 30) hi (by decide)) ?_
    rw [ce_mL30, nI_add, ce_cl (t := i) (by omega), ce_cl (t := 30 * t + i) (by omega), nI_1 i]
    exact ⟨ce_in (by omega), ce_in (by omega), nm_r (ce_cps _ _ _ _) (nm_e (H _ rfl))⟩
/-! begin -/
theorem ce_sum {m x : Nat} (hm : m ≤ 1000000000) (hx : x < 2147483648) : (1000000000 : Int64) < (nI m).toInt64 + (nI x).toInt64 ↔ (1000000000 : Int32) - nI m < nI x := by
  rw [nI_l (by omega), nI_l (by omega), lN_add, show (1000000000 : Int64) = lN 1000000000 from rfl, pk_lLT (by omega) (by omega), show (1000000000 : Int32) = nI 1000000000 from rfl, pk_sub hm, nI_ltI (by omega) (by omega)]
  omega
theorem ce_neg {c : Nat} (h : c < 6) : ¬ nI c < 0 := nI_pos (by omega)
theorem yb_den {post : Int32 → SY → Prop} {d a : Nat} {cl am ar en : Int32} (hd : d ≤ 5) (hc : ce_CL cl) (ha : a < 6) (hB : ce_BL st) (hD : ce_DN st d cl a am) (hp : post 0 (ylim, ev, wa, rf, nI d, 4, 0, en, ybeg, yres, yused, ycalls, yver, ykept, yop, ybs, len, st, cps, old, bef, ywm, wcp, ecp, mcp, rcp, evl, yms, ysf, ycl, yam, yar, ygv, yel, yat, ytp, stk)) : wpY_begin post (ylim, ev, wa, rf, nI d, yend, yans, yrest, ybeg, yres, yused, ycalls, yver, ykept, yop, ybs, len, st, cps, old, bef, ywm, wcp, ecp, mcp, rcp, evl, yms, ysf, ycl, yam, yar, ygv, yel, yat, ytp, stk) (nI a) am ar cl en := by
  unfold wpY_begin
  refine br_c (fun _ => hp) (fun n1 => ?_)
  obtain ⟨x, hx, rfl⟩ := nI_of n1
  obtain ⟨m, hm, em⟩ := hB a ha
  have fin : (¬ ∃ c, c < 6 ∧ cl = nI c ∧ st (5 * c + 4) < nI x) → wY_begin_40 post (nI a) (nI x) ar cl en (ylim) (ev) (wa) (rf) (nI d) (4) (0) (en) (ybeg) (yres) (yused) (ycalls) (yver) (ykept) (yop) (ybs) (len) (st) (cps) (old) (bef) (ywm) (wcp) (ecp) (mcp) (rcp) (evl) (yms) (ysf) (ycl) (yam) (yar) (ygv) (yel) (yat) (ytp) (stk) := by
    intro n3
    unfold wY_begin_40
    rw [ce_mL5, ce_a4, ce_cl (t := 5 * a + 4) (by omega), em]
    refine ⟨ce_in (by omega), br_c (fun _ => hp) (fun n4 => ?_)⟩
    rw [ce_sum hm (by omega), ← em] at n4
    refine br_t ?_ hp
    rcases hD with q | q | q | q
    · exact absurd q n1
    · rw [q]; rfl
    · exact absurd q n3
    · exact absurd q n4
  rcases hc with rfl | ⟨c, hc, rfl⟩
  · refine br_t (by decide) (fin ?_)
    intro ⟨c, hc, e, _⟩
    exact ce_m1 hc e
  · refine br_f (ce_neg hc) ?_
    rw [ce_mL5 c, ce_a4, ce_cl (t := 5 * c + 4) (by omega)]
    refine ⟨ce_in (by omega), br_c (fun _ => hp) (fun n4 => fin ?_)⟩
    intro ⟨c', hc', e, h'⟩
    have e2 := (nI_eq (by omega) (by omega)).mp e
    subst e2
    exact n4 h'
theorem yb_119 {post : Int32 → SY → Prop} {t a L : Nat} {cl am ar en : Int32} (ht : t < 5) (ha : a < 6) (hL : len a = nI L) (hl : L ≤ 24)
    (h0 : L = 0 → post 0 (ylim, ev, wa, rf, nI t, yend, yans, yrest, ybeg, yres, yused, ycalls, yver, ykept, yop, ybs, len, upd st (5 * a + 4) (st (5 * a + 4) + am), cps, old, bef, ywm, wcp, ecp, mcp, rcp, evl, yms, ysf, ycl, yam, yar, ygv, yel, yat, ytp, stk))
    (h1 : 0 < L → post 1 (ylim, ev, wa, rf, nI (t + 1), yend, yans, yrest, ybeg, yres, yused, ycalls, yver, ykept, yop, ybs, len, upd st (5 * a + 4) (st (5 * a + 4) + am), cps, old, bef, ywm, wcp, ecp, mcp, rcp, evl, yms, upd ysf t (nI a), upd ycl t cl, upd yam t am, upd yar t ar, upd ygv t en, upd yel t en, upd yat t 0, upd ytp t 0, stk)) : wY_begin_119 post (nI a) am ar cl en (ylim) (ev) (wa) (rf) (nI t) (yend) (yans) (yrest) (ybeg) (yres) (yused) (ycalls) (yver) (ykept) (yop) (ybs) (len) (st) (cps) (old) (bef) (ywm) (wcp) (ecp) (mcp) (rcp) (evl) (yms) (ysf) (ycl) (yam) (yar) (ygv) (yel) (yat) (ytp) (stk) := by
  unfold wY_begin_119
  rw [ce_mL5, ce_a4, ce_cl (t := 5 * a + 4) (by omega), ce_cl (t := t) (by omega), ce_cl (t := a) (by omega), nI_1 t, hL]
  refine ⟨ce_in (by omega), ce_in (by omega), nm_e ⟨ce_in (by omega), pk_eq L 0 h0 (fun n => ?_)⟩⟩
  exact ⟨ce_in ht, nm_e ⟨ce_in ht, nm_e ⟨ce_in ht, nm_e ⟨ce_in ht, nm_e ⟨ce_in ht, nm_e ⟨ce_in ht, nm_e ⟨ce_in ht, nm_e ⟨ce_in ht, nm_e (nm_e (h1 (by omega)))⟩⟩⟩⟩⟩⟩⟩⟩
theorem yb_99 {post : Int32 → SY → Prop} {t a L : Nat} {cl am ar en : Int32} (ht : t < 5) (hc : ce_CL cl) (ha : a < 6) (hL : len a = nI L) (hl : L ≤ 24)
    (h0 : L = 0 → post 0 (ylim, ev, wa, rf, nI t, yend, yans, yrest, ybeg, yres, yused, ycalls, yver, ykept, yop, ybs, len, ce_mv st cl a am, cps, old, bef, ywm, wcp, ecp, mcp, rcp, evl, yms, ysf, ycl, yam, yar, ygv, yel, yat, ytp, stk))
    (h1 : 0 < L → post 1 (ylim, ev, wa, rf, nI (t + 1), yend, yans, yrest, ybeg, yres, yused, ycalls, yver, ykept, yop, ybs, len, ce_mv st cl a am, cps, old, bef, ywm, wcp, ecp, mcp, rcp, evl, yms, upd ysf t (nI a), upd ycl t cl, upd yam t am, upd yar t ar, upd ygv t en, upd yel t en, upd yat t 0, upd ytp t 0, stk)) : wY_begin_99 post (nI a) am ar cl en (ylim) (ev) (wa) (rf) (nI t) (yend) (yans) (yrest) (ybeg) (yres) (yused) (ycalls) (yver) (ykept) (yop) (ybs) (len) (st) (cps) (old) (bef) (ywm) (wcp) (ecp) (mcp) (rcp) (evl) (yms) (ysf) (ycl) (yam) (yar) (ygv) (yel) (yat) (ytp) (stk) := by
  unfold wY_begin_99
  rcases hc with rfl | ⟨c, hc, rfl⟩
  · exact br_t (by decide) (yb_119 ht ha hL hl h0 h1)
  · refine br_f (ce_neg hc) ?_
    rw [ce_mL5 c, ce_a4, ce_cl (t := 5 * c + 4) (by omega)]
    have e1 : ce_tk st (nI c) am = upd st (5 * c + 4) (st (5 * c + 4) - am) := by
      unfold ce_tk
      rw [if_neg (ce_neg1 hc), ce_cl (by omega)]
    unfold ce_mv at h0 h1
    rw [e1] at h0 h1
    exact ⟨ce_in (by omega), ce_in (by omega), nm_e (yb_119 ht ha hL hl h0 h1)⟩
theorem yb_ok {post : Int32 → SY → Prop} {t a L : Nat} {cl am ar en : Int32} (hd : t ≤ 5) (hc : ce_CL cl) (ha : a < 6) (hB : ce_BL st) (hD : ¬ ce_DN st t cl a am) (hL : len a = nI L) (hl : L ≤ 24) (hw : ∀ j, j < 24 → vp_nar .boolean (ywm j) = ywm j)
    (h0 : L = 0 → post 0 (ylim, ev, wa, rf, nI t, 0, 0, en, ybeg + 1, yres, yused, ycalls, yver, ykept, yop, ybs, len, ce_mv st cl a am, cps, old, bef, ywm, wcp, ecp, mcp, rcp, evl, yms, ysf, ycl, yam, yar, ygv, yel, yat, ytp, stk))
    (h1 : 0 < L → post 1 (ylim, ev, wa, rf, nI (t + 1), 0, 0, en, ybeg + 1, yres, yused, ycalls, yver, ykept, yop, ybs, len, ce_mv st cl a am, ce_cp cps (30 * t) 30 st, old, bef, ywm, ce_cp wcp (24 * t) 24 ywm, upd ecp t ev, upd mcp t wa, upd rcp t rf, evl, yms, upd ysf t (nI a), upd ycl t cl, upd yam t am, upd yar t ar, upd ygv t en, upd yel t en, upd yat t 0, upd ytp t 0, stk)) : wpY_begin post (ylim, ev, wa, rf, nI t, yend, yans, yrest, ybeg, yres, yused, ycalls, yver, ykept, yop, ybs, len, st, cps, old, bef, ywm, wcp, ecp, mcp, rcp, evl, yms, ysf, ycl, yam, yar, ygv, yel, yat, ytp, stk) (nI a) am ar cl en := by
  have n1 : ¬ am < 0 := fun q => hD (Or.inl q)
  have ht : t < 5 := Nat.lt_of_le_of_ne hd (fun q => hD (Or.inr (Or.inl q)))
  have n3 : ¬ ∃ c, c < 6 ∧ cl = nI c ∧ st (5 * c + 4) < am := fun q => hD (Or.inr (Or.inr (Or.inl q)))
  have n4 : ¬ 1000000000 - st (5 * a + 4) < am := fun q => hD (Or.inr (Or.inr (Or.inr q)))
  have fin : wY_begin_40 post (nI a) am ar cl en (ylim) (ev) (wa) (rf) (nI t) (4) (0) (en) (ybeg) (yres) (yused) (ycalls) (yver) (ykept) (yop) (ybs) (len) (st) (cps) (old) (bef) (ywm) (wcp) (ecp) (mcp) (rcp) (evl) (yms) (ysf) (ycl) (yam) (yar) (ygv) (yel) (yat) (ytp) (stk) := by
    obtain ⟨x, hx, rfl⟩ := nI_of n1
    obtain ⟨m, hm, em⟩ := hB a ha
    have n5 : ¬ (1000000000 : Int64) < (nI m).toInt64 + (nI x).toInt64 := by rw [ce_sum hm (by omega), ← em]; exact n4
    unfold wY_begin_40
    rw [ce_mL5, ce_a4, ce_cl (t := 5 * a + 4) (by omega), em, ce_cl (t := a) (by omega), hL]
    refine ⟨ce_in (by omega), br_f n5 (pk_eq t 5 (fun q => absurd q (by omega)) (fun _ => nm_e ⟨ce_in (by omega), pk_le L 0 (fun q => ?_) (fun q => ?_)⟩))⟩
    · exact yb_99 ht hc ha hL hl h0 (fun q2 => absurd q2 (by omega))
    · exact yw_save ht hw (yb_99 ht hc ha hL hl (fun q2 => absurd q2 (by omega)) h1)
  unfold wpY_begin
  refine br_f n1 ?_
  rcases hc with rfl | ⟨c, hc, rfl⟩
  · exact br_t (by decide) fin
  · refine br_f (ce_neg hc) ?_
    rw [ce_mL5 c, ce_a4, ce_cl (t := 5 * c + 4) (by omega)]
    exact ⟨ce_in (by omega), br_f (fun q => n3 ⟨c, hc, rfl, q⟩) fin⟩
end
