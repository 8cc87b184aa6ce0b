section
variable {xlim xps xvn xkc ev wa wm rf dp ea er lr lu lc ylim yend yans yrest ybeg yres yused ycalls yver ykept : Int32} {xop xnum len st vers evl xms own clr amt arg eg el pos hgt stk sst sev sw swm srf yop ybs cps old bef ywm wcp ecp mcp rcp yms ysf ycl yam yar ygv yel yat ytp : Nat → Int32}
theorem ys_202f {post : SY → Prop} {V' : SY} {x1 x2 x3 x4 x7 z0 : Int32} (hE : ∀ P : SY → Prop, P V' → wpY_end P (ylim, ev, wa, rf, dp, yend, yans, yrest, ybeg, yres, yused, ycalls, yver, ykept, yop, ybs, len, st, cps, old, bef, ywm, wcp, ecp, mcp, rcp, evl, yms, ysf, ycl, yam, yar, ygv, yel, yat, ytp, stk) 3 0) (hp : post V') : wY_step_202 post x1 x2 x3 x4 0 x7 z0 (ylim) (ev) (wa) (rf) (dp) (yend) (yans) (yrest) (ybeg) (yres) (yused) (ycalls) (yver) (ykept) (yop) (ybs) (len) (st) (cps) (old) (bef) (ywm) (wcp) (ecp) (mcp) (rcp) (evl) (yms) (ysf) (ycl) (yam) (yar) (ygv) (yel) (yat) (ytp) (stk) := by
  unfold wY_step_202 wY_step_235
  exact br_t rfl (hE _ hp)
theorem ys_185f {post : SY → Prop} {V' : SY} {x1 x2 x3 x4 x7 : Int32} (hE : ∀ P : SY → Prop, P V' → wpY_end P (ylim, ev, wa, rf, dp, yend, yans, yrest, ybeg, yres, yused, ycalls, yver, ykept, yop, ybs, len, st, cps, old, bef, ywm, wcp, ecp, mcp, rcp, evl, yms, ysf, ycl, yam, yar, ygv, yel, yat, ytp, stk) 3 0) (hp : post V') : wY_step_185 post x1 x2 x3 x4 0 x7 (ylim) (ev) (wa) (rf) (dp) (yend) (yans) (yrest) (ybeg) (yres) (yused) (ycalls) (yver) (ykept) (yop) (ybs) (len) (st) (cps) (old) (bef) (ywm) (wcp) (ecp) (mcp) (rcp) (evl) (yms) (ysf) (ycl) (yam) (yar) (ygv) (yel) (yat) (ytp) (stk) := by
  unfold wY_step_185 wY_step_197
  exact br_c (fun _ => ys_202f hE hp) (fun _ => br_c (fun _ => ys_202f hE hp) (fun _ => ys_202f hE hp))
theorem ys_126 {post : SY → Prop} {V' : SY} {t x : Nat} {x3 x4 : Int32} (ht : t < 5) (hx : x < 168) (hE : ∀ P : SY → Prop, P V' → wpY_end P (ylim, ev, wa, rf, dp, yend, yans, yrest, ybeg, yres, yused, ycalls, yver, ykept, yop, ybs, len, st, cps, old, bef, ywm, wcp, ecp, mcp, rcp, evl, yms, ysf, ycl, yam, yar, ygv, yel, yat, ytp, stk) 3 0) (hp : post V') : wY_step_126 post (nI t) (nI x) x3 x4 (ylim) (ev) (wa) (rf) (dp) (yend) (yans) (yrest) (ybeg) (yres) (yused) (ycalls) (yver) (ykept) (yop) (ybs) (len) (st) (cps) (old) (bef) (ywm) (wcp) (ecp) (mcp) (rcp) (evl) (yms) (ysf) (ycl) (yam) (yar) (ygv) (yel) (yat) (ytp) (stk) := by
  unfold wY_step_126 wY_step_127
  refine ⟨ce_in ht, nm_e (br_c (fun _ => ?_) (fun _ => br_c (fun _ => br_t rfl (ys_185f hE hp)) (fun _ => ys_185f hE hp)))⟩
  unfold wY_step_177
  exact ⟨ce_in hx, nm_e (ys_185f hE hp)⟩
theorem ys_127 {post : SY → Prop} {t p k h0 x : Nat} {b x4 : Int32} (ht : t < 5) (hx : x < 168) (hpos : yat t = nI p) (hb : ybs x = b) (hk : k < 24) (hh : ytp t = nI (h0 + ce_tkn k)) (hh6 : h0 + ce_tkn k ≤ 6) (hp : wY_step_185 post (nI t) (nI x) (nI k) x4 1 (ce_ny k b p (stk (6 * t + h0))) (ylim) (ev) (wa) (rf) (dp) (yend) (yans) (yrest) (ybeg) (yres) (yused) (ycalls) (yver) (ykept) (yop) (ybs) (len) (st) (cps) (old) (bef) (ywm) (wcp) (ecp) (mcp) (rcp) (evl) (yms) (ysf) (ycl) (yam) (yar) (ygv) (yel) (yat) (ytp) (stk)) : wY_step_127 post (nI t) (nI x) (nI k) x4 1 (ylim) (ev) (wa) (rf) (dp) (yend) (yans) (yrest) (ybeg) (yres) (yused) (ycalls) (yver) (ykept) (yop) (ybs) (len) (st) (cps) (old) (bef) (ywm) (wcp) (ecp) (mcp) (rcp) (evl) (yms) (ysf) (ycl) (yam) (yar) (ygv) (yel) (yat) (ytp) (stk) := by
  unfold ce_ny at hp
  have h177 : (k = 16 ∨ (k = 17 ∧ stk (6 * t + h0) = 0)) → wY_step_177 post (nI t) (nI x) (nI k) x4 1 (ylim) (ev) (wa) (rf) (dp) (yend) (yans) (yrest) (ybeg) (yres) (yused) (ycalls) (yver) (ykept) (yop) (ybs) (len) (st) (cps) (old) (bef) (ywm) (wcp) (ecp) (mcp) (rcp) (evl) (yms) (ysf) (ycl) (yam) (yar) (ygv) (yel) (yat) (ytp) (stk) := by
    intro q
    rw [if_pos q] at hp
    unfold wY_step_177
    rw [ce_cl (by omega), hb]
    exact ⟨ce_in hx, nm_e hp⟩
  unfold wY_step_127
  rw [ce_cl (t := t) (by omega), hpos, nI_1]
  refine ⟨ce_in ht, nm_e (pk_eq k 16 (fun q => h177 (Or.inl q)) (fun n16 => pk_eq k 17 (fun q => br_f (by decide) ?_) (fun n17 => ?_)))⟩
  · have h1 : ce_tkn k = 1 := by rw [q]; rfl
    rw [hh, h1, ce_mL6, nI_add, show 6 * t + (h0 + 1) = (6 * t + h0) + 1 from rfl, nI_pred, ce_cl (by omega)]
    refine ⟨ce_in ht, ce_in (by omega), br_c (fun z => h177 (Or.inr ⟨q, z⟩)) (fun z => ?_)⟩
    rw [if_neg (fun q2 => q2.elim n16 (fun q3 => z q3.2))] at hp
    exact hp
  · rw [if_neg (fun q2 => q2.elim n16 (fun q3 => n17 q3.1))] at hp
    exact hp
theorem ys_out {post : SY → Prop} {V' : SY} {t a p k c L e : Nat} {b : Int32} (ht : t < 5) (ha : a < 6) (hown : ysf t = nI a) (hlen : len a = nI L) (hL : L ≤ 24) (hpos : yat t = nI p) (hpL : p < L) (hop : yop (24 * a + p) = nI k) (hk : k < 24) (hb : ybs (24 * a + p) = b) (hc : b &&& 3 = nI c) (hc4 : c < 4) (hel : yel t = nI e) (he : e ≤ 1000) (hW : ce_WR wm ywm) (hC : e < ce_cost k (bt wm (5 * a + c))) (hE : ∀ P : SY → Prop, P V' → wpY_end P (ylim, ev, wa, rf, nI (t + 1), yend, yans, yrest, ybeg, yres, yused, ycalls, yver, ykept, yop, ybs, len, st, cps, old, bef, ywm, wcp, ecp, mcp, rcp, evl, yms, ysf, ycl, yam, yar, ygv, yel, yat, ytp, stk) 2 0) (hp : post V') : wpY_step post (ylim, ev, wa, rf, nI (t + 1), yend, yans, yrest, ybeg, yres, yused, ycalls, yver, ykept, yop, ybs, len, st, cps, old, bef, ywm, wcp, ecp, mcp, rcp, evl, yms, ysf, ycl, yam, yar, ygv, yel, yat, ytp, stk) := by
  unfold wpY_step
  refine nm_r (nI_pred t) ⟨ce_in ht, ce_in ht, nm_r (show 24 * ysf (nI t).toNatClampNeg + yat (nI t).toNatClampNeg = nI (24 * a + p) from by rw [ce_cl (by omega), hpos, hown, ce_mL24, nI_add]) ⟨ce_in (by omega), nm_r (show yop (nI (24 * a + p)).toNatClampNeg = nI k from by rw [ce_cl (by omega), hop]) ⟨ce_in ht, ce_in (by omega), nm_r (show 4 * ysf (nI t).toNatClampNeg + (ybs (nI (24 * a + p)).toNatClampNeg &&& 3) = nI (4 * a + c) from by rw [ce_cl (by omega), ce_cl (by omega), hown, hb, hc, ce_mL4, nI_add]) ?_⟩⟩⟩
  refine yw_cost hk ha hc4 hW ?_
  rw [ce_cl (t := t) (by omega), hel]
  have hC8 := (ce_cost_le k (bt wm (5 * a + c))).2
  exact ⟨ce_in ht, br_f (nI_ge hC (by omega)) (hE _ hp)⟩
theorem ys_low {post : SY → Prop} {V' : SY} {t a p k c L e : Nat} {b : Int32} (ht : t < 5) (ha : a < 6) (hown : ysf t = nI a) (hlen : len a = nI L) (hL : L ≤ 24) (hpos : yat t = nI p) (hpL : p < L) (hop : yop (24 * a + p) = nI k) (hk : k < 24) (hb : ybs (24 * a + p) = b) (hc : b &&& 3 = nI c) (hc4 : c < 4) (hel : yel t = nI e) (he : e ≤ 1000) (hW : ce_WR wm ywm) (hC : ce_cost k (bt wm (5 * a + c)) ≤ e) {h : Nat} (hh : ytp t = nI h) (hlo : h < ce_tkn k) (hE : ∀ P : SY → Prop, P V' → wpY_end P (ylim, ev, wa, rf, nI (t + 1), yend, yans, yrest, ybeg, yres, yused, ycalls, yver, ykept, yop, ybs, len, st, cps, old, bef, ywm, wcp, ecp, mcp, rcp, evl, yms, ysf, ycl, yam, yar, ygv, upd yel t (nI (e - ce_cost k (bt wm (5 * a + c)))), yat, ytp, stk) 3 0) (hp : post V') : wpY_step post (ylim, ev, wa, rf, nI (t + 1), yend, yans, yrest, ybeg, yres, yused, ycalls, yver, ykept, yop, ybs, len, st, cps, old, bef, ywm, wcp, ecp, mcp, rcp, evl, yms, ysf, ycl, yam, yar, ygv, yel, yat, ytp, stk) := by
  unfold wpY_step
  refine nm_r (nI_pred t) ⟨ce_in ht, ce_in ht, nm_r (show 24 * ysf (nI t).toNatClampNeg + yat (nI t).toNatClampNeg = nI (24 * a + p) from by rw [ce_cl (by omega), hpos, hown, ce_mL24, nI_add]) ⟨ce_in (by omega), nm_r (show yop (nI (24 * a + p)).toNatClampNeg = nI k from by rw [ce_cl (by omega), hop]) ⟨ce_in ht, ce_in (by omega), nm_r (show 4 * ysf (nI t).toNatClampNeg + (ybs (nI (24 * a + p)).toNatClampNeg &&& 3) = nI (4 * a + c) from by rw [ce_cl (by omega), ce_cl (by omega), hown, hb, hc, ce_mL4, nI_add]) ?_⟩⟩⟩
  refine yw_cost hk ha hc4 hW ?_
  rw [ce_cl (t := t) (by omega), hel]
  have hC8 := (ce_cost_le k (bt wm (5 * a + c))).2
  refine ⟨ce_in ht, br_t (nI_le hC (by omega)) ⟨ce_in ht, ce_in ht, nm_r (congrArg (upd yel t) (pk_sub hC)) ⟨ce_in ht, yw_tkn hk ?_⟩⟩⟩
  have hk3 := ce_tkn_le k
  have hk2 := ce_add_le k
  rw [hh]
  exact br_t (nI_lt hlo (by omega)) (ys_126 ht (by omega) hE hp)
theorem ys_hig {post : SY → Prop} {V' : SY} {t a p k c L e : Nat} {b : Int32} (ht : t < 5) (ha : a < 6) (hown : ysf t = nI a) (hlen : len a = nI L) (hL : L ≤ 24) (hpos : yat t = nI p) (hpL : p < L) (hop : yop (24 * a + p) = nI k) (hk : k < 24) (hb : ybs (24 * a + p) = b) (hc : b &&& 3 = nI c) (hc4 : c < 4) (hel : yel t = nI e) (he : e ≤ 1000) (hW : ce_WR wm ywm) (hC : ce_cost k (bt wm (5 * a + c)) ≤ e) {h0 : Nat} (hh : ytp t = nI (h0 + ce_tkn k)) (hh6 : h0 + ce_tkn k ≤ 6) (hhi : 6 < h0 + ce_add k) (hE : ∀ P : SY → Prop, P V' → wpY_end P (ylim, ev, wa, rf, nI (t + 1), yend, yans, yrest, ybeg, yres, yused, ycalls, yver, ykept, yop, ybs, len, st, cps, old, bef, ywm, wcp, ecp, mcp, rcp, evl, yms, ysf, ycl, yam, yar, ygv, upd yel t (nI (e - ce_cost k (bt wm (5 * a + c)))), yat, ytp, stk) 3 0) (hp : post V') : wpY_step post (ylim, ev, wa, rf, nI (t + 1), yend, yans, yrest, ybeg, yres, yused, ycalls, yver, ykept, yop, ybs, len, st, cps, old, bef, ywm, wcp, ecp, mcp, rcp, evl, yms, ysf, ycl, yam, yar, ygv, yel, yat, ytp, stk) := by
  unfold wpY_step
  refine nm_r (nI_pred t) ⟨ce_in ht, ce_in ht, nm_r (show 24 * ysf (nI t).toNatClampNeg + yat (nI t).toNatClampNeg = nI (24 * a + p) from by rw [ce_cl (by omega), hpos, hown, ce_mL24, nI_add]) ⟨ce_in (by omega), nm_r (show yop (nI (24 * a + p)).toNatClampNeg = nI k from by rw [ce_cl (by omega), hop]) ⟨ce_in ht, ce_in (by omega), nm_r (show 4 * ysf (nI t).toNatClampNeg + (ybs (nI (24 * a + p)).toNatClampNeg &&& 3) = nI (4 * a + c) from by rw [ce_cl (by omega), ce_cl (by omega), hown, hb, hc, ce_mL4, nI_add]) ?_⟩⟩⟩
  refine yw_cost hk ha hc4 hW ?_
  rw [ce_cl (t := t) (by omega), hel]
  have hC8 := (ce_cost_le k (bt wm (5 * a + c))).2
  refine ⟨ce_in ht, br_t (nI_le hC (by omega)) ⟨ce_in ht, ce_in ht, nm_r (congrArg (upd yel t) (pk_sub hC)) ⟨ce_in ht, yw_tkn hk ?_⟩⟩⟩
  have hk3 := ce_tkn_le k
  have hk2 := ce_add_le k
  rw [hh]
  refine br_f (nI_nlt (by omega) (by omega)) ⟨ce_in ht, yw_tkn hk (yw_add hk ?_)⟩
  rw [show nI (h0 + ce_tkn k) - nI (ce_tkn k) + nI (ce_add k) = nI (h0 + ce_add k) from by rw [pk_sub (by omega), nI_add]; exact congrArg nI (by omega)]
  exact br_t (nI_lt (a := 6) hhi (by omega)) (ys_126 ht (by omega) hE hp)
theorem ys_jmp {post : SY → Prop} {V' : SY} {t a p k c L e : Nat} {b : Int32} (ht : t < 5) (ha : a < 6) (hown : ysf t = nI a) (hlen : len a = nI L) (hL : L ≤ 24) (hpos : yat t = nI p) (hpL : p < L) (hop : yop (24 * a + p) = nI k) (hk : k < 24) (hb : ybs (24 * a + p) = b) (hc : b &&& 3 = nI c) (hc4 : c < 4) (hel : yel t = nI e) (he : e ≤ 1000) (hW : ce_WR wm ywm) (hC : ce_cost k (bt wm (5 * a + c)) ≤ e) {h0 : Nat} (hh : ytp t = nI (h0 + ce_tkn k)) (hh6 : h0 + ce_tkn k ≤ 6) (h6 : h0 + ce_add k ≤ 6) (n19 : k ≠ 19) (n20 : k ≠ 20) (hn : ce_ny k b p (stk (6 * t + h0)) < 0 ∨ ¬ ce_ny k b p (stk (6 * t + h0)) < nI L) (hE : ∀ P : SY → Prop, P V' → wpY_end P (ylim, ev, wa, rf, nI (t + 1), yend, yans, yrest, ybeg, yres, yused, ycalls, yver, ykept, yop, ybs, len, st, cps, old, bef, ywm, wcp, ecp, mcp, rcp, evl, yms, ysf, ycl, yam, yar, ygv, upd yel t (nI (e - ce_cost k (bt wm (5 * a + c)))), yat, ytp, stk) 3 0) (hp : post V') : wpY_step post (ylim, ev, wa, rf, nI (t + 1), yend, yans, yrest, ybeg, yres, yused, ycalls, yver, ykept, yop, ybs, len, st, cps, old, bef, ywm, wcp, ecp, mcp, rcp, evl, yms, ysf, ycl, yam, yar, ygv, yel, yat, ytp, stk) := by
  unfold wpY_step
  refine nm_r (nI_pred t) ⟨ce_in ht, ce_in ht, nm_r (show 24 * ysf (nI t).toNatClampNeg + yat (nI t).toNatClampNeg = nI (24 * a + p) from by rw [ce_cl (by omega), hpos, hown, ce_mL24, nI_add]) ⟨ce_in (by omega), nm_r (show yop (nI (24 * a + p)).toNatClampNeg = nI k from by rw [ce_cl (by omega), hop]) ⟨ce_in ht, ce_in (by omega), nm_r (show 4 * ysf (nI t).toNatClampNeg + (ybs (nI (24 * a + p)).toNatClampNeg &&& 3) = nI (4 * a + c) from by rw [ce_cl (by omega), ce_cl (by omega), hown, hb, hc, ce_mL4, nI_add]) ?_⟩⟩⟩
  refine yw_cost hk ha hc4 hW ?_
  rw [ce_cl (t := t) (by omega), hel]
  have hC8 := (ce_cost_le k (bt wm (5 * a + c))).2
  refine ⟨ce_in ht, br_t (nI_le hC (by omega)) ⟨ce_in ht, ce_in ht, nm_r (congrArg (upd yel t) (pk_sub hC)) ⟨ce_in ht, yw_tkn hk ?_⟩⟩⟩
  have hk3 := ce_tkn_le k
  have hk2 := ce_add_le k
  rw [hh]
  refine br_f (nI_nlt (by omega) (by omega)) ⟨ce_in ht, yw_tkn hk (yw_add hk ?_)⟩
  rw [show nI (h0 + ce_tkn k) - nI (ce_tkn k) + nI (ce_add k) = nI (h0 + ce_add k) from by rw [pk_sub (by omega), nI_add]; exact congrArg nI (by omega)]
  refine br_f (nI_nlt (a := 6) h6 (by decide)) (ys_127 ht (by omega) hpos hb hk hh hh6 ?_)
  unfold wY_step_185
  refine pk_eq k 19 (fun q => absurd q n19) (fun _ => pk_eq k 20 (fun q => absurd q n20) (fun _ => ?_))
  unfold wY_step_202 wY_step_235
  rw [ce_cl (t := t) (by omega), hown, ce_cl (t := a) (by omega), hlen]
  exact br_f (by decide) (br_t rfl (br_c (fun _ => hE _ hp) (fun n0 => ⟨ce_in ht, ce_in (by omega), br_f (hn.resolve_left n0) (hE _ hp)⟩)))
theorem ys_sim {post : SY → Prop} {V' : SY} {t a p k c L e : Nat} {b : Int32} (ht : t < 5) (ha : a < 6) (hown : ysf t = nI a) (hlen : len a = nI L) (hL : L ≤ 24) (hpos : yat t = nI p) (hpL : p < L) (hop : yop (24 * a + p) = nI k) (hk : k < 24) (hb : ybs (24 * a + p) = b) (hc : b &&& 3 = nI c) (hc4 : c < 4) (hel : yel t = nI e) (he : e ≤ 1000) (hW : ce_WR wm ywm) (hC : ce_cost k (bt wm (5 * a + c)) ≤ e) {h0 : Nat} (hh : ytp t = nI (h0 + ce_tkn k)) (hh6 : h0 + ce_tkn k ≤ 6) (h6 : h0 + ce_add k ≤ 6) (n19 : k ≠ 19) (n20 : k ≠ 20) {p' : Nat} (hn : ce_ny k b p (stk (6 * t + h0)) = nI p') (hp' : p' < L) (h8 : k < 8) (hE : ∀ P : SY → Prop, P V' → wpY_simple P (ylim, ev, wa, rf, nI (t + 1), yend, yans, yrest, ybeg, yres, yused, ycalls, yver, ykept, yop, ybs, len, st, cps, old, bef, ywm, wcp, ecp, mcp, rcp, evl, yms, ysf, ycl, yam, yar, ygv, upd yel t (nI (e - ce_cost k (bt wm (5 * a + c)))), upd yat t (nI p'), ytp, stk) (nI k) b (nI (4 * a + c))) (hp : post V') : wpY_step post (ylim, ev, wa, rf, nI (t + 1), yend, yans, yrest, ybeg, yres, yused, ycalls, yver, ykept, yop, ybs, len, st, cps, old, bef, ywm, wcp, ecp, mcp, rcp, evl, yms, ysf, ycl, yam, yar, ygv, yel, yat, ytp, stk) := by
  unfold wpY_step
  refine nm_r (nI_pred t) ⟨ce_in ht, ce_in ht, nm_r (show 24 * ysf (nI t).toNatClampNeg + yat (nI t).toNatClampNeg = nI (24 * a + p) from by rw [ce_cl (by omega), hpos, hown, ce_mL24, nI_add]) ⟨ce_in (by omega), nm_r (show yop (nI (24 * a + p)).toNatClampNeg = nI k from by rw [ce_cl (by omega), hop]) ⟨ce_in ht, ce_in (by omega), nm_r (show 4 * ysf (nI t).toNatClampNeg + (ybs (nI (24 * a + p)).toNatClampNeg &&& 3) = nI (4 * a + c) from by rw [ce_cl (by omega), ce_cl (by omega), hown, hb, hc, ce_mL4, nI_add]) ?_⟩⟩⟩
  refine yw_cost hk ha hc4 hW ?_
  rw [ce_cl (t := t) (by omega), hel]
  have hC8 := (ce_cost_le k (bt wm (5 * a + c))).2
  refine ⟨ce_in ht, br_t (nI_le hC (by omega)) ⟨ce_in ht, ce_in ht, nm_r (congrArg (upd yel t) (pk_sub hC)) ⟨ce_in ht, yw_tkn hk ?_⟩⟩⟩
  have hk3 := ce_tkn_le k
  have hk2 := ce_add_le k
  rw [hh]
  refine br_f (nI_nlt (by omega) (by omega)) ⟨ce_in ht, yw_tkn hk (yw_add hk ?_)⟩
  rw [show nI (h0 + ce_tkn k) - nI (ce_tkn k) + nI (ce_add k) = nI (h0 + ce_add k) from by rw [pk_sub (by omega), nI_add]; exact congrArg nI (by omega)]
  refine br_f (nI_nlt (a := 6) h6 (by decide)) (ys_127 ht (by omega) hpos hb hk hh hh6 ?_)
  unfold wY_step_185
  refine pk_eq k 19 (fun q => absurd q n19) (fun _ => pk_eq k 20 (fun q => absurd q n20) (fun _ => ?_))
  unfold wY_step_202
  rw [ce_cl (t := t) (by omega), hown, ce_cl (t := a) (by omega), hlen, hn]
  refine br_f (by decide) (br_t rfl (br_f (nI_pos (by omega)) ⟨ce_in ht, ce_in (by omega), br_t (nI_lt hp' (by omega)) ?_⟩))
  unfold wY_step_242
  rw [ce_cl (t := t) (by omega)]
  refine ⟨ce_in ht, nm_e (br_t rfl ?_)⟩
  rw [ce_cl (t := 24 * a + p) (by omega), hb]
  exact br_f (nI_ge (b := 8) h8 (by decide)) ⟨ce_in (by omega), hE _ hp⟩
theorem ys_stk {post : SY → Prop} {V' : SY} {t a p k c L e : Nat} {b : Int32} (ht : t < 5) (ha : a < 6) (hown : ysf t = nI a) (hlen : len a = nI L) (hL : L ≤ 24) (hpos : yat t = nI p) (hpL : p < L) (hop : yop (24 * a + p) = nI k) (hk : k < 24) (hb : ybs (24 * a + p) = b) (hc : b &&& 3 = nI c) (hc4 : c < 4) (hel : yel t = nI e) (he : e ≤ 1000) (hW : ce_WR wm ywm) (hC : ce_cost k (bt wm (5 * a + c)) ≤ e) {h0 : Nat} (hh : ytp t = nI (h0 + ce_tkn k)) (hh6 : h0 + ce_tkn k ≤ 6) (h6 : h0 + ce_add k ≤ 6) (n19 : k ≠ 19) (n20 : k ≠ 20) {p' : Nat} (hn : ce_ny k b p (stk (6 * t + h0)) = nI p') (hp' : p' < L) (h8 : 8 ≤ k) (h18 : k < 18) (hE : ∀ P : SY → Prop, P V' → wpY_onStack P (ylim, ev, wa, rf, nI (t + 1), yend, yans, yrest, ybeg, yres, yused, ycalls, yver, ykept, yop, ybs, len, st, cps, old, bef, ywm, wcp, ecp, mcp, rcp, evl, yms, ysf, ycl, yam, yar, ygv, upd yel t (nI (e - ce_cost k (bt wm (5 * a + c)))), upd yat t (nI p'), ytp, stk) (nI k)) (hp : post V') : wpY_step post (ylim, ev, wa, rf, nI (t + 1), yend, yans, yrest, ybeg, yres, yused, ycalls, yver, ykept, yop, ybs, len, st, cps, old, bef, ywm, wcp, ecp, mcp, rcp, evl, yms, ysf, ycl, yam, yar, ygv, yel, yat, ytp, stk) := by
  unfold wpY_step
  refine nm_r (nI_pred t) ⟨ce_in ht, ce_in ht, nm_r (show 24 * ysf (nI t).toNatClampNeg + yat (nI t).toNatClampNeg = nI (24 * a + p) from by rw [ce_cl (by omega), hpos, hown, ce_mL24, nI_add]) ⟨ce_in (by omega), nm_r (show yop (nI (24 * a + p)).toNatClampNeg = nI k from by rw [ce_cl (by omega), hop]) ⟨ce_in ht, ce_in (by omega), nm_r (show 4 * ysf (nI t).toNatClampNeg + (ybs (nI (24 * a + p)).toNatClampNeg &&& 3) = nI (4 * a + c) from by rw [ce_cl (by omega), ce_cl (by omega), hown, hb, hc, ce_mL4, nI_add]) ?_⟩⟩⟩
  refine yw_cost hk ha hc4 hW ?_
  rw [ce_cl (t := t) (by omega), hel]
  have hC8 := (ce_cost_le k (bt wm (5 * a + c))).2
  refine ⟨ce_in ht, br_t (nI_le hC (by omega)) ⟨ce_in ht, ce_in ht, nm_r (congrArg (upd yel t) (pk_sub hC)) ⟨ce_in ht, yw_tkn hk ?_⟩⟩⟩
  have hk3 := ce_tkn_le k
  have hk2 := ce_add_le k
  rw [hh]
  refine br_f (nI_nlt (by omega) (by omega)) ⟨ce_in ht, yw_tkn hk (yw_add hk ?_)⟩
  rw [show nI (h0 + ce_tkn k) - nI (ce_tkn k) + nI (ce_add k) = nI (h0 + ce_add k) from by rw [pk_sub (by omega), nI_add]; exact congrArg nI (by omega)]
  refine br_f (nI_nlt (a := 6) h6 (by decide)) (ys_127 ht (by omega) hpos hb hk hh hh6 ?_)
  unfold wY_step_185
  refine pk_eq k 19 (fun q => absurd q n19) (fun _ => pk_eq k 20 (fun q => absurd q n20) (fun _ => ?_))
  unfold wY_step_202
  rw [ce_cl (t := t) (by omega), hown, ce_cl (t := a) (by omega), hlen, hn]
  refine br_f (by decide) (br_t rfl (br_f (nI_pos (by omega)) ⟨ce_in ht, ce_in (by omega), br_t (nI_lt hp' (by omega)) ?_⟩))
  unfold wY_step_242
  rw [ce_cl (t := t) (by omega)]
  refine ⟨ce_in ht, nm_e (br_t rfl ?_)⟩
  exact br_t (nI_le (a := 8) h8 (by omega)) (br_f (nI_ge (b := 18) h18 (by decide)) (hE _ hp))
theorem ys_oth {post : SY → Prop} {V' : SY} {t a p k c L e : Nat} {b : Int32} (ht : t < 5) (ha : a < 6) (hown : ysf t = nI a) (hlen : len a = nI L) (hL : L ≤ 24) (hpos : yat t = nI p) (hpL : p < L) (hop : yop (24 * a + p) = nI k) (hk : k < 24) (hb : ybs (24 * a + p) = b) (hc : b &&& 3 = nI c) (hc4 : c < 4) (hel : yel t = nI e) (he : e ≤ 1000) (hW : ce_WR wm ywm) (hC : ce_cost k (bt wm (5 * a + c)) ≤ e) {h0 : Nat} (hh : ytp t = nI (h0 + ce_tkn k)) (hh6 : h0 + ce_tkn k ≤ 6) (h6 : h0 + ce_add k ≤ 6) (n19 : k ≠ 19) (n20 : k ≠ 20) {p' : Nat} (hn : ce_ny k b p (stk (6 * t + h0)) = nI p') (hp' : p' < L) (h18 : 18 ≤ k) (hE : ∀ P : SY → Prop, P V' → wpY_other P (ylim, ev, wa, rf, nI (t + 1), yend, yans, yrest, ybeg, yres, yused, ycalls, yver, ykept, yop, ybs, len, st, cps, old, bef, ywm, wcp, ecp, mcp, rcp, evl, yms, ysf, ycl, yam, yar, ygv, upd yel t (nI (e - ce_cost k (bt wm (5 * a + c)))), upd yat t (nI p'), ytp, stk) (nI k) b) (hp : post V') : wpY_step post (ylim, ev, wa, rf, nI (t + 1), yend, yans, yrest, ybeg, yres, yused, ycalls, yver, ykept, yop, ybs, len, st, cps, old, bef, ywm, wcp, ecp, mcp, rcp, evl, yms, ysf, ycl, yam, yar, ygv, yel, yat, ytp, stk) := by
  unfold wpY_step
  refine nm_r (nI_pred t) ⟨ce_in ht, ce_in ht, nm_r (show 24 * ysf (nI t).toNatClampNeg + yat (nI t).toNatClampNeg = nI (24 * a + p) from by rw [ce_cl (by omega), hpos, hown, ce_mL24, nI_add]) ⟨ce_in (by omega), nm_r (show yop (nI (24 * a + p)).toNatClampNeg = nI k from by rw [ce_cl (by omega), hop]) ⟨ce_in ht, ce_in (by omega), nm_r (show 4 * ysf (nI t).toNatClampNeg + (ybs (nI (24 * a + p)).toNatClampNeg &&& 3) = nI (4 * a + c) from by rw [ce_cl (by omega), ce_cl (by omega), hown, hb, hc, ce_mL4, nI_add]) ?_⟩⟩⟩
  refine yw_cost hk ha hc4 hW ?_
  rw [ce_cl (t := t) (by omega), hel]
  have hC8 := (ce_cost_le k (bt wm (5 * a + c))).2
  refine ⟨ce_in ht, br_t (nI_le hC (by omega)) ⟨ce_in ht, ce_in ht, nm_r (congrArg (upd yel t) (pk_sub hC)) ⟨ce_in ht, yw_tkn hk ?_⟩⟩⟩
  have hk3 := ce_tkn_le k
  have hk2 := ce_add_le k
  rw [hh]
  refine br_f (nI_nlt (by omega) (by omega)) ⟨ce_in ht, yw_tkn hk (yw_add hk ?_)⟩
  rw [show nI (h0 + ce_tkn k) - nI (ce_tkn k) + nI (ce_add k) = nI (h0 + ce_add k) from by rw [pk_sub (by omega), nI_add]; exact congrArg nI (by omega)]
  refine br_f (nI_nlt (a := 6) h6 (by decide)) (ys_127 ht (by omega) hpos hb hk hh hh6 ?_)
  unfold wY_step_185
  refine pk_eq k 19 (fun q => absurd q n19) (fun _ => pk_eq k 20 (fun q => absurd q n20) (fun _ => ?_))
  unfold wY_step_202
  rw [ce_cl (t := t) (by omega), hown, ce_cl (t := a) (by omega), hlen, hn]
  refine br_f (by decide) (br_t rfl (br_f (nI_pos (by omega)) ⟨ce_in ht, ce_in (by omega), br_t (nI_lt hp' (by omega)) ?_⟩))
  unfold wY_step_242
  rw [ce_cl (t := t) (by omega)]
  refine ⟨ce_in ht, nm_e (br_t rfl ?_)⟩
  rw [ce_cl (t := 24 * a + p) (by omega), hb]
  exact br_t (nI_le (a := 8) (by omega) (by omega)) (br_t (nI_le (a := 18) h18 (by omega)) ⟨ce_in (by omega), hE _ hp⟩)
theorem ys_ret {post : SY → Prop} {V' : SY} {t a p k c L e : Nat} {b : Int32} (ht : t < 5) (ha : a < 6) (hown : ysf t = nI a) (hlen : len a = nI L) (hL : L ≤ 24) (hpos : yat t = nI p) (hpL : p < L) (hop : yop (24 * a + p) = nI k) (hk : k < 24) (hb : ybs (24 * a + p) = b) (hc : b &&& 3 = nI c) (hc4 : c < 4) (hel : yel t = nI e) (he : e ≤ 1000) (hW : ce_WR wm ywm) (hC : ce_cost k (bt wm (5 * a + c)) ≤ e) {h0 : Nat} (hh : ytp t = nI (h0 + ce_tkn k)) (hh6 : h0 + ce_tkn k ≤ 6) (h6 : h0 + ce_add k ≤ 6) (hkk : k = 19) (hE : ∀ P : SY → Prop, P V' → wpY_end P (ylim, ev, wa, rf, nI (t + 1), yend, yans, yrest, ybeg, yres, yused, ycalls, yver, ykept, yop, ybs, len, st, cps, old, bef, ywm, wcp, ecp, mcp, rcp, evl, yms, ysf, ycl, yam, yar, ygv, upd yel t (nI (e - ce_cost k (bt wm (5 * a + c)))), upd yat t (ce_ny k b p (stk (6 * t + h0))), upd ytp t (nI h0), stk) 0 (stk (6 * t + h0))) (hp : post V') : wpY_step post (ylim, ev, wa, rf, nI (t + 1), yend, yans, yrest, ybeg, yres, yused, ycalls, yver, ykept, yop, ybs, len, st, cps, old, bef, ywm, wcp, ecp, mcp, rcp, evl, yms, ysf, ycl, yam, yar, ygv, yel, yat, ytp, stk) := by
  unfold wpY_step
  refine nm_r (nI_pred t) ⟨ce_in ht, ce_in ht, nm_r (show 24 * ysf (nI t).toNatClampNeg + yat (nI t).toNatClampNeg = nI (24 * a + p) from by rw [ce_cl (by omega), hpos, hown, ce_mL24, nI_add]) ⟨ce_in (by omega), nm_r (show yop (nI (24 * a + p)).toNatClampNeg = nI k from by rw [ce_cl (by omega), hop]) ⟨ce_in ht, ce_in (by omega), nm_r (show 4 * ysf (nI t).toNatClampNeg + (ybs (nI (24 * a + p)).toNatClampNeg &&& 3) = nI (4 * a + c) from by rw [ce_cl (by omega), ce_cl (by omega), hown, hb, hc, ce_mL4, nI_add]) ?_⟩⟩⟩
  refine yw_cost hk ha hc4 hW ?_
  rw [ce_cl (t := t) (by omega), hel]
  have hC8 := (ce_cost_le k (bt wm (5 * a + c))).2
  refine ⟨ce_in ht, br_t (nI_le hC (by omega)) ⟨ce_in ht, ce_in ht, nm_r (congrArg (upd yel t) (pk_sub hC)) ⟨ce_in ht, yw_tkn hk ?_⟩⟩⟩
  have hk3 := ce_tkn_le k
  have hk2 := ce_add_le k
  rw [hh]
  refine br_f (nI_nlt (by omega) (by omega)) ⟨ce_in ht, yw_tkn hk (yw_add hk ?_)⟩
  rw [show nI (h0 + ce_tkn k) - nI (ce_tkn k) + nI (ce_add k) = nI (h0 + ce_add k) from by rw [pk_sub (by omega), nI_add]; exact congrArg nI (by omega)]
  refine br_f (nI_nlt (a := 6) h6 (by decide)) (ys_127 ht (by omega) hpos hb hk hh hh6 ?_)
  subst hkk
  unfold wY_step_185 wY_step_197
  refine br_t rfl ?_
  unfold wY_step_202
  refine br_f (by decide) (br_f (by decide) ?_)
  unfold wY_step_242
  rw [ce_cl (t := t) (by omega)]
  refine ⟨ce_in ht, nm_e (br_f (by decide) (yw_pop ht hh (by have : ce_tkn 19 = 1 := rfl; omega) (br_t rfl ?_)))⟩
  unfold wY_step_273
  exact hE _ hp
theorem ys_rvt {post : SY → Prop} {V' : SY} {t a p k c L e : Nat} {b : Int32} (ht : t < 5) (ha : a < 6) (hown : ysf t = nI a) (hlen : len a = nI L) (hL : L ≤ 24) (hpos : yat t = nI p) (hpL : p < L) (hop : yop (24 * a + p) = nI k) (hk : k < 24) (hb : ybs (24 * a + p) = b) (hc : b &&& 3 = nI c) (hc4 : c < 4) (hel : yel t = nI e) (he : e ≤ 1000) (hW : ce_WR wm ywm) (hC : ce_cost k (bt wm (5 * a + c)) ≤ e) {h0 : Nat} (hh : ytp t = nI (h0 + ce_tkn k)) (hh6 : h0 + ce_tkn k ≤ 6) (h6 : h0 + ce_add k ≤ 6) (hkk : k = 20) (hE : ∀ P : SY → Prop, P V' → wpY_end P (ylim, ev, wa, rf, nI (t + 1), yend, yans, yrest, ybeg, yres, yused, ycalls, yver, ykept, yop, ybs, len, st, cps, old, bef, ywm, wcp, ecp, mcp, rcp, evl, yms, ysf, ycl, yam, yar, ygv, upd yel t (nI (e - ce_cost k (bt wm (5 * a + c)))), upd yat t (ce_ny k b p (stk (6 * t + h0))), upd ytp t (nI h0), stk) 1 (stk (6 * t + h0))) (hp : post V') : wpY_step post (ylim, ev, wa, rf, nI (t + 1), yend, yans, yrest, ybeg, yres, yused, ycalls, yver, ykept, yop, ybs, len, st, cps, old, bef, ywm, wcp, ecp, mcp, rcp, evl, yms, ysf, ycl, yam, yar, ygv, yel, yat, ytp, stk) := by
  unfold wpY_step
  refine nm_r (nI_pred t) ⟨ce_in ht, ce_in ht, nm_r (show 24 * ysf (nI t).toNatClampNeg + yat (nI t).toNatClampNeg = nI (24 * a + p) from by rw [ce_cl (by omega), hpos, hown, ce_mL24, nI_add]) ⟨ce_in (by omega), nm_r (show yop (nI (24 * a + p)).toNatClampNeg = nI k from by rw [ce_cl (by omega), hop]) ⟨ce_in ht, ce_in (by omega), nm_r (show 4 * ysf (nI t).toNatClampNeg + (ybs (nI (24 * a + p)).toNatClampNeg &&& 3) = nI (4 * a + c) from by rw [ce_cl (by omega), ce_cl (by omega), hown, hb, hc, ce_mL4, nI_add]) ?_⟩⟩⟩
  refine yw_cost hk ha hc4 hW ?_
  rw [ce_cl (t := t) (by omega), hel]
  have hC8 := (ce_cost_le k (bt wm (5 * a + c))).2
  refine ⟨ce_in ht, br_t (nI_le hC (by omega)) ⟨ce_in ht, ce_in ht, nm_r (congrArg (upd yel t) (pk_sub hC)) ⟨ce_in ht, yw_tkn hk ?_⟩⟩⟩
  have hk3 := ce_tkn_le k
  have hk2 := ce_add_le k
  rw [hh]
  refine br_f (nI_nlt (by omega) (by omega)) ⟨ce_in ht, yw_tkn hk (yw_add hk ?_)⟩
  rw [show nI (h0 + ce_tkn k) - nI (ce_tkn k) + nI (ce_add k) = nI (h0 + ce_add k) from by rw [pk_sub (by omega), nI_add]; exact congrArg nI (by omega)]
  refine br_f (nI_nlt (a := 6) h6 (by decide)) (ys_127 ht (by omega) hpos hb hk hh hh6 ?_)
  subst hkk
  unfold wY_step_185 wY_step_197
  refine br_f (by decide) (br_t rfl ?_)
  unfold wY_step_202
  refine br_f (by decide) (br_f (by decide) ?_)
  unfold wY_step_242
  rw [ce_cl (t := t) (by omega)]
  refine ⟨ce_in ht, nm_e (br_f (by decide) (yw_pop ht hh (by have : ce_tkn 20 = 1 := rfl; omega) (br_f (by decide) ?_)))⟩
  unfold wY_step_273
  exact hE _ hp
end
