section
variable {xlim xps xvn xkc ev wa wm rf dp ea er lr lu lc ylim yend yans yrest ybeg yres yused ycalls yver ykept : Int32} {xop xnum len st vers evl xms own clr amt arg eg el pos hgt stk sst sev sw swm srf yop ybs cps old bef ywm wcp ecp mcp rcp yms ysf ycl yam yar ygv yel yat ytp : Nat → Int32}
def ce_nx (k : Nat) (b : Int32) (p : Nat) (s : Int32) : Int32 := if k = 19 ∨ k = 20 then nI p else if k = 16 ∨ (k = 17 ∧ s = 0) then b else nI (p + 1)
def ce_ny (k : Nat) (b : Int32) (p : Nat) (s : Int32) : Int32 := if k = 16 ∨ (k = 17 ∧ s = 0) then b else nI (p + 1)
theorem xw_next {post : Int32 → Prop} {t h0 p k : Nat} {b : Int32} (ht : t < 5) (hpos : pos t = nI p) (hk : k < 24) (h17 : k = 17 → h0 < 6) (hp : post (ce_nx k b p (stk (6 * t + h0)))) : wpX_nextPosition post (xlim, xps, xvn, xkc, ev, wa, wm, rf, nI (t + 1), ea, er, lr, lu, lc, xop, xnum, len, st, vers, evl, xms, own, clr, amt, arg, eg, el, pos, hgt, stk, sst, sev, sw, swm, srf) (nI k) b (nI (6 * t + h0)) := by
  unfold wpX_nextPosition
  dsimp only
  rw [nI_pred t, ce_cl (t := t) (by omega), hpos]
  unfold ce_nx at hp
  refine ⟨ce_in ht, nm_e (pk_eq k 19 (fun q => ?_) (fun n19 => pk_eq k 20 (fun q => ?_) (fun n20 => pk_eq k 16 (fun q => ?_) (fun n16 => pk_eq k 17 (fun q => ?_) (fun n17 => ?_)))))⟩
  · rw [if_pos (Or.inl q)] at hp; exact hp
  · rw [if_pos (Or.inr q)] at hp; exact hp
  · rw [if_neg (by omega), if_pos (Or.inl q)] at hp; exact hp
  · have := h17 q
    rw [ce_cl (by omega)]
    refine ⟨ce_in (by omega), br_c (fun z => ?_) (fun z => ?_)⟩
    · rw [if_neg (by omega), if_pos (Or.inr ⟨q, z⟩)] at hp; exact hp
    · rw [if_neg (by omega), if_neg (fun q2 => q2.elim n16 (fun q3 => z q3.2))] at hp
      rw [nI_1]; exact hp
  · rw [if_neg (by omega), if_neg (fun q2 => q2.elim n16 (fun q3 => n17 q3.1))] at hp
    rw [nI_1]; exact hp
theorem xs_emp {post : SX → Prop} {U' : SX} {t a : Nat} (ht : t < 5) (ha : a < 6) (hown : own t = nI a) (hlen : len a = nI 0) (hE : ∀ P : SX → Prop, P U' → wpX_endCall P (xlim, xps, xvn, xkc, ev, wa, wm, rf, nI (t + 1), ea, er, lr, lu, lc, xop, xnum, len, st, vers, evl, xms, own, clr, amt, arg, eg, el, pos, hgt, stk, sst, sev, sw, swm, srf) 0 0) (hp : post U') : wpX_step post (xlim, xps, xvn, xkc, ev, wa, wm, rf, nI (t + 1), ea, er, lr, lu, lc, xop, xnum, len, st, vers, evl, xms, own, clr, amt, arg, eg, el, pos, hgt, stk, sst, sev, sw, swm, srf) := by
  unfold wpX_step
  refine nm_r (nI_pred t) ⟨ce_in ht, nm_r ((congrArg own (ce_cl (by omega))).trans hown) ?_⟩
  rw [ce_cl (t := a) (by omega), hlen]
  exact ⟨ce_in (by omega), br_t rfl (hE _ hp)⟩
theorem xs_out {post : SX → Prop} {U' : SX} {t a p k c L e : Nat} {b : Int32} (ht : t < 5) (ha : a < 6) (hown : own t = nI a) (hlen : len a = nI L) (hL : L ≤ 24) (hpos : pos t = nI p) (hpL : p < L) (hop : xop (24 * a + p) = nI k) (hk : k < 24) (hb : xnum (24 * a + p) = b) (hc : b &&& 3 = nI c) (hc4 : c < 4) (hel : el t = nI e) (he : e ≤ 1000) (hC : e < ce_cost k (bt wm (5 * a + c))) (hE : ∀ P : SX → Prop, P U' → wpX_endCall P (xlim, xps, xvn, xkc, ev, wa, wm, rf, nI (t + 1), ea, er, lr, lu, lc, xop, xnum, len, st, vers, evl, xms, own, clr, amt, arg, eg, el, pos, hgt, stk, sst, sev, sw, swm, srf) 2 0) (hp : post U') : wpX_step post (xlim, xps, xvn, xkc, ev, wa, wm, rf, nI (t + 1), ea, er, lr, lu, lc, xop, xnum, len, st, vers, evl, xms, own, clr, amt, arg, eg, el, pos, hgt, stk, sst, sev, sw, swm, srf) := by
  unfold wpX_step
  refine nm_r (nI_pred t) ⟨ce_in ht, nm_r ((congrArg own (ce_cl (by omega))).trans hown) ?_⟩
  rw [ce_cl (t := a) (by omega), hlen]
  refine ⟨ce_in (by omega), br_f (nI_ne0 (by omega) (by omega)) ⟨ce_in ht, nm_r (show nI a * 24 + pos (nI t).toNatClampNeg = nI (24 * a + p) from by rw [ce_cl (by omega), hpos, ce_mR24, nI_add]) ⟨ce_in (by omega), nm_r (show xop (nI (24 * a + p)).toNatClampNeg = nI k from by rw [ce_cl (by omega), hop]) ⟨ce_in (by omega), nm_r (show xnum (nI (24 * a + p)).toNatClampNeg = b from by rw [ce_cl (by omega), hb]) ?_⟩⟩⟩⟩
  rw [hc, ce_mR5, nI_add (5 * a) c]
  refine xw_cost hk (by omega) ?_
  rw [ce_cl (t := t) (by omega), hel]
  have hC8 := (ce_cost_le k (bt wm (5 * a + c))).2
  exact ⟨ce_in ht, br_f (nI_ge hC (by omega)) (hE _ hp)⟩
theorem xs_low {post : SX → Prop} {U' : SX} {t a p k c L e : Nat} {b : Int32} (ht : t < 5) (ha : a < 6) (hown : own t = nI a) (hlen : len a = nI L) (hL : L ≤ 24) (hpos : pos t = nI p) (hpL : p < L) (hop : xop (24 * a + p) = nI k) (hk : k < 24) (hb : xnum (24 * a + p) = b) (hc : b &&& 3 = nI c) (hc4 : c < 4) (hel : el t = nI e) (he : e ≤ 1000) (hC : ce_cost k (bt wm (5 * a + c)) ≤ e) {h : Nat} (hh : hgt t = nI h) (hlo : h < ce_tkn k) (hE : ∀ P : SX → Prop, P U' → wpX_endCall P (xlim, xps, xvn, xkc, ev, wa, wm, rf, nI (t + 1), ea, er, lr, lu, lc, xop, xnum, len, st, vers, evl, xms, own, clr, amt, arg, eg, upd el t (nI (e - ce_cost k (bt wm (5 * a + c)))), pos, hgt, stk, sst, sev, sw, swm, srf) 3 0) (hp : post U') : wpX_step post (xlim, xps, xvn, xkc, ev, wa, wm, rf, nI (t + 1), ea, er, lr, lu, lc, xop, xnum, len, st, vers, evl, xms, own, clr, amt, arg, eg, el, pos, hgt, stk, sst, sev, sw, swm, srf) := by
  unfold wpX_step
  refine nm_r (nI_pred t) ⟨ce_in ht, nm_r ((congrArg own (ce_cl (by omega))).trans hown) ?_⟩
  rw [ce_cl (t := a) (by omega), hlen]
  refine ⟨ce_in (by omega), br_f (nI_ne0 (by omega) (by omega)) ⟨ce_in ht, nm_r (show nI a * 24 + pos (nI t).toNatClampNeg = nI (24 * a + p) from by rw [ce_cl (by omega), hpos, ce_mR24, nI_add]) ⟨ce_in (by omega), nm_r (show xop (nI (24 * a + p)).toNatClampNeg = nI k from by rw [ce_cl (by omega), hop]) ⟨ce_in (by omega), nm_r (show xnum (nI (24 * a + p)).toNatClampNeg = b from by rw [ce_cl (by omega), hb]) ?_⟩⟩⟩⟩
  rw [hc, ce_mR5, nI_add (5 * a) c]
  refine xw_cost hk (by omega) ?_
  rw [ce_cl (t := t) (by omega), hel]
  have hC8 := (ce_cost_le k (bt wm (5 * a + c))).2
  refine ⟨ce_in ht, br_t (nI_le hC (by omega)) ⟨ce_in ht, ce_in ht, nm_r (congrArg (upd el t) (pk_sub hC)) ⟨ce_in ht, xw_tkn hk ?_⟩⟩⟩
  have hk3 := ce_tkn_le k
  refine nm_e (xw_add hk (nm_e (br_t ?_ ?_)))
  · rw [hh]; exact pk_sneg (by omega) hlo
  · unfold wX_step_139
    exact hE _ hp
theorem xs_hig {post : SX → Prop} {U' : SX} {t a p k c L e : Nat} {b : Int32} (ht : t < 5) (ha : a < 6) (hown : own t = nI a) (hlen : len a = nI L) (hL : L ≤ 24) (hpos : pos t = nI p) (hpL : p < L) (hop : xop (24 * a + p) = nI k) (hk : k < 24) (hb : xnum (24 * a + p) = b) (hc : b &&& 3 = nI c) (hc4 : c < 4) (hel : el t = nI e) (he : e ≤ 1000) (hC : ce_cost k (bt wm (5 * a + c)) ≤ e) {h0 : Nat} (hh : hgt t = nI (h0 + ce_tkn k)) (hh6 : h0 + ce_tkn k ≤ 6) (hhi : 6 < h0 + ce_add k) (hE : ∀ P : SX → Prop, P U' → wpX_endCall P (xlim, xps, xvn, xkc, ev, wa, wm, rf, nI (t + 1), ea, er, lr, lu, lc, xop, xnum, len, st, vers, evl, xms, own, clr, amt, arg, eg, upd el t (nI (e - ce_cost k (bt wm (5 * a + c)))), pos, hgt, stk, sst, sev, sw, swm, srf) 3 0) (hp : post U') : wpX_step post (xlim, xps, xvn, xkc, ev, wa, wm, rf, nI (t + 1), ea, er, lr, lu, lc, xop, xnum, len, st, vers, evl, xms, own, clr, amt, arg, eg, el, pos, hgt, stk, sst, sev, sw, swm, srf) := by
  unfold wpX_step
  refine nm_r (nI_pred t) ⟨ce_in ht, nm_r ((congrArg own (ce_cl (by omega))).trans hown) ?_⟩
  rw [ce_cl (t := a) (by omega), hlen]
  refine ⟨ce_in (by omega), br_f (nI_ne0 (by omega) (by omega)) ⟨ce_in ht, nm_r (show nI a * 24 + pos (nI t).toNatClampNeg = nI (24 * a + p) from by rw [ce_cl (by omega), hpos, ce_mR24, nI_add]) ⟨ce_in (by omega), nm_r (show xop (nI (24 * a + p)).toNatClampNeg = nI k from by rw [ce_cl (by omega), hop]) ⟨ce_in (by omega), nm_r (show xnum (nI (24 * a + p)).toNatClampNeg = b from by rw [ce_cl (by omega), hb]) ?_⟩⟩⟩⟩
  rw [hc, ce_mR5, nI_add (5 * a) c]
  refine xw_cost hk (by omega) ?_
  rw [ce_cl (t := t) (by omega), hel]
  have hC8 := (ce_cost_le k (bt wm (5 * a + c))).2
  refine ⟨ce_in ht, br_t (nI_le hC (by omega)) ⟨ce_in ht, ce_in ht, nm_r (congrArg (upd el t) (pk_sub hC)) ⟨ce_in ht, xw_tkn hk ?_⟩⟩⟩
  have hk3 := ce_tkn_le k
  have hk2 := ce_add_le k
  refine nm_r (show hgt t - nI (ce_tkn k) = nI h0 from by rw [hh, pk_sub (by omega)]; exact congrArg nI (by omega)) (xw_add hk (nm_r (nI_add h0 (ce_add k)) (br_f (nI_pos (by omega)) ?_)))
  refine br_f (nI_ge (a := 6) hhi (by omega)) ?_
  unfold wX_step_139
  exact hE _ hp
theorem xs_jmp {post : SX → Prop} {U' : SX} {t a p k c L e : Nat} {b : Int32} (ht : t < 5) (ha : a < 6) (hown : own t = nI a) (hlen : len a = nI L) (hL : L ≤ 24) (hpos : pos t = nI p) (hpL : p < L) (hop : xop (24 * a + p) = nI k) (hk : k < 24) (hb : xnum (24 * a + p) = b) (hc : b &&& 3 = nI c) (hc4 : c < 4) (hel : el t = nI e) (he : e ≤ 1000) (hC : ce_cost k (bt wm (5 * a + c)) ≤ e) {h0 : Nat} (hh : hgt t = nI (h0 + ce_tkn k)) (hh6 : h0 + ce_tkn k ≤ 6) (h6 : h0 + ce_add k ≤ 6) (h17 : k = 17 → h0 < 6) (hn : ce_nx k b p (stk (6 * t + h0)) < 0 ∨ ¬ ce_nx k b p (stk (6 * t + h0)) < nI L) (hE : ∀ P : SX → Prop, P U' → wpX_endCall P (xlim, xps, xvn, xkc, ev, wa, wm, rf, nI (t + 1), ea, er, lr, lu, lc, xop, xnum, len, st, vers, evl, xms, own, clr, amt, arg, eg, upd el t (nI (e - ce_cost k (bt wm (5 * a + c)))), pos, hgt, stk, sst, sev, sw, swm, srf) 3 0) (hp : post U') : wpX_step post (xlim, xps, xvn, xkc, ev, wa, wm, rf, nI (t + 1), ea, er, lr, lu, lc, xop, xnum, len, st, vers, evl, xms, own, clr, amt, arg, eg, el, pos, hgt, stk, sst, sev, sw, swm, srf) := by
  unfold wpX_step
  refine nm_r (nI_pred t) ⟨ce_in ht, nm_r ((congrArg own (ce_cl (by omega))).trans hown) ?_⟩
  rw [ce_cl (t := a) (by omega), hlen]
  refine ⟨ce_in (by omega), br_f (nI_ne0 (by omega) (by omega)) ⟨ce_in ht, nm_r (show nI a * 24 + pos (nI t).toNatClampNeg = nI (24 * a + p) from by rw [ce_cl (by omega), hpos, ce_mR24, nI_add]) ⟨ce_in (by omega), nm_r (show xop (nI (24 * a + p)).toNatClampNeg = nI k from by rw [ce_cl (by omega), hop]) ⟨ce_in (by omega), nm_r (show xnum (nI (24 * a + p)).toNatClampNeg = b from by rw [ce_cl (by omega), hb]) ?_⟩⟩⟩⟩
  rw [hc, ce_mR5, nI_add (5 * a) c]
  refine xw_cost hk (by omega) ?_
  rw [ce_cl (t := t) (by omega), hel]
  have hC8 := (ce_cost_le k (bt wm (5 * a + c))).2
  refine ⟨ce_in ht, br_t (nI_le hC (by omega)) ⟨ce_in ht, ce_in ht, nm_r (congrArg (upd el t) (pk_sub hC)) ⟨ce_in ht, xw_tkn hk ?_⟩⟩⟩
  have hk3 := ce_tkn_le k
  have hk2 := ce_add_le k
  refine nm_r (show hgt t - nI (ce_tkn k) = nI h0 from by rw [hh, pk_sub (by omega)]; exact congrArg nI (by omega)) (xw_add hk (nm_r (nI_add h0 (ce_add k)) (br_f (nI_pos (by omega)) ?_)))
  refine br_t (nI_le (b := 6) h6 (by decide)) (nm_r (show nI t * 6 + nI h0 = nI (6 * t + h0) from by rw [ce_mR6, nI_add]) (xw_next ht hpos hk h17 ?_))
  refine br_c (fun _ => ?_) (fun n0 => ⟨ce_in (by omega), br_f (hn.resolve_left n0) ?_⟩)
  all_goals (unfold wX_step_183; exact hE _ hp)
theorem xs_ret {post : SX → Prop} {U' : SX} {t a p k c L e : Nat} {b : Int32} (ht : t < 5) (ha : a < 6) (hown : own t = nI a) (hlen : len a = nI L) (hL : L ≤ 24) (hpos : pos t = nI p) (hpL : p < L) (hop : xop (24 * a + p) = nI k) (hk : k < 24) (hb : xnum (24 * a + p) = b) (hc : b &&& 3 = nI c) (hc4 : c < 4) (hel : el t = nI e) (he : e ≤ 1000) (hC : ce_cost k (bt wm (5 * a + c)) ≤ e) {h0 : Nat} (hh : hgt t = nI (h0 + ce_tkn k)) (hh6 : h0 + ce_tkn k ≤ 6) (h6 : h0 + ce_add k ≤ 6) (h17 : k = 17 → h0 < 6) {p' : Nat} (hn : ce_nx k b p (stk (6 * t + h0)) = nI p') (hp' : p' < L) (h19 : k = 19) (hE : ∀ P : SX → Prop, P U' → wpX_endCall P (xlim, xps, xvn, xkc, ev, wa, wm, rf, nI (t + 1), ea, er, lr, lu, lc, xop, xnum, len, st, vers, evl, xms, own, clr, amt, arg, eg, upd el t (nI (e - ce_cost k (bt wm (5 * a + c)))), upd pos t (nI p'), upd hgt t (nI h0), stk, sst, sev, sw, swm, srf) 0 (stk (6 * t + h0))) (hp : post U') : wpX_step post (xlim, xps, xvn, xkc, ev, wa, wm, rf, nI (t + 1), ea, er, lr, lu, lc, xop, xnum, len, st, vers, evl, xms, own, clr, amt, arg, eg, el, pos, hgt, stk, sst, sev, sw, swm, srf) := by
  unfold wpX_step
  refine nm_r (nI_pred t) ⟨ce_in ht, nm_r ((congrArg own (ce_cl (by omega))).trans hown) ?_⟩
  rw [ce_cl (t := a) (by omega), hlen]
  refine ⟨ce_in (by omega), br_f (nI_ne0 (by omega) (by omega)) ⟨ce_in ht, nm_r (show nI a * 24 + pos (nI t).toNatClampNeg = nI (24 * a + p) from by rw [ce_cl (by omega), hpos, ce_mR24, nI_add]) ⟨ce_in (by omega), nm_r (show xop (nI (24 * a + p)).toNatClampNeg = nI k from by rw [ce_cl (by omega), hop]) ⟨ce_in (by omega), nm_r (show xnum (nI (24 * a + p)).toNatClampNeg = b from by rw [ce_cl (by omega), hb]) ?_⟩⟩⟩⟩
  rw [hc, ce_mR5, nI_add (5 * a) c]
  refine xw_cost hk (by omega) ?_
  rw [ce_cl (t := t) (by omega), hel]
  have hC8 := (ce_cost_le k (bt wm (5 * a + c))).2
  refine ⟨ce_in ht, br_t (nI_le hC (by omega)) ⟨ce_in ht, ce_in ht, nm_r (congrArg (upd el t) (pk_sub hC)) ⟨ce_in ht, xw_tkn hk ?_⟩⟩⟩
  have hk3 := ce_tkn_le k
  have hk2 := ce_add_le k
  refine nm_r (show hgt t - nI (ce_tkn k) = nI h0 from by rw [hh, pk_sub (by omega)]; exact congrArg nI (by omega)) (xw_add hk (nm_r (nI_add h0 (ce_add k)) (br_f (nI_pos (by omega)) ?_)))
  refine br_t (nI_le (b := 6) h6 (by decide)) (nm_r (show nI t * 6 + nI h0 = nI (6 * t + h0) from by rw [ce_mR6, nI_add]) (xw_next ht hpos hk h17 ?_))
  rw [hn]
  refine br_f (nI_pos (by omega)) ⟨ce_in (by omega), br_t (nI_lt hp' (by omega)) ⟨ce_in ht, nm_e ⟨ce_in ht, nm_e ?_⟩⟩⟩
  subst h19
  rw [ce_cl (t := 6 * t + h0) (by omega)]
  exact br_t rfl ⟨ce_in (by have : ce_tkn 19 = 1 := rfl; omega), hE _ hp⟩
theorem xs_rvt {post : SX → Prop} {U' : SX} {t a p k c L e : Nat} {b : Int32} (ht : t < 5) (ha : a < 6) (hown : own t = nI a) (hlen : len a = nI L) (hL : L ≤ 24) (hpos : pos t = nI p) (hpL : p < L) (hop : xop (24 * a + p) = nI k) (hk : k < 24) (hb : xnum (24 * a + p) = b) (hc : b &&& 3 = nI c) (hc4 : c < 4) (hel : el t = nI e) (he : e ≤ 1000) (hC : ce_cost k (bt wm (5 * a + c)) ≤ e) {h0 : Nat} (hh : hgt t = nI (h0 + ce_tkn k)) (hh6 : h0 + ce_tkn k ≤ 6) (h6 : h0 + ce_add k ≤ 6) (h17 : k = 17 → h0 < 6) {p' : Nat} (hn : ce_nx k b p (stk (6 * t + h0)) = nI p') (hp' : p' < L) (h20 : k = 20) (hE : ∀ P : SX → Prop, P U' → wpX_endCall P (xlim, xps, xvn, xkc, ev, wa, wm, rf, nI (t + 1), ea, er, lr, lu, lc, xop, xnum, len, st, vers, evl, xms, own, clr, amt, arg, eg, upd el t (nI (e - ce_cost k (bt wm (5 * a + c)))), upd pos t (nI p'), upd hgt t (nI h0), stk, sst, sev, sw, swm, srf) 1 (stk (6 * t + h0))) (hp : post U') : wpX_step post (xlim, xps, xvn, xkc, ev, wa, wm, rf, nI (t + 1), ea, er, lr, lu, lc, xop, xnum, len, st, vers, evl, xms, own, clr, amt, arg, eg, el, pos, hgt, stk, sst, sev, sw, swm, srf) := by
  unfold wpX_step
  refine nm_r (nI_pred t) ⟨ce_in ht, nm_r ((congrArg own (ce_cl (by omega))).trans hown) ?_⟩
  rw [ce_cl (t := a) (by omega), hlen]
  refine ⟨ce_in (by omega), br_f (nI_ne0 (by omega) (by omega)) ⟨ce_in ht, nm_r (show nI a * 24 + pos (nI t).toNatClampNeg = nI (24 * a + p) from by rw [ce_cl (by omega), hpos, ce_mR24, nI_add]) ⟨ce_in (by omega), nm_r (show xop (nI (24 * a + p)).toNatClampNeg = nI k from by rw [ce_cl (by omega), hop]) ⟨ce_in (by omega), nm_r (show xnum (nI (24 * a + p)).toNatClampNeg = b from by rw [ce_cl (by omega), hb]) ?_⟩⟩⟩⟩
  rw [hc, ce_mR5, nI_add (5 * a) c]
  refine xw_cost hk (by omega) ?_
  rw [ce_cl (t := t) (by omega), hel]
  have hC8 := (ce_cost_le k (bt wm (5 * a + c))).2
  refine ⟨ce_in ht, br_t (nI_le hC (by omega)) ⟨ce_in ht, ce_in ht, nm_r (congrArg (upd el t) (pk_sub hC)) ⟨ce_in ht, xw_tkn hk ?_⟩⟩⟩
  have hk3 := ce_tkn_le k
  have hk2 := ce_add_le k
  refine nm_r (show hgt t - nI (ce_tkn k) = nI h0 from by rw [hh, pk_sub (by omega)]; exact congrArg nI (by omega)) (xw_add hk (nm_r (nI_add h0 (ce_add k)) (br_f (nI_pos (by omega)) ?_)))
  refine br_t (nI_le (b := 6) h6 (by decide)) (nm_r (show nI t * 6 + nI h0 = nI (6 * t + h0) from by rw [ce_mR6, nI_add]) (xw_next ht hpos hk h17 ?_))
  rw [hn]
  refine br_f (nI_pos (by omega)) ⟨ce_in (by omega), br_t (nI_lt hp' (by omega)) ⟨ce_in ht, nm_e ⟨ce_in ht, nm_e ?_⟩⟩⟩
  subst h20
  rw [ce_cl (t := 6 * t + h0) (by omega)]
  exact br_f (by decide) (br_t rfl ⟨ce_in (by have : ce_tkn 20 = 1 := rfl; omega), hE _ hp⟩)
theorem xs_cll {post : SX → Prop} {U' : SX} {t a p k c L e : Nat} {b : Int32} (ht : t < 5) (ha : a < 6) (hown : own t = nI a) (hlen : len a = nI L) (hL : L ≤ 24) (hpos : pos t = nI p) (hpL : p < L) (hop : xop (24 * a + p) = nI k) (hk : k < 24) (hb : xnum (24 * a + p) = b) (hc : b &&& 3 = nI c) (hc4 : c < 4) (hel : el t = nI e) (he : e ≤ 1000) (hC : ce_cost k (bt wm (5 * a + c)) ≤ e) {h0 : Nat} (hh : hgt t = nI (h0 + ce_tkn k)) (hh6 : h0 + ce_tkn k ≤ 6) (h6 : h0 + ce_add k ≤ 6) (h17 : k = 17 → h0 < 6) {p' : Nat} (hn : ce_nx k b p (stk (6 * t + h0)) = nI p') (hp' : p' < L) (h18 : k = 18) (hE : ∀ P : SX → Prop, P U' → wpX_callOther P (xlim, xps, xvn, xkc, ev, wa, wm, rf, nI (t + 1), ea, er, lr, lu, lc, xop, xnum, len, st, vers, evl, xms, own, clr, amt, arg, eg, upd el t (nI (e - ce_cost k (bt wm (5 * a + c)))), upd pos t (nI p'), upd hgt t (nI h0), stk, sst, sev, sw, swm, srf) b (nI (6 * t + h0))) (hp : post U') : wpX_step post (xlim, xps, xvn, xkc, ev, wa, wm, rf, nI (t + 1), ea, er, lr, lu, lc, xop, xnum, len, st, vers, evl, xms, own, clr, amt, arg, eg, el, pos, hgt, stk, sst, sev, sw, swm, srf) := by
  unfold wpX_step
  refine nm_r (nI_pred t) ⟨ce_in ht, nm_r ((congrArg own (ce_cl (by omega))).trans hown) ?_⟩
  rw [ce_cl (t := a) (by omega), hlen]
  refine ⟨ce_in (by omega), br_f (nI_ne0 (by omega) (by omega)) ⟨ce_in ht, nm_r (show nI a * 24 + pos (nI t).toNatClampNeg = nI (24 * a + p) from by rw [ce_cl (by omega), hpos, ce_mR24, nI_add]) ⟨ce_in (by omega), nm_r (show xop (nI (24 * a + p)).toNatClampNeg = nI k from by rw [ce_cl (by omega), hop]) ⟨ce_in (by omega), nm_r (show xnum (nI (24 * a + p)).toNatClampNeg = b from by rw [ce_cl (by omega), hb]) ?_⟩⟩⟩⟩
  rw [hc, ce_mR5, nI_add (5 * a) c]
  refine xw_cost hk (by omega) ?_
  rw [ce_cl (t := t) (by omega), hel]
  have hC8 := (ce_cost_le k (bt wm (5 * a + c))).2
  refine ⟨ce_in ht, br_t (nI_le hC (by omega)) ⟨ce_in ht, ce_in ht, nm_r (congrArg (upd el t) (pk_sub hC)) ⟨ce_in ht, xw_tkn hk ?_⟩⟩⟩
  have hk3 := ce_tkn_le k
  have hk2 := ce_add_le k
  refine nm_r (show hgt t - nI (ce_tkn k) = nI h0 from by rw [hh, pk_sub (by omega)]; exact congrArg nI (by omega)) (xw_add hk (nm_r (nI_add h0 (ce_add k)) (br_f (nI_pos (by omega)) ?_)))
  refine br_t (nI_le (b := 6) h6 (by decide)) (nm_r (show nI t * 6 + nI h0 = nI (6 * t + h0) from by rw [ce_mR6, nI_add]) (xw_next ht hpos hk h17 ?_))
  rw [hn]
  refine br_f (nI_pos (by omega)) ⟨ce_in (by omega), br_t (nI_lt hp' (by omega)) ⟨ce_in ht, nm_e ⟨ce_in ht, nm_e ?_⟩⟩⟩
  subst h18
  exact br_f (by decide) (br_f (by decide) (br_t rfl (hE _ hp)))
theorem xs_exe {post : SX → Prop} {U' : SX} {t a p k c L e : Nat} {b : Int32} (ht : t < 5) (ha : a < 6) (hown : own t = nI a) (hlen : len a = nI L) (hL : L ≤ 24) (hpos : pos t = nI p) (hpL : p < L) (hop : xop (24 * a + p) = nI k) (hk : k < 24) (hb : xnum (24 * a + p) = b) (hc : b &&& 3 = nI c) (hc4 : c < 4) (hel : el t = nI e) (he : e ≤ 1000) (hC : ce_cost k (bt wm (5 * a + c)) ≤ e) {h0 : Nat} (hh : hgt t = nI (h0 + ce_tkn k)) (hh6 : h0 + ce_tkn k ≤ 6) (h6 : h0 + ce_add k ≤ 6) (h17 : k = 17 → h0 < 6) {p' : Nat} (hn : ce_nx k b p (stk (6 * t + h0)) = nI p') (hp' : p' < L) (n18 : k ≠ 18) (n19 : k ≠ 19) (n20 : k ≠ 20) (hE : ∀ P : SX → Prop, P U' → wpX_execute P (xlim, xps, xvn, xkc, ev, wa, wm, rf, nI (t + 1), ea, er, lr, lu, lc, xop, xnum, len, st, vers, evl, xms, own, clr, amt, arg, eg, upd el t (nI (e - ce_cost k (bt wm (5 * a + c)))), upd pos t (nI p'), upd hgt t (nI h0), stk, sst, sev, sw, swm, srf) (nI k) b (nI (6 * t + h0))) (hp : post U') : wpX_step post (xlim, xps, xvn, xkc, ev, wa, wm, rf, nI (t + 1), ea, er, lr, lu, lc, xop, xnum, len, st, vers, evl, xms, own, clr, amt, arg, eg, el, pos, hgt, stk, sst, sev, sw, swm, srf) := by
  unfold wpX_step
  refine nm_r (nI_pred t) ⟨ce_in ht, nm_r ((congrArg own (ce_cl (by omega))).trans hown) ?_⟩
  rw [ce_cl (t := a) (by omega), hlen]
  refine ⟨ce_in (by omega), br_f (nI_ne0 (by omega) (by omega)) ⟨ce_in ht, nm_r (show nI a * 24 + pos (nI t).toNatClampNeg = nI (24 * a + p) from by rw [ce_cl (by omega), hpos, ce_mR24, nI_add]) ⟨ce_in (by omega), nm_r (show xop (nI (24 * a + p)).toNatClampNeg = nI k from by rw [ce_cl (by omega), hop]) ⟨ce_in (by omega), nm_r (show xnum (nI (24 * a + p)).toNatClampNeg = b from by rw [ce_cl (by omega), hb]) ?_⟩⟩⟩⟩
  rw [hc, ce_mR5, nI_add (5 * a) c]
  refine xw_cost hk (by omega) ?_
  rw [ce_cl (t := t) (by omega), hel]
  have hC8 := (ce_cost_le k (bt wm (5 * a + c))).2
  refine ⟨ce_in ht, br_t (nI_le hC (by omega)) ⟨ce_in ht, ce_in ht, nm_r (congrArg (upd el t) (pk_sub hC)) ⟨ce_in ht, xw_tkn hk ?_⟩⟩⟩
  have hk3 := ce_tkn_le k
  have hk2 := ce_add_le k
  refine nm_r (show hgt t - nI (ce_tkn k) = nI h0 from by rw [hh, pk_sub (by omega)]; exact congrArg nI (by omega)) (xw_add hk (nm_r (nI_add h0 (ce_add k)) (br_f (nI_pos (by omega)) ?_)))
  refine br_t (nI_le (b := 6) h6 (by decide)) (nm_r (show nI t * 6 + nI h0 = nI (6 * t + h0) from by rw [ce_mR6, nI_add]) (xw_next ht hpos hk h17 ?_))
  rw [hn]
  refine br_f (nI_pos (by omega)) ⟨ce_in (by omega), br_t (nI_lt hp' (by omega)) ⟨ce_in ht, nm_e ⟨ce_in ht, nm_e ?_⟩⟩⟩
  exact pk_eq k 19 (fun q => absurd q n19) (fun _ => pk_eq k 20 (fun q => absurd q n20) (fun _ => pk_eq k 18 (fun q => absurd q n18) (fun _ => hE _ hp)))
end
