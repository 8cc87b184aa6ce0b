section
variable {xlim xps xvn xkc ev wa wm rf dp ea er lr lu lc ylim yend yans yrest ybeg yres yused ycalls yver ykept : Int32} {xop xnum len st vers evl xms own clr amt arg eg el pos hgt stk sst sev sw swm srf yop ybs cps old bef ywm wcp ecp mcp rcp yms ysf ycl yam yar ygv yel yat ytp : Nat → Int32}
theorem ce_nm6 {a L L' : Nat} (h : nI L = nI L') (h1 : L ≤ 24) (h2 : L' ≤ 24) : L = L' := (nI_eq (by omega) (by omega)).mp h
theorem ce_by : ∀ k, k < 24 → (nI k).toInt8.toInt32 = nI k := by decide +kernel
theorem ce_PGput {k L : Nat} {b : Int32} (h : ce_PG xop xnum yop ybs len) (hL : len 6 = nI L) (hL4 : L < 24) (hk : k < 24) : ce_PG (upd xop (144 + L) (nI k)) (upd xnum (144 + L) b) (upd yop (144 + L) (nI k)) (upd ybs (144 + L) b) (upd len 6 (nI (L + 1))) := by
  intro a ha
  by_cases e : a = 6
  · subst e
    obtain ⟨L', hl', hlen', hp⟩ := h 6 (by omega)
    have : L = L' := (nI_eq (by omega) (by omega)).mp (hL.symm.trans hlen')
    subst this
    refine ⟨L + 1, by omega, pk_us, ?_⟩
    intro i hi
    by_cases e2 : i = L
    · subst e2
      rw [show 24 * 6 + i = 144 + i by omega]
      exact ⟨⟨k, hk, pk_us, pk_us⟩, pk_us.trans pk_us.symm⟩
    · rw [pk_un (by omega), pk_un (by omega), pk_un (by omega), pk_un (by omega)]
      exact hp i (by omega)
  · obtain ⟨L', hl', hlen', hp⟩ := h a ha
    refine ⟨L', hl', (pk_un e).trans hlen', ?_⟩
    intro i hi
    rw [pk_un (by omega), pk_un (by omega), pk_un (by omega), pk_un (by omega)]
    exact hp i hi
theorem ce_PG0 (h : ce_PG xop xnum yop ybs len) : ce_PG xop xnum yop ybs (upd len 6 0) := by
  intro a ha
  by_cases e : a = 6
  · subst e
    exact ⟨0, by omega, pk_us, fun i hi => absurd hi (by omega)⟩
  · obtain ⟨L', hl', hlen', hp⟩ := h a ha
    exact ⟨L', hl', (pk_un e).trans hlen', hp⟩
theorem ce_PGdep {a L : Nat} (h : ce_PG xop xnum yop ybs len) (ha : a < 6) (hL : len 6 = nI L) (hL4 : L ≤ 24) : ce_PG (ce_cp xop (24 * a) 24 (fun j => xop (144 + j))) (ce_cp xnum (24 * a) 24 (fun j => xnum (144 + j))) (ce_cp yop (24 * a) L (fun j => yop (144 + j))) (ce_cp ybs (24 * a) L (fun j => ybs (144 + j))) (upd (upd len 6 0) a (nI L)) := by
  obtain ⟨L6, hl6, hlen6, hp6⟩ := h 6 (by omega)
  have : L = L6 := (nI_eq (by omega) (by omega)).mp (hL.symm.trans hlen6)
  subst this
  intro a' ha'
  by_cases e : a' = a
  · subst e
    refine ⟨L, hL4, pk_us, ?_⟩
    intro i hi
    rw [ce_cpi' (f := xop) (by omega), ce_cpi' (f := yop) hi, ce_cpi' (f := xnum) (by omega), ce_cpi' (f := ybs) hi]
    exact hp6 i hi
  · by_cases e6 : a' = 6
    · subst e6
      exact ⟨0, by omega, (pk_un e).trans pk_us, fun i hi => absurd hi (by omega)⟩
    · obtain ⟨L', hl', hlen', hp⟩ := h a' ha'
      refine ⟨L', hl', ((pk_un e).trans (pk_un e6)).trans hlen', ?_⟩
      intro i hi
      rw [ce_cpo (by omega), ce_cpo (by omega), ce_cpo (by omega), ce_cpo (by omega)]
      exact hp i hi
theorem xw_dep {post : Int32 → SX → Prop} {a L : Nat} (ha : a < 6) (hL : len 6 = nI L) (h0 : 0 < L) (hL4 : L ≤ 24) (hp : post (nI L) (xlim, xps, xvn, xkc, ev, wa, wm, rf, dp, ea, er, lr, lu, lc, ce_cp xop (24 * a) 24 (fun j => xop (144 + j)), ce_cp xnum (24 * a) 24 (fun j => xnum (144 + j)), upd (upd len 6 0) a (nI L), st, vers, evl, xms, own, clr, amt, arg, eg, el, pos, hgt, stk, sst, sev, sw, swm, srf)) : wpX_deploy post (xlim, xps, xvn, xkc, ev, wa, wm, rf, dp, ea, er, lr, lu, lc, xop, xnum, len, st, vers, evl, xms, own, clr, amt, arg, eg, el, pos, hgt, stk, sst, sev, sw, swm, srf) (nI a) := by
  unfold wpX_deploy
  refine nm_r hL (nm_e (xw_accT ha (br_f (by decide) (br_f (nI_ne0 h0 (by omega)) ?_))))
  refine loop_0 (σ := (Nat → Int32) × (Nat → Int32)) (fun n i s => wX_deploy_31 post (nI a) (nI L) (xlim) (xps) (xvn) (xkc) (ev) (wa) (wm) (rf) (dp) (ea) (er) (lr) (lu) (lc) n (nI i) (s.1) (s.2) (upd len 6 0) (st) (vers) (evl) (xms) (own) (clr) (amt) (arg) (eg) (el) (pos) (hgt) (stk) (sst) (sev) (sw) (swm) (srf)) (fun i s => s.1 = ce_cp xop (24 * a) i (fun j => xop (144 + j)) ∧ s.2 = ce_cp xnum (24 * a) i (fun j => xnum (144 + j))) 24 (xop, xnum) ⟨(ce_cp0 _ _ _).symm, (ce_cp0 _ _ _).symm⟩ ?_ ?_
  · intro n s e
    obtain ⟨s1, s2⟩ := s
    obtain ⟨rfl, rfl⟩ := e
    refine br_t (by decide) ?_
    rw [ce_cl (t := a) (by omega)]
    exact ⟨ce_in (by omega), nm_e hp⟩
  · intro n i s hi e H
    obtain ⟨s1, s2⟩ := s
    obtain ⟨rfl, rfl⟩ := e
    refine br_f (nI_ge (b := 24) hi (by decide)) ?_
    dsimp only
    rw [ce_144, ce_mR24, nI_add, ce_cl (t := 144 + i) (by omega), ce_cl (t := 24 * a + i) (by omega), nI_1 i, ce_cpo (by omega), ce_cpo (by omega)]
    exact ⟨ce_in (by omega), ce_in (by omega), nm_r (ce_cps xop (24 * a) i (fun j => xop (144 + j))) ⟨ce_in (by omega), ce_in (by omega), nm_r (ce_cps xnum (24 * a) i (fun j => xnum (144 + j))) (nm_e (H (_, _) ⟨rfl, rfl⟩))⟩⟩
theorem yw_dep {post : Int32 → SY → Prop} {a L : Nat} (ha : a < 6) (hL : len 6 = nI L) (h0 : 0 < L) (hL4 : L ≤ 24) (hb : ∀ i, i < L → ∃ k, k < 24 ∧ yop (144 + i) = nI k) (hp : post (nI L) (ylim, ev, wa, rf, dp, yend, yans, yrest, ybeg, yres, yused, ycalls, yver, ykept, ce_cp yop (24 * a) L (fun j => yop (144 + j)), ce_cp ybs (24 * a) L (fun j => ybs (144 + j)), upd (upd len 6 0) a (nI L), st, cps, old, bef, ywm, wcp, ecp, mcp, rcp, evl, yms, ysf, ycl, yam, yar, ygv, yel, yat, ytp, stk)) : wpY_deploy post (ylim, ev, wa, rf, dp, yend, yans, yrest, ybeg, yres, yused, ycalls, yver, ykept, yop, ybs, len, st, cps, old, bef, ywm, wcp, ecp, mcp, rcp, evl, yms, ysf, ycl, yam, yar, ygv, yel, yat, ytp, stk) (nI a) := by
  unfold wpY_deploy
  refine nm_r hL (nm_e (yw_accT ha (br_f (by decide) (br_f (nI_ne0 h0 (by omega)) ?_))))
  refine loop_0 (σ := (Nat → Int32) × (Nat → Int32)) (fun n i s => wY_deploy_31 post (nI a) (nI L) (ylim) (ev) (wa) (rf) (dp) (yend) (yans) (yrest) (ybeg) (yres) (yused) (ycalls) (yver) (ykept) n (nI i) (s.1) (s.2) (upd len 6 0) (st) (cps) (old) (bef) (ywm) (wcp) (ecp) (mcp) (rcp) (evl) (yms) (ysf) (ycl) (yam) (yar) (ygv) (yel) (yat) (ytp) (stk)) (fun i s => s.1 = ce_cp yop (24 * a) i (fun j => yop (144 + j)) ∧ s.2 = ce_cp ybs (24 * a) i (fun j => ybs (144 + j))) L (yop, ybs) ⟨(ce_cp0 _ _ _).symm, (ce_cp0 _ _ _).symm⟩ ?_ ?_
  · intro n s e
    obtain ⟨s1, s2⟩ := s
    obtain ⟨rfl, rfl⟩ := e
    refine br_t (nI_le (Nat.le_refl L) (by omega)) ?_
    rw [ce_cl (t := a) (by omega)]
    exact ⟨ce_in (by omega), nm_e hp⟩
  · intro n i s hi e H
    obtain ⟨s1, s2⟩ := s
    obtain ⟨rfl, rfl⟩ := e
    refine br_f (nI_ge hi (by omega)) ?_
    obtain ⟨k, hk, ek⟩ := hb i hi
    have en : vp_nar .byte (yop (144 + i)) = yop (144 + i) := by rw [ek, vp_nar_byte, ce_by k hk]
    dsimp only
    rw [ce_144, ce_mL24, nI_add, ce_cl (t := 144 + i) (by omega), ce_cl (t := 24 * a + i) (by omega), nI_1 i, ce_cpo (by omega), ce_cpo (by omega), en]
    exact ⟨ce_in (by omega), ce_in (by omega), nm_r (ce_cps yop (24 * a) i (fun j => yop (144 + j))) ⟨ce_in (by omega), ce_in (by omega), nm_r (ce_cps ybs (24 * a) i (fun j => ybs (144 + j))) (nm_e (H (_, _) ⟨rfl, rfl⟩))⟩⟩
/-! what is past -/
def ce_pv (st old : Nat → Int32) (n j : Nat) : Int32 := if n = 0 then st j else old (30 * (n - 1) + j)
theorem ce_VRpv {p K n j : Nat} (h : ce_VR p K vers st old) (hn : n ≤ K) (hj : j < 30) : vers (30 * ((p + 7 - n) % 7) + j) = ce_pv st old n j := by
  obtain ⟨h1, h2, h3, h4, h5⟩ := h
  unfold ce_pv
  by_cases e : n = 0
  · rw [if_pos e, e, show (p + 7 - 0) % 7 = p by omega]; exact h3 j hj
  · rw [if_neg e, show (p + 7 - n) % 7 = (p + 6 - (n - 1)) % 7 by omega]
    exact h4 (n - 1) (by omega) j hj
theorem xw_slot {post : Int32 → Prop} {p n : Nat} (hp7 : p < 7) (hn : n ≤ 6) (hp : post (nI ((p + 7 - n) % 7))) : wpX_slotOf post (xlim, nI p, xvn, xkc, ev, wa, wm, rf, dp, ea, er, lr, lu, lc, xop, xnum, len, st, vers, evl, xms, own, clr, amt, arg, eg, el, pos, hgt, stk, sst, sev, sw, swm, srf) (nI n) := by
  unfold wpX_slotOf
  refine ⟨by decide, ?_⟩
  rw [ce_a7, pk_sub (by omega), show (7 : Int32) = nI 7 from rfl, pk_rem (by omega) (by decide) (by decide)]
  exact hp
theorem yw_past {post : Int32 → Prop} {K n a c : Nat} (hK : K ≤ 6) (hn : n ≤ K) (ha : a < 6) (hc : c < 5) (hp : post (ce_pv st old n (5 * a + c))) : wpY_past post (ylim, ev, wa, rf, dp, yend, yans, yrest, ybeg, yres, yused, ycalls, yver, nI K, yop, ybs, len, st, cps, old, bef, ywm, wcp, ecp, mcp, rcp, evl, yms, ysf, ycl, yam, yar, ygv, yel, yat, ytp, stk) (nI n) (nI a) (nI c) := by
  unfold wpY_past
  unfold ce_pv at hp
  refine br_f (nI_pos (by omega)) (br_f (nI_nlt hn (by omega)) (yw_accT ha (br_f (by decide) (br_f (nI_pos (by omega)) (br_t (nI_le (b := 4) (by omega) (by decide)) (pk_eq n 0 (fun z => ?_) (fun z => ?_)))))))
  · rw [if_pos z] at hp
    rw [ce_mL5, nI_add, ce_cl (by omega)]
    exact ⟨ce_in (by omega), hp⟩
  · rw [if_neg z] at hp
    obtain ⟨m, rfl⟩ : ∃ m, n = m + 1 := ⟨n - 1, by omega⟩
    rw [show m + 1 - 1 = m by omega] at hp
    rw [ce_s1, ce_mL30, ce_mL5, nI_add, nI_add, ce_cl (by omega)]
    rw [show 30 * m + (5 * a + c) = 30 * m + 5 * a + c by omega] at hp
    exact ⟨ce_in (by omega), hp⟩
theorem yw_pastF {post : Int32 → Prop} {K : Nat} {x y z : Int32} (h : x < 0 ∨ nI K < x ∨ (y < 0 ∨ nI 6 ≤ y) ∨ (z < 0 ∨ nI 5 ≤ z)) (hp : post 0) : wpY_past post (ylim, ev, wa, rf, dp, yend, yans, yrest, ybeg, yres, yused, ycalls, yver, nI K, yop, ybs, len, st, cps, old, bef, ywm, wcp, ecp, mcp, rcp, evl, yms, ysf, ycl, yam, yar, ygv, yel, yat, ytp, stk) x y z := by
  unfold wpY_past
  refine br_c (fun _ => hp) (fun n1 => br_c (fun _ => hp) (fun n2 => ?_))
  rcases pk_ix y (n := 6) (by decide) with q | q | ⟨j, hj, rfl⟩
  · exact yw_accF (Or.inl q) (br_t rfl hp)
  · exact yw_accF (Or.inr q) (br_t rfl hp)
  · refine yw_accT hj (br_f (by decide) (br_c (fun _ => hp) (fun n3 => br_f ?_ hp)))
    rcases h with q | q | (q | q) | (q | q)
    · exact absurd q n1
    · exact absurd q n2
    · exact absurd q (nI_pos (by omega))
    · exact absurd q (nI_ge hj (by decide))
    · exact absurd q n3
    · intro w
      exact absurd (Int32.le_trans q w) (by decide)
/-! digest -/
def ce_hin (g : Nat → Int32) (h : Int64) : Nat → Int64
  | 0 => h
  | k + 1 => ce_hin g h k * 31 + (g k).toInt64
def ce_ho (f : Nat → Int32) : Nat → Int64
  | 0 => 1
  | a + 1 => ce_hin (fun k => f (5 * a + k)) (ce_ho f a * 31 + (f (5 * a + 4)).toInt64) 4
theorem xw_dig {post : Int64 → Prop} {B : Nat} {f : Nat → Int32} (hB : B + 30 ≤ 210) (hf : ∀ j, j < 30 → vers (B + j) = f j) (hp : post (ce_ho f 6)) : ∃ n, wX_digest_28 post (nI B) xlim xps xvn xkc ev wa wm rf dp ea er lr lu lc xop xnum len st vers evl xms own clr amt arg eg el pos hgt stk sst sev sw swm srf n 1 0 := by
  refine loop_0 (σ := Int64) (fun n i s => wX_digest_28 post (nI B) xlim xps xvn xkc ev wa wm rf dp ea er lr lu lc xop xnum len st vers evl xms own clr amt arg eg el pos hgt stk sst sev sw swm srf n s (nI i)) (fun i s => s = ce_ho f i) 6 1 rfl ?_ ?_
  · intro n s e
    subst e
    exact br_t (by decide) hp
  · intro n i s hi e H
    subst e
    refine br_f (nI_ge (b := 6) hi (by decide)) (nm_r (show nI B + nI i * 5 = nI (B + 5 * i) from by rw [ce_mR5, nI_add]) ?_)
    rw [ce_a4, ce_cl (by omega), show B + 5 * i + 4 = B + (5 * i + 4) by omega, hf _ (by omega)]
    refine ⟨ce_in (by omega), nm_e ?_⟩
    refine loop_0 (σ := Int64) (fun n' x s => wX_digest_63 post (wX_digest_28 post (nI B) xlim xps xvn xkc ev wa wm rf dp ea er lr lu lc xop xnum len st vers evl xms own clr amt arg eg el pos hgt stk sst sev sw swm srf n) (nI B) (nI i) (nI (B + 5 * i)) xlim xps xvn xkc ev wa wm rf dp ea er lr lu lc xop xnum len st vers evl xms own clr amt arg eg el pos hgt stk sst sev sw swm srf n' s (nI x)) (fun x s => s = ce_hin (fun k => f (5 * i + k)) (ce_ho f i * 31 + (f (5 * i + 4)).toInt64) x) 4 _ rfl ?_ ?_
    · intro n' s e
      subst e
      exact br_t (by decide) (nm_r (nI_1 i) (H _ rfl))
    · intro n' x s hx e H2
      subst e
      refine br_f (nI_ge (b := 4) hx (by decide)) ?_
      rw [nI_add, ce_cl (by omega), show B + 5 * i + x = B + (5 * i + x) by omega, hf _ (by omega)]
      exact ⟨ce_in (by omega), nm_e (nm_r (nI_1 x) (H2 _ rfl))⟩
theorem yw_dig {post : Int64 → Prop} {K n : Nat} (hK : K ≤ 6) (hn : n ≤ K) (hp : post (ce_ho (ce_pv st old n) 6)) : ∃ n', wY_digest_19 post (nI n) (ylim) (ev) (wa) (rf) (dp) (yend) (yans) (yrest) (ybeg) (yres) (yused) (ycalls) (yver) (nI K) (yop) (ybs) (len) (st) (cps) (old) (bef) (ywm) (wcp) (ecp) (mcp) (rcp) (evl) (yms) (ysf) (ycl) (yam) (yar) (ygv) (yel) (yat) (ytp) (stk) n' 1 0 := by
  refine loop_0 (σ := Int64) (fun n' i s => wY_digest_19 post (nI n) (ylim) (ev) (wa) (rf) (dp) (yend) (yans) (yrest) (ybeg) (yres) (yused) (ycalls) (yver) (nI K) (yop) (ybs) (len) (st) (cps) (old) (bef) (ywm) (wcp) (ecp) (mcp) (rcp) (evl) (yms) (ysf) (ycl) (yam) (yar) (ygv) (yel) (yat) (ytp) (stk) n' s (nI i)) (fun i s => s = ce_ho (ce_pv st old n) i) 6 1 rfl ?_ ?_
  · intro n' s e
    subst e
    exact br_t (by decide) hp
  · intro n1 i s hi e H
    subst e
    refine br_f (nI_ge (b := 6) hi (by decide)) (yw_past (c := 4) hK hn hi (by omega) (nm_e ?_))
    refine loop_0 (σ := Int64) (fun n' x s => wY_digest_45 post (wY_digest_19 post (nI n) (ylim) (ev) (wa) (rf) (dp) (yend) (yans) (yrest) (ybeg) (yres) (yused) (ycalls) (yver) (nI K) (yop) (ybs) (len) (st) (cps) (old) (bef) (ywm) (wcp) (ecp) (mcp) (rcp) (evl) (yms) (ysf) (ycl) (yam) (yar) (ygv) (yel) (yat) (ytp) (stk) n1) (nI n) (nI i) (ylim) (ev) (wa) (rf) (dp) (yend) (yans) (yrest) (ybeg) (yres) (yused) (ycalls) (yver) (nI K) (yop) (ybs) (len) (st) (cps) (old) (bef) (ywm) (wcp) (ecp) (mcp) (rcp) (evl) (yms) (ysf) (ycl) (yam) (yar) (ygv) (yel) (yat) (ytp) (stk) n' s (nI x)) (fun x s => s = ce_hin (fun k => ce_pv st old n (5 * i + k)) (ce_ho (ce_pv st old n) i * 31 + (ce_pv st old n (5 * i + 4)).toInt64) x) 4 _ rfl ?_ ?_
    · intro n' s e
      subst e
      exact br_t (by decide) (nm_r (nI_1 i) (H _ rfl))
    · intro n' x s hx e H2
      subst e
      exact br_f (nI_ge (b := 4) hx (by decide)) (yw_past hK hn hi (by omega) (nm_e (nm_r (nI_1 x) (H2 _ rfl))))
/-! back -/
theorem xw_bck {post : Int32 → SX → Prop} {p K n : Nat} (hp7 : p < 7) (hn1 : 1 ≤ n) (hn : n ≤ K) (hK : K ≤ 6) (hp : post (xvn - nI n) (xlim, nI ((p + 7 - n) % 7), xvn - nI n, nI (K - n), ev, wa, wm, rf, dp, ea, er, lr, lu, lc, xop, xnum, len, ce_cp st 0 30 (fun j => vers (30 * ((p + 7 - n) % 7) + j)), vers, evl, xms, own, clr, amt, arg, eg, el, pos, hgt, stk, sst, sev, sw, swm, srf)) : wpX_back post (xlim, nI p, xvn, nI K, ev, wa, wm, rf, dp, ea, er, lr, lu, lc, xop, xnum, len, st, vers, evl, xms, own, clr, amt, arg, eg, el, pos, hgt, stk, sst, sev, sw, swm, srf) (nI n) := by
  unfold wpX_back
  refine br_f (nI_nlt (b := 1) hn1 (by omega)) (br_t (nI_le hn (by omega)) (xw_slot hp7 (by omega) ?_))
  refine loop_0 (fun m i s => wX_back_26 post (nI n) (xlim) (nI ((p + 7 - n) % 7)) (xvn) (nI K) (ev) (wa) (wm) (rf) (dp) (ea) (er) (lr) (lu) (lc) m (nI i) (xop) (xnum) (len) (s) (vers) (evl) (xms) (own) (clr) (amt) (arg) (eg) (el) (pos) (hgt) (stk) (sst) (sev) (sw) (swm) (srf)) (fun i s => s = ce_cp st 0 i (fun j => vers (30 * ((p + 7 - n) % 7) + j))) 30 st (ce_cp0 _ _ _).symm ?_ ?_
  · intro m s e
    subst e
    exact br_t (by decide) (nm_r (pk_sub hn) (nm_e hp))
  · intro m i s hi e H
    subst e
    refine br_f (nI_ge (b := 30) hi (by decide)) ?_
    rw [ce_mR30, nI_add, ce_cl (t := i) (by omega), ce_cl (t := 30 * ((p + 7 - n) % 7) + i) (by omega), nI_1 i]
    exact ⟨ce_in (by omega), ce_in (by omega), nm_r (ce_cps0 st i (fun j => vers (30 * ((p + 7 - n) % 7) + j))) (nm_e (H _ rfl))⟩
theorem yw_bck {post : Int32 → SY → Prop} {K n : Nat} (hn1 : 1 ≤ n) (hn : n ≤ K) (hK : K ≤ 6) (hp : post (yver - nI n) (ylim, ev, wa, rf, dp, yend, yans, yrest, ybeg, yres, yused, ycalls, yver - nI n, nI (K - n), yop, ybs, len, ce_cp st 0 30 (fun j => old (30 * (n - 1) + j)), cps, ce_cp old 0 (180 - 30 * n) (fun j => old (j + 30 * n)), bef, ywm, wcp, ecp, mcp, rcp, evl, yms, ysf, ycl, yam, yar, ygv, yel, yat, ytp, stk)) : wpY_back post (ylim, ev, wa, rf, dp, yend, yans, yrest, ybeg, yres, yused, ycalls, yver, nI K, yop, ybs, len, st, cps, old, bef, ywm, wcp, ecp, mcp, rcp, evl, yms, ysf, ycl, yam, yar, ygv, yel, yat, ytp, stk) (nI n) := by
  unfold wpY_back
  refine br_f (nI_nlt (b := 1) hn1 (by omega)) (br_t (nI_le hn (by omega)) ?_)
  refine loop_0 (fun m i s => wY_back_17 post (nI n) (ylim) (ev) (wa) (rf) (dp) (yend) (yans) (yrest) (ybeg) (yres) (yused) (ycalls) (yver) (nI K) m (nI i) (yop) (ybs) (len) (s) (cps) (old) (bef) (ywm) (wcp) (ecp) (mcp) (rcp) (evl) (yms) (ysf) (ycl) (yam) (yar) (ygv) (yel) (yat) (ytp) (stk)) (fun i s => s = ce_cp st 0 i (fun j => old (30 * (n - 1) + j))) 30 st (ce_cp0 _ _ _).symm ?_ ?_
  · intro m s e
    subst e
    refine br_t (by decide) ?_
    have e180 : (180 : Int32) - 30 * nI n = nI (180 - 30 * n) := by rw [ce_mL30, show (180 : Int32) = nI 180 from rfl, pk_sub (by omega)]
    refine loop_0 (fun m i s => wY_back_50 post (nI n) (ylim) (ev) (wa) (rf) (dp) (yend) (yans) (yrest) (ybeg) (yres) (yused) (ycalls) (yver) (nI K) m (nI i) (yop) (ybs) (len) (ce_cp st 0 30 (fun j => old (30 * (n - 1) + j))) (cps) (s) (bef) (ywm) (wcp) (ecp) (mcp) (rcp) (evl) (yms) (ysf) (ycl) (yam) (yar) (ygv) (yel) (yat) (ytp) (stk)) (fun i s => s = ce_cp old 0 i (fun j => old (j + 30 * n))) (180 - 30 * n) old (ce_cp0 _ _ _).symm ?_ ?_
    · intro m s e
      subst e
      refine br_t ?_ (nm_r (pk_sub hn) (nm_e hp))
      rw [e180]; exact nI_le (Nat.le_refl _) (by omega)
    · intro m i s hi e H
      subst e
      refine br_f ?_ ?_
      · rw [e180]; exact nI_ge hi (by omega)
      · rw [ce_mL30, nI_add, ce_cl (t := i) (by omega), ce_cl (t := i + 30 * n) (by omega), nI_1 i, ce_cpo (by omega)]
        exact ⟨ce_in (by omega), ce_in (by omega), nm_r (ce_cps0 old i (fun j => old (j + 30 * n))) (nm_e (H _ rfl))⟩
  · intro m i s hi e H
    subst e
    refine br_f (nI_ge (b := 30) hi (by decide)) ?_
    have e1 : 30 * (nI n - 1) + nI i = nI (30 * (n - 1) + i) := by rw [show (1 : Int32) = nI 1 from rfl, pk_sub hn1, ce_mL30, nI_add]
    rw [e1, ce_cl (t := i) (by omega), ce_cl (t := 30 * (n - 1) + i) (by omega), nI_1 i]
    exact ⟨ce_in (by omega), ce_in (by omega), nm_r (ce_cps0 st i (fun j => old (30 * (n - 1) + j))) (nm_e (H _ rfl))⟩
theorem ce_VRbck {p K n : Nat} (h : ce_VR p K vers st old) (hn1 : 1 ≤ n) (hn : n ≤ K) : ce_VR ((p + 7 - n) % 7) (K - n) vers (ce_cp st 0 30 (fun j => vers (30 * ((p + 7 - n) % 7) + j))) (ce_cp old 0 (180 - 30 * n) (fun j => old (j + 30 * n))) := by
  obtain ⟨h1, h2, h3, h4, h5⟩ := h
  refine ⟨by omega, by omega, fun j hj => (ce_cpi0 (f := st) (g := fun j => vers (30 * ((p + 7 - n) % 7) + j)) hj).symm, ?_, ?_⟩
  · intro m hm j hj
    rw [ce_cpi0 (by omega), show ((p + 7 - n) % 7 + 6 - m) % 7 = (p + 6 - (m + n)) % 7 by omega, show 30 * m + j + 30 * n = 30 * (m + n) + j by omega]
    exact h4 (m + n) (by omega) j hj
  · intro m hm
    exact ce_BLc (h5 (m + n) (by omega)) (fun j hj => by rw [ce_cpi0 (by omega), show 30 * m + j + 30 * n = 30 * (m + n) + j by omega])
end
