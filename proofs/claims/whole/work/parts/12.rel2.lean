section
variable {xlim xps xvn xkc ev wa wm rf dp ea er lr lu lc ylim yend yans yrest ybeg yres yused ycalls yver ykept : Int32} {xop xnum len st vers evl xms own clr amt arg eg el pos hgt stk sst sev sw swm srf yop ybs cps old bef ywm wcp ecp mcp rcp yms ysf ycl yam yar ygv yel yat ytp : Nat → Int32}
variable {r0 : Int32} {st0 : Nat → Int32}
theorem ce_STW {t m W m' W' : Nat} {u : SX} {v : SY} (hm : m ≤ m') (hW : m + W ≤ m' + W') (h : ce_ST xlim xps xvn xkc lr lu ylim yres yused ycalls yver ykept xop xnum len vers yop ybs old bef r0 st0 t m W u v) : ce_ST xlim xps xvn xkc lr lu ylim yres yused ycalls yver ykept xop xnum len vers yop ybs old bef r0 st0 t m' W' u v := by
  rcases h with ⟨a, b, c, h1, h2, h3⟩ | ⟨a, b, h1, h2⟩
  · exact Or.inl ⟨a, b, c, h1, by omega, by omega⟩
  · exact Or.inr ⟨a, b, h1, by omega⟩
theorem ce_MSw {n n' : Nat} (h : ce_MS xms yms n) (hn : n' ≤ n) : ce_MS xms yms n' := fun i hi => h i (by omega)
theorem ce_COund {t e g w W : Nat} (hfe : ce_fe r0 st0 eg ygv el yel sev ecp sw mcp swm wcp srf rcp sst cps t e g w) (hwW : w ≤ W) (hCO : ce_CO ev wm xop xnum yop ybs len st ywm xms yms W) : ce_CO (sev t) (swm t) xop xnum yop ybs len (ce_cp st 0 30 (fun j => sst (30 * t + j))) (ce_cp ywm 0 24 (fun j => wcp (24 * t + j))) xms yms w := by
  obtain ⟨c1, c2, c3, c4, c5, ⟨s, c6, c7, c8⟩, c9, c10, c11, c12, c13, c14, c15, c16⟩ := hfe
  obtain ⟨d1, d2, d3, d4, d5, d6⟩ := hCO
  exact ⟨⟨s, c6, c7⟩, c11, d3, ce_BLc c14 (fun j hj => ce_cpi0 hj), ce_WRc c15 (fun j hj => ce_cpi0 hj), ce_MSw d6 hwW⟩
theorem en_ok {t e g w q W m : Nat} {res : Int32} (ht : t < 5) (hfe : ce_fe r0 st0 eg ygv el yel sev ecp sw mcp swm wcp srf rcp sst cps t e g w) (heg : e ≤ g) (hwW : w ≤ W) (hS : ce_FS (ce_fp r0 st0 len own ysf pos yat hgt ytp clr ycl amt yam arg yar eg ygv el yel sev ecp sw mcp swm wcp srf rcp sst cps) t g w q) (hCO : ce_CO ev wm xop xnum yop ybs len st ywm xms yms W) (hm : q + e ≤ m) :
    ∃ u' v', (∀ P : SX → Prop, P u' → wpX_endCall P (xlim, xps, xvn, xkc, ev, nI W, wm, rf, nI (t + 1), ea, er, lr, lu, lc, xop, xnum, len, st, vers, evl, xms, own, clr, amt, arg, eg, el, pos, hgt, stk, sst, sev, sw, swm, srf) 0 res) ∧ (∀ P : SY → Prop, P v' → wpY_end P (ylim, ev, nI W, rf, nI (t + 1), yend, yans, yrest, lc, yres, yused, ycalls, yver, ykept, yop, ybs, len, st, cps, old, bef, ywm, wcp, ecp, mcp, rcp, evl, yms, ysf, ycl, yam, yar, ygv, yel, yat, ytp, stk) 0 res) ∧ ce_ST xlim xps xvn xkc lr lu ylim yres yused ycalls yver ykept xop xnum len vers yop ybs old bef r0 st0 t m W u' v' := by
  obtain ⟨c1, c2, c3, c4, c5, cr⟩ := hfe
  obtain ⟨u', v', hx, hy, hs⟩ := en_33 (dp := nI (t + 1)) (res := res) (how := 0) (evl := evl) (stk := stk) (ea := ea) (er := er) (lc := lc) (rf := rf) ht c1 c3 c4 heg c5 hwW hS hCO (Or.inl rfl) (fun _ z => absurd rfl z) hm
  refine ⟨u', v', fun P hp => xe_ok (hx P hp), fun P hp => ye_ok ht ?_, hs⟩
  rw [c2]
  exact hy P hp
theorem en_rev {t e g w q W m : Nat} {res : Int32} (ht : t < 5) (hfe : ce_fe r0 st0 eg ygv el yel sev ecp sw mcp swm wcp srf rcp sst cps t e g w) (heg : e ≤ g) (hwW : w ≤ W) (hS : ce_FS (ce_fp r0 st0 len own ysf pos yat hgt ytp clr ycl amt yam arg yar eg ygv el yel sev ecp sw mcp swm wcp srf rcp sst cps) t g w q) (hCO : ce_CO ev wm xop xnum yop ybs len st ywm xms yms W) (hm : q + e ≤ m) :
    ∃ u' v', (∀ P : SX → Prop, P u' → wpX_endCall P (xlim, xps, xvn, xkc, ev, nI W, wm, rf, nI (t + 1), ea, er, lr, lu, lc, xop, xnum, len, st, vers, evl, xms, own, clr, amt, arg, eg, el, pos, hgt, stk, sst, sev, sw, swm, srf) 1 res) ∧ (∀ P : SY → Prop, P v' → wpY_end P (ylim, ev, nI W, rf, nI (t + 1), yend, yans, yrest, lc, yres, yused, ycalls, yver, ykept, yop, ybs, len, st, cps, old, bef, ywm, wcp, ecp, mcp, rcp, evl, yms, ysf, ycl, yam, yar, ygv, yel, yat, ytp, stk) 1 res) ∧ ce_ST xlim xps xvn xkc lr lu ylim yres yused ycalls yver ykept xop xnum len vers yop ybs old bef r0 st0 t m W u' v' := by
  have hCu := ce_COund hfe hwW hCO
  obtain ⟨c1, c2, c3, c4, c5, ⟨s, c6, c7, c8⟩, c9, c10, c11, c12, c13, c14, c15, c16⟩ := hfe
  obtain ⟨u', v', hx, hy, hs⟩ := en_33 (dp := nI (t + 1)) (res := res) (how := 1) (evl := evl) (stk := stk) (ea := ea) (er := er) (lc := lc) (rf := srf t) ht c1 c3 c4 heg c5 (Nat.le_refl w) hS hCu (by decide) (fun z _ => ⟨(c16 z).1, fun j hj => (ce_cpi0 hj).trans ((c16 z).2 j hj)⟩) hm
  refine ⟨u', v', fun P hp => xe_rev ht ?_, fun P hp => ye_rev ht (fun j hj => ce_WRn c15 hj) ?_, ce_STW (Nat.le_refl m) (by omega) hs⟩
  · rw [c9]; exact hx P hp
  · rw [c2, c8.trans c7.symm, c10, ← c12, ← ce_cpc c13]; exact hy P hp
theorem en_bad {t e g w q W m : Nat} {how res : Int32} (h23 : how = 2 ∨ how = 3) (ht : t < 5) (hfe : ce_fe r0 st0 eg ygv el yel sev ecp sw mcp swm wcp srf rcp sst cps t e g w) (heg : e ≤ g) (hwW : w ≤ W) (hS : ce_FS (ce_fp r0 st0 len own ysf pos yat hgt ytp clr ycl amt yam arg yar eg ygv el yel sev ecp sw mcp swm wcp srf rcp sst cps) t g w q) (hCO : ce_CO ev wm xop xnum yop ybs len st ywm xms yms W) (hm : q ≤ m) :
    ∃ u' v', (∀ P : SX → Prop, P u' → wpX_endCall P (xlim, xps, xvn, xkc, ev, nI W, wm, rf, nI (t + 1), ea, er, lr, lu, lc, xop, xnum, len, st, vers, evl, xms, own, clr, amt, arg, eg, el, pos, hgt, stk, sst, sev, sw, swm, srf) how res) ∧ (∀ P : SY → Prop, P v' → wpY_end P (ylim, ev, nI W, rf, nI (t + 1), yend, yans, yrest, lc, yres, yused, ycalls, yver, ykept, yop, ybs, len, st, cps, old, bef, ywm, wcp, ecp, mcp, rcp, evl, yms, ysf, ycl, yam, yar, ygv, yel, yat, ytp, stk) how res) ∧ ce_ST xlim xps xvn xkc lr lu ylim yres yused ycalls yver ykept xop xnum len vers yop ybs old bef r0 st0 t m W u' v' := by
  have hCu := ce_COund hfe hwW hCO
  obtain ⟨c1, c2, c3, c4, c5, ⟨s, c6, c7, c8⟩, c9, c10, c11, c12, c13, c14, c15, c16⟩ := hfe
  have hS' : ce_FS (ce_fp r0 st0 len own ysf pos yat hgt ytp clr ycl amt yam arg yar eg ygv (upd el t 0) yel sev ecp sw mcp swm wcp srf rcp sst cps) t g w q := ce_FSc (fun j hj h e g w H => ce_fpc H) hS
  obtain ⟨u', v', hx, hy, hs⟩ := en_33 (dp := nI (t + 1)) (e := 0) (res := res) (how := how) (evl := evl) (stk := stk) (ea := ea) (er := er) (lc := lc) (rf := srf t) ht pk_us c3 c4 (by omega) c5 (Nat.le_refl w) hS' hCu (by rcases h23 with rfl | rfl <;> decide) (fun z _ => ⟨(c16 z).1, fun j hj => (ce_cpi0 hj).trans ((c16 z).2 j hj)⟩) hm
  refine ⟨u', v', fun P hp => xe_bad ht h23 ?_, fun P hp => ye_bad ht h23 (fun j hj => ce_WRn c15 hj) ?_, ce_STW (Nat.le_refl m) (by omega) hs⟩
  · rw [c9]; exact hx P hp
  · rw [c8.trans c7.symm, c10, ← c12, ← ce_cpc c13]; exact hy P hp
/-- the innermost call goes on -/
theorem ce_stay {t a L p' h' e e' g w q W : Nat} (ht : t < 5) (ha : a < 6) (h1 : own t = nI a) (h2 : ysf t = nI a) (h3 : len a = nI L) (h4 : L ≤ 24) (hp' : p' < L) (h5 : clr t = ycl t) (h6 : amt t = yam t) (h7 : arg t = yar t) (hh' : h' ≤ 6) (hfe : ce_fe r0 st0 eg ygv el yel sev ecp sw mcp swm wcp srf rcp sst cps t e g w) (he' : e' ≤ e) (heg : e ≤ g) (hwW : w ≤ W) (hS : ce_FS (ce_fp r0 st0 len own ysf pos yat hgt ytp clr ycl amt yam arg yar eg ygv el yel sev ecp sw mcp swm wcp srf rcp sst cps) t g w q) (hCO : ce_CO ev wm xop xnum yop ybs len st ywm xms yms W) : ce_R xlim xps xvn xkc lr lu ylim yres yused ycalls yver ykept xop xnum len vers yop ybs old bef r0 st0 t (q + e') W (xlim, xps, xvn, xkc, ev, nI W, wm, rf, nI (t + 1), ea, er, lr, lu, lc, xop, xnum, len, st, vers, evl, xms, own, clr, amt, arg, eg, upd el t (nI e'), upd pos t (nI p'), upd hgt t (nI h'), stk, sst, sev, sw, swm, srf) (ylim, ev, nI W, rf, nI (t + 1), yend, yans, yrest, lc, yres, yused, ycalls, yver, ykept, yop, ybs, len, st, cps, old, bef, ywm, wcp, ecp, mcp, rcp, evl, yms, ysf, ycl, yam, yar, ygv, upd yel t (nI e'), upd yat t (nI p'), upd ytp t (nI h'), stk) := by
  obtain ⟨c1, c2, cr⟩ := hfe
  refine ⟨_, _, _, _, _, _, _, _, _, _, _, _, _, _, _, _, _, _, _, _, _, _, _, rfl, _, _, _, _, _, _, _, _, _, _, _, _, _, _, _, _, _, _, rfl, h', e', g, w, q, rfl, ht, hh', by omega, hwW, ?_, ?_, hCO⟩
  · exact ⟨⟨a, p', L, ha, h1, h2, h3, h4, hp', pk_us, pk_us, pk_us, pk_us, h5, h6, h7⟩, pk_us, pk_us, cr⟩
  · exact ce_FSc (fun j hj h e g w H => ce_fpc H) hS
/-- a new frame -/
theorem ce_new {d a n L W : Nat} {cl am ar : Int32} (ha : a < 6) (hL : len a = nI L) (hl : L ≤ 24) (h0 : 0 < L) (hn : n ≤ 1000) (hCO : ce_CO ev wm xop xnum yop ybs len st ywm xms yms W) (hz : d = 0 → rf = r0 ∧ ∀ j, j < 30 → st j = st0 j) : ce_fp r0 st0 len (upd own d (nI a)) (upd ysf d (nI a)) (upd pos d 0) (upd yat d 0) (upd hgt d 0) (upd ytp d 0) (upd clr d cl) (upd ycl d cl) (upd amt d am) (upd yam d am) (upd arg d ar) (upd yar d ar) (upd eg d (nI n)) (upd ygv d (nI n)) (upd el d (nI n)) (upd yel d (nI n)) (upd sev d ev) (upd ecp d ev) (upd sw d (nI W)) (upd mcp d (nI W)) (upd swm d wm) (ce_cp wcp (24 * d) 24 ywm) (upd srf d rf) (upd rcp d rf) (ce_cp sst (30 * d) 30 st) (ce_cp cps (30 * d) 30 st) d 0 n n W := by
  obtain ⟨⟨E, d0, d1⟩, d2, d3, d4, d5, d6⟩ := hCO
  refine ⟨⟨a, 0, L, ha, pk_us, pk_us, hL, hl, h0, pk_us, pk_us, pk_us, pk_us, ?_, ?_, ?_⟩, pk_us, pk_us, pk_us, pk_us, hn, ⟨E, d0, pk_us.trans d1, pk_us.trans d1⟩, pk_us, pk_us, d2, ?_, ?_, ?_, ?_, ?_⟩
  · rw [pk_us, pk_us]
  · rw [pk_us, pk_us]
  · rw [pk_us, pk_us]
  · rw [pk_us, pk_us]
  · intro j hj; rw [ce_cpi' hj, ce_cpi' hj]
  · exact ce_BLc d4 (fun j hj => ce_cpi' hj)
  · rw [pk_us]; exact ce_WRc d5 (fun j hj => ce_cpi' hj)
  · intro z
    exact ⟨pk_us.trans (hz z).1, fun j hj => (ce_cpi' hj).trans ((hz z).2 j hj)⟩
/-! money moves -/
theorem ce_BLmv {d a : Nat} {cl am : Int32} (hB : ce_BL st) (hc : ce_CL cl) (ha : a < 6) (hD : ¬ ce_DN st d cl a am) : ce_BL (ce_mv st cl a am) := by
  have n1 : ¬ am < 0 := fun q => hD (Or.inl q)
  have n3 : ¬ ∃ c, c < 6 ∧ cl = nI c ∧ st (5 * c + 4) < am := fun q => hD (Or.inr (Or.inr (Or.inl q)))
  have n4 : ¬ 1000000000 - st (5 * a + 4) < am := fun q => hD (Or.inr (Or.inr (Or.inr q)))
  obtain ⟨x, hx, rfl⟩ := nI_of n1
  obtain ⟨m, hm, em⟩ := hB a ha
  have hs : m + x ≤ 1000000000 := by
    rw [em, show (1000000000 : Int32) = nI 1000000000 from rfl, pk_sub hm, nI_ltI (by omega) (by omega)] at n4
    omega
  rcases hc with rfl | ⟨c, hc, rfl⟩
  · intro a' ha'
    unfold ce_mv ce_tk
    rw [if_pos rfl]
    by_cases e : a' = a
    · subst e
      exact ⟨m + x, hs, by rw [pk_us, em, nI_add]⟩
    · rw [pk_un (by omega)]; exact hB a' ha'
  · obtain ⟨mc, hmc, emc⟩ := hB c hc
    have hxc : x ≤ mc := by
      have : ¬ st (5 * c + 4) < nI x := fun q => n3 ⟨c, hc, rfl, q⟩
      rw [emc, nI_ltI (by omega) (by omega)] at this
      omega
    have etk : ce_tk st (nI c) (nI x) = upd st (5 * c + 4) (nI (mc - x)) := by
      unfold ce_tk
      rw [if_neg (ce_neg1 hc), ce_cl (by omega), emc, pk_sub hxc]
    intro a' ha'
    unfold ce_mv
    rw [etk]
    by_cases e : a' = a
    · subst e
      rw [pk_us]
      by_cases e2 : a' = c
      · subst e2
        exact ⟨mc, hmc, by rw [pk_us, nI_add]; exact congrArg nI (by omega)⟩
      · exact ⟨m + x, hs, by rw [pk_un (by omega), em, nI_add]⟩
    · rw [pk_un (by omega)]
      by_cases e2 : a' = c
      · subst e2
        exact ⟨mc - x, by omega, by rw [pk_us]⟩
      · rw [pk_un (by omega)]; exact hB a' ha'
theorem ce_COmv {d a W : Nat} {cl am : Int32} (hCO : ce_CO ev wm xop xnum yop ybs len st ywm xms yms W) (hc : ce_CL cl) (ha : a < 6) (hD : ¬ ce_DN st d cl a am) : ce_CO ev wm xop xnum yop ybs len (ce_mv st cl a am) ywm xms yms W := by
  obtain ⟨d1, d2, d3, d4, d5, d6⟩ := hCO
  exact ⟨d1, d2, d3, ce_BLmv d4 hc ha hD, d5, d6⟩
theorem ce_MSsend {W a s : Nat} {y z : Int32} (h : ce_MS xms yms W) (ha : a < 6) (hs : s < 6) : ce_MS (ce_m4 xms W (nI a) y z (nI s)) (ce_m4 yms W (nI a) y z (nI s)) (W + 1) := by
  intro i hi
  unfold ce_m4
  by_cases e : i = W
  · subst e
    refine ⟨⟨a, ha, ?_, ?_⟩, ?_, ?_, ⟨s, hs, pk_us, pk_us⟩⟩
    · rw [pk_un (by omega), pk_un (by omega), pk_un (by omega), pk_us]
    · rw [pk_un (by omega), pk_un (by omega), pk_un (by omega), pk_us]
    · rw [pk_un (by omega), pk_un (by omega), pk_us, pk_un (by omega), pk_un (by omega), pk_us]
    · rw [pk_un (by omega), pk_us, pk_un (by omega), pk_us]
  · have q : ∀ (f : Nat → Int32) (x : Int32) (r : Nat), r < 4 → upd (upd (upd (upd f (4 * W) (nI a)) (4 * W + 1) y) (4 * W + 2) z) (4 * W + 3) x (4 * i + r) = f (4 * i + r) := by
      intro f x r hr
      rw [pk_un (by omega), pk_un (by omega), pk_un (by omega), pk_un (by omega)]
    have H := h i (by omega)
    refine ⟨?_, ?_, ?_, ?_⟩
    · rw [show 4 * i = 4 * i + 0 from rfl, q _ _ 0 (by omega), q _ _ 0 (by omega)]; exact H.1
    · rw [q _ _ 1 (by omega), q _ _ 1 (by omega)]; exact H.2.1
    · rw [q _ _ 2 (by omega), q _ _ 2 (by omega)]; exact H.2.2.1
    · rw [q _ _ 3 (by omega), q _ _ 3 (by omega)]; exact H.2.2.2
end
