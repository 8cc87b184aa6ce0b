section
variable {xlim xps xvn xkc ev wa wm rf dp ea er lr lu lc ylim yend yans yrest ybeg yres yused ycalls yver ykept : Int32} {xop xnum len st vers evl xms own clr amt arg eg el pos hgt stk sst sev sw swm srf yop ybs cps old bef ywm wcp ecp mcp rcp yms ysf ycl yam yar ygv yel yat ytp : Nat → Int32}
variable {r0 : Int32} {st0 : Nat → Int32}
set_option maxHeartbeats 1000000 in
theorem ce_step {t m W : Nat} {u : SX} {v : SY} (H : ce_R xlim xps xvn xkc lr lu ylim yres yused ycalls yver ykept xop xnum len vers yop ybs old bef r0 st0 t m W u v) : ∃ j u' v', (j = 1 ∨ j = 2) ∧ ce_XJ j u u' ∧ (∀ P : SY → Prop, P v' → wpY_step P v) ∧ ce_ST xlim xps xvn xkc lr lu ylim yres yused ycalls yver ykept xop xnum len vers yop ybs old bef r0 st0 t m W u' v' := by
  obtain ⟨ev, wm, rf, ea, er, lc, st, evl, xms, own, clr, amt, arg, eg, el, pos, hgt, stk, sst, sev, sw, swm, srf, rfl, yend, yans, yrest, cps, ywm, wcp, ecp, mcp, rcp, yms, ysf, ycl, yam, yar, ygv, yel, yat, ytp, rfl, h, e, g, w, q, rfl, ht, hh6, heg, hwW, ⟨⟨a, p, L, ha, h1, h2, h3, h4, hpL, hp1, hp2, hh1, hh2, h5, h6, h7⟩, hfe⟩, hS, hCO⟩ := H
  obtain ⟨L', hl', hlen', hprog⟩ := hCO.2.2.1 a (by omega)
  have eL : L = L' := (nI_eq (by omega) (by omega)).mp (h3.symm.trans hlen')
  subst eL
  obtain ⟨⟨k, hk, ho1, ho2⟩, hb⟩ := hprog p hpL
  obtain ⟨c, hc4, hc⟩ := pk_andE (xnum (24 * a + p)) (m := 3) 2 (by decide)
  by_cases hC' : e < ce_cost k (bt wm (5 * a + c))
  · exact st_out ht ha h1 h2 h3 h4 hpL hp1 hp2 hh1 hh2 hh6 h5 h6 h7 hfe heg hwW hS hCO ho1 ho2 rfl hb.symm hc hc4 hk hC'
  have hC := Nat.le_of_not_lt hC'
  by_cases hlo : h < ce_tkn k
  · exact st_low ht ha h1 h2 h3 h4 hpL hp1 hp2 hh1 hh2 hh6 h5 h6 h7 hfe heg hwW hS hCO ho1 ho2 rfl hb.symm hc hc4 hk hC hlo
  obtain ⟨h0, rfl⟩ : ∃ h0, h = h0 + ce_tkn k := ⟨h - ce_tkn k, by omega⟩
  by_cases hhi : 6 < h0 + ce_add k
  · exact st_hig ht ha h1 h2 h3 h4 hpL hp1 hp2 hh1 hh2 hh6 h5 h6 h7 hfe heg hwW hS hCO ho1 ho2 rfl hb.symm hc hc4 hk hC hhi
  have hadd := Nat.le_of_not_lt hhi
  by_cases n19 : k = 19
  · exact st_ret ht ha h1 h2 h3 h4 hpL hp1 hp2 hh1 hh2 hh6 h5 h6 h7 hfe heg hwW hS hCO ho1 ho2 rfl hb.symm hc hc4 hk hC n19
  by_cases n20 : k = 20
  · exact st_rvt ht ha h1 h2 h3 h4 hpL hp1 hp2 hh1 hh2 hh6 h5 h6 h7 hfe heg hwW hS hCO ho1 ho2 rfl hb.symm hc hc4 hk hC n20
  by_cases hn : ce_ny k (xnum (24 * a + p)) p (stk (6 * t + h0)) < 0 ∨ ¬ ce_ny k (xnum (24 * a + p)) p (stk (6 * t + h0)) < nI L
  · exact st_jmp ht ha h1 h2 h3 h4 hpL hp1 hp2 hh1 hh2 hh6 h5 h6 h7 hfe heg hwW hS hCO ho1 ho2 rfl hb.symm hc hc4 hk hC hadd (fun z => by subst z; have : ce_tkn 17 = 1 := rfl; omega) n19 n20 hn
  obtain ⟨p', hp', hn⟩ : ∃ p', p' < L ∧ ce_ny k (xnum (24 * a + p)) p (stk (6 * t + h0)) = nI p' := by
    rcases pk_ix (ce_ny k (xnum (24 * a + p)) p (stk (6 * t + h0))) (n := L) (by omega) with z | z | ⟨j, hj, z⟩
    · exact absurd (Or.inl z) hn
    · exact absurd (Or.inr (Int32.not_lt.mpr z)) hn
    · exact ⟨j, hj, z⟩
  clear hC' hlo hhi
  rcases ce_k24 hk with rfl | rfl | rfl | rfl | rfl | rfl | rfl | rfl | rfl | rfl | rfl | rfl | rfl | rfl | rfl | rfl | rfl | rfl | rfl | rfl | rfl | rfl | rfl | rfl
  · exact st_0 ht ha h1 h2 h3 h4 hpL hp1 hp2 hh1 hh2 hh6 h5 h6 h7 hfe heg hwW hS hCO ho1 ho2 rfl hb.symm hc hc4 hC hadd hn hp'
  · exact st_1 ht ha h1 h2 h3 h4 hpL hp1 hp2 hh1 hh2 hh6 h5 h6 h7 hfe heg hwW hS hCO ho1 ho2 rfl hb.symm hc hc4 hC hadd hn hp'
  · exact st_2 ht ha h1 h2 h3 h4 hpL hp1 hp2 hh1 hh2 hh6 h5 h6 h7 hfe heg hwW hS hCO ho1 ho2 rfl hb.symm hc hc4 hC hadd hn hp'
  · exact st_3 ht ha h1 h2 h3 h4 hpL hp1 hp2 hh1 hh2 hh6 h5 h6 h7 hfe heg hwW hS hCO ho1 ho2 rfl hb.symm hc hc4 hC hadd hn hp'
  · exact st_4 ht ha h1 h2 h3 h4 hpL hp1 hp2 hh1 hh2 hh6 h5 h6 h7 hfe heg hwW hS hCO ho1 ho2 rfl hb.symm hc hc4 hC hadd hn hp'
  · exact st_5 ht ha h1 h2 h3 h4 hpL hp1 hp2 hh1 hh2 hh6 h5 h6 h7 hfe heg hwW hS hCO ho1 ho2 rfl hb.symm hc hc4 hC hadd hn hp'
  · exact st_6 ht ha h1 h2 h3 h4 hpL hp1 hp2 hh1 hh2 hh6 h5 h6 h7 hfe heg hwW hS hCO ho1 ho2 rfl hb.symm hc hc4 hC hadd hn hp'
  · exact st_7 ht ha h1 h2 h3 h4 hpL hp1 hp2 hh1 hh2 hh6 h5 h6 h7 hfe heg hwW hS hCO ho1 ho2 rfl hb.symm hc hc4 hC hadd hn hp'
  · exact st_8 ht ha h1 h2 h3 h4 hpL hp1 hp2 hh1 hh2 hh6 h5 h6 h7 hfe heg hwW hS hCO ho1 ho2 rfl hb.symm hc hc4 hC hadd hn hp'
  · exact st_9 ht ha h1 h2 h3 h4 hpL hp1 hp2 hh1 hh2 hh6 h5 h6 h7 hfe heg hwW hS hCO ho1 ho2 rfl hb.symm hc hc4 hC hadd hn hp'
  · exact st_10 ht ha h1 h2 h3 h4 hpL hp1 hp2 hh1 hh2 hh6 h5 h6 h7 hfe heg hwW hS hCO ho1 ho2 rfl hb.symm hc hc4 hC hadd hn hp'
  · exact st_11 ht ha h1 h2 h3 h4 hpL hp1 hp2 hh1 hh2 hh6 h5 h6 h7 hfe heg hwW hS hCO ho1 ho2 rfl hb.symm hc hc4 hC hadd hn hp'
  · exact st_12 ht ha h1 h2 h3 h4 hpL hp1 hp2 hh1 hh2 hh6 h5 h6 h7 hfe heg hwW hS hCO ho1 ho2 rfl hb.symm hc hc4 hC hadd hn hp'
  · exact st_13 ht ha h1 h2 h3 h4 hpL hp1 hp2 hh1 hh2 hh6 h5 h6 h7 hfe heg hwW hS hCO ho1 ho2 rfl hb.symm hc hc4 hC hadd hn hp'
  · exact st_14 ht ha h1 h2 h3 h4 hpL hp1 hp2 hh1 hh2 hh6 h5 h6 h7 hfe heg hwW hS hCO ho1 ho2 rfl hb.symm hc hc4 hC hadd hn hp'
  · exact st_15 ht ha h1 h2 h3 h4 hpL hp1 hp2 hh1 hh2 hh6 h5 h6 h7 hfe heg hwW hS hCO ho1 ho2 rfl hb.symm hc hc4 hC hadd hn hp'
  · exact st_16 ht ha h1 h2 h3 h4 hpL hp1 hp2 hh1 hh2 hh6 h5 h6 h7 hfe heg hwW hS hCO ho1 ho2 rfl hb.symm hc hc4 hC hadd hn hp'
  · exact st_17 ht ha h1 h2 h3 h4 hpL hp1 hp2 hh1 hh2 hh6 h5 h6 h7 hfe heg hwW hS hCO ho1 ho2 rfl hb.symm hc hc4 hC hadd hn hp'
  · rcases pk_ix (stk (6 * t + h0)) (n := 6) (by decide) with z | z | ⟨j, hj, z⟩
    · exact st_18n ht ha h1 h2 h3 h4 hpL hp1 hp2 hh1 hh2 hh6 h5 h6 h7 hfe heg hwW hS hCO ho1 ho2 rfl hb.symm hc hc4 hC hn hp' (Or.inl z)
    · exact st_18n ht ha h1 h2 h3 h4 hpL hp1 hp2 hh1 hh2 hh6 h5 h6 h7 hfe heg hwW hS hCO ho1 ho2 rfl hb.symm hc hc4 hC hn hp' (Or.inr z)
    · obtain ⟨L2, hl2, hlen2, _⟩ := hCO.2.2.1 j (by omega)
      by_cases hD : ce_DN st (t + 1) (nI a) j (stk (6 * t + h0 + 1))
      · exact st_18d ht ha h1 h2 h3 h4 hpL hp1 hp2 hh1 hh2 hh6 h5 h6 h7 hfe heg hwW hS hCO ho1 ho2 rfl hb.symm hc hc4 hC hn hp' hj z hD
      · by_cases hz : L2 = 0
        · subst hz
          exact st_18e ht ha h1 h2 h3 h4 hpL hp1 hp2 hh1 hh2 hh6 h5 h6 h7 hfe heg hwW hS hCO ho1 ho2 rfl hb.symm hc hc4 hC hn hp' hj z hD hlen2
        · exact st_18r ht ha h1 h2 h3 h4 hpL hp1 hp2 hh1 hh2 hh6 h5 h6 h7 hfe heg hwW hS hCO ho1 ho2 rfl hb.symm hc hc4 hC hn hp' hj z hD hlen2 hl2 (by omega)
  · exact absurd rfl n19
  · exact absurd rfl n20
  · obtain ⟨E, hE, hev⟩ := hCO.1
    by_cases hE2 : E = 20
    · exact st_21n ht ha h1 h2 h3 h4 hpL hp1 hp2 hh1 hh2 hh6 h5 h6 h7 hfe heg hwW hS hCO ho1 ho2 rfl hb.symm hc hc4 hC hadd hn hp' hev hE2
    · exact st_21y ht ha h1 h2 h3 h4 hpL hp1 hp2 hh1 hh2 hh6 h5 h6 h7 hfe heg hwW hS hCO ho1 ho2 rfl hb.symm hc hc4 hC hadd hn hp' hev (by omega)
  · exact st_22 ht ha h1 h2 h3 h4 hpL hp1 hp2 hh1 hh2 hh6 h5 h6 h7 hfe heg hwW hS hCO ho1 ho2 rfl hb.symm hc hc4 hC hadd hn hp'
  · have hW6 := hCO.2.1
    by_cases hW2 : W = 6
    · exact st_23n ht ha h1 h2 h3 h4 hpL hp1 hp2 hh1 hh2 hh6 h5 h6 h7 hfe heg hwW hS hCO ho1 ho2 rfl hb.symm hc hc4 hC hadd hn hp' (Or.inl hW2)
    · rcases pk_ix (stk (6 * t + h0)) (n := 6) (by decide) with z | z | ⟨j, hj, z⟩
      · exact st_23n ht ha h1 h2 h3 h4 hpL hp1 hp2 hh1 hh2 hh6 h5 h6 h7 hfe heg hwW hS hCO ho1 ho2 rfl hb.symm hc hc4 hC hadd hn hp' (Or.inr (Or.inl z))
      · exact st_23n ht ha h1 h2 h3 h4 hpL hp1 hp2 hh1 hh2 hh6 h5 h6 h7 hfe heg hwW hS hCO ho1 ho2 rfl hb.symm hc hc4 hC hadd hn hp' (Or.inr (Or.inr z))
      · exact st_23y ht ha h1 h2 h3 h4 hpL hp1 hp2 hh1 hh2 hh6 h5 h6 h7 hfe heg hwW hS hCO ho1 ho2 rfl hb.symm hc hc4 hC hadd hn hp' (by omega) hj z
def ce_YL (post : SY → Prop) (n : Nat) (b : Int32) (v : SY) : Prop := match v with
  | (ylim, ev, wa, rf, dp, yend, yans, yrest, ybeg, yres, yused, ycalls, yver, ykept, yop, ybs, len, st, cps, old, bef, ywm, wcp, ecp, mcp, rcp, evl, yms, ysf, ycl, yam, yar, ygv, yel, yat, ytp, stk) => wY_perform_18 post n b (ylim) (ev) (wa) (rf) (dp) (yend) (yans) (yrest) (ybeg) (yres) (yused) (ycalls) (yver) (ykept) (yop) (ybs) (len) (st) (cps) (old) (bef) (ywm) (wcp) (ecp) (mcp) (rcp) (evl) (yms) (ysf) (ycl) (yam) (yar) (ygv) (yel) (yat) (ytp) (stk)
theorem ce_xlF {post : Int32 → SX → Prop} {n e W : Nat} {k : Int32} {u : SX} {v : SY} (H : ce_F xlim xps xvn xkc lr lu ylim yres yused ycalls yver ykept xop xnum len vers yop ybs old bef r0 st0 e W u v) (hp : post (nI e) u) : ce_XL post (n + 1) k u := by
  obtain ⟨ev, wm, rf, ea, er, lc, st, evl, xms, own, clr, amt, arg, eg, el, pos, hgt, stk, sst, sev, sw, swm, srf, rfl, cps, ywm, wcp, ecp, mcp, rcp, yms, ysf, ycl, yam, yar, ygv, yel, yat, ytp, rfl, hel, hr⟩ := H
  unfold ce_XL
  rw [← hel] at hp
  exact br_c (fun _ => hp) (fun _ => br_t (by decide) hp)
theorem ce_ylS {post : SY → Prop} {n t m W : Nat} {u : SX} {v v' : SY} (hY : ∀ P : SY → Prop, P v' → wpY_step P v) (H : ce_R xlim xps xvn xkc lr lu ylim yres yused ycalls yver ykept xop xnum len vers yop ybs old bef r0 st0 t m W u v') (hp : ce_YL post n 1 v') : ce_YL post (n + 1) 1 v := by
  obtain ⟨ev, wm, rf, ea, er, lc, st, evl, xms, own, clr, amt, arg, eg, el, pos, hgt, stk, sst, sev, sw, swm, srf, rfl, yend, yans, yrest, cps, ywm, wcp, ecp, mcp, rcp, yms, ysf, ycl, yam, yar, ygv, yel, yat, ytp, rfl, h, e, g, w, q, rfl, ht, hr⟩ := H
  obtain ⟨a1, a2, a3, a4, a5, a6, a7, a8, a9, a10, a11, a12, a13, a14, a15, a16, a17, a18, a19, a20, a21, a22, a23, a24, a25, a26, a27, a28, a29, a30, a31, a32, a33, a34, a35, a36, a37⟩ := v
  exact br_f (by decide) (hY _ (br_f (nI_nle (by omega) (by omega)) hp))
theorem ce_ylF {post : SY → Prop} {n e W : Nat} {u : SX} {v v' : SY} (hY : ∀ P : SY → Prop, P v' → wpY_step P v) (H : ce_F xlim xps xvn xkc lr lu ylim yres yused ycalls yver ykept xop xnum len vers yop ybs old bef r0 st0 e W u v') (hp : post v') : ce_YL post (n + 2) 1 v := by
  obtain ⟨ev, wm, rf, ea, er, lc, st, evl, xms, own, clr, amt, arg, eg, el, pos, hgt, stk, sst, sev, sw, swm, srf, rfl, cps, ywm, wcp, ecp, mcp, rcp, yms, ysf, ycl, yam, yar, ygv, yel, yat, ytp, rfl, hr⟩ := H
  obtain ⟨a1, a2, a3, a4, a5, a6, a7, a8, a9, a10, a11, a12, a13, a14, a15, a16, a17, a18, a19, a20, a21, a22, a23, a24, a25, a26, a27, a28, a29, a30, a31, a32, a33, a34, a35, a36, a37⟩ := v
  exact br_f (by decide) (hY _ (br_t (by decide) (br_t rfl hp)))
theorem ce_run : ∀ (M : Nat) {t m W : Nat} {u : SX} {v : SY}, ce_R xlim xps xvn xkc lr lu ylim yres yused ycalls yver ykept xop xnum len vers yop ybs old bef r0 st0 t m W u v → 2 * m + t < M → ∃ e' W' u' v', ce_F xlim xps xvn xkc lr lu ylim yres yused ycalls yver ykept xop xnum len vers yop ybs old bef r0 st0 e' W' u' v' ∧ e' + W' ≤ m + W ∧ (∀ (post : Int32 → SX → Prop) (n k : Nat), k + 2 * M ≤ 1000000 → 2 * M < n → post (nI e') u' → ce_XL post n (nI k) u) ∧ (∀ (post : SY → Prop) (n : Nat), M < n → post v' → ce_YL post n 1 v) := by
  intro M
  induction M with
  | zero => intro t m W u v _ h; omega
  | succ M ih =>
    intro t m W u v H hM
    obtain ⟨j, u1, v1, hj, hX, hY, hST⟩ := ce_step H
    rcases hST with ⟨t', m', W', hR, hlt, hmw⟩ | ⟨e', W', hF, hmw⟩
    · obtain ⟨e2, W2, u2, v2, hF2, hw2, hx2, hy2⟩ := ih hR (by omega)
      refine ⟨e2, W2, u2, v2, hF2, by omega, ?_, ?_⟩
      · intro post n k hk hn hp
        obtain ⟨n', rfl⟩ : ∃ n', n = n' + j := ⟨n - j, by omega⟩
        exact hX post n' k (by omega) (hx2 post n' (k + j) (by omega) (by omega) hp)
      · intro post n hn hp
        obtain ⟨n', rfl⟩ : ∃ n', n = n' + 1 := ⟨n - 1, by omega⟩
        exact ce_ylS hY hR (hy2 post n' (by omega) hp)
    · refine ⟨e', W', u1, v1, hF, hmw, ?_, ?_⟩
      · intro post n k hk hn hp
        obtain ⟨n', rfl⟩ : ∃ n', n = n' + 1 + j := ⟨n - j - 1, by omega⟩
        exact hX post (n' + 1) k (by omega) (ce_xlF hF hp)
      · intro post n hn hp
        obtain ⟨n', rfl⟩ : ∃ n', n = n' + 2 := ⟨n - 2, by omega⟩
        exact ce_ylF hY hF hp
end
