/-! copying a run of cells -/
def ce_cp (f : Nat → Int32) (b n : Nat) (g : Nat → Int32) : Nat → Int32 := fun j => if b ≤ j ∧ j < b + n then g (j - b) else f j
theorem ce_cp0 (f : Nat → Int32) (b : Nat) (g : Nat → Int32) : ce_cp f b 0 g = f := by
  funext j; unfold ce_cp; rw [if_neg (by omega)]
theorem ce_cps (f : Nat → Int32) (b n : Nat) (g : Nat → Int32) : upd (ce_cp f b n g) (b + n) (g n) = ce_cp f b (n + 1) g := by
  funext j; unfold upd ce_cp
  by_cases h : j = b + n
  · subst h; rw [if_pos rfl, if_pos (by omega)]; exact congrArg g (by omega)
  · rw [if_neg h]
    by_cases h2 : b ≤ j ∧ j < b + n
    · rw [if_pos h2, if_pos (by omega)]
    · rw [if_neg h2, if_neg (by omega)]
theorem ce_cps0 (f : Nat → Int32) (n : Nat) (g : Nat → Int32) : upd (ce_cp f 0 n g) n (g n) = ce_cp f 0 (n + 1) g := by
  have h := ce_cps f 0 n g
  rw [Nat.zero_add] at h; exact h
theorem ce_cpi {f : Nat → Int32} {b n : Nat} {g : Nat → Int32} {j : Nat} (h1 : b ≤ j) (h2 : j < b + n) : ce_cp f b n g j = g (j - b) := if_pos ⟨h1, h2⟩
theorem ce_cpi' {f : Nat → Int32} {b n : Nat} {g : Nat → Int32} {j : Nat} (h2 : j < n) : ce_cp f b n g (b + j) = g j := by
  rw [ce_cpi (by omega) (by omega)]; exact congrArg g (by omega)
theorem ce_cpi0 {f : Nat → Int32} {n : Nat} {g : Nat → Int32} {j : Nat} (h2 : j < n) : ce_cp f 0 n g j = g j := by
  rw [ce_cpi (by omega) (by omega)]; exact congrArg g (by omega)
theorem ce_cpo {f : Nat → Int32} {b n : Nat} {g : Nat → Int32} {j : Nat} (h : j < b ∨ b + n ≤ j) : ce_cp f b n g j = f j := if_neg (by omega)
theorem ce_cpc {f : Nat → Int32} {b n : Nat} {g g' : Nat → Int32} (h : ∀ j, j < n → g j = g' j) : ce_cp f b n g = ce_cp f b n g' := by
  funext j; unfold ce_cp
  by_cases h2 : b ≤ j ∧ j < b + n
  · rw [if_pos h2, if_pos h2]; exact h _ (by omega)
  · rw [if_neg h2, if_neg h2]
/-! the pieces of the relation -/
def ce_BL (st : Nat → Int32) : Prop := ∀ a, a < 6 → ∃ m, m ≤ 1000000000 ∧ st (5 * a + 4) = nI m
def ce_WR (w : Int32) (f : Nat → Int32) : Prop := ∀ a c, a < 6 → c < 4 → f (4 * a + c) = if bt w (5 * a + c) = true then 1 else 0
def ce_PG (xop xnum yop ybs len : Nat → Int32) : Prop := ∀ a, a < 7 → ∃ L, L ≤ 24 ∧ len a = nI L ∧ ∀ i, i < L → (∃ k, k < 24 ∧ xop (24 * a + i) = nI k ∧ yop (24 * a + i) = nI k) ∧ xnum (24 * a + i) = ybs (24 * a + i)
def ce_MS (xms yms : Nat → Int32) (n : Nat) : Prop := ∀ i, i < n → (∃ a, a < 6 ∧ xms (4 * i) = nI a ∧ yms (4 * i) = nI a) ∧ xms (4 * i + 1) = yms (4 * i + 1) ∧ xms (4 * i + 2) = yms (4 * i + 2) ∧ (∃ s, s < 6 ∧ xms (4 * i + 3) = nI s ∧ yms (4 * i + 3) = nI s)
/-- an active frame: account, position, height, what it was called with -/
def ce_fa (len own ysf pos yat hgt ytp clr ycl amt yam arg yar : Nat → Int32) (i h : Nat) : Prop := ∃ a p L, a < 6 ∧ own i = nI a ∧ ysf i = nI a ∧ len a = nI L ∧ L ≤ 24 ∧ p < L ∧ pos i = nI p ∧ yat i = nI p ∧ hgt i = nI h ∧ ytp i = nI h ∧ clr i = ycl i ∧ amt i = yam i ∧ arg i = yar i
/-- what a frame needs to end: energy, and what is put back -/
def ce_fe (r0 : Int32) (st0 eg ygv el yel sev ecp sw mcp swm wcp srf rcp sst cps : Nat → Int32) (i e g w : Nat) : Prop := el i = nI e ∧ yel i = nI e ∧ eg i = nI g ∧ ygv i = nI g ∧ g ≤ 1000 ∧ (∃ s, s ≤ 20 ∧ sev i = nI s ∧ ecp i = nI s) ∧ sw i = nI w ∧ mcp i = nI w ∧ w ≤ 6 ∧ srf i = rcp i ∧ (∀ j, j < 30 → sst (30 * i + j) = cps (30 * i + j)) ∧ ce_BL (fun j => sst (30 * i + j)) ∧ ce_WR (swm i) (fun j => wcp (24 * i + j)) ∧ (i = 0 → srf i = r0 ∧ ∀ j, j < 30 → sst (30 * i + j) = st0 j)
def ce_fp (r0 : Int32) (st0 len own ysf pos yat hgt ytp clr ycl amt yam arg yar eg ygv el yel sev ecp sw mcp swm wcp srf rcp sst cps : Nat → Int32) (i h e g w : Nat) : Prop := ce_fa len own ysf pos yat hgt ytp clr ycl amt yam arg yar i h ∧ ce_fe r0 st0 eg ygv el yel sev ecp sw mcp swm wcp srf rcp sst cps i e g w
/-- the suspended frames below i: g was given to, w saved by the one above -/
def ce_FS (fp : Nat → Nat → Nat → Nat → Nat → Prop) : Nat → Nat → Nat → Nat → Prop
  | 0, _, _, q => q = 0
  | i + 1, g, w, q => ∃ h e g' w' q', fp i h e g' w' ∧ h ≤ 4 ∧ g ≤ e ∧ e ≤ g' ∧ w' ≤ w ∧ ce_FS fp i g' w' q' ∧ q = q' + (e - g)
theorem ce_FSc {fp fp' : Nat → Nat → Nat → Nat → Nat → Prop} : ∀ {i g w q : Nat}, (∀ j, j < i → ∀ h e g w, fp j h e g w → fp' j h e g w) → ce_FS fp i g w q → ce_FS fp' i g w q
  | 0, _, _, _, _, h => h
  | i + 1, _, _, _, H, ⟨h, e, g', w', q', a1, a2, a3, a4, a5, a6, a7⟩ => ⟨h, e, g', w', q', H i (by omega) _ _ _ _ a1, a2, a3, a4, a5, ce_FSc (fun j hj => H j (by omega)) a6, a7⟩
/-- what holds of everything but the frames, in a run: W messages wait -/
def ce_CO (ev wm : Int32) (xop xnum yop ybs len st ywm xms yms : Nat → Int32) (W : Nat) : Prop := (∃ E, E ≤ 20 ∧ ev = nI E) ∧ W ≤ 6 ∧ ce_PG xop xnum yop ybs len ∧ ce_BL st ∧ ce_WR wm ywm ∧ ce_MS xms yms W
/-! warm cells -/
theorem ce_bit (w : Int32) {n : Nat} (hn : n < 30) : (w >>> (nI n &&& 31)) &&& 1 = if bt w n = true then 1 else 0 := by
  apply b_ext
  intro i hi
  rw [b_and, b_sshr n (by omega) w hi]
  by_cases h0 : i = 0
  · subst h0
    rw [if_pos (by omega), Nat.add_zero]
    cases bt w n
    · decide
    · decide
  · have h1 : bt 1 i = false := by
      have : ∀ i, i < 32 → i ≠ 0 → bt 1 i = false := by decide +kernel
      exact this i hi h0
    rw [h1, Bool.and_false]
    by_cases hb : bt w n = true
    · rw [if_pos hb, h1]
    · rw [if_neg hb, b_0]
theorem ce_b_0 (i : Nat) : bt 0 i = false := BitVec.getLsbD_zero
theorem ce_sh1 : ∀ n, n < 30 → ∀ i, i < 30 → bt ((1 : Int32) <<< (nI n &&& 31)) i = decide (i = n) := by decide +kernel
theorem ce_set {w : Int32} {n : Nat} (hn : n < 30) {i : Nat} (hi : i < 30) : bt (w ||| ((1 : Int32) <<< (nI n &&& 31))) i = (bt w i || decide (i = n)) := by
  rw [b_or, ce_sh1 n hn i hi]
theorem ce_WRset {w : Int32} {f : Nat → Int32} (h : ce_WR w f) {a c : Nat} (ha : a < 6) (hc : c < 4) : ce_WR (w ||| ((1 : Int32) <<< (nI (5 * a + c) &&& 31))) (upd f (4 * a + c) 1) := by
  intro a' c' ha' hc'
  rw [ce_set (by omega) (by omega)]
  unfold upd
  by_cases e : 4 * a' + c' = 4 * a + c
  · rw [if_pos e, show decide (5 * a' + c' = 5 * a + c) = true from decide_eq_true (by omega), Bool.or_true]; rfl
  · rw [if_neg e, show decide (5 * a' + c' = 5 * a + c) = false from decide_eq_false (by omega), Bool.or_false]
    exact h a' c' ha' hc'
theorem ce_WR0 : ce_WR 0 (fun _ => 0) := by
  intro a c _ _
  rw [ce_b_0]; rfl
theorem ce_WRc {w : Int32} {f f' : Nat → Int32} (h : ce_WR w f) (e : ∀ j, j < 24 → f' j = f j) : ce_WR w f' := by
  intro a c ha hc
  rw [e _ (by omega)]; exact h a c ha hc
theorem ce_WRn {w : Int32} {f : Nat → Int32} (h : ce_WR w f) {j : Nat} (hj : j < 24) : vp_nar .boolean (f j) = f j := by
  have e := h (j / 4) (j % 4) (by omega) (by omega)
  rw [show 4 * (j / 4) + j % 4 = j by omega] at e
  rw [e]
  by_cases hb : bt w (5 * (j / 4) + j % 4) = true
  · rw [if_pos hb]; rfl
  · rw [if_neg hb]; rfl
/-! money -/
theorem ce_BLc {f f' : Nat → Int32} (h : ce_BL f) (e : ∀ j, j < 30 → f' j = f j) : ce_BL f' := by
  intro a ha
  rw [e _ (by omega)]; exact h a ha
theorem ce_BLcell {f : Nat → Int32} (h : ce_BL f) {a c : Nat} {x : Int32} (hc : c < 4) : ce_BL (upd f (5 * a + c) x) := by
  intro a' ha'
  rw [pk_un (by omega)]; exact h a' ha'
